/-! the law: its loop, its start -/
theorem law_end {p : Program} {l : Launch} {e : Env} {s : State} {m : MethodId} {below : List Frame} {meth : Method} {c : Code} {b pc ce sl : Nat} {D : va_G} {ws : va_W} {lv : List (Nat × Value)} (hx : p.tables.exec = Jvm.exec) (hb : c.code = code) (hr : meth.sig.returnType = ret) (hlocks : meth.locks = false) (h1 : ce ≤ 600000) (h2 : sl ≤ 7302250) (d : decode code pc = .ok (.ireturn, 1)) : gw_G (p, l, e, room_1, s, m, #[Value.ref b], below, meth, c, lw_Z below #[Value.ref b] s, fun q => s.heap.size ≤ q) D 4 ws ce sl pc lv [.int 1] := by
  intro H locs ls hP hD hS hl
  refine va_forget (fun q hq => hS.2.2 q hq) ?_
  refine W.widen h1 h2 ?_
  exact lw_ret hx hb hr hlocks d
set_option maxRecDepth 100000 in
set_option maxHeartbeats 4000000 in
theorem law_loop {g : gw_Ctx} {v : tX_V} {b L : Nat} {xs : Nat → Int32} {aX aM : Nat → Nat} (C : lw_C g v b L xs) (hL : L ≤ 2048) (hend : ∀ (ws : va_W) (lv : List (Nat × Value)), gw_G g v.1 4 ws 166 1667 864 lv [.int 1]) : ∀ (k i : Nat) (U : sU) (σ τ : ts_S), L + 4 ≤ i + k → i ≤ L + 4 → rX σ U → rM τ U → gw_G g v.1 4 (ts_wd (tM_w (setAd v aM)) τ ++ ts_wd (tX_w (setAd v aX)) σ) 166 1667 18 [(3, .int (nI i)), (2, .ref (aM 0)), (1, .ref (aX 0)), (0, .ref b)] [] := by
  intro k
  induction k with
  | zero =>
    intro i U σ τ h1 h2 hX hM
    refine gw_iload_n C.1 dL_law_18 0 rfl ?_
    refine gw_aload_n C.1 dL_law_19 3 rfl ?_
    refine lw_slen C dL_law_20 ?_
    refine gw_iconst C.1 dL_law_21 (v := nI 4) (by decide) ?_
    refine gw_isub C.1 dL_law_22 ?_
    refine gw_icmp_gt 863 C.1 dL_law_23 (by decide) (fun _ => ?_) (fun c => absurd ?_ c)
    · refine gw_iconst C.1 dL_law_863 (v := 1) (by decide) ?_
      exact hend _ _
    · rw [Int32.lt_iff_toInt_lt, pk_sub_toInt (by omega) (by omega), nI_toInt (by omega)]
      omega
  | succ k ih =>
    intro i U σ τ h1 h2 hX hM
    refine gw_iload_n C.1 dL_law_18 0 rfl ?_
    refine gw_aload_n C.1 dL_law_19 3 rfl ?_
    refine lw_slen C dL_law_20 ?_
    refine gw_iconst C.1 dL_law_21 (v := nI 4) (by decide) ?_
    refine gw_isub C.1 dL_law_22 ?_
    refine gw_icmp_gt 863 C.1 dL_law_23 (by decide) (fun _ => ?_) (fun c => ?_)
    · refine gw_iconst C.1 dL_law_863 (v := 1) (by decide) ?_
      exact hend _ _
    have hi3 : i + 3 < L := by
      rw [Int32.lt_iff_toInt_lt, pk_sub_toInt (by omega) (by omega), nI_toInt (by omega)] at c
      omega
    have hn : lw_N g v aX aM b i := by
      intro U' σ' τ' hX' hM'
      refine gw_iinc C.1 dL_law_857 0 rfl (v := nI (i + 4)) (nI_add i 4) (by decide) (lv' := [(3, .int (nI (i + 4))), (2, .ref (aM 0)), (1, .ref (aX 0)), (0, .ref b)]) rfl ?_
      refine gw_goto 18 C.1 dL_law_860 (by decide) ?_
      exact ih (i + 4) U' σ' τ' (by omega) (by omega) hX' hM'
    refine gw_aload_n C.1 dL_law_26 3 rfl ?_
    refine gw_iload_n C.1 dL_law_27 0 rfl ?_
    refine lw_sld C (vp_in_nI (by omega) (by omega)) dL_law_28 ?_
    refine gw_bipush C.1 dL_law_29 (v := 31) (by decide) ?_
    refine gw_iand C.1 dL_law_31 ?_
    obtain ⟨j, hj0, hj⟩ := pk_andE (xs (nI i).toNatClampNeg) (m := 31) 5 (by decide)
    match j, hj0, hj with
    | 0, _, hj => exact gw_tableIn 156 C.1 dL_law_32 hj (by decide) (by decide) rfl (by decide) (lc_0 C hi3 hL hX hM hn)
    | 1, _, hj => exact gw_tableIn 179 C.1 dL_law_32 hj (by decide) (by decide) rfl (by decide) (lc_1 C hi3 hL hX hM hn)
    | 2, _, hj => exact gw_tableIn 192 C.1 dL_law_32 hj (by decide) (by decide) rfl (by decide) (lc_2 C hi3 hL hX hM hn)
    | 3, _, hj => exact gw_tableIn 205 C.1 dL_law_32 hj (by decide) (by decide) rfl (by decide) (lc_3 C hi3 hL hX hM hn)
    | 4, _, hj => exact gw_tableIn 218 C.1 dL_law_32 hj (by decide) (by decide) rfl (by decide) (lc_4 C hi3 hL hX hM hn)
    | 5, _, hj => exact gw_tableIn 251 C.1 dL_law_32 hj (by decide) (by decide) rfl (by decide) (lc_5 C hi3 hL hX hM hn)
    | 6, _, hj => exact gw_tableIn 284 C.1 dL_law_32 hj (by decide) (by decide) rfl (by decide) (lc_6 C hi3 hL hX hM hn)
    | 7, _, hj => exact gw_tableIn 317 C.1 dL_law_32 hj (by decide) (by decide) rfl (by decide) (lc_7 C hi3 hL hX hM hn)
    | 8, _, hj => exact gw_tableIn 340 C.1 dL_law_32 hj (by decide) (by decide) rfl (by decide) (lc_8 C hi3 hL hX hM hn)
    | 9, _, hj => exact gw_tableIn 363 C.1 dL_law_32 hj (by decide) (by decide) rfl (by decide) (lc_9 C hi3 hL hX hM hn)
    | 10, _, hj => exact gw_tableIn 386 C.1 dL_law_32 hj (by decide) (by decide) rfl (by decide) (lc_10 C hi3 hL hX hM hn)
    | 11, _, hj => exact gw_tableIn 409 C.1 dL_law_32 hj (by decide) (by decide) rfl (by decide) (lc_11 C hi3 hL hX hM hn)
    | 12, _, hj => exact gw_tableIn 422 C.1 dL_law_32 hj (by decide) (by decide) rfl (by decide) (lc_12 C hi3 hL hX hM hn)
    | 13, _, hj => exact gw_tableIn 465 C.1 dL_law_32 hj (by decide) (by decide) rfl (by decide) (lc_13 C hi3 hL hX hM hn)
    | 14, _, hj => exact gw_tableIn 488 C.1 dL_law_32 hj (by decide) (by decide) rfl (by decide) (lc_14 C hi3 hL hX hM hn)
    | 15, _, hj => exact gw_tableIn 511 C.1 dL_law_32 hj (by decide) (by decide) rfl (by decide) (lc_15 C hi3 hL hX hM hn)
    | 16, _, hj => exact gw_tableIn 544 C.1 dL_law_32 hj (by decide) (by decide) rfl (by decide) (lc_16 C hi3 hL hX hM hn)
    | 17, _, hj => exact gw_tableIn 567 C.1 dL_law_32 hj (by decide) (by decide) rfl (by decide) (lc_17 C hi3 hL hX hM hn)
    | 18, _, hj => exact gw_tableIn 610 C.1 dL_law_32 hj (by decide) (by decide) rfl (by decide) (lc_18 C hi3 hL hX hM hn)
    | 19, _, hj => exact gw_tableIn 653 C.1 dL_law_32 hj (by decide) (by decide) rfl (by decide) (lc_19 C hi3 hL hX hM hn)
    | 20, _, hj => exact gw_tableIn 666 C.1 dL_law_32 hj (by decide) (by decide) rfl (by decide) (lc_20 C hi3 hL hX hM hn)
    | 21, _, hj => exact gw_tableIn 699 C.1 dL_law_32 hj (by decide) (by decide) rfl (by decide) (lc_21 C hi3 hL hX hM hn)
    | 22, _, hj => exact gw_tableIn 722 C.1 dL_law_32 hj (by decide) (by decide) rfl (by decide) (lc_22 C hi3 hL hX hM hn)
    | 23, _, hj => exact gw_tableIn 765 C.1 dL_law_32 hj (by decide) (by decide) rfl (by decide) (lc_23 C hi3 hL hX hM hn)
    | 24, _, hj => exact gw_tableIn 808 C.1 dL_law_32 hj (by decide) (by decide) rfl (by decide) (lc_24 C hi3 hL hX hM hn)
    | 25, _, hj => exact gw_tableIn 821 C.1 dL_law_32 hj (by decide) (by decide) rfl (by decide) (lc_25 C hi3 hL hX hM hn)
    | 26, _, hj => exact gw_tableIn 834 C.1 dL_law_32 hj (by decide) (by decide) rfl (by decide) (lc_26 C hi3 hL hX hM hn)
    | j + 27, hj0, hj => exact gw_tableOut 857 C.1 dL_law_32 (Or.inr (by rw [hj, nI_toInt (by omega)]; omega)) (by decide) (hn U σ τ hX hM)
/-- a call of a constructor that wants more of the start -/
theorem gw_callIE {g : gw_Ctx} {D : va_G} {tys : List (ClassId × FieldType)} {cc : ByteArray} {nL : Nat} {own : String} {wr wc : va_W} {ce sl pc : Nat} {lv : List (Nat × Value)} {st st0 As : List Value} {y : MethodName} {cy : ByteArray} {ny index na : Nat} {R' : Room} {b : Nat} {E : Nat → State → Prop} {post : va_W → Prop} (X : gw_X g D tys cc nL own) (hA : ∀ q, (gw_s g).heap.size ≤ q → gw_A g q) (hM : gw_MvE g.2.1 y (Cond.code y cy ny none) R' D tys (.ref b :: As) wc E post) (hEb : ∀ (sz : Nat) (U : State) (f : JFrame) (mk : _) (z : Array Value), E sz U → E sz (U.calling f mk z)) (hE : ∀ (H : Heap) (locs : List Loc), va_D (gw_A g) (wr ++ wc) → va_S (gw_A g) (gw_s g).heap H locs → ∀ U : State, U.heap = H → (gw_s g).WarmedH U.vm → E H.size U) (ho : ts_ok y na) (hnm : y.name = "<init>") (h1 : Cond.methodLink own index y ∈ ts_TB) (h2 : Cond.initialized y.cls ∈ ts_TB) (h3 : Cond.code y cy ny none ∈ ts_TB) (h4 : Cond.instanceMethod y ∈ ts_TB) (hR1 : R'.frames + 1 ≤ (gw_R g).frames) (hR2 : 8 + (ny + 11) + R'.locals ≤ (gw_R g).locals) (hce : ce + R'.cells ≤ (gw_R g).cells) (hsl : sl + R'.slots ≤ (gw_R g).slots) (hna : As.length = na) (hst : st0 = As.reverse ++ .ref b :: st) (hw : (st.map fun v => v.category).sum ≤ 8) (d : decode cc pc = .ok (.invokespecial index, 3))
    (kk : ∀ w1 : va_W, post w1 → gw_G g D nL (wr ++ w1) (ce + R'.cells) (sl + R'.slots) (pc + 3) lv st) : gw_G g D nL (wr ++ wc) ce sl pc lv st0 := by
  intro H locs ls hP hD hS hl
  subst hst
  have hPc : va_P D vwCl wc H := va_P_mem.mpr fun q hq => va_P_mem.mp hP q (List.mem_append_right _ hq)
  obtain ⟨N0, A0⟩ := va_D_mem.mp hD
  rw [List.map_append, List.nodup_append] at N0
  have hDc : va_D (fun _ => True) wc := va_D_mem.mpr ⟨N0.2.1, fun _ _ => trivial⟩
  have hF : ∀ q, va_A wc H.size q → gw_A g q := by
    rintro q (⟨k, e, h⟩ | h)
    · exact A0 (q, e) (List.mem_append_right _ (List.mem_of_getElem? h))
    · exact hA q (Nat.le_trans hS.1 h)
  refine va_callv (va_runI (As := As) (rest := st) (n := na) (bytes := cy) (maxL := ny) (Ts := ts_TB) (nL := nL) ⟨X.hx, X.hb, X.hml, X.hown, X.hts⟩ (hM H.size) ⟨callB_of na X.hts (ts_goodIn' h3) rfl rfl rfl (X.hts _ h2) (X.hts _ h1) ho ⟨hR1, hR2⟩, hnm, X.hts _ h4⟩ ⟨?_, fun U hU hW => ⟨rfl, by rw [hU], X.at hU hW hPc, hDc, hE H locs hD hS U hU hW⟩⟩ rfl hna hl.1 rfl (lv_room hw) d ⟨hce, hsl⟩) hS (fun q _ h => hF q h) hF (fun u t H1 locs1 ht hvm hpost hB hz1 hk1 hS1 => ?_)
  · intro a U f mk q
    exact ⟨q.1, q.2.1, ⟨q.2.2.1.1, va_K.moved (u := U) (U := U.calling f mk a) (Vm.Alike.refl U.vm) q.2.2.1.2.1, ts_NW_same (s := U) (U := U.calling f mk a) rfl q.2.2.1.2.2.1, va_AO.moved (u := U) (U := U.calling f mk a) (Vm.Alike.refl U.vm) q.2.2.1.2.2.2⟩, q.2.2.2.1, hEb _ _ _ _ _ q.2.2.2.2⟩
  obtain ⟨hP2, hD2⟩ := gw_join hP hD (B := va_A wc H.size) (fun q hq z => by
    rcases z with ⟨k, e, h⟩ | h
    · exact ⟨e, List.mem_of_getElem? h⟩
    · omega) hk1 hF (by rw [← ht]; exact hB.1.1) hB.2
  exact kk u hpost H1 locs1 ls hP2 hD2 hS1 hl
theorem x9E_b (b a0 b0 : Nat) (wa : va_W) (sz : Nat) (U : State) (f : JFrame) (mk) (z : Array Value) (h : x9E b a0 b0 wa sz U) : x9E b a0 b0 wa sz (U.calling f mk z) :=
  ⟨vk_R.same (u := U) (U := U.calling f mk z) rfl h.1, st_E.moved (u := U) (U := U.calling f mk z) (Vm.Alike.refl U.vm) h.2⟩
theorem arr_K {s : State} {args : Array Value} {ty : FieldType} (h : (Cond.arrayClass ty).before args s = true) : ∃ c : ClassId, ArrOfT s c ty ∧ s.vm.findClass ("[" ++ ty.toString) = some c := by
  obtain ⟨c, k, comp, h1, h2, h3⟩ := Cond.arrayClass_spec h
  exact ⟨c, fun N z => ⟨(fun k h => by cases h), k, h2, comp, h3⟩, h1⟩
theorem arr_Q {s : State} {args : Array Value} {C : String} (h : (Cond.arrayOver (.object C)).before args s = true) : ∃ c : ClassId, ArrOfT s c (.object C) ∧ va_RA s c (.object C) := by
  obtain ⟨comp, c, k, h1, h2, h3, h4, h5⟩ := Cond.arrayOver_spec h
  exact ⟨c, fun N z => ⟨(fun k h => by cases h), k, h3, comp, h4⟩, k, comp, h3, h4, h1, h5⟩
theorem law_classes {s : State} {args : Array Value} (hts : ∀ w ∈ ts_TB, w.before args s = true) : ∃ D : va_G, ∀ (k : Nat) (q : vw_C), vwCl[k]? = some q → u_Kn s q.1 q.2.1 q.2.2 (D.1 k) (D.2 k) := by
  have h : ∀ k : Nat, ∃ d : ClassId × (Nat → Nat), ∀ q : vw_C, vwCl[k]? = some q → u_Kn s q.1 q.2.1 q.2.2 d.1 d.2 := by
    intro k
    match k with
    | 0 => obtain ⟨c, i, h⟩ := u_known hts tw_X0 (hts _ kw_332); exact ⟨(c, i), fun q hq => by cases hq; exact h⟩
    | 1 => obtain ⟨c, i, h⟩ := u_known hts tw_X1 (hts _ kw_214); exact ⟨(c, i), fun q hq => by cases hq; exact h⟩
    | 2 => obtain ⟨c, i, h⟩ := u_known hts tw_X2 (hts _ kw_110); exact ⟨(c, i), fun q hq => by cases hq; exact h⟩
    | 3 => obtain ⟨c, i, h⟩ := u_known hts tw_X3 (hts _ kw_259); exact ⟨(c, i), fun q hq => by cases hq; exact h⟩
    | 4 => obtain ⟨c, i, h⟩ := u_known hts tw_X4 (hts _ kw_239); exact ⟨(c, i), fun q hq => by cases hq; exact h⟩
    | 5 => obtain ⟨c, i, h⟩ := u_known hts tw_X5 (hts _ kw_314); exact ⟨(c, i), fun q hq => by cases hq; exact h⟩
    | 6 => obtain ⟨c, i, h⟩ := u_known hts tw_X6 (hts _ kw_86); exact ⟨(c, i), fun q hq => by cases hq; exact h⟩
    | 7 => obtain ⟨c, i, h⟩ := u_known hts tw_X7 (hts _ kw_289); exact ⟨(c, i), fun q hq => by cases hq; exact h⟩
    | 8 => obtain ⟨c, i, h⟩ := u_known hts tw_X8 (hts _ kw_108); exact ⟨(c, i), fun q hq => by cases hq; exact h⟩
    | 9 => obtain ⟨c, i, h⟩ := u_known hts tw_X9 (hts _ kw_78); exact ⟨(c, i), fun q hq => by cases hq; exact h⟩
    | 10 => obtain ⟨c, i, h⟩ := u_known hts tw_X10 (hts _ kw_877); exact ⟨(c, i), fun q hq => by cases hq; exact h⟩
    | k + 11 => exact ⟨(0, fun _ => 0), fun q hq => by simp at hq⟩
  obtain ⟨d, hd⟩ := Classical.axiomOfChoice h
  exact ⟨(fun k => (d k).1, fun k => (d k).2), fun k q hq => hd k q hq⟩
theorem tb_225 : Cond.arrayOver (.object "TowerService$Tower") ∈ lw_tbl := List.mem_of_getElem? (i := 225) (by decide +kernel)
theorem tb_349 : Cond.stringRef "TowerService" 86 st_tx ∈ lw_tbl := List.mem_of_getElem? (i := 349) (by decide +kernel)
theorem tb_359 : Cond.laysStatic "java/lang/String" "COMPACT_STRINGS" "Z" ∈ lw_tbl := List.mem_of_getElem? (i := 359) (by decide +kernel)
theorem tb_375 : Cond.laysStatic "jdk/internal/util/Preconditions" "SIOOBE_FORMATTER" "Ljava/util/function/BiFunction;" ∈ lw_tbl := List.mem_of_getElem? (i := 375) (by decide +kernel)
def st_tm : Term := Term.string "TowerService" 86
set_option maxRecDepth 100000 in
theorem st_el : ∀ j, j < 88 → Cond.eq (.elem (.field st_tm "java/lang/String" "value" "[B") (.int (Int32.ofNat j))) (.int (st_by.getD j 0)) ∈ flatC (Jvm.Cond.and given_1 narrow_1) := by decide +kernel
set_option maxRecDepth 100000 in
set_option maxHeartbeats 4000000 in
theorem law_text {s : State} {b : Nat} (hts : ∀ w ∈ lw_tbl, w.before #[Value.ref b] s = true) (hgv : (Jvm.Cond.and given_1 narrow_1).before #[Value.ref b] s = true) : ∃ a0 b0 : Nat, vk_R RX9 86 st_tx a0 s ∧ st_E a0 b0 (fun q => s.heap.size ≤ q) s s.heap := by
  have hs := flat_of_before _ hgv
  have hA : ∀ a : Nat, a < s.heap.size → ¬ (fun q => s.heap.size ≤ q) a := fun a h => Nat.not_le.mpr h
  obtain ⟨adK, adV, hS, hev⟩ := vk_Sof (args := #[Value.ref b]) (s := s) (N := 1) (tm := fun _ => st_tm) (len := [88]) (byt := [st_by]) (A := fun q => s.heap.size ≤ q) (fun i hi => by rw [show i = 0 by omega]; decide) (fun i hi => hs _ (by decide +kernel)) (fun i hi => hs _ (by decide +kernel)) (fun i hi => hs _ (by decide +kernel)) (fun i hi => by rw [show i = 0 by omega]; exact hs _ (by decide +kernel)) (fun i hi j hj => by
    have e : i = 0 := by omega
    subst e
    exact hs _ (st_el j hj)) (fun i j hi hj h => absurd (by omega) h) hA
  have h0 := hS.1 0 (by omega)
  refine ⟨adK 0, adV 0, vk_R.of (hts _ tb_349) (hev 0 (by omega)), h0.1, h0.2.1, h0.2.2.1, h0.2.2.2, va_Zof (hts _ tb_359) (hts _ (ts_tbl _ kw_70)) (va_eqi (hs _ (by decide +kernel))) hA, va_Zqof (hts _ tb_375) (hts _ (ts_tbl _ kw_72)) (hs _ (by decide +kernel)) hA⟩
theorem okL_X9_init : ts_ok yX9_init 0 := ⟨by decide +kernel, by decide +kernel, by decide +kernel⟩
theorem okL_X10_init : ts_ok yX10_init 0 := ⟨by decide +kernel, by decide +kernel, by decide +kernel⟩
set_option maxRecDepth 100000 in
set_option maxHeartbeats 4000000 in
theorem whole_start {p : Program} {e : Env} {s : State} {m : MethodId} {below : List Frame} {meth : Method} {c : Code} (l : Launch) (hflags : l.flags = flags0) {b L : Nat} {xs : Nat → Int32} (hL : L ≤ 2048) (C0 : lw_At p s m meth c b L xs) : W p l e room_1 s m #[Value.ref b] below meth c s.heap [] 0 0 (lw_Z below #[Value.ref b] s) (entryFrame m ([Value.ref b] : List Value).toArray 4) := by
  obtain ⟨hx, hb, hr, hml, hown, hts, hX, hbl, hlocks, hgv⟩ := id C0
  have htb : ∀ w ∈ ts_TB, w.before #[Value.ref b] s = true := fun w hw => hts w (ts_tbl w hw)
  obtain ⟨D, hD⟩ := law_classes htb
  obtain ⟨cI, cI1, cI2⟩ := arr_K (htb _ kw_106)
  obtain ⟨cZ, cZ1, cZ2⟩ := arr_K (htb _ kw_212)
  obtain ⟨cC, cC1, cC2⟩ := arr_K (htb _ kw_105)
  obtain ⟨cT, cT1, cT2⟩ := arr_Q (hts _ tb_225)
  obtain ⟨a0, b0, hZ, hE⟩ := law_text hts hgv
  obtain ⟨v, hv⟩ : ∃ v : tX_V, v = (D, cI, cZ, cC, cT, fun _ => 0) := ⟨_, rfl⟩
  have hK : va_K v.1 vwCl (tX_ty v) s := by
    rw [hv]
    refine ⟨hD, fun k q hk => ?_⟩
    match k, hk with
    | 0, hk => cases hk; exact ⟨cI1, cI2⟩
    | 1, hk => cases hk; exact ⟨cZ1, cZ2⟩
    | 2, hk => cases hk; exact ⟨cC1, cC2⟩
    | 3, hk => cases hk; exact ⟨cT1, cT2⟩
    | k + 4, hk => simp [tX_ty] at hk
  obtain ⟨g, hg⟩ : ∃ g : gw_Ctx, g = (p, l, e, room_1, s, m, #[Value.ref b], below, meth, c, lw_Z below #[Value.ref b] s, fun q => s.heap.size ≤ q) := ⟨_, rfl⟩
  have gs : gw_s g = s := by rw [hg]; rfl
  have gA : gw_A g = fun q => s.heap.size ≤ q := by rw [hg]; rfl
  have gR : gw_R g = room_1 := by rw [hg]; rfl
  have X : gw_X g v.1 (tX_ty v) code 4 RL := by
    rw [hg]
    exact ⟨hx, hb, hml, hown, htb, hK, fun q hq => va_Nw.of (by
      simp only [ts_NW, List.mem_cons, List.not_mem_nil, or_false] at hq
      rcases hq with rfl | rfl | rfl | rfl | rfl | rfl | rfl | rfl | rfl | rfl | rfl | rfl <;> rfl) (hts q (ts_NW_in q hq)), va_AO.of (hts _ tb_225)⟩
  have C : lw_C g v b L xs := ⟨X, gR, by rw [gs]; exact hX, by rw [gs]; exact hbl, by rw [gA]; exact Nat.not_le.mpr hbl⟩
  have hA : ∀ q, (gw_s g).heap.size ≤ q → gw_A g q := fun q h => by rw [gA]; rw [gs] at h; exact h
  have hend : ∀ (ws : va_W) (lv : List (Nat × Value)), gw_G g v.1 4 ws 166 1667 864 lv [.int 1] := fun ws lv => by
    rw [hg]
    exact law_end hx hb hr hlocks (Nat.le_of_ble_eq_true rfl) (Nat.le_of_ble_eq_true rfl) dL_law_864
  have key : gw_G g v.1 4 [] 0 0 0 [(0, .ref b)] [] := by
    refine gw_new (ci := 9) (N := 12) (C := RX9) (T := TX9) (ty := tyX9) (fs := [.null, .null, .null, .null, .null, .null, .int 0, .null, .null, .null, .null, .null]) X hA tw_X9 tyX9_ok kw_77 kw_78 kw_59 rfl (by decide +kernel) (by rw [gR]; exact Nat.le_of_ble_eq_true rfl) (by rw [gR]; exact Nat.le_of_ble_eq_true rfl) dL_law_0 (fun x => ?_)
    refine gw_dup X dL_law_3 rfl ?_
    refine gw_as (ws' := [] ++ x9W x) rfl ?_
    refine gw_callIE (b := x) (As := []) (st := [.ref x]) X hA (ct_X9_init g.2.1 v x a0 b0) (x9E_b x a0 b0 _) (fun H locs hD1 hS U hU hW => ?_) okL_X9_init rfl kw_79 kw_59 kw_81 kw_80 (by rw [gR]; exact Nat.le_of_ble_eq_true rfl) (by rw [gR]; exact Nat.le_of_ble_eq_true rfl) (by rw [gR]; exact Nat.le_of_ble_eq_true rfl) (by rw [gR]; exact Nat.le_of_ble_eq_true rfl) rfl rfl (Nat.le_of_ble_eq_true rfl) dL_law_4 (fun w1 hw1 => ?_)
    · rw [gA] at hD1 hS
      rw [gs] at hS hW
      refine ⟨vk_R.warm hW hZ, ?_⟩
      rw [hU]
      refine ((hE.kept hS.2.1).narrow ?_).moved hW.alike
      rintro q (⟨k, e1, h⟩ | h)
      · exact hD1.2 k (q, e1) h
      · exact Nat.le_trans hS.1 h
    obtain ⟨aX, σ, haX, hrX, rfl⟩ := hw1
    subst haX
    refine gw_astore_n X dL_law_7 (by decide) (lv' := [(1, .ref (aX 0)), (0, .ref b)]) rfl ?_
    refine gw_new (ci := 10) (N := 25) (C := RX10) (T := TX10) (ty := tyX10) (fs := [.int 0, .int 0, .null, .int 0, .null, .null, .int 0, .null, .int 0, .null, .int 0, .null, .null, .int 0, .int 0, .null, .int 0, .int 0, .null, .null, .int 0, .null, .null, .null, .null]) X hA tw_X10 tyX10_ok kw_876 kw_877 kw_75 rfl (by decide +kernel) (by rw [gR]; exact Nat.le_of_ble_eq_true rfl) (by rw [gR]; exact Nat.le_of_ble_eq_true rfl) dL_law_8 (fun y => ?_)
    refine gw_dup X dL_law_11 rfl ?_
    refine gw_as (ws' := ts_wd (tX_w (setAd v aX)) σ ++ x10W y) rfl ?_
    refine gw_callI (b := y) (As := []) (st := [.ref y]) X hA (ct_X10_init g.2.1 v y) okL_X10_init rfl kw_878 kw_75 kw_880 kw_879 (by rw [gR]; exact Nat.le_of_ble_eq_true rfl) (by rw [gR]; exact Nat.le_of_ble_eq_true rfl) (by rw [gR]; exact Nat.le_of_ble_eq_true rfl) (by rw [gR]; exact Nat.le_of_ble_eq_true rfl) rfl rfl (Nat.le_of_ble_eq_true rfl) dL_law_12 (fun w1 hw1 => ?_)
    obtain ⟨aM, τ, haM, hrM, rfl⟩ := hw1
    subst haM
    refine gw_astore_n X dL_law_15 (by decide) (lv' := [(2, .ref (aM 0)), (1, .ref (aX 0)), (0, .ref b)]) rfl ?_
    refine gw_iconst X dL_law_16 (v := nI 0) (by decide) ?_
    refine gw_istore_n X dL_law_17 (by decide) (lv' := [(3, .int (nI 0)), (2, .ref (aM 0)), (1, .ref (aX 0)), (0, .ref b)]) rfl ?_
    refine gw_perm List.perm_append_comm ?_
    refine gw_wid (ce' := 166) (sl' := 1667) (Nat.le_of_ble_eq_true rfl) (Nat.le_of_ble_eq_true rfl) ?_
    exact law_loop C hL hend (L + 4) 0 Uf σ τ (by omega) (by omega) hrX hrM
  rw [lg_entry_eq]
  rw [hg] at key
  exact key s.heap [] _ (fun k q h => by simp at h) ⟨fun i j p q h => by simp at h, fun k q h => by simp at h⟩ va_S.rf (lv_entry ([.ref b]) (n := 4) (Nat.le_of_ble_eq_true rfl))
