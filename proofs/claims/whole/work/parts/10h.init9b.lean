/-! the class's constructor -/
def gw_MvE (l : Launch) (y : MethodName) (w0 : Cond) (R : Room) (D : va_G) (tys : List (ClassId × FieldType)) (av : List Value) (wa : va_W) (E : Nat → State → Prop) (post : va_W → Prop) : Prop :=
  ∀ sz : Nat, Met l y (w0 :: ts_TB) R (va_Pc av (fun U => U.heap.size = sz ∧ gw_At D tys wa U ∧ va_D (fun _ => True) wa ∧ E sz U)) (va_Qv post (fun w1 t => gw_At D tys w1 t ∧ va_D (va_A wa sz) w1) (va_A wa sz)) R.cells R.slots (va_A wa sz)
theorem gw_MvE.of {y : MethodName} {cy : ByteArray} {ny : Nat} {D : va_G} {tys : List (ClassId × FieldType)} {l : Launch} {R : Room} {av : List Value} {wa : va_W} {E : Nat → State → Prop} {post : va_W → Prop} (hy : plainName y.cls = true) (hlen : (lg_sl av).length ≤ ny) (body : ∀ g : gw_Ctx, g.2.1 = l → gw_R g = R → gw_X g D tys cy ny y.cls → g.2.2.2.2.2.2.2.2.1.name = y.name → (∀ q, (gw_s g).heap.size ≤ q → gw_A g q) → gw_A g = va_A wa (gw_s g).heap.size → E (gw_s g).heap.size (gw_s g) → (∀ (ws : va_W) (pc : Nat) (lv : List (Nat × Value)), post ws → decode cy pc = .ok (.return_, 1) → gw_G g D ny ws R.cells R.slots pc lv []) → gw_G g D ny wa 0 0 0 (lv_args 0 av) []) : gw_MvE l y (Cond.code y cy ny none) R D tys av wa E post := by
  intro sz
  refine Met.ofW (cc := cy) (maxL := ny) (ret := none) hy rfl ?_
  intro p e s m args below meth c s₁ B hml hv
  obtain ⟨rfl, hsz, hAt, hD0, hE⟩ := hv
  rw [lg_entry_eq]
  subst hsz
  have hr := B.returns
  have hlk := B.notSynchronized
  have hnm : meth.name = y.name := (name_of_methodNamed B.named B.method).1
  have X : gw_X (p, l, e, R, s, m, av.toArray, below, meth, c, MQ below (va_Qv post (fun w1 t => gw_At D tys w1 t ∧ va_D (va_A wa s.heap.size) w1) (va_A wa s.heap.size)) av.toArray s R.cells R.slots (va_A wa s.heap.size), va_A wa s.heap.size) D tys cy ny y.cls := ⟨B.exec, B.bytes, hml, findClass_of_methodNamed B.named, fun q hq => atoms_spec (ws := Cond.code y cy ny none :: ts_TB) B.pre q (List.mem_cons_of_mem _ hq), hAt.2.1, hAt.2.2.1, hAt.2.2.2⟩
  refine body _ rfl rfl X hnm (fun q h => Or.inr h) rfl hE ?_ _ [] _ hAt.1 hD0.self va_S.rf (lv_entry av hlen)
  intro ws pc lv hpost d H locs ls hP hD hS hl
  exact W.vret X.hx X.hb hr (fun t ht hW => ⟨⟨ws, rfl, hpost, X.at ht hW hP, hD⟩, hS.F ht⟩) hS.2.2 d hlk
def mkTw (t0 t1 t2 t3 t4 : Nat → Nat) (f6 f5 f7 : Nat → Nat → Nat) : Nat → Nat → Nat := fun i => if i = 0 then t0 else if i = 1 then t1 else if i = 2 then t2 else if i = 3 then t3 else if i = 4 then t4 else if i < 7 then f6 (i - 5) else if i < 15 then f5 (i - 7) else f7 (i - 15)
def mkAd (L : List Nat) (tw : Nat → Nat → Nat) : Nat → Nat := fun k => if k < 31 then L.getD k 0 else tw ((k - 31) / 6) ((k - 31) % 6)
theorem mkAd_t {L : List Nat} {tw : Nat → Nat → Nat} {i j : Nat} (hj : j < 6) : mkAd L tw (31 + 6 * i + j) = tw i j := by
  unfold mkAd
  rw [if_neg (by omega), show (31 + 6 * i + j - 31) / 6 = i by omega, show (31 + 6 * i + j - 31) % 6 = j by omega]
theorem bTw_congr {v v' : tX_V} {p : Nat} {a a' : Nat → Nat} (h1 : v.2.1 = v'.2.1) (h2 : v.2.2.1 = v'.2.2.1) (h : ∀ j, j < 6 → a j = a' j) : bTw v p a = bTw v' p a' := by
  unfold bTw
  rw [h 0 (by omega), h 1 (by omega), h 2 (by omega), h 3 (by omega), h 4 (by omega), h 5 (by omega), h1, h2]
def setAd (v : tX_V) (ad : Nat → Nat) : tX_V := (v.1, v.2.1, v.2.2.1, v.2.2.2.1, v.2.2.2.2.1, ad)
theorem tG_tw {v : tX_V} {L : List Nat} {tw : Nat → Nat → Nat} {i : Nat} (hi : i ≠ 1) : tG (setAd v (mkAd L tw)) i = bTw v (L.getD 23 0) (tw i) := by
  unfold tG
  have e : tX_pl (31 + 6 * i) = 23 := by unfold tX_pl; rw [if_neg (by omega)]
  rw [e]
  exact bTw_congr rfl rfl (fun j hj => mkAd_t hj)
theorem tw_6 {t0 t1 t2 t3 t4 : Nat → Nat} {f6 f5 f7 : Nat → Nat → Nat} {i : Nat} (hi : i < 2) : mkTw t0 t1 t2 t3 t4 f6 f5 f7 (5 + i) = f6 i := by
  unfold mkTw
  rw [if_neg (by omega), if_neg (by omega), if_neg (by omega), if_neg (by omega), if_neg (by omega), if_pos (by omega), show 5 + i - 5 = i by omega]
theorem tw_5 {t0 t1 t2 t3 t4 : Nat → Nat} {f6 f5 f7 : Nat → Nat → Nat} {i : Nat} (hi : i < 8) : mkTw t0 t1 t2 t3 t4 f6 f5 f7 (7 + i) = f5 i := by
  unfold mkTw
  rw [if_neg (by omega), if_neg (by omega), if_neg (by omega), if_neg (by omega), if_neg (by omega), if_neg (by omega), if_pos (by omega), show 7 + i - 7 = i by omega]
theorem tw_7 {t0 t1 t2 t3 t4 : Nat → Nat} {f6 f5 f7 : Nat → Nat → Nat} {i : Nat} : mkTw t0 t1 t2 t3 t4 f6 f5 f7 (15 + i) = f7 i := by
  unfold mkTw
  rw [if_neg (by omega), if_neg (by omega), if_neg (by omega), if_neg (by omega), if_neg (by omega), if_neg (by omega), if_neg (by omega), show 15 + i - 15 = i by omega]
def x9E (b a0 b0 : Nat) (wa : va_W) (sz : Nat) (U : State) : Prop := vk_R RX9 86 st_tx a0 U ∧ st_E a0 b0 (va_A wa sz) U U.heap
def x9W (b : Nat) : va_W := [(b, .inr (9, [.null, .null, .null, .null, .null, .null, .int 0, .null, .null, .null, .null, .null]))]
set_option maxRecDepth 100000 in
set_option maxHeartbeats 4000000 in
theorem ct_X9_init (l : Launch) (v : tX_V) (b a0 b0 : Nat) : gw_MvE l yX9_init (Cond.code yX9_init cX9_init 3 none) x9R v.1 (tX_ty v) [.ref b] (x9W b) (x9E b a0 b0 (x9W b)) (fun w => ∃ (ad : Nat → Nat) (σ : ts_S), ad 0 = b ∧ rX σ Uf ∧ w = ts_wd (tX_w (setAd v ad)) σ) := by
  refine gw_MvE.of (by decide +kernel) (Nat.le_of_ble_eq_true rfl) ?_
  intro g hgl hgR X hin hA hAe hE hret
  show gw_G g v.1 3 ((b, .inr (9, [.null, .null, .null, .null, .null, .null, .int 0, .null, .null, .null, .null, .null])) :: []) 0 0 0 [(0, .ref b)] []
  refine gw_aload_n X dX9_init_0 0 rfl ?_
  refine gw_oinit X kw_82 kw_83 kw_84 (by rw [hgR]; decide) (by rw [hgR]; decide) (Nat.le_of_ble_eq_true rfl) dX9_init_1 ?_
  refine gw_aload_n X dX9_init_4 0 rfl ?_
  refine gw_new (ci := 6) (N := 4) (C := RX6) (T := TX6) (ty := tyX6) (fs := [.null, .int 0, .int 0, .null]) X hA tw_X6 tyX6_ok kw_85 kw_86 kw_60 rfl (by decide +kernel) (by rw [hgR]; exact Nat.le_of_ble_eq_true rfl) (by rw [hgR]; exact Nat.le_of_ble_eq_true rfl) dX9_init_5 (fun z1 => ?_)
  refine gw_dup X dX9_init_8 rfl ?_
  refine gw_callIN (b := z1) (As := []) (st := [.ref z1, .ref b]) X hA (ct_X6_init g.2.1 v z1) (⟨by decide +kernel, by decide +kernel, by decide +kernel⟩ : ts_ok yX6_init 0) rfl (host := RX9) (List.mem_of_getElem? (i := 0) rfl) kw_60 kw_89 kw_88 (by rw [hgR]; exact Nat.le_of_ble_eq_true rfl) (by rw [hgR]; exact Nat.le_of_ble_eq_true rfl) (by rw [hgR]; exact Nat.le_of_ble_eq_true rfl) (by rw [hgR]; exact Nat.le_of_ble_eq_true rfl) rfl rfl (Nat.le_of_ble_eq_true rfl) dX9_init_9 (fun w1 hw1 => ?_)
  obtain ⟨tx, htx, rfl⟩ := hw1
  subst htx
  refine gw_wid (ce' := 3) (sl' := 208) (Nat.le_of_ble_eq_true rfl) (Nat.le_of_ble_eq_true rfl) ?_
  refine gw_as (ws' := ((b, .inr (9, [.null, .null, .null, .null, .null, .null, .int 0, .null, .null, .null, .null, .null])) :: bTx v tx)) rfl ?_
  refine gw_putF (a := b) (ci := 9) (fs := [.null, .null, .null, .null, .null, .null, .int 0, .null, .null, .null, .null, .null]) (v := .ref (tx 0)) (wr := bTx v tx) (ty0 := tyX9) X hin tw_X9 tyX9_ok nmX9 rfl 0 (by decide) kw_469 rfl rfl rfl rfl rfl (Nat.le_of_ble_eq_true rfl) rfl dX9_init_12 ?_
  refine gw_as (ws' := ((b, .inr (9, [.ref (tx 0), .null, .null, .null, .null, .null, .int 0, .null, .null, .null, .null, .null])) :: bTx v tx)) rfl ?_
  refine gw_aload_n X dX9_init_15 0 rfl ?_
  refine gw_new (ci := 8) (N := 7) (C := RX8) (T := TX8) (ty := tyX8) (fs := [.null, .null, .null, .null, .null, .null, .int 0]) X hA tw_X8 tyX8_ok kw_107 kw_108 kw_61 rfl (by decide +kernel) (by rw [hgR]; exact Nat.le_of_ble_eq_true rfl) (by rw [hgR]; exact Nat.le_of_ble_eq_true rfl) dX9_init_16 (fun z2 => ?_)
  refine gw_dup X dX9_init_19 rfl ?_
  refine gw_new (ci := 2) (N := 6) (C := RX2) (T := TX2) (ty := tyX2) (fs := [.int 0, .int 0, .int 0, .null, .null, .null]) X hA tw_X2 tyX2_ok kw_109 kw_110 kw_62 rfl (by decide +kernel) (by rw [hgR]; exact Nat.le_of_ble_eq_true rfl) (by rw [hgR]; exact Nat.le_of_ble_eq_true rfl) dX9_init_20 (fun z3 => ?_)
  refine gw_dup X dX9_init_23 rfl ?_
  refine gw_callIN (b := z3) (As := []) (st := [.ref z3, .ref z2, .ref z2, .ref b]) X hA (ct_X2_init g.2.1 v z3) (⟨by decide +kernel, by decide +kernel, by decide +kernel⟩ : ts_ok yX2_init 0) rfl (host := RX9) (List.mem_of_getElem? (i := 1) rfl) kw_62 kw_113 kw_112 (by rw [hgR]; exact Nat.le_of_ble_eq_true rfl) (by rw [hgR]; exact Nat.le_of_ble_eq_true rfl) (by rw [hgR]; exact Nat.le_of_ble_eq_true rfl) (by rw [hgR]; exact Nat.le_of_ble_eq_true rfl) rfl rfl (Nat.le_of_ble_eq_true rfl) dX9_init_24 (fun w1 hw1 => ?_)
  obtain ⟨pd, hpd, rfl⟩ := hw1
  subst hpd
  refine gw_perm (w_sw _ _ _) ?_
  refine gw_callI (b := z2) (As := [.ref (pd 0)]) (st := [.ref z2, .ref b]) X hA (ct_X8_init g.2.1 v z2 (pd 0)) (⟨by decide +kernel, by decide +kernel, by decide +kernel⟩ : ts_ok yX8_init 1) rfl kw_162 kw_61 kw_164 kw_163 (by rw [hgR]; exact Nat.le_of_ble_eq_true rfl) (by rw [hgR]; exact Nat.le_of_ble_eq_true rfl) (by rw [hgR]; exact Nat.le_of_ble_eq_true rfl) (by rw [hgR]; exact Nat.le_of_ble_eq_true rfl) rfl rfl (Nat.le_of_ble_eq_true rfl) dX9_init_27 (fun w1 hw1 => ?_)
  obtain ⟨t1, ht1, rfl⟩ := hw1
  subst ht1
  refine gw_wid (ce' := 13) (sl' := 267) (Nat.le_of_ble_eq_true rfl) (Nat.le_of_ble_eq_true rfl) ?_
  refine gw_as (ws' := ((b, .inr (9, [.ref (tx 0), .null, .null, .null, .null, .null, .int 0, .null, .null, .null, .null, .null])) :: ((bTx v tx ++ bPl v pd) ++ bTw v (pd 0) t1))) rfl ?_
  refine gw_putF (a := b) (ci := 9) (fs := [.ref (tx 0), .null, .null, .null, .null, .null, .int 0, .null, .null, .null, .null, .null]) (v := .ref (t1 0)) (wr := ((bTx v tx ++ bPl v pd) ++ bTw v (pd 0) t1)) (ty0 := tyX9) X hin tw_X9 tyX9_ok nmX9 rfl 1 (by decide) kw_470 rfl rfl rfl rfl rfl (Nat.le_of_ble_eq_true rfl) rfl dX9_init_30 ?_
  refine gw_as (ws' := ((b, .inr (9, [.ref (tx 0), .ref (t1 0), .null, .null, .null, .null, .int 0, .null, .null, .null, .null, .null])) :: ((bTx v tx ++ bPl v pd) ++ bTw v (pd 0) t1))) rfl ?_
  refine gw_new (ci := 2) (N := 6) (C := RX2) (T := TX2) (ty := tyX2) (fs := [.int 0, .int 0, .int 0, .null, .null, .null]) X hA tw_X2 tyX2_ok kw_109 kw_110 kw_62 rfl (by decide +kernel) (by rw [hgR]; exact Nat.le_of_ble_eq_true rfl) (by rw [hgR]; exact Nat.le_of_ble_eq_true rfl) dX9_init_33 (fun z4 => ?_)
  refine gw_dup X dX9_init_36 rfl ?_
  refine gw_callIN (b := z4) (As := []) (st := [.ref z4]) X hA (ct_X2_init g.2.1 v z4) (⟨by decide +kernel, by decide +kernel, by decide +kernel⟩ : ts_ok yX2_init 0) rfl (host := RX9) (List.mem_of_getElem? (i := 1) rfl) kw_62 kw_113 kw_112 (by rw [hgR]; exact Nat.le_of_ble_eq_true rfl) (by rw [hgR]; exact Nat.le_of_ble_eq_true rfl) (by rw [hgR]; exact Nat.le_of_ble_eq_true rfl) (by rw [hgR]; exact Nat.le_of_ble_eq_true rfl) rfl rfl (Nat.le_of_ble_eq_true rfl) dX9_init_37 (fun w1 hw1 => ?_)
  obtain ⟨pl, hpl, rfl⟩ := hw1
  subst hpl
  refine gw_wid (ce' := 17) (sl' := 289) (Nat.le_of_ble_eq_true rfl) (Nat.le_of_ble_eq_true rfl) ?_
  refine gw_as (ws' := ((b, .inr (9, [.ref (tx 0), .ref (t1 0), .null, .null, .null, .null, .int 0, .null, .null, .null, .null, .null])) :: (((bTx v tx ++ bPl v pd) ++ bTw v (pd 0) t1) ++ bPl v pl))) rfl ?_
  refine gw_astore_n X dX9_init_40 (by decide) (lv' := [(1, .ref (pl 0)), (0, .ref b)]) rfl ?_
  refine gw_aload_n X dX9_init_41 1 rfl ?_
  refine gw_new (ci := 8) (N := 7) (C := RX8) (T := TX8) (ty := tyX8) (fs := [.null, .null, .null, .null, .null, .null, .int 0]) X hA tw_X8 tyX8_ok kw_107 kw_108 kw_61 rfl (by decide +kernel) (by rw [hgR]; exact Nat.le_of_ble_eq_true rfl) (by rw [hgR]; exact Nat.le_of_ble_eq_true rfl) dX9_init_42 (fun z5 => ?_)
  refine gw_dup X dX9_init_45 rfl ?_
  refine gw_aload_n X dX9_init_46 0 rfl ?_
  refine gw_callI (b := z5) (As := [.ref (pl 0)]) (st := [.ref z5, .ref b]) X hA (ct_X8_init g.2.1 v z5 (pl 0)) (⟨by decide +kernel, by decide +kernel, by decide +kernel⟩ : ts_ok yX8_init 1) rfl kw_162 kw_61 kw_164 kw_163 (by rw [hgR]; exact Nat.le_of_ble_eq_true rfl) (by rw [hgR]; exact Nat.le_of_ble_eq_true rfl) (by rw [hgR]; exact Nat.le_of_ble_eq_true rfl) (by rw [hgR]; exact Nat.le_of_ble_eq_true rfl) rfl rfl (Nat.le_of_ble_eq_true rfl) dX9_init_47 (fun w1 hw1 => ?_)
  obtain ⟨t0, ht0, rfl⟩ := hw1
  subst ht0
  refine gw_wid (ce' := 23) (sl' := 326) (Nat.le_of_ble_eq_true rfl) (Nat.le_of_ble_eq_true rfl) ?_
  refine gw_as (ws' := ((b, .inr (9, [.ref (tx 0), .ref (t1 0), .null, .null, .null, .null, .int 0, .null, .null, .null, .null, .null])) :: ((((bTx v tx ++ bPl v pd) ++ bTw v (pd 0) t1) ++ bPl v pl) ++ bTw v (pl 0) t0))) rfl ?_
  refine gw_putF (a := b) (ci := 9) (fs := [.ref (tx 0), .ref (t1 0), .null, .null, .null, .null, .int 0, .null, .null, .null, .null, .null]) (v := .ref (t0 0)) (wr := ((((bTx v tx ++ bPl v pd) ++ bTw v (pd 0) t1) ++ bPl v pl) ++ bTw v (pl 0) t0)) (ty0 := tyX9) X hin tw_X9 tyX9_ok nmX9 rfl 2 (by decide) kw_471 rfl rfl rfl rfl rfl (Nat.le_of_ble_eq_true rfl) rfl dX9_init_50 ?_
  refine gw_as (ws' := ((b, .inr (9, [.ref (tx 0), .ref (t1 0), .ref (t0 0), .null, .null, .null, .int 0, .null, .null, .null, .null, .null])) :: ((((bTx v tx ++ bPl v pd) ++ bTw v (pd 0) t1) ++ bPl v pl) ++ bTw v (pl 0) t0))) rfl ?_
  refine gw_aload_n X dX9_init_53 1 rfl ?_
  refine gw_new (ci := 8) (N := 7) (C := RX8) (T := TX8) (ty := tyX8) (fs := [.null, .null, .null, .null, .null, .null, .int 0]) X hA tw_X8 tyX8_ok kw_107 kw_108 kw_61 rfl (by decide +kernel) (by rw [hgR]; exact Nat.le_of_ble_eq_true rfl) (by rw [hgR]; exact Nat.le_of_ble_eq_true rfl) dX9_init_54 (fun z6 => ?_)
  refine gw_dup X dX9_init_57 rfl ?_
  refine gw_aload_n X dX9_init_58 0 rfl ?_
  refine gw_callI (b := z6) (As := [.ref (pl 0)]) (st := [.ref z6, .ref b]) X hA (ct_X8_init g.2.1 v z6 (pl 0)) (⟨by decide +kernel, by decide +kernel, by decide +kernel⟩ : ts_ok yX8_init 1) rfl kw_162 kw_61 kw_164 kw_163 (by rw [hgR]; exact Nat.le_of_ble_eq_true rfl) (by rw [hgR]; exact Nat.le_of_ble_eq_true rfl) (by rw [hgR]; exact Nat.le_of_ble_eq_true rfl) (by rw [hgR]; exact Nat.le_of_ble_eq_true rfl) rfl rfl (Nat.le_of_ble_eq_true rfl) dX9_init_59 (fun w1 hw1 => ?_)
  obtain ⟨t2, ht2, rfl⟩ := hw1
  subst ht2
  refine gw_wid (ce' := 29) (sl' := 363) (Nat.le_of_ble_eq_true rfl) (Nat.le_of_ble_eq_true rfl) ?_
  refine gw_as (ws' := ((b, .inr (9, [.ref (tx 0), .ref (t1 0), .ref (t0 0), .null, .null, .null, .int 0, .null, .null, .null, .null, .null])) :: (((((bTx v tx ++ bPl v pd) ++ bTw v (pd 0) t1) ++ bPl v pl) ++ bTw v (pl 0) t0) ++ bTw v (pl 0) t2))) rfl ?_
  refine gw_putF (a := b) (ci := 9) (fs := [.ref (tx 0), .ref (t1 0), .ref (t0 0), .null, .null, .null, .int 0, .null, .null, .null, .null, .null]) (v := .ref (t2 0)) (wr := (((((bTx v tx ++ bPl v pd) ++ bTw v (pd 0) t1) ++ bPl v pl) ++ bTw v (pl 0) t0) ++ bTw v (pl 0) t2)) (ty0 := tyX9) X hin tw_X9 tyX9_ok nmX9 rfl 3 (by decide) kw_472 rfl rfl rfl rfl rfl (Nat.le_of_ble_eq_true rfl) rfl dX9_init_62 ?_
  refine gw_as (ws' := ((b, .inr (9, [.ref (tx 0), .ref (t1 0), .ref (t0 0), .ref (t2 0), .null, .null, .int 0, .null, .null, .null, .null, .null])) :: (((((bTx v tx ++ bPl v pd) ++ bTw v (pd 0) t1) ++ bPl v pl) ++ bTw v (pl 0) t0) ++ bTw v (pl 0) t2))) rfl ?_
  refine gw_aload_n X dX9_init_65 1 rfl ?_
  refine gw_new (ci := 1) (N := 3) (C := RX1) (T := TX1) (ty := tyX1) (fs := [.null, .int 0, .int 0]) X hA tw_X1 tyX1_ok kw_213 kw_214 kw_63 rfl (by decide +kernel) (by rw [hgR]; exact Nat.le_of_ble_eq_true rfl) (by rw [hgR]; exact Nat.le_of_ble_eq_true rfl) dX9_init_66 (fun c4 => ?_)
  refine gw_dup X dX9_init_69 rfl ?_
  refine gw_aload_n X dX9_init_70 0 rfl ?_
  refine gw_callI (b := c4) (As := [.ref (pl 0)]) (st := [.ref c4, .ref b]) X hA (ct_X1_init g.2.1 v c4 (pl 0)) (⟨by decide +kernel, by decide +kernel, by decide +kernel⟩ : ts_ok yX1_init 1) rfl kw_215 kw_63 kw_217 kw_216 (by rw [hgR]; exact Nat.le_of_ble_eq_true rfl) (by rw [hgR]; exact Nat.le_of_ble_eq_true rfl) (by rw [hgR]; exact Nat.le_of_ble_eq_true rfl) (by rw [hgR]; exact Nat.le_of_ble_eq_true rfl) rfl rfl (Nat.le_of_ble_eq_true rfl) dX9_init_71 (fun w1 hw1 => ?_)
  obtain ⟨q5, h5, f5, k5, rfl⟩ := hw1
  refine gw_wid (ce' := 79) (sl' := 670) (Nat.le_of_ble_eq_true rfl) (Nat.le_of_ble_eq_true rfl) ?_
  refine gw_as (ws' := ((b, .inr (9, [.ref (tx 0), .ref (t1 0), .ref (t0 0), .ref (t2 0), .null, .null, .int 0, .null, .null, .null, .null, .null])) :: ((((((bTx v tx ++ bPl v pd) ++ bTw v (pd 0) t1) ++ bPl v pl) ++ bTw v (pl 0) t0) ++ bTw v (pl 0) t2) ++ bPa v (pl 0) c4 q5 h5 f5))) rfl ?_
  refine gw_putF (a := b) (ci := 9) (fs := [.ref (tx 0), .ref (t1 0), .ref (t0 0), .ref (t2 0), .null, .null, .int 0, .null, .null, .null, .null, .null]) (v := .ref c4) (wr := ((((((bTx v tx ++ bPl v pd) ++ bTw v (pd 0) t1) ++ bPl v pl) ++ bTw v (pl 0) t0) ++ bTw v (pl 0) t2) ++ bPa v (pl 0) c4 q5 h5 f5)) (ty0 := tyX9) X hin tw_X9 tyX9_ok nmX9 rfl 4 (by decide) kw_473 rfl rfl rfl rfl rfl (Nat.le_of_ble_eq_true rfl) rfl dX9_init_74 ?_
  refine gw_as (ws' := ((b, .inr (9, [.ref (tx 0), .ref (t1 0), .ref (t0 0), .ref (t2 0), .ref c4, .null, .int 0, .null, .null, .null, .null, .null])) :: ((((((bTx v tx ++ bPl v pd) ++ bTw v (pd 0) t1) ++ bPl v pl) ++ bTw v (pl 0) t0) ++ bTw v (pl 0) t2) ++ bPa v (pl 0) c4 q5 h5 f5))) rfl ?_
  refine gw_aload_n X dX9_init_77 1 rfl ?_
  refine gw_aload_n X dX9_init_78 0 rfl ?_
  refine gw_iconst X dX9_init_79 (v := nI 2) (by decide) ?_
  refine gw_callSr (As := [.ref (pl 0), .int (nI 2)]) (st := [.ref b]) X hA (ct_towersOf g.2.1 v (pl 0) 2 (by omega)) ok_X9_towersOf kw_237 kw_59 kw_221 kw_220 (by rw [hgR]; exact Nat.le_of_ble_eq_true rfl) (by rw [hgR]; exact Nat.le_of_ble_eq_true rfl) (by rw [hgR]; exact Nat.le_of_ble_eq_true rfl) (by rw [hgR]; exact Nat.le_of_ble_eq_true rfl) rfl rfl (Nat.le_of_ble_eq_true rfl) dX9_init_80 (fun w1 q6 hw1 => ?_)
  obtain ⟨h6, f6, k6, rfl⟩ := hw1
  refine gw_wid (ce' := 92) (sl' := 746) (Nat.le_of_ble_eq_true rfl) (Nat.le_of_ble_eq_true rfl) ?_
  refine gw_as (ws' := ((b, .inr (9, [.ref (tx 0), .ref (t1 0), .ref (t0 0), .ref (t2 0), .ref c4, .null, .int 0, .null, .null, .null, .null, .null])) :: (((((((bTx v tx ++ bPl v pd) ++ bTw v (pd 0) t1) ++ bPl v pl) ++ bTw v (pl 0) t0) ++ bTw v (pl 0) t2) ++ bPa v (pl 0) c4 q5 h5 f5) ++ bTs v (pl 0) 2 q6 h6 f6))) rfl ?_
  refine gw_putF (a := b) (ci := 9) (fs := [.ref (tx 0), .ref (t1 0), .ref (t0 0), .ref (t2 0), .ref c4, .null, .int 0, .null, .null, .null, .null, .null]) (v := .ref q6) (wr := (((((((bTx v tx ++ bPl v pd) ++ bTw v (pd 0) t1) ++ bPl v pl) ++ bTw v (pl 0) t0) ++ bTw v (pl 0) t2) ++ bPa v (pl 0) c4 q5 h5 f5) ++ bTs v (pl 0) 2 q6 h6 f6)) (ty0 := tyX9) X hin tw_X9 tyX9_ok nmX9 rfl 5 (by decide) kw_474 rfl rfl rfl rfl rfl (Nat.le_of_ble_eq_true rfl) rfl dX9_init_83 ?_
  refine gw_as (ws' := ((b, .inr (9, [.ref (tx 0), .ref (t1 0), .ref (t0 0), .ref (t2 0), .ref c4, .ref q6, .int 0, .null, .null, .null, .null, .null])) :: (((((((bTx v tx ++ bPl v pd) ++ bTw v (pd 0) t1) ++ bPl v pl) ++ bTw v (pl 0) t0) ++ bTw v (pl 0) t2) ++ bPa v (pl 0) c4 q5 h5 f5) ++ bTs v (pl 0) 2 q6 h6 f6))) rfl ?_
  refine gw_aload_n X dX9_init_86 1 rfl ?_
  refine gw_new (ci := 4) (N := 4) (C := RX4) (T := TX4) (ty := tyX4) (fs := [.null, .null, .null, .int 0]) X hA tw_X4 tyX4_ok kw_238 kw_239 kw_65 rfl (by decide +kernel) (by rw [hgR]; exact Nat.le_of_ble_eq_true rfl) (by rw [hgR]; exact Nat.le_of_ble_eq_true rfl) dX9_init_87 (fun z7 => ?_)
  refine gw_dup X dX9_init_90 rfl ?_
  refine gw_callIN (b := z7) (As := []) (st := [.ref z7, .ref b]) X hA (ct_X4_init g.2.1 v z7) (⟨by decide +kernel, by decide +kernel, by decide +kernel⟩ : ts_ok yX4_init 0) rfl (host := RX9) (List.mem_of_getElem? (i := 3) rfl) kw_65 kw_242 kw_241 (by rw [hgR]; exact Nat.le_of_ble_eq_true rfl) (by rw [hgR]; exact Nat.le_of_ble_eq_true rfl) (by rw [hgR]; exact Nat.le_of_ble_eq_true rfl) (by rw [hgR]; exact Nat.le_of_ble_eq_true rfl) rfl rfl (Nat.le_of_ble_eq_true rfl) dX9_init_91 (fun w1 hw1 => ?_)
  obtain ⟨si, hsi, rfl⟩ := hw1
  subst hsi
  refine gw_wid (ce' := 96) (sl' := 768) (Nat.le_of_ble_eq_true rfl) (Nat.le_of_ble_eq_true rfl) ?_
  refine gw_as (ws' := ((b, .inr (9, [.ref (tx 0), .ref (t1 0), .ref (t0 0), .ref (t2 0), .ref c4, .ref q6, .int 0, .null, .null, .null, .null, .null])) :: ((((((((bTx v tx ++ bPl v pd) ++ bTw v (pd 0) t1) ++ bPl v pl) ++ bTw v (pl 0) t0) ++ bTw v (pl 0) t2) ++ bPa v (pl 0) c4 q5 h5 f5) ++ bTs v (pl 0) 2 q6 h6 f6) ++ bSi v si))) rfl ?_
  refine gw_putF (a := b) (ci := 9) (fs := [.ref (tx 0), .ref (t1 0), .ref (t0 0), .ref (t2 0), .ref c4, .ref q6, .int 0, .null, .null, .null, .null, .null]) (v := .ref (si 0)) (wr := ((((((((bTx v tx ++ bPl v pd) ++ bTw v (pd 0) t1) ++ bPl v pl) ++ bTw v (pl 0) t0) ++ bTw v (pl 0) t2) ++ bPa v (pl 0) c4 q5 h5 f5) ++ bTs v (pl 0) 2 q6 h6 f6) ++ bSi v si)) (ty0 := tyX9) X hin tw_X9 tyX9_ok nmX9 rfl 7 (by decide) kw_476 rfl rfl rfl rfl rfl (Nat.le_of_ble_eq_true rfl) rfl dX9_init_94 ?_
  refine gw_as (ws' := ((b, .inr (9, [.ref (tx 0), .ref (t1 0), .ref (t0 0), .ref (t2 0), .ref c4, .ref q6, .int 0, .ref (si 0), .null, .null, .null, .null])) :: ((((((((bTx v tx ++ bPl v pd) ++ bTw v (pd 0) t1) ++ bPl v pl) ++ bTw v (pl 0) t0) ++ bTw v (pl 0) t2) ++ bPa v (pl 0) c4 q5 h5 f5) ++ bTs v (pl 0) 2 q6 h6 f6) ++ bSi v si))) rfl ?_
  refine gw_aload_n X dX9_init_97 1 rfl ?_
  refine gw_new (ci := 3) (N := 7) (C := RX3) (T := TX3) (ty := tyX3) (fs := [.null, .null, .null, .null, .int 0, .null, .int 0]) X hA tw_X3 tyX3_ok kw_258 kw_259 kw_66 rfl (by decide +kernel) (by rw [hgR]; exact Nat.le_of_ble_eq_true rfl) (by rw [hgR]; exact Nat.le_of_ble_eq_true rfl) dX9_init_98 (fun z8 => ?_)
  refine gw_dup X dX9_init_101 rfl ?_
  refine gw_new (ci := 8) (N := 7) (C := RX8) (T := TX8) (ty := tyX8) (fs := [.null, .null, .null, .null, .null, .null, .int 0]) X hA tw_X8 tyX8_ok kw_107 kw_108 kw_61 rfl (by decide +kernel) (by rw [hgR]; exact Nat.le_of_ble_eq_true rfl) (by rw [hgR]; exact Nat.le_of_ble_eq_true rfl) dX9_init_102 (fun z9 => ?_)
  refine gw_dup X dX9_init_105 rfl ?_
  refine gw_aload_n X dX9_init_106 0 rfl ?_
  refine gw_callI (b := z9) (As := [.ref (pl 0)]) (st := [.ref z9, .ref z8, .ref z8, .ref b]) X hA (ct_X8_init g.2.1 v z9 (pl 0)) (⟨by decide +kernel, by decide +kernel, by decide +kernel⟩ : ts_ok yX8_init 1) rfl kw_162 kw_61 kw_164 kw_163 (by rw [hgR]; exact Nat.le_of_ble_eq_true rfl) (by rw [hgR]; exact Nat.le_of_ble_eq_true rfl) (by rw [hgR]; exact Nat.le_of_ble_eq_true rfl) (by rw [hgR]; exact Nat.le_of_ble_eq_true rfl) rfl rfl (Nat.le_of_ble_eq_true rfl) dX9_init_107 (fun w1 hw1 => ?_)
  obtain ⟨t3, ht3, rfl⟩ := hw1
  subst ht3
  refine gw_perm (w_sw _ _ _) ?_
  refine gw_callI (b := z8) (As := [.ref (t3 0)]) (st := [.ref z8, .ref b]) X hA (ct_X3_init g.2.1 v z8 (t3 0)) (⟨by decide +kernel, by decide +kernel, by decide +kernel⟩ : ts_ok yX3_init 1) rfl kw_260 kw_66 kw_262 kw_261 (by rw [hgR]; exact Nat.le_of_ble_eq_true rfl) (by rw [hgR]; exact Nat.le_of_ble_eq_true rfl) (by rw [hgR]; exact Nat.le_of_ble_eq_true rfl) (by rw [hgR]; exact Nat.le_of_ble_eq_true rfl) rfl rfl (Nat.le_of_ble_eq_true rfl) dX9_init_110 (fun w1 hw1 => ?_)
  obtain ⟨po, hpo, rfl⟩ := hw1
  subst hpo
  refine gw_wid (ce' := 107) (sl' := 839) (Nat.le_of_ble_eq_true rfl) (Nat.le_of_ble_eq_true rfl) ?_
  refine gw_as (ws' := ((b, .inr (9, [.ref (tx 0), .ref (t1 0), .ref (t0 0), .ref (t2 0), .ref c4, .ref q6, .int 0, .ref (si 0), .null, .null, .null, .null])) :: ((((((((((bTx v tx ++ bPl v pd) ++ bTw v (pd 0) t1) ++ bPl v pl) ++ bTw v (pl 0) t0) ++ bTw v (pl 0) t2) ++ bPa v (pl 0) c4 q5 h5 f5) ++ bTs v (pl 0) 2 q6 h6 f6) ++ bSi v si) ++ bTw v (pl 0) t3) ++ bPo v (t3 0) po))) rfl ?_
  refine gw_putF (a := b) (ci := 9) (fs := [.ref (tx 0), .ref (t1 0), .ref (t0 0), .ref (t2 0), .ref c4, .ref q6, .int 0, .ref (si 0), .null, .null, .null, .null]) (v := .ref (po 0)) (wr := ((((((((((bTx v tx ++ bPl v pd) ++ bTw v (pd 0) t1) ++ bPl v pl) ++ bTw v (pl 0) t0) ++ bTw v (pl 0) t2) ++ bPa v (pl 0) c4 q5 h5 f5) ++ bTs v (pl 0) 2 q6 h6 f6) ++ bSi v si) ++ bTw v (pl 0) t3) ++ bPo v (t3 0) po)) (ty0 := tyX9) X hin tw_X9 tyX9_ok nmX9 rfl 8 (by decide) kw_477 rfl rfl rfl rfl rfl (Nat.le_of_ble_eq_true rfl) rfl dX9_init_113 ?_
  refine gw_as (ws' := ((b, .inr (9, [.ref (tx 0), .ref (t1 0), .ref (t0 0), .ref (t2 0), .ref c4, .ref q6, .int 0, .ref (si 0), .ref (po 0), .null, .null, .null])) :: ((((((((((bTx v tx ++ bPl v pd) ++ bTw v (pd 0) t1) ++ bPl v pl) ++ bTw v (pl 0) t0) ++ bTw v (pl 0) t2) ++ bPa v (pl 0) c4 q5 h5 f5) ++ bTs v (pl 0) 2 q6 h6 f6) ++ bSi v si) ++ bTw v (pl 0) t3) ++ bPo v (t3 0) po))) rfl ?_
  refine gw_aload_n X dX9_init_116 1 rfl ?_
  refine gw_new (ci := 7) (N := 5) (C := RX7) (T := TX7) (ty := tyX7) (fs := [.null, .null, .int 0, .null, .int 0]) X hA tw_X7 tyX7_ok kw_288 kw_289 kw_67 rfl (by decide +kernel) (by rw [hgR]; exact Nat.le_of_ble_eq_true rfl) (by rw [hgR]; exact Nat.le_of_ble_eq_true rfl) dX9_init_117 (fun z10 => ?_)
  refine gw_dup X dX9_init_120 rfl ?_
  refine gw_aload_n X dX9_init_121 0 rfl ?_
  refine gw_callI (b := z10) (As := [.ref (pl 0)]) (st := [.ref z10, .ref b]) X hA (ct_X7_init g.2.1 v z10 (pl 0)) (⟨by decide +kernel, by decide +kernel, by decide +kernel⟩ : ts_ok yX7_init 1) rfl kw_290 kw_67 kw_292 kw_291 (by rw [hgR]; exact Nat.le_of_ble_eq_true rfl) (by rw [hgR]; exact Nat.le_of_ble_eq_true rfl) (by rw [hgR]; exact Nat.le_of_ble_eq_true rfl) (by rw [hgR]; exact Nat.le_of_ble_eq_true rfl) rfl rfl (Nat.le_of_ble_eq_true rfl) dX9_init_122 (fun w1 hw1 => ?_)
  obtain ⟨tt, q7, h7, f7, htt, k7, rfl⟩ := hw1
  subst htt
  refine gw_wid (ce' := 141) (sl' := 1042) (Nat.le_of_ble_eq_true rfl) (Nat.le_of_ble_eq_true rfl) ?_
  refine gw_as (ws' := ((b, .inr (9, [.ref (tx 0), .ref (t1 0), .ref (t0 0), .ref (t2 0), .ref c4, .ref q6, .int 0, .ref (si 0), .ref (po 0), .null, .null, .null])) :: (((((((((((bTx v tx ++ bPl v pd) ++ bTw v (pd 0) t1) ++ bPl v pl) ++ bTw v (pl 0) t0) ++ bTw v (pl 0) t2) ++ bPa v (pl 0) c4 q5 h5 f5) ++ bTs v (pl 0) 2 q6 h6 f6) ++ bSi v si) ++ bTw v (pl 0) t3) ++ bPo v (t3 0) po) ++ bTt v (pl 0) tt q7 h7 f7))) rfl ?_
  refine gw_putF (a := b) (ci := 9) (fs := [.ref (tx 0), .ref (t1 0), .ref (t0 0), .ref (t2 0), .ref c4, .ref q6, .int 0, .ref (si 0), .ref (po 0), .null, .null, .null]) (v := .ref (tt 0)) (wr := (((((((((((bTx v tx ++ bPl v pd) ++ bTw v (pd 0) t1) ++ bPl v pl) ++ bTw v (pl 0) t0) ++ bTw v (pl 0) t2) ++ bPa v (pl 0) c4 q5 h5 f5) ++ bTs v (pl 0) 2 q6 h6 f6) ++ bSi v si) ++ bTw v (pl 0) t3) ++ bPo v (t3 0) po) ++ bTt v (pl 0) tt q7 h7 f7)) (ty0 := tyX9) X hin tw_X9 tyX9_ok nmX9 rfl 9 (by decide) kw_478 rfl rfl rfl rfl rfl (Nat.le_of_ble_eq_true rfl) rfl dX9_init_125 ?_
  refine gw_as (ws' := ((b, .inr (9, [.ref (tx 0), .ref (t1 0), .ref (t0 0), .ref (t2 0), .ref c4, .ref q6, .int 0, .ref (si 0), .ref (po 0), .ref (tt 0), .null, .null])) :: (((((((((((bTx v tx ++ bPl v pd) ++ bTw v (pd 0) t1) ++ bPl v pl) ++ bTw v (pl 0) t0) ++ bTw v (pl 0) t2) ++ bPa v (pl 0) c4 q5 h5 f5) ++ bTs v (pl 0) 2 q6 h6 f6) ++ bSi v si) ++ bTw v (pl 0) t3) ++ bPo v (t3 0) po) ++ bTt v (pl 0) tt q7 h7 f7))) rfl ?_
  refine gw_aload_n X dX9_init_128 1 rfl ?_
  refine gw_new (ci := 5) (N := 3) (C := RX5) (T := TX5) (ty := tyX5) (fs := [.null, .int 0, .int 0]) X hA tw_X5 tyX5_ok kw_313 kw_314 kw_68 rfl (by decide +kernel) (by rw [hgR]; exact Nat.le_of_ble_eq_true rfl) (by rw [hgR]; exact Nat.le_of_ble_eq_true rfl) dX9_init_129 (fun z11 => ?_)
  refine gw_dup X dX9_init_132 rfl ?_
  refine gw_new (ci := 8) (N := 7) (C := RX8) (T := TX8) (ty := tyX8) (fs := [.null, .null, .null, .null, .null, .null, .int 0]) X hA tw_X8 tyX8_ok kw_107 kw_108 kw_61 rfl (by decide +kernel) (by rw [hgR]; exact Nat.le_of_ble_eq_true rfl) (by rw [hgR]; exact Nat.le_of_ble_eq_true rfl) dX9_init_133 (fun z12 => ?_)
  refine gw_dup X dX9_init_136 rfl ?_
  refine gw_aload_n X dX9_init_137 0 rfl ?_
  refine gw_callI (b := z12) (As := [.ref (pl 0)]) (st := [.ref z12, .ref z11, .ref z11, .ref b]) X hA (ct_X8_init g.2.1 v z12 (pl 0)) (⟨by decide +kernel, by decide +kernel, by decide +kernel⟩ : ts_ok yX8_init 1) rfl kw_162 kw_61 kw_164 kw_163 (by rw [hgR]; exact Nat.le_of_ble_eq_true rfl) (by rw [hgR]; exact Nat.le_of_ble_eq_true rfl) (by rw [hgR]; exact Nat.le_of_ble_eq_true rfl) (by rw [hgR]; exact Nat.le_of_ble_eq_true rfl) rfl rfl (Nat.le_of_ble_eq_true rfl) dX9_init_138 (fun w1 hw1 => ?_)
  obtain ⟨t4, ht4, rfl⟩ := hw1
  subst ht4
  refine gw_perm (w_sw _ _ _) ?_
  refine gw_callI (b := z11) (As := [.ref (t4 0)]) (st := [.ref z11, .ref b]) X hA (ct_X5_init g.2.1 v z11 (t4 0)) (⟨by decide +kernel, by decide +kernel, by decide +kernel⟩ : ts_ok yX5_init 1) rfl kw_315 kw_68 kw_317 kw_316 (by rw [hgR]; exact Nat.le_of_ble_eq_true rfl) (by rw [hgR]; exact Nat.le_of_ble_eq_true rfl) (by rw [hgR]; exact Nat.le_of_ble_eq_true rfl) (by rw [hgR]; exact Nat.le_of_ble_eq_true rfl) rfl rfl (Nat.le_of_ble_eq_true rfl) dX9_init_141 (fun w1 hw1 => ?_)
  obtain ⟨sw, hsw, rfl⟩ := hw1
  subst hsw
  refine gw_wid (ce' := 148) (sl' := 1082) (Nat.le_of_ble_eq_true rfl) (Nat.le_of_ble_eq_true rfl) ?_
  refine gw_as (ws' := ((b, .inr (9, [.ref (tx 0), .ref (t1 0), .ref (t0 0), .ref (t2 0), .ref c4, .ref q6, .int 0, .ref (si 0), .ref (po 0), .ref (tt 0), .null, .null])) :: (((((((((((((bTx v tx ++ bPl v pd) ++ bTw v (pd 0) t1) ++ bPl v pl) ++ bTw v (pl 0) t0) ++ bTw v (pl 0) t2) ++ bPa v (pl 0) c4 q5 h5 f5) ++ bTs v (pl 0) 2 q6 h6 f6) ++ bSi v si) ++ bTw v (pl 0) t3) ++ bPo v (t3 0) po) ++ bTt v (pl 0) tt q7 h7 f7) ++ bTw v (pl 0) t4) ++ bSw v (t4 0) sw))) rfl ?_
  refine gw_putF (a := b) (ci := 9) (fs := [.ref (tx 0), .ref (t1 0), .ref (t0 0), .ref (t2 0), .ref c4, .ref q6, .int 0, .ref (si 0), .ref (po 0), .ref (tt 0), .null, .null]) (v := .ref (sw 0)) (wr := (((((((((((((bTx v tx ++ bPl v pd) ++ bTw v (pd 0) t1) ++ bPl v pl) ++ bTw v (pl 0) t0) ++ bTw v (pl 0) t2) ++ bPa v (pl 0) c4 q5 h5 f5) ++ bTs v (pl 0) 2 q6 h6 f6) ++ bSi v si) ++ bTw v (pl 0) t3) ++ bPo v (t3 0) po) ++ bTt v (pl 0) tt q7 h7 f7) ++ bTw v (pl 0) t4) ++ bSw v (t4 0) sw)) (ty0 := tyX9) X hin tw_X9 tyX9_ok nmX9 rfl 10 (by decide) kw_479 rfl rfl rfl rfl rfl (Nat.le_of_ble_eq_true rfl) rfl dX9_init_144 ?_
  refine gw_as (ws' := ((b, .inr (9, [.ref (tx 0), .ref (t1 0), .ref (t0 0), .ref (t2 0), .ref c4, .ref q6, .int 0, .ref (si 0), .ref (po 0), .ref (tt 0), .ref (sw 0), .null])) :: (((((((((((((bTx v tx ++ bPl v pd) ++ bTw v (pd 0) t1) ++ bPl v pl) ++ bTw v (pl 0) t0) ++ bTw v (pl 0) t2) ++ bPa v (pl 0) c4 q5 h5 f5) ++ bTs v (pl 0) 2 q6 h6 f6) ++ bSi v si) ++ bTw v (pl 0) t3) ++ bPo v (t3 0) po) ++ bTt v (pl 0) tt q7 h7 f7) ++ bTw v (pl 0) t4) ++ bSw v (t4 0) sw))) rfl ?_
  refine gw_aload_n X dX9_init_147 1 rfl ?_
  refine gw_new (ci := 0) (N := 3) (C := RX0) (T := TX0) (ty := tyX0) (fs := [.null, .int 0, .int 0]) X hA tw_X0 tyX0_ok kw_331 kw_332 kw_69 rfl (by decide +kernel) (by rw [hgR]; exact Nat.le_of_ble_eq_true rfl) (by rw [hgR]; exact Nat.le_of_ble_eq_true rfl) dX9_init_148 (fun z13 => ?_)
  refine gw_dup X dX9_init_151 rfl ?_
  refine gw_callIN (b := z13) (As := []) (st := [.ref z13, .ref b]) X hA (ct_X0_init g.2.1 v z13) (⟨by decide +kernel, by decide +kernel, by decide +kernel⟩ : ts_ok yX0_init 0) rfl (host := RX9) (List.mem_of_getElem? (i := 5) rfl) kw_69 kw_335 kw_334 (by rw [hgR]; exact Nat.le_of_ble_eq_true rfl) (by rw [hgR]; exact Nat.le_of_ble_eq_true rfl) (by rw [hgR]; exact Nat.le_of_ble_eq_true rfl) (by rw [hgR]; exact Nat.le_of_ble_eq_true rfl) rfl rfl (Nat.le_of_ble_eq_true rfl) dX9_init_152 (fun w1 hw1 => ?_)
  obtain ⟨ch, hch, rfl⟩ := hw1
  subst hch
  refine gw_wid (ce' := 150) (sl' := 1091) (Nat.le_of_ble_eq_true rfl) (Nat.le_of_ble_eq_true rfl) ?_
  refine gw_as (ws' := ((b, .inr (9, [.ref (tx 0), .ref (t1 0), .ref (t0 0), .ref (t2 0), .ref c4, .ref q6, .int 0, .ref (si 0), .ref (po 0), .ref (tt 0), .ref (sw 0), .null])) :: ((((((((((((((bTx v tx ++ bPl v pd) ++ bTw v (pd 0) t1) ++ bPl v pl) ++ bTw v (pl 0) t0) ++ bTw v (pl 0) t2) ++ bPa v (pl 0) c4 q5 h5 f5) ++ bTs v (pl 0) 2 q6 h6 f6) ++ bSi v si) ++ bTw v (pl 0) t3) ++ bPo v (t3 0) po) ++ bTt v (pl 0) tt q7 h7 f7) ++ bTw v (pl 0) t4) ++ bSw v (t4 0) sw) ++ bCh v ch))) rfl ?_
  refine gw_putF (a := b) (ci := 9) (fs := [.ref (tx 0), .ref (t1 0), .ref (t0 0), .ref (t2 0), .ref c4, .ref q6, .int 0, .ref (si 0), .ref (po 0), .ref (tt 0), .ref (sw 0), .null]) (v := .ref (ch 0)) (wr := ((((((((((((((bTx v tx ++ bPl v pd) ++ bTw v (pd 0) t1) ++ bPl v pl) ++ bTw v (pl 0) t0) ++ bTw v (pl 0) t2) ++ bPa v (pl 0) c4 q5 h5 f5) ++ bTs v (pl 0) 2 q6 h6 f6) ++ bSi v si) ++ bTw v (pl 0) t3) ++ bPo v (t3 0) po) ++ bTt v (pl 0) tt q7 h7 f7) ++ bTw v (pl 0) t4) ++ bSw v (t4 0) sw) ++ bCh v ch)) (ty0 := tyX9) X hin tw_X9 tyX9_ok nmX9 rfl 11 (by decide) kw_480 rfl rfl rfl rfl rfl (Nat.le_of_ble_eq_true rfl) rfl dX9_init_155 ?_
  refine gw_as (ws' := ((b, .inr (9, [.ref (tx 0), .ref (t1 0), .ref (t0 0), .ref (t2 0), .ref c4, .ref q6, .int 0, .ref (si 0), .ref (po 0), .ref (tt 0), .ref (sw 0), .ref (ch 0)])) :: ((((((((((((((bTx v tx ++ bPl v pd) ++ bTw v (pd 0) t1) ++ bPl v pl) ++ bTw v (pl 0) t0) ++ bTw v (pl 0) t2) ++ bPa v (pl 0) c4 q5 h5 f5) ++ bTs v (pl 0) 2 q6 h6 f6) ++ bSi v si) ++ bTw v (pl 0) t3) ++ bPo v (t3 0) po) ++ bTt v (pl 0) tt q7 h7 f7) ++ bTw v (pl 0) t4) ++ bSw v (t4 0) sw) ++ bCh v ch))) rfl ?_
  obtain ⟨hZ, hst⟩ := hE
  rw [← hAe] at hst
  generalize htw : mkTw t0 t1 t2 t3 t4 f6 f5 f7 = tw
  generalize hL : [b, tx 0, tx 1, tx 2, c4, q5, q6, si 0, si 1, si 2, si 3, po 0, po 1, po 2, po 3, po 4, tt 0, q7, tt 1, tt 2, sw 0, ch 0, ch 1, pl 0, pl 1, pl 2, pl 3, pd 0, pd 1, pd 2, pd 3] = L
  have w0 : tw 0 = t0 := by rw [← htw]; rfl
  have w1 : tw 1 = t1 := by rw [← htw]; rfl
  have w2 : tw 2 = t2 := by rw [← htw]; rfl
  have w3 : tw 3 = t3 := by rw [← htw]; rfl
  have w4 : tw 4 = t4 := by rw [← htw]; rfl
  have w6 : ∀ i, i < 2 → tw (5 + i) = f6 i := fun i hi => by rw [← htw]; exact tw_6 hi
  have w5 : ∀ i, i < 8 → tw (7 + i) = f5 i := fun i hi => by rw [← htw]; exact tw_5 hi
  have w7 : ∀ i, tw (15 + i) = f7 i := fun i => by rw [← htw]; exact tw_7
  have L23 : L.getD 23 0 = pl 0 := by rw [← hL]; rfl
  have a31 : ∀ i, mkAd L tw (31 + 6 * i) = tw i 0 := fun i => mkAd_t (j := 0) (by omega)
  have a37 : mkAd L tw 37 = t1 0 := (a31 1).trans (by rw [w1])
  have a43 : mkAd L tw 43 = t2 0 := (a31 2).trans (by rw [w2])
  have a49 : mkAd L tw 49 = t3 0 := (a31 3).trans (by rw [w3])
  have a55 : mkAd L tw 55 = t4 0 := (a31 4).trans (by rw [w4])
  have a310 : mkAd L tw 31 = t0 0 := (a31 0).trans (by rw [w0])
  have B0 : bX (setAd v (mkAd L tw)) h5 h6 h7 0 = [(b, .inr (9, [.ref (tx 0), .ref (t1 0), .ref (t0 0), .ref (t2 0), .ref c4, .ref q6, .int 0, .ref (si 0), .ref (po 0), .ref (tt 0), .ref (sw 0), .ref (ch 0)]))] := by
    show [(mkAd L tw 0, Sum.inr (9, [Value.ref (mkAd L tw 1), .ref (mkAd L tw 37), .ref (mkAd L tw 31), .ref (mkAd L tw 43), .ref (mkAd L tw 4), .ref (mkAd L tw 6), .int 0, .ref (mkAd L tw 7), .ref (mkAd L tw 11), .ref (mkAd L tw 16), .ref (mkAd L tw 20), .ref (mkAd L tw 21)]))] = _
    rw [a37, a43, a310, ← hL]
    rfl
  have B1 : bX (setAd v (mkAd L tw)) h5 h6 h7 1 = bTx v tx := by rw [← hL]; rfl
  have B2 : bX (setAd v (mkAd L tw)) h5 h6 h7 2 = [(c4, .inr (1, [.ref q5, .int 0, .int 0]))] := by rw [← hL]; rfl
  have B3 : bX (setAd v (mkAd L tw)) h5 h6 h7 3 = [(q5, aC v 8 h5)] := by rw [← hL]; rfl
  have B4 : bX (setAd v (mkAd L tw)) h5 h6 h7 4 = [(q6, aC v 2 h6)] := by rw [← hL]; rfl
  have B5 : bX (setAd v (mkAd L tw)) h5 h6 h7 5 = bSi v si := by rw [← hL]; rfl
  have B6 : bX (setAd v (mkAd L tw)) h5 h6 h7 6 = bPo v (t3 0) po := by
    show bPo (setAd v (mkAd L tw)) (mkAd L tw 49) (fun j => mkAd L tw (11 + j)) = _
    rw [a49, ← hL]; rfl
  have B7 : bX (setAd v (mkAd L tw)) h5 h6 h7 7 = [(tt 0, .inr (7, [.ref q7, .ref (tt 1), .int 0, .ref (tt 2), .int 0]))] := by rw [← hL]; rfl
  have B8 : bX (setAd v (mkAd L tw)) h5 h6 h7 8 = [(q7, aC v 5 h7)] := by rw [← hL]; rfl
  have B9 : bX (setAd v (mkAd L tw)) h5 h6 h7 9 = [(tt 1, .inl (v.2.1, 4, .inl (fun _ => 0))), (tt 2, .inl (v.2.1, 4, .inl (fun _ => 0)))] := by rw [← hL]; rfl
  have B10 : bX (setAd v (mkAd L tw)) h5 h6 h7 10 = bSw v (t4 0) sw := by
    show bSw (setAd v (mkAd L tw)) (mkAd L tw 55) (fun j => mkAd L tw (20 + j)) = _
    rw [a55, ← hL]; rfl
  have B11 : bX (setAd v (mkAd L tw)) h5 h6 h7 11 = bCh v ch := by rw [← hL]; rfl
  have B12 : bX (setAd v (mkAd L tw)) h5 h6 h7 12 = bPl v pl := by rw [← hL]; rfl
  have B13 : bX (setAd v (mkAd L tw)) h5 h6 h7 13 = bPl v pd := by rw [← hL]; rfl
  have B14 : bX (setAd v (mkAd L tw)) h5 h6 h7 14 = bTw v (pl 0) t0 := (tG_tw (i := 0) (by omega)).trans (by rw [L23, w0])
  have B15 : bX (setAd v (mkAd L tw)) h5 h6 h7 15 = bTw v (pd 0) t1 := by
    show bTw (setAd v (mkAd L tw)) (mkAd L tw 27) (fun j => mkAd L tw (31 + 6 * 1 + j)) = _
    rw [show mkAd L tw 27 = pd 0 by rw [← hL]; rfl, ← w1]
    exact bTw_congr rfl rfl (fun j hj => mkAd_t (i := 1) hj)
  have B16 : bX (setAd v (mkAd L tw)) h5 h6 h7 16 = bTw v (pl 0) t2 := (tG_tw (i := 2) (by omega)).trans (by rw [L23, w2])
  have B17 : bX (setAd v (mkAd L tw)) h5 h6 h7 17 = bTw v (pl 0) t3 := (tG_tw (i := 3) (by omega)).trans (by rw [L23, w3])
  have B18 : bX (setAd v (mkAd L tw)) h5 h6 h7 18 = bTw v (pl 0) t4 := (tG_tw (i := 4) (by omega)).trans (by rw [L23, w4])
  have B19 : bX (setAd v (mkAd L tw)) h5 h6 h7 19 = (List.range 2).flatMap (fun i => bTw v (pl 0) (f6 i)) := fm_congr (fun i hi => (tG_tw (by omega)).trans (by rw [L23, w6 i (List.mem_range.mp hi)]))
  have B20 : bX (setAd v (mkAd L tw)) h5 h6 h7 20 = (List.range 8).flatMap (fun i => bTw v (pl 0) (f5 i)) := fm_congr (fun i hi => (tG_tw (by omega)).trans (by rw [L23, w5 i (List.mem_range.mp hi)]))
  have B21 : bX (setAd v (mkAd L tw)) h5 h6 h7 21 = (List.range 5).flatMap (fun i => bTw v (pl 0) (f7 i)) := fm_congr (fun i hi => (tG_tw (by omega)).trans (by rw [L23, w7 i]))
  have ab : mkAd L tw 0 = b := by rw [← hL]; rfl
  refine bX_conv (v := setAd v (mkAd L tw)) (h5 := h5) (h6 := h6) (h7 := h7) (fun i hi => ?_) (fun i hi => ?_) (fun i hi => ?_) (List.Perm.trans (List.Perm.of_eq ?_) (ordX.flatMap_right _)) ?_
  · rw [k5 i hi, ← w5 i hi, ← a31 (7 + i)]
    show some (mkAd L tw _) = some (mkAd L tw _)
    rw [show 31 + 6 * (7 + i) = 73 + 6 * i by omega]
  · rw [k6 i hi, ← w6 i hi, ← a31 (5 + i)]
    show some (mkAd L tw _) = some (mkAd L tw _)
    rw [show 31 + 6 * (5 + i) = 61 + 6 * i by omega]
  · rw [k7 i hi, ← w7 i, ← a31 (15 + i)]
    show some (mkAd L tw _) = some (mkAd L tw _)
    rw [show 31 + 6 * (15 + i) = 121 + 6 * i by omega]
  · simp only [List.flatMap_cons, List.flatMap_nil, B0, B1, B2, B3, B4, B5, B6, B7, B8, B9, B10, B11, B12, B13, B14, B15, B16, B17, B18, B19, B20, B21, bPa, bTs, bTt, List.append_assoc, List.cons_append, List.nil_append, List.append_nil]
    rfl
  · have k := x9_tail (g := g) (v := setAd v (mkAd L tw)) (p := pl 0) (a0 := a0) (b0 := b0) hgR X hst hZ (fun σ pc lv hr d => hret _ pc lv ⟨mkAd L tw, σ, ab, hr, rfl⟩ d)
    rw [show tX_ad (setAd v (mkAd L tw)) 0 = b from ab] at k
    exact k
