/-! the first text as a String constant: length and letters; nothing is written there -/
def st_by : List Int32 := [104, 54, 59, 112, 48, 44, 53, 44, 49, 50, 44, 56, 59, 112, 49, 44, 51, 44, 51, 48, 44, 53, 59, 112, 50, 44, 52, 44, 50, 53, 44, 54, 59, 112, 51, 44, 53, 44, 49, 52, 44, 50, 59, 112, 51, 44, 53, 44, 49, 51, 44, 51, 59, 112, 48, 44, 49, 44, 54, 48, 44, 57, 59, 119, 53, 44, 50, 59, 119, 52, 44, 49, 59, 119, 51, 44, 49, 59, 119, 49, 44, 49, 59, 119, 48, 44, 49, 59]
def st_E (a b : Nat) (A : Nat → Prop) (U : State) (H : Heap) : Prop :=
  va_O "java/lang/String" a A U H ∧ va_OF "java/lang/String" "coder" "B" (.int 0) a A U H ∧ va_OF "java/lang/String" "value" "[B" (.ref b) a A U H ∧ va_T .byte b 88 (fun j => .int (st_by.getD j 0)) A U H ∧ va_Z "java/lang/String" "COMPACT_STRINGS" "Z" (.int 1) A U H ∧ va_Zq "jdk/internal/util/Preconditions" "SIOOBE_FORMATTER" "Ljava/util/function/BiFunction;" A U H
theorem st_E.moved {a b : Nat} {A : Nat → Prop} {u U : State} {H : Heap} (hvm : u.vm.Alike U.vm) (h : st_E a b A u H) : st_E a b A U H :=
  ⟨va_O.moved hvm h.1, va_OF.moved hvm h.2.1, va_OF.moved hvm h.2.2.1, va_T.moved hvm h.2.2.2.1, va_Z.moved hvm h.2.2.2.2.1, va_Zq.moved hvm h.2.2.2.2.2⟩
theorem st_E.kept {a b : Nat} {A : Nat → Prop} {U : State} {H H1 : Heap} (h : st_E a b A U H) (hq : ∀ a : Nat, a < H.size → ¬ A a → H1[a]? = H[a]?) : st_E a b A U H1 :=
  ⟨h.1.kept hq, h.2.1.kept hq, h.2.2.1.kept hq, h.2.2.2.1.kept hq, h.2.2.2.2.1.kept hq, h.2.2.2.2.2.kept hq⟩
theorem st_E.narrow {a b : Nat} {A B : Nat → Prop} {U : State} {H : Heap} (h : st_E a b A U H) (hAB : ∀ q, B q → A q) : st_E a b B U H :=
  ⟨h.1.narrow hAB, h.2.1.narrow hAB, h.2.2.1.narrow hAB, h.2.2.2.1.narrow hAB, h.2.2.2.2.1.narrow hAB, h.2.2.2.2.2.narrow hAB⟩
def st_no : Nat → Prop := fun _ => False
def st_P (D : va_G) (tys : List (ClassId × FieldType)) (a b : Nat) (U : State) : Prop := gw_At D tys [] U ∧ st_E a b st_no U U.heap
theorem st_P.blind {D : va_G} {tys : List (ClassId × FieldType)} {a b : Nat} {av : List Value} : FrameBlind (va_Pc av (st_P D tys a b)) := by
  intro z U g mk q
  exact ⟨q.1, ⟨q.2.1.1, va_K.moved (u := U) (U := U.calling g mk z) (Vm.Alike.refl U.vm) q.2.1.2.1, ts_NW_same (s := U) (U := U.calling g mk z) rfl q.2.1.2.2.1, va_AO.moved (u := U) (U := U.calling g mk z) (Vm.Alike.refl U.vm) q.2.1.2.2.2⟩, st_E.moved (u := U) (U := U.calling g mk z) (Vm.Alike.refl U.vm) q.2.2⟩
def st_Mi (l : Launch) (y : MethodName) (w0 : Cond) (n : Nat) (D : va_G) (tys : List (ClassId × FieldType)) (a b : Nat) (av : List Value) (K : Int32 → Prop) : Prop :=
  Met l y (w0 :: ts_TB) (ts_rm n) (va_Pc av (st_P D tys a b)) (va_Qi (fun r (_ : Unit) => K r) (fun _ _ => True) st_no) 0 0 st_no
def st_Mv (l : Launch) (y : MethodName) (w0 : Cond) (n : Nat) (D : va_G) (tys : List (ClassId × FieldType)) (a b : Nat) (av : List Value) : Prop :=
  Met l y (w0 :: ts_TB) (ts_rm n) (va_Pc av (st_P D tys a b)) (va_Qv (fun _ : Unit => True) (fun _ _ => True) st_no) 0 0 st_no
section STR
variable {g : gw_Ctx} {D : va_G} {tys : List (ClassId × FieldType)} {cc : ByteArray} {nL : Nat} {own : String} {ws : va_W} {ce sl pc : Nat} {lv lv' : List (Nat × Value)} {st st0 As : List Value}
variable {y : MethodName} {cy : ByteArray} {ny n' index na : Nat} {ry : Option FieldType} {a b : Nat}
theorem st_get {o fn fd : String} {q : Nat} {v : Value} (X : gw_X g D tys cc nL own) (hE : va_OF o fn fd v q (gw_A g) (gw_s g) (gw_s g).heap) (hl : Cond.fieldLink own index o fn fd ∈ ts_TB) (d : decode cc pc = .ok (.getfield index, 3)) (k : gw_G g D nL ws ce sl (pc + 3) lv (v :: st)) : gw_G g D nL ws ce sl pc lv (.ref q :: st) :=
  fun H locs ls hP hD hS hl0 => vk_getf X.hx X.hb hE hS X.hown (X.hts _ hl) (fun _ h => h) d (k H locs ls hP hD hS hl0)
theorem st_gets {o fn fd : String} {v : Value} (X : gw_X g D tys cc nL own) (hE : va_Z o fn fd v (gw_A g) (gw_s g) (gw_s g).heap) (hl : Cond.fieldLink own index o fn fd ∈ ts_TB) (d : decode cc pc = .ok (.getstatic index, 3)) (k : gw_G g D nL ws ce sl (pc + 3) lv (v :: st)) : gw_G g D nL ws ce sl pc lv st :=
  fun H locs ls hP hD hS hl0 => va_gets X.hx X.hb hE hS X.hown (X.hts _ hl) (fun _ h => h) d (k H locs ls hP hD hS hl0)
theorem st_bald {t N : Nat} {f : Nat → Value} {i : Int32} {v : Value} (X : gw_X g D tys cc nL own) (hT : va_T .byte t N f (gw_A g) (gw_s g) (gw_s g).heap) (hin : vp_in i N) (hv : f i.toNatClampNeg = v) (d : decode cc pc = .ok (.baload, 1)) (k : gw_G g D nL ws ce sl (pc + 1) lv (v :: st)) : gw_G g D nL ws ce sl pc lv (.int i :: .ref t :: st) :=
  fun H locs ls hP hD hS hl0 => va_tb X.hx X.hb hT hS hin hv d (k H locs ls hP hD hS hl0)
theorem st_tlen {t N : Nat} {f : Nat → Value} {ty : FieldType} {v : Int32} (X : gw_X g D tys cc nL own) (hT : va_T ty t N f (gw_A g) (gw_s g) (gw_s g).heap) (hv : Int32.ofNat N = v) (d : decode cc pc = .ok (.arraylength, 1)) (k : gw_G g D nL ws ce sl (pc + 1) lv (.int v :: st)) : gw_G g D nL ws ce sl pc lv (.ref t :: st) :=
  fun H locs ls hP hD hS hl0 => va_tlen X.hx X.hb hT hS hv d (k H locs ls hP hD hS hl0)
theorem st_at (X : gw_X g D tys cc nL own) (E : st_E a b (gw_A g) (gw_s g) (gw_s g).heap) {H : Heap} {locs : List Loc} (hS : va_S (gw_A g) (gw_s g).heap H locs) (U : State) (hU : U.heap = H) (hW : (gw_s g).WarmedH U.vm) : st_P D tys a b U := by
  refine ⟨X.at (ws := []) rfl hW (fun k q h => by simp at h), ?_⟩
  rw [hU]
  exact (((E.kept hS.2.1).narrow (fun _ h => h.elim)).moved hW.alike)
theorem st_callV {K : Int32 → Prop} (X : gw_X g D tys cc nL own) (E : st_E a b (gw_A g) (gw_s g) (gw_s g).heap) (hq : y.cls = "java/lang/String") (hM : st_Mi g.2.1 y (Cond.code y cy ny ry) n' D tys a b (.ref a :: As) K) (ho : ts_ok y na) (cw : ts_cV own index y (Cond.code y cy ny ry)) (hR1 : n' + 1 ≤ (gw_R g).frames) (hR2 : 8 + (ny + 11) + 40 * n' ≤ (gw_R g).locals) (hce : ce ≤ (gw_R g).cells) (hsl : sl ≤ (gw_R g).slots) (hna : As.length = na) (hst : st0 = As.reverse ++ .ref a :: st) (hw : (st.map fun v => v.category).sum ≤ 8) (d : decode cc pc = .ok (.invokevirtual index, 3))
    (kk : ∀ r : Int32, K r → gw_G g D nL ws ce sl (pc + 3) lv (.int r :: st)) : gw_G g D nL ws ce sl pc lv st0 := by
  intro H locs ls hP hD hS hl
  subst hst
  obtain ⟨cell, c1, c2, c3, -⟩ := E.1.kept hS.2.1
  rw [← hq] at c3
  refine va_calli (va_runV (As := As) (rest := st) (C := y.cls) (n := na) (bytes := cy) (maxL := ny) (ret := ry) (Ts := ts_TB) (nL := nL) ⟨X.hx, X.hb, X.hml, X.hown, X.hts⟩ hM ⟨callB_of na X.hts (ts_goodIn' cw.2.2.2.2) rfl rfl rfl (X.hts _ cw.2.2.2.1) (X.hts _ cw.1) ho ⟨hR1, hR2⟩, X.hts _ cw.2.1, X.hts _ cw.2.2.1⟩ ⟨st_P.blind, ⟨cell, c1, c2, c3⟩, fun U hU hW => ⟨rfl, st_at X E hS U hU hW⟩⟩ rfl hna hl.1 rfl (lv_room hw) d ⟨hce, hsl⟩) hS (fun q _ h => h.elim) (fun q h => h.elim) (fun r u t H1 locs1 ht hvm hw hB hz1 hk1 hS1 => ?_)
  obtain ⟨hP2, hD2⟩ := gw_join (wr := ws) (wc := []) (w1 := []) (by rw [List.append_nil]; exact hP) (by rw [List.append_nil]; exact hD) (B := st_no) (fun q hq z => z.elim) hk1 (fun q h => h.elim) (fun k q h => by simp at h) ⟨fun i j p q h => by simp at h, fun k q h => by simp at h⟩
  rw [List.append_nil] at hP2 hD2
  exact kk r hw H1 locs1 ls hP2 hD2 hS1 hl
theorem st_callS {K : Int32 → Prop} (X : gw_X g D tys cc nL own) (E : st_E a b (gw_A g) (gw_s g) (gw_s g).heap) (hM : st_Mi g.2.1 y (Cond.code y cy ny ry) n' D tys a b As K) (ho : ts_ok y na) (cw : ts_cS own index y (Cond.code y cy ny ry)) (hR1 : n' + 1 ≤ (gw_R g).frames) (hR2 : 8 + (ny + 11) + 40 * n' ≤ (gw_R g).locals) (hce : ce ≤ (gw_R g).cells) (hsl : sl ≤ (gw_R g).slots) (hna : As.length = na) (hst : st0 = As.reverse ++ st) (hw : (st.map fun v => v.category).sum ≤ 8) (d : decode cc pc = .ok (.invokestatic index, 3))
    (kk : ∀ r : Int32, K r → gw_G g D nL ws ce sl (pc + 3) lv (.int r :: st)) : gw_G g D nL ws ce sl pc lv st0 := by
  intro H locs ls hP hD hS hl
  subst hst
  refine va_calli (va_runS (As := As) (rest := st) (n := na) (bytes := cy) (maxL := ny) (ret := ry) (Ts := ts_TB) (nL := nL) ⟨X.hx, X.hb, X.hml, X.hown, X.hts⟩ hM ⟨callB_of na X.hts (ts_goodIn' cw.2.2.2) rfl rfl rfl (X.hts _ cw.2.2.1) (X.hts _ cw.1) ho ⟨hR1, hR2⟩, X.hts _ cw.2.1⟩ ⟨st_P.blind, fun U hU hW => ⟨rfl, st_at X E hS U hU hW⟩⟩ rfl hna hl.1 rfl (lv_room hw) d ⟨hce, hsl⟩) hS (fun q _ h => h.elim) (fun q h => h.elim) (fun r u t H1 locs1 ht hvm hw hB hz1 hk1 hS1 => ?_)
  obtain ⟨hP2, hD2⟩ := gw_join (wr := ws) (wc := []) (w1 := []) (by rw [List.append_nil]; exact hP) (by rw [List.append_nil]; exact hD) (B := st_no) (fun q hq z => z.elim) hk1 (fun q h => h.elim) (fun k q h => by simp at h) ⟨fun i j p q h => by simp at h, fun k q h => by simp at h⟩
  rw [List.append_nil] at hP2 hD2
  exact kk r hw H1 locs1 ls hP2 hD2 hS1 hl
theorem st_callSv (X : gw_X g D tys cc nL own) (E : st_E a b (gw_A g) (gw_s g) (gw_s g).heap) (hM : st_Mv g.2.1 y (Cond.code y cy ny ry) n' D tys a b As) (ho : ts_ok y na) (cw : ts_cS own index y (Cond.code y cy ny ry)) (hR1 : n' + 1 ≤ (gw_R g).frames) (hR2 : 8 + (ny + 11) + 40 * n' ≤ (gw_R g).locals) (hce : ce ≤ (gw_R g).cells) (hsl : sl ≤ (gw_R g).slots) (hna : As.length = na) (hst : st0 = As.reverse ++ st) (hw : (st.map fun v => v.category).sum ≤ 8) (d : decode cc pc = .ok (.invokestatic index, 3))
    (kk : gw_G g D nL ws ce sl (pc + 3) lv st) : gw_G g D nL ws ce sl pc lv st0 := by
  intro H locs ls hP hD hS hl
  subst hst
  refine va_callv (va_runS (As := As) (rest := st) (n := na) (bytes := cy) (maxL := ny) (ret := ry) (Ts := ts_TB) (nL := nL) ⟨X.hx, X.hb, X.hml, X.hown, X.hts⟩ hM ⟨callB_of na X.hts (ts_goodIn' cw.2.2.2) rfl rfl rfl (X.hts _ cw.2.2.1) (X.hts _ cw.1) ho ⟨hR1, hR2⟩, X.hts _ cw.2.1⟩ ⟨st_P.blind, fun U hU hW => ⟨rfl, st_at X E hS U hU hW⟩⟩ rfl hna hl.1 rfl (lv_room hw) d ⟨hce, hsl⟩) hS (fun q _ h => h.elim) (fun q h => h.elim) (fun u t H1 locs1 ht hvm hw hB hz1 hk1 hS1 => ?_)
  obtain ⟨hP2, hD2⟩ := gw_join (wr := ws) (wc := []) (w1 := []) (by rw [List.append_nil]; exact hP) (by rw [List.append_nil]; exact hD) (B := st_no) (fun q hq z => z.elim) hk1 (fun q h => h.elim) (fun k q h => by simp at h) ⟨fun i j p q h => by simp at h, fun k q h => by simp at h⟩
  rw [List.append_nil] at hP2 hD2
  exact kk H1 locs1 ls hP2 hD2 hS1 hl
theorem st_Mi.of {l : Launch} {n : Nat} {av : List Value} {K : Int32 → Prop} {rt : FieldType} (hy : plainName y.cls = true) (hlen : (lg_sl av).length ≤ ny) (body : ∀ g : gw_Ctx, g.2.1 = l → gw_R g = ts_rm n → gw_X g D tys cy ny y.cls → st_E a b (gw_A g) (gw_s g) (gw_s g).heap → (∀ (pc : Nat) (lv : List (Nat × Value)) (v : Int32), K v → narrow rt (.int v) = .int v → decode cy pc = .ok (.ireturn, 1) → gw_G g D ny [] 0 0 pc lv [.int v]) → gw_G g D ny [] 0 0 0 (lv_args 0 av) []) : st_Mi l y (Cond.code y cy ny (some rt)) n D tys a b av K := by
  refine Met.ofW (cc := cy) (maxL := ny) (ret := some rt) hy rfl ?_
  intro p e s m args below meth c s₁ B hml hv
  obtain ⟨rfl, hAt, hE⟩ := hv
  rw [lg_entry_eq]
  have hr := B.returns
  have hlk := B.notSynchronized
  have X : gw_X (p, l, e, ts_rm n, s, m, av.toArray, below, meth, c, MQ below (va_Qi (fun r (_ : Unit) => K r) (fun _ _ => True) st_no) av.toArray s 0 0 st_no, st_no) D tys cy ny y.cls := ⟨B.exec, B.bytes, hml, findClass_of_methodNamed B.named, fun q hq => atoms_spec (ws := Cond.code y cy ny (some rt) :: ts_TB) B.pre q (List.mem_cons_of_mem _ hq), hAt.2.1, hAt.2.2.1, hAt.2.2.2⟩
  refine body _ rfl rfl X hE ?_ _ [] _ (fun k q h => by simp at h) ⟨fun i j p q h => by simp at h, fun k q h => by simp at h⟩ va_S.rf (lv_entry av hlen)
  intro pc lv v hK hn d H locs ls hP hD hS hl
  exact W.zret X.hx X.hb hr hn (fun t ht hW => ⟨⟨v, (), rfl, hK, trivial⟩, hS.F ht⟩) hS.2.2 d hlk
theorem st_Mv.of {l : Launch} {n : Nat} {av : List Value} (hy : plainName y.cls = true) (hlen : (lg_sl av).length ≤ ny) (body : ∀ g : gw_Ctx, g.2.1 = l → gw_R g = ts_rm n → gw_X g D tys cy ny y.cls → st_E a b (gw_A g) (gw_s g) (gw_s g).heap → (∀ (pc : Nat) (lv : List (Nat × Value)), decode cy pc = .ok (.return_, 1) → gw_G g D ny [] 0 0 pc lv []) → gw_G g D ny [] 0 0 0 (lv_args 0 av) []) : st_Mv l y (Cond.code y cy ny none) n D tys a b av := by
  refine Met.ofW (cc := cy) (maxL := ny) (ret := none) hy rfl ?_
  intro p e s m args below meth c s₁ B hml hv
  obtain ⟨rfl, hAt, hE⟩ := hv
  rw [lg_entry_eq]
  have hr := B.returns
  have hlk := B.notSynchronized
  have X : gw_X (p, l, e, ts_rm n, s, m, av.toArray, below, meth, c, MQ below (va_Qv (fun _ : Unit => True) (fun _ _ => True) st_no) av.toArray s 0 0 st_no, st_no) D tys cy ny y.cls := ⟨B.exec, B.bytes, hml, findClass_of_methodNamed B.named, fun q hq => atoms_spec (ws := Cond.code y cy ny none :: ts_TB) B.pre q (List.mem_cons_of_mem _ hq), hAt.2.1, hAt.2.2.1, hAt.2.2.2⟩
  refine body _ rfl rfl X hE ?_ _ [] _ (fun k q h => by simp at h) ⟨fun i j p q h => by simp at h, fun k q h => by simp at h⟩ va_S.rf (lv_entry av hlen)
  intro pc lv d H locs ls hP hD hS hl
  exact W.vret X.hx X.hb hr (fun t ht hW => ⟨⟨(), rfl, trivial, trivial⟩, hS.F ht⟩) hS.2.2 d hlk
end STR
theorem ok_J0_length : ts_ok yJ0_length_8abf5 0 := ⟨by decide +kernel, by decide +kernel, by decide +kernel⟩
theorem ok_J0_coder : ts_ok yJ0_coder_7d493 0 := ⟨by decide +kernel, by decide +kernel, by decide +kernel⟩
theorem ok_J0_charAt : ts_ok yJ0_charAt_5068e 1 := ⟨by decide +kernel, by decide +kernel, by decide +kernel⟩
theorem ok_J0_isLatin1 : ts_ok yJ0_isLatin1_aae02 0 := ⟨by decide +kernel, by decide +kernel, by decide +kernel⟩
theorem ok_J1_charAt : ts_ok yJ1_charAt_3b067 2 := ⟨by decide +kernel, by decide +kernel, by decide +kernel⟩
theorem ok_J0_checkIndex : ts_ok yJ0_checkIndex_df160 2 := ⟨by decide +kernel, by decide +kernel, by decide +kernel⟩
theorem ok_J3_checkIndex : ts_ok yJ3_checkIndex_8e157 3 := ⟨by decide +kernel, by decide +kernel, by decide +kernel⟩
theorem cw_X9_88 : ts_cV RX9 88 yJ0_length_8abf5 (Cond.code yJ0_length_8abf5 cJ0_length_8abf5 1 (some .int)) := ⟨kw_350, kw_351, kw_352, kw_70, kw_353⟩
theorem cw_X9_94 : ts_cV RX9 94 yJ0_charAt_5068e (Cond.code yJ0_charAt_5068e cJ0_charAt_5068e 2 (some .char)) := ⟨kw_360, kw_361, kw_362, kw_70, kw_363⟩
theorem cw_J0_335 : ts_cV RJ0 335 yJ0_coder_7d493 (Cond.code yJ0_coder_7d493 cJ0_coder_7d493 1 (some .byte)) := ⟨kw_354, kw_355, kw_356, kw_70, kw_357⟩
theorem cw_J0_492 : ts_cV RJ0 492 yJ0_isLatin1_aae02 (Cond.code yJ0_isLatin1_aae02 cJ0_isLatin1_aae02 1 (some .boolean)) := ⟨kw_364, kw_365, kw_366, kw_70, kw_367⟩
theorem cw_J0_495 : ts_cS RJ0 495 yJ1_charAt_3b067 (Cond.code yJ1_charAt_3b067 cJ1_charAt_3b067 2 (some .char)) := ⟨kw_368, kw_369, kw_71, kw_370⟩
theorem cw_J1_9 : ts_cS RJ1 9 yJ0_checkIndex_df160 (Cond.code yJ0_checkIndex_df160 cJ0_checkIndex_df160 2 none) := ⟨kw_371, kw_372, kw_70, kw_373⟩
theorem cw_J0_1059 : ts_cS RJ0 1059 yJ3_checkIndex_8e157 (Cond.code yJ3_checkIndex_8e157 cJ3_checkIndex_8e157 3 (some .int)) := ⟨kw_376, kw_377, kw_72, kw_378⟩
section STM
variable (l : Launch) (D : va_G) (tys : List (ClassId × FieldType)) (a b : Nat)
set_option maxRecDepth 100000 in
set_option maxHeartbeats 4000000 in
theorem ct_J0_coder : st_Mi l yJ0_coder_7d493 (Cond.code yJ0_coder_7d493 cJ0_coder_7d493 1 (some .byte)) 1 D tys a b [.ref a] (fun r => r = 0) := by
  refine st_Mi.of (by decide +kernel) (Nat.le_of_ble_eq_true rfl) ?_
  intro g hgl hgR X E hret
  show gw_G g D 1 [] 0 0 0 [(0, .ref a)] []
  refine st_gets X E.2.2.2.2.1 kw_358 dJ0_coder_7d493_0 ?_
  refine gw_if_eq 13 X dJ0_coder_7d493_3 (by decide) (fun c => absurd c (by decide)) (fun c => ?_)
  refine gw_aload_n X dJ0_coder_7d493_6 0 rfl ?_
  refine st_get X E.2.1 kw_1216 dJ0_coder_7d493_7 ?_
  refine gw_goto 14 X dJ0_coder_7d493_10 (by decide) ?_
  exact hret _ _ _ rfl rfl dJ0_coder_7d493_14
set_option maxRecDepth 100000 in
set_option maxHeartbeats 4000000 in
theorem ct_J0_length : st_Mi l yJ0_length_8abf5 (Cond.code yJ0_length_8abf5 cJ0_length_8abf5 1 (some .int)) 2 D tys a b [.ref a] (fun r => r = 88) := by
  refine st_Mi.of (by decide +kernel) (Nat.le_of_ble_eq_true rfl) ?_
  intro g hgl hgR X E hret
  show gw_G g D 1 [] 0 0 0 [(0, .ref a)] []
  refine gw_aload_n X dJ0_length_8abf5_0 0 rfl ?_
  refine st_get X E.2.2.1 kw_1215 dJ0_length_8abf5_1 ?_
  refine st_tlen X E.2.2.2.1 (v := 88) rfl dJ0_length_8abf5_4 ?_
  refine gw_aload_n X dJ0_length_8abf5_5 0 rfl ?_
  refine st_callV X E rfl (As := []) (n' := 1) (ct_J0_coder g.2.1 D tys a b) ok_J0_coder cw_J0_335 (by rw [hgR]; decide) (by rw [hgR]; decide) (by rw [hgR]; decide) (by rw [hgR]; decide) rfl rfl (Nat.le_of_ble_eq_true rfl) dJ0_length_8abf5_6 (fun r hr => ?_)
  subst hr
  refine gw_ishr X dJ0_length_8abf5_9 ?_
  exact hret _ _ _ (by decide) rfl dJ0_length_8abf5_10
set_option maxRecDepth 100000 in
set_option maxHeartbeats 4000000 in
theorem ct_J0_isLatin1 : st_Mi l yJ0_isLatin1_aae02 (Cond.code yJ0_isLatin1_aae02 cJ0_isLatin1_aae02 1 (some .boolean)) 1 D tys a b [.ref a] (fun r => r = 1) := by
  refine st_Mi.of (by decide +kernel) (Nat.le_of_ble_eq_true rfl) ?_
  intro g hgl hgR X E hret
  show gw_G g D 1 [] 0 0 0 [(0, .ref a)] []
  refine st_gets X E.2.2.2.2.1 kw_358 dJ0_isLatin1_aae02_0 ?_
  refine gw_if_eq 17 X dJ0_isLatin1_aae02_3 (by decide) (fun c => absurd c (by decide)) (fun c => ?_)
  refine gw_aload_n X dJ0_isLatin1_aae02_6 0 rfl ?_
  refine st_get X E.2.1 kw_1216 dJ0_isLatin1_aae02_7 ?_
  refine gw_if_ne 17 X dJ0_isLatin1_aae02_10 (by decide) (fun c => absurd rfl c) (fun c => ?_)
  refine gw_iconst X dJ0_isLatin1_aae02_13 (v := 1) (by decide) ?_
  refine gw_goto 18 X dJ0_isLatin1_aae02_14 (by decide) ?_
  exact hret _ _ _ rfl (by decide) dJ0_isLatin1_aae02_18
set_option maxRecDepth 100000 in
set_option maxHeartbeats 4000000 in
theorem ct_J3_checkIndex (i n : Int32) (z : Value) (hz : z = .null ∨ ∃ t, z = .ref t) (h0 : ¬ i < 0) (h1 : i < n) : st_Mi l yJ3_checkIndex_8e157 (Cond.code yJ3_checkIndex_8e157 cJ3_checkIndex_8e157 3 (some .int)) 1 D tys a b [.int i, .int n, z] (fun _ => True) := by
  refine st_Mi.of (by decide +kernel) (by rcases hz with rfl | ⟨t, rfl⟩ <;> exact Nat.le_of_ble_eq_true rfl) ?_
  intro g hgl hgR X E hret
  have k : gw_G g D 3 [] 0 0 0 [(0, .int i), (1, .int n), (2, z)] [] := by
    refine gw_iload_n X dJ3_checkIndex_8e157_0 0 rfl ?_
    refine gw_if_lt 9 X dJ3_checkIndex_8e157_1 (by decide) (fun c => absurd c h0) (fun c => ?_)
    refine gw_iload_n X dJ3_checkIndex_8e157_4 0 rfl ?_
    refine gw_iload_n X dJ3_checkIndex_8e157_5 1 rfl ?_
    refine gw_icmp_lt 16 X dJ3_checkIndex_8e157_6 (by decide) (fun c => ?_) (fun c => absurd h1 c)
    refine gw_iload_n X dJ3_checkIndex_8e157_16 0 rfl ?_
    exact hret _ _ _ trivial rfl dJ3_checkIndex_8e157_17
  rcases hz with rfl | ⟨t, rfl⟩ <;> exact k
set_option maxRecDepth 100000 in
set_option maxHeartbeats 4000000 in
theorem ct_J0_checkIndex (i n : Int32) (h0 : ¬ i < 0) (h1 : i < n) : st_Mv l yJ0_checkIndex_df160 (Cond.code yJ0_checkIndex_df160 cJ0_checkIndex_df160 2 none) 2 D tys a b [.int i, .int n] := by
  refine st_Mv.of (by decide +kernel) (Nat.le_of_ble_eq_true rfl) ?_
  intro g hgl hgR X E hret
  show gw_G g D 2 [] 0 0 0 [(0, .int i), (1, .int n)] []
  refine gw_iload_n X dJ0_checkIndex_df160_0 0 rfl ?_
  refine gw_iload_n X dJ0_checkIndex_df160_1 1 rfl ?_
  have k : ∀ z : Value, (z = .null ∨ ∃ t, z = .ref t) → va_Z "jdk/internal/util/Preconditions" "SIOOBE_FORMATTER" "Ljava/util/function/BiFunction;" z (gw_A g) (gw_s g) (gw_s g).heap → gw_G g D 2 [] 0 0 2 [(0, .int i), (1, .int n)] [.int n, .int i] := by
    intro z hz hE
    refine st_gets X hE kw_374 dJ0_checkIndex_df160_2 ?_
    refine st_callS X E (As := [.int i, .int n, z]) (n' := 1) (st := []) (ct_J3_checkIndex g.2.1 D tys a b i n z hz h0 h1) ok_J3_checkIndex cw_J0_1059 (by rw [hgR]; decide) (by rw [hgR]; decide) (by rw [hgR]; decide) (by rw [hgR]; decide) rfl rfl (Nat.le_of_ble_eq_true rfl) dJ0_checkIndex_df160_5 (fun r hr => ?_)
    refine gw_pop X dJ0_checkIndex_df160_8 rfl ?_
    exact hret _ _ dJ0_checkIndex_df160_9
  rcases E.2.2.2.2.2 with h | ⟨t, h⟩
  · exact k _ (Or.inl rfl) h
  · exact k _ (Or.inr ⟨t, rfl⟩) h
theorem st_nar : ∀ i, i < 88 → narrow .char (.int (((st_by.getD i 0 &&& 255).toUInt32 % 65536).toInt32)) = .int (((st_by.getD i 0 &&& 255).toUInt32 % 65536).toInt32) ∧ ((st_by.getD i 0 &&& 255).toUInt32 % 65536).toInt32 = st_by.getD i 0 := by decide +kernel
set_option maxRecDepth 100000 in
set_option maxHeartbeats 4000000 in
theorem ct_J1_charAt (i : Nat) (hi : i < 88) : st_Mi l yJ1_charAt_3b067 (Cond.code yJ1_charAt_3b067 cJ1_charAt_3b067 2 (some .char)) 3 D tys a b [.ref b, .int (nI i)] (fun r => r = st_by.getD i 0) := by
  refine st_Mi.of (by decide +kernel) (Nat.le_of_ble_eq_true rfl) ?_
  intro g hgl hgR X E hret
  show gw_G g D 2 [] 0 0 0 [(0, .ref b), (1, .int (nI i))] []
  refine gw_iload_n X dJ1_charAt_3b067_0 1 rfl ?_
  refine gw_aload_n X dJ1_charAt_3b067_1 0 rfl ?_
  refine st_tlen X E.2.2.2.1 (v := nI 88) rfl dJ1_charAt_3b067_2 ?_
  refine st_callSv X E (As := [.int (nI i), .int (nI 88)]) (n' := 2) (st := []) (ct_J0_checkIndex g.2.1 D tys a b (nI i) (nI 88) (nI_pos (by omega)) (nI_lt hi (by omega))) ok_J0_checkIndex cw_J1_9 (by rw [hgR]; decide) (by rw [hgR]; decide) (by rw [hgR]; decide) (by rw [hgR]; decide) rfl rfl (Nat.le_of_ble_eq_true rfl) dJ1_charAt_3b067_3 ?_
  refine gw_aload_n X dJ1_charAt_3b067_6 0 rfl ?_
  refine gw_iload_n X dJ1_charAt_3b067_7 1 rfl ?_
  refine st_bald X E.2.2.2.1 (v := .int (st_by.getD i 0)) (vp_in_nI hi (by omega)) (by show Value.int (st_by.getD (nI i).toNatClampNeg 0) = _; rw [nI_clamp (by omega)]) dJ1_charAt_3b067_8 ?_
  refine gw_sipush X dJ1_charAt_3b067_9 (v := 255) (by decide) ?_
  refine gw_iand X dJ1_charAt_3b067_12 ?_
  refine gw_i2c X dJ1_charAt_3b067_13 ?_
  exact hret _ _ _ (st_nar i hi).2 (st_nar i hi).1 dJ1_charAt_3b067_14
set_option maxRecDepth 100000 in
set_option maxHeartbeats 4000000 in
theorem ct_J0_charAt (i : Nat) (hi : i < 88) : st_Mi l yJ0_charAt_5068e (Cond.code yJ0_charAt_5068e cJ0_charAt_5068e 2 (some .char)) 4 D tys a b [.ref a, .int (nI i)] (fun r => r = st_by.getD i 0) := by
  refine st_Mi.of (by decide +kernel) (Nat.le_of_ble_eq_true rfl) ?_
  intro g hgl hgR X E hret
  show gw_G g D 2 [] 0 0 0 [(0, .ref a), (1, .int (nI i))] []
  refine gw_aload_n X dJ0_charAt_5068e_0 0 rfl ?_
  refine st_callV X E rfl (As := []) (n' := 1) (st := []) (ct_J0_isLatin1 g.2.1 D tys a b) ok_J0_isLatin1 cw_J0_492 (by rw [hgR]; decide) (by rw [hgR]; decide) (by rw [hgR]; decide) (by rw [hgR]; decide) rfl rfl (Nat.le_of_ble_eq_true rfl) dJ0_charAt_5068e_1 (fun r hr => ?_)
  subst hr
  refine gw_if_eq 16 X dJ0_charAt_5068e_4 (by decide) (fun c => absurd c (by decide)) (fun c => ?_)
  refine gw_aload_n X dJ0_charAt_5068e_7 0 rfl ?_
  refine st_get X E.2.2.1 kw_1215 dJ0_charAt_5068e_8 ?_
  refine gw_iload_n X dJ0_charAt_5068e_11 1 rfl ?_
  refine st_callS X E (As := [.ref b, .int (nI i)]) (n' := 3) (st := []) (ct_J1_charAt g.2.1 D tys a b i hi) ok_J1_charAt cw_J0_495 (by rw [hgR]; decide) (by rw [hgR]; decide) (by rw [hgR]; decide) (by rw [hgR]; decide) rfl rfl (Nat.le_of_ble_eq_true rfl) dJ0_charAt_5068e_12 (fun r hr => ?_)
  subst hr
  have e := (st_nar i hi).1
  rw [(st_nar i hi).2] at e
  exact hret _ _ _ rfl e dJ0_charAt_5068e_15
end STM
