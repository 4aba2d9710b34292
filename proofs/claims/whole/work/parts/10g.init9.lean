/-! the class's constructor, from where all cells are made -/
def st_tx : String := "h6;p0,5,12,8;p1,3,30,5;p2,4,25,6;p3,5,14,2;p3,5,13,3;p0,1,60,9;w5,2;w4,1;w3,1;w1,1;w0,1;"
theorem gw_ldcS {g : gw_Ctx} {D : va_G} {tys : List (ClassId × FieldType)} {cc : ByteArray} {nL : Nat} {own tx : String} {ws : va_W} {ce sl pc index q : Nat} {lv : List (Nat × Value)} {st : List Value} (X : gw_X g D tys cc nL own) (hZ : vk_R own index tx q (gw_s g)) (d : decode cc pc = .ok (.ldc index, 2)) (k : gw_G g D nL ws ce sl (pc + 2) lv (.ref q :: st)) : gw_G g D nL ws ce sl pc lv st :=
  fun H locs ls hP hD hS hl => va_ldcS X.hx X.hb X.hown hZ d (k H locs ls hP hD hS hl)
theorem wrt0 : wrt 0 s0X := by
  refine ⟨⟨rfl, fun i hi => absurd hi (Nat.not_lt_zero i)⟩, fun i hi p hp => ⟨⟨false, ?_⟩, ⟨false, ?_⟩⟩, rfl⟩
  · rw [s0_z (by omega) (by omega)]; rfl
  · rw [s0_z (by omega) (by omega)]; rfl
def x9R : Room := { frames := 8, cells := 150, slots := 1091, locals := 400 }
set_option maxRecDepth 100000 in
set_option maxHeartbeats 4000000 in
theorem x9_tail {g : gw_Ctx} {v : tX_V} {p a0 b0 : Nat} (hgR : gw_R g = x9R) (X : gw_X g v.1 (tX_ty v) cX9_init 3 RX9) (E : st_E a0 b0 (gw_A g) (gw_s g) (gw_s g).heap) (hZ : vk_R RX9 86 st_tx a0 (gw_s g)) (hret : ∀ (σ : ts_S) (pc : Nat) (lv : List (Nat × Value)), rX σ Uf → decode cX9_init pc = .ok (.return_, 1) → gw_G g v.1 3 (ts_wd (tX_w v) σ) 150 1091 pc lv []) : gw_G g v.1 3 (ts_wd (tX_w v) s0X) 150 1091 158 [(1, .ref p), (0, .ref (tX_ad v 0))] [] := by
  have he : ∀ σ : ts_S, ([] ++ ts_wd (tX_w v) σ)[0]? = some (tX_ad v 0, .inr (9, [.ref (tX_ad v 1), .ref (tX_ad v 37), .ref (tX_ad v 31), .ref (tX_ad v 43), .ref (tX_ad v 4), .ref (tX_ad v 6), .int (σ 0 6), .ref (tX_ad v 7), .ref (tX_ad v 11), .ref (tX_ad v 16), .ref (tX_ad v 20), .ref (tX_ad v 21)])) := fun σ => ts_w_get (E := tX_E v) (ad := tX_ad v) (σ := σ) (k := 0) (show 0 < 151 by decide)
  refine gw_iconst X dX9_init_158 (v := nI 0) (by decide) ?_
  refine gw_istore_n X dX9_init_159 (by decide) (lv' := [(2, .int (nI 0)), (1, .ref p), (0, .ref (tX_ad v 0))]) rfl ?_
  refine gw_as (ws' := [] ++ ts_wd (tX_w v) s0X) rfl ?_
  refine ts_down (P := fun i => ∀ σ : ts_S, wrt i σ → gw_G g v.1 3 ([] ++ ts_wd (tX_w v) σ) 150 1091 160 [(2, .int (nI i)), (1, .ref p), (0, .ref (tX_ad v 0))] []) 88 ?_ ?_ s0X wrt0
  · intro σ hσ
    refine gw_iload_n X dX9_init_160 0 rfl ?_
    refine gw_ldcS X hZ dX9_init_161 ?_
    refine st_callV X E rfl (As := []) (n' := 2) (st := [.int (nI 88)]) (ct_J0_length g.2.1 v.1 (tX_ty v) a0 b0) ok_J0_length cw_X9_88 (by rw [hgR]; decide) (by rw [hgR]; decide) (by rw [hgR]; decide) (by rw [hgR]; decide) rfl rfl (Nat.le_of_ble_eq_true rfl) dX9_init_163 (fun r hr => ?_)
    subst hr
    refine gw_icmp_ge 189 X dX9_init_166 (by decide) (fun c => ?_) (fun c => absurd (by decide) c)
    refine gw_aload_n X dX9_init_189 2 rfl ?_
    refine gw_get X tw_X9 (he σ) rfl 0 (by decide) kw_469 rfl dX9_init_190 ?_
    refine gw_aload_n X dX9_init_193 2 rfl ?_
    refine gw_get X tw_X9 (he σ) rfl 1 (by decide) kw_470 rfl dX9_init_194 ?_
    refine gw_callVi (w := tX_w v) (σ := σ) (k := 1) (n := 5) (As := [.ref (tX_ad v 37)]) (st := []) (K := fun _ σ' => txo σ' 88 Lf ∧ bzA σ' ∧ dr σ' Pf11 Tf6 ∧ σ' 4 1 = nI 0) X rfl rfl (by decide : 1 < 151) rfl rfl rfl (fun hi => ct_X6_readInto g.2.1 v hi _ _ 37 (tX_Tc 1 (by decide) rfl) (ix_read hσ (fun σ' a b c d => ⟨a, b, c, d⟩))) ok_X6_readInto cw_X9_102 (by rw [hgR]; decide) (by rw [hgR]; decide) (by rw [hgR]; decide) (by rw [hgR]; decide) rfl rfl (Nat.le_of_ble_eq_true rfl) dX9_init_197 (fun r σ1 h1 => ?_)
    refine gw_pop X dX9_init_200 rfl ?_
    refine gw_aload_n X dX9_init_201 2 rfl ?_
    refine gw_callVv (w := tX_w v) (σ := σ1) (k := 0) (n := 2) (As := []) (st := []) (K := fun σ' => rX σ' (Pf11, Tf6, (88, Lf), (0, fun _ => T0), (0, fun _ => T0), (0, fun _ => (0, 0, false)))) X rfl rfl (by decide : 0 < 151) rfl rfl rfl (fun hi => ct_X9_takeDraft g.2.1 v hi _ _ (ix_take h1.1 h1.2.1 h1.2.2.1 h1.2.2.2 (fun σ' h => h))) ok_X9_takeDraft cw_X9_106 (by rw [hgR]; decide) (by rw [hgR]; decide) (by rw [hgR]; decide) (by rw [hgR]; decide) rfl rfl (Nat.le_of_ble_eq_true rfl) dX9_init_202 (fun σ2 h2 => ?_)
    refine gw_aload_n X dX9_init_205 2 rfl ?_
    refine gw_get X tw_X9 (he σ2) rfl 0 (by decide) kw_469 rfl dX9_init_206 ?_
    refine gw_callVv (w := tX_w v) (σ := σ2) (k := 1) (n := 1) (As := []) (st := []) (K := fun σ' => rX σ' Uf) X rfl rfl (by decide : 1 < 151) rfl rfl rfl (fun hi => ct_X6_clear g.2.1 v hi _ _ (ix_clear h2 (fun σ' h => h))) ok_X6_clear cw_X9_109 (by rw [hgR]; decide) (by rw [hgR]; decide) (by rw [hgR]; decide) (by rw [hgR]; decide) rfl rfl (Nat.le_of_ble_eq_true rfl) dX9_init_209 (fun σ3 h3 => ?_)
    exact hret σ3 _ _ h3 dX9_init_212
  · intro i hi ih σ hσ
    refine gw_iload_n X dX9_init_160 0 rfl ?_
    refine gw_ldcS X hZ dX9_init_161 ?_
    refine st_callV X E rfl (As := []) (n' := 2) (st := [.int (nI i)]) (ct_J0_length g.2.1 v.1 (tX_ty v) a0 b0) ok_J0_length cw_X9_88 (by rw [hgR]; decide) (by rw [hgR]; decide) (by rw [hgR]; decide) (by rw [hgR]; decide) rfl rfl (Nat.le_of_ble_eq_true rfl) dX9_init_163 (fun r hr => ?_)
    subst hr
    refine gw_icmp_ge 189 X dX9_init_166 (by decide) (fun c => absurd c (nI_ge (b := 88) hi (by omega))) (fun c => ?_)
    refine gw_aload_n X dX9_init_169 2 rfl ?_
    refine gw_get X tw_X9 (he σ) rfl 0 (by decide) kw_469 rfl dX9_init_170 ?_
    refine gw_ldcS X hZ dX9_init_173 ?_
    refine gw_iload_n X dX9_init_175 0 rfl ?_
    refine st_callV X E rfl (As := [.int (nI i)]) (n' := 4) (st := [.ref (tX_ad v 1)]) (ct_J0_charAt g.2.1 v.1 (tX_ty v) a0 b0 i hi) ok_J0_charAt cw_X9_94 (by rw [hgR]; decide) (by rw [hgR]; decide) (by rw [hgR]; decide) (by rw [hgR]; decide) rfl rfl (Nat.le_of_ble_eq_true rfl) dX9_init_176 (fun r hr => ?_)
    rw [(Lf_by i hi).1] at hr
    subst hr
    refine gw_callVi (w := tX_w v) (σ := σ) (k := 1) (n := 1) (As := [.int (nI (Lf i))]) (st := []) (K := fun _ σ' => wrt (i + 1) σ') X rfl rfl (by decide : 1 < 151) rfl rfl rfl (fun hj => ct_X6_add g.2.1 v hj _ _ _ (ix_add hσ hi (fun σ' h => h))) ok_X6_add cw_X9_98 (by rw [hgR]; decide) (by rw [hgR]; decide) (by rw [hgR]; decide) (by rw [hgR]; decide) rfl rfl (Nat.le_of_ble_eq_true rfl) dX9_init_179 (fun r σ1 h1 => ?_)
    refine gw_pop X dX9_init_182 rfl ?_
    refine gw_iinc X dX9_init_183 0 rfl (v := nI (i + 1)) (nI_1 i) (by decide) (lv' := [(2, .int (nI (i + 1))), (1, .ref p), (0, .ref (tX_ad v 0))]) rfl ?_
    refine gw_goto 160 X dX9_init_186 (by decide) ?_
    exact ih σ1 h1
