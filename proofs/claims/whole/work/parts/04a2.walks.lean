set_option maxRecDepth 100000 in
set_option maxHeartbeats 4000000 in
theorem ct_X9_commonDivisor (l : Launch) (v : tX_V) (hi : ts_inj 151 (tX_ad v)) (K : Int32 → ts_S → Prop) (σ : ts_S) (a0 : Int32) (a1 : Int32)  (hw : wp_X9_commonDivisor K σ a0 a1) : ts_Mi l yX9_commonDivisor (Cond.code yX9_commonDivisor cX9_commonDivisor 4 (some .int)) 1 (tX_w v) [.int a0, .int a1] σ K := by
  refine ts_Mi.of_i (w := tX_w v) hi (by decide +kernel) (Nat.le_of_ble_eq_true rfl) ?_
  intro g hgl hgn X hret
  have J2 : ∀ (σ : ts_S) (x0 : Int32) (x1 : Int32) (x2 : Int32), wp_X9_commonDivisor_l2 K a0 a1 σ x0 x1 x2 → ts_G g (tX_w v) 4 σ 2 [(0, .int x0), (1, .int x1), (2, .int x2)] [] := by
    intro  σ x0 x1 x2 hw
    have key : ∀ X2 : ts_S → Int32 → Int32 → Int32 → Prop, (∀ (σ : ts_S) (x0 : Int32) (x1 : Int32) (x2 : Int32), X2 σ x0 x1 x2 → ts_G g (tX_w v) 4 σ 2 [(0, .int x0), (1, .int x1), (2, .int x2)] []) → ∀ (σ : ts_S) (x0 : Int32) (x1 : Int32) (x2 : Int32), wp_X9_commonDivisor_b2 K X2 a0 a1  σ x0 x1 x2 → ts_G g (tX_w v) 4 σ 2 [(0, .int x0), (1, .int x1), (2, .int x2)] [] := by
      intro X2 hX2
      intro σ x0 x1 x2 hw
      unfold wp_X9_commonDivisor_b2 at hw
      refine ts_iload_n X dX9_commonDivisor_2 2 rfl ?_
      refine ts_bipush X dX9_commonDivisor_3 (v := 100) (by decide) ?_
      refine ts_icmp_ge 26 X dX9_commonDivisor_5 (by decide) (fun c => ?_) (fun c => ?_)
      · have hw := ts_itp hw c
        refine ts_iload_n X dX9_commonDivisor_26 0 rfl ?_
        exact hret _ _ _ _ hw dX9_commonDivisor_27
      · have hw := ts_itn hw c
        refine ts_iload_n X dX9_commonDivisor_8 1 rfl ?_
        refine ts_if_eq 26 X dX9_commonDivisor_9 (by decide) (fun c => ?_) (fun c => ?_)
        · have hw := ts_itp hw c
          refine ts_iload_n X dX9_commonDivisor_26 0 rfl ?_
          exact hret _ _ _ _ hw dX9_commonDivisor_27
        · have hw := ts_itn hw c
          refine ts_iload_n X dX9_commonDivisor_12 0 rfl ?_
          refine ts_iload_n X dX9_commonDivisor_13 1 rfl ?_
          refine ts_irem X dX9_commonDivisor_14 hw.1 ?_
          have hw := hw.2
          refine ts_istore_n X dX9_commonDivisor_15 (by decide) (lv' := [(3, .int (x0 - x0 / x1 * x1)), (0, .int x0), (1, .int x1), (2, .int x2)]) rfl ?_
          refine ts_iload_n X dX9_commonDivisor_16 2 rfl ?_
          refine ts_istore_n X dX9_commonDivisor_17 (by decide) (lv' := [(0, .int x1), (3, .int (x0 - x0 / x1 * x1)), (1, .int x1), (2, .int x2)]) rfl ?_
          refine ts_iload_n X dX9_commonDivisor_18 1 rfl ?_
          refine ts_istore_n X dX9_commonDivisor_19 (by decide) (lv' := [(1, .int (x0 - x0 / x1 * x1)), (0, .int x1), (3, .int (x0 - x0 / x1 * x1)), (2, .int x2)]) rfl ?_
          refine ts_iinc X dX9_commonDivisor_20 3 rfl (v := x2 + 1) rfl (by decide) (lv' := [(2, .int (x2 + 1)), (1, .int (x0 - x0 / x1 * x1)), (0, .int x1), (3, .int (x0 - x0 / x1 * x1))]) rfl ?_
          refine ts_goto 2 X dX9_commonDivisor_23 (by decide) ?_
          exact ts_sub [2, 1, 0] rfl (hX2 _ _ _ _ hw)
    exact hw _ (fun σ x0 x1 x2 h => key _ (fun _ _ _ _ h => h) σ x0 x1 x2 h)
  unfold wp_X9_commonDivisor at hw
  show ts_G g (tX_w v) 4 σ 0 [(0, .int a0), (1, .int a1)] []
  refine ts_iconst X dX9_commonDivisor_0 (v := 0) (by decide) ?_
  refine ts_istore_n X dX9_commonDivisor_1 (by decide) (lv' := [(2, .int 0), (0, .int a0), (1, .int a1)]) rfl ?_
  exact ts_sub [1, 2, 0] rfl (J2  _ _ _ _ hw)
set_option maxRecDepth 100000 in
set_option maxHeartbeats 4000000 in
theorem ct_X9_drawOf (l : Launch) (v : tX_V) (hi : ts_inj 151 (tX_ad v)) (K : Int32 → ts_S → Prop) (σ : ts_S) (a0 : Int32) (a1 : Int32)  (hw : wp_X9_drawOf K σ a0 a1) : ts_Mi l yX9_drawOf (Cond.code yX9_drawOf cX9_drawOf 4 (some .int)) 1 (tX_w v) [.int a0, .int a1] σ K := by
  refine ts_Mi.of_i (w := tX_w v) hi (by decide +kernel) (Nat.le_of_ble_eq_true rfl) ?_
  intro g hgl hgn X hret
  unfold wp_X9_drawOf at hw
  show ts_G g (tX_w v) 4 σ 0 [(0, .int a0), (1, .int a1)] []
  refine ts_ldc2 X kw_844 dX9_drawOf_0 ?_
  refine ts_iload_n X dX9_drawOf_3 0 rfl ?_
  refine ts_i2l X dX9_drawOf_4 ?_
  refine ts_lmul X dX9_drawOf_5 ?_
  refine ts_ldc2 X kw_845 dX9_drawOf_6 ?_
  refine ts_iload_n X dX9_drawOf_9 1 rfl ?_
  refine ts_i2l X dX9_drawOf_10 ?_
  refine ts_lmul X dX9_drawOf_11 ?_
  refine ts_ladd X dX9_drawOf_12 ?_
  refine ts_lconst X dX9_drawOf_13 (v := 1) (by decide) ?_
  refine ts_ladd X dX9_drawOf_14 ?_
  refine ts_lstore_n X dX9_drawOf_15 (by decide) (lv' := [(2, .long (((7919 * a0.toInt64) + (6151 * a1.toInt64)) + 1)), (0, .int a0), (1, .int a1)]) rfl ?_
  refine ts_lload_n X dX9_drawOf_16 0 rfl ?_
  refine ts_lload_n X dX9_drawOf_17 0 rfl ?_
  refine ts_lmul X dX9_drawOf_18 ?_
  refine ts_ldc2 X kw_846 dX9_drawOf_19 ?_
  refine ts_lrem X dX9_drawOf_22 hw.1 ?_
  have hw := hw.2
  refine ts_ldc2 X kw_847 dX9_drawOf_23 ?_
  refine ts_ldiv X dX9_drawOf_26 hw.1 ?_
  have hw := hw.2
  refine ts_l2i X dX9_drawOf_27 ?_
  exact hret _ _ _ _ hw dX9_drawOf_28
set_option maxRecDepth 100000 in
set_option maxHeartbeats 4000000 in
theorem ct_X8_actBy (l : Launch) (v : tX_V) (hi : ts_inj 151 (tX_ad v)) (K : ts_S → Prop) (σ : ts_S) (t : Nat) (a1 : Int32) (ht : tX_T t) (hw : wp_X8_actBy K σ t a1) : ts_Mv l yX8_actBy (Cond.code yX8_actBy cX8_actBy 4 (none)) 5 (tX_w v) [.ref (tX_ad v t), .int a1] σ K := by
  refine ts_Mv.of_v (w := tX_w v) hi (by decide +kernel) (Nat.le_of_ble_eq_true rfl) ?_
  intro g hgl hgn X hret
  have J72 : ∀ (σ : ts_S) (x2 : Int32) (x3 : Int32), wp_X8_actBy_j72 K t a1 σ x2 x3 → ts_G g (tX_w v) 4 σ 72 [(0, .ref (tX_ad v t)), (2, .int x2), (3, .int x3)] [] := by
    intro  σ x2 x3 hw
    unfold wp_X8_actBy_j72 at hw
    refine ts_iload_n X dX8_actBy_72 2 rfl ?_
    refine ts_iconst X dX8_actBy_73 (v := 3) (by decide) ?_
    refine ts_icmp_ne 90 X dX8_actBy_74 (by decide) (fun c => ?_) (fun c => ?_)
    · have hw := ts_itn hw c
      exact hret _ _ _ hw dX8_actBy_90
    · have hw := ts_itp hw c
      refine ts_aload_n X dX8_actBy_77 0 rfl ?_
      refine ts_iload_n X dX8_actBy_78 1 rfl ?_
      refine ts_callVi (w := tX_w v) X (k := t) (ht).lt (tX_eT ht _) rfl rfl (As := [.int x2]) (ct_X8_mayBeCalled g.2.1 v hi _ _ _ _ ht hw) ok_X8_mayBeCalled cw_X8_120 (ts_le hgn (by decide)) (by decide) rfl rfl (Nat.le_of_ble_eq_true rfl) dX8_actBy_79 (fun r13 s14 hw => ?_)
      refine ts_if_eq 90 X dX8_actBy_82 (by decide) (fun c => ?_) (fun c => ?_)
      · have hw := ts_itp hw c
        exact hret _ _ _ hw dX8_actBy_90
      · have hw := ts_itn hw c
        refine ts_aload_n X dX8_actBy_85 0 rfl ?_
        refine ts_iload_n X dX8_actBy_86 1 rfl ?_
        refine ts_callVv (w := tX_w v) X (k := t) (ht).lt (tX_eT ht _) rfl rfl (As := [.int x2]) (ct_X8_hearCall g.2.1 v hi _ _ _ _ ht hw) ok_X8_hearCall cw_X8_123 (ts_le hgn (by decide)) (by decide) rfl rfl (Nat.le_of_ble_eq_true rfl) dX8_actBy_87 (fun s16 hw => ?_)
        exact hret _ _ _ hw dX8_actBy_90
  have J51 : ∀ (σ : ts_S) (x2 : Int32) (x3 : Int32), wp_X8_actBy_j51 K t a1 σ x2 x3 → ts_G g (tX_w v) 4 σ 51 [(0, .ref (tX_ad v t)), (2, .int x2), (3, .int x3)] [] := by
    intro  σ x2 x3 hw
    unfold wp_X8_actBy_j51 at hw
    refine ts_iload_n X dX8_actBy_51 2 rfl ?_
    refine ts_iconst X dX8_actBy_52 (v := 2) (by decide) ?_
    refine ts_icmp_ne 72 X dX8_actBy_53 (by decide) (fun c => ?_) (fun c => ?_)
    · have hw := ts_itn hw c
      exact ts_sub [0, 1, 2] rfl (J72  _ _ _ hw)
    · have hw := ts_itp hw c
      refine ts_aload_n X dX8_actBy_56 0 rfl ?_
      refine ts_iload_n X dX8_actBy_57 1 rfl ?_
      refine ts_callVi (w := tX_w v) X (k := t) (ht).lt (tX_eT ht _) rfl rfl (As := [.int x2]) (ct_X8_mayGoUp g.2.1 v hi _ _ _ _ ht hw) ok_X8_mayGoUp cw_X8_114 (ts_le hgn (by decide)) (by decide) rfl rfl (Nat.le_of_ble_eq_true rfl) dX8_actBy_58 (fun r17 s18 hw => ?_)
      refine ts_if_eq 72 X dX8_actBy_61 (by decide) (fun c => ?_) (fun c => ?_)
      · have hw := ts_itp hw c
        exact ts_sub [0, 1, 2] rfl (J72  _ _ _ hw)
      · have hw := ts_itn hw c
        refine ts_aload_n X dX8_actBy_64 0 rfl ?_
        refine ts_iload_n X dX8_actBy_65 1 rfl ?_
        refine ts_callVv (w := tX_w v) X (k := t) (ht).lt (tX_eT ht _) rfl rfl (As := [.int x2]) (ct_X8_goUp g.2.1 v hi _ _ _ _ ht hw) ok_X8_goUp cw_X8_117 (ts_le hgn (by decide)) (by decide) rfl rfl (Nat.le_of_ble_eq_true rfl) dX8_actBy_66 (fun s20 hw => ?_)
        refine ts_goto 90 X dX8_actBy_69 (by decide) ?_
        exact hret _ _ _ hw dX8_actBy_90
  unfold wp_X8_actBy at hw
  show ts_G g (tX_w v) 4 σ 0 [(0, .ref (tX_ad v t)), (1, .int a1)] []
  refine ts_aload_n X dX8_actBy_0 0 rfl ?_
  refine gf_X8_28 X ht (q := tX_pl t) rfl dX8_actBy_1 ?_
  refine gf_X8_51 X (tX_Lp t) dX8_actBy_4 ?_
  refine ts_iconst X dX8_actBy_7 (v := 1) (by decide) ?_
  refine ts_icmp_ge 12 X dX8_actBy_8 (by decide) (fun c => ?_) (fun c => ?_)
  · have hw := ts_itp hw c
    refine ts_iload_n X dX8_actBy_12 1 rfl ?_
    refine ts_aload_n X dX8_actBy_13 0 rfl ?_
    refine gf_X8_28 X ht (q := tX_pl t) rfl dX8_actBy_14 ?_
    refine gf_X8_51 X (tX_Lp t) dX8_actBy_17 ?_
    refine ts_irem X dX8_actBy_20 hw.1 ?_
    have hw := hw.2
    refine ts_istore_n X dX8_actBy_21 (by decide) (lv' := [(2, .int (a1 - a1 / (σ (tX_pl t) 1) * (σ (tX_pl t) 1))), (0, .ref (tX_ad v t)), (1, .int a1)]) rfl ?_
    refine ts_iload_n X dX8_actBy_22 2 rfl ?_
    refine ts_bipush X dX8_actBy_23 (v := 8) (by decide) ?_
    refine ts_idiv X dX8_actBy_25 hw.1 ?_
    have hw := hw.2
    refine ts_bipush X dX8_actBy_26 (v := 6) (by decide) ?_
    refine ts_irem X dX8_actBy_28 hw.1 ?_
    have hw := hw.2
    refine ts_istore_n X dX8_actBy_29 (by decide) (lv' := [(3, .int ((a1 / 8) - (a1 / 8) / 6 * 6)), (2, .int (a1 - a1 / (σ (tX_pl t) 1) * (σ (tX_pl t) 1))), (0, .ref (tX_ad v t)), (1, .int a1)]) rfl ?_
    refine ts_iload_n X dX8_actBy_30 0 rfl ?_
    refine ts_iconst X dX8_actBy_31 (v := 1) (by decide) ?_
    refine ts_icmp_gt 51 X dX8_actBy_32 (by decide) (fun c => ?_) (fun c => ?_)
    · have hw := ts_itp hw c
      exact ts_sub [2, 1, 0] rfl (J51  _ _ _ hw)
    · have hw := ts_itn hw c
      refine ts_aload_n X dX8_actBy_35 2 rfl ?_
      refine ts_iload_n X dX8_actBy_36 1 rfl ?_
      refine ts_callVi (w := tX_w v) X (k := t) (ht).lt (tX_eT ht _) rfl rfl (As := [.int (a1 - a1 / (σ (tX_pl t) 1) * (σ (tX_pl t) 1))]) (ct_X8_mayGoDown g.2.1 v hi _ _ _ _ ht hw) ok_X8_mayGoDown cw_X8_107 (ts_le hgn (by decide)) (by decide) rfl rfl (Nat.le_of_ble_eq_true rfl) dX8_actBy_37 (fun r21 s22 hw => ?_)
      refine ts_if_eq 51 X dX8_actBy_40 (by decide) (fun c => ?_) (fun c => ?_)
      · have hw := ts_itp hw c
        exact ts_sub [2, 1, 0] rfl (J51  _ _ _ hw)
      · have hw := ts_itn hw c
        refine ts_aload_n X dX8_actBy_43 2 rfl ?_
        refine ts_iload_n X dX8_actBy_44 1 rfl ?_
        refine ts_callVv (w := tX_w v) X (k := t) (ht).lt (tX_eT ht _) rfl rfl (As := [.int (a1 - a1 / (σ (tX_pl t) 1) * (σ (tX_pl t) 1))]) (ct_X8_goDown g.2.1 v hi _ _ _ _ ht hw) ok_X8_goDown cw_X8_110 (ts_le hgn (by decide)) (by decide) rfl rfl (Nat.le_of_ble_eq_true rfl) dX8_actBy_45 (fun s24 hw => ?_)
        refine ts_goto 90 X dX8_actBy_48 (by decide) ?_
        exact hret _ _ _ hw dX8_actBy_90
  · have hw := ts_itn hw c
    exact hret _ _ _ hw dX8_actBy_11
set_option maxRecDepth 100000 in
set_option maxHeartbeats 4000000 in
theorem ct_X8_stepsTogether (l : Launch) (v : tX_V) (hi : ts_inj 151 (tX_ad v)) (K : Int32 → ts_S → Prop) (σ : ts_S) (t : Nat) (ht : tX_T t) (hw : wp_X8_stepsTogether K σ t) : ts_Mi l yX8_stepsTogether (Cond.code yX8_stepsTogether cX8_stepsTogether 3 (some .int)) 1 (tX_w v) [.ref (tX_ad v t)] σ K := by
  refine ts_Mi.of_i (w := tX_w v) hi (by decide +kernel) (Nat.le_of_ble_eq_true rfl) ?_
  intro g hgl hgn X hret
  have J4 : ∀ (σ : ts_S) (x1 : Int32) (x2 : Int32), wp_X8_stepsTogether_l4 K t σ x1 x2 → ts_G g (tX_w v) 3 σ 4 [(0, .ref (tX_ad v t)), (1, .int x1), (2, .int x2)] [] := by
    intro  σ x1 x2 hw
    have key : ∀ X4 : ts_S → Int32 → Int32 → Prop, (∀ (σ : ts_S) (x1 : Int32) (x2 : Int32), X4 σ x1 x2 → ts_G g (tX_w v) 3 σ 4 [(0, .ref (tX_ad v t)), (1, .int x1), (2, .int x2)] []) → ∀ (σ : ts_S) (x1 : Int32) (x2 : Int32), wp_X8_stepsTogether_b4 K X4 t  σ x1 x2 → ts_G g (tX_w v) 3 σ 4 [(0, .ref (tX_ad v t)), (1, .int x1), (2, .int x2)] [] := by
      intro X4 hX4
      intro σ x1 x2 hw
      unfold wp_X8_stepsTogether_b4 at hw
      refine ts_iload_n X dX8_stepsTogether_4 2 rfl ?_
      refine ts_aload_n X dX8_stepsTogether_5 0 rfl ?_
      refine gf_X8_28 X ht (q := tX_pl t) rfl dX8_stepsTogether_6 ?_
      refine gf_X8_51 X (tX_Lp t) dX8_stepsTogether_9 ?_
      refine ts_icmp_ge 43 X dX8_stepsTogether_12 (by decide) (fun c => ?_) (fun c => ?_)
      · have hw := ts_itp hw c
        refine ts_iload_n X dX8_stepsTogether_43 1 rfl ?_
        exact hret _ _ _ _ hw dX8_stepsTogether_44
      · have hw := ts_itn hw c
        refine ts_iload_n X dX8_stepsTogether_15 1 rfl ?_
        refine ts_aload_n X dX8_stepsTogether_16 0 rfl ?_
        refine gf_X8_21 X ht (q := (t + 4)) rfl dX8_stepsTogether_17 ?_
        refine ts_iload_n X dX8_stepsTogether_20 2 rfl ?_
        refine xz_ald X (tX_a4 ht rfl) hw.1 dX8_stepsTogether_21 ?_
        have hw := hw.2
        refine ts_if_eq 29 X dX8_stepsTogether_22 (by decide) (fun c => ?_) (fun c => ?_)
        · have hw := ts_itp hw c
          refine ts_aload_n X dX8_stepsTogether_29 0 rfl ?_
          refine gf_X8_9 X ht (q := (t + 1)) rfl dX8_stepsTogether_30 ?_
          refine ts_iload_n X dX8_stepsTogether_33 2 rfl ?_
          refine xi_ald X (tX_a1 ht rfl) hw.1 dX8_stepsTogether_34 ?_
          have hw := hw.2
          refine ts_iadd X dX8_stepsTogether_35 ?_
          refine ts_istore_n X dX8_stepsTogether_36 (by decide) (lv' := [(1, .int (x1 + (σ (t + 1) x2.toNatClampNeg))), (0, .ref (tX_ad v t)), (2, .int x2)]) rfl ?_
          refine ts_iinc X dX8_stepsTogether_37 2 rfl (v := x2 + 1) rfl (by decide) (lv' := [(2, .int (x2 + 1)), (1, .int (x1 + (σ (t + 1) x2.toNatClampNeg))), (0, .ref (tX_ad v t))]) rfl ?_
          refine ts_goto 4 X dX8_stepsTogether_40 (by decide) ?_
          exact ts_sub [2, 1, 0] rfl (hX4 _ _ _ hw)
        · have hw := ts_itn hw c
          refine ts_iconst X dX8_stepsTogether_25 (v := 0) (by decide) ?_
          refine ts_goto 35 X dX8_stepsTogether_26 (by decide) ?_
          refine ts_iadd X dX8_stepsTogether_35 ?_
          refine ts_istore_n X dX8_stepsTogether_36 (by decide) (lv' := [(1, .int (x1 + 0)), (0, .ref (tX_ad v t)), (2, .int x2)]) rfl ?_
          refine ts_iinc X dX8_stepsTogether_37 2 rfl (v := x2 + 1) rfl (by decide) (lv' := [(2, .int (x2 + 1)), (1, .int (x1 + 0)), (0, .ref (tX_ad v t))]) rfl ?_
          refine ts_goto 4 X dX8_stepsTogether_40 (by decide) ?_
          exact ts_sub [2, 1, 0] rfl (hX4 _ _ _ hw)
    exact hw _ (fun σ x1 x2 h => key _ (fun _ _ _ h => h) σ x1 x2 h)
  unfold wp_X8_stepsTogether at hw
  show ts_G g (tX_w v) 3 σ 0 [(0, .ref (tX_ad v t))] []
  refine ts_iconst X dX8_stepsTogether_0 (v := 0) (by decide) ?_
  refine ts_istore_n X dX8_stepsTogether_1 (by decide) (lv' := [(1, .int 0), (0, .ref (tX_ad v t))]) rfl ?_
  refine ts_iconst X dX8_stepsTogether_2 (v := 0) (by decide) ?_
  refine ts_istore_n X dX8_stepsTogether_3 (by decide) (lv' := [(2, .int 0), (1, .int 0), (0, .ref (tX_ad v t))]) rfl ?_
  exact ts_sub [2, 1, 0] rfl (J4  _ _ _ hw)
