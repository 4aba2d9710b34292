set_option maxRecDepth 100000 in
set_option maxHeartbeats 4000000 in
theorem ct_X2_clear (l : Launch) (v : tX_V) (hi : ts_inj 151 (tX_ad v)) (K : ts_S → Prop) (σ : ts_S) (t : Nat) (ht : tX_L t) (hw : wp_X2_clear K σ t) : ts_Mv l yX2_clear (Cond.code yX2_clear cX2_clear 1 (none)) 1 (tX_w v) [.ref (tX_ad v t)] σ K := by
  refine ts_Mv.of_v (w := tX_w v) hi (by decide +kernel) (Nat.le_of_ble_eq_true rfl) ?_
  intro g hgl hgn X hret
  unfold wp_X2_clear at hw
  show ts_G g (tX_w v) 1 σ 0 [(0, .ref (tX_ad v t))] []
  refine ts_aload_n X dX2_clear_0 0 rfl ?_
  refine ts_bipush X dX2_clear_1 (v := 6) (by decide) ?_
  refine pf_X2_9 X ht dX2_clear_3 (fun s4 es4 => ?_)
  have hw := hw s4 es4
  refine ts_aload_n X dX2_clear_6 0 rfl ?_
  refine ts_iconst X dX2_clear_7 (v := 0) (by decide) ?_
  refine pf_X2_25 X ht dX2_clear_8 (fun s5 es5 => ?_)
  have hw := hw s5 es5
  refine ts_aload_n X dX2_clear_11 0 rfl ?_
  refine ts_iconst X dX2_clear_12 (v := 0) (by decide) ?_
  refine pf_X2_28 X ht dX2_clear_13 (fun s6 es6 => ?_)
  have hw := hw s6 es6
  exact hret _ _ _ hw dX2_clear_16
set_option maxRecDepth 100000 in
set_option maxHeartbeats 4000000 in
theorem ct_X9_within (l : Launch) (v : tX_V) (hi : ts_inj 151 (tX_ad v)) (K : Int32 → ts_S → Prop) (σ : ts_S) (a0 : Int32) (a1 : Int32) (a2 : Int32)  (hw : wp_X9_within K σ a0 a1 a2) : ts_Mi l yX9_within (Cond.code yX9_within cX9_within 3 (some .boolean)) 1 (tX_w v) [.int a0, .int a1, .int a2] σ K := by
  refine ts_Mi.of_z (w := tX_w v) hi (by decide +kernel) (Nat.le_of_ble_eq_true rfl) ?_
  intro g hgl hgn X hret
  unfold wp_X9_within at hw
  show ts_G g (tX_w v) 3 σ 0 [(0, .int a0), (1, .int a1), (2, .int a2)] []
  refine ts_iload_n X dX9_within_0 0 rfl ?_
  refine ts_iload_n X dX9_within_1 1 rfl ?_
  refine ts_icmp_lt 14 X dX9_within_2 (by decide) (fun c => ?_) (fun c => ?_)
  · have hw := ts_itp hw c
    refine ts_iconst X dX9_within_14 (v := 0) (by decide) ?_
    exact hret _ _ _ _ hw dX9_within_15
  · have hw := ts_itn hw c
    refine ts_iload_n X dX9_within_5 0 rfl ?_
    refine ts_iload_n X dX9_within_6 2 rfl ?_
    refine ts_icmp_gt 14 X dX9_within_7 (by decide) (fun c => ?_) (fun c => ?_)
    · have hw := ts_itp hw c
      refine ts_iconst X dX9_within_14 (v := 0) (by decide) ?_
      exact hret _ _ _ _ hw dX9_within_15
    · have hw := ts_itn hw c
      refine ts_iconst X dX9_within_10 (v := 1) (by decide) ?_
      refine ts_goto 15 X dX9_within_11 (by decide) ?_
      exact hret _ _ _ _ hw dX9_within_15
set_option maxRecDepth 100000 in
set_option maxHeartbeats 4000000 in
theorem ct_X2_copyFrom (l : Launch) (v : tX_V) (hi : ts_inj 151 (tX_ad v)) (K : ts_S → Prop) (σ : ts_S) (t : Nat) (t1 : Nat) (ht : tX_L t) (ht1 : tX_L t1) (hw : wp_X2_copyFrom K σ t t1) : ts_Mv l yX2_copyFrom (Cond.code yX2_copyFrom cX2_copyFrom 2 (none)) 1 (tX_w v) [.ref (tX_ad v t), .ref (tX_ad v t1)] σ K := by
  refine ts_Mv.of_v (w := tX_w v) hi (by decide +kernel) (Nat.le_of_ble_eq_true rfl) ?_
  intro g hgl hgn X hret
  unfold wp_X2_copyFrom at hw
  show ts_G g (tX_w v) 2 σ 0 [(0, .ref (tX_ad v t)), (1, .ref (tX_ad v t1))] []
  refine ts_aload_n X dX2_copyFrom_0 0 rfl ?_
  refine ts_aload_n X dX2_copyFrom_1 1 rfl ?_
  refine gf_X2_9 X ht1 dX2_copyFrom_2 ?_
  refine pf_X2_9 X ht dX2_copyFrom_5 (fun s7 es7 => ?_)
  have hw := hw s7 es7
  refine ts_aload_n X dX2_copyFrom_8 0 rfl ?_
  refine ts_aload_n X dX2_copyFrom_9 1 rfl ?_
  refine gf_X2_25 X ht1 dX2_copyFrom_10 ?_
  refine pf_X2_25 X ht dX2_copyFrom_13 (fun s8 es8 => ?_)
  have hw := hw s8 es8
  refine ts_aload_n X dX2_copyFrom_16 0 rfl ?_
  refine ts_aload_n X dX2_copyFrom_17 1 rfl ?_
  refine gf_X2_28 X ht1 dX2_copyFrom_18 ?_
  refine pf_X2_28 X ht dX2_copyFrom_21 (fun s9 es9 => ?_)
  have hw := hw s9 es9
  refine ts_aload_n X dX2_copyFrom_24 1 rfl ?_
  refine gf_X2_15 X ht1 (q := (t1 + 1)) rfl dX2_copyFrom_25 ?_
  refine ts_iconst X dX2_copyFrom_28 (v := 0) (by decide) ?_
  refine ts_aload_n X dX2_copyFrom_29 0 rfl ?_
  refine gf_X2_15 X ht (q := (t + 1)) rfl dX2_copyFrom_30 ?_
  refine ts_iconst X dX2_copyFrom_33 (v := 0) (by decide) ?_
  refine ts_bipush X dX2_copyFrom_34 (v := 6) (by decide) ?_
  refine xcp_I X kw_449 kw_451 kw_450 kw_74 (tX_b1 ht1 rfl) (tX_b1 ht rfl) (m := 6) (by decide) (by decide) (by decide) (by decide) (ts_le hgn (by decide)) (Nat.le_of_ble_eq_true rfl) dX2_copyFrom_36 (fun s10 es10 => ?_)
  have hw := hw s10 es10
  refine ts_aload_n X dX2_copyFrom_39 1 rfl ?_
  refine gf_X2_19 X ht1 (q := (t1 + 2)) rfl dX2_copyFrom_40 ?_
  refine ts_iconst X dX2_copyFrom_43 (v := 0) (by decide) ?_
  refine ts_aload_n X dX2_copyFrom_44 0 rfl ?_
  refine gf_X2_19 X ht (q := (t + 2)) rfl dX2_copyFrom_45 ?_
  refine ts_iconst X dX2_copyFrom_48 (v := 0) (by decide) ?_
  refine ts_iconst X dX2_copyFrom_49 (v := 5) (by decide) ?_
  refine xcp_I X kw_449 kw_451 kw_450 kw_74 (tX_b2 ht1 rfl) (tX_b2 ht rfl) (m := 5) (by decide) (by decide) (by decide) (by decide) (ts_le hgn (by decide)) (Nat.le_of_ble_eq_true rfl) dX2_copyFrom_50 (fun s11 es11 => ?_)
  have hw := hw s11 es11
  refine ts_aload_n X dX2_copyFrom_53 1 rfl ?_
  refine gf_X2_22 X ht1 (q := (t1 + 3)) rfl dX2_copyFrom_54 ?_
  refine ts_iconst X dX2_copyFrom_57 (v := 0) (by decide) ?_
  refine ts_aload_n X dX2_copyFrom_58 0 rfl ?_
  refine gf_X2_22 X ht (q := (t + 3)) rfl dX2_copyFrom_59 ?_
  refine ts_iconst X dX2_copyFrom_62 (v := 0) (by decide) ?_
  refine ts_iconst X dX2_copyFrom_63 (v := 5) (by decide) ?_
  refine xcp_I X kw_449 kw_451 kw_450 kw_74 (tX_b3 ht1 rfl) (tX_b3 ht rfl) (m := 5) (by decide) (by decide) (by decide) (by decide) (ts_le hgn (by decide)) (Nat.le_of_ble_eq_true rfl) dX2_copyFrom_64 (fun s12 es12 => ?_)
  have hw := hw s12 es12
  exact hret _ _ _ hw dX2_copyFrom_67
set_option maxRecDepth 100000 in
set_option maxHeartbeats 4000000 in
theorem ct_X8_standAs (l : Launch) (v : tX_V) (hi : ts_inj 151 (tX_ad v)) (K : ts_S → Prop) (σ : ts_S) (t : Nat) (t1 : Nat) (ht : tX_T t) (ht1 : tX_T t1) (hw : wp_X8_standAs K σ t t1) : ts_Mv l yX8_standAs (Cond.code yX8_standAs cX8_standAs 2 (none)) 1 (tX_w v) [.ref (tX_ad v t), .ref (tX_ad v t1)] σ K := by
  refine ts_Mv.of_v (w := tX_w v) hi (by decide +kernel) (Nat.le_of_ble_eq_true rfl) ?_
  intro g hgl hgn X hret
  unfold wp_X8_standAs at hw
  show ts_G g (tX_w v) 2 σ 0 [(0, .ref (tX_ad v t)), (1, .ref (tX_ad v t1))] []
  refine ts_aload_n X dX8_standAs_0 1 rfl ?_
  refine gf_X8_9 X ht1 (q := (t1 + 1)) rfl dX8_standAs_1 ?_
  refine ts_iconst X dX8_standAs_4 (v := 0) (by decide) ?_
  refine ts_aload_n X dX8_standAs_5 0 rfl ?_
  refine gf_X8_9 X ht (q := (t + 1)) rfl dX8_standAs_6 ?_
  refine ts_iconst X dX8_standAs_9 (v := 0) (by decide) ?_
  refine ts_bipush X dX8_standAs_10 (v := 6) (by decide) ?_
  refine xcp_I X kw_456 kw_451 kw_450 kw_74 (tX_a1 ht1 rfl) (tX_a1 ht rfl) (m := 6) (by decide) (by decide) (by decide) (by decide) (ts_le hgn (by decide)) (Nat.le_of_ble_eq_true rfl) dX8_standAs_12 (fun s7 es7 => ?_)
  have hw := hw s7 es7
  refine ts_aload_n X dX8_standAs_15 1 rfl ?_
  refine gf_X8_15 X ht1 (q := (t1 + 2)) rfl dX8_standAs_16 ?_
  refine ts_iconst X dX8_standAs_19 (v := 0) (by decide) ?_
  refine ts_aload_n X dX8_standAs_20 0 rfl ?_
  refine gf_X8_15 X ht (q := (t + 2)) rfl dX8_standAs_21 ?_
  refine ts_iconst X dX8_standAs_24 (v := 0) (by decide) ?_
  refine ts_bipush X dX8_standAs_25 (v := 6) (by decide) ?_
  refine xcp_I X kw_456 kw_451 kw_450 kw_74 (tX_a2 ht1 rfl) (tX_a2 ht rfl) (m := 6) (by decide) (by decide) (by decide) (by decide) (ts_le hgn (by decide)) (Nat.le_of_ble_eq_true rfl) dX8_standAs_27 (fun s8 es8 => ?_)
  have hw := hw s8 es8
  refine ts_aload_n X dX8_standAs_30 1 rfl ?_
  refine gf_X8_18 X ht1 (q := (t1 + 3)) rfl dX8_standAs_31 ?_
  refine ts_iconst X dX8_standAs_34 (v := 0) (by decide) ?_
  refine ts_aload_n X dX8_standAs_35 0 rfl ?_
  refine gf_X8_18 X ht (q := (t + 3)) rfl dX8_standAs_36 ?_
  refine ts_iconst X dX8_standAs_39 (v := 0) (by decide) ?_
  refine ts_bipush X dX8_standAs_40 (v := 6) (by decide) ?_
  refine xcp_I X kw_456 kw_451 kw_450 kw_74 (tX_a3 ht1 rfl) (tX_a3 ht rfl) (m := 6) (by decide) (by decide) (by decide) (by decide) (ts_le hgn (by decide)) (Nat.le_of_ble_eq_true rfl) dX8_standAs_42 (fun s9 es9 => ?_)
  have hw := hw s9 es9
  refine ts_aload_n X dX8_standAs_45 1 rfl ?_
  refine gf_X8_21 X ht1 (q := (t1 + 4)) rfl dX8_standAs_46 ?_
  refine ts_iconst X dX8_standAs_49 (v := 0) (by decide) ?_
  refine ts_aload_n X dX8_standAs_50 0 rfl ?_
  refine gf_X8_21 X ht (q := (t + 4)) rfl dX8_standAs_51 ?_
  refine ts_iconst X dX8_standAs_54 (v := 0) (by decide) ?_
  refine ts_bipush X dX8_standAs_55 (v := 6) (by decide) ?_
  refine xcp_Z X kw_456 kw_451 kw_450 kw_74 (tX_a4 ht1 rfl) (tX_a4 ht rfl) (m := 6) (by decide) (by decide) (by decide) (by decide) hw.1 (ts_le hgn (by decide)) (Nat.le_of_ble_eq_true rfl) dX8_standAs_57 (fun s10 es10 => ?_)
  have hw := hw.2 s10 es10
  refine ts_aload_n X dX8_standAs_60 1 rfl ?_
  refine gf_X8_25 X ht1 (q := (t1 + 5)) rfl dX8_standAs_61 ?_
  refine ts_iconst X dX8_standAs_64 (v := 0) (by decide) ?_
  refine ts_aload_n X dX8_standAs_65 0 rfl ?_
  refine gf_X8_25 X ht (q := (t + 5)) rfl dX8_standAs_66 ?_
  refine ts_iconst X dX8_standAs_69 (v := 0) (by decide) ?_
  refine ts_bipush X dX8_standAs_70 (v := 6) (by decide) ?_
  refine xcp_Z X kw_456 kw_451 kw_450 kw_74 (tX_a5 ht1 rfl) (tX_a5 ht rfl) (m := 6) (by decide) (by decide) (by decide) (by decide) hw.1 (ts_le hgn (by decide)) (Nat.le_of_ble_eq_true rfl) dX8_standAs_72 (fun s11 es11 => ?_)
  have hw := hw.2 s11 es11
  refine ts_aload_n X dX8_standAs_75 0 rfl ?_
  refine ts_aload_n X dX8_standAs_76 1 rfl ?_
  refine gf_X8_38 X ht1 dX8_standAs_77 ?_
  refine pf_X8_38 X ht dX8_standAs_80 (fun s12 es12 => ?_)
  have hw := hw s12 es12
  exact hret _ _ _ hw dX8_standAs_83
set_option maxRecDepth 100000 in
set_option maxHeartbeats 4000000 in
theorem ct_X9_asNumber (l : Launch) (v : tX_V) (hi : ts_inj 151 (tX_ad v)) (K : Int32 → ts_S → Prop) (σ : ts_S) (a0 : Int32)  (hw : wp_X9_asNumber K σ a0) : ts_Mi l yX9_asNumber (Cond.code yX9_asNumber cX9_asNumber 1 (some .int)) 1 (tX_w v) [.int a0] σ K := by
  refine ts_Mi.of_i (w := tX_w v) hi (by decide +kernel) (Nat.le_of_ble_eq_true rfl) ?_
  intro g hgl hgn X hret
  unfold wp_X9_asNumber at hw
  show ts_G g (tX_w v) 1 σ 0 [(0, .int a0)] []
  refine ts_iload_n X dX9_asNumber_0 0 rfl ?_
  refine ts_if_eq 8 X dX9_asNumber_1 (by decide) (fun c => ?_) (fun c => ?_)
  · have hw := ts_itp hw c
    refine ts_iconst X dX9_asNumber_8 (v := 0) (by decide) ?_
    exact hret _ _ _ _ hw dX9_asNumber_9
  · have hw := ts_itn hw c
    refine ts_iconst X dX9_asNumber_4 (v := 1) (by decide) ?_
    refine ts_goto 9 X dX9_asNumber_5 (by decide) ?_
    exact hret _ _ _ _ hw dX9_asNumber_9
set_option maxRecDepth 100000 in
set_option maxHeartbeats 4000000 in
theorem ct_X8_mayBeCalled (l : Launch) (v : tX_V) (hi : ts_inj 151 (tX_ad v)) (K : Int32 → ts_S → Prop) (σ : ts_S) (t : Nat) (a1 : Int32) (ht : tX_T t) (hw : wp_X8_mayBeCalled K σ t a1) : ts_Mi l yX8_mayBeCalled (Cond.code yX8_mayBeCalled cX8_mayBeCalled 2 (some .boolean)) 1 (tX_w v) [.ref (tX_ad v t), .int a1] σ K := by
  refine ts_Mi.of_z (w := tX_w v) hi (by decide +kernel) (Nat.le_of_ble_eq_true rfl) ?_
  intro g hgl hgn X hret
  unfold wp_X8_mayBeCalled at hw
  show ts_G g (tX_w v) 2 σ 0 [(0, .ref (tX_ad v t)), (1, .int a1)] []
  refine ts_aload_n X dX8_mayBeCalled_0 0 rfl ?_
  refine gf_X8_21 X ht (q := (t + 4)) rfl dX8_mayBeCalled_1 ?_
  refine ts_iload_n X dX8_mayBeCalled_4 1 rfl ?_
  refine xz_ald X (tX_a4 ht rfl) hw.1 dX8_mayBeCalled_5 ?_
  have hw := hw.2
  refine ts_if_ne 22 X dX8_mayBeCalled_6 (by decide) (fun c => ?_) (fun c => ?_)
  · have hw := ts_itn hw c
    refine ts_iconst X dX8_mayBeCalled_22 (v := 0) (by decide) ?_
    exact hret _ _ _ _ hw dX8_mayBeCalled_23
  · have hw := ts_itp hw c
    refine ts_aload_n X dX8_mayBeCalled_9 0 rfl ?_
    refine gf_X8_25 X ht (q := (t + 5)) rfl dX8_mayBeCalled_10 ?_
    refine ts_iload_n X dX8_mayBeCalled_13 1 rfl ?_
    refine xz_ald X (tX_a5 ht rfl) hw.1 dX8_mayBeCalled_14 ?_
    have hw := hw.2
    refine ts_if_ne 22 X dX8_mayBeCalled_15 (by decide) (fun c => ?_) (fun c => ?_)
    · have hw := ts_itn hw c
      refine ts_iconst X dX8_mayBeCalled_22 (v := 0) (by decide) ?_
      exact hret _ _ _ _ hw dX8_mayBeCalled_23
    · have hw := ts_itp hw c
      refine ts_iconst X dX8_mayBeCalled_18 (v := 1) (by decide) ?_
      refine ts_goto 23 X dX8_mayBeCalled_19 (by decide) ?_
      exact hret _ _ _ _ hw dX8_mayBeCalled_23
set_option maxRecDepth 100000 in
set_option maxHeartbeats 4000000 in
theorem ct_X8_fearAmong (l : Launch) (v : tX_V) (hi : ts_inj 151 (tX_ad v)) (K : Int32 → ts_S → Prop) (σ : ts_S) (t : Nat) (a1 : Int32) (a2 : Int32) (a3 : Int32) (a4 : Int32) (ht : tX_T t) (hw : wp_X8_fearAmong K σ t a1 a2 a3 a4) : ts_Mi l yX8_fearAmong (Cond.code yX8_fearAmong cX8_fearAmong 6 (some .int)) 1 (tX_w v) [.ref (tX_ad v t), .int a1, .int a2, .int a3, .int a4] σ K := by
  refine ts_Mi.of_i (w := tX_w v) hi (by decide +kernel) (Nat.le_of_ble_eq_true rfl) ?_
  intro g hgl hgn X hret
  unfold wp_X8_fearAmong at hw
  show ts_G g (tX_w v) 6 σ 0 [(0, .ref (tX_ad v t)), (1, .int a1), (2, .int a2), (3, .int a3), (4, .int a4)] []
  refine ts_aload_n X dX8_fearAmong_0 0 rfl ?_
  refine gf_X8_28 X ht (q := tX_pl t) rfl dX8_fearAmong_1 ?_
  refine gf_X8_58 X (tX_Lp t) dX8_fearAmong_4 ?_
  refine ts_iconst X dX8_fearAmong_7 (v := 1) (by decide) ?_
  refine ts_isub X dX8_fearAmong_8 ?_
  refine ts_iload X dX8_fearAmong_9 4 rfl ?_
  refine ts_isub X dX8_fearAmong_11 ?_
  refine ts_istore X dX8_fearAmong_12 (by decide) (lv' := [(5, .int (((σ (tX_pl t) 0) - 1) - a4)), (0, .ref (tX_ad v t)), (1, .int a1), (2, .int a2), (3, .int a3), (4, .int a4)]) rfl ?_
  refine ts_iload_n X dX8_fearAmong_14 3 rfl ?_
  by_cases c1 : a2 = 1
  · have hw := ts_itp hw c1
    refine ts_tableIn 40 X dX8_fearAmong_15 c1 (by decide) (by decide) rfl (by decide) ?_
    refine ts_iload X dX8_fearAmong_40 0 rfl ?_
    exact hret _ _ _ _ hw dX8_fearAmong_42
  · have hw := ts_itn hw c1
    by_cases c2 : a2 = 2
    · have hw := ts_itp hw c2
      refine ts_tableIn 43 X dX8_fearAmong_15 c2 (by decide) (by decide) rfl (by decide) ?_
      refine ts_iconst X dX8_fearAmong_43 (v := 2) (by decide) ?_
      refine ts_iload X dX8_fearAmong_44 0 rfl ?_
      refine ts_imul X dX8_fearAmong_46 ?_
      refine ts_iload_n X dX8_fearAmong_47 4 rfl ?_
      refine ts_bipush X dX8_fearAmong_48 (v := 20) (by decide) ?_
      refine ts_icmp_le 62 X dX8_fearAmong_50 (by decide) (fun c => ?_) (fun c => ?_)
      · have hw := ts_itp hw c
        refine ts_iconst X dX8_fearAmong_62 (v := 0) (by decide) ?_
        refine ts_iadd X dX8_fearAmong_63 ?_
        exact hret _ _ _ _ hw dX8_fearAmong_64
      · have hw := ts_itn hw c
        refine ts_iload_n X dX8_fearAmong_53 4 rfl ?_
        refine ts_bipush X dX8_fearAmong_54 (v := 20) (by decide) ?_
        refine ts_isub X dX8_fearAmong_56 ?_
        refine ts_iconst X dX8_fearAmong_57 (v := 5) (by decide) ?_
        refine ts_idiv X dX8_fearAmong_58 hw.1 ?_
        have hw := hw.2
        refine ts_goto 63 X dX8_fearAmong_59 (by decide) ?_
        refine ts_iadd X dX8_fearAmong_63 ?_
        exact hret _ _ _ _ hw dX8_fearAmong_64
    · have hw := ts_itn hw c2
      by_cases c3 : a2 = 3
      · have hw := ts_itp hw c3
        refine ts_tableIn 65 X dX8_fearAmong_15 c3 (by decide) (by decide) rfl (by decide) ?_
        refine ts_iload X dX8_fearAmong_65 0 rfl ?_
        refine ts_iload_n X dX8_fearAmong_67 2 rfl ?_
        refine ts_icmp_le 80 X dX8_fearAmong_68 (by decide) (fun c => ?_) (fun c => ?_)
        · have hw := ts_itp hw c
          refine ts_iconst X dX8_fearAmong_80 (v := 0) (by decide) ?_
          exact hret _ _ _ _ hw dX8_fearAmong_81
        · have hw := ts_itn hw c
          refine ts_iconst X dX8_fearAmong_71 (v := 2) (by decide) ?_
          refine ts_iload X dX8_fearAmong_72 0 rfl ?_
          refine ts_iload_n X dX8_fearAmong_74 2 rfl ?_
          refine ts_isub X dX8_fearAmong_75 ?_
          refine ts_imul X dX8_fearAmong_76 ?_
          refine ts_goto 81 X dX8_fearAmong_77 (by decide) ?_
          exact hret _ _ _ _ hw dX8_fearAmong_81
      · have hw := ts_itn hw c3
        refine ts_tableOut 82 X dX8_fearAmong_15 (ts_out [1, 2, 3] ⟨c1, c2, c3, trivial⟩ (by decide)) (by decide) ?_
        refine ts_iconst X dX8_fearAmong_82 (v := 2) (by decide) ?_
        refine ts_iload X dX8_fearAmong_83 0 rfl ?_
        refine ts_imul X dX8_fearAmong_85 ?_
        exact hret _ _ _ _ hw dX8_fearAmong_86
set_option maxRecDepth 100000 in
set_option maxHeartbeats 4000000 in
theorem ct_X8_fearAs (l : Launch) (v : tX_V) (hi : ts_inj 151 (tX_ad v)) (K : Int32 → ts_S → Prop) (σ : ts_S) (t : Nat) (a1 : Int32) (a2 : Int32) (a3 : Int32) (ht : tX_T t) (hw : wp_X8_fearAs K σ t a1 a2 a3) : ts_Mi l yX8_fearAs (Cond.code yX8_fearAs cX8_fearAs 6 (some .int)) 2 (tX_w v) [.ref (tX_ad v t), .int a1, .int a2, .int a3] σ K := by
  refine ts_Mi.of_i (w := tX_w v) hi (by decide +kernel) (Nat.le_of_ble_eq_true rfl) ?_
  intro g hgl hgn X hret
  have J59 : ∀ (σ : ts_S) (x4 : Int32), wp_X8_fearAs_j59 K t a1 a2 a3 σ x4 → ts_G g (tX_w v) 6 σ 59 [(0, .ref (tX_ad v t)), (1, .int a1), (2, .int a2), (3, .int a3), (4, .int x4)] [] := by
    intro  σ x4 hw
    unfold wp_X8_fearAs_j59 at hw
    refine ts_aload_n X dX8_fearAs_59 0 rfl ?_
    refine ts_iload X dX8_fearAs_60 4 rfl ?_
    refine ts_iload_n X dX8_fearAs_62 1 rfl ?_
    refine ts_aload_n X dX8_fearAs_63 0 rfl ?_
    refine gf_X8_15 X ht (q := (t + 2)) rfl dX8_fearAs_64 ?_
    refine ts_iload_n X dX8_fearAs_67 2 rfl ?_
    refine xi_ald X (tX_a2 ht rfl) hw.1 dX8_fearAs_68 ?_
    have hw := hw.2
    refine ts_iload_n X dX8_fearAs_69 3 rfl ?_
    refine ts_callVi (w := tX_w v) X (k := t) (ht).lt (tX_eT ht _) rfl rfl (As := [.int x4, .int a1, .int (σ (t + 2) a2.toNatClampNeg), .int a3]) (ct_X8_fearAmong g.2.1 v hi _ _ _ _ _ _ _ ht hw) ok_X8_fearAmong cw_X8_54 (ts_le hgn (by decide)) (by decide) rfl rfl (Nat.le_of_ble_eq_true rfl) dX8_fearAs_70 (fun r3 s4 hw => ?_)
    exact hret _ _ _ _ hw dX8_fearAs_73
  have J6 : ∀ (σ : ts_S) (x4 : Int32) (x5 : Int32), wp_X8_fearAs_l6 K t a1 a2 a3 σ x4 x5 → ts_G g (tX_w v) 6 σ 6 [(0, .ref (tX_ad v t)), (1, .int a1), (2, .int a2), (3, .int a3), (4, .int x4), (5, .int x5)] [] := by
    intro  σ x4 x5 hw
    have key : ∀ X6 : ts_S → Int32 → Int32 → Prop, (∀ (σ : ts_S) (x4 : Int32) (x5 : Int32), X6 σ x4 x5 → ts_G g (tX_w v) 6 σ 6 [(0, .ref (tX_ad v t)), (1, .int a1), (2, .int a2), (3, .int a3), (4, .int x4), (5, .int x5)] []) → ∀ (σ : ts_S) (x4 : Int32) (x5 : Int32), wp_X8_fearAs_b6 K X6 t a1 a2 a3  σ x4 x5 → ts_G g (tX_w v) 6 σ 6 [(0, .ref (tX_ad v t)), (1, .int a1), (2, .int a2), (3, .int a3), (4, .int x4), (5, .int x5)] [] := by
      intro X6 hX6
      intro σ x4 x5 hw
      unfold wp_X8_fearAs_b6 at hw
      refine ts_iload_n X dX8_fearAs_6 1 rfl ?_
      refine ts_iconst X dX8_fearAs_7 (v := 3) (by decide) ?_
      refine ts_icmp_ne 59 X dX8_fearAs_8 (by decide) (fun c => ?_) (fun c => ?_)
      · have hw := ts_itn hw c
        exact ts_sub [0, 1, 2, 3, 4] rfl (J59  _ _ hw)
      · have hw := ts_itp hw c
        refine ts_iload X dX8_fearAs_11 5 rfl ?_
        refine ts_aload_n X dX8_fearAs_13 0 rfl ?_
        refine gf_X8_28 X ht (q := tX_pl t) rfl dX8_fearAs_14 ?_
        refine gf_X8_51 X (tX_Lp t) dX8_fearAs_17 ?_
        refine ts_icmp_ge 59 X dX8_fearAs_20 (by decide) (fun c => ?_) (fun c => ?_)
        · have hw := ts_itp hw c
          exact ts_sub [0, 1, 2, 3, 4] rfl (J59  _ _ hw)
        · have hw := ts_itn hw c
          refine ts_iload X dX8_fearAs_23 5 rfl ?_
          refine ts_iload_n X dX8_fearAs_25 2 rfl ?_
          refine ts_icmp_eq 53 X dX8_fearAs_26 (by decide) (fun c => ?_) (fun c => ?_)
          · have hw := ts_itp hw c
            refine ts_iinc X dX8_fearAs_53 5 rfl (v := x5 + 1) rfl (by decide) (lv' := [(5, .int (x5 + 1)), (0, .ref (tX_ad v t)), (1, .int a1), (2, .int a2), (3, .int a3), (4, .int x4)]) rfl ?_
            refine ts_goto 6 X dX8_fearAs_56 (by decide) ?_
            exact ts_sub [1, 2, 3, 4, 5, 0] rfl (hX6 _ _ _ hw)
          · have hw := ts_itn hw c
            refine ts_aload_n X dX8_fearAs_29 0 rfl ?_
            refine gf_X8_21 X ht (q := (t + 4)) rfl dX8_fearAs_30 ?_
            refine ts_iload X dX8_fearAs_33 5 rfl ?_
            refine xz_ald X (tX_a4 ht rfl) hw.1 dX8_fearAs_35 ?_
            have hw := hw.2
            refine ts_if_ne 53 X dX8_fearAs_36 (by decide) (fun c => ?_) (fun c => ?_)
            · have hw := ts_itn hw c
              refine ts_iinc X dX8_fearAs_53 5 rfl (v := x5 + 1) rfl (by decide) (lv' := [(5, .int (x5 + 1)), (0, .ref (tX_ad v t)), (1, .int a1), (2, .int a2), (3, .int a3), (4, .int x4)]) rfl ?_
              refine ts_goto 6 X dX8_fearAs_56 (by decide) ?_
              exact ts_sub [1, 2, 3, 4, 5, 0] rfl (hX6 _ _ _ hw)
            · have hw := ts_itp hw c
              refine ts_aload_n X dX8_fearAs_39 0 rfl ?_
              refine gf_X8_9 X ht (q := (t + 1)) rfl dX8_fearAs_40 ?_
              refine ts_iload X dX8_fearAs_43 5 rfl ?_
              refine xi_ald X (tX_a1 ht rfl) hw.1 dX8_fearAs_45 ?_
              have hw := hw.2
              refine ts_iload_n X dX8_fearAs_46 3 rfl ?_
              refine ts_icmp_ne 53 X dX8_fearAs_47 (by decide) (fun c => ?_) (fun c => ?_)
              · have hw := ts_itn hw c
                refine ts_iinc X dX8_fearAs_53 5 rfl (v := x5 + 1) rfl (by decide) (lv' := [(5, .int (x5 + 1)), (0, .ref (tX_ad v t)), (1, .int a1), (2, .int a2), (3, .int a3), (4, .int x4)]) rfl ?_
                refine ts_goto 6 X dX8_fearAs_56 (by decide) ?_
                exact ts_sub [1, 2, 3, 4, 5, 0] rfl (hX6 _ _ _ hw)
              · have hw := ts_itp hw c
                refine ts_iinc X dX8_fearAs_50 4 rfl (v := x4 + 1) rfl (by decide) (lv' := [(4, .int (x4 + 1)), (0, .ref (tX_ad v t)), (1, .int a1), (2, .int a2), (3, .int a3), (5, .int x5)]) rfl ?_
                refine ts_iinc X dX8_fearAs_53 5 rfl (v := x5 + 1) rfl (by decide) (lv' := [(5, .int (x5 + 1)), (4, .int (x4 + 1)), (0, .ref (tX_ad v t)), (1, .int a1), (2, .int a2), (3, .int a3)]) rfl ?_
                refine ts_goto 6 X dX8_fearAs_56 (by decide) ?_
                exact ts_sub [2, 3, 4, 5, 1, 0] rfl (hX6 _ _ _ hw)
    exact hw _ (fun σ x4 x5 h => key _ (fun _ _ _ h => h) σ x4 x5 h)
  unfold wp_X8_fearAs at hw
  show ts_G g (tX_w v) 6 σ 0 [(0, .ref (tX_ad v t)), (1, .int a1), (2, .int a2), (3, .int a3)] []
  refine ts_iconst X dX8_fearAs_0 (v := 0) (by decide) ?_
  refine ts_istore X dX8_fearAs_1 (by decide) (lv' := [(4, .int 0), (0, .ref (tX_ad v t)), (1, .int a1), (2, .int a2), (3, .int a3)]) rfl ?_
  refine ts_iconst X dX8_fearAs_3 (v := 0) (by decide) ?_
  refine ts_istore X dX8_fearAs_4 (by decide) (lv' := [(5, .int 0), (4, .int 0), (0, .ref (tX_ad v t)), (1, .int a1), (2, .int a2), (3, .int a3)]) rfl ?_
  exact ts_sub [2, 3, 4, 5, 1, 0] rfl (J6  _ _ _ hw)
set_option maxRecDepth 100000 in
set_option maxHeartbeats 4000000 in
theorem ct_X8_fearOn (l : Launch) (v : tX_V) (hi : ts_inj 151 (tX_ad v)) (K : Int32 → ts_S → Prop) (σ : ts_S) (t : Nat) (a1 : Int32) (a2 : Int32) (ht : tX_T t) (hw : wp_X8_fearOn K σ t a1 a2) : ts_Mi l yX8_fearOn (Cond.code yX8_fearOn cX8_fearOn 3 (some .int)) 3 (tX_w v) [.ref (tX_ad v t), .int a1, .int a2] σ K := by
  refine ts_Mi.of_i (w := tX_w v) hi (by decide +kernel) (Nat.le_of_ble_eq_true rfl) ?_
  intro g hgl hgn X hret
  unfold wp_X8_fearOn at hw
  show ts_G g (tX_w v) 3 σ 0 [(0, .ref (tX_ad v t)), (1, .int a1), (2, .int a2)] []
  refine ts_aload_n X dX8_fearOn_0 0 rfl ?_
  refine ts_aload_n X dX8_fearOn_1 0 rfl ?_
  refine gf_X8_28 X ht (q := tX_pl t) rfl dX8_fearOn_2 ?_
  refine gf_X8_42 X (tX_Lp t) (q := (tX_pl t + 1)) rfl dX8_fearOn_5 ?_
  refine ts_iload_n X dX8_fearOn_8 1 rfl ?_
  refine xi_ald X (tX_b1 (tX_Lp t) rfl) hw.1 dX8_fearOn_9 ?_
  have hw := hw.2
  refine ts_iload_n X dX8_fearOn_10 1 rfl ?_
  refine ts_iload_n X dX8_fearOn_11 2 rfl ?_
  refine ts_callVi (w := tX_w v) X (k := t) (ht).lt (tX_eT ht _) rfl rfl (As := [.int (σ (tX_pl t + 1) a1.toNatClampNeg), .int a1, .int a2]) (ct_X8_fearAs g.2.1 v hi _ _ _ _ _ _ ht hw) ok_X8_fearAs cw_X8_47 (ts_le hgn (by decide)) (by decide) rfl rfl (Nat.le_of_ble_eq_true rfl) dX8_fearOn_12 (fun r3 s4 hw => ?_)
  exact hret _ _ _ _ hw dX8_fearOn_15
set_option maxRecDepth 100000 in
set_option maxHeartbeats 4000000 in
theorem ct_X8_isFrozen (l : Launch) (v : tX_V) (hi : ts_inj 151 (tX_ad v)) (K : Int32 → ts_S → Prop) (σ : ts_S) (t : Nat) (a1 : Int32) (ht : tX_T t) (hw : wp_X8_isFrozen K σ t a1) : ts_Mi l yX8_isFrozen (Cond.code yX8_isFrozen cX8_isFrozen 2 (some .boolean)) 3 (tX_w v) [.ref (tX_ad v t), .int a1] σ K := by
  refine ts_Mi.of_z (w := tX_w v) hi (by decide +kernel) (Nat.le_of_ble_eq_true rfl) ?_
  intro g hgl hgn X hret
  unfold wp_X8_isFrozen at hw
  show ts_G g (tX_w v) 2 σ 0 [(0, .ref (tX_ad v t)), (1, .int a1)] []
  refine ts_aload_n X dX8_isFrozen_0 0 rfl ?_
  refine gf_X8_21 X ht (q := (t + 4)) rfl dX8_isFrozen_1 ?_
  refine ts_iload_n X dX8_isFrozen_4 1 rfl ?_
  refine xz_ald X (tX_a4 ht rfl) hw.1 dX8_isFrozen_5 ?_
  have hw := hw.2
  refine ts_if_ne 42 X dX8_isFrozen_6 (by decide) (fun c => ?_) (fun c => ?_)
  · have hw := ts_itn hw c
    refine ts_iconst X dX8_isFrozen_42 (v := 0) (by decide) ?_
    exact hret _ _ _ _ hw dX8_isFrozen_43
  · have hw := ts_itp hw c
    refine ts_aload_n X dX8_isFrozen_9 0 rfl ?_
    refine ts_aload_n X dX8_isFrozen_10 0 rfl ?_
    refine gf_X8_28 X ht (q := tX_pl t) rfl dX8_isFrozen_11 ?_
    refine gf_X8_42 X (tX_Lp t) (q := (tX_pl t + 1)) rfl dX8_isFrozen_14 ?_
    refine ts_iload_n X dX8_isFrozen_17 1 rfl ?_
    refine xi_ald X (tX_b1 (tX_Lp t) rfl) hw.1 dX8_isFrozen_18 ?_
    have hw := hw.2
    refine ts_iload_n X dX8_isFrozen_19 1 rfl ?_
    refine ts_aload_n X dX8_isFrozen_20 0 rfl ?_
    refine gf_X8_9 X ht (q := (t + 1)) rfl dX8_isFrozen_21 ?_
    refine ts_iload_n X dX8_isFrozen_24 1 rfl ?_
    refine xi_ald X (tX_a1 ht rfl) hw.1 dX8_isFrozen_25 ?_
    have hw := hw.2
    refine ts_callVi (w := tX_w v) X (k := t) (ht).lt (tX_eT ht _) rfl rfl (As := [.int (σ (tX_pl t + 1) a1.toNatClampNeg), .int a1, .int (σ (t + 1) a1.toNatClampNeg)]) (ct_X8_fearAs g.2.1 v hi _ _ _ _ _ _ ht hw) ok_X8_fearAs cw_X8_47 (ts_le hgn (by decide)) (by decide) rfl rfl (Nat.le_of_ble_eq_true rfl) dX8_isFrozen_26 (fun r3 s4 hw => ?_)
    refine ts_aload_n X dX8_isFrozen_29 0 rfl ?_
    refine gf_X8_18 X ht (q := (t + 3)) rfl dX8_isFrozen_30 ?_
    refine ts_iload_n X dX8_isFrozen_33 1 rfl ?_
    refine xi_ald X (tX_a3 ht rfl) hw.1 dX8_isFrozen_34 ?_
    have hw := hw.2
    refine ts_icmp_le 42 X dX8_isFrozen_35 (by decide) (fun c => ?_) (fun c => ?_)
    · have hw := ts_itp hw c
      refine ts_iconst X dX8_isFrozen_42 (v := 0) (by decide) ?_
      exact hret _ _ _ _ hw dX8_isFrozen_43
    · have hw := ts_itn hw c
      refine ts_iconst X dX8_isFrozen_38 (v := 1) (by decide) ?_
      refine ts_goto 43 X dX8_isFrozen_39 (by decide) ?_
      exact hret _ _ _ _ hw dX8_isFrozen_43
set_option maxRecDepth 100000 in
set_option maxHeartbeats 4000000 in
theorem ct_X8_isSteady (l : Launch) (v : tX_V) (hi : ts_inj 151 (tX_ad v)) (K : Int32 → ts_S → Prop) (σ : ts_S) (t : Nat) (a1 : Int32) (ht : tX_T t) (hw : wp_X8_isSteady K σ t a1) : ts_Mi l yX8_isSteady (Cond.code yX8_isSteady cX8_isSteady 2 (some .boolean)) 3 (tX_w v) [.ref (tX_ad v t), .int a1] σ K := by
  refine ts_Mi.of_z (w := tX_w v) hi (by decide +kernel) (Nat.le_of_ble_eq_true rfl) ?_
  intro g hgl hgn X hret
  unfold wp_X8_isSteady at hw
  show ts_G g (tX_w v) 2 σ 0 [(0, .ref (tX_ad v t)), (1, .int a1)] []
  refine ts_aload_n X dX8_isSteady_0 0 rfl ?_
  refine gf_X8_21 X ht (q := (t + 4)) rfl dX8_isSteady_1 ?_
  refine ts_iload_n X dX8_isSteady_4 1 rfl ?_
  refine xz_ald X (tX_a4 ht rfl) hw.1 dX8_isSteady_5 ?_
  have hw := hw.2
  refine ts_if_ne 42 X dX8_isSteady_6 (by decide) (fun c => ?_) (fun c => ?_)
  · have hw := ts_itn hw c
    refine ts_iconst X dX8_isSteady_42 (v := 0) (by decide) ?_
    exact hret _ _ _ _ hw dX8_isSteady_43
  · have hw := ts_itp hw c
    refine ts_aload_n X dX8_isSteady_9 0 rfl ?_
    refine ts_aload_n X dX8_isSteady_10 0 rfl ?_
    refine gf_X8_28 X ht (q := tX_pl t) rfl dX8_isSteady_11 ?_
    refine gf_X8_42 X (tX_Lp t) (q := (tX_pl t + 1)) rfl dX8_isSteady_14 ?_
    refine ts_iload_n X dX8_isSteady_17 1 rfl ?_
    refine xi_ald X (tX_b1 (tX_Lp t) rfl) hw.1 dX8_isSteady_18 ?_
    have hw := hw.2
    refine ts_iload_n X dX8_isSteady_19 1 rfl ?_
    refine ts_aload_n X dX8_isSteady_20 0 rfl ?_
    refine gf_X8_9 X ht (q := (t + 1)) rfl dX8_isSteady_21 ?_
    refine ts_iload_n X dX8_isSteady_24 1 rfl ?_
    refine xi_ald X (tX_a1 ht rfl) hw.1 dX8_isSteady_25 ?_
    have hw := hw.2
    refine ts_callVi (w := tX_w v) X (k := t) (ht).lt (tX_eT ht _) rfl rfl (As := [.int (σ (tX_pl t + 1) a1.toNatClampNeg), .int a1, .int (σ (t + 1) a1.toNatClampNeg)]) (ct_X8_fearAs g.2.1 v hi _ _ _ _ _ _ ht hw) ok_X8_fearAs cw_X8_47 (ts_le hgn (by decide)) (by decide) rfl rfl (Nat.le_of_ble_eq_true rfl) dX8_isSteady_26 (fun r3 s4 hw => ?_)
    refine ts_aload_n X dX8_isSteady_29 0 rfl ?_
    refine gf_X8_18 X ht (q := (t + 3)) rfl dX8_isSteady_30 ?_
    refine ts_iload_n X dX8_isSteady_33 1 rfl ?_
    refine xi_ald X (tX_a3 ht rfl) hw.1 dX8_isSteady_34 ?_
    have hw := hw.2
    refine ts_icmp_gt 42 X dX8_isSteady_35 (by decide) (fun c => ?_) (fun c => ?_)
    · have hw := ts_itp hw c
      refine ts_iconst X dX8_isSteady_42 (v := 0) (by decide) ?_
      exact hret _ _ _ _ hw dX8_isSteady_43
    · have hw := ts_itn hw c
      refine ts_iconst X dX8_isSteady_38 (v := 1) (by decide) ?_
      refine ts_goto 43 X dX8_isSteady_39 (by decide) ?_
      exact hret _ _ _ _ hw dX8_isSteady_43
set_option maxRecDepth 100000 in
set_option maxHeartbeats 4000000 in
theorem ct_X8_steadyBits (l : Launch) (v : tX_V) (hi : ts_inj 151 (tX_ad v)) (K : Int32 → ts_S → Prop) (σ : ts_S) (t : Nat) (ht : tX_T t) (hw : wp_X8_steadyBits K σ t) : ts_Mi l yX8_steadyBits (Cond.code yX8_steadyBits cX8_steadyBits 3 (some .int)) 4 (tX_w v) [.ref (tX_ad v t)] σ K := by
  refine ts_Mi.of_i (w := tX_w v) hi (by decide +kernel) (Nat.le_of_ble_eq_true rfl) ?_
  intro g hgl hgn X hret
  have J4 : ∀ (σ : ts_S) (x1 : Int32) (x2 : Int32), wp_X8_steadyBits_l4 K t σ x1 x2 → ts_G g (tX_w v) 3 σ 4 [(0, .ref (tX_ad v t)), (1, .int x1), (2, .int x2)] [] := by
    intro  σ x1 x2 hw
    have key : ∀ X4 : ts_S → Int32 → Int32 → Prop, (∀ (σ : ts_S) (x1 : Int32) (x2 : Int32), X4 σ x1 x2 → ts_G g (tX_w v) 3 σ 4 [(0, .ref (tX_ad v t)), (1, .int x1), (2, .int x2)] []) → ∀ (σ : ts_S) (x1 : Int32) (x2 : Int32), wp_X8_steadyBits_b4 K X4 t  σ x1 x2 → ts_G g (tX_w v) 3 σ 4 [(0, .ref (tX_ad v t)), (1, .int x1), (2, .int x2)] [] := by
      intro X4 hX4
      intro σ x1 x2 hw
      unfold wp_X8_steadyBits_b4 at hw
      refine ts_iload_n X dX8_steadyBits_4 2 rfl ?_
      refine ts_aload_n X dX8_steadyBits_5 0 rfl ?_
      refine gf_X8_28 X ht (q := tX_pl t) rfl dX8_steadyBits_6 ?_
      refine gf_X8_51 X (tX_Lp t) dX8_steadyBits_9 ?_
      refine ts_icmp_ge 35 X dX8_steadyBits_12 (by decide) (fun c => ?_) (fun c => ?_)
      · have hw := ts_itp hw c
        refine ts_iload_n X dX8_steadyBits_35 1 rfl ?_
        exact hret _ _ _ _ hw dX8_steadyBits_36
      · have hw := ts_itn hw c
        refine ts_aload_n X dX8_steadyBits_15 0 rfl ?_
        refine ts_iload_n X dX8_steadyBits_16 2 rfl ?_
        refine ts_callVi (w := tX_w v) X (k := t) (ht).lt (tX_eT ht _) rfl rfl (As := [.int x2]) (ct_X8_isSteady g.2.1 v hi _ _ _ _ ht hw) ok_X8_isSteady cw_X8_65 (ts_le hgn (by decide)) (by decide) rfl rfl (Nat.le_of_ble_eq_true rfl) dX8_steadyBits_17 (fun r3 s4 hw => ?_)
        refine ts_if_eq 29 X dX8_steadyBits_20 (by decide) (fun c => ?_) (fun c => ?_)
        · have hw := ts_itp hw c
          refine ts_iinc X dX8_steadyBits_29 2 rfl (v := x2 + 1) rfl (by decide) (lv' := [(2, .int (x2 + 1)), (0, .ref (tX_ad v t)), (1, .int x1)]) rfl ?_
          refine ts_goto 4 X dX8_steadyBits_32 (by decide) ?_
          exact ts_sub [1, 2, 0] rfl (hX4 _ _ _ hw)
        · have hw := ts_itn hw c
          refine ts_iload_n X dX8_steadyBits_23 1 rfl ?_
          refine ts_iconst X dX8_steadyBits_24 (v := 1) (by decide) ?_
          refine ts_iload_n X dX8_steadyBits_25 2 rfl ?_
          refine ts_ishl X dX8_steadyBits_26 ?_
          refine ts_ior X dX8_steadyBits_27 ?_
          refine ts_istore_n X dX8_steadyBits_28 (by decide) (lv' := [(1, .int (x1 ||| (1 <<< (x2 &&& 31)))), (0, .ref (tX_ad v t)), (2, .int x2)]) rfl ?_
          refine ts_iinc X dX8_steadyBits_29 2 rfl (v := x2 + 1) rfl (by decide) (lv' := [(2, .int (x2 + 1)), (1, .int (x1 ||| (1 <<< (x2 &&& 31)))), (0, .ref (tX_ad v t))]) rfl ?_
          refine ts_goto 4 X dX8_steadyBits_32 (by decide) ?_
          exact ts_sub [2, 1, 0] rfl (hX4 _ _ _ hw)
    exact hw _ (fun σ x1 x2 h => key _ (fun _ _ _ h => h) σ x1 x2 h)
  unfold wp_X8_steadyBits at hw
  show ts_G g (tX_w v) 3 σ 0 [(0, .ref (tX_ad v t))] []
  refine ts_iconst X dX8_steadyBits_0 (v := 0) (by decide) ?_
  refine ts_istore_n X dX8_steadyBits_1 (by decide) (lv' := [(1, .int 0), (0, .ref (tX_ad v t))]) rfl ?_
  refine ts_iconst X dX8_steadyBits_2 (v := 0) (by decide) ?_
  refine ts_istore_n X dX8_steadyBits_3 (by decide) (lv' := [(2, .int 0), (1, .int 0), (0, .ref (tX_ad v t))]) rfl ?_
  exact ts_sub [2, 1, 0] rfl (J4  _ _ _ hw)
set_option maxRecDepth 100000 in
set_option maxHeartbeats 4000000 in
theorem ct_X9_hasBit (l : Launch) (v : tX_V) (hi : ts_inj 151 (tX_ad v)) (K : Int32 → ts_S → Prop) (σ : ts_S) (a0 : Int32) (a1 : Int32)  (hw : wp_X9_hasBit K σ a0 a1) : ts_Mi l yX9_hasBit (Cond.code yX9_hasBit cX9_hasBit 2 (some .boolean)) 1 (tX_w v) [.int a0, .int a1] σ K := by
  refine ts_Mi.of_z (w := tX_w v) hi (by decide +kernel) (Nat.le_of_ble_eq_true rfl) ?_
  intro g hgl hgn X hret
  unfold wp_X9_hasBit at hw
  show ts_G g (tX_w v) 2 σ 0 [(0, .int a0), (1, .int a1)] []
  refine ts_iload_n X dX9_hasBit_0 0 rfl ?_
  refine ts_iload_n X dX9_hasBit_1 1 rfl ?_
  refine ts_ishr X dX9_hasBit_2 ?_
  refine ts_iconst X dX9_hasBit_3 (v := 1) (by decide) ?_
  refine ts_iand X dX9_hasBit_4 ?_
  refine ts_iconst X dX9_hasBit_5 (v := 1) (by decide) ?_
  refine ts_icmp_ne 13 X dX9_hasBit_6 (by decide) (fun c => ?_) (fun c => ?_)
  · have hw := ts_itn hw c
    refine ts_iconst X dX9_hasBit_13 (v := 0) (by decide) ?_
    exact hret _ _ _ _ hw dX9_hasBit_14
  · have hw := ts_itp hw c
    refine ts_iconst X dX9_hasBit_9 (v := 1) (by decide) ?_
    refine ts_goto 14 X dX9_hasBit_10 (by decide) ?_
    exact hret _ _ _ _ hw dX9_hasBit_14
set_option maxRecDepth 100000 in
set_option maxHeartbeats 4000000 in
theorem ct_X8_isDone (l : Launch) (v : tX_V) (hi : ts_inj 151 (tX_ad v)) (K : Int32 → ts_S → Prop) (σ : ts_S) (t : Nat) (a1 : Int32) (a2 : Int32) (ht : tX_T t) (hw : wp_X8_isDone K σ t a1 a2) : ts_Mi l yX8_isDone (Cond.code yX8_isDone cX8_isDone 5 (some .boolean)) 2 (tX_w v) [.ref (tX_ad v t), .int a1, .int a2] σ K := by
  refine ts_Mi.of_z (w := tX_w v) hi (by decide +kernel) (Nat.le_of_ble_eq_true rfl) ?_
  intro g hgl hgn X hret
  have J5 : ∀ (σ : ts_S) (x3 : Int32) (x4 : Int32), wp_X8_isDone_l5 K t a1 a2 σ x3 x4 → ts_G g (tX_w v) 5 σ 5 [(0, .ref (tX_ad v t)), (1, .int a1), (2, .int a2), (3, .int x3), (4, .int x4)] [] := by
    intro  σ x3 x4 hw
    have key : ∀ X5 : ts_S → Int32 → Int32 → Prop, (∀ (σ : ts_S) (x3 : Int32) (x4 : Int32), X5 σ x3 x4 → ts_G g (tX_w v) 5 σ 5 [(0, .ref (tX_ad v t)), (1, .int a1), (2, .int a2), (3, .int x3), (4, .int x4)] []) → ∀ (σ : ts_S) (x3 : Int32) (x4 : Int32), wp_X8_isDone_b5 K X5 t a1 a2  σ x3 x4 → ts_G g (tX_w v) 5 σ 5 [(0, .ref (tX_ad v t)), (1, .int a1), (2, .int a2), (3, .int x3), (4, .int x4)] [] := by
      intro X5 hX5
      intro σ x3 x4 hw
      unfold wp_X8_isDone_b5 at hw
      refine ts_iload X dX8_isDone_5 4 rfl ?_
      refine ts_aload_n X dX8_isDone_7 0 rfl ?_
      refine gf_X8_28 X ht (q := tX_pl t) rfl dX8_isDone_8 ?_
      refine gf_X8_51 X (tX_Lp t) dX8_isDone_11 ?_
      refine ts_icmp_ge 54 X dX8_isDone_14 (by decide) (fun c => ?_) (fun c => ?_)
      · have hw := ts_itp hw c
        refine ts_iload_n X dX8_isDone_54 3 rfl ?_
        refine ts_aload_n X dX8_isDone_55 0 rfl ?_
        refine gf_X8_28 X ht (q := tX_pl t) rfl dX8_isDone_56 ?_
        refine gf_X8_75 X (tX_Lp t) (q := (tX_pl t + 3)) rfl dX8_isDone_59 ?_
        refine ts_iload_n X dX8_isDone_62 1 rfl ?_
        refine xi_ald X (tX_b3 (tX_Lp t) rfl) hw.1 dX8_isDone_63 ?_
        have hw := hw.2
        refine ts_icmp_lt 71 X dX8_isDone_64 (by decide) (fun c => ?_) (fun c => ?_)
        · have hw := ts_itp hw c
          refine ts_iconst X dX8_isDone_71 (v := 0) (by decide) ?_
          exact hret _ _ _ _ hw dX8_isDone_72
        · have hw := ts_itn hw c
          refine ts_iconst X dX8_isDone_67 (v := 1) (by decide) ?_
          refine ts_goto 72 X dX8_isDone_68 (by decide) ?_
          exact hret _ _ _ _ hw dX8_isDone_72
      · have hw := ts_itn hw c
        refine ts_iload_n X dX8_isDone_17 2 rfl ?_
        refine ts_iload X dX8_isDone_18 4 rfl ?_
        refine ts_callNi X (As := [.int a2, .int x4]) (ct_X9_hasBit g.2.1 v hi _ _ _ _ hw) ok_X9_hasBit cw_X8_68 (ts_le hgn (by decide)) (by decide) rfl rfl (Nat.le_of_ble_eq_true rfl) dX8_isDone_20 (fun r3 s4 hw => ?_)
        refine ts_if_eq 48 X dX8_isDone_23 (by decide) (fun c => ?_) (fun c => ?_)
        · have hw := ts_itp hw c
          refine ts_iinc X dX8_isDone_48 4 rfl (v := x4 + 1) rfl (by decide) (lv' := [(4, .int (x4 + 1)), (0, .ref (tX_ad v t)), (1, .int a1), (2, .int a2), (3, .int x3)]) rfl ?_
          refine ts_goto 5 X dX8_isDone_51 (by decide) ?_
          exact ts_sub [1, 2, 3, 4, 0] rfl (hX5 _ _ _ hw)
        · have hw := ts_itn hw c
          refine ts_aload_n X dX8_isDone_26 0 rfl ?_
          refine gf_X8_9 X ht (q := (t + 1)) rfl dX8_isDone_27 ?_
          refine ts_iload X dX8_isDone_30 4 rfl ?_
          refine xi_ald X (tX_a1 ht rfl) hw.1 dX8_isDone_32 ?_
          have hw := hw.2
          refine ts_aload_n X dX8_isDone_33 0 rfl ?_
          refine gf_X8_28 X ht (q := tX_pl t) rfl dX8_isDone_34 ?_
          refine gf_X8_72 X (tX_Lp t) (q := (tX_pl t + 2)) rfl dX8_isDone_37 ?_
          refine ts_iload_n X dX8_isDone_40 1 rfl ?_
          refine xi_ald X (tX_b2 (tX_Lp t) rfl) hw.1 dX8_isDone_41 ?_
          have hw := hw.2
          refine ts_icmp_ne 48 X dX8_isDone_42 (by decide) (fun c => ?_) (fun c => ?_)
          · have hw := ts_itn hw c
            refine ts_iinc X dX8_isDone_48 4 rfl (v := x4 + 1) rfl (by decide) (lv' := [(4, .int (x4 + 1)), (0, .ref (tX_ad v t)), (1, .int a1), (2, .int a2), (3, .int x3)]) rfl ?_
            refine ts_goto 5 X dX8_isDone_51 (by decide) ?_
            exact ts_sub [1, 2, 3, 4, 0] rfl (hX5 _ _ _ hw)
          · have hw := ts_itp hw c
            refine ts_iinc X dX8_isDone_45 3 rfl (v := x3 + 1) rfl (by decide) (lv' := [(3, .int (x3 + 1)), (0, .ref (tX_ad v t)), (1, .int a1), (2, .int a2), (4, .int x4)]) rfl ?_
            refine ts_iinc X dX8_isDone_48 4 rfl (v := x4 + 1) rfl (by decide) (lv' := [(4, .int (x4 + 1)), (3, .int (x3 + 1)), (0, .ref (tX_ad v t)), (1, .int a1), (2, .int a2)]) rfl ?_
            refine ts_goto 5 X dX8_isDone_51 (by decide) ?_
            exact ts_sub [2, 3, 4, 1, 0] rfl (hX5 _ _ _ hw)
    exact hw _ (fun σ x3 x4 h => key _ (fun _ _ _ h => h) σ x3 x4 h)
  unfold wp_X8_isDone at hw
  show ts_G g (tX_w v) 5 σ 0 [(0, .ref (tX_ad v t)), (1, .int a1), (2, .int a2)] []
  refine ts_iconst X dX8_isDone_0 (v := 0) (by decide) ?_
  refine ts_istore_n X dX8_isDone_1 (by decide) (lv' := [(3, .int 0), (0, .ref (tX_ad v t)), (1, .int a1), (2, .int a2)]) rfl ?_
  refine ts_iconst X dX8_isDone_2 (v := 0) (by decide) ?_
  refine ts_istore X dX8_isDone_3 (by decide) (lv' := [(4, .int 0), (3, .int 0), (0, .ref (tX_ad v t)), (1, .int a1), (2, .int a2)]) rfl ?_
  exact ts_sub [2, 3, 4, 1, 0] rfl (J5  _ _ _ hw)
set_option maxRecDepth 100000 in
set_option maxHeartbeats 4000000 in
theorem ct_X8_goYear (l : Launch) (v : tX_V) (hi : ts_inj 151 (tX_ad v)) (K : ts_S → Prop) (σ : ts_S) (t : Nat) (ht : tX_T t) (hw : wp_X8_goYear K σ t) : ts_Mv l yX8_goYear (Cond.code yX8_goYear cX8_goYear 5 (none)) 4 (tX_w v) [.ref (tX_ad v t)] σ K := by
  refine ts_Mv.of_v (w := tX_w v) hi (by decide +kernel) (Nat.le_of_ble_eq_true rfl) ?_
  intro g hgl hgn X hret
  have J90 : ∀ (σ : ts_S) (x1 : Int32) (x2 : Int32) (x3 : Int32), wp_X8_goYear_l90 K t σ x1 x2 x3 → ts_G g (tX_w v) 5 σ 90 [(0, .ref (tX_ad v t)), (1, .int x1), (2, .int x2), (3, .int x3)] [] := by
    intro  σ x1 x2 x3 hw
    have key : ∀ X90 : ts_S → Int32 → Prop, (∀ (σ : ts_S) (x3 : Int32), X90 σ x3 → ts_G g (tX_w v) 5 σ 90 [(0, .ref (tX_ad v t)), (1, .int x1), (2, .int x2), (3, .int x3)] []) → ∀ (σ : ts_S) (x3 : Int32), wp_X8_goYear_b90 K X90 t x1 x2 σ x3 → ts_G g (tX_w v) 5 σ 90 [(0, .ref (tX_ad v t)), (1, .int x1), (2, .int x2), (3, .int x3)] [] := by
      intro X90 hX90
      have J170 : ∀ (σ : ts_S) (x3 : Int32), wp_X8_goYear_j170 K X90 t σ x1 x2 x3 → ts_G g (tX_w v) 5 σ 170 [(0, .ref (tX_ad v t)), (1, .int x1), (2, .int x2), (3, .int x3)] [] := by
        intro  σ x3 hw
        unfold wp_X8_goYear_j170 at hw
        refine ts_aload_n X dX8_goYear_170 0 rfl ?_
        refine gf_X8_15 X ht (q := (t + 2)) rfl dX8_goYear_171 ?_
        refine ts_iload_n X dX8_goYear_174 3 rfl ?_
        refine ts_aload_n X dX8_goYear_175 0 rfl ?_
        refine gf_X8_15 X ht (q := (t + 2)) rfl dX8_goYear_176 ?_
        refine ts_iload_n X dX8_goYear_179 3 rfl ?_
        refine xi_ald X (tX_a2 ht rfl) hw.1 dX8_goYear_180 ?_
        have hw := hw.2
        refine ts_iconst X dX8_goYear_181 (v := 1) (by decide) ?_
        refine ts_iadd X dX8_goYear_182 ?_
        refine ts_bipush X dX8_goYear_183 (v := 99) (by decide) ?_
        refine ts_mmin X kw_601 kw_602 kw_64 kw_603 (ts_le hgn (by decide)) (Nat.le_of_ble_eq_true rfl) dX8_goYear_185 ?_
        refine xi_ast X (tX_a2 ht rfl) hw.1 dX8_goYear_188 (fun s12 es12 => ?_)
        have hw := hw.2 s12 es12
        refine ts_aload_n X dX8_goYear_189 0 rfl ?_
        refine gf_X8_25 X ht (q := (t + 5)) rfl dX8_goYear_190 ?_
        refine ts_iload_n X dX8_goYear_193 3 rfl ?_
        refine ts_iconst X dX8_goYear_194 (v := 0) (by decide) ?_
        refine xz_ast X (tX_a5 ht rfl) hw.1 dX8_goYear_195 (fun s13 es13 => ?_)
        have hw := hw.2 s13 es13
        refine ts_iinc X dX8_goYear_196 3 rfl (v := x3 + 1) rfl (by decide) (lv' := [(3, .int (x3 + 1)), (0, .ref (tX_ad v t)), (1, .int x1), (2, .int x2)]) rfl ?_
        refine ts_goto 90 X dX8_goYear_199 (by decide) ?_
        exact ts_sub [1, 2, 3, 0] rfl (hX90 _ _ hw)
      have J169 : ∀ (σ : ts_S) (x3 : Int32) (y0 : Int32) (y1 : Int32), wp_X8_goYear_j169 K X90 t σ x1 x2 x3 y0 y1 → ts_G g (tX_w v) 5 σ 169 [(0, .ref (tX_ad v t)), (1, .int x1), (2, .int x2), (3, .int x3)] [.int y0, .int y1, .ref (tX_ad v (t + 3))] := by
        intro  σ x3 y0 y1 hw
        unfold wp_X8_goYear_j169 at hw
        refine xi_ast X (tX_a3 ht rfl) hw.1 dX8_goYear_169 (fun s14 es14 => ?_)
        have hw := hw.2 s14 es14
        exact ts_sub [0, 1, 2, 3] rfl (J170  _ _ hw)
      intro σ x3 hw
      unfold wp_X8_goYear_b90 at hw
      refine ts_iload_n X dX8_goYear_90 3 rfl ?_
      refine ts_aload_n X dX8_goYear_91 0 rfl ?_
      refine gf_X8_28 X ht (q := tX_pl t) rfl dX8_goYear_92 ?_
      refine gf_X8_51 X (tX_Lp t) dX8_goYear_95 ?_
      refine ts_icmp_ge 202 X dX8_goYear_98 (by decide) (fun c => ?_) (fun c => ?_)
      · have hw := ts_itp hw c
        refine ts_aload_n X dX8_goYear_202 0 rfl ?_
        refine ts_dup X dX8_goYear_203 rfl ?_
        refine gf_X8_38 X ht dX8_goYear_204 ?_
        refine ts_iconst X dX8_goYear_207 (v := 1) (by decide) ?_
        refine ts_iadd X dX8_goYear_208 ?_
        refine pf_X8_38 X ht dX8_goYear_209 (fun s15 es15 => ?_)
        have hw := hw s15 es15
        exact hret _ _ _ hw dX8_goYear_212
      · have hw := ts_itn hw c
        refine ts_iload_n X dX8_goYear_101 2 rfl ?_
        refine ts_iload_n X dX8_goYear_102 3 rfl ?_
        refine ts_callNi X (As := [.int x2, .int x3]) (ct_X9_hasBit g.2.1 v hi _ _ _ _ hw) ok_X9_hasBit cw_X8_68 (ts_le hgn (by decide)) (by decide) rfl rfl (Nat.le_of_ble_eq_true rfl) dX8_goYear_103 (fun r16 s17 hw => ?_)
        refine ts_if_eq 119 X dX8_goYear_106 (by decide) (fun c => ?_) (fun c => ?_)
        · have hw := ts_itp hw c
          refine ts_aload_n X dX8_goYear_119 0 rfl ?_
          refine gf_X8_21 X ht (q := (t + 4)) rfl dX8_goYear_120 ?_
          refine ts_iload_n X dX8_goYear_123 3 rfl ?_
          refine xz_ald X (tX_a4 ht rfl) hw.1 dX8_goYear_124 ?_
          have hw := hw.2
          refine ts_if_ne 170 X dX8_goYear_125 (by decide) (fun c => ?_) (fun c => ?_)
          · have hw := ts_itn hw c
            exact ts_sub [0, 1, 2, 3] rfl (J170  _ _ hw)
          · have hw := ts_itp hw c
            refine ts_aload_n X dX8_goYear_128 0 rfl ?_
            refine gf_X8_18 X ht (q := (t + 3)) rfl dX8_goYear_129 ?_
            refine ts_iload_n X dX8_goYear_132 3 rfl ?_
            refine ts_iload_n X dX8_goYear_133 1 rfl ?_
            refine ts_iload_n X dX8_goYear_134 3 rfl ?_
            refine ts_callNi X (As := [.int x1, .int x3]) (ct_X9_hasBit g.2.1 v hi _ _ _ _ hw) ok_X9_hasBit cw_X8_68 (ts_le hgn (by decide)) (by decide) rfl rfl (Nat.le_of_ble_eq_true rfl) dX8_goYear_135 (fun r18 s19 hw => ?_)
            refine ts_if_eq 156 X dX8_goYear_138 (by decide) (fun c => ?_) (fun c => ?_)
            · have hw := ts_itp hw c
              refine ts_aload_n X dX8_goYear_156 0 rfl ?_
              refine gf_X8_18 X ht (q := (t + 3)) rfl dX8_goYear_157 ?_
              refine ts_iload_n X dX8_goYear_160 3 rfl ?_
              refine xi_ald X (tX_a3 ht rfl) hw.1 dX8_goYear_161 ?_
              have hw := hw.2
              refine ts_iconst X dX8_goYear_162 (v := 1) (by decide) ?_
              refine ts_iadd X dX8_goYear_163 ?_
              refine ts_bipush X dX8_goYear_164 (v := 30) (by decide) ?_
              refine ts_mmin X kw_601 kw_602 kw_64 kw_603 (ts_le hgn (by decide)) (Nat.le_of_ble_eq_true rfl) dX8_goYear_166 ?_
              exact ts_sub [0, 1, 2, 3] rfl (J169  _ _ _ _ hw)
            · have hw := ts_itn hw c
              refine ts_aload_n X dX8_goYear_141 0 rfl ?_
              refine gf_X8_18 X ht (q := (t + 3)) rfl dX8_goYear_142 ?_
              refine ts_iload_n X dX8_goYear_145 3 rfl ?_
              refine xi_ald X (tX_a3 ht rfl) hw.1 dX8_goYear_146 ?_
              have hw := hw.2
              refine ts_iconst X dX8_goYear_147 (v := 1) (by decide) ?_
              refine ts_isub X dX8_goYear_148 ?_
              refine ts_iconst X dX8_goYear_149 (v := 0) (by decide) ?_
              refine ts_mmax X kw_600 kw_223 kw_64 kw_224 (ts_le hgn (by decide)) (Nat.le_of_ble_eq_true rfl) dX8_goYear_150 ?_
              refine ts_goto 169 X dX8_goYear_153 (by decide) ?_
              exact ts_sub [0, 1, 2, 3] rfl (J169  _ _ _ _ hw)
        · have hw := ts_itn hw c
          refine ts_aload_n X dX8_goYear_109 0 rfl ?_
          refine gf_X8_21 X ht (q := (t + 4)) rfl dX8_goYear_110 ?_
          refine ts_iload_n X dX8_goYear_113 3 rfl ?_
          refine ts_iconst X dX8_goYear_114 (v := 1) (by decide) ?_
          refine xz_ast X (tX_a4 ht rfl) hw.1 dX8_goYear_115 (fun s20 es20 => ?_)
          have hw := hw.2 s20 es20
          refine ts_goto 170 X dX8_goYear_116 (by decide) ?_
          exact ts_sub [0, 1, 2, 3] rfl (J170  _ _ hw)
    exact hw _ (fun σ x3 h => key _ (fun _ _ h => h) σ x3 h)
  have J6 : ∀ (σ : ts_S) (x1 : Int32) (x2 : Int32) (x3 : Int32), wp_X8_goYear_l6 K t σ x1 x2 x3 → ts_G g (tX_w v) 5 σ 6 [(0, .ref (tX_ad v t)), (1, .int x1), (2, .int x2), (3, .int x3)] [] := by
    intro  σ x1 x2 x3 hw
    have key : ∀ X6 : ts_S → Int32 → Int32 → Int32 → Prop, (∀ (σ : ts_S) (x1 : Int32) (x2 : Int32) (x3 : Int32), X6 σ x1 x2 x3 → ts_G g (tX_w v) 5 σ 6 [(0, .ref (tX_ad v t)), (1, .int x1), (2, .int x2), (3, .int x3)] []) → ∀ (σ : ts_S) (x1 : Int32) (x2 : Int32) (x3 : Int32), wp_X8_goYear_b6 K X6 t  σ x1 x2 x3 → ts_G g (tX_w v) 5 σ 6 [(0, .ref (tX_ad v t)), (1, .int x1), (2, .int x2), (3, .int x3)] [] := by
      intro X6 hX6
      have J62 : ∀ (σ : ts_S) (x1 : Int32) (x2 : Int32) (x3 : Int32) (x4 : Int32), wp_X8_goYear_j62 K X6 t σ x1 x2 x3 x4 → ts_G g (tX_w v) 5 σ 62 [(0, .ref (tX_ad v t)), (1, .int x1), (2, .int x2), (3, .int x3), (4, .int x4)] [] := by
        intro  σ x1 x2 x3 x4 hw
        unfold wp_X8_goYear_j62 at hw
        refine ts_aload_n X dX8_goYear_62 0 rfl ?_
        refine gf_X8_21 X ht (q := (t + 4)) rfl dX8_goYear_63 ?_
        refine ts_iload_n X dX8_goYear_66 3 rfl ?_
        refine xz_ald X (tX_a4 ht rfl) hw.1 dX8_goYear_67 ?_
        have hw := hw.2
        refine ts_if_ne 82 X dX8_goYear_68 (by decide) (fun c => ?_) (fun c => ?_)
        · have hw := ts_itn hw c
          refine ts_iinc X dX8_goYear_82 3 rfl (v := x3 + 1) rfl (by decide) (lv' := [(3, .int (x3 + 1)), (0, .ref (tX_ad v t)), (1, .int x1), (2, .int x2), (4, .int x4)]) rfl ?_
          refine ts_goto 6 X dX8_goYear_85 (by decide) ?_
          exact ts_sub [1, 2, 3, 0] rfl (hX6 _ _ _ _ hw)
        · have hw := ts_itp hw c
          refine ts_iload X dX8_goYear_71 4 rfl ?_
          refine ts_if_le 82 X dX8_goYear_73 (by decide) (fun c => ?_) (fun c => ?_)
          · have hw := ts_itp hw c
            refine ts_iinc X dX8_goYear_82 3 rfl (v := x3 + 1) rfl (by decide) (lv' := [(3, .int (x3 + 1)), (0, .ref (tX_ad v t)), (1, .int x1), (2, .int x2), (4, .int x4)]) rfl ?_
            refine ts_goto 6 X dX8_goYear_85 (by decide) ?_
            exact ts_sub [1, 2, 3, 0] rfl (hX6 _ _ _ _ hw)
          · have hw := ts_itn hw c
            refine ts_iload_n X dX8_goYear_76 1 rfl ?_
            refine ts_iconst X dX8_goYear_77 (v := 1) (by decide) ?_
            refine ts_iload_n X dX8_goYear_78 3 rfl ?_
            refine ts_ishl X dX8_goYear_79 ?_
            refine ts_ior X dX8_goYear_80 ?_
            refine ts_istore_n X dX8_goYear_81 (by decide) (lv' := [(1, .int (x1 ||| (1 <<< (x3 &&& 31)))), (0, .ref (tX_ad v t)), (2, .int x2), (3, .int x3), (4, .int x4)]) rfl ?_
            refine ts_iinc X dX8_goYear_82 3 rfl (v := x3 + 1) rfl (by decide) (lv' := [(3, .int (x3 + 1)), (1, .int (x1 ||| (1 <<< (x3 &&& 31)))), (0, .ref (tX_ad v t)), (2, .int x2), (4, .int x4)]) rfl ?_
            refine ts_goto 6 X dX8_goYear_85 (by decide) ?_
            exact ts_sub [2, 1, 3, 0] rfl (hX6 _ _ _ _ hw)
      intro σ x1 x2 x3 hw
      unfold wp_X8_goYear_b6 at hw
      refine ts_iload_n X dX8_goYear_6 3 rfl ?_
      refine ts_aload_n X dX8_goYear_7 0 rfl ?_
      refine gf_X8_28 X ht (q := tX_pl t) rfl dX8_goYear_8 ?_
      refine gf_X8_51 X (tX_Lp t) dX8_goYear_11 ?_
      refine ts_icmp_ge 88 X dX8_goYear_14 (by decide) (fun c => ?_) (fun c => ?_)
      · have hw := ts_itp hw c
        refine ts_iconst X dX8_goYear_88 (v := 0) (by decide) ?_
        refine ts_istore_n X dX8_goYear_89 (by decide) (lv' := [(3, .int 0), (0, .ref (tX_ad v t)), (1, .int x1), (2, .int x2)]) rfl ?_
        exact ts_sub [1, 2, 3, 0] rfl (J90  _ _ _ _ hw)
      · have hw := ts_itn hw c
        refine ts_aload_n X dX8_goYear_17 0 rfl ?_
        refine ts_iload_n X dX8_goYear_18 3 rfl ?_
        refine ts_aload_n X dX8_goYear_19 0 rfl ?_
        refine gf_X8_9 X ht (q := (t + 1)) rfl dX8_goYear_20 ?_
        refine ts_iload_n X dX8_goYear_23 3 rfl ?_
        refine xi_ald X (tX_a1 ht rfl) hw.1 dX8_goYear_24 ?_
        have hw := hw.2
        refine ts_callVi (w := tX_w v) X (k := t) (ht).lt (tX_eT ht _) rfl rfl (As := [.int x3, .int (σ (t + 1) x3.toNatClampNeg)]) (ct_X8_fearOn g.2.1 v hi _ _ _ _ _ ht hw) ok_X8_fearOn cw_X8_95 (ts_le hgn (by decide)) (by decide) rfl rfl (Nat.le_of_ble_eq_true rfl) dX8_goYear_25 (fun r21 s22 hw => ?_)
        refine ts_aload_n X dX8_goYear_28 0 rfl ?_
        refine gf_X8_18 X ht (q := (t + 3)) rfl dX8_goYear_29 ?_
        refine ts_iload_n X dX8_goYear_32 3 rfl ?_
        refine xi_ald X (tX_a3 ht rfl) hw.1 dX8_goYear_33 ?_
        have hw := hw.2
        refine ts_isub X dX8_goYear_34 ?_
        refine ts_istore X dX8_goYear_35 (by decide) (lv' := [(4, .int (r21 - (s22 (t + 3) x3.toNatClampNeg))), (0, .ref (tX_ad v t)), (1, .int x1), (2, .int x2), (3, .int x3)]) rfl ?_
        refine ts_aload_n X dX8_goYear_37 1 rfl ?_
        refine gf_X8_21 X ht (q := (t + 4)) rfl dX8_goYear_38 ?_
        refine ts_iload_n X dX8_goYear_41 4 rfl ?_
        refine xz_ald X (tX_a4 ht rfl) hw.1 dX8_goYear_42 ?_
        have hw := hw.2
        refine ts_if_ne 62 X dX8_goYear_43 (by decide) (fun c => ?_) (fun c => ?_)
        · have hw := ts_itn hw c
          exact ts_sub [1, 2, 3, 4, 0] rfl (J62  _ _ _ _ _ hw)
        · have hw := ts_itp hw c
          refine ts_iload X dX8_goYear_46 0 rfl ?_
          refine ts_bipush X dX8_goYear_48 (v := 8) (by decide) ?_
          refine ts_icmp_lt 62 X dX8_goYear_50 (by decide) (fun c => ?_) (fun c => ?_)
          · have hw := ts_itp hw c
            exact ts_sub [1, 2, 3, 4, 0] rfl (J62  _ _ _ _ _ hw)
          · have hw := ts_itn hw c
            refine ts_iload_n X dX8_goYear_53 3 rfl ?_
            refine ts_iconst X dX8_goYear_54 (v := 1) (by decide) ?_
            refine ts_iload_n X dX8_goYear_55 4 rfl ?_
            refine ts_ishl X dX8_goYear_56 ?_
            refine ts_ior X dX8_goYear_57 ?_
            refine ts_istore_n X dX8_goYear_58 (by decide) (lv' := [(2, .int (x2 ||| (1 <<< (x3 &&& 31)))), (4, .int (r21 - (s22 (t + 3) x3.toNatClampNeg))), (0, .ref (tX_ad v t)), (1, .int x1), (3, .int x3)]) rfl ?_
            refine ts_goto 82 X dX8_goYear_59 (by decide) ?_
            refine ts_iinc X dX8_goYear_82 4 rfl (v := x3 + 1) rfl (by decide) (lv' := [(3, .int (x3 + 1)), (2, .int (x2 ||| (1 <<< (x3 &&& 31)))), (4, .int (r21 - (s22 (t + 3) x3.toNatClampNeg))), (0, .ref (tX_ad v t)), (1, .int x1)]) rfl ?_
            refine ts_goto 6 X dX8_goYear_85 (by decide) ?_
            exact ts_sub [3, 4, 1, 0] rfl (hX6 _ _ _ _ hw)
    exact hw _ (fun σ x1 x2 x3 h => key _ (fun _ _ _ _ h => h) σ x1 x2 x3 h)
  unfold wp_X8_goYear at hw
  show ts_G g (tX_w v) 5 σ 0 [(0, .ref (tX_ad v t))] []
  refine ts_iconst X dX8_goYear_0 (v := 0) (by decide) ?_
  refine ts_istore_n X dX8_goYear_1 (by decide) (lv' := [(1, .int 0), (0, .ref (tX_ad v t))]) rfl ?_
  refine ts_iconst X dX8_goYear_2 (v := 0) (by decide) ?_
  refine ts_istore_n X dX8_goYear_3 (by decide) (lv' := [(2, .int 0), (1, .int 0), (0, .ref (tX_ad v t))]) rfl ?_
  refine ts_iconst X dX8_goYear_4 (v := 0) (by decide) ?_
  refine ts_istore_n X dX8_goYear_5 (by decide) (lv' := [(3, .int 0), (2, .int 0), (1, .int 0), (0, .ref (tX_ad v t))]) rfl ?_
  exact ts_sub [3, 2, 1, 0] rfl (J6  _ _ _ _ hw)
set_option maxRecDepth 100000 in
set_option maxHeartbeats 4000000 in
theorem ct_X8_goYears (l : Launch) (v : tX_V) (hi : ts_inj 151 (tX_ad v)) (K : ts_S → Prop) (σ : ts_S) (t : Nat) (a1 : Int32) (ht : tX_T t) (hw : wp_X8_goYears K σ t a1) : ts_Mv l yX8_goYears (Cond.code yX8_goYears cX8_goYears 3 (none)) 5 (tX_w v) [.ref (tX_ad v t), .int a1] σ K := by
  refine ts_Mv.of_v (w := tX_w v) hi (by decide +kernel) (Nat.le_of_ble_eq_true rfl) ?_
  intro g hgl hgn X hret
  have J2 : ∀ (σ : ts_S) (x2 : Int32), wp_X8_goYears_l2 K t a1 σ x2 → ts_G g (tX_w v) 3 σ 2 [(0, .ref (tX_ad v t)), (1, .int a1), (2, .int x2)] [] := by
    intro  σ x2 hw
    have key : ∀ X2 : ts_S → Int32 → Prop, (∀ (σ : ts_S) (x2 : Int32), X2 σ x2 → ts_G g (tX_w v) 3 σ 2 [(0, .ref (tX_ad v t)), (1, .int a1), (2, .int x2)] []) → ∀ (σ : ts_S) (x2 : Int32), wp_X8_goYears_b2 K X2 t a1  σ x2 → ts_G g (tX_w v) 3 σ 2 [(0, .ref (tX_ad v t)), (1, .int a1), (2, .int x2)] [] := by
      intro X2 hX2
      intro σ x2 hw
      unfold wp_X8_goYears_b2 at hw
      refine ts_iload_n X dX8_goYears_2 2 rfl ?_
      refine ts_iload_n X dX8_goYears_3 1 rfl ?_
      refine ts_icmp_ge 17 X dX8_goYears_4 (by decide) (fun c => ?_) (fun c => ?_)
      · have hw := ts_itp hw c
        exact hret _ _ _ hw dX8_goYears_17
      · have hw := ts_itn hw c
        refine ts_aload_n X dX8_goYears_7 0 rfl ?_
        refine ts_callVv (w := tX_w v) X (k := t) (ht).lt (tX_eT ht _) rfl rfl (As := []) (ct_X8_goYear g.2.1 v hi _ _ _ ht hw) ok_X8_goYear cw_X8_92 (ts_le hgn (by decide)) (by decide) rfl rfl (Nat.le_of_ble_eq_true rfl) dX8_goYears_8 (fun s4 hw => ?_)
        refine ts_iinc X dX8_goYears_11 2 rfl (v := x2 + 1) rfl (by decide) (lv' := [(2, .int (x2 + 1)), (0, .ref (tX_ad v t)), (1, .int a1)]) rfl ?_
        refine ts_goto 2 X dX8_goYears_14 (by decide) ?_
        exact ts_sub [1, 2, 0] rfl (hX2 _ _ hw)
    exact hw _ (fun σ x2 h => key _ (fun _ _ h => h) σ x2 h)
  unfold wp_X8_goYears at hw
  show ts_G g (tX_w v) 3 σ 0 [(0, .ref (tX_ad v t)), (1, .int a1)] []
  refine ts_iconst X dX8_goYears_0 (v := 0) (by decide) ?_
  refine ts_istore_n X dX8_goYears_1 (by decide) (lv' := [(2, .int 0), (0, .ref (tX_ad v t)), (1, .int a1)]) rfl ?_
  exact ts_sub [1, 2, 0] rfl (J2  _ _ hw)
set_option maxRecDepth 100000 in
set_option maxHeartbeats 4000000 in
theorem ct_X8_mayGoDown (l : Launch) (v : tX_V) (hi : ts_inj 151 (tX_ad v)) (K : Int32 → ts_S → Prop) (σ : ts_S) (t : Nat) (a1 : Int32) (ht : tX_T t) (hw : wp_X8_mayGoDown K σ t a1) : ts_Mi l yX8_mayGoDown (Cond.code yX8_mayGoDown cX8_mayGoDown 2 (some .boolean)) 4 (tX_w v) [.ref (tX_ad v t), .int a1] σ K := by
  refine ts_Mi.of_z (w := tX_w v) hi (by decide +kernel) (Nat.le_of_ble_eq_true rfl) ?_
  intro g hgl hgn X hret
  unfold wp_X8_mayGoDown at hw
  show ts_G g (tX_w v) 2 σ 0 [(0, .ref (tX_ad v t)), (1, .int a1)] []
  refine ts_aload_n X dX8_mayGoDown_0 0 rfl ?_
  refine gf_X8_9 X ht (q := (t + 1)) rfl dX8_mayGoDown_1 ?_
  refine ts_iload_n X dX8_mayGoDown_4 1 rfl ?_
  refine xi_ald X (tX_a1 ht rfl) hw.1 dX8_mayGoDown_5 ?_
  have hw := hw.2
  refine ts_if_le 21 X dX8_mayGoDown_6 (by decide) (fun c => ?_) (fun c => ?_)
  · have hw := ts_itp hw c
    refine ts_iconst X dX8_mayGoDown_21 (v := 0) (by decide) ?_
    exact hret _ _ _ _ hw dX8_mayGoDown_22
  · have hw := ts_itn hw c
    refine ts_aload_n X dX8_mayGoDown_9 0 rfl ?_
    refine ts_iload_n X dX8_mayGoDown_10 1 rfl ?_
    refine ts_callVi (w := tX_w v) X (k := t) (ht).lt (tX_eT ht _) rfl rfl (As := [.int a1]) (ct_X8_isSteady g.2.1 v hi _ _ _ _ ht hw) ok_X8_isSteady cw_X8_65 (ts_le hgn (by decide)) (by decide) rfl rfl (Nat.le_of_ble_eq_true rfl) dX8_mayGoDown_11 (fun r3 s4 hw => ?_)
    refine ts_if_eq 21 X dX8_mayGoDown_14 (by decide) (fun c => ?_) (fun c => ?_)
    · have hw := ts_itp hw c
      refine ts_iconst X dX8_mayGoDown_21 (v := 0) (by decide) ?_
      exact hret _ _ _ _ hw dX8_mayGoDown_22
    · have hw := ts_itn hw c
      refine ts_iconst X dX8_mayGoDown_17 (v := 1) (by decide) ?_
      refine ts_goto 22 X dX8_mayGoDown_18 (by decide) ?_
      exact hret _ _ _ _ hw dX8_mayGoDown_22
set_option maxRecDepth 100000 in
set_option maxHeartbeats 4000000 in
theorem ct_X8_goDown (l : Launch) (v : tX_V) (hi : ts_inj 151 (tX_ad v)) (K : ts_S → Prop) (σ : ts_S) (t : Nat) (a1 : Int32) (ht : tX_T t) (hw : wp_X8_goDown K σ t a1) : ts_Mv l yX8_goDown (Cond.code yX8_goDown cX8_goDown 2 (none)) 1 (tX_w v) [.ref (tX_ad v t), .int a1] σ K := by
  refine ts_Mv.of_v (w := tX_w v) hi (by decide +kernel) (Nat.le_of_ble_eq_true rfl) ?_
  intro g hgl hgn X hret
  unfold wp_X8_goDown at hw
  show ts_G g (tX_w v) 2 σ 0 [(0, .ref (tX_ad v t)), (1, .int a1)] []
  refine ts_aload_n X dX8_goDown_0 0 rfl ?_
  refine gf_X8_9 X ht (q := (t + 1)) rfl dX8_goDown_1 ?_
  refine ts_iload_n X dX8_goDown_4 1 rfl ?_
  refine ts_dup2 X dX8_goDown_5 rfl rfl ?_
  refine xi_ald X (tX_a1 ht rfl) hw.1 dX8_goDown_6 ?_
  have hw := hw.2
  refine ts_iconst X dX8_goDown_7 (v := 1) (by decide) ?_
  refine ts_isub X dX8_goDown_8 ?_
  refine xi_ast X (tX_a1 ht rfl) hw.1 dX8_goDown_9 (fun s2 es2 => ?_)
  have hw := hw.2 s2 es2
  exact hret _ _ _ hw dX8_goDown_10
set_option maxRecDepth 100000 in
set_option maxHeartbeats 4000000 in
theorem ct_X8_mayGoUp (l : Launch) (v : tX_V) (hi : ts_inj 151 (tX_ad v)) (K : Int32 → ts_S → Prop) (σ : ts_S) (t : Nat) (a1 : Int32) (ht : tX_T t) (hw : wp_X8_mayGoUp K σ t a1) : ts_Mi l yX8_mayGoUp (Cond.code yX8_mayGoUp cX8_mayGoUp 2 (some .boolean)) 1 (tX_w v) [.ref (tX_ad v t), .int a1] σ K := by
  refine ts_Mi.of_z (w := tX_w v) hi (by decide +kernel) (Nat.le_of_ble_eq_true rfl) ?_
  intro g hgl hgn X hret
  unfold wp_X8_mayGoUp at hw
  show ts_G g (tX_w v) 2 σ 0 [(0, .ref (tX_ad v t)), (1, .int a1)] []
  refine ts_aload_n X dX8_mayGoUp_0 0 rfl ?_
  refine gf_X8_9 X ht (q := (t + 1)) rfl dX8_mayGoUp_1 ?_
  refine ts_iload_n X dX8_mayGoUp_4 1 rfl ?_
  refine xi_ald X (tX_a1 ht rfl) hw.1 dX8_mayGoUp_5 ?_
  have hw := hw.2
  refine ts_aload_n X dX8_mayGoUp_6 0 rfl ?_
  refine gf_X8_28 X ht (q := tX_pl t) rfl dX8_mayGoUp_7 ?_
  refine gf_X8_58 X (tX_Lp t) dX8_mayGoUp_10 ?_
  refine ts_iconst X dX8_mayGoUp_13 (v := 1) (by decide) ?_
  refine ts_isub X dX8_mayGoUp_14 ?_
  refine ts_icmp_ge 31 X dX8_mayGoUp_15 (by decide) (fun c => ?_) (fun c => ?_)
  · have hw := ts_itp hw c
    refine ts_iconst X dX8_mayGoUp_31 (v := 0) (by decide) ?_
    exact hret _ _ _ _ hw dX8_mayGoUp_32
  · have hw := ts_itn hw c
    refine ts_aload_n X dX8_mayGoUp_18 0 rfl ?_
    refine gf_X8_21 X ht (q := (t + 4)) rfl dX8_mayGoUp_19 ?_
    refine ts_iload_n X dX8_mayGoUp_22 1 rfl ?_
    refine xz_ald X (tX_a4 ht rfl) hw.1 dX8_mayGoUp_23 ?_
    have hw := hw.2
    refine ts_if_ne 31 X dX8_mayGoUp_24 (by decide) (fun c => ?_) (fun c => ?_)
    · have hw := ts_itn hw c
      refine ts_iconst X dX8_mayGoUp_31 (v := 0) (by decide) ?_
      exact hret _ _ _ _ hw dX8_mayGoUp_32
    · have hw := ts_itp hw c
      refine ts_iconst X dX8_mayGoUp_27 (v := 1) (by decide) ?_
      refine ts_goto 32 X dX8_mayGoUp_28 (by decide) ?_
      exact hret _ _ _ _ hw dX8_mayGoUp_32
set_option maxRecDepth 100000 in
set_option maxHeartbeats 4000000 in
theorem ct_X8_goUp (l : Launch) (v : tX_V) (hi : ts_inj 151 (tX_ad v)) (K : ts_S → Prop) (σ : ts_S) (t : Nat) (a1 : Int32) (ht : tX_T t) (hw : wp_X8_goUp K σ t a1) : ts_Mv l yX8_goUp (Cond.code yX8_goUp cX8_goUp 2 (none)) 1 (tX_w v) [.ref (tX_ad v t), .int a1] σ K := by
  refine ts_Mv.of_v (w := tX_w v) hi (by decide +kernel) (Nat.le_of_ble_eq_true rfl) ?_
  intro g hgl hgn X hret
  unfold wp_X8_goUp at hw
  show ts_G g (tX_w v) 2 σ 0 [(0, .ref (tX_ad v t)), (1, .int a1)] []
  refine ts_aload_n X dX8_goUp_0 0 rfl ?_
  refine gf_X8_9 X ht (q := (t + 1)) rfl dX8_goUp_1 ?_
  refine ts_iload_n X dX8_goUp_4 1 rfl ?_
  refine ts_dup2 X dX8_goUp_5 rfl rfl ?_
  refine xi_ald X (tX_a1 ht rfl) hw.1 dX8_goUp_6 ?_
  have hw := hw.2
  refine ts_iconst X dX8_goUp_7 (v := 1) (by decide) ?_
  refine ts_iadd X dX8_goUp_8 ?_
  refine xi_ast X (tX_a1 ht rfl) hw.1 dX8_goUp_9 (fun s2 es2 => ?_)
  have hw := hw.2 s2 es2
  exact hret _ _ _ hw dX8_goUp_10
set_option maxRecDepth 100000 in
set_option maxHeartbeats 4000000 in
theorem ct_X8_hearCall (l : Launch) (v : tX_V) (hi : ts_inj 151 (tX_ad v)) (K : ts_S → Prop) (σ : ts_S) (t : Nat) (a1 : Int32) (ht : tX_T t) (hw : wp_X8_hearCall K σ t a1) : ts_Mv l yX8_hearCall (Cond.code yX8_hearCall cX8_hearCall 4 (none)) 4 (tX_w v) [.ref (tX_ad v t), .int a1] σ K := by
  refine ts_Mv.of_v (w := tX_w v) hi (by decide +kernel) (Nat.le_of_ble_eq_true rfl) ?_
  intro g hgl hgn X hret
  have J4 : ∀ (σ : ts_S) (x2 : Int32) (x3 : Int32), wp_X8_hearCall_l4 K t a1 σ x2 x3 → ts_G g (tX_w v) 4 σ 4 [(0, .ref (tX_ad v t)), (1, .int a1), (2, .int x2), (3, .int x3)] [] := by
    intro  σ x2 x3 hw
    have key : ∀ X4 : ts_S → Int32 → Int32 → Prop, (∀ (σ : ts_S) (x2 : Int32) (x3 : Int32), X4 σ x2 x3 → ts_G g (tX_w v) 4 σ 4 [(0, .ref (tX_ad v t)), (1, .int a1), (2, .int x2), (3, .int x3)] []) → ∀ (σ : ts_S) (x2 : Int32) (x3 : Int32), wp_X8_hearCall_b4 K X4 t a1  σ x2 x3 → ts_G g (tX_w v) 4 σ 4 [(0, .ref (tX_ad v t)), (1, .int a1), (2, .int x2), (3, .int x3)] [] := by
      intro X4 hX4
      intro σ x2 x3 hw
      unfold wp_X8_hearCall_b4 at hw
      refine ts_iload_n X dX8_hearCall_4 3 rfl ?_
      refine ts_aload_n X dX8_hearCall_5 0 rfl ?_
      refine gf_X8_28 X ht (q := tX_pl t) rfl dX8_hearCall_6 ?_
      refine gf_X8_51 X (tX_Lp t) dX8_hearCall_9 ?_
      refine ts_icmp_ge 47 X dX8_hearCall_12 (by decide) (fun c => ?_) (fun c => ?_)
      · have hw := ts_itp hw c
        refine ts_aload_n X dX8_hearCall_47 0 rfl ?_
        refine gf_X8_18 X ht (q := (t + 3)) rfl dX8_hearCall_48 ?_
        refine ts_iload_n X dX8_hearCall_51 1 rfl ?_
        refine ts_aload_n X dX8_hearCall_52 0 rfl ?_
        refine gf_X8_18 X ht (q := (t + 3)) rfl dX8_hearCall_53 ?_
        refine ts_iload_n X dX8_hearCall_56 1 rfl ?_
        refine xi_ald X (tX_a3 ht rfl) hw.1 dX8_hearCall_57 ?_
        have hw := hw.2
        refine ts_iload_n X dX8_hearCall_58 2 rfl ?_
        refine ts_iadd X dX8_hearCall_59 ?_
        refine ts_bipush X dX8_hearCall_60 (v := 30) (by decide) ?_
        refine ts_mmin X kw_601 kw_602 kw_64 kw_603 (ts_le hgn (by decide)) (Nat.le_of_ble_eq_true rfl) dX8_hearCall_62 ?_
        refine xi_ast X (tX_a3 ht rfl) hw.1 dX8_hearCall_65 (fun s5 es5 => ?_)
        have hw := hw.2 s5 es5
        refine ts_aload_n X dX8_hearCall_66 0 rfl ?_
        refine gf_X8_25 X ht (q := (t + 5)) rfl dX8_hearCall_67 ?_
        refine ts_iload_n X dX8_hearCall_70 1 rfl ?_
        refine ts_iconst X dX8_hearCall_71 (v := 1) (by decide) ?_
        refine xz_ast X (tX_a5 ht rfl) hw.1 dX8_hearCall_72 (fun s6 es6 => ?_)
        have hw := hw.2 s6 es6
        exact hret _ _ _ hw dX8_hearCall_73
      · have hw := ts_itn hw c
        refine ts_aload_n X dX8_hearCall_15 0 rfl ?_
        refine gf_X8_9 X ht (q := (t + 1)) rfl dX8_hearCall_16 ?_
        refine ts_iload_n X dX8_hearCall_19 3 rfl ?_
        refine xi_ald X (tX_a1 ht rfl) hw.1 dX8_hearCall_20 ?_
        have hw := hw.2
        refine ts_aload_n X dX8_hearCall_21 0 rfl ?_
        refine gf_X8_9 X ht (q := (t + 1)) rfl dX8_hearCall_22 ?_
        refine ts_iload_n X dX8_hearCall_25 1 rfl ?_
        refine xi_ald X (tX_a1 ht rfl) hw.1 dX8_hearCall_26 ?_
        have hw := hw.2
        refine ts_icmp_le 41 X dX8_hearCall_27 (by decide) (fun c => ?_) (fun c => ?_)
        · have hw := ts_itp hw c
          refine ts_iinc X dX8_hearCall_41 3 rfl (v := x3 + 1) rfl (by decide) (lv' := [(3, .int (x3 + 1)), (0, .ref (tX_ad v t)), (1, .int a1), (2, .int x2)]) rfl ?_
          refine ts_goto 4 X dX8_hearCall_44 (by decide) ?_
          exact ts_sub [1, 2, 3, 0] rfl (hX4 _ _ _ hw)
        · have hw := ts_itn hw c
          refine ts_aload_n X dX8_hearCall_30 0 rfl ?_
          refine ts_iload_n X dX8_hearCall_31 3 rfl ?_
          refine ts_callVi (w := tX_w v) X (k := t) (ht).lt (tX_eT ht _) rfl rfl (As := [.int x3]) (ct_X8_isSteady g.2.1 v hi _ _ _ _ ht hw) ok_X8_isSteady cw_X8_65 (ts_le hgn (by decide)) (by decide) rfl rfl (Nat.le_of_ble_eq_true rfl) dX8_hearCall_32 (fun r7 s8 hw => ?_)
          refine ts_if_eq 41 X dX8_hearCall_35 (by decide) (fun c => ?_) (fun c => ?_)
          · have hw := ts_itp hw c
            refine ts_iinc X dX8_hearCall_41 3 rfl (v := x3 + 1) rfl (by decide) (lv' := [(3, .int (x3 + 1)), (0, .ref (tX_ad v t)), (1, .int a1), (2, .int x2)]) rfl ?_
            refine ts_goto 4 X dX8_hearCall_44 (by decide) ?_
            exact ts_sub [1, 2, 3, 0] rfl (hX4 _ _ _ hw)
          · have hw := ts_itn hw c
            refine ts_iinc X dX8_hearCall_38 2 rfl (v := x2 + 1) rfl (by decide) (lv' := [(2, .int (x2 + 1)), (0, .ref (tX_ad v t)), (1, .int a1), (3, .int x3)]) rfl ?_
            refine ts_iinc X dX8_hearCall_41 3 rfl (v := x3 + 1) rfl (by decide) (lv' := [(3, .int (x3 + 1)), (2, .int (x2 + 1)), (0, .ref (tX_ad v t)), (1, .int a1)]) rfl ?_
            refine ts_goto 4 X dX8_hearCall_44 (by decide) ?_
            exact ts_sub [2, 3, 1, 0] rfl (hX4 _ _ _ hw)
    exact hw _ (fun σ x2 x3 h => key _ (fun _ _ _ h => h) σ x2 x3 h)
  unfold wp_X8_hearCall at hw
  show ts_G g (tX_w v) 4 σ 0 [(0, .ref (tX_ad v t)), (1, .int a1)] []
  refine ts_iconst X dX8_hearCall_0 (v := 0) (by decide) ?_
  refine ts_istore_n X dX8_hearCall_1 (by decide) (lv' := [(2, .int 0), (0, .ref (tX_ad v t)), (1, .int a1)]) rfl ?_
  refine ts_iconst X dX8_hearCall_2 (v := 0) (by decide) ?_
  refine ts_istore_n X dX8_hearCall_3 (by decide) (lv' := [(3, .int 0), (2, .int 0), (0, .ref (tX_ad v t)), (1, .int a1)]) rfl ?_
  exact ts_sub [2, 3, 1, 0] rfl (J4  _ _ _ hw)
set_option maxRecDepth 100000 in
set_option maxHeartbeats 4000000 in
theorem ct_X8_goneMany (l : Launch) (v : tX_V) (hi : ts_inj 151 (tX_ad v)) (K : Int32 → ts_S → Prop) (σ : ts_S) (t : Nat) (ht : tX_T t) (hw : wp_X8_goneMany K σ t) : ts_Mi l yX8_goneMany (Cond.code yX8_goneMany cX8_goneMany 3 (some .int)) 2 (tX_w v) [.ref (tX_ad v t)] σ K := by
  refine ts_Mi.of_i (w := tX_w v) hi (by decide +kernel) (Nat.le_of_ble_eq_true rfl) ?_
  intro g hgl hgn X hret
  have J4 : ∀ (σ : ts_S) (x1 : Int32) (x2 : Int32), wp_X8_goneMany_l4 K t σ x1 x2 → ts_G g (tX_w v) 3 σ 4 [(0, .ref (tX_ad v t)), (1, .int x1), (2, .int x2)] [] := by
    intro  σ x1 x2 hw
    have key : ∀ X4 : ts_S → Int32 → Int32 → Prop, (∀ (σ : ts_S) (x1 : Int32) (x2 : Int32), X4 σ x1 x2 → ts_G g (tX_w v) 3 σ 4 [(0, .ref (tX_ad v t)), (1, .int x1), (2, .int x2)] []) → ∀ (σ : ts_S) (x1 : Int32) (x2 : Int32), wp_X8_goneMany_b4 K X4 t  σ x1 x2 → ts_G g (tX_w v) 3 σ 4 [(0, .ref (tX_ad v t)), (1, .int x1), (2, .int x2)] [] := by
      intro X4 hX4
      intro σ x1 x2 hw
      unfold wp_X8_goneMany_b4 at hw
      refine ts_iload_n X dX8_goneMany_4 2 rfl ?_
      refine ts_aload_n X dX8_goneMany_5 0 rfl ?_
      refine gf_X8_28 X ht (q := tX_pl t) rfl dX8_goneMany_6 ?_
      refine gf_X8_51 X (tX_Lp t) dX8_goneMany_9 ?_
      refine ts_icmp_ge 33 X dX8_goneMany_12 (by decide) (fun c => ?_) (fun c => ?_)
      · have hw := ts_itp hw c
        refine ts_iload_n X dX8_goneMany_33 1 rfl ?_
        exact hret _ _ _ _ hw dX8_goneMany_34
      · have hw := ts_itn hw c
        refine ts_iload_n X dX8_goneMany_15 1 rfl ?_
        refine ts_aload_n X dX8_goneMany_16 0 rfl ?_
        refine gf_X8_21 X ht (q := (t + 4)) rfl dX8_goneMany_17 ?_
        refine ts_iload_n X dX8_goneMany_20 2 rfl ?_
        refine xz_ald X (tX_a4 ht rfl) hw.1 dX8_goneMany_21 ?_
        have hw := hw.2
        refine ts_callNi X (As := [.int (σ (t + 4) x2.toNatClampNeg)]) (ct_X9_asNumber g.2.1 v hi _ _ _ hw) ok_X9_asNumber cw_X8_88 (ts_le hgn (by decide)) (by decide) rfl rfl (Nat.le_of_ble_eq_true rfl) dX8_goneMany_22 (fun r3 s4 hw => ?_)
        refine ts_iadd X dX8_goneMany_25 ?_
        refine ts_istore_n X dX8_goneMany_26 (by decide) (lv' := [(1, .int (x1 + r3)), (0, .ref (tX_ad v t)), (2, .int x2)]) rfl ?_
        refine ts_iinc X dX8_goneMany_27 2 rfl (v := x2 + 1) rfl (by decide) (lv' := [(2, .int (x2 + 1)), (1, .int (x1 + r3)), (0, .ref (tX_ad v t))]) rfl ?_
        refine ts_goto 4 X dX8_goneMany_30 (by decide) ?_
        exact ts_sub [2, 1, 0] rfl (hX4 _ _ _ hw)
    exact hw _ (fun σ x1 x2 h => key _ (fun _ _ _ h => h) σ x1 x2 h)
  unfold wp_X8_goneMany at hw
  show ts_G g (tX_w v) 3 σ 0 [(0, .ref (tX_ad v t))] []
  refine ts_iconst X dX8_goneMany_0 (v := 0) (by decide) ?_
  refine ts_istore_n X dX8_goneMany_1 (by decide) (lv' := [(1, .int 0), (0, .ref (tX_ad v t))]) rfl ?_
  refine ts_iconst X dX8_goneMany_2 (v := 0) (by decide) ?_
  refine ts_istore_n X dX8_goneMany_3 (by decide) (lv' := [(2, .int 0), (1, .int 0), (0, .ref (tX_ad v t))]) rfl ?_
  exact ts_sub [2, 1, 0] rfl (J4  _ _ _ hw)
set_option maxRecDepth 100000 in
set_option maxHeartbeats 4000000 in
theorem ct_X8_doneMany (l : Launch) (v : tX_V) (hi : ts_inj 151 (tX_ad v)) (K : Int32 → ts_S → Prop) (σ : ts_S) (t : Nat) (ht : tX_T t) (hw : wp_X8_doneMany K σ t) : ts_Mi l yX8_doneMany (Cond.code yX8_doneMany cX8_doneMany 4 (some .int)) 5 (tX_w v) [.ref (tX_ad v t)] σ K := by
  refine ts_Mi.of_i (w := tX_w v) hi (by decide +kernel) (Nat.le_of_ble_eq_true rfl) ?_
  intro g hgl hgn X hret
  have J9 : ∀ (σ : ts_S) (x1 : Int32) (x2 : Int32) (x3 : Int32), wp_X8_doneMany_l9 K t σ x1 x2 x3 → ts_G g (tX_w v) 4 σ 9 [(0, .ref (tX_ad v t)), (1, .int x1), (2, .int x2), (3, .int x3)] [] := by
    intro  σ x1 x2 x3 hw
    have key : ∀ X9 : ts_S → Int32 → Int32 → Prop, (∀ (σ : ts_S) (x2 : Int32) (x3 : Int32), X9 σ x2 x3 → ts_G g (tX_w v) 4 σ 9 [(0, .ref (tX_ad v t)), (1, .int x1), (2, .int x2), (3, .int x3)] []) → ∀ (σ : ts_S) (x2 : Int32) (x3 : Int32), wp_X8_doneMany_b9 K X9 t x1 σ x2 x3 → ts_G g (tX_w v) 4 σ 9 [(0, .ref (tX_ad v t)), (1, .int x1), (2, .int x2), (3, .int x3)] [] := by
      intro X9 hX9
      intro σ x2 x3 hw
      unfold wp_X8_doneMany_b9 at hw
      refine ts_iload_n X dX8_doneMany_9 3 rfl ?_
      refine ts_aload_n X dX8_doneMany_10 0 rfl ?_
      refine gf_X8_28 X ht (q := tX_pl t) rfl dX8_doneMany_11 ?_
      refine gf_X8_82 X (tX_Lp t) dX8_doneMany_14 ?_
      refine ts_icmp_ge 38 X dX8_doneMany_17 (by decide) (fun c => ?_) (fun c => ?_)
      · have hw := ts_itp hw c
        refine ts_iload_n X dX8_doneMany_38 2 rfl ?_
        exact hret _ _ _ _ hw dX8_doneMany_39
      · have hw := ts_itn hw c
        refine ts_aload_n X dX8_doneMany_20 0 rfl ?_
        refine ts_iload_n X dX8_doneMany_21 3 rfl ?_
        refine ts_iload_n X dX8_doneMany_22 1 rfl ?_
        refine ts_callVi (w := tX_w v) X (k := t) (ht).lt (tX_eT ht _) rfl rfl (As := [.int x3, .int x1]) (ct_X8_isDone g.2.1 v hi _ _ _ _ _ ht hw) ok_X8_isDone cw_X8_85 (ts_le hgn (by decide)) (by decide) rfl rfl (Nat.le_of_ble_eq_true rfl) dX8_doneMany_23 (fun r5 s6 hw => ?_)
        refine ts_if_eq 32 X dX8_doneMany_26 (by decide) (fun c => ?_) (fun c => ?_)
        · have hw := ts_itp hw c
          refine ts_iinc X dX8_doneMany_32 3 rfl (v := x3 + 1) rfl (by decide) (lv' := [(3, .int (x3 + 1)), (0, .ref (tX_ad v t)), (1, .int x1), (2, .int x2)]) rfl ?_
          refine ts_goto 9 X dX8_doneMany_35 (by decide) ?_
          exact ts_sub [1, 2, 3, 0] rfl (hX9 _ _ _ hw)
        · have hw := ts_itn hw c
          refine ts_iinc X dX8_doneMany_29 2 rfl (v := x2 + 1) rfl (by decide) (lv' := [(2, .int (x2 + 1)), (0, .ref (tX_ad v t)), (1, .int x1), (3, .int x3)]) rfl ?_
          refine ts_iinc X dX8_doneMany_32 3 rfl (v := x3 + 1) rfl (by decide) (lv' := [(3, .int (x3 + 1)), (2, .int (x2 + 1)), (0, .ref (tX_ad v t)), (1, .int x1)]) rfl ?_
          refine ts_goto 9 X dX8_doneMany_35 (by decide) ?_
          exact ts_sub [2, 3, 1, 0] rfl (hX9 _ _ _ hw)
    exact hw _ (fun σ x2 x3 h => key _ (fun _ _ _ h => h) σ x2 x3 h)
  unfold wp_X8_doneMany at hw
  show ts_G g (tX_w v) 4 σ 0 [(0, .ref (tX_ad v t))] []
  refine ts_aload_n X dX8_doneMany_0 0 rfl ?_
  refine ts_callVi (w := tX_w v) X (k := t) (ht).lt (tX_eT ht _) rfl rfl (As := []) (ct_X8_steadyBits g.2.1 v hi _ _ _ ht hw) ok_X8_steadyBits cw_X8_78 (ts_le hgn (by decide)) (by decide) rfl rfl (Nat.le_of_ble_eq_true rfl) dX8_doneMany_1 (fun r7 s8 hw => ?_)
  refine ts_istore_n X dX8_doneMany_4 (by decide) (lv' := [(1, .int r7), (0, .ref (tX_ad v t))]) rfl ?_
  refine ts_iconst X dX8_doneMany_5 (v := 0) (by decide) ?_
  refine ts_istore_n X dX8_doneMany_6 (by decide) (lv' := [(2, .int 0), (1, .int r7), (0, .ref (tX_ad v t))]) rfl ?_
  refine ts_iconst X dX8_doneMany_7 (v := 0) (by decide) ?_
  refine ts_istore_n X dX8_doneMany_8 (by decide) (lv' := [(3, .int 0), (2, .int 0), (1, .int r7), (0, .ref (tX_ad v t))]) rfl ?_
  exact ts_sub [3, 2, 1, 0] rfl (J9  _ _ _ _ hw)
set_option maxRecDepth 100000 in
set_option maxHeartbeats 4000000 in
theorem ct_X8_frozenBits (l : Launch) (v : tX_V) (hi : ts_inj 151 (tX_ad v)) (K : Int32 → ts_S → Prop) (σ : ts_S) (t : Nat) (ht : tX_T t) (hw : wp_X8_frozenBits K σ t) : ts_Mi l yX8_frozenBits (Cond.code yX8_frozenBits cX8_frozenBits 3 (some .int)) 4 (tX_w v) [.ref (tX_ad v t)] σ K := by
  refine ts_Mi.of_i (w := tX_w v) hi (by decide +kernel) (Nat.le_of_ble_eq_true rfl) ?_
  intro g hgl hgn X hret
  have J4 : ∀ (σ : ts_S) (x1 : Int32) (x2 : Int32), wp_X8_frozenBits_l4 K t σ x1 x2 → ts_G g (tX_w v) 3 σ 4 [(0, .ref (tX_ad v t)), (1, .int x1), (2, .int x2)] [] := by
    intro  σ x1 x2 hw
    have key : ∀ X4 : ts_S → Int32 → Int32 → Prop, (∀ (σ : ts_S) (x1 : Int32) (x2 : Int32), X4 σ x1 x2 → ts_G g (tX_w v) 3 σ 4 [(0, .ref (tX_ad v t)), (1, .int x1), (2, .int x2)] []) → ∀ (σ : ts_S) (x1 : Int32) (x2 : Int32), wp_X8_frozenBits_b4 K X4 t  σ x1 x2 → ts_G g (tX_w v) 3 σ 4 [(0, .ref (tX_ad v t)), (1, .int x1), (2, .int x2)] [] := by
      intro X4 hX4
      intro σ x1 x2 hw
      unfold wp_X8_frozenBits_b4 at hw
      refine ts_iload_n X dX8_frozenBits_4 2 rfl ?_
      refine ts_aload_n X dX8_frozenBits_5 0 rfl ?_
      refine gf_X8_28 X ht (q := tX_pl t) rfl dX8_frozenBits_6 ?_
      refine gf_X8_51 X (tX_Lp t) dX8_frozenBits_9 ?_
      refine ts_icmp_ge 35 X dX8_frozenBits_12 (by decide) (fun c => ?_) (fun c => ?_)
      · have hw := ts_itp hw c
        refine ts_iload_n X dX8_frozenBits_35 1 rfl ?_
        exact hret _ _ _ _ hw dX8_frozenBits_36
      · have hw := ts_itn hw c
        refine ts_aload_n X dX8_frozenBits_15 0 rfl ?_
        refine ts_iload_n X dX8_frozenBits_16 2 rfl ?_
        refine ts_callVi (w := tX_w v) X (k := t) (ht).lt (tX_eT ht _) rfl rfl (As := [.int x2]) (ct_X8_isFrozen g.2.1 v hi _ _ _ _ ht hw) ok_X8_isFrozen cw_X8_61 (ts_le hgn (by decide)) (by decide) rfl rfl (Nat.le_of_ble_eq_true rfl) dX8_frozenBits_17 (fun r3 s4 hw => ?_)
        refine ts_if_eq 29 X dX8_frozenBits_20 (by decide) (fun c => ?_) (fun c => ?_)
        · have hw := ts_itp hw c
          refine ts_iinc X dX8_frozenBits_29 2 rfl (v := x2 + 1) rfl (by decide) (lv' := [(2, .int (x2 + 1)), (0, .ref (tX_ad v t)), (1, .int x1)]) rfl ?_
          refine ts_goto 4 X dX8_frozenBits_32 (by decide) ?_
          exact ts_sub [1, 2, 0] rfl (hX4 _ _ _ hw)
        · have hw := ts_itn hw c
          refine ts_iload_n X dX8_frozenBits_23 1 rfl ?_
          refine ts_iconst X dX8_frozenBits_24 (v := 1) (by decide) ?_
          refine ts_iload_n X dX8_frozenBits_25 2 rfl ?_
          refine ts_ishl X dX8_frozenBits_26 ?_
          refine ts_ior X dX8_frozenBits_27 ?_
          refine ts_istore_n X dX8_frozenBits_28 (by decide) (lv' := [(1, .int (x1 ||| (1 <<< (x2 &&& 31)))), (0, .ref (tX_ad v t)), (2, .int x2)]) rfl ?_
          refine ts_iinc X dX8_frozenBits_29 2 rfl (v := x2 + 1) rfl (by decide) (lv' := [(2, .int (x2 + 1)), (1, .int (x1 ||| (1 <<< (x2 &&& 31)))), (0, .ref (tX_ad v t))]) rfl ?_
          refine ts_goto 4 X dX8_frozenBits_32 (by decide) ?_
          exact ts_sub [2, 1, 0] rfl (hX4 _ _ _ hw)
    exact hw _ (fun σ x1 x2 h => key _ (fun _ _ _ h => h) σ x1 x2 h)
  unfold wp_X8_frozenBits at hw
  show ts_G g (tX_w v) 3 σ 0 [(0, .ref (tX_ad v t))] []
  refine ts_iconst X dX8_frozenBits_0 (v := 0) (by decide) ?_
  refine ts_istore_n X dX8_frozenBits_1 (by decide) (lv' := [(1, .int 0), (0, .ref (tX_ad v t))]) rfl ?_
  refine ts_iconst X dX8_frozenBits_2 (v := 0) (by decide) ?_
  refine ts_istore_n X dX8_frozenBits_3 (by decide) (lv' := [(2, .int 0), (1, .int 0), (0, .ref (tX_ad v t))]) rfl ?_
  exact ts_sub [2, 1, 0] rfl (J4  _ _ _ hw)
set_option maxRecDepth 100000 in
set_option maxHeartbeats 4000000 in
theorem ct_J6_bitCount_0f7a4 (l : Launch) (v : tX_V) (hi : ts_inj 151 (tX_ad v)) (K : Int32 → ts_S → Prop) (σ : ts_S) (a0 : Int32)  (hw : wp_J6_bitCount_0f7a4 K σ a0) : ts_Mi l yJ6_bitCount_0f7a4 (Cond.code yJ6_bitCount_0f7a4 cJ6_bitCount_0f7a4 1 (some .int)) 1 (tX_w v) [.int a0] σ K := by
  refine ts_Mi.of_i (w := tX_w v) hi (by decide +kernel) (Nat.le_of_ble_eq_true rfl) ?_
  intro g hgl hgn X hret
  unfold wp_J6_bitCount_0f7a4 at hw
  show ts_G g (tX_w v) 1 σ 0 [(0, .int a0)] []
  refine ts_iload_n X dJ6_bitCount_0f7a4_0 0 rfl ?_
  refine ts_iload_n X dJ6_bitCount_0f7a4_1 0 rfl ?_
  refine ts_iconst X dJ6_bitCount_0f7a4_2 (v := 1) (by decide) ?_
  refine ts_iushr X dJ6_bitCount_0f7a4_3 ?_
  refine ts_ldcw X kw_828 dJ6_bitCount_0f7a4_4 ?_
  refine ts_iand X dJ6_bitCount_0f7a4_7 ?_
  refine ts_isub X dJ6_bitCount_0f7a4_8 ?_
  refine ts_istore_n X dJ6_bitCount_0f7a4_9 (by decide) (lv' := [(0, .int (a0 - (((a0.toUInt32 >>> (Int32.toUInt32 1 &&& Int32.toUInt32 31)).toInt32) &&& 1431655765)))]) rfl ?_
  refine ts_iload_n X dJ6_bitCount_0f7a4_10 0 rfl ?_
  refine ts_ldcw X kw_829 dJ6_bitCount_0f7a4_11 ?_
  refine ts_iand X dJ6_bitCount_0f7a4_14 ?_
  refine ts_iload_n X dJ6_bitCount_0f7a4_15 0 rfl ?_
  refine ts_iconst X dJ6_bitCount_0f7a4_16 (v := 2) (by decide) ?_
  refine ts_iushr X dJ6_bitCount_0f7a4_17 ?_
  refine ts_ldcw X kw_829 dJ6_bitCount_0f7a4_18 ?_
  refine ts_iand X dJ6_bitCount_0f7a4_21 ?_
  refine ts_iadd X dJ6_bitCount_0f7a4_22 ?_
  refine ts_istore_n X dJ6_bitCount_0f7a4_23 (by decide) (lv' := [(0, .int (((a0 - (((a0.toUInt32 >>> (Int32.toUInt32 1 &&& Int32.toUInt32 31)).toInt32) &&& 1431655765)) &&& 858993459) + ((((a0 - (((a0.toUInt32 >>> (Int32.toUInt32 1 &&& Int32.toUInt32 31)).toInt32) &&& 1431655765)).toUInt32 >>> (Int32.toUInt32 2 &&& Int32.toUInt32 31)).toInt32) &&& 858993459)))]) rfl ?_
  refine ts_iload_n X dJ6_bitCount_0f7a4_24 0 rfl ?_
  refine ts_iload_n X dJ6_bitCount_0f7a4_25 0 rfl ?_
  refine ts_iconst X dJ6_bitCount_0f7a4_26 (v := 4) (by decide) ?_
  refine ts_iushr X dJ6_bitCount_0f7a4_27 ?_
  refine ts_iadd X dJ6_bitCount_0f7a4_28 ?_
  refine ts_ldcw X kw_830 dJ6_bitCount_0f7a4_29 ?_
  refine ts_iand X dJ6_bitCount_0f7a4_32 ?_
  refine ts_istore_n X dJ6_bitCount_0f7a4_33 (by decide) (lv' := [(0, .int (((((a0 - (((a0.toUInt32 >>> (Int32.toUInt32 1 &&& Int32.toUInt32 31)).toInt32) &&& 1431655765)) &&& 858993459) + ((((a0 - (((a0.toUInt32 >>> (Int32.toUInt32 1 &&& Int32.toUInt32 31)).toInt32) &&& 1431655765)).toUInt32 >>> (Int32.toUInt32 2 &&& Int32.toUInt32 31)).toInt32) &&& 858993459)) + (((((a0 - (((a0.toUInt32 >>> (Int32.toUInt32 1 &&& Int32.toUInt32 31)).toInt32) &&& 1431655765)) &&& 858993459) + ((((a0 - (((a0.toUInt32 >>> (Int32.toUInt32 1 &&& Int32.toUInt32 31)).toInt32) &&& 1431655765)).toUInt32 >>> (Int32.toUInt32 2 &&& Int32.toUInt32 31)).toInt32) &&& 858993459)).toUInt32 >>> (Int32.toUInt32 4 &&& Int32.toUInt32 31)).toInt32)) &&& 252645135))]) rfl ?_
  refine ts_iload_n X dJ6_bitCount_0f7a4_34 0 rfl ?_
  refine ts_iload_n X dJ6_bitCount_0f7a4_35 0 rfl ?_
  refine ts_bipush X dJ6_bitCount_0f7a4_36 (v := 8) (by decide) ?_
  refine ts_iushr X dJ6_bitCount_0f7a4_38 ?_
  refine ts_iadd X dJ6_bitCount_0f7a4_39 ?_
  refine ts_istore_n X dJ6_bitCount_0f7a4_40 (by decide) (lv' := [(0, .int ((((((a0 - (((a0.toUInt32 >>> (Int32.toUInt32 1 &&& Int32.toUInt32 31)).toInt32) &&& 1431655765)) &&& 858993459) + ((((a0 - (((a0.toUInt32 >>> (Int32.toUInt32 1 &&& Int32.toUInt32 31)).toInt32) &&& 1431655765)).toUInt32 >>> (Int32.toUInt32 2 &&& Int32.toUInt32 31)).toInt32) &&& 858993459)) + (((((a0 - (((a0.toUInt32 >>> (Int32.toUInt32 1 &&& Int32.toUInt32 31)).toInt32) &&& 1431655765)) &&& 858993459) + ((((a0 - (((a0.toUInt32 >>> (Int32.toUInt32 1 &&& Int32.toUInt32 31)).toInt32) &&& 1431655765)).toUInt32 >>> (Int32.toUInt32 2 &&& Int32.toUInt32 31)).toInt32) &&& 858993459)).toUInt32 >>> (Int32.toUInt32 4 &&& Int32.toUInt32 31)).toInt32)) &&& 252645135) + (((((((a0 - (((a0.toUInt32 >>> (Int32.toUInt32 1 &&& Int32.toUInt32 31)).toInt32) &&& 1431655765)) &&& 858993459) + ((((a0 - (((a0.toUInt32 >>> (Int32.toUInt32 1 &&& Int32.toUInt32 31)).toInt32) &&& 1431655765)).toUInt32 >>> (Int32.toUInt32 2 &&& Int32.toUInt32 31)).toInt32) &&& 858993459)) + (((((a0 - (((a0.toUInt32 >>> (Int32.toUInt32 1 &&& Int32.toUInt32 31)).toInt32) &&& 1431655765)) &&& 858993459) + ((((a0 - (((a0.toUInt32 >>> (Int32.toUInt32 1 &&& Int32.toUInt32 31)).toInt32) &&& 1431655765)).toUInt32 >>> (Int32.toUInt32 2 &&& Int32.toUInt32 31)).toInt32) &&& 858993459)).toUInt32 >>> (Int32.toUInt32 4 &&& Int32.toUInt32 31)).toInt32)) &&& 252645135).toUInt32 >>> (Int32.toUInt32 8 &&& Int32.toUInt32 31)).toInt32)))]) rfl ?_
  refine ts_iload_n X dJ6_bitCount_0f7a4_41 0 rfl ?_
  refine ts_iload_n X dJ6_bitCount_0f7a4_42 0 rfl ?_
  refine ts_bipush X dJ6_bitCount_0f7a4_43 (v := 16) (by decide) ?_
  refine ts_iushr X dJ6_bitCount_0f7a4_45 ?_
  refine ts_iadd X dJ6_bitCount_0f7a4_46 ?_
  refine ts_istore_n X dJ6_bitCount_0f7a4_47 (by decide) (lv' := [(0, .int (((((((a0 - (((a0.toUInt32 >>> (Int32.toUInt32 1 &&& Int32.toUInt32 31)).toInt32) &&& 1431655765)) &&& 858993459) + ((((a0 - (((a0.toUInt32 >>> (Int32.toUInt32 1 &&& Int32.toUInt32 31)).toInt32) &&& 1431655765)).toUInt32 >>> (Int32.toUInt32 2 &&& Int32.toUInt32 31)).toInt32) &&& 858993459)) + (((((a0 - (((a0.toUInt32 >>> (Int32.toUInt32 1 &&& Int32.toUInt32 31)).toInt32) &&& 1431655765)) &&& 858993459) + ((((a0 - (((a0.toUInt32 >>> (Int32.toUInt32 1 &&& Int32.toUInt32 31)).toInt32) &&& 1431655765)).toUInt32 >>> (Int32.toUInt32 2 &&& Int32.toUInt32 31)).toInt32) &&& 858993459)).toUInt32 >>> (Int32.toUInt32 4 &&& Int32.toUInt32 31)).toInt32)) &&& 252645135) + (((((((a0 - (((a0.toUInt32 >>> (Int32.toUInt32 1 &&& Int32.toUInt32 31)).toInt32) &&& 1431655765)) &&& 858993459) + ((((a0 - (((a0.toUInt32 >>> (Int32.toUInt32 1 &&& Int32.toUInt32 31)).toInt32) &&& 1431655765)).toUInt32 >>> (Int32.toUInt32 2 &&& Int32.toUInt32 31)).toInt32) &&& 858993459)) + (((((a0 - (((a0.toUInt32 >>> (Int32.toUInt32 1 &&& Int32.toUInt32 31)).toInt32) &&& 1431655765)) &&& 858993459) + ((((a0 - (((a0.toUInt32 >>> (Int32.toUInt32 1 &&& Int32.toUInt32 31)).toInt32) &&& 1431655765)).toUInt32 >>> (Int32.toUInt32 2 &&& Int32.toUInt32 31)).toInt32) &&& 858993459)).toUInt32 >>> (Int32.toUInt32 4 &&& Int32.toUInt32 31)).toInt32)) &&& 252645135).toUInt32 >>> (Int32.toUInt32 8 &&& Int32.toUInt32 31)).toInt32)) + ((((((((a0 - (((a0.toUInt32 >>> (Int32.toUInt32 1 &&& Int32.toUInt32 31)).toInt32) &&& 1431655765)) &&& 858993459) + ((((a0 - (((a0.toUInt32 >>> (Int32.toUInt32 1 &&& Int32.toUInt32 31)).toInt32) &&& 1431655765)).toUInt32 >>> (Int32.toUInt32 2 &&& Int32.toUInt32 31)).toInt32) &&& 858993459)) + (((((a0 - (((a0.toUInt32 >>> (Int32.toUInt32 1 &&& Int32.toUInt32 31)).toInt32) &&& 1431655765)) &&& 858993459) + ((((a0 - (((a0.toUInt32 >>> (Int32.toUInt32 1 &&& Int32.toUInt32 31)).toInt32) &&& 1431655765)).toUInt32 >>> (Int32.toUInt32 2 &&& Int32.toUInt32 31)).toInt32) &&& 858993459)).toUInt32 >>> (Int32.toUInt32 4 &&& Int32.toUInt32 31)).toInt32)) &&& 252645135) + (((((((a0 - (((a0.toUInt32 >>> (Int32.toUInt32 1 &&& Int32.toUInt32 31)).toInt32) &&& 1431655765)) &&& 858993459) + ((((a0 - (((a0.toUInt32 >>> (Int32.toUInt32 1 &&& Int32.toUInt32 31)).toInt32) &&& 1431655765)).toUInt32 >>> (Int32.toUInt32 2 &&& Int32.toUInt32 31)).toInt32) &&& 858993459)) + (((((a0 - (((a0.toUInt32 >>> (Int32.toUInt32 1 &&& Int32.toUInt32 31)).toInt32) &&& 1431655765)) &&& 858993459) + ((((a0 - (((a0.toUInt32 >>> (Int32.toUInt32 1 &&& Int32.toUInt32 31)).toInt32) &&& 1431655765)).toUInt32 >>> (Int32.toUInt32 2 &&& Int32.toUInt32 31)).toInt32) &&& 858993459)).toUInt32 >>> (Int32.toUInt32 4 &&& Int32.toUInt32 31)).toInt32)) &&& 252645135).toUInt32 >>> (Int32.toUInt32 8 &&& Int32.toUInt32 31)).toInt32)).toUInt32 >>> (Int32.toUInt32 16 &&& Int32.toUInt32 31)).toInt32)))]) rfl ?_
  refine ts_iload_n X dJ6_bitCount_0f7a4_48 0 rfl ?_
  refine ts_bipush X dJ6_bitCount_0f7a4_49 (v := 63) (by decide) ?_
  refine ts_iand X dJ6_bitCount_0f7a4_51 ?_
  exact hret _ _ _ _ hw dJ6_bitCount_0f7a4_52
set_option maxRecDepth 100000 in
set_option maxHeartbeats 4000000 in
theorem ct_X9_power (l : Launch) (v : tX_V) (hi : ts_inj 151 (tX_ad v)) (K : Int32 → ts_S → Prop) (σ : ts_S) (a0 : Int32) (a1 : Int32)  (hw : wp_X9_power K σ a0 a1) : ts_Mi l yX9_power (Cond.code yX9_power cX9_power 4 (some .int)) 1 (tX_w v) [.int a0, .int a1] σ K := by
  refine ts_Mi.of_i (w := tX_w v) hi (by decide +kernel) (Nat.le_of_ble_eq_true rfl) ?_
  intro g hgl hgn X hret
  have J4 : ∀ (σ : ts_S) (x2 : Int32) (x3 : Int32), wp_X9_power_l4 K a0 a1 σ x2 x3 → ts_G g (tX_w v) 4 σ 4 [(0, .int a0), (1, .int a1), (2, .int x2), (3, .int x3)] [] := by
    intro  σ x2 x3 hw
    have key : ∀ X4 : ts_S → Int32 → Int32 → Prop, (∀ (σ : ts_S) (x2 : Int32) (x3 : Int32), X4 σ x2 x3 → ts_G g (tX_w v) 4 σ 4 [(0, .int a0), (1, .int a1), (2, .int x2), (3, .int x3)] []) → ∀ (σ : ts_S) (x2 : Int32) (x3 : Int32), wp_X9_power_b4 K X4 a0 a1  σ x2 x3 → ts_G g (tX_w v) 4 σ 4 [(0, .int a0), (1, .int a1), (2, .int x2), (3, .int x3)] [] := by
      intro X4 hX4
      intro σ x2 x3 hw
      unfold wp_X9_power_b4 at hw
      refine ts_iload_n X dX9_power_4 3 rfl ?_
      refine ts_iload_n X dX9_power_5 1 rfl ?_
      refine ts_icmp_ge 19 X dX9_power_6 (by decide) (fun c => ?_) (fun c => ?_)
      · have hw := ts_itp hw c
        refine ts_iload_n X dX9_power_19 2 rfl ?_
        exact hret _ _ _ _ hw dX9_power_20
      · have hw := ts_itn hw c
        refine ts_iload_n X dX9_power_9 2 rfl ?_
        refine ts_iload_n X dX9_power_10 0 rfl ?_
        refine ts_imul X dX9_power_11 ?_
        refine ts_istore_n X dX9_power_12 (by decide) (lv' := [(2, .int (x2 * a0)), (0, .int a0), (1, .int a1), (3, .int x3)]) rfl ?_
        refine ts_iinc X dX9_power_13 3 rfl (v := x3 + 1) rfl (by decide) (lv' := [(3, .int (x3 + 1)), (2, .int (x2 * a0)), (0, .int a0), (1, .int a1)]) rfl ?_
        refine ts_goto 4 X dX9_power_16 (by decide) ?_
        exact ts_sub [2, 3, 1, 0] rfl (hX4 _ _ _ hw)
    exact hw _ (fun σ x2 x3 h => key _ (fun _ _ _ h => h) σ x2 x3 h)
  unfold wp_X9_power at hw
  show ts_G g (tX_w v) 4 σ 0 [(0, .int a0), (1, .int a1)] []
  refine ts_iconst X dX9_power_0 (v := 1) (by decide) ?_
  refine ts_istore_n X dX9_power_1 (by decide) (lv' := [(2, .int 1), (0, .int a0), (1, .int a1)]) rfl ?_
  refine ts_iconst X dX9_power_2 (v := 0) (by decide) ?_
  refine ts_istore_n X dX9_power_3 (by decide) (lv' := [(3, .int 0), (2, .int 1), (0, .int a0), (1, .int a1)]) rfl ?_
  exact ts_sub [2, 3, 1, 0] rfl (J4  _ _ _ hw)
set_option maxRecDepth 100000 in
set_option maxHeartbeats 4000000 in
theorem ct_X9_waysOfTen (l : Launch) (v : tX_V) (hi : ts_inj 151 (tX_ad v)) (K : Int32 → ts_S → Prop) (σ : ts_S) (a0 : Int32) (a1 : Int32) (a2 : Int32)  (hw : wp_X9_waysOfTen K σ a0 a1 a2) : ts_Mi l yX9_waysOfTen (Cond.code yX9_waysOfTen cX9_waysOfTen 5 (some .int)) 2 (tX_w v) [.int a0, .int a1, .int a2] σ K := by
  refine ts_Mi.of_i (w := tX_w v) hi (by decide +kernel) (Nat.le_of_ble_eq_true rfl) ?_
  intro g hgl hgn X hret
  unfold wp_X9_waysOfTen at hw
  show ts_G g (tX_w v) 5 σ 0 [(0, .int a0), (1, .int a1), (2, .int a2)] []
  refine ts_iload_n X dX9_waysOfTen_0 1 rfl ?_
  refine ts_callSi X (As := [.int a1]) (ct_J6_bitCount_0f7a4 g.2.1 v hi _ _ _ hw) ok_J6_bitCount_0f7a4 cw_X9_264 (ts_le hgn (by decide)) (by decide) rfl rfl (Nat.le_of_ble_eq_true rfl) dX9_waysOfTen_1 (fun r9 s10 hw => ?_)
  refine ts_istore_n X dX9_waysOfTen_4 (by decide) (lv' := [(3, .int r9), (0, .int a0), (1, .int a1), (2, .int a2)]) rfl ?_
  refine ts_iload_n X dX9_waysOfTen_5 1 rfl ?_
  refine ts_callSi X (As := [.int a0]) (ct_J6_bitCount_0f7a4 g.2.1 v hi _ _ _ hw) ok_J6_bitCount_0f7a4 cw_X9_264 (ts_le hgn (by decide)) (by decide) rfl rfl (Nat.le_of_ble_eq_true rfl) dX9_waysOfTen_6 (fun r11 s12 hw => ?_)
  refine ts_iload_n X dX9_waysOfTen_9 0 rfl ?_
  refine ts_isub X dX9_waysOfTen_10 ?_
  refine ts_istore X dX9_waysOfTen_11 (by decide) (lv' := [(4, .int (r11 - r9)), (3, .int r9), (0, .int a0), (1, .int a1), (2, .int a2)]) rfl ?_
  refine ts_iload_n X dX9_waysOfTen_13 4 rfl ?_
  refine ts_iload_n X dX9_waysOfTen_14 1 rfl ?_
  refine ts_callSi X (As := [.int a2, .int r9]) (ct_X9_power g.2.1 v hi _ _ _ _ hw) ok_X9_power cw_X9_269 (ts_le hgn (by decide)) (by decide) rfl rfl (Nat.le_of_ble_eq_true rfl) dX9_waysOfTen_15 (fun r13 s14 hw => ?_)
  refine ts_bipush X dX9_waysOfTen_18 (v := 10) (by decide) ?_
  refine ts_iload_n X dX9_waysOfTen_20 4 rfl ?_
  refine ts_isub X dX9_waysOfTen_21 ?_
  refine ts_iload X dX9_waysOfTen_22 0 rfl ?_
  refine ts_callSi X (As := [.int (10 - a2), .int (r11 - r9)]) (ct_X9_power g.2.1 v hi _ _ _ _ hw) ok_X9_power cw_X9_269 (ts_le hgn (by decide)) (by decide) rfl rfl (Nat.le_of_ble_eq_true rfl) dX9_waysOfTen_24 (fun r15 s16 hw => ?_)
  refine ts_imul X dX9_waysOfTen_27 ?_
  exact hret _ _ _ _ hw dX9_waysOfTen_28
