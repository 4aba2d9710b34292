set_option maxRecDepth 100000 in
set_option maxHeartbeats 4000000 in
theorem ct_X9_takeDraft (l : Launch) (v : tX_V) (hi : ts_inj 151 (tX_ad v)) (K : ts_S → Prop) (σ : ts_S)   (hw : wp_X9_takeDraft K σ ) : ts_Mv l yX9_takeDraft (Cond.code yX9_takeDraft cX9_takeDraft 1 (none)) 2 (tX_w v) [.ref (tX_ad v 0)] σ K := by
  refine ts_Mv.of_v (w := tX_w v) hi (by decide +kernel) (Nat.le_of_ble_eq_true rfl) ?_
  intro g hgl hgn X hret
  unfold wp_X9_takeDraft at hw
  show ts_G g (tX_w v) 1 σ 0 [(0, .ref (tX_ad v 0))] []
  refine ts_aload_n X dX9_takeDraft_0 0 rfl ?_
  refine gf_X9_28 X dX9_takeDraft_1 ?_
  refine gf_X9_119 X (tX_Tc 0 (by decide) rfl) (q := 23) rfl dX9_takeDraft_4 ?_
  refine ts_aload_n X dX9_takeDraft_7 0 rfl ?_
  refine gf_X9_24 X dX9_takeDraft_8 ?_
  refine gf_X9_119 X (tX_Tc 1 (by decide) rfl) (q := 27) rfl dX9_takeDraft_11 ?_
  refine ts_callVv (w := tX_w v) X (k := 23) ((tX_Lp 31)).lt (tX_eL (tX_Lp 31) _) rfl rfl (As := [.ref (tX_ad v 27)]) (ct_X2_copyFrom g.2.1 v hi _ _ _ _ (tX_Lp 31) (tX_Lp 37) hw) ok_X2_copyFrom cw_X9_300 (ts_le hgn (by decide)) (by decide) rfl rfl (Nat.le_of_ble_eq_true rfl) dX9_takeDraft_14 (fun s11 hw => ?_)
  refine ts_aload_n X dX9_takeDraft_17 0 rfl ?_
  refine gf_X9_28 X dX9_takeDraft_18 ?_
  refine ts_aload_n X dX9_takeDraft_21 0 rfl ?_
  refine gf_X9_24 X dX9_takeDraft_22 ?_
  refine ts_callVv (w := tX_w v) X (k := 31) ((tX_Tc 0 (by decide) rfl)).lt (tX_eT (tX_Tc 0 (by decide) rfl) _) rfl rfl (As := [.ref (tX_ad v 37)]) (ct_X8_standAs g.2.1 v hi _ _ _ _ (tX_Tc 0 (by decide) rfl) (tX_Tc 1 (by decide) rfl) hw) ok_X8_standAs cw_X9_210 (ts_le hgn (by decide)) (by decide) rfl rfl (Nat.le_of_ble_eq_true rfl) dX9_takeDraft_25 (fun s13 hw => ?_)
  refine ts_aload_n X dX9_takeDraft_28 0 rfl ?_
  refine gf_X9_37 X dX9_takeDraft_29 ?_
  refine ts_callVv (w := tX_w v) X (k := 4) (by decide : 4 < 151) rfl rfl rfl (As := []) (ct_X1_clear g.2.1 v hi _ _  hw) ok_X1_clear cw_X9_296 (ts_le hgn (by decide)) (by decide) rfl rfl (Nat.le_of_ble_eq_true rfl) dX9_takeDraft_32 (fun s15 hw => ?_)
  refine ts_aload_n X dX9_takeDraft_35 0 rfl ?_
  refine gf_X9_52 X dX9_takeDraft_36 ?_
  refine ts_callVv (w := tX_w v) X (k := 7) (by decide : 7 < 151) rfl rfl rfl (As := []) (ct_X4_clear g.2.1 v hi _ _  hw) ok_X4_clear cw_X9_248 (ts_le hgn (by decide)) (by decide) rfl rfl (Nat.le_of_ble_eq_true rfl) dX9_takeDraft_39 (fun s17 hw => ?_)
  refine ts_aload_n X dX9_takeDraft_42 0 rfl ?_
  refine ts_iconst X dX9_takeDraft_43 (v := 0) (by decide) ?_
  refine pf_X9_293 X dX9_takeDraft_44 (fun s18 es18 => ?_)
  have hw := hw s18 es18
  exact hret _ _ _ hw dX9_takeDraft_47
set_option maxRecDepth 100000 in
set_option maxHeartbeats 4000000 in
theorem ct_X9_write (l : Launch) (v : tX_V) (hi : ts_inj 151 (tX_ad v)) (K : Int32 → ts_S → Prop) (σ : ts_S) (a1 : Int32)  (hw : wp_X9_write K σ a1) : ts_Mi l yX9_write (Cond.code yX9_write cX9_write 2 (some .int)) 2 (tX_w v) [.ref (tX_ad v 0), .int a1] σ K := by
  refine ts_Mi.of_i (w := tX_w v) hi (by decide +kernel) (Nat.le_of_ble_eq_true rfl) ?_
  intro g hgl hgn X hret
  unfold wp_X9_write at hw
  show ts_G g (tX_w v) 2 σ 0 [(0, .ref (tX_ad v 0)), (1, .int a1)] []
  refine ts_iload_n X dX9_write_0 1 rfl ?_
  refine ts_bipush X dX9_write_1 (v := 32) (by decide) ?_
  refine ts_bipush X dX9_write_3 (v := 126) (by decide) ?_
  refine ts_callSi X (As := [.int a1, .int 32, .int 126]) (ct_X9_within g.2.1 v hi _ _ _ _ _ hw) ok_X9_within cw_X9_112 (ts_le hgn (by decide)) (by decide) rfl rfl (Nat.le_of_ble_eq_true rfl) dX9_write_5 (fun r5 s6 hw => ?_)
  refine ts_if_ne 13 X dX9_write_8 (by decide) (fun c => ?_) (fun c => ?_)
  · have hw := ts_itn hw c
    refine ts_aload_n X dX9_write_13 0 rfl ?_
    refine gf_X9_10 X dX9_write_14 ?_
    refine ts_iload_n X dX9_write_17 1 rfl ?_
    refine ts_i2c X dX9_write_18 ?_
    refine ts_callVi (w := tX_w v) X (k := 1) (by decide : 1 < 151) rfl rfl rfl (As := [.int ((a1.toUInt32 % 65536).toInt32)]) (ct_X6_add g.2.1 v hi _ _ _ hw) ok_X6_add cw_X9_98 (ts_le hgn (by decide)) (by decide) rfl rfl (Nat.le_of_ble_eq_true rfl) dX9_write_19 (fun r7 s8 hw => ?_)
    refine ts_if_eq 35 X dX9_write_22 (by decide) (fun c => ?_) (fun c => ?_)
    · have hw := ts_itp hw c
      refine ts_bipush X dX9_write_35 (v := (-3)) (by decide) ?_
      exact hret _ _ _ _ hw dX9_write_37
    · have hw := ts_itn hw c
      refine ts_aload_n X dX9_write_25 0 rfl ?_
      refine gf_X9_10 X dX9_write_26 ?_
      refine gf_X9_116 X dX9_write_29 ?_
      refine ts_goto 37 X dX9_write_32 (by decide) ?_
      exact hret _ _ _ _ hw dX9_write_37
  · have hw := ts_itp hw c
    refine ts_iconst X dX9_write_11 (v := (-1)) (by decide) ?_
    exact hret _ _ _ _ hw dX9_write_12
set_option maxRecDepth 100000 in
set_option maxHeartbeats 4000000 in
theorem ct_X9_wipe (l : Launch) (v : tX_V) (hi : ts_inj 151 (tX_ad v)) (K : Int32 → ts_S → Prop) (σ : ts_S)   (hw : wp_X9_wipe K σ ) : ts_Mi l yX9_wipe (Cond.code yX9_wipe cX9_wipe 2 (some .int)) 2 (tX_w v) [.ref (tX_ad v 0)] σ K := by
  refine ts_Mi.of_i (w := tX_w v) hi (by decide +kernel) (Nat.le_of_ble_eq_true rfl) ?_
  intro g hgl hgn X hret
  unfold wp_X9_wipe at hw
  show ts_G g (tX_w v) 2 σ 0 [(0, .ref (tX_ad v 0))] []
  refine ts_aload_n X dX9_wipe_0 0 rfl ?_
  refine gf_X9_10 X dX9_wipe_1 ?_
  refine gf_X9_116 X dX9_wipe_4 ?_
  refine ts_istore_n X dX9_wipe_7 (by decide) (lv' := [(1, .int (σ 1 1)), (0, .ref (tX_ad v 0))]) rfl ?_
  refine ts_aload_n X dX9_wipe_8 1 rfl ?_
  refine gf_X9_10 X dX9_wipe_9 ?_
  refine ts_callVv (w := tX_w v) X (k := 1) (by decide : 1 < 151) rfl rfl rfl (As := []) (ct_X6_clear g.2.1 v hi _ _  hw) ok_X6_clear cw_X9_109 (ts_le hgn (by decide)) (by decide) rfl rfl (Nat.le_of_ble_eq_true rfl) dX9_wipe_12 (fun s4 hw => ?_)
  refine ts_iload_n X dX9_wipe_15 0 rfl ?_
  exact hret _ _ _ _ hw dX9_wipe_16
set_option maxRecDepth 100000 in
set_option maxHeartbeats 4000000 in
theorem ct_X9_fault (l : Launch) (v : tX_V) (hi : ts_inj 151 (tX_ad v)) (K : Int32 → ts_S → Prop) (σ : ts_S)   (hw : wp_X9_fault K σ ) : ts_Mi l yX9_fault (Cond.code yX9_fault cX9_fault 1 (some .int)) 6 (tX_w v) [.ref (tX_ad v 0)] σ K := by
  refine ts_Mi.of_i (w := tX_w v) hi (by decide +kernel) (Nat.le_of_ble_eq_true rfl) ?_
  intro g hgl hgn X hret
  unfold wp_X9_fault at hw
  show ts_G g (tX_w v) 1 σ 0 [(0, .ref (tX_ad v 0))] []
  refine ts_aload_n X dX9_fault_0 0 rfl ?_
  refine gf_X9_10 X dX9_fault_1 ?_
  refine ts_aload_n X dX9_fault_4 0 rfl ?_
  refine gf_X9_24 X dX9_fault_5 ?_
  refine ts_callVi (w := tX_w v) X (k := 1) (by decide : 1 < 151) rfl rfl rfl (As := [.ref (tX_ad v 37)]) (ct_X6_readInto g.2.1 v hi _ _ _ (tX_Tc 1 (by decide) rfl) hw) ok_X6_readInto cw_X9_102 (ts_le hgn (by decide)) (by decide) rfl rfl (Nat.le_of_ble_eq_true rfl) dX9_fault_8 (fun r3 s4 hw => ?_)
  exact hret _ _ _ _ hw dX9_fault_11
set_option maxRecDepth 100000 in
set_option maxHeartbeats 4000000 in
theorem ct_X9_lay (l : Launch) (v : tX_V) (hi : ts_inj 151 (tX_ad v)) (K : Int32 → ts_S → Prop) (σ : ts_S)   (hw : wp_X9_lay K σ ) : ts_Mi l yX9_lay (Cond.code yX9_lay cX9_lay 1 (some .int)) 6 (tX_w v) [.ref (tX_ad v 0)] σ K := by
  refine ts_Mi.of_i (w := tX_w v) hi (by decide +kernel) (Nat.le_of_ble_eq_true rfl) ?_
  intro g hgl hgn X hret
  unfold wp_X9_lay at hw
  show ts_G g (tX_w v) 1 σ 0 [(0, .ref (tX_ad v 0))] []
  refine ts_aload_n X dX9_lay_0 0 rfl ?_
  refine gf_X9_10 X dX9_lay_1 ?_
  refine ts_aload_n X dX9_lay_4 0 rfl ?_
  refine gf_X9_24 X dX9_lay_5 ?_
  refine ts_callVi (w := tX_w v) X (k := 1) (by decide : 1 < 151) rfl rfl rfl (As := [.ref (tX_ad v 37)]) (ct_X6_readInto g.2.1 v hi _ _ _ (tX_Tc 1 (by decide) rfl) hw) ok_X6_readInto cw_X9_102 (ts_le hgn (by decide)) (by decide) rfl rfl (Nat.le_of_ble_eq_true rfl) dX9_lay_8 (fun r5 s6 hw => ?_)
  refine ts_bipush X dX9_lay_11 (v := (-4)) (by decide) ?_
  refine ts_icmp_ne 29 X dX9_lay_13 (by decide) (fun c => ?_) (fun c => ?_)
  · have hw := ts_itn hw c
    refine ts_bipush X dX9_lay_29 (v := (-2)) (by decide) ?_
    exact hret _ _ _ _ hw dX9_lay_31
  · have hw := ts_itp hw c
    refine ts_aload_n X dX9_lay_16 0 rfl ?_
    refine gf_X9_24 X dX9_lay_17 ?_
    refine gf_X9_119 X (tX_Tc 1 (by decide) rfl) (q := 27) rfl dX9_lay_20 ?_
    refine gf_X9_123 X (tX_Lp 37) dX9_lay_23 ?_
    refine ts_if_ne 32 X dX9_lay_26 (by decide) (fun c => ?_) (fun c => ?_)
    · have hw := ts_itn hw c
      refine ts_aload_n X dX9_lay_32 0 rfl ?_
      refine ts_callVv (w := tX_w v) X (k := 0) (by decide : 0 < 151) rfl rfl rfl (As := []) (ct_X9_takeDraft g.2.1 v hi _ _  hw) ok_X9_takeDraft cw_X9_106 (ts_le hgn (by decide)) (by decide) rfl rfl (Nat.le_of_ble_eq_true rfl) dX9_lay_33 (fun s8 hw => ?_)
      refine ts_aload_n X dX9_lay_36 0 rfl ?_
      refine gf_X9_28 X dX9_lay_37 ?_
      refine gf_X9_119 X (tX_Tc 0 (by decide) rfl) (q := 23) rfl dX9_lay_40 ?_
      refine gf_X9_123 X (tX_Lp 31) dX9_lay_43 ?_
      exact hret _ _ _ _ hw dX9_lay_46
    · have hw := ts_itp hw c
      refine ts_bipush X dX9_lay_29 (v := (-2)) (by decide) ?_
      exact hret _ _ _ _ hw dX9_lay_31
set_option maxRecDepth 100000 in
set_option maxHeartbeats 4000000 in
theorem ct_X9_isPerson (l : Launch) (v : tX_V) (hi : ts_inj 151 (tX_ad v)) (K : Int32 → ts_S → Prop) (σ : ts_S) (a1 : Int32)  (hw : wp_X9_isPerson K σ a1) : ts_Mi l yX9_isPerson (Cond.code yX9_isPerson cX9_isPerson 2 (some .boolean)) 2 (tX_w v) [.ref (tX_ad v 0), .int a1] σ K := by
  refine ts_Mi.of_z (w := tX_w v) hi (by decide +kernel) (Nat.le_of_ble_eq_true rfl) ?_
  intro g hgl hgn X hret
  unfold wp_X9_isPerson at hw
  show ts_G g (tX_w v) 2 σ 0 [(0, .ref (tX_ad v 0)), (1, .int a1)] []
  refine ts_iload_n X dX9_isPerson_0 1 rfl ?_
  refine ts_iconst X dX9_isPerson_1 (v := 0) (by decide) ?_
  refine ts_aload_n X dX9_isPerson_2 0 rfl ?_
  refine gf_X9_28 X dX9_isPerson_3 ?_
  refine gf_X9_119 X (tX_Tc 0 (by decide) rfl) (q := 23) rfl dX9_isPerson_6 ?_
  refine gf_X9_123 X (tX_Lp 31) dX9_isPerson_9 ?_
  refine ts_iconst X dX9_isPerson_12 (v := 1) (by decide) ?_
  refine ts_isub X dX9_isPerson_13 ?_
  refine ts_callSi X (As := [.int a1, .int 0, .int ((σ 23 1) - 1)]) (ct_X9_within g.2.1 v hi _ _ _ _ _ hw) ok_X9_within cw_X9_112 (ts_le hgn (by decide)) (by decide) rfl rfl (Nat.le_of_ble_eq_true rfl) dX9_isPerson_14 (fun r3 s4 hw => ?_)
  exact hret _ _ _ _ hw dX9_isPerson_17
set_option maxRecDepth 100000 in
set_option maxHeartbeats 4000000 in
theorem ct_X9_person (l : Launch) (v : tX_V) (hi : ts_inj 151 (tX_ad v)) (K : Int32 → ts_S → Prop) (σ : ts_S) (a1 : Int32) (a2 : Int32)  (hw : wp_X9_person K σ a1 a2) : ts_Mi l yX9_person (Cond.code yX9_person cX9_person 3 (some .int)) 4 (tX_w v) [.ref (tX_ad v 0), .int a1, .int a2] σ K := by
  refine ts_Mi.of_i (w := tX_w v) hi (by decide +kernel) (Nat.le_of_ble_eq_true rfl) ?_
  intro g hgl hgn X hret
  unfold wp_X9_person at hw
  show ts_G g (tX_w v) 3 σ 0 [(0, .ref (tX_ad v 0)), (1, .int a1), (2, .int a2)] []
  refine ts_aload_n X dX9_person_0 0 rfl ?_
  refine ts_iload_n X dX9_person_1 1 rfl ?_
  refine ts_callVi (w := tX_w v) X (k := 0) (by decide : 0 < 151) rfl rfl rfl (As := [.int a1]) (ct_X9_isPerson g.2.1 v hi _ _ _ hw) ok_X9_isPerson cw_X9_126 (ts_le hgn (by decide)) (by decide) rfl rfl (Nat.le_of_ble_eq_true rfl) dX9_person_2 (fun r15 s16 hw => ?_)
  refine ts_if_ne 10 X dX9_person_5 (by decide) (fun c => ?_) (fun c => ?_)
  · have hw := ts_itn hw c
    refine ts_iload_n X dX9_person_10 2 rfl ?_
    by_cases c0 : a2 = 0
    · have hw := ts_itp hw c0
      refine ts_tableIn 56 X dX9_person_11 c0 (by decide) (by decide) rfl (by decide) ?_
      refine ts_aload_n X dX9_person_56 0 rfl ?_
      refine gf_X9_28 X dX9_person_57 ?_
      refine gf_X9_119 X (tX_Tc 0 (by decide) rfl) (q := 23) rfl dX9_person_60 ?_
      refine gf_X9_130 X (tX_Lp 31) (q := 24) rfl dX9_person_63 ?_
      refine ts_iload_n X dX9_person_66 1 rfl ?_
      refine xi_ald X (tX_b1 (tX_Lp 31) rfl) hw.1 dX9_person_67 ?_
      have hw := hw.2
      exact hret _ _ _ _ hw dX9_person_68
    · have hw := ts_itn hw c0
      by_cases c1 : a2 = 1
      · have hw := ts_itp hw c1
        refine ts_tableIn 69 X dX9_person_11 c1 (by decide) (by decide) rfl (by decide) ?_
        refine ts_aload_n X dX9_person_69 0 rfl ?_
        refine gf_X9_28 X dX9_person_70 ?_
        refine gf_X9_134 X (tX_Tc 0 (by decide) rfl) (q := 32) rfl dX9_person_73 ?_
        refine ts_iload_n X dX9_person_76 1 rfl ?_
        refine xi_ald X (tX_a1 (tX_Tc 0 (by decide) rfl) rfl) hw.1 dX9_person_77 ?_
        have hw := hw.2
        exact hret _ _ _ _ hw dX9_person_78
      · have hw := ts_itn hw c1
        by_cases c2 : a2 = 2
        · have hw := ts_itp hw c2
          refine ts_tableIn 79 X dX9_person_11 c2 (by decide) (by decide) rfl (by decide) ?_
          refine ts_aload_n X dX9_person_79 0 rfl ?_
          refine gf_X9_28 X dX9_person_80 ?_
          refine gf_X9_137 X (tX_Tc 0 (by decide) rfl) (q := 33) rfl dX9_person_83 ?_
          refine ts_iload_n X dX9_person_86 1 rfl ?_
          refine xi_ald X (tX_a2 (tX_Tc 0 (by decide) rfl) rfl) hw.1 dX9_person_87 ?_
          have hw := hw.2
          exact hret _ _ _ _ hw dX9_person_88
        · have hw := ts_itn hw c2
          by_cases c3 : a2 = 3
          · have hw := ts_itp hw c3
            refine ts_tableIn 89 X dX9_person_11 c3 (by decide) (by decide) rfl (by decide) ?_
            refine ts_aload_n X dX9_person_89 0 rfl ?_
            refine gf_X9_28 X dX9_person_90 ?_
            refine gf_X9_140 X (tX_Tc 0 (by decide) rfl) (q := 34) rfl dX9_person_93 ?_
            refine ts_iload_n X dX9_person_96 1 rfl ?_
            refine xi_ald X (tX_a3 (tX_Tc 0 (by decide) rfl) rfl) hw.1 dX9_person_97 ?_
            have hw := hw.2
            exact hret _ _ _ _ hw dX9_person_98
          · have hw := ts_itn hw c3
            by_cases c4 : a2 = 4
            · have hw := ts_itp hw c4
              refine ts_tableIn 99 X dX9_person_11 c4 (by decide) (by decide) rfl (by decide) ?_
              refine ts_aload_n X dX9_person_99 0 rfl ?_
              refine gf_X9_28 X dX9_person_100 ?_
              refine ts_iload_n X dX9_person_103 1 rfl ?_
              refine ts_aload_n X dX9_person_104 0 rfl ?_
              refine gf_X9_28 X dX9_person_105 ?_
              refine gf_X9_134 X (tX_Tc 0 (by decide) rfl) (q := 32) rfl dX9_person_108 ?_
              refine ts_iload_n X dX9_person_111 1 rfl ?_
              refine xi_ald X (tX_a1 (tX_Tc 0 (by decide) rfl) rfl) hw.1 dX9_person_112 ?_
              have hw := hw.2
              refine ts_callVi (w := tX_w v) X (k := 31) ((tX_Tc 0 (by decide) rfl)).lt (tX_eT (tX_Tc 0 (by decide) rfl) _) rfl rfl (As := [.int a1, .int (s16 32 a1.toNatClampNeg)]) (ct_X8_fearOn g.2.1 v hi _ _ _ _ _ (tX_Tc 0 (by decide) rfl) hw) ok_X8_fearOn cw_X9_143 (ts_le hgn (by decide)) (by decide) rfl rfl (Nat.le_of_ble_eq_true rfl) dX9_person_113 (fun r17 s18 hw => ?_)
              exact hret _ _ _ _ hw dX9_person_116
            · have hw := ts_itn hw c4
              by_cases c5 : a2 = 5
              · have hw := ts_itp hw c5
                refine ts_tableIn 117 X dX9_person_11 c5 (by decide) (by decide) rfl (by decide) ?_
                refine ts_aload_n X dX9_person_117 0 rfl ?_
                refine gf_X9_28 X dX9_person_118 ?_
                refine ts_iload_n X dX9_person_121 1 rfl ?_
                refine ts_callVi (w := tX_w v) X (k := 31) ((tX_Tc 0 (by decide) rfl)).lt (tX_eT (tX_Tc 0 (by decide) rfl) _) rfl rfl (As := [.int a1]) (ct_X8_isFrozen g.2.1 v hi _ _ _ _ (tX_Tc 0 (by decide) rfl) hw) ok_X8_isFrozen cw_X9_147 (ts_le hgn (by decide)) (by decide) rfl rfl (Nat.le_of_ble_eq_true rfl) dX9_person_122 (fun r19 s20 hw => ?_)
                refine ts_callSi X (As := [.int r19]) (ct_X9_asNumber g.2.1 v hi _ _ _ hw) ok_X9_asNumber cw_X9_150 (ts_le hgn (by decide)) (by decide) rfl rfl (Nat.le_of_ble_eq_true rfl) dX9_person_125 (fun r21 s22 hw => ?_)
                exact hret _ _ _ _ hw dX9_person_128
              · have hw := ts_itn hw c5
                by_cases c6 : a2 = 6
                · have hw := ts_itp hw c6
                  refine ts_tableIn 129 X dX9_person_11 c6 (by decide) (by decide) rfl (by decide) ?_
                  refine ts_aload_n X dX9_person_129 0 rfl ?_
                  refine gf_X9_28 X dX9_person_130 ?_
                  refine gf_X9_154 X (tX_Tc 0 (by decide) rfl) (q := 35) rfl dX9_person_133 ?_
                  refine ts_iload_n X dX9_person_136 1 rfl ?_
                  refine xz_ald X (tX_a4 (tX_Tc 0 (by decide) rfl) rfl) hw.1 dX9_person_137 ?_
                  have hw := hw.2
                  refine ts_callSi X (As := [.int (s16 35 a1.toNatClampNeg)]) (ct_X9_asNumber g.2.1 v hi _ _ _ hw) ok_X9_asNumber cw_X9_150 (ts_le hgn (by decide)) (by decide) rfl rfl (Nat.le_of_ble_eq_true rfl) dX9_person_138 (fun r23 s24 hw => ?_)
                  exact hret _ _ _ _ hw dX9_person_141
                · have hw := ts_itn hw c6
                  by_cases c7 : a2 = 7
                  · have hw := ts_itp hw c7
                    refine ts_tableIn 142 X dX9_person_11 c7 (by decide) (by decide) rfl (by decide) ?_
                    refine ts_aload_n X dX9_person_142 0 rfl ?_
                    refine gf_X9_28 X dX9_person_143 ?_
                    refine ts_iload_n X dX9_person_146 1 rfl ?_
                    refine ts_callVi (w := tX_w v) X (k := 31) ((tX_Tc 0 (by decide) rfl)).lt (tX_eT (tX_Tc 0 (by decide) rfl) _) rfl rfl (As := [.int a1]) (ct_X8_mayBeCalled g.2.1 v hi _ _ _ _ (tX_Tc 0 (by decide) rfl) hw) ok_X8_mayBeCalled cw_X9_158 (ts_le hgn (by decide)) (by decide) rfl rfl (Nat.le_of_ble_eq_true rfl) dX9_person_147 (fun r25 s26 hw => ?_)
                    refine ts_callSi X (As := [.int r25]) (ct_X9_asNumber g.2.1 v hi _ _ _ hw) ok_X9_asNumber cw_X9_150 (ts_le hgn (by decide)) (by decide) rfl rfl (Nat.le_of_ble_eq_true rfl) dX9_person_150 (fun r27 s28 hw => ?_)
                    exact hret _ _ _ _ hw dX9_person_153
                  · have hw := ts_itn hw c7
                    refine ts_tableOut 154 X dX9_person_11 (ts_out [0, 1, 2, 3, 4, 5, 6, 7] ⟨c0, c1, c2, c3, c4, c5, c6, c7, trivial⟩ (by decide)) (by decide) ?_
                    refine ts_iconst X dX9_person_154 (v := (-1)) (by decide) ?_
                    exact hret _ _ _ _ hw dX9_person_155
  · have hw := ts_itp hw c
    refine ts_iconst X dX9_person_8 (v := (-1)) (by decide) ?_
    exact hret _ _ _ _ hw dX9_person_9
set_option maxRecDepth 100000 in
set_option maxHeartbeats 4000000 in
theorem ct_X9_isStep (l : Launch) (v : tX_V) (hi : ts_inj 151 (tX_ad v)) (K : Int32 → ts_S → Prop) (σ : ts_S) (a1 : Int32)  (hw : wp_X9_isStep K σ a1) : ts_Mi l yX9_isStep (Cond.code yX9_isStep cX9_isStep 2 (some .boolean)) 2 (tX_w v) [.ref (tX_ad v 0), .int a1] σ K := by
  refine ts_Mi.of_z (w := tX_w v) hi (by decide +kernel) (Nat.le_of_ble_eq_true rfl) ?_
  intro g hgl hgn X hret
  unfold wp_X9_isStep at hw
  show ts_G g (tX_w v) 2 σ 0 [(0, .ref (tX_ad v 0)), (1, .int a1)] []
  refine ts_iload_n X dX9_isStep_0 1 rfl ?_
  refine ts_iconst X dX9_isStep_1 (v := 0) (by decide) ?_
  refine ts_aload_n X dX9_isStep_2 0 rfl ?_
  refine gf_X9_28 X dX9_isStep_3 ?_
  refine gf_X9_119 X (tX_Tc 0 (by decide) rfl) (q := 23) rfl dX9_isStep_6 ?_
  refine gf_X9_297 X (tX_Lp 31) dX9_isStep_9 ?_
  refine ts_iconst X dX9_isStep_12 (v := 1) (by decide) ?_
  refine ts_isub X dX9_isStep_13 ?_
  refine ts_callSi X (As := [.int a1, .int 0, .int ((σ 23 0) - 1)]) (ct_X9_within g.2.1 v hi _ _ _ _ _ hw) ok_X9_within cw_X9_112 (ts_le hgn (by decide)) (by decide) rfl rfl (Nat.le_of_ble_eq_true rfl) dX9_isStep_14 (fun r3 s4 hw => ?_)
  exact hret _ _ _ _ hw dX9_isStep_17
set_option maxRecDepth 100000 in
set_option maxHeartbeats 4000000 in
theorem ct_X9_fear (l : Launch) (v : tX_V) (hi : ts_inj 151 (tX_ad v)) (K : Int32 → ts_S → Prop) (σ : ts_S) (a1 : Int32) (a2 : Int32)  (hw : wp_X9_fear K σ a1 a2) : ts_Mi l yX9_fear (Cond.code yX9_fear cX9_fear 3 (some .int)) 4 (tX_w v) [.ref (tX_ad v 0), .int a1, .int a2] σ K := by
  refine ts_Mi.of_i (w := tX_w v) hi (by decide +kernel) (Nat.le_of_ble_eq_true rfl) ?_
  intro g hgl hgn X hret
  unfold wp_X9_fear at hw
  show ts_G g (tX_w v) 3 σ 0 [(0, .ref (tX_ad v 0)), (1, .int a1), (2, .int a2)] []
  refine ts_aload_n X dX9_fear_0 0 rfl ?_
  refine ts_iload_n X dX9_fear_1 1 rfl ?_
  refine ts_callVi (w := tX_w v) X (k := 0) (by decide : 0 < 151) rfl rfl rfl (As := [.int a1]) (ct_X9_isPerson g.2.1 v hi _ _ _ hw) ok_X9_isPerson cw_X9_126 (ts_le hgn (by decide)) (by decide) rfl rfl (Nat.le_of_ble_eq_true rfl) dX9_fear_2 (fun r7 s8 hw => ?_)
  refine ts_if_eq 28 X dX9_fear_5 (by decide) (fun c => ?_) (fun c => ?_)
  · have hw := ts_itp hw c
    refine ts_iconst X dX9_fear_28 (v := (-1)) (by decide) ?_
    exact hret _ _ _ _ hw dX9_fear_29
  · have hw := ts_itn hw c
    refine ts_aload_n X dX9_fear_8 0 rfl ?_
    refine ts_iload_n X dX9_fear_9 2 rfl ?_
    refine ts_callVi (w := tX_w v) X (k := 0) (by decide : 0 < 151) rfl rfl rfl (As := [.int a2]) (ct_X9_isStep g.2.1 v hi _ _ _ hw) ok_X9_isStep cw_X9_161 (ts_le hgn (by decide)) (by decide) rfl rfl (Nat.le_of_ble_eq_true rfl) dX9_fear_10 (fun r9 s10 hw => ?_)
    refine ts_if_eq 28 X dX9_fear_13 (by decide) (fun c => ?_) (fun c => ?_)
    · have hw := ts_itp hw c
      refine ts_iconst X dX9_fear_28 (v := (-1)) (by decide) ?_
      exact hret _ _ _ _ hw dX9_fear_29
    · have hw := ts_itn hw c
      refine ts_aload_n X dX9_fear_16 0 rfl ?_
      refine gf_X9_28 X dX9_fear_17 ?_
      refine ts_iload_n X dX9_fear_20 1 rfl ?_
      refine ts_iload_n X dX9_fear_21 2 rfl ?_
      refine ts_callVi (w := tX_w v) X (k := 31) ((tX_Tc 0 (by decide) rfl)).lt (tX_eT (tX_Tc 0 (by decide) rfl) _) rfl rfl (As := [.int a1, .int a2]) (ct_X8_fearOn g.2.1 v hi _ _ _ _ _ (tX_Tc 0 (by decide) rfl) hw) ok_X8_fearOn cw_X9_143 (ts_le hgn (by decide)) (by decide) rfl rfl (Nat.le_of_ble_eq_true rfl) dX9_fear_22 (fun r11 s12 hw => ?_)
      refine ts_goto 29 X dX9_fear_25 (by decide) ?_
      exact hret _ _ _ _ hw dX9_fear_29
set_option maxRecDepth 100000 in
set_option maxHeartbeats 4000000 in
theorem ct_X9_work (l : Launch) (v : tX_V) (hi : ts_inj 151 (tX_ad v)) (K : Int32 → ts_S → Prop) (σ : ts_S) (a1 : Int32) (a2 : Int32)  (hw : wp_X9_work K σ a1 a2) : ts_Mi l yX9_work (Cond.code yX9_work cX9_work 3 (some .int)) 5 (tX_w v) [.ref (tX_ad v 0), .int a1, .int a2] σ K := by
  refine ts_Mi.of_i (w := tX_w v) hi (by decide +kernel) (Nat.le_of_ble_eq_true rfl) ?_
  intro g hgl hgn X hret
  unfold wp_X9_work at hw
  show ts_G g (tX_w v) 3 σ 0 [(0, .ref (tX_ad v 0)), (1, .int a1), (2, .int a2)] []
  refine ts_iload_n X dX9_work_0 1 rfl ?_
  refine ts_iconst X dX9_work_1 (v := 0) (by decide) ?_
  refine ts_aload_n X dX9_work_2 0 rfl ?_
  refine gf_X9_28 X dX9_work_3 ?_
  refine gf_X9_119 X (tX_Tc 0 (by decide) rfl) (q := 23) rfl dX9_work_6 ?_
  refine gf_X9_164 X (tX_Lp 31) dX9_work_9 ?_
  refine ts_iconst X dX9_work_12 (v := 1) (by decide) ?_
  refine ts_isub X dX9_work_13 ?_
  refine ts_callSi X (As := [.int a1, .int 0, .int ((σ 23 2) - 1)]) (ct_X9_within g.2.1 v hi _ _ _ _ _ hw) ok_X9_within cw_X9_112 (ts_le hgn (by decide)) (by decide) rfl rfl (Nat.le_of_ble_eq_true rfl) dX9_work_14 (fun r9 s10 hw => ?_)
  refine ts_if_ne 22 X dX9_work_17 (by decide) (fun c => ?_) (fun c => ?_)
  · have hw := ts_itn hw c
    refine ts_iload_n X dX9_work_22 2 rfl ?_
    by_cases c0 : a2 = 0
    · have hw := ts_itp hw c0
      refine ts_tableIn 48 X dX9_work_23 c0 (by decide) (by decide) rfl (by decide) ?_
      refine ts_aload_n X dX9_work_48 0 rfl ?_
      refine gf_X9_28 X dX9_work_49 ?_
      refine gf_X9_119 X (tX_Tc 0 (by decide) rfl) (q := 23) rfl dX9_work_52 ?_
      refine gf_X9_167 X (tX_Lp 31) (q := 25) rfl dX9_work_55 ?_
      refine ts_iload_n X dX9_work_58 1 rfl ?_
      refine xi_ald X (tX_b2 (tX_Lp 31) rfl) hw.1 dX9_work_59 ?_
      have hw := hw.2
      exact hret _ _ _ _ hw dX9_work_60
    · have hw := ts_itn hw c0
      by_cases c1 : a2 = 1
      · have hw := ts_itp hw c1
        refine ts_tableIn 61 X dX9_work_23 c1 (by decide) (by decide) rfl (by decide) ?_
        refine ts_aload_n X dX9_work_61 0 rfl ?_
        refine gf_X9_28 X dX9_work_62 ?_
        refine gf_X9_119 X (tX_Tc 0 (by decide) rfl) (q := 23) rfl dX9_work_65 ?_
        refine gf_X9_170 X (tX_Lp 31) (q := 26) rfl dX9_work_68 ?_
        refine ts_iload_n X dX9_work_71 1 rfl ?_
        refine xi_ald X (tX_b3 (tX_Lp 31) rfl) hw.1 dX9_work_72 ?_
        have hw := hw.2
        exact hret _ _ _ _ hw dX9_work_73
      · have hw := ts_itn hw c1
        by_cases c2 : a2 = 2
        · have hw := ts_itp hw c2
          refine ts_tableIn 74 X dX9_work_23 c2 (by decide) (by decide) rfl (by decide) ?_
          refine ts_aload_n X dX9_work_74 0 rfl ?_
          refine gf_X9_28 X dX9_work_75 ?_
          refine ts_iload_n X dX9_work_78 1 rfl ?_
          refine ts_aload_n X dX9_work_79 0 rfl ?_
          refine gf_X9_28 X dX9_work_80 ?_
          refine ts_callVi (w := tX_w v) X (k := 31) ((tX_Tc 0 (by decide) rfl)).lt (tX_eT (tX_Tc 0 (by decide) rfl) _) rfl rfl (As := []) (ct_X8_steadyBits g.2.1 v hi _ _ _ (tX_Tc 0 (by decide) rfl) hw) ok_X8_steadyBits cw_X9_173 (ts_le hgn (by decide)) (by decide) rfl rfl (Nat.le_of_ble_eq_true rfl) dX9_work_83 (fun r11 s12 hw => ?_)
          refine ts_callVi (w := tX_w v) X (k := 31) ((tX_Tc 0 (by decide) rfl)).lt (tX_eT (tX_Tc 0 (by decide) rfl) _) rfl rfl (As := [.int a1, .int r11]) (ct_X8_isDone g.2.1 v hi _ _ _ _ _ (tX_Tc 0 (by decide) rfl) hw) ok_X8_isDone cw_X9_176 (ts_le hgn (by decide)) (by decide) rfl rfl (Nat.le_of_ble_eq_true rfl) dX9_work_86 (fun r13 s14 hw => ?_)
          refine ts_callSi X (As := [.int r13]) (ct_X9_asNumber g.2.1 v hi _ _ _ hw) ok_X9_asNumber cw_X9_150 (ts_le hgn (by decide)) (by decide) rfl rfl (Nat.le_of_ble_eq_true rfl) dX9_work_89 (fun r15 s16 hw => ?_)
          exact hret _ _ _ _ hw dX9_work_92
        · have hw := ts_itn hw c2
          refine ts_tableOut 93 X dX9_work_23 (ts_out [0, 1, 2] ⟨c0, c1, c2, trivial⟩ (by decide)) (by decide) ?_
          refine ts_iconst X dX9_work_93 (v := (-1)) (by decide) ?_
          exact hret _ _ _ _ hw dX9_work_94
  · have hw := ts_itp hw c
    refine ts_iconst X dX9_work_20 (v := (-1)) (by decide) ?_
    exact hret _ _ _ _ hw dX9_work_21
set_option maxRecDepth 100000 in
set_option maxHeartbeats 4000000 in
theorem ct_X9_pass (l : Launch) (v : tX_V) (hi : ts_inj 151 (tX_ad v)) (K : Int32 → ts_S → Prop) (σ : ts_S) (a1 : Int32)  (hw : wp_X9_pass K σ a1) : ts_Mi l yX9_pass (Cond.code yX9_pass cX9_pass 2 (some .int)) 6 (tX_w v) [.ref (tX_ad v 0), .int a1] σ K := by
  refine ts_Mi.of_i (w := tX_w v) hi (by decide +kernel) (Nat.le_of_ble_eq_true rfl) ?_
  intro g hgl hgn X hret
  unfold wp_X9_pass at hw
  show ts_G g (tX_w v) 2 σ 0 [(0, .ref (tX_ad v 0)), (1, .int a1)] []
  refine ts_iload_n X dX9_pass_0 1 rfl ?_
  refine ts_iconst X dX9_pass_1 (v := 1) (by decide) ?_
  refine ts_bipush X dX9_pass_2 (v := 40) (by decide) ?_
  refine ts_callSi X (As := [.int a1, .int 1, .int 40]) (ct_X9_within g.2.1 v hi _ _ _ _ _ hw) ok_X9_within cw_X9_112 (ts_le hgn (by decide)) (by decide) rfl rfl (Nat.le_of_ble_eq_true rfl) dX9_pass_4 (fun r7 s8 hw => ?_)
  refine ts_if_ne 12 X dX9_pass_7 (by decide) (fun c => ?_) (fun c => ?_)
  · have hw := ts_itn hw c
    refine ts_aload_n X dX9_pass_12 0 rfl ?_
    refine gf_X9_28 X dX9_pass_13 ?_
    refine gf_X9_180 X (tX_Tc 0 (by decide) rfl) dX9_pass_16 ?_
    refine ts_iload_n X dX9_pass_19 1 rfl ?_
    refine ts_iadd X dX9_pass_20 ?_
    refine ts_sipush X dX9_pass_21 (v := 999) (by decide) ?_
    refine ts_icmp_le 30 X dX9_pass_24 (by decide) (fun c => ?_) (fun c => ?_)
    · have hw := ts_itp hw c
      refine ts_aload_n X dX9_pass_30 0 rfl ?_
      refine gf_X9_37 X dX9_pass_31 ?_
      refine ts_aload_n X dX9_pass_34 0 rfl ?_
      refine gf_X9_28 X dX9_pass_35 ?_
      refine ts_callVv (w := tX_w v) X (k := 4) (by decide : 4 < 151) rfl rfl rfl (As := [.ref (tX_ad v 31)]) (ct_X1_add g.2.1 v hi _ _ _ (tX_Tc 0 (by decide) rfl) hw) ok_X1_add cw_X9_183 (ts_le hgn (by decide)) (by decide) rfl rfl (Nat.le_of_ble_eq_true rfl) dX9_pass_38 (fun s10 hw => ?_)
      refine ts_aload_n X dX9_pass_41 0 rfl ?_
      refine gf_X9_28 X dX9_pass_42 ?_
      refine ts_iload_n X dX9_pass_45 1 rfl ?_
      refine ts_callVv (w := tX_w v) X (k := 31) ((tX_Tc 0 (by decide) rfl)).lt (tX_eT (tX_Tc 0 (by decide) rfl) _) rfl rfl (As := [.int a1]) (ct_X8_goYears g.2.1 v hi _ _ _ _ (tX_Tc 0 (by decide) rfl) hw) ok_X8_goYears cw_X9_185 (ts_le hgn (by decide)) (by decide) rfl rfl (Nat.le_of_ble_eq_true rfl) dX9_pass_46 (fun s12 hw => ?_)
      refine ts_aload_n X dX9_pass_49 0 rfl ?_
      refine gf_X9_28 X dX9_pass_50 ?_
      refine gf_X9_180 X (tX_Tc 0 (by decide) rfl) dX9_pass_53 ?_
      exact hret _ _ _ _ hw dX9_pass_56
    · have hw := ts_itn hw c
      refine ts_bipush X dX9_pass_27 (v := (-2)) (by decide) ?_
      exact hret _ _ _ _ hw dX9_pass_29
  · have hw := ts_itp hw c
    refine ts_iconst X dX9_pass_10 (v := (-1)) (by decide) ?_
    exact hret _ _ _ _ hw dX9_pass_11
set_option maxRecDepth 100000 in
set_option maxHeartbeats 4000000 in
theorem ct_X9_promote (l : Launch) (v : tX_V) (hi : ts_inj 151 (tX_ad v)) (K : Int32 → ts_S → Prop) (σ : ts_S) (a1 : Int32)  (hw : wp_X9_promote K σ a1) : ts_Mi l yX9_promote (Cond.code yX9_promote cX9_promote 2 (some .int)) 5 (tX_w v) [.ref (tX_ad v 0), .int a1] σ K := by
  refine ts_Mi.of_i (w := tX_w v) hi (by decide +kernel) (Nat.le_of_ble_eq_true rfl) ?_
  intro g hgl hgn X hret
  unfold wp_X9_promote at hw
  show ts_G g (tX_w v) 2 σ 0 [(0, .ref (tX_ad v 0)), (1, .int a1)] []
  refine ts_aload_n X dX9_promote_0 0 rfl ?_
  refine ts_iload_n X dX9_promote_1 1 rfl ?_
  refine ts_callVi (w := tX_w v) X (k := 0) (by decide : 0 < 151) rfl rfl rfl (As := [.int a1]) (ct_X9_isPerson g.2.1 v hi _ _ _ hw) ok_X9_isPerson cw_X9_126 (ts_le hgn (by decide)) (by decide) rfl rfl (Nat.le_of_ble_eq_true rfl) dX9_promote_2 (fun r9 s10 hw => ?_)
  refine ts_if_ne 10 X dX9_promote_5 (by decide) (fun c => ?_) (fun c => ?_)
  · have hw := ts_itn hw c
    refine ts_aload_n X dX9_promote_10 0 rfl ?_
    refine gf_X9_28 X dX9_promote_11 ?_
    refine ts_iload_n X dX9_promote_14 1 rfl ?_
    refine ts_callVi (w := tX_w v) X (k := 31) ((tX_Tc 0 (by decide) rfl)).lt (tX_eT (tX_Tc 0 (by decide) rfl) _) rfl rfl (As := [.int a1]) (ct_X8_mayGoDown g.2.1 v hi _ _ _ _ (tX_Tc 0 (by decide) rfl) hw) ok_X8_mayGoDown cw_X9_189 (ts_le hgn (by decide)) (by decide) rfl rfl (Nat.le_of_ble_eq_true rfl) dX9_promote_15 (fun r11 s12 hw => ?_)
    refine ts_if_ne 24 X dX9_promote_18 (by decide) (fun c => ?_) (fun c => ?_)
    · have hw := ts_itn hw c
      refine ts_aload_n X dX9_promote_24 0 rfl ?_
      refine gf_X9_37 X dX9_promote_25 ?_
      refine ts_aload_n X dX9_promote_28 0 rfl ?_
      refine gf_X9_28 X dX9_promote_29 ?_
      refine ts_callVv (w := tX_w v) X (k := 4) (by decide : 4 < 151) rfl rfl rfl (As := [.ref (tX_ad v 31)]) (ct_X1_add g.2.1 v hi _ _ _ (tX_Tc 0 (by decide) rfl) hw) ok_X1_add cw_X9_183 (ts_le hgn (by decide)) (by decide) rfl rfl (Nat.le_of_ble_eq_true rfl) dX9_promote_32 (fun s14 hw => ?_)
      refine ts_aload_n X dX9_promote_35 0 rfl ?_
      refine gf_X9_28 X dX9_promote_36 ?_
      refine ts_iload_n X dX9_promote_39 1 rfl ?_
      refine ts_callVv (w := tX_w v) X (k := 31) ((tX_Tc 0 (by decide) rfl)).lt (tX_eT (tX_Tc 0 (by decide) rfl) _) rfl rfl (As := [.int a1]) (ct_X8_goDown g.2.1 v hi _ _ _ _ (tX_Tc 0 (by decide) rfl) hw) ok_X8_goDown cw_X9_192 (ts_le hgn (by decide)) (by decide) rfl rfl (Nat.le_of_ble_eq_true rfl) dX9_promote_40 (fun s16 hw => ?_)
      refine ts_aload_n X dX9_promote_43 0 rfl ?_
      refine gf_X9_28 X dX9_promote_44 ?_
      refine gf_X9_134 X (tX_Tc 0 (by decide) rfl) (q := 32) rfl dX9_promote_47 ?_
      refine ts_iload_n X dX9_promote_50 1 rfl ?_
      refine xi_ald X (tX_a1 (tX_Tc 0 (by decide) rfl) rfl) hw.1 dX9_promote_51 ?_
      have hw := hw.2
      exact hret _ _ _ _ hw dX9_promote_52
    · have hw := ts_itp hw c
      refine ts_bipush X dX9_promote_21 (v := (-2)) (by decide) ?_
      exact hret _ _ _ _ hw dX9_promote_23
  · have hw := ts_itp hw c
    refine ts_iconst X dX9_promote_8 (v := (-1)) (by decide) ?_
    exact hret _ _ _ _ hw dX9_promote_9
set_option maxRecDepth 100000 in
set_option maxHeartbeats 4000000 in
theorem ct_X9_hoist (l : Launch) (v : tX_V) (hi : ts_inj 151 (tX_ad v)) (K : Int32 → ts_S → Prop) (σ : ts_S) (a1 : Int32)  (hw : wp_X9_hoist K σ a1) : ts_Mi l yX9_hoist (Cond.code yX9_hoist cX9_hoist 2 (some .int)) 3 (tX_w v) [.ref (tX_ad v 0), .int a1] σ K := by
  refine ts_Mi.of_i (w := tX_w v) hi (by decide +kernel) (Nat.le_of_ble_eq_true rfl) ?_
  intro g hgl hgn X hret
  unfold wp_X9_hoist at hw
  show ts_G g (tX_w v) 2 σ 0 [(0, .ref (tX_ad v 0)), (1, .int a1)] []
  refine ts_aload_n X dX9_hoist_0 0 rfl ?_
  refine ts_iload_n X dX9_hoist_1 1 rfl ?_
  refine ts_callVi (w := tX_w v) X (k := 0) (by decide : 0 < 151) rfl rfl rfl (As := [.int a1]) (ct_X9_isPerson g.2.1 v hi _ _ _ hw) ok_X9_isPerson cw_X9_126 (ts_le hgn (by decide)) (by decide) rfl rfl (Nat.le_of_ble_eq_true rfl) dX9_hoist_2 (fun r9 s10 hw => ?_)
  refine ts_if_ne 10 X dX9_hoist_5 (by decide) (fun c => ?_) (fun c => ?_)
  · have hw := ts_itn hw c
    refine ts_aload_n X dX9_hoist_10 0 rfl ?_
    refine gf_X9_28 X dX9_hoist_11 ?_
    refine ts_iload_n X dX9_hoist_14 1 rfl ?_
    refine ts_callVi (w := tX_w v) X (k := 31) ((tX_Tc 0 (by decide) rfl)).lt (tX_eT (tX_Tc 0 (by decide) rfl) _) rfl rfl (As := [.int a1]) (ct_X8_mayGoUp g.2.1 v hi _ _ _ _ (tX_Tc 0 (by decide) rfl) hw) ok_X8_mayGoUp cw_X9_195 (ts_le hgn (by decide)) (by decide) rfl rfl (Nat.le_of_ble_eq_true rfl) dX9_hoist_15 (fun r11 s12 hw => ?_)
    refine ts_if_ne 24 X dX9_hoist_18 (by decide) (fun c => ?_) (fun c => ?_)
    · have hw := ts_itn hw c
      refine ts_aload_n X dX9_hoist_24 0 rfl ?_
      refine gf_X9_37 X dX9_hoist_25 ?_
      refine ts_aload_n X dX9_hoist_28 0 rfl ?_
      refine gf_X9_28 X dX9_hoist_29 ?_
      refine ts_callVv (w := tX_w v) X (k := 4) (by decide : 4 < 151) rfl rfl rfl (As := [.ref (tX_ad v 31)]) (ct_X1_add g.2.1 v hi _ _ _ (tX_Tc 0 (by decide) rfl) hw) ok_X1_add cw_X9_183 (ts_le hgn (by decide)) (by decide) rfl rfl (Nat.le_of_ble_eq_true rfl) dX9_hoist_32 (fun s14 hw => ?_)
      refine ts_aload_n X dX9_hoist_35 0 rfl ?_
      refine gf_X9_28 X dX9_hoist_36 ?_
      refine ts_iload_n X dX9_hoist_39 1 rfl ?_
      refine ts_callVv (w := tX_w v) X (k := 31) ((tX_Tc 0 (by decide) rfl)).lt (tX_eT (tX_Tc 0 (by decide) rfl) _) rfl rfl (As := [.int a1]) (ct_X8_goUp g.2.1 v hi _ _ _ _ (tX_Tc 0 (by decide) rfl) hw) ok_X8_goUp cw_X9_198 (ts_le hgn (by decide)) (by decide) rfl rfl (Nat.le_of_ble_eq_true rfl) dX9_hoist_40 (fun s16 hw => ?_)
      refine ts_aload_n X dX9_hoist_43 0 rfl ?_
      refine gf_X9_28 X dX9_hoist_44 ?_
      refine gf_X9_134 X (tX_Tc 0 (by decide) rfl) (q := 32) rfl dX9_hoist_47 ?_
      refine ts_iload_n X dX9_hoist_50 1 rfl ?_
      refine xi_ald X (tX_a1 (tX_Tc 0 (by decide) rfl) rfl) hw.1 dX9_hoist_51 ?_
      have hw := hw.2
      exact hret _ _ _ _ hw dX9_hoist_52
    · have hw := ts_itp hw c
      refine ts_bipush X dX9_hoist_21 (v := (-2)) (by decide) ?_
      exact hret _ _ _ _ hw dX9_hoist_23
  · have hw := ts_itp hw c
    refine ts_iconst X dX9_hoist_8 (v := (-1)) (by decide) ?_
    exact hret _ _ _ _ hw dX9_hoist_9
set_option maxRecDepth 100000 in
set_option maxHeartbeats 4000000 in
theorem ct_X9_call (l : Launch) (v : tX_V) (hi : ts_inj 151 (tX_ad v)) (K : Int32 → ts_S → Prop) (σ : ts_S) (a1 : Int32)  (hw : wp_X9_call K σ a1) : ts_Mi l yX9_call (Cond.code yX9_call cX9_call 2 (some .int)) 5 (tX_w v) [.ref (tX_ad v 0), .int a1] σ K := by
  refine ts_Mi.of_i (w := tX_w v) hi (by decide +kernel) (Nat.le_of_ble_eq_true rfl) ?_
  intro g hgl hgn X hret
  unfold wp_X9_call at hw
  show ts_G g (tX_w v) 2 σ 0 [(0, .ref (tX_ad v 0)), (1, .int a1)] []
  refine ts_aload_n X dX9_call_0 0 rfl ?_
  refine ts_iload_n X dX9_call_1 1 rfl ?_
  refine ts_callVi (w := tX_w v) X (k := 0) (by decide : 0 < 151) rfl rfl rfl (As := [.int a1]) (ct_X9_isPerson g.2.1 v hi _ _ _ hw) ok_X9_isPerson cw_X9_126 (ts_le hgn (by decide)) (by decide) rfl rfl (Nat.le_of_ble_eq_true rfl) dX9_call_2 (fun r9 s10 hw => ?_)
  refine ts_if_ne 10 X dX9_call_5 (by decide) (fun c => ?_) (fun c => ?_)
  · have hw := ts_itn hw c
    refine ts_aload_n X dX9_call_10 0 rfl ?_
    refine gf_X9_28 X dX9_call_11 ?_
    refine ts_iload_n X dX9_call_14 1 rfl ?_
    refine ts_callVi (w := tX_w v) X (k := 31) ((tX_Tc 0 (by decide) rfl)).lt (tX_eT (tX_Tc 0 (by decide) rfl) _) rfl rfl (As := [.int a1]) (ct_X8_mayBeCalled g.2.1 v hi _ _ _ _ (tX_Tc 0 (by decide) rfl) hw) ok_X8_mayBeCalled cw_X9_158 (ts_le hgn (by decide)) (by decide) rfl rfl (Nat.le_of_ble_eq_true rfl) dX9_call_15 (fun r11 s12 hw => ?_)
    refine ts_if_ne 24 X dX9_call_18 (by decide) (fun c => ?_) (fun c => ?_)
    · have hw := ts_itn hw c
      refine ts_aload_n X dX9_call_24 0 rfl ?_
      refine gf_X9_37 X dX9_call_25 ?_
      refine ts_aload_n X dX9_call_28 0 rfl ?_
      refine gf_X9_28 X dX9_call_29 ?_
      refine ts_callVv (w := tX_w v) X (k := 4) (by decide : 4 < 151) rfl rfl rfl (As := [.ref (tX_ad v 31)]) (ct_X1_add g.2.1 v hi _ _ _ (tX_Tc 0 (by decide) rfl) hw) ok_X1_add cw_X9_183 (ts_le hgn (by decide)) (by decide) rfl rfl (Nat.le_of_ble_eq_true rfl) dX9_call_32 (fun s14 hw => ?_)
      refine ts_aload_n X dX9_call_35 0 rfl ?_
      refine gf_X9_28 X dX9_call_36 ?_
      refine ts_iload_n X dX9_call_39 1 rfl ?_
      refine ts_callVv (w := tX_w v) X (k := 31) ((tX_Tc 0 (by decide) rfl)).lt (tX_eT (tX_Tc 0 (by decide) rfl) _) rfl rfl (As := [.int a1]) (ct_X8_hearCall g.2.1 v hi _ _ _ _ (tX_Tc 0 (by decide) rfl) hw) ok_X8_hearCall cw_X9_201 (ts_le hgn (by decide)) (by decide) rfl rfl (Nat.le_of_ble_eq_true rfl) dX9_call_40 (fun s16 hw => ?_)
      refine ts_aload_n X dX9_call_43 0 rfl ?_
      refine gf_X9_28 X dX9_call_44 ?_
      refine gf_X9_140 X (tX_Tc 0 (by decide) rfl) (q := 34) rfl dX9_call_47 ?_
      refine ts_iload_n X dX9_call_50 1 rfl ?_
      refine xi_ald X (tX_a3 (tX_Tc 0 (by decide) rfl) rfl) hw.1 dX9_call_51 ?_
      have hw := hw.2
      exact hret _ _ _ _ hw dX9_call_52
    · have hw := ts_itp hw c
      refine ts_bipush X dX9_call_21 (v := (-2)) (by decide) ?_
      exact hret _ _ _ _ hw dX9_call_23
  · have hw := ts_itp hw c
    refine ts_iconst X dX9_call_8 (v := (-1)) (by decide) ?_
    exact hret _ _ _ _ hw dX9_call_9
set_option maxRecDepth 100000 in
set_option maxHeartbeats 4000000 in
theorem ct_X9_undo (l : Launch) (v : tX_V) (hi : ts_inj 151 (tX_ad v)) (K : Int32 → ts_S → Prop) (σ : ts_S)   (hw : wp_X9_undo K σ ) : ts_Mi l yX9_undo (Cond.code yX9_undo cX9_undo 1 (some .int)) 3 (tX_w v) [.ref (tX_ad v 0)] σ K := by
  refine ts_Mi.of_i (w := tX_w v) hi (by decide +kernel) (Nat.le_of_ble_eq_true rfl) ?_
  intro g hgl hgn X hret
  unfold wp_X9_undo at hw
  show ts_G g (tX_w v) 1 σ 0 [(0, .ref (tX_ad v 0))] []
  refine ts_aload_n X dX9_undo_0 0 rfl ?_
  refine gf_X9_37 X dX9_undo_1 ?_
  refine gf_X9_204 X dX9_undo_4 ?_
  refine ts_if_ne 13 X dX9_undo_7 (by decide) (fun c => ?_) (fun c => ?_)
  · have hw := ts_itn hw c
    refine ts_aload_n X dX9_undo_13 0 rfl ?_
    refine gf_X9_37 X dX9_undo_14 ?_
    refine ts_aload_n X dX9_undo_17 0 rfl ?_
    refine gf_X9_28 X dX9_undo_18 ?_
    refine ts_callVv (w := tX_w v) X (k := 4) (by decide : 4 < 151) rfl rfl rfl (As := [.ref (tX_ad v 31)]) (ct_X1_takeLastInto g.2.1 v hi _ _ _ (tX_Tc 0 (by decide) rfl) hw) ok_X1_takeLastInto cw_X9_207 (ts_le hgn (by decide)) (by decide) rfl rfl (Nat.le_of_ble_eq_true rfl) dX9_undo_21 (fun s4 hw => ?_)
    refine ts_aload_n X dX9_undo_24 0 rfl ?_
    refine gf_X9_37 X dX9_undo_25 ?_
    refine gf_X9_204 X dX9_undo_28 ?_
    exact hret _ _ _ _ hw dX9_undo_31
  · have hw := ts_itp hw c
    refine ts_bipush X dX9_undo_10 (v := (-2)) (by decide) ?_
    exact hret _ _ _ _ hw dX9_undo_12
set_option maxRecDepth 100000 in
set_option maxHeartbeats 4000000 in
theorem ct_X9_behind (l : Launch) (v : tX_V) (hi : ts_inj 151 (tX_ad v)) (K : Int32 → ts_S → Prop) (σ : ts_S) (a1 : Int32) (a2 : Int32) (a3 : Int32)  (hw : wp_X9_behind K σ a1 a2 a3) : ts_Mi l yX9_behind (Cond.code yX9_behind cX9_behind 4 (some .int)) 6 (tX_w v) [.ref (tX_ad v 0), .int a1, .int a2, .int a3] σ K := by
  refine ts_Mi.of_i (w := tX_w v) hi (by decide +kernel) (Nat.le_of_ble_eq_true rfl) ?_
  intro g hgl hgn X hret
  unfold wp_X9_behind at hw
  show ts_G g (tX_w v) 4 σ 0 [(0, .ref (tX_ad v 0)), (1, .int a1), (2, .int a2), (3, .int a3)] []
  refine ts_iload_n X dX9_behind_0 1 rfl ?_
  refine ts_iconst X dX9_behind_1 (v := 0) (by decide) ?_
  refine ts_bipush X dX9_behind_2 (v := 40) (by decide) ?_
  refine ts_callSi X (As := [.int a1, .int 0, .int 40]) (ct_X9_within g.2.1 v hi _ _ _ _ _ hw) ok_X9_within cw_X9_112 (ts_le hgn (by decide)) (by decide) rfl rfl (Nat.le_of_ble_eq_true rfl) dX9_behind_4 (fun r13 s14 hw => ?_)
  refine ts_if_eq 27 X dX9_behind_7 (by decide) (fun c => ?_) (fun c => ?_)
  · have hw := ts_itp hw c
    refine ts_iconst X dX9_behind_27 (v := (-1)) (by decide) ?_
    exact hret _ _ _ _ hw dX9_behind_28
  · have hw := ts_itn hw c
    refine ts_aload_n X dX9_behind_10 0 rfl ?_
    refine ts_iload_n X dX9_behind_11 2 rfl ?_
    refine ts_callVi (w := tX_w v) X (k := 0) (by decide : 0 < 151) rfl rfl rfl (As := [.int a2]) (ct_X9_isPerson g.2.1 v hi _ _ _ hw) ok_X9_isPerson cw_X9_126 (ts_le hgn (by decide)) (by decide) rfl rfl (Nat.le_of_ble_eq_true rfl) dX9_behind_12 (fun r15 s16 hw => ?_)
    refine ts_if_eq 27 X dX9_behind_15 (by decide) (fun c => ?_) (fun c => ?_)
    · have hw := ts_itp hw c
      refine ts_iconst X dX9_behind_27 (v := (-1)) (by decide) ?_
      exact hret _ _ _ _ hw dX9_behind_28
    · have hw := ts_itn hw c
      refine ts_iload_n X dX9_behind_18 3 rfl ?_
      refine ts_iconst X dX9_behind_19 (v := 0) (by decide) ?_
      refine ts_iconst X dX9_behind_20 (v := 1) (by decide) ?_
      refine ts_callSi X (As := [.int a3, .int 0, .int 1]) (ct_X9_within g.2.1 v hi _ _ _ _ _ hw) ok_X9_within cw_X9_112 (ts_le hgn (by decide)) (by decide) rfl rfl (Nat.le_of_ble_eq_true rfl) dX9_behind_21 (fun r17 s18 hw => ?_)
      refine ts_if_ne 29 X dX9_behind_24 (by decide) (fun c => ?_) (fun c => ?_)
      · have hw := ts_itn hw c
        refine ts_aload_n X dX9_behind_29 0 rfl ?_
        refine gf_X9_31 X dX9_behind_30 ?_
        refine ts_aload_n X dX9_behind_33 0 rfl ?_
        refine gf_X9_28 X dX9_behind_34 ?_
        refine ts_callVv (w := tX_w v) X (k := 43) ((tX_Tc 2 (by decide) rfl)).lt (tX_eT (tX_Tc 2 (by decide) rfl) _) rfl rfl (As := [.ref (tX_ad v 31)]) (ct_X8_standAs g.2.1 v hi _ _ _ _ (tX_Tc 2 (by decide) rfl) (tX_Tc 0 (by decide) rfl) hw) ok_X8_standAs cw_X9_210 (ts_le hgn (by decide)) (by decide) rfl rfl (Nat.le_of_ble_eq_true rfl) dX9_behind_37 (fun s20 hw => ?_)
        refine ts_aload_n X dX9_behind_40 0 rfl ?_
        refine gf_X9_31 X dX9_behind_41 ?_
        refine ts_iload_n X dX9_behind_44 1 rfl ?_
        refine ts_callVv (w := tX_w v) X (k := 43) ((tX_Tc 2 (by decide) rfl)).lt (tX_eT (tX_Tc 2 (by decide) rfl) _) rfl rfl (As := [.int a1]) (ct_X8_goYears g.2.1 v hi _ _ _ _ (tX_Tc 2 (by decide) rfl) hw) ok_X8_goYears cw_X9_185 (ts_le hgn (by decide)) (by decide) rfl rfl (Nat.le_of_ble_eq_true rfl) dX9_behind_45 (fun s22 hw => ?_)
        refine ts_iload_n X dX9_behind_48 3 rfl ?_
        refine ts_if_ne 67 X dX9_behind_49 (by decide) (fun c => ?_) (fun c => ?_)
        · have hw := ts_itn hw c
          refine ts_aload_n X dX9_behind_67 0 rfl ?_
          refine gf_X9_31 X dX9_behind_68 ?_
          refine gf_X9_140 X (tX_Tc 2 (by decide) rfl) (q := 46) rfl dX9_behind_71 ?_
          refine ts_iload_n X dX9_behind_74 2 rfl ?_
          refine xi_ald X (tX_a3 (tX_Tc 2 (by decide) rfl) rfl) hw.1 dX9_behind_75 ?_
          have hw := hw.2
          exact hret _ _ _ _ hw dX9_behind_76
        · have hw := ts_itp hw c
          refine ts_aload_n X dX9_behind_52 0 rfl ?_
          refine gf_X9_31 X dX9_behind_53 ?_
          refine gf_X9_154 X (tX_Tc 2 (by decide) rfl) (q := 47) rfl dX9_behind_56 ?_
          refine ts_iload_n X dX9_behind_59 2 rfl ?_
          refine xz_ald X (tX_a4 (tX_Tc 2 (by decide) rfl) rfl) hw.1 dX9_behind_60 ?_
          have hw := hw.2
          refine ts_callSi X (As := [.int (s22 47 a2.toNatClampNeg)]) (ct_X9_asNumber g.2.1 v hi _ _ _ hw) ok_X9_asNumber cw_X9_150 (ts_le hgn (by decide)) (by decide) rfl rfl (Nat.le_of_ble_eq_true rfl) dX9_behind_61 (fun r23 s24 hw => ?_)
          refine ts_goto 76 X dX9_behind_64 (by decide) ?_
          exact hret _ _ _ _ hw dX9_behind_76
      · have hw := ts_itp hw c
        refine ts_iconst X dX9_behind_27 (v := (-1)) (by decide) ?_
        exact hret _ _ _ _ hw dX9_behind_28
set_option maxRecDepth 100000 in
set_option maxHeartbeats 4000000 in
theorem ct_X9_lowest (l : Launch) (v : tX_V) (hi : ts_inj 151 (tX_ad v)) (K : Int32 → ts_S → Prop) (σ : ts_S) (a1 : Int32)  (hw : wp_X9_lowest K σ a1) : ts_Mi l yX9_lowest (Cond.code yX9_lowest cX9_lowest 3 (some .int)) 4 (tX_w v) [.ref (tX_ad v 0), .int a1] σ K := by
  refine ts_Mi.of_i (w := tX_w v) hi (by decide +kernel) (Nat.le_of_ble_eq_true rfl) ?_
  intro g hgl hgn X hret
  have J34 : ∀ (σ : ts_S) (x2 : Int32), wp_X9_lowest_l34 K a1 σ x2 → ts_G g (tX_w v) 3 σ 34 [(0, .ref (tX_ad v 0)), (1, .int a1), (2, .int x2)] [] := by
    intro  σ x2 hw
    have key : ∀ X34 : ts_S → Int32 → Prop, (∀ (σ : ts_S) (x2 : Int32), X34 σ x2 → ts_G g (tX_w v) 3 σ 34 [(0, .ref (tX_ad v 0)), (1, .int a1), (2, .int x2)] []) → ∀ (σ : ts_S) (x2 : Int32), wp_X9_lowest_b34 K X34 a1  σ x2 → ts_G g (tX_w v) 3 σ 34 [(0, .ref (tX_ad v 0)), (1, .int a1), (2, .int x2)] [] := by
      intro X34 hX34
      intro σ x2 hw
      unfold wp_X9_lowest_b34 at hw
      refine ts_iload_n X dX9_lowest_34 2 rfl ?_
      refine ts_if_le 67 X dX9_lowest_35 (by decide) (fun c => ?_) (fun c => ?_)
      · have hw := ts_itp hw c
        refine ts_iload_n X dX9_lowest_67 2 rfl ?_
        exact hret _ _ _ _ hw dX9_lowest_68
      · have hw := ts_itn hw c
        refine ts_aload_n X dX9_lowest_38 0 rfl ?_
        refine gf_X9_28 X dX9_lowest_39 ?_
        refine ts_iload_n X dX9_lowest_42 1 rfl ?_
        refine ts_iload_n X dX9_lowest_43 2 rfl ?_
        refine ts_iconst X dX9_lowest_44 (v := 1) (by decide) ?_
        refine ts_isub X dX9_lowest_45 ?_
        refine ts_callVi (w := tX_w v) X (k := 31) ((tX_Tc 0 (by decide) rfl)).lt (tX_eT (tX_Tc 0 (by decide) rfl) _) rfl rfl (As := [.int a1, .int (x2 - 1)]) (ct_X8_fearOn g.2.1 v hi _ _ _ _ _ (tX_Tc 0 (by decide) rfl) hw) ok_X8_fearOn cw_X9_143 (ts_le hgn (by decide)) (by decide) rfl rfl (Nat.le_of_ble_eq_true rfl) dX9_lowest_46 (fun r7 s8 hw => ?_)
        refine ts_aload_n X dX9_lowest_49 0 rfl ?_
        refine gf_X9_28 X dX9_lowest_50 ?_
        refine gf_X9_140 X (tX_Tc 0 (by decide) rfl) (q := 34) rfl dX9_lowest_53 ?_
        refine ts_iload_n X dX9_lowest_56 1 rfl ?_
        refine xi_ald X (tX_a3 (tX_Tc 0 (by decide) rfl) rfl) hw.1 dX9_lowest_57 ?_
        have hw := hw.2
        refine ts_icmp_gt 67 X dX9_lowest_58 (by decide) (fun c => ?_) (fun c => ?_)
        · have hw := ts_itp hw c
          refine ts_iload_n X dX9_lowest_67 2 rfl ?_
          exact hret _ _ _ _ hw dX9_lowest_68
        · have hw := ts_itn hw c
          refine ts_iinc X dX9_lowest_61 2 rfl (v := x2 + (-1)) rfl (by decide) (lv' := [(2, .int (x2 + (-1))), (0, .ref (tX_ad v 0)), (1, .int a1)]) rfl ?_
          refine ts_goto 34 X dX9_lowest_64 (by decide) ?_
          exact ts_sub [1, 2, 0] rfl (hX34 _ _ hw)
    exact hw _ (fun σ x2 h => key _ (fun _ _ h => h) σ x2 h)
  unfold wp_X9_lowest at hw
  show ts_G g (tX_w v) 3 σ 0 [(0, .ref (tX_ad v 0)), (1, .int a1)] []
  refine ts_aload_n X dX9_lowest_0 0 rfl ?_
  refine ts_iload_n X dX9_lowest_1 1 rfl ?_
  refine ts_callVi (w := tX_w v) X (k := 0) (by decide : 0 < 151) rfl rfl rfl (As := [.int a1]) (ct_X9_isPerson g.2.1 v hi _ _ _ hw) ok_X9_isPerson cw_X9_126 (ts_le hgn (by decide)) (by decide) rfl rfl (Nat.le_of_ble_eq_true rfl) dX9_lowest_2 (fun r9 s10 hw => ?_)
  refine ts_if_ne 10 X dX9_lowest_5 (by decide) (fun c => ?_) (fun c => ?_)
  · have hw := ts_itn hw c
    refine ts_aload_n X dX9_lowest_10 0 rfl ?_
    refine gf_X9_28 X dX9_lowest_11 ?_
    refine ts_iload_n X dX9_lowest_14 1 rfl ?_
    refine ts_callVi (w := tX_w v) X (k := 31) ((tX_Tc 0 (by decide) rfl)).lt (tX_eT (tX_Tc 0 (by decide) rfl) _) rfl rfl (As := [.int a1]) (ct_X8_isSteady g.2.1 v hi _ _ _ _ (tX_Tc 0 (by decide) rfl) hw) ok_X8_isSteady cw_X9_213 (ts_le hgn (by decide)) (by decide) rfl rfl (Nat.le_of_ble_eq_true rfl) dX9_lowest_15 (fun r11 s12 hw => ?_)
    refine ts_if_ne 24 X dX9_lowest_18 (by decide) (fun c => ?_) (fun c => ?_)
    · have hw := ts_itn hw c
      refine ts_aload_n X dX9_lowest_24 0 rfl ?_
      refine gf_X9_28 X dX9_lowest_25 ?_
      refine gf_X9_134 X (tX_Tc 0 (by decide) rfl) (q := 32) rfl dX9_lowest_28 ?_
      refine ts_iload_n X dX9_lowest_31 1 rfl ?_
      refine xi_ald X (tX_a1 (tX_Tc 0 (by decide) rfl) rfl) hw.1 dX9_lowest_32 ?_
      have hw := hw.2
      refine ts_istore_n X dX9_lowest_33 (by decide) (lv' := [(2, .int (s12 32 a1.toNatClampNeg)), (0, .ref (tX_ad v 0)), (1, .int a1)]) rfl ?_
      exact ts_sub [1, 2, 0] rfl (J34  _ _ hw)
    · have hw := ts_itp hw c
      refine ts_bipush X dX9_lowest_21 (v := (-2)) (by decide) ?_
      exact hret _ _ _ _ hw dX9_lowest_23
  · have hw := ts_itp hw c
    refine ts_iconst X dX9_lowest_8 (v := (-1)) (by decide) ?_
    exact hret _ _ _ _ hw dX9_lowest_9
set_option maxRecDepth 100000 in
set_option maxHeartbeats 4000000 in
theorem ct_X9_posting (l : Launch) (v : tX_V) (hi : ts_inj 151 (tX_ad v)) (K : Int32 → ts_S → Prop) (σ : ts_S) (a1 : Int32)  (hw : wp_X9_posting K σ a1) : ts_Mi l yX9_posting (Cond.code yX9_posting cX9_posting 2 (some .int)) 30 (tX_w v) [.ref (tX_ad v 0), .int a1] σ K := by
  refine ts_Mi.of_i (w := tX_w v) hi (by decide +kernel) (Nat.le_of_ble_eq_true rfl) ?_
  intro g hgl hgn X hret
  have J15 : ∀ (σ : ts_S), wp_X9_posting_j15 K a1 σ  → ts_G g (tX_w v) 2 σ 15 [(0, .ref (tX_ad v 0)), (1, .int a1)] [] := by
    intro  σ  hw
    unfold wp_X9_posting_j15 at hw
    refine ts_aload_n X dX9_posting_15 0 rfl ?_
    refine gf_X9_61 X dX9_posting_16 ?_
    refine ts_aload_n X dX9_posting_19 0 rfl ?_
    refine gf_X9_28 X dX9_posting_20 ?_
    refine ts_callVv (w := tX_w v) X (k := 11) (by decide : 11 < 151) rfl rfl rfl (As := [.ref (tX_ad v 31)]) (ct_X3_search g.2.1 v hi _ _ _ (tX_Tc 0 (by decide) rfl) hw) ok_X3_search cw_X9_216 (ts_le hgn (by decide)) (by decide) rfl rfl (Nat.le_of_ble_eq_true rfl) dX9_posting_23 (fun s6 hw => ?_)
    refine ts_aload_n X dX9_posting_26 0 rfl ?_
    refine gf_X9_61 X dX9_posting_27 ?_
    refine gf_X9_219 X dX9_posting_30 ?_
    refine ts_if_ge 39 X dX9_posting_33 (by decide) (fun c => ?_) (fun c => ?_)
    · have hw := ts_itp hw c
      refine ts_iload_n X dX9_posting_39 1 rfl ?_
      refine ts_iconst X dX9_posting_40 (v := (-1)) (by decide) ?_
      refine ts_icmp_ne 54 X dX9_posting_41 (by decide) (fun c => ?_) (fun c => ?_)
      · have hw := ts_itn hw c
        refine ts_aload_n X dX9_posting_54 0 rfl ?_
        refine gf_X9_61 X dX9_posting_55 ?_
        refine gf_X9_222 X dX9_posting_58 ?_
        refine ts_iload_n X dX9_posting_61 1 rfl ?_
        refine xi_ald X tX_c15 hw.1 dX9_posting_62 ?_
        have hw := hw.2
        exact hret _ _ _ _ hw dX9_posting_63
      · have hw := ts_itp hw c
        refine ts_aload_n X dX9_posting_44 0 rfl ?_
        refine gf_X9_61 X dX9_posting_45 ?_
        refine gf_X9_219 X dX9_posting_48 ?_
        refine ts_goto 63 X dX9_posting_51 (by decide) ?_
        exact hret _ _ _ _ hw dX9_posting_63
    · have hw := ts_itn hw c
      refine ts_bipush X dX9_posting_36 (v := (-4)) (by decide) ?_
      exact hret _ _ _ _ hw dX9_posting_38
  unfold wp_X9_posting at hw
  show ts_G g (tX_w v) 2 σ 0 [(0, .ref (tX_ad v 0)), (1, .int a1)] []
  refine ts_iload_n X dX9_posting_0 1 rfl ?_
  refine ts_iconst X dX9_posting_1 (v := (-1)) (by decide) ?_
  refine ts_icmp_eq 15 X dX9_posting_2 (by decide) (fun c => ?_) (fun c => ?_)
  · have hw := ts_itp hw c
    exact ts_sub [0, 1] rfl (J15  _  hw)
  · have hw := ts_itn hw c
    refine ts_aload_n X dX9_posting_5 0 rfl ?_
    refine ts_iload_n X dX9_posting_6 1 rfl ?_
    refine ts_callVi (w := tX_w v) X (k := 0) (by decide : 0 < 151) rfl rfl rfl (As := [.int a1]) (ct_X9_isPerson g.2.1 v hi _ _ _ hw) ok_X9_isPerson cw_X9_126 (ts_le hgn (by decide)) (by decide) rfl rfl (Nat.le_of_ble_eq_true rfl) dX9_posting_7 (fun r7 s8 hw => ?_)
    refine ts_if_ne 15 X dX9_posting_10 (by decide) (fun c => ?_) (fun c => ?_)
    · have hw := ts_itn hw c
      exact ts_sub [0, 1] rfl (J15  _  hw)
    · have hw := ts_itp hw c
      refine ts_iconst X dX9_posting_13 (v := (-1)) (by decide) ?_
      exact hret _ _ _ _ hw dX9_posting_14
set_option maxRecDepth 100000 in
set_option maxHeartbeats 4000000 in
theorem ct_X9_timetable (l : Launch) (v : tX_V) (hi : ts_inj 151 (tX_ad v)) (K : Int32 → ts_S → Prop) (σ : ts_S) (a1 : Int32) (a2 : Int32)  (hw : wp_X9_timetable K σ a1 a2) : ts_Mi l yX9_timetable (Cond.code yX9_timetable cX9_timetable 3 (some .int)) 30 (tX_w v) [.ref (tX_ad v 0), .int a1, .int a2] σ K := by
  refine ts_Mi.of_i (w := tX_w v) hi (by decide +kernel) (Nat.le_of_ble_eq_true rfl) ?_
  intro g hgl hgn X hret
  unfold wp_X9_timetable at hw
  show ts_G g (tX_w v) 3 σ 0 [(0, .ref (tX_ad v 0)), (1, .int a1), (2, .int a2)] []
  refine ts_iload_n X dX9_timetable_0 1 rfl ?_
  refine ts_iconst X dX9_timetable_1 (v := 1) (by decide) ?_
  refine ts_iconst X dX9_timetable_2 (v := 4) (by decide) ?_
  refine ts_callSi X (As := [.int a1, .int 1, .int 4]) (ct_X9_within g.2.1 v hi _ _ _ _ _ hw) ok_X9_within cw_X9_112 (ts_le hgn (by decide)) (by decide) rfl rfl (Nat.le_of_ble_eq_true rfl) dX9_timetable_3 (fun r7 s8 hw => ?_)
  refine ts_if_eq 18 X dX9_timetable_6 (by decide) (fun c => ?_) (fun c => ?_)
  · have hw := ts_itp hw c
    refine ts_iconst X dX9_timetable_18 (v := (-1)) (by decide) ?_
    exact hret _ _ _ _ hw dX9_timetable_19
  · have hw := ts_itn hw c
    refine ts_iload_n X dX9_timetable_9 2 rfl ?_
    refine ts_iconst X dX9_timetable_10 (v := (-1)) (by decide) ?_
    refine ts_iconst X dX9_timetable_11 (v := 3) (by decide) ?_
    refine ts_callSi X (As := [.int a2, .int (-1), .int 3]) (ct_X9_within g.2.1 v hi _ _ _ _ _ hw) ok_X9_within cw_X9_112 (ts_le hgn (by decide)) (by decide) rfl rfl (Nat.le_of_ble_eq_true rfl) dX9_timetable_12 (fun r9 s10 hw => ?_)
    refine ts_if_ne 20 X dX9_timetable_15 (by decide) (fun c => ?_) (fun c => ?_)
    · have hw := ts_itn hw c
      refine ts_aload_n X dX9_timetable_20 0 rfl ?_
      refine gf_X9_68 X dX9_timetable_21 ?_
      refine ts_aload_n X dX9_timetable_24 0 rfl ?_
      refine gf_X9_28 X dX9_timetable_25 ?_
      refine ts_iload_n X dX9_timetable_28 1 rfl ?_
      refine ts_callVv (w := tX_w v) X (k := 16) (by decide : 16 < 151) rfl rfl rfl (As := [.ref (tX_ad v 31), .int a1]) (ct_X7_search g.2.1 v hi _ _ _ _ (tX_Tc 0 (by decide) rfl) hw) ok_X7_search cw_X9_225 (ts_le hgn (by decide)) (by decide) rfl rfl (Nat.le_of_ble_eq_true rfl) dX9_timetable_29 (fun s12 hw => ?_)
      refine ts_iload_n X dX9_timetable_32 2 rfl ?_
      refine ts_iconst X dX9_timetable_33 (v := (-1)) (by decide) ?_
      refine ts_icmp_ne 45 X dX9_timetable_34 (by decide) (fun c => ?_) (fun c => ?_)
      · have hw := ts_itn hw c
        refine ts_iload_n X dX9_timetable_45 2 rfl ?_
        refine ts_iload_n X dX9_timetable_46 1 rfl ?_
        refine ts_icmp_ge 62 X dX9_timetable_47 (by decide) (fun c => ?_) (fun c => ?_)
        · have hw := ts_itp hw c
          refine ts_bipush X dX9_timetable_62 (v := (-4)) (by decide) ?_
          exact hret _ _ _ _ hw dX9_timetable_64
        · have hw := ts_itn hw c
          refine ts_aload_n X dX9_timetable_50 0 rfl ?_
          refine gf_X9_68 X dX9_timetable_51 ?_
          refine gf_X9_229 X dX9_timetable_54 ?_
          refine ts_iload_n X dX9_timetable_57 2 rfl ?_
          refine xi_ald X tX_c19 hw.1 dX9_timetable_58 ?_
          have hw := hw.2
          refine ts_goto 64 X dX9_timetable_59 (by decide) ?_
          exact hret _ _ _ _ hw dX9_timetable_64
      · have hw := ts_itp hw c
        refine ts_aload_n X dX9_timetable_37 0 rfl ?_
        refine gf_X9_68 X dX9_timetable_38 ?_
        refine gf_X9_228 X dX9_timetable_41 ?_
        exact hret _ _ _ _ hw dX9_timetable_44
    · have hw := ts_itp hw c
      refine ts_iconst X dX9_timetable_18 (v := (-1)) (by decide) ?_
      exact hret _ _ _ _ hw dX9_timetable_19
set_option maxRecDepth 100000 in
set_option maxHeartbeats 4000000 in
theorem ct_X9_swap (l : Launch) (v : tX_V) (hi : ts_inj 151 (tX_ad v)) (K : Int32 → ts_S → Prop) (σ : ts_S) (a1 : Int32)  (hw : wp_X9_swap K σ a1) : ts_Mi l yX9_swap (Cond.code yX9_swap cX9_swap 2 (some .int)) 8 (tX_w v) [.ref (tX_ad v 0), .int a1] σ K := by
  refine ts_Mi.of_i (w := tX_w v) hi (by decide +kernel) (Nat.le_of_ble_eq_true rfl) ?_
  intro g hgl hgn X hret
  unfold wp_X9_swap at hw
  show ts_G g (tX_w v) 2 σ 0 [(0, .ref (tX_ad v 0)), (1, .int a1)] []
  refine ts_iload_n X dX9_swap_0 1 rfl ?_
  refine ts_iconst X dX9_swap_1 (v := 0) (by decide) ?_
  refine ts_iconst X dX9_swap_2 (v := 1) (by decide) ?_
  refine ts_callSi X (As := [.int a1, .int 0, .int 1]) (ct_X9_within g.2.1 v hi _ _ _ _ _ hw) ok_X9_within cw_X9_112 (ts_le hgn (by decide)) (by decide) rfl rfl (Nat.le_of_ble_eq_true rfl) dX9_swap_3 (fun r5 s6 hw => ?_)
  refine ts_if_ne 11 X dX9_swap_6 (by decide) (fun c => ?_) (fun c => ?_)
  · have hw := ts_itn hw c
    refine ts_aload_n X dX9_swap_11 0 rfl ?_
    refine gf_X9_75 X dX9_swap_12 ?_
    refine ts_aload_n X dX9_swap_15 0 rfl ?_
    refine gf_X9_28 X dX9_swap_16 ?_
    refine ts_callVv (w := tX_w v) X (k := 20) (by decide : 20 < 151) rfl rfl rfl (As := [.ref (tX_ad v 31)]) (ct_X5_search g.2.1 v hi _ _ _ (tX_Tc 0 (by decide) rfl) hw) ok_X5_search cw_X9_230 (ts_le hgn (by decide)) (by decide) rfl rfl (Nat.le_of_ble_eq_true rfl) dX9_swap_19 (fun s8 hw => ?_)
    refine ts_aload_n X dX9_swap_22 0 rfl ?_
    refine gf_X9_75 X dX9_swap_23 ?_
    refine gf_X9_231 X dX9_swap_26 ?_
    refine ts_if_ge 35 X dX9_swap_29 (by decide) (fun c => ?_) (fun c => ?_)
    · have hw := ts_itp hw c
      refine ts_iload_n X dX9_swap_35 1 rfl ?_
      refine ts_if_ne 49 X dX9_swap_36 (by decide) (fun c => ?_) (fun c => ?_)
      · have hw := ts_itn hw c
        refine ts_aload_n X dX9_swap_49 0 rfl ?_
        refine gf_X9_75 X dX9_swap_50 ?_
        refine gf_X9_231 X dX9_swap_53 ?_
        exact hret _ _ _ _ hw dX9_swap_56
      · have hw := ts_itp hw c
        refine ts_aload_n X dX9_swap_39 0 rfl ?_
        refine gf_X9_75 X dX9_swap_40 ?_
        refine gf_X9_232 X dX9_swap_43 ?_
        refine ts_goto 56 X dX9_swap_46 (by decide) ?_
        exact hret _ _ _ _ hw dX9_swap_56
    · have hw := ts_itn hw c
      refine ts_bipush X dX9_swap_32 (v := (-4)) (by decide) ?_
      exact hret _ _ _ _ hw dX9_swap_34
  · have hw := ts_itp hw c
    refine ts_iconst X dX9_swap_9 (v := (-1)) (by decide) ?_
    exact hret _ _ _ _ hw dX9_swap_10
set_option maxRecDepth 100000 in
set_option maxHeartbeats 4000000 in
theorem ct_X9_can (l : Launch) (v : tX_V) (hi : ts_inj 151 (tX_ad v)) (K : Int32 → ts_S → Prop) (σ : ts_S) (a1 : Int32) (a2 : Int32) (a3 : Int32)  (hw : wp_X9_can K σ a1 a2 a3) : ts_Mi l yX9_can (Cond.code yX9_can cX9_can 4 (some .int)) 7 (tX_w v) [.ref (tX_ad v 0), .int a1, .int a2, .int a3] σ K := by
  refine ts_Mi.of_i (w := tX_w v) hi (by decide +kernel) (Nat.le_of_ble_eq_true rfl) ?_
  intro g hgl hgn X hret
  unfold wp_X9_can at hw
  show ts_G g (tX_w v) 4 σ 0 [(0, .ref (tX_ad v 0)), (1, .int a1), (2, .int a2), (3, .int a3)] []
  refine ts_aload_n X dX9_can_0 0 rfl ?_
  refine ts_iload_n X dX9_can_1 1 rfl ?_
  refine ts_callVi (w := tX_w v) X (k := 0) (by decide : 0 < 151) rfl rfl rfl (As := [.int a1]) (ct_X9_isStep g.2.1 v hi _ _ _ hw) ok_X9_isStep cw_X9_161 (ts_le hgn (by decide)) (by decide) rfl rfl (Nat.le_of_ble_eq_true rfl) dX9_can_2 (fun r9 s10 hw => ?_)
  refine ts_if_eq 25 X dX9_can_5 (by decide) (fun c => ?_) (fun c => ?_)
  · have hw := ts_itp hw c
    refine ts_iconst X dX9_can_25 (v := (-1)) (by decide) ?_
    exact hret _ _ _ _ hw dX9_can_26
  · have hw := ts_itn hw c
    refine ts_aload_n X dX9_can_8 0 rfl ?_
    refine ts_iload_n X dX9_can_9 2 rfl ?_
    refine ts_callVi (w := tX_w v) X (k := 0) (by decide : 0 < 151) rfl rfl rfl (As := [.int a2]) (ct_X9_isStep g.2.1 v hi _ _ _ hw) ok_X9_isStep cw_X9_161 (ts_le hgn (by decide)) (by decide) rfl rfl (Nat.le_of_ble_eq_true rfl) dX9_can_10 (fun r11 s12 hw => ?_)
    refine ts_if_eq 25 X dX9_can_13 (by decide) (fun c => ?_) (fun c => ?_)
    · have hw := ts_itp hw c
      refine ts_iconst X dX9_can_25 (v := (-1)) (by decide) ?_
      exact hret _ _ _ _ hw dX9_can_26
    · have hw := ts_itn hw c
      refine ts_iload_n X dX9_can_16 3 rfl ?_
      refine ts_iconst X dX9_can_17 (v := 0) (by decide) ?_
      refine ts_iconst X dX9_can_18 (v := 1) (by decide) ?_
      refine ts_callSi X (As := [.int a3, .int 0, .int 1]) (ct_X9_within g.2.1 v hi _ _ _ _ _ hw) ok_X9_within cw_X9_112 (ts_le hgn (by decide)) (by decide) rfl rfl (Nat.le_of_ble_eq_true rfl) dX9_can_19 (fun r13 s14 hw => ?_)
      refine ts_if_ne 27 X dX9_can_22 (by decide) (fun c => ?_) (fun c => ?_)
      · have hw := ts_itn hw c
        refine ts_aload_n X dX9_can_27 0 rfl ?_
        refine gf_X9_82 X dX9_can_28 ?_
        refine ts_aload_n X dX9_can_31 0 rfl ?_
        refine gf_X9_28 X dX9_can_32 ?_
        refine ts_iload_n X dX9_can_35 1 rfl ?_
        refine ts_iload_n X dX9_can_36 2 rfl ?_
        refine ts_callVv (w := tX_w v) X (k := 21) (by decide : 21 < 151) rfl rfl rfl (As := [.ref (tX_ad v 31), .int a1, .int a2]) (ct_X0_search g.2.1 v hi _ _ _ _ _ (tX_Tc 0 (by decide) rfl) hw) ok_X0_search cw_X9_235 (ts_le hgn (by decide)) (by decide) rfl rfl (Nat.le_of_ble_eq_true rfl) dX9_can_37 (fun s16 hw => ?_)
        refine ts_aload_n X dX9_can_40 0 rfl ?_
        refine gf_X9_82 X dX9_can_41 ?_
        refine gf_X9_238 X dX9_can_44 ?_
        refine ts_if_ge 53 X dX9_can_47 (by decide) (fun c => ?_) (fun c => ?_)
        · have hw := ts_itp hw c
          refine ts_iload_n X dX9_can_53 3 rfl ?_
          refine ts_if_ne 67 X dX9_can_54 (by decide) (fun c => ?_) (fun c => ?_)
          · have hw := ts_itn hw c
            refine ts_aload_n X dX9_can_67 0 rfl ?_
            refine gf_X9_82 X dX9_can_68 ?_
            refine gf_X9_238 X dX9_can_71 ?_
            exact hret _ _ _ _ hw dX9_can_74
          · have hw := ts_itp hw c
            refine ts_aload_n X dX9_can_57 0 rfl ?_
            refine gf_X9_82 X dX9_can_58 ?_
            refine gf_X9_241 X dX9_can_61 ?_
            refine ts_goto 74 X dX9_can_64 (by decide) ?_
            exact hret _ _ _ _ hw dX9_can_74
        · have hw := ts_itn hw c
          refine ts_bipush X dX9_can_50 (v := (-4)) (by decide) ?_
          exact hret _ _ _ _ hw dX9_can_52
      · have hw := ts_itp hw c
        refine ts_iconst X dX9_can_25 (v := (-1)) (by decide) ?_
        exact hret _ _ _ _ hw dX9_can_26
set_option maxRecDepth 100000 in
set_option maxHeartbeats 4000000 in
theorem ct_X9_seen (l : Launch) (v : tX_V) (hi : ts_inj 151 (tX_ad v)) (K : Int32 → ts_S → Prop) (σ : ts_S) (a1 : Int32) (a2 : Int32) (a3 : Int32)  (hw : wp_X9_seen K σ a1 a2 a3) : ts_Mi l yX9_seen (Cond.code yX9_seen cX9_seen 4 (some .int)) 3 (tX_w v) [.ref (tX_ad v 0), .int a1, .int a2, .int a3] σ K := by
  refine ts_Mi.of_i (w := tX_w v) hi (by decide +kernel) (Nat.le_of_ble_eq_true rfl) ?_
  intro g hgl hgn X hret
  have J43 : ∀ (σ : ts_S) (y0 : Int32) (y1 : Int32) (y2 : Int32), wp_X9_seen_j43 K a1 a2 a3 σ y0 y1 y2 → ts_G g (tX_w v) 4 σ 43 [(0, .ref (tX_ad v 0))] [.int y0, .int y1, .int y2, .ref (tX_ad v 7)] := by
    intro  σ y0 y1 y2 hw
    unfold wp_X9_seen_j43 at hw
    refine ts_callVi (w := tX_w v) X (k := 7) (by decide : 7 < 151) rfl rfl rfl (As := [.int y2, .int y1, .int y0]) (ct_X4_add g.2.1 v hi _ _ _ _ _ hw) ok_X4_add cw_X9_244 (ts_le hgn (by decide)) (by decide) rfl rfl (Nat.le_of_ble_eq_true rfl) dX9_seen_43 (fun r9 s10 hw => ?_)
    refine ts_if_eq 59 X dX9_seen_46 (by decide) (fun c => ?_) (fun c => ?_)
    · have hw := ts_itp hw c
      refine ts_bipush X dX9_seen_59 (v := (-3)) (by decide) ?_
      exact hret _ _ _ _ hw dX9_seen_61
    · have hw := ts_itn hw c
      refine ts_aload_n X dX9_seen_49 0 rfl ?_
      refine gf_X9_52 X dX9_seen_50 ?_
      refine gf_X9_247 X dX9_seen_53 ?_
      refine ts_goto 61 X dX9_seen_56 (by decide) ?_
      exact hret _ _ _ _ hw dX9_seen_61
  unfold wp_X9_seen at hw
  show ts_G g (tX_w v) 4 σ 0 [(0, .ref (tX_ad v 0)), (1, .int a1), (2, .int a2), (3, .int a3)] []
  refine ts_aload_n X dX9_seen_0 0 rfl ?_
  refine ts_iload_n X dX9_seen_1 1 rfl ?_
  refine ts_callVi (w := tX_w v) X (k := 0) (by decide : 0 < 151) rfl rfl rfl (As := [.int a1]) (ct_X9_isPerson g.2.1 v hi _ _ _ hw) ok_X9_isPerson cw_X9_126 (ts_le hgn (by decide)) (by decide) rfl rfl (Nat.le_of_ble_eq_true rfl) dX9_seen_2 (fun r11 s12 hw => ?_)
  refine ts_if_eq 25 X dX9_seen_5 (by decide) (fun c => ?_) (fun c => ?_)
  · have hw := ts_itp hw c
    refine ts_iconst X dX9_seen_25 (v := (-1)) (by decide) ?_
    exact hret _ _ _ _ hw dX9_seen_26
  · have hw := ts_itn hw c
    refine ts_aload_n X dX9_seen_8 0 rfl ?_
    refine ts_iload_n X dX9_seen_9 2 rfl ?_
    refine ts_callVi (w := tX_w v) X (k := 0) (by decide : 0 < 151) rfl rfl rfl (As := [.int a2]) (ct_X9_isStep g.2.1 v hi _ _ _ hw) ok_X9_isStep cw_X9_161 (ts_le hgn (by decide)) (by decide) rfl rfl (Nat.le_of_ble_eq_true rfl) dX9_seen_10 (fun r13 s14 hw => ?_)
    refine ts_if_eq 25 X dX9_seen_13 (by decide) (fun c => ?_) (fun c => ?_)
    · have hw := ts_itp hw c
      refine ts_iconst X dX9_seen_25 (v := (-1)) (by decide) ?_
      exact hret _ _ _ _ hw dX9_seen_26
    · have hw := ts_itn hw c
      refine ts_iload_n X dX9_seen_16 3 rfl ?_
      refine ts_iconst X dX9_seen_17 (v := 0) (by decide) ?_
      refine ts_iconst X dX9_seen_18 (v := 1) (by decide) ?_
      refine ts_callSi X (As := [.int a3, .int 0, .int 1]) (ct_X9_within g.2.1 v hi _ _ _ _ _ hw) ok_X9_within cw_X9_112 (ts_le hgn (by decide)) (by decide) rfl rfl (Nat.le_of_ble_eq_true rfl) dX9_seen_19 (fun r15 s16 hw => ?_)
      refine ts_if_ne 27 X dX9_seen_22 (by decide) (fun c => ?_) (fun c => ?_)
      · have hw := ts_itn hw c
        refine ts_aload_n X dX9_seen_27 0 rfl ?_
        refine gf_X9_52 X dX9_seen_28 ?_
        refine ts_iload_n X dX9_seen_31 1 rfl ?_
        refine ts_iload_n X dX9_seen_32 2 rfl ?_
        refine ts_iload_n X dX9_seen_33 3 rfl ?_
        refine ts_iconst X dX9_seen_34 (v := 1) (by decide) ?_
        refine ts_icmp_ne 42 X dX9_seen_35 (by decide) (fun c => ?_) (fun c => ?_)
        · have hw := ts_itn hw c
          refine ts_iconst X dX9_seen_42 (v := 0) (by decide) ?_
          exact ts_sub [0] rfl (J43  _ _ _ _ hw)
        · have hw := ts_itp hw c
          refine ts_iconst X dX9_seen_38 (v := 1) (by decide) ?_
          refine ts_goto 43 X dX9_seen_39 (by decide) ?_
          exact ts_sub [0] rfl (J43  _ _ _ _ hw)
      · have hw := ts_itp hw c
        refine ts_iconst X dX9_seen_25 (v := (-1)) (by decide) ?_
        exact hret _ _ _ _ hw dX9_seen_26
set_option maxRecDepth 100000 in
set_option maxHeartbeats 4000000 in
theorem ct_X9_forget (l : Launch) (v : tX_V) (hi : ts_inj 151 (tX_ad v)) (K : Int32 → ts_S → Prop) (σ : ts_S)   (hw : wp_X9_forget K σ ) : ts_Mi l yX9_forget (Cond.code yX9_forget cX9_forget 2 (some .int)) 2 (tX_w v) [.ref (tX_ad v 0)] σ K := by
  refine ts_Mi.of_i (w := tX_w v) hi (by decide +kernel) (Nat.le_of_ble_eq_true rfl) ?_
  intro g hgl hgn X hret
  unfold wp_X9_forget at hw
  show ts_G g (tX_w v) 2 σ 0 [(0, .ref (tX_ad v 0))] []
  refine ts_aload_n X dX9_forget_0 0 rfl ?_
  refine gf_X9_52 X dX9_forget_1 ?_
  refine gf_X9_247 X dX9_forget_4 ?_
  refine ts_istore_n X dX9_forget_7 (by decide) (lv' := [(1, .int (σ 7 3)), (0, .ref (tX_ad v 0))]) rfl ?_
  refine ts_aload_n X dX9_forget_8 1 rfl ?_
  refine gf_X9_52 X dX9_forget_9 ?_
  refine ts_callVv (w := tX_w v) X (k := 7) (by decide : 7 < 151) rfl rfl rfl (As := []) (ct_X4_clear g.2.1 v hi _ _  hw) ok_X4_clear cw_X9_248 (ts_le hgn (by decide)) (by decide) rfl rfl (Nat.le_of_ble_eq_true rfl) dX9_forget_12 (fun s4 hw => ?_)
  refine ts_iload_n X dX9_forget_15 0 rfl ?_
  exact hret _ _ _ _ hw dX9_forget_16
set_option maxRecDepth 100000 in
set_option maxHeartbeats 4000000 in
theorem ct_X9_nerves (l : Launch) (v : tX_V) (hi : ts_inj 151 (tX_ad v)) (K : Int32 → ts_S → Prop) (σ : ts_S) (a1 : Int32) (a2 : Int32)  (hw : wp_X9_nerves K σ a1 a2) : ts_Mi l yX9_nerves (Cond.code yX9_nerves cX9_nerves 6 (some .int)) 4 (tX_w v) [.ref (tX_ad v 0), .int a1, .int a2] σ K := by
  refine ts_Mi.of_i (w := tX_w v) hi (by decide +kernel) (Nat.le_of_ble_eq_true rfl) ?_
  intro g hgl hgn X hret
  have J29 : ∀ (σ : ts_S) (x3 : Int32) (x4 : Int32) (x5 : Int32), wp_X9_nerves_l29 K a1 a2 σ x3 x4 x5 → ts_G g (tX_w v) 6 σ 29 [(0, .ref (tX_ad v 0)), (1, .int a1), (2, .int a2), (3, .int x3), (4, .int x4), (5, .int x5)] [] := by
    intro  σ x3 x4 x5 hw
    have key : ∀ X29 : ts_S → Int32 → Int32 → Int32 → Prop, (∀ (σ : ts_S) (x3 : Int32) (x4 : Int32) (x5 : Int32), X29 σ x3 x4 x5 → ts_G g (tX_w v) 6 σ 29 [(0, .ref (tX_ad v 0)), (1, .int a1), (2, .int a2), (3, .int x3), (4, .int x4), (5, .int x5)] []) → ∀ (σ : ts_S) (x3 : Int32) (x4 : Int32) (x5 : Int32), wp_X9_nerves_b29 K X29 a1 a2  σ x3 x4 x5 → ts_G g (tX_w v) 6 σ 29 [(0, .ref (tX_ad v 0)), (1, .int a1), (2, .int a2), (3, .int x3), (4, .int x4), (5, .int x5)] [] := by
      intro X29 hX29
      intro σ x3 x4 x5 hw
      unfold wp_X9_nerves_b29 at hw
      refine ts_iload X dX9_nerves_29 5 rfl ?_
      refine ts_if_lt 76 X dX9_nerves_31 (by decide) (fun c => ?_) (fun c => ?_)
      · have hw := ts_itp hw c
        refine ts_iload_n X dX9_nerves_76 2 rfl ?_
        refine ts_if_ne 84 X dX9_nerves_77 (by decide) (fun c => ?_) (fun c => ?_)
        · have hw := ts_itn hw c
          refine ts_iload X dX9_nerves_84 4 rfl ?_
          exact hret _ _ _ _ hw dX9_nerves_86
        · have hw := ts_itp hw c
          refine ts_iload_n X dX9_nerves_80 3 rfl ?_
          refine ts_goto 86 X dX9_nerves_81 (by decide) ?_
          exact hret _ _ _ _ hw dX9_nerves_86
      · have hw := ts_itn hw c
        refine ts_aload_n X dX9_nerves_34 0 rfl ?_
        refine gf_X9_52 X dX9_nerves_35 ?_
        refine ts_aload_n X dX9_nerves_38 0 rfl ?_
        refine gf_X9_28 X dX9_nerves_39 ?_
        refine ts_iload_n X dX9_nerves_42 1 rfl ?_
        refine ts_aload_n X dX9_nerves_43 0 rfl ?_
        refine gf_X9_28 X dX9_nerves_44 ?_
        refine gf_X9_119 X (tX_Tc 0 (by decide) rfl) (q := 23) rfl dX9_nerves_47 ?_
        refine gf_X9_130 X (tX_Lp 31) (q := 24) rfl dX9_nerves_50 ?_
        refine ts_iload_n X dX9_nerves_53 1 rfl ?_
        refine xi_ald X (tX_b1 (tX_Lp 31) rfl) hw.1 dX9_nerves_54 ?_
        have hw := hw.2
        refine ts_iload X dX9_nerves_55 5 rfl ?_
        refine ts_callVi (w := tX_w v) X (k := 7) (by decide : 7 < 151) rfl rfl rfl (As := [.ref (tX_ad v 31), .int a1, .int (σ 24 a1.toNatClampNeg), .int x5]) (ct_X4_wouldHold g.2.1 v hi _ _ _ _ _ _ (tX_Tc 0 (by decide) rfl) hw) ok_X4_wouldHold cw_X9_249 (ts_le hgn (by decide)) (by decide) rfl rfl (Nat.le_of_ble_eq_true rfl) dX9_nerves_57 (fun r7 s8 hw => ?_)
        refine ts_if_eq 70 X dX9_nerves_60 (by decide) (fun c => ?_) (fun c => ?_)
        · have hw := ts_itp hw c
          refine ts_iinc X dX9_nerves_70 5 rfl (v := x5 + (-1)) rfl (by decide) (lv' := [(5, .int (x5 + (-1))), (0, .ref (tX_ad v 0)), (1, .int a1), (2, .int a2), (3, .int x3), (4, .int x4)]) rfl ?_
          refine ts_goto 29 X dX9_nerves_73 (by decide) ?_
          exact ts_sub [1, 2, 3, 4, 5, 0] rfl (hX29 _ _ _ _ hw)
        · have hw := ts_itn hw c
          refine ts_iinc X dX9_nerves_63 3 rfl (v := x3 + 1) rfl (by decide) (lv' := [(3, .int (x3 + 1)), (0, .ref (tX_ad v 0)), (1, .int a1), (2, .int a2), (4, .int x4), (5, .int x5)]) rfl ?_
          refine ts_iload X dX9_nerves_66 5 rfl ?_
          refine ts_istore X dX9_nerves_68 (by decide) (lv' := [(4, .int x5), (3, .int (x3 + 1)), (0, .ref (tX_ad v 0)), (1, .int a1), (2, .int a2), (5, .int x5)]) rfl ?_
          refine ts_iinc X dX9_nerves_70 5 rfl (v := x5 + (-1)) rfl (by decide) (lv' := [(5, .int (x5 + (-1))), (4, .int x5), (3, .int (x3 + 1)), (0, .ref (tX_ad v 0)), (1, .int a1), (2, .int a2)]) rfl ?_
          refine ts_goto 29 X dX9_nerves_73 (by decide) ?_
          exact ts_sub [3, 4, 5, 2, 1, 0] rfl (hX29 _ _ _ _ hw)
    exact hw _ (fun σ x3 x4 x5 h => key _ (fun _ _ _ _ h => h) σ x3 x4 x5 h)
  unfold wp_X9_nerves at hw
  show ts_G g (tX_w v) 6 σ 0 [(0, .ref (tX_ad v 0)), (1, .int a1), (2, .int a2)] []
  refine ts_aload_n X dX9_nerves_0 0 rfl ?_
  refine ts_iload_n X dX9_nerves_1 1 rfl ?_
  refine ts_callVi (w := tX_w v) X (k := 0) (by decide : 0 < 151) rfl rfl rfl (As := [.int a1]) (ct_X9_isPerson g.2.1 v hi _ _ _ hw) ok_X9_isPerson cw_X9_126 (ts_le hgn (by decide)) (by decide) rfl rfl (Nat.le_of_ble_eq_true rfl) dX9_nerves_2 (fun r9 s10 hw => ?_)
  refine ts_if_eq 17 X dX9_nerves_5 (by decide) (fun c => ?_) (fun c => ?_)
  · have hw := ts_itp hw c
    refine ts_iconst X dX9_nerves_17 (v := (-1)) (by decide) ?_
    exact hret _ _ _ _ hw dX9_nerves_18
  · have hw := ts_itn hw c
    refine ts_iload_n X dX9_nerves_8 2 rfl ?_
    refine ts_iconst X dX9_nerves_9 (v := 0) (by decide) ?_
    refine ts_iconst X dX9_nerves_10 (v := 1) (by decide) ?_
    refine ts_callSi X (As := [.int a2, .int 0, .int 1]) (ct_X9_within g.2.1 v hi _ _ _ _ _ hw) ok_X9_within cw_X9_112 (ts_le hgn (by decide)) (by decide) rfl rfl (Nat.le_of_ble_eq_true rfl) dX9_nerves_11 (fun r11 s12 hw => ?_)
    refine ts_if_ne 19 X dX9_nerves_14 (by decide) (fun c => ?_) (fun c => ?_)
    · have hw := ts_itn hw c
      refine ts_iconst X dX9_nerves_19 (v := 0) (by decide) ?_
      refine ts_istore_n X dX9_nerves_20 (by decide) (lv' := [(3, .int 0), (0, .ref (tX_ad v 0)), (1, .int a1), (2, .int a2)]) rfl ?_
      refine ts_bipush X dX9_nerves_21 (v := (-4)) (by decide) ?_
      refine ts_istore X dX9_nerves_23 (by decide) (lv' := [(4, .int (-4)), (3, .int 0), (0, .ref (tX_ad v 0)), (1, .int a1), (2, .int a2)]) rfl ?_
      refine ts_bipush X dX9_nerves_25 (v := 30) (by decide) ?_
      refine ts_istore X dX9_nerves_27 (by decide) (lv' := [(5, .int 30), (4, .int (-4)), (3, .int 0), (0, .ref (tX_ad v 0)), (1, .int a1), (2, .int a2)]) rfl ?_
      exact ts_sub [3, 4, 5, 2, 1, 0] rfl (J29  _ _ _ _ hw)
    · have hw := ts_itp hw c
      refine ts_iconst X dX9_nerves_17 (v := (-1)) (by decide) ?_
      exact hret _ _ _ _ hw dX9_nerves_18
set_option maxRecDepth 100000 in
set_option maxHeartbeats 4000000 in
theorem ct_X9_kinds (l : Launch) (v : tX_V) (hi : ts_inj 151 (tX_ad v)) (K : Int32 → ts_S → Prop) (σ : ts_S) (a1 : Int32)  (hw : wp_X9_kinds K σ a1) : ts_Mi l yX9_kinds (Cond.code yX9_kinds cX9_kinds 4 (some .int)) 4 (tX_w v) [.ref (tX_ad v 0), .int a1] σ K := by
  refine ts_Mi.of_i (w := tX_w v) hi (by decide +kernel) (Nat.le_of_ble_eq_true rfl) ?_
  intro g hgl hgn X hret
  have J14 : ∀ (σ : ts_S) (x2 : Int32) (x3 : Int32), wp_X9_kinds_l14 K a1 σ x2 x3 → ts_G g (tX_w v) 4 σ 14 [(0, .ref (tX_ad v 0)), (1, .int a1), (2, .int x2), (3, .int x3)] [] := by
    intro  σ x2 x3 hw
    have key : ∀ X14 : ts_S → Int32 → Int32 → Prop, (∀ (σ : ts_S) (x2 : Int32) (x3 : Int32), X14 σ x2 x3 → ts_G g (tX_w v) 4 σ 14 [(0, .ref (tX_ad v 0)), (1, .int a1), (2, .int x2), (3, .int x3)] []) → ∀ (σ : ts_S) (x2 : Int32) (x3 : Int32), wp_X9_kinds_b14 K X14 a1  σ x2 x3 → ts_G g (tX_w v) 4 σ 14 [(0, .ref (tX_ad v 0)), (1, .int a1), (2, .int x2), (3, .int x3)] [] := by
      intro X14 hX14
      intro σ x2 x3 hw
      unfold wp_X9_kinds_b14 at hw
      refine ts_iload_n X dX9_kinds_14 3 rfl ?_
      refine ts_iconst X dX9_kinds_15 (v := 4) (by decide) ?_
      refine ts_icmp_ge 56 X dX9_kinds_16 (by decide) (fun c => ?_) (fun c => ?_)
      · have hw := ts_itp hw c
        refine ts_iload_n X dX9_kinds_56 2 rfl ?_
        exact hret _ _ _ _ hw dX9_kinds_57
      · have hw := ts_itn hw c
        refine ts_aload_n X dX9_kinds_19 0 rfl ?_
        refine gf_X9_52 X dX9_kinds_20 ?_
        refine ts_aload_n X dX9_kinds_23 0 rfl ?_
        refine gf_X9_28 X dX9_kinds_24 ?_
        refine ts_iload_n X dX9_kinds_27 1 rfl ?_
        refine ts_iload_n X dX9_kinds_28 3 rfl ?_
        refine ts_aload_n X dX9_kinds_29 0 rfl ?_
        refine gf_X9_28 X dX9_kinds_30 ?_
        refine gf_X9_140 X (tX_Tc 0 (by decide) rfl) (q := 34) rfl dX9_kinds_33 ?_
        refine ts_iload_n X dX9_kinds_36 1 rfl ?_
        refine xi_ald X (tX_a3 (tX_Tc 0 (by decide) rfl) rfl) hw.1 dX9_kinds_37 ?_
        have hw := hw.2
        refine ts_callVi (w := tX_w v) X (k := 7) (by decide : 7 < 151) rfl rfl rfl (As := [.ref (tX_ad v 31), .int a1, .int x3, .int (σ 34 a1.toNatClampNeg)]) (ct_X4_wouldHold g.2.1 v hi _ _ _ _ _ _ (tX_Tc 0 (by decide) rfl) hw) ok_X4_wouldHold cw_X9_249 (ts_le hgn (by decide)) (by decide) rfl rfl (Nat.le_of_ble_eq_true rfl) dX9_kinds_38 (fun r5 s6 hw => ?_)
        refine ts_if_eq 50 X dX9_kinds_41 (by decide) (fun c => ?_) (fun c => ?_)
        · have hw := ts_itp hw c
          refine ts_iinc X dX9_kinds_50 3 rfl (v := x3 + 1) rfl (by decide) (lv' := [(3, .int (x3 + 1)), (0, .ref (tX_ad v 0)), (1, .int a1), (2, .int x2)]) rfl ?_
          refine ts_goto 14 X dX9_kinds_53 (by decide) ?_
          exact ts_sub [1, 2, 3, 0] rfl (hX14 _ _ _ hw)
        · have hw := ts_itn hw c
          refine ts_iload_n X dX9_kinds_44 2 rfl ?_
          refine ts_iconst X dX9_kinds_45 (v := 1) (by decide) ?_
          refine ts_iload_n X dX9_kinds_46 3 rfl ?_
          refine ts_ishl X dX9_kinds_47 ?_
          refine ts_ior X dX9_kinds_48 ?_
          refine ts_istore_n X dX9_kinds_49 (by decide) (lv' := [(2, .int (x2 ||| (1 <<< (x3 &&& 31)))), (0, .ref (tX_ad v 0)), (1, .int a1), (3, .int x3)]) rfl ?_
          refine ts_iinc X dX9_kinds_50 3 rfl (v := x3 + 1) rfl (by decide) (lv' := [(3, .int (x3 + 1)), (2, .int (x2 ||| (1 <<< (x3 &&& 31)))), (0, .ref (tX_ad v 0)), (1, .int a1)]) rfl ?_
          refine ts_goto 14 X dX9_kinds_53 (by decide) ?_
          exact ts_sub [2, 3, 1, 0] rfl (hX14 _ _ _ hw)
    exact hw _ (fun σ x2 x3 h => key _ (fun _ _ _ h => h) σ x2 x3 h)
  unfold wp_X9_kinds at hw
  show ts_G g (tX_w v) 4 σ 0 [(0, .ref (tX_ad v 0)), (1, .int a1)] []
  refine ts_aload_n X dX9_kinds_0 0 rfl ?_
  refine ts_iload_n X dX9_kinds_1 1 rfl ?_
  refine ts_callVi (w := tX_w v) X (k := 0) (by decide : 0 < 151) rfl rfl rfl (As := [.int a1]) (ct_X9_isPerson g.2.1 v hi _ _ _ hw) ok_X9_isPerson cw_X9_126 (ts_le hgn (by decide)) (by decide) rfl rfl (Nat.le_of_ble_eq_true rfl) dX9_kinds_2 (fun r7 s8 hw => ?_)
  refine ts_if_ne 10 X dX9_kinds_5 (by decide) (fun c => ?_) (fun c => ?_)
  · have hw := ts_itn hw c
    refine ts_iconst X dX9_kinds_10 (v := 0) (by decide) ?_
    refine ts_istore_n X dX9_kinds_11 (by decide) (lv' := [(2, .int 0), (0, .ref (tX_ad v 0)), (1, .int a1)]) rfl ?_
    refine ts_iconst X dX9_kinds_12 (v := 0) (by decide) ?_
    refine ts_istore_n X dX9_kinds_13 (by decide) (lv' := [(3, .int 0), (2, .int 0), (0, .ref (tX_ad v 0)), (1, .int a1)]) rfl ?_
    exact ts_sub [2, 3, 1, 0] rfl (J14  _ _ _ hw)
  · have hw := ts_itp hw c
    refine ts_iconst X dX9_kinds_8 (v := (-1)) (by decide) ?_
    exact hret _ _ _ _ hw dX9_kinds_9
set_option maxRecDepth 100000 in
set_option maxHeartbeats 4000000 in
theorem ct_X9_doneIfTheseFall (l : Launch) (v : tX_V) (hi : ts_inj 151 (tX_ad v)) (K : Int32 → ts_S → Prop) (σ : ts_S) (a1 : Int32)  (hw : wp_X9_doneIfTheseFall K σ a1) : ts_Mi l yX9_doneIfTheseFall (Cond.code yX9_doneIfTheseFall cX9_doneIfTheseFall 3 (some .int)) 6 (tX_w v) [.ref (tX_ad v 0), .int a1] σ K := by
  refine ts_Mi.of_i (w := tX_w v) hi (by decide +kernel) (Nat.le_of_ble_eq_true rfl) ?_
  intro g hgl hgn X hret
  have J13 : ∀ (σ : ts_S) (x2 : Int32), wp_X9_doneIfTheseFall_l13 K a1 σ x2 → ts_G g (tX_w v) 3 σ 13 [(0, .ref (tX_ad v 0)), (1, .int a1), (2, .int x2)] [] := by
    intro  σ x2 hw
    have key : ∀ X13 : ts_S → Int32 → Prop, (∀ (σ : ts_S) (x2 : Int32), X13 σ x2 → ts_G g (tX_w v) 3 σ 13 [(0, .ref (tX_ad v 0)), (1, .int a1), (2, .int x2)] []) → ∀ (σ : ts_S) (x2 : Int32), wp_X9_doneIfTheseFall_b13 K X13 a1  σ x2 → ts_G g (tX_w v) 3 σ 13 [(0, .ref (tX_ad v 0)), (1, .int a1), (2, .int x2)] [] := by
      intro X13 hX13
      intro σ x2 hw
      unfold wp_X9_doneIfTheseFall_b13 at hw
      refine ts_iload_n X dX9_doneIfTheseFall_13 2 rfl ?_
      refine ts_aload_n X dX9_doneIfTheseFall_14 0 rfl ?_
      refine gf_X9_31 X dX9_doneIfTheseFall_15 ?_
      refine gf_X9_119 X (tX_Tc 2 (by decide) rfl) (q := 23) rfl dX9_doneIfTheseFall_18 ?_
      refine gf_X9_123 X (tX_Lp 43) dX9_doneIfTheseFall_21 ?_
      refine ts_icmp_ge 51 X dX9_doneIfTheseFall_24 (by decide) (fun c => ?_) (fun c => ?_)
      · have hw := ts_itp hw c
        refine ts_aload_n X dX9_doneIfTheseFall_51 0 rfl ?_
        refine gf_X9_31 X dX9_doneIfTheseFall_52 ?_
        refine ts_callVi (w := tX_w v) X (k := 43) ((tX_Tc 2 (by decide) rfl)).lt (tX_eT (tX_Tc 2 (by decide) rfl) _) rfl rfl (As := []) (ct_X8_doneMany g.2.1 v hi _ _ _ (tX_Tc 2 (by decide) rfl) hw) ok_X8_doneMany cw_X9_287 (ts_le hgn (by decide)) (by decide) rfl rfl (Nat.le_of_ble_eq_true rfl) dX9_doneIfTheseFall_55 (fun r8 s9 hw => ?_)
        exact hret _ _ _ _ hw dX9_doneIfTheseFall_58
      · have hw := ts_itn hw c
        refine ts_iload_n X dX9_doneIfTheseFall_27 1 rfl ?_
        refine ts_iload_n X dX9_doneIfTheseFall_28 2 rfl ?_
        refine ts_callSi X (As := [.int a1, .int x2]) (ct_X9_hasBit g.2.1 v hi _ _ _ _ hw) ok_X9_hasBit cw_X9_303 (ts_le hgn (by decide)) (by decide) rfl rfl (Nat.le_of_ble_eq_true rfl) dX9_doneIfTheseFall_29 (fun r10 s11 hw => ?_)
        refine ts_if_eq 45 X dX9_doneIfTheseFall_32 (by decide) (fun c => ?_) (fun c => ?_)
        · have hw := ts_itp hw c
          refine ts_iinc X dX9_doneIfTheseFall_45 2 rfl (v := x2 + 1) rfl (by decide) (lv' := [(2, .int (x2 + 1)), (0, .ref (tX_ad v 0)), (1, .int a1)]) rfl ?_
          refine ts_goto 13 X dX9_doneIfTheseFall_48 (by decide) ?_
          exact ts_sub [1, 2, 0] rfl (hX13 _ _ hw)
        · have hw := ts_itn hw c
          refine ts_aload_n X dX9_doneIfTheseFall_35 0 rfl ?_
          refine gf_X9_31 X dX9_doneIfTheseFall_36 ?_
          refine gf_X9_154 X (tX_Tc 2 (by decide) rfl) (q := 47) rfl dX9_doneIfTheseFall_39 ?_
          refine ts_iload_n X dX9_doneIfTheseFall_42 2 rfl ?_
          refine ts_iconst X dX9_doneIfTheseFall_43 (v := 1) (by decide) ?_
          refine xz_ast X (tX_a4 (tX_Tc 2 (by decide) rfl) rfl) hw.1 dX9_doneIfTheseFall_44 (fun s12 es12 => ?_)
          have hw := hw.2 s12 es12
          refine ts_iinc X dX9_doneIfTheseFall_45 2 rfl (v := x2 + 1) rfl (by decide) (lv' := [(2, .int (x2 + 1)), (0, .ref (tX_ad v 0)), (1, .int a1)]) rfl ?_
          refine ts_goto 13 X dX9_doneIfTheseFall_48 (by decide) ?_
          exact ts_sub [1, 2, 0] rfl (hX13 _ _ hw)
    exact hw _ (fun σ x2 h => key _ (fun _ _ h => h) σ x2 h)
  unfold wp_X9_doneIfTheseFall at hw
  show ts_G g (tX_w v) 3 σ 0 [(0, .ref (tX_ad v 0)), (1, .int a1)] []
  refine ts_aload_n X dX9_doneIfTheseFall_0 0 rfl ?_
  refine gf_X9_31 X dX9_doneIfTheseFall_1 ?_
  refine ts_aload_n X dX9_doneIfTheseFall_4 0 rfl ?_
  refine gf_X9_28 X dX9_doneIfTheseFall_5 ?_
  refine ts_callVv (w := tX_w v) X (k := 43) ((tX_Tc 2 (by decide) rfl)).lt (tX_eT (tX_Tc 2 (by decide) rfl) _) rfl rfl (As := [.ref (tX_ad v 31)]) (ct_X8_standAs g.2.1 v hi _ _ _ _ (tX_Tc 2 (by decide) rfl) (tX_Tc 0 (by decide) rfl) hw) ok_X8_standAs cw_X9_210 (ts_le hgn (by decide)) (by decide) rfl rfl (Nat.le_of_ble_eq_true rfl) dX9_doneIfTheseFall_8 (fun s14 hw => ?_)
  refine ts_iconst X dX9_doneIfTheseFall_11 (v := 0) (by decide) ?_
  refine ts_istore_n X dX9_doneIfTheseFall_12 (by decide) (lv' := [(2, .int 0), (0, .ref (tX_ad v 0)), (1, .int a1)]) rfl ?_
  exact ts_sub [1, 2, 0] rfl (J13  _ _ hw)
set_option maxRecDepth 100000 in
set_option maxHeartbeats 4000000 in
theorem ct_X9_likely (l : Launch) (v : tX_V) (hi : ts_inj 151 (tX_ad v)) (K : Int32 → ts_S → Prop) (σ : ts_S) (a1 : Int32) (a2 : Int32) (a3 : Int32)  (hw : wp_X9_likely K σ a1 a2 a3) : ts_Mi l yX9_likely (Cond.code yX9_likely cX9_likely 8 (some .int)) 7 (tX_w v) [.ref (tX_ad v 0), .int a1, .int a2, .int a3] σ K := by
  refine ts_Mi.of_i (w := tX_w v) hi (by decide +kernel) (Nat.le_of_ble_eq_true rfl) ?_
  intro g hgl hgn X hret
  have J45 : ∀ (σ : ts_S) (x4 : Int32) (x5 : Int32) (x6 : Int32), wp_X9_likely_l45 K a1 a2 a3 σ x4 x5 x6 → ts_G g (tX_w v) 8 σ 45 [(0, .ref (tX_ad v 0)), (1, .int a1), (2, .int a2), (3, .int a3), (4, .int x4), (5, .int x5), (6, .int x6)] [] := by
    intro  σ x4 x5 x6 hw
    have key : ∀ X45 : ts_S → Int32 → Int32 → Prop, (∀ (σ : ts_S) (x5 : Int32) (x6 : Int32), X45 σ x5 x6 → ts_G g (tX_w v) 8 σ 45 [(0, .ref (tX_ad v 0)), (1, .int a1), (2, .int a2), (3, .int a3), (4, .int x4), (5, .int x5), (6, .int x6)] []) → ∀ (σ : ts_S) (x5 : Int32) (x6 : Int32), wp_X9_likely_b45 K X45 a1 a2 a3 x4 σ x5 x6 → ts_G g (tX_w v) 8 σ 45 [(0, .ref (tX_ad v 0)), (1, .int a1), (2, .int a2), (3, .int a3), (4, .int x4), (5, .int x5), (6, .int x6)] [] := by
      intro X45 hX45
      intro σ x5 x6 hw
      unfold wp_X9_likely_b45 at hw
      refine ts_iload X dX9_likely_45 6 rfl ?_
      refine ts_bipush X dX9_likely_47 (v := 64) (by decide) ?_
      refine ts_icmp_ge 91 X dX9_likely_49 (by decide) (fun c => ?_) (fun c => ?_)
      · have hw := ts_itp hw c
        refine ts_bipush X dX9_likely_91 (v := 10) (by decide) ?_
        refine ts_iload X dX9_likely_93 4 rfl ?_
        refine ts_callSi X (As := [.int x4]) (ct_J6_bitCount_0f7a4 g.2.1 v hi _ _ _ hw) ok_J6_bitCount_0f7a4 cw_X9_264 (ts_le hgn (by decide)) (by decide) rfl rfl (Nat.le_of_ble_eq_true rfl) dX9_likely_95 (fun r19 s20 hw => ?_)
        refine ts_callSi X (As := [.int 10, .int r19]) (ct_X9_power g.2.1 v hi _ _ _ _ hw) ok_X9_power cw_X9_269 (ts_le hgn (by decide)) (by decide) rfl rfl (Nat.le_of_ble_eq_true rfl) dX9_likely_98 (fun r21 s22 hw => ?_)
        refine ts_istore X dX9_likely_101 (by decide) (lv' := [(6, .int r21), (0, .ref (tX_ad v 0)), (1, .int a1), (2, .int a2), (3, .int a3), (4, .int x4), (5, .int x5)]) rfl ?_
        refine ts_iload X dX9_likely_103 6 rfl ?_
        refine ts_iload X dX9_likely_105 0 rfl ?_
        refine ts_callSi X (As := [.int x5, .int r21]) (ct_X9_commonDivisor g.2.1 v hi _ _ _ _ hw) ok_X9_commonDivisor cw_X9_272 (ts_le hgn (by decide)) (by decide) rfl rfl (Nat.le_of_ble_eq_true rfl) dX9_likely_107 (fun r23 s24 hw => ?_)
        refine ts_istore X dX9_likely_110 (by decide) (lv' := [(7, .int r23), (6, .int r21), (0, .ref (tX_ad v 0)), (1, .int a1), (2, .int a2), (3, .int a3), (4, .int x4), (5, .int x5)]) rfl ?_
        refine ts_iload X dX9_likely_112 0 rfl ?_
        refine ts_iconst X dX9_likely_114 (v := 1) (by decide) ?_
        refine ts_icmp_ge 120 X dX9_likely_115 (by decide) (fun c => ?_) (fun c => ?_)
        · have hw := ts_itp hw c
          refine ts_iload_n X dX9_likely_120 5 rfl ?_
          refine ts_if_ne 132 X dX9_likely_121 (by decide) (fun c => ?_) (fun c => ?_)
          · have hw := ts_itn hw c
            refine ts_iload X dX9_likely_132 1 rfl ?_
            refine ts_iload X dX9_likely_134 0 rfl ?_
            refine ts_idiv X dX9_likely_136 hw.1 ?_
            have hw := hw.2
            exact hret _ _ _ _ hw dX9_likely_137
          · have hw := ts_itp hw c
            refine ts_iload X dX9_likely_124 7 rfl ?_
            refine ts_iload X dX9_likely_126 0 rfl ?_
            refine ts_idiv X dX9_likely_128 hw.1 ?_
            have hw := hw.2
            refine ts_goto 137 X dX9_likely_129 (by decide) ?_
            exact hret _ _ _ _ hw dX9_likely_137
        · have hw := ts_itn hw c
          refine ts_iconst X dX9_likely_118 (v := (-1)) (by decide) ?_
          exact hret _ _ _ _ hw dX9_likely_119
      · have hw := ts_itn hw c
        refine ts_iload X dX9_likely_52 6 rfl ?_
        refine ts_iload X dX9_likely_54 4 rfl ?_
        refine ts_iconst X dX9_likely_56 (v := (-1)) (by decide) ?_
        refine ts_ixor X dX9_likely_57 ?_
        refine ts_iand X dX9_likely_58 ?_
        refine ts_if_ne 85 X dX9_likely_59 (by decide) (fun c => ?_) (fun c => ?_)
        · have hw := ts_itn hw c
          refine ts_iinc X dX9_likely_85 6 rfl (v := x6 + 1) rfl (by decide) (lv' := [(6, .int (x6 + 1)), (0, .ref (tX_ad v 0)), (1, .int a1), (2, .int a2), (3, .int a3), (4, .int x4), (5, .int x5)]) rfl ?_
          refine ts_goto 45 X dX9_likely_88 (by decide) ?_
          exact ts_sub [1, 2, 3, 4, 5, 6, 0] rfl (hX45 _ _ _ hw)
        · have hw := ts_itp hw c
          refine ts_aload_n X dX9_likely_62 0 rfl ?_
          refine ts_iload X dX9_likely_63 6 rfl ?_
          refine ts_callVi (w := tX_w v) X (k := 0) (by decide : 0 < 151) rfl rfl rfl (As := [.int x6]) (ct_X9_doneIfTheseFall g.2.1 v hi _ _ _ hw) ok_X9_doneIfTheseFall cw_X9_256 (ts_le hgn (by decide)) (by decide) rfl rfl (Nat.le_of_ble_eq_true rfl) dX9_likely_65 (fun r25 s26 hw => ?_)
          refine ts_iload_n X dX9_likely_68 1 rfl ?_
          refine ts_icmp_lt 85 X dX9_likely_69 (by decide) (fun c => ?_) (fun c => ?_)
          · have hw := ts_itp hw c
            refine ts_iinc X dX9_likely_85 6 rfl (v := x6 + 1) rfl (by decide) (lv' := [(6, .int (x6 + 1)), (0, .ref (tX_ad v 0)), (1, .int a1), (2, .int a2), (3, .int a3), (4, .int x4), (5, .int x5)]) rfl ?_
            refine ts_goto 45 X dX9_likely_88 (by decide) ?_
            exact ts_sub [1, 2, 3, 4, 5, 6, 0] rfl (hX45 _ _ _ hw)
          · have hw := ts_itn hw c
            refine ts_iload X dX9_likely_72 5 rfl ?_
            refine ts_iload X dX9_likely_74 4 rfl ?_
            refine ts_iload X dX9_likely_76 6 rfl ?_
            refine ts_iload_n X dX9_likely_78 2 rfl ?_
            refine ts_callSi X (As := [.int x4, .int x6, .int a2]) (ct_X9_waysOfTen g.2.1 v hi _ _ _ _ _ hw) ok_X9_waysOfTen cw_X9_260 (ts_le hgn (by decide)) (by decide) rfl rfl (Nat.le_of_ble_eq_true rfl) dX9_likely_79 (fun r27 s28 hw => ?_)
            refine ts_iadd X dX9_likely_82 ?_
            refine ts_istore X dX9_likely_83 (by decide) (lv' := [(5, .int (x5 + r27)), (0, .ref (tX_ad v 0)), (1, .int a1), (2, .int a2), (3, .int a3), (4, .int x4), (6, .int x6)]) rfl ?_
            refine ts_iinc X dX9_likely_85 6 rfl (v := x6 + 1) rfl (by decide) (lv' := [(6, .int (x6 + 1)), (5, .int (x5 + r27)), (0, .ref (tX_ad v 0)), (1, .int a1), (2, .int a2), (3, .int a3), (4, .int x4)]) rfl ?_
            refine ts_goto 45 X dX9_likely_88 (by decide) ?_
            exact ts_sub [2, 3, 4, 5, 6, 1, 0] rfl (hX45 _ _ _ hw)
    exact hw _ (fun σ x5 x6 h => key _ (fun _ _ _ h => h) σ x5 x6 h)
  unfold wp_X9_likely at hw
  show ts_G g (tX_w v) 8 σ 0 [(0, .ref (tX_ad v 0)), (1, .int a1), (2, .int a2), (3, .int a3)] []
  refine ts_iload_n X dX9_likely_0 1 rfl ?_
  refine ts_iconst X dX9_likely_1 (v := 0) (by decide) ?_
  refine ts_iconst X dX9_likely_2 (v := 5) (by decide) ?_
  refine ts_callSi X (As := [.int a1, .int 0, .int 5]) (ct_X9_within g.2.1 v hi _ _ _ _ _ hw) ok_X9_within cw_X9_112 (ts_le hgn (by decide)) (by decide) rfl rfl (Nat.le_of_ble_eq_true rfl) dX9_likely_3 (fun r29 s30 hw => ?_)
  refine ts_if_eq 28 X dX9_likely_6 (by decide) (fun c => ?_) (fun c => ?_)
  · have hw := ts_itp hw c
    refine ts_iconst X dX9_likely_28 (v := (-1)) (by decide) ?_
    exact hret _ _ _ _ hw dX9_likely_29
  · have hw := ts_itn hw c
    refine ts_iload_n X dX9_likely_9 2 rfl ?_
    refine ts_iconst X dX9_likely_10 (v := 0) (by decide) ?_
    refine ts_bipush X dX9_likely_11 (v := 10) (by decide) ?_
    refine ts_callSi X (As := [.int a2, .int 0, .int 10]) (ct_X9_within g.2.1 v hi _ _ _ _ _ hw) ok_X9_within cw_X9_112 (ts_le hgn (by decide)) (by decide) rfl rfl (Nat.le_of_ble_eq_true rfl) dX9_likely_13 (fun r31 s32 hw => ?_)
    refine ts_if_eq 28 X dX9_likely_16 (by decide) (fun c => ?_) (fun c => ?_)
    · have hw := ts_itp hw c
      refine ts_iconst X dX9_likely_28 (v := (-1)) (by decide) ?_
      exact hret _ _ _ _ hw dX9_likely_29
    · have hw := ts_itn hw c
      refine ts_iload_n X dX9_likely_19 3 rfl ?_
      refine ts_iconst X dX9_likely_20 (v := 0) (by decide) ?_
      refine ts_iconst X dX9_likely_21 (v := 1) (by decide) ?_
      refine ts_callSi X (As := [.int a3, .int 0, .int 1]) (ct_X9_within g.2.1 v hi _ _ _ _ _ hw) ok_X9_within cw_X9_112 (ts_le hgn (by decide)) (by decide) rfl rfl (Nat.le_of_ble_eq_true rfl) dX9_likely_22 (fun r33 s34 hw => ?_)
      refine ts_if_ne 30 X dX9_likely_25 (by decide) (fun c => ?_) (fun c => ?_)
      · have hw := ts_itn hw c
        refine ts_aload_n X dX9_likely_30 0 rfl ?_
        refine gf_X9_28 X dX9_likely_31 ?_
        refine ts_callVi (w := tX_w v) X (k := 31) ((tX_Tc 0 (by decide) rfl)).lt (tX_eT (tX_Tc 0 (by decide) rfl) _) rfl rfl (As := []) (ct_X8_frozenBits g.2.1 v hi _ _ _ (tX_Tc 0 (by decide) rfl) hw) ok_X8_frozenBits cw_X9_253 (ts_le hgn (by decide)) (by decide) rfl rfl (Nat.le_of_ble_eq_true rfl) dX9_likely_34 (fun r35 s36 hw => ?_)
        refine ts_istore X dX9_likely_37 (by decide) (lv' := [(4, .int r35), (0, .ref (tX_ad v 0)), (1, .int a1), (2, .int a2), (3, .int a3)]) rfl ?_
        refine ts_iconst X dX9_likely_39 (v := 0) (by decide) ?_
        refine ts_istore X dX9_likely_40 (by decide) (lv' := [(5, .int 0), (4, .int r35), (0, .ref (tX_ad v 0)), (1, .int a1), (2, .int a2), (3, .int a3)]) rfl ?_
        refine ts_iconst X dX9_likely_42 (v := 0) (by decide) ?_
        refine ts_istore X dX9_likely_43 (by decide) (lv' := [(6, .int 0), (5, .int 0), (4, .int r35), (0, .ref (tX_ad v 0)), (1, .int a1), (2, .int a2), (3, .int a3)]) rfl ?_
        exact ts_sub [3, 4, 5, 6, 2, 1, 0] rfl (J45  _ _ _ _ hw)
      · have hw := ts_itp hw c
        refine ts_iconst X dX9_likely_28 (v := (-1)) (by decide) ?_
        exact hret _ _ _ _ hw dX9_likely_29
