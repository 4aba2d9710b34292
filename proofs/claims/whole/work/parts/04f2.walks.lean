set_option maxRecDepth 100000 in
set_option maxHeartbeats 4000000 in
theorem ct_X10_isStep (l : Launch) (v : tX_V) (hi : ts_inj 15 (tX_ad v)) (K : Int32 → ts_S → Prop) (σ : ts_S) (a1 : Int32)  (hw : wp_X10_isStep K σ a1) : ts_Mi l yX10_isStep (Cond.code yX10_isStep cX10_isStep 2 (some .boolean)) 2 (tM_w v) [.ref (tX_ad v 0), .int a1] σ K := by
  refine ts_Mi.of_z (w := tM_w v) hi (by decide +kernel) (Nat.le_of_ble_eq_true rfl) ?_
  intro g hgl hgn X hret
  unfold wp_X10_isStep at hw
  show ts_G g (tM_w v) 2 σ 0 [(0, .ref (tX_ad v 0)), (1, .int a1)] []
  refine ts_iload_n X dX10_isStep_0 1 rfl ?_
  refine ts_iconst X dX10_isStep_1 (v := 0) (by decide) ?_
  refine ts_aload_n X dX10_isStep_2 0 rfl ?_
  refine gf_X10_80 X dX10_isStep_3 ?_
  refine ts_iconst X dX10_isStep_6 (v := 1) (by decide) ?_
  refine ts_isub X dX10_isStep_7 ?_
  refine ts_callSi X (As := [.int a1, .int 0, .int ((σ 0 0) - 1)]) (ct_X10_in g.2.1 v hi _ _ _ _ _ hw) ok_X10_in cw_X10_76 (ts_le hgn (by decide)) (by decide) rfl rfl (Nat.le_of_ble_eq_true rfl) dX10_isStep_8 (fun r3 s4 hw => ?_)
  exact hret _ _ _ _ hw dX10_isStep_11
set_option maxRecDepth 100000 in
set_option maxHeartbeats 4000000 in
theorem ct_X10_fear (l : Launch) (v : tX_V) (hi : ts_inj 15 (tX_ad v)) (K : Int32 → ts_S → Prop) (σ : ts_S) (a1 : Int32) (a2 : Int32)  (hw : wp_X10_fear K σ a1 a2) : ts_Mi l yX10_fear (Cond.code yX10_fear cX10_fear 3 (some .int)) 3 (tM_w v) [.ref (tX_ad v 0), .int a1, .int a2] σ K := by
  refine ts_Mi.of_i (w := tM_w v) hi (by decide +kernel) (Nat.le_of_ble_eq_true rfl) ?_
  intro g hgl hgn X hret
  unfold wp_X10_fear at hw
  show ts_G g (tM_w v) 3 σ 0 [(0, .ref (tX_ad v 0)), (1, .int a1), (2, .int a2)] []
  refine ts_aload_n X dX10_fear_0 0 rfl ?_
  refine ts_iload_n X dX10_fear_1 1 rfl ?_
  refine ts_callVi (w := tM_w v) X (k := 0) (by decide : 0 < 15) rfl rfl rfl (As := [.int a1]) (ct_X10_isPerson g.2.1 v hi _ _ _ hw) ok_X10_isPerson cw_X10_156 (ts_le hgn (by decide)) (by decide) rfl rfl (Nat.le_of_ble_eq_true rfl) dX10_fear_2 (fun r9 s10 hw => ?_)
  refine ts_if_eq 16 X dX10_fear_5 (by decide) (fun c => ?_) (fun c => ?_)
  · have hw := ts_itp hw c
    refine ts_iconst X dX10_fear_16 (v := (-1)) (by decide) ?_
    exact hret _ _ _ _ hw dX10_fear_17
  · have hw := ts_itn hw c
    refine ts_aload_n X dX10_fear_8 0 rfl ?_
    refine ts_iload_n X dX10_fear_9 2 rfl ?_
    refine ts_callVi (w := tM_w v) X (k := 0) (by decide : 0 < 15) rfl rfl rfl (As := [.int a2]) (ct_X10_isStep g.2.1 v hi _ _ _ hw) ok_X10_isStep cw_X10_165 (ts_le hgn (by decide)) (by decide) rfl rfl (Nat.le_of_ble_eq_true rfl) dX10_fear_10 (fun r11 s12 hw => ?_)
    refine ts_if_ne 18 X dX10_fear_13 (by decide) (fun c => ?_) (fun c => ?_)
    · have hw := ts_itn hw c
      refine ts_aload_n X dX10_fear_18 0 rfl ?_
      refine ts_callVv (w := tM_w v) X (k := 0) (by decide : 0 < 15) rfl rfl rfl (As := []) (ct_X10_asItIs g.2.1 v hi _ _  hw) ok_X10_asItIs cw_X10_159 (ts_le hgn (by decide)) (by decide) rfl rfl (Nat.le_of_ble_eq_true rfl) dX10_fear_19 (fun s14 hw => ?_)
      refine ts_aload_n X dX10_fear_22 0 rfl ?_
      refine ts_iload_n X dX10_fear_23 1 rfl ?_
      refine ts_iload_n X dX10_fear_24 2 rfl ?_
      refine ts_aload_n X dX10_fear_25 0 rfl ?_
      refine gf_X10_7 X dX10_fear_26 ?_
      refine ts_iload_n X dX10_fear_29 1 rfl ?_
      refine mi_ald X tM_c1 hw.1 dX10_fear_30 ?_
      have hw := hw.2
      refine ts_callVi (w := tM_w v) X (k := 0) (by decide : 0 < 15) rfl rfl rfl (As := [.int a1, .int a2, .int (s14 1 a1.toNatClampNeg)]) (ct_X10_fearAs g.2.1 v hi _ _ _ _ _ hw) ok_X10_fearAs cw_X10_143 (ts_le hgn (by decide)) (by decide) rfl rfl (Nat.le_of_ble_eq_true rfl) dX10_fear_31 (fun r15 s16 hw => ?_)
      exact hret _ _ _ _ hw dX10_fear_34
    · have hw := ts_itp hw c
      refine ts_iconst X dX10_fear_16 (v := (-1)) (by decide) ?_
      exact hret _ _ _ _ hw dX10_fear_17
set_option maxRecDepth 100000 in
set_option maxHeartbeats 4000000 in
theorem ct_X10_isDone (l : Launch) (v : tX_V) (hi : ts_inj 15 (tX_ad v)) (K : Int32 → ts_S → Prop) (σ : ts_S) (a1 : Int32) (a2 : Int32)  (hw : wp_X10_isDone K σ a1 a2) : ts_Mi l yX10_isDone (Cond.code yX10_isDone cX10_isDone 5 (some .boolean)) 2 (tM_w v) [.ref (tX_ad v 0), .int a1, .int a2] σ K := by
  refine ts_Mi.of_z (w := tM_w v) hi (by decide +kernel) (Nat.le_of_ble_eq_true rfl) ?_
  intro g hgl hgn X hret
  have J5 : ∀ (σ : ts_S) (x3 : Int32) (x4 : Int32), wp_X10_isDone_l5 K a1 a2 σ x3 x4 → ts_G g (tM_w v) 5 σ 5 [(0, .ref (tX_ad v 0)), (1, .int a1), (2, .int a2), (3, .int x3), (4, .int x4)] [] := by
    intro  σ x3 x4 hw
    have key : ∀ X5 : ts_S → Int32 → Int32 → Prop, (∀ (σ : ts_S) (x3 : Int32) (x4 : Int32), X5 σ x3 x4 → ts_G g (tM_w v) 5 σ 5 [(0, .ref (tX_ad v 0)), (1, .int a1), (2, .int a2), (3, .int x3), (4, .int x4)] []) → ∀ (σ : ts_S) (x3 : Int32) (x4 : Int32), wp_X10_isDone_b5 K X5 a1 a2  σ x3 x4 → ts_G g (tM_w v) 5 σ 5 [(0, .ref (tX_ad v 0)), (1, .int a1), (2, .int a2), (3, .int x3), (4, .int x4)] [] := by
      intro X5 hX5
      intro σ x3 x4 hw
      unfold wp_X10_isDone_b5 at hw
      refine ts_iload X dX10_isDone_5 4 rfl ?_
      refine ts_aload_n X dX10_isDone_7 0 rfl ?_
      refine gf_X10_73 X dX10_isDone_8 ?_
      refine ts_icmp_ge 64 X dX10_isDone_11 (by decide) (fun c => ?_) (fun c => ?_)
      · have hw := ts_itp hw c
        refine ts_iload_n X dX10_isDone_64 3 rfl ?_
        refine ts_aload_n X dX10_isDone_65 0 rfl ?_
        refine gf_X10_13 X dX10_isDone_66 ?_
        refine ts_iconst X dX10_isDone_69 (v := 2) (by decide) ?_
        refine ts_iload_n X dX10_isDone_70 1 rfl ?_
        refine ts_imul X dX10_isDone_71 ?_
        refine ts_iconst X dX10_isDone_72 (v := 1) (by decide) ?_
        refine ts_iadd X dX10_isDone_73 ?_
        refine mi_ald X tM_c2 hw.1 dX10_isDone_74 ?_
        have hw := hw.2
        refine ts_icmp_lt 82 X dX10_isDone_75 (by decide) (fun c => ?_) (fun c => ?_)
        · have hw := ts_itp hw c
          refine ts_iconst X dX10_isDone_82 (v := 0) (by decide) ?_
          exact hret _ _ _ _ hw dX10_isDone_83
        · have hw := ts_itn hw c
          refine ts_iconst X dX10_isDone_78 (v := 1) (by decide) ?_
          refine ts_goto 83 X dX10_isDone_79 (by decide) ?_
          exact hret _ _ _ _ hw dX10_isDone_83
      · have hw := ts_itn hw c
        refine ts_iload_n X dX10_isDone_14 3 rfl ?_
        refine ts_aload_n X dX10_isDone_15 0 rfl ?_
        refine gf_X10_43 X dX10_isDone_16 ?_
        refine ts_iconst X dX10_isDone_19 (v := 3) (by decide) ?_
        refine ts_iload X dX10_isDone_20 4 rfl ?_
        refine ts_iadd X dX10_isDone_22 ?_
        refine mi_ald X tM_c12 hw.1 dX10_isDone_23 ?_
        have hw := hw.2
        refine ts_aload_n X dX10_isDone_24 0 rfl ?_
        refine gf_X10_13 X dX10_isDone_25 ?_
        refine ts_iconst X dX10_isDone_28 (v := 2) (by decide) ?_
        refine ts_iload_n X dX10_isDone_29 1 rfl ?_
        refine ts_imul X dX10_isDone_30 ?_
        refine mi_ald X tM_c2 hw.1 dX10_isDone_31 ?_
        have hw := hw.2
        refine ts_icmp_ne 55 X dX10_isDone_32 (by decide) (fun c => ?_) (fun c => ?_)
        · have hw := ts_itn hw c
          refine ts_iconst X dX10_isDone_55 (v := 0) (by decide) ?_
          refine ts_iadd X dX10_isDone_56 ?_
          refine ts_istore_n X dX10_isDone_57 (by decide) (lv' := [(3, .int (x3 + 0)), (0, .ref (tX_ad v 0)), (1, .int a1), (2, .int a2), (4, .int x4)]) rfl ?_
          refine ts_iinc X dX10_isDone_58 4 rfl (v := x4 + 1) rfl (by decide) (lv' := [(4, .int (x4 + 1)), (3, .int (x3 + 0)), (0, .ref (tX_ad v 0)), (1, .int a1), (2, .int a2)]) rfl ?_
          refine ts_goto 5 X dX10_isDone_61 (by decide) ?_
          exact ts_sub [2, 3, 4, 1, 0] rfl (hX5 _ _ _ hw)
        · have hw := ts_itp hw c
          refine ts_iload_n X dX10_isDone_35 2 rfl ?_
          refine ts_aload_n X dX10_isDone_36 0 rfl ?_
          refine gf_X10_43 X dX10_isDone_37 ?_
          refine ts_iconst X dX10_isDone_40 (v := 1) (by decide) ?_
          refine mi_ald X tM_c12 hw.1 dX10_isDone_41 ?_
          have hw := hw.2
          refine ts_ior X dX10_isDone_42 ?_
          refine ts_iload X dX10_isDone_43 4 rfl ?_
          refine ts_callSi X (As := [.int (a2 ||| (σ 12 (1 : Int32).toNatClampNeg)), .int x4]) (ct_X10_has g.2.1 v hi _ _ _ _ hw) ok_X10_has cw_X10_139 (ts_le hgn (by decide)) (by decide) rfl rfl (Nat.le_of_ble_eq_true rfl) dX10_isDone_45 (fun r3 s4 hw => ?_)
          refine ts_if_ne 55 X dX10_isDone_48 (by decide) (fun c => ?_) (fun c => ?_)
          · have hw := ts_itn hw c
            refine ts_iconst X dX10_isDone_55 (v := 0) (by decide) ?_
            refine ts_iadd X dX10_isDone_56 ?_
            refine ts_istore_n X dX10_isDone_57 (by decide) (lv' := [(3, .int (x3 + 0)), (0, .ref (tX_ad v 0)), (1, .int a1), (2, .int a2), (4, .int x4)]) rfl ?_
            refine ts_iinc X dX10_isDone_58 4 rfl (v := x4 + 1) rfl (by decide) (lv' := [(4, .int (x4 + 1)), (3, .int (x3 + 0)), (0, .ref (tX_ad v 0)), (1, .int a1), (2, .int a2)]) rfl ?_
            refine ts_goto 5 X dX10_isDone_61 (by decide) ?_
            exact ts_sub [2, 3, 4, 1, 0] rfl (hX5 _ _ _ hw)
          · have hw := ts_itp hw c
            refine ts_iconst X dX10_isDone_51 (v := 1) (by decide) ?_
            refine ts_goto 56 X dX10_isDone_52 (by decide) ?_
            refine ts_iadd X dX10_isDone_56 ?_
            refine ts_istore_n X dX10_isDone_57 (by decide) (lv' := [(3, .int (x3 + 1)), (0, .ref (tX_ad v 0)), (1, .int a1), (2, .int a2), (4, .int x4)]) rfl ?_
            refine ts_iinc X dX10_isDone_58 4 rfl (v := x4 + 1) rfl (by decide) (lv' := [(4, .int (x4 + 1)), (3, .int (x3 + 1)), (0, .ref (tX_ad v 0)), (1, .int a1), (2, .int a2)]) rfl ?_
            refine ts_goto 5 X dX10_isDone_61 (by decide) ?_
            exact ts_sub [2, 3, 4, 1, 0] rfl (hX5 _ _ _ hw)
    exact hw _ (fun σ x3 x4 h => key _ (fun _ _ _ h => h) σ x3 x4 h)
  unfold wp_X10_isDone at hw
  show ts_G g (tM_w v) 5 σ 0 [(0, .ref (tX_ad v 0)), (1, .int a1), (2, .int a2)] []
  refine ts_iconst X dX10_isDone_0 (v := 0) (by decide) ?_
  refine ts_istore_n X dX10_isDone_1 (by decide) (lv' := [(3, .int 0), (0, .ref (tX_ad v 0)), (1, .int a1), (2, .int a2)]) rfl ?_
  refine ts_iconst X dX10_isDone_2 (v := 0) (by decide) ?_
  refine ts_istore X dX10_isDone_3 (by decide) (lv' := [(4, .int 0), (3, .int 0), (0, .ref (tX_ad v 0)), (1, .int a1), (2, .int a2)]) rfl ?_
  exact ts_sub [2, 3, 4, 1, 0] rfl (J5  _ _ _ hw)
set_option maxRecDepth 100000 in
set_option maxHeartbeats 4000000 in
theorem ct_X10_work (l : Launch) (v : tX_V) (hi : ts_inj 15 (tX_ad v)) (K : Int32 → ts_S → Prop) (σ : ts_S) (a1 : Int32) (a2 : Int32)  (hw : wp_X10_work K σ a1 a2) : ts_Mi l yX10_work (Cond.code yX10_work cX10_work 3 (some .int)) 5 (tM_w v) [.ref (tX_ad v 0), .int a1, .int a2] σ K := by
  refine ts_Mi.of_i (w := tM_w v) hi (by decide +kernel) (Nat.le_of_ble_eq_true rfl) ?_
  intro g hgl hgn X hret
  unfold wp_X10_work at hw
  show ts_G g (tM_w v) 3 σ 0 [(0, .ref (tX_ad v 0)), (1, .int a1), (2, .int a2)] []
  refine ts_iload_n X dX10_work_0 1 rfl ?_
  refine ts_iconst X dX10_work_1 (v := 0) (by decide) ?_
  refine ts_aload_n X dX10_work_2 0 rfl ?_
  refine gf_X10_127 X dX10_work_3 ?_
  refine ts_iconst X dX10_work_6 (v := 1) (by decide) ?_
  refine ts_isub X dX10_work_7 ?_
  refine ts_callSi X (As := [.int a1, .int 0, .int ((σ 0 3) - 1)]) (ct_X10_in g.2.1 v hi _ _ _ _ _ hw) ok_X10_in cw_X10_76 (ts_le hgn (by decide)) (by decide) rfl rfl (Nat.le_of_ble_eq_true rfl) dX10_work_8 (fun r11 s12 hw => ?_)
  refine ts_if_eq 23 X dX10_work_11 (by decide) (fun c => ?_) (fun c => ?_)
  · have hw := ts_itp hw c
    refine ts_iconst X dX10_work_23 (v := (-1)) (by decide) ?_
    exact hret _ _ _ _ hw dX10_work_24
  · have hw := ts_itn hw c
    refine ts_iload_n X dX10_work_14 2 rfl ?_
    refine ts_iconst X dX10_work_15 (v := 0) (by decide) ?_
    refine ts_iconst X dX10_work_16 (v := 2) (by decide) ?_
    refine ts_callSi X (As := [.int a2, .int 0, .int 2]) (ct_X10_in g.2.1 v hi _ _ _ _ _ hw) ok_X10_in cw_X10_76 (ts_le hgn (by decide)) (by decide) rfl rfl (Nat.le_of_ble_eq_true rfl) dX10_work_17 (fun r13 s14 hw => ?_)
    refine ts_if_ne 25 X dX10_work_20 (by decide) (fun c => ?_) (fun c => ?_)
    · have hw := ts_itn hw c
      refine ts_aload_n X dX10_work_25 0 rfl ?_
      refine ts_callVv (w := tM_w v) X (k := 0) (by decide : 0 < 15) rfl rfl rfl (As := []) (ct_X10_asItIs g.2.1 v hi _ _  hw) ok_X10_asItIs cw_X10_159 (ts_le hgn (by decide)) (by decide) rfl rfl (Nat.le_of_ble_eq_true rfl) dX10_work_26 (fun s16 hw => ?_)
      refine ts_iload_n X dX10_work_29 2 rfl ?_
      refine ts_iconst X dX10_work_30 (v := 2) (by decide) ?_
      refine ts_icmp_ge 47 X dX10_work_31 (by decide) (fun c => ?_) (fun c => ?_)
      · have hw := ts_itp hw c
        refine ts_aload_n X dX10_work_47 0 rfl ?_
        refine ts_iload_n X dX10_work_48 1 rfl ?_
        refine ts_aload_n X dX10_work_49 0 rfl ?_
        refine ts_callVi (w := tM_w v) X (k := 0) (by decide : 0 < 15) rfl rfl rfl (As := []) (ct_X10_frozen g.2.1 v hi _ _  hw) ok_X10_frozen cw_X10_150 (ts_le hgn (by decide)) (by decide) rfl rfl (Nat.le_of_ble_eq_true rfl) dX10_work_50 (fun r17 s18 hw => ?_)
        refine ts_callVi (w := tM_w v) X (k := 0) (by decide : 0 < 15) rfl rfl rfl (As := [.int a1, .int r17]) (ct_X10_isDone g.2.1 v hi _ _ _ _ hw) ok_X10_isDone cw_X10_153 (ts_le hgn (by decide)) (by decide) rfl rfl (Nat.le_of_ble_eq_true rfl) dX10_work_53 (fun r19 s20 hw => ?_)
        refine ts_if_eq 63 X dX10_work_56 (by decide) (fun c => ?_) (fun c => ?_)
        · have hw := ts_itp hw c
          refine ts_iconst X dX10_work_63 (v := 0) (by decide) ?_
          exact hret _ _ _ _ hw dX10_work_64
        · have hw := ts_itn hw c
          refine ts_iconst X dX10_work_59 (v := 1) (by decide) ?_
          refine ts_goto 64 X dX10_work_60 (by decide) ?_
          exact hret _ _ _ _ hw dX10_work_64
      · have hw := ts_itn hw c
        refine ts_aload_n X dX10_work_34 0 rfl ?_
        refine gf_X10_13 X dX10_work_35 ?_
        refine ts_iconst X dX10_work_38 (v := 2) (by decide) ?_
        refine ts_iload_n X dX10_work_39 1 rfl ?_
        refine ts_imul X dX10_work_40 ?_
        refine ts_iload_n X dX10_work_41 2 rfl ?_
        refine ts_iadd X dX10_work_42 ?_
        refine mi_ald X tM_c2 hw.1 dX10_work_43 ?_
        have hw := hw.2
        refine ts_goto 64 X dX10_work_44 (by decide) ?_
        exact hret _ _ _ _ hw dX10_work_64
    · have hw := ts_itp hw c
      refine ts_iconst X dX10_work_23 (v := (-1)) (by decide) ?_
      exact hret _ _ _ _ hw dX10_work_24
set_option maxRecDepth 100000 in
set_option maxHeartbeats 4000000 in
theorem ct_X10_goesBy (l : Launch) (v : tX_V) (hi : ts_inj 15 (tX_ad v)) (K : ts_S → Prop) (σ : ts_S)   (hw : wp_X10_goesBy K σ ) : ts_Mv l yX10_goesBy (Cond.code yX10_goesBy cX10_goesBy 5 (none)) 5 (tM_w v) [.ref (tX_ad v 0)] σ K := by
  refine ts_Mv.of_v (w := tM_w v) hi (by decide +kernel) (Nat.le_of_ble_eq_true rfl) ?_
  intro g hgl hgn X hret
  have J63 : ∀ (σ : ts_S) (x1 : Int32) (x2 : Int32) (x3 : Int32), wp_X10_goesBy_l63 K  σ x1 x2 x3 → ts_G g (tM_w v) 5 σ 63 [(0, .ref (tX_ad v 0)), (1, .int x1), (2, .int x2), (3, .int x3)] [] := by
    intro  σ x1 x2 x3 hw
    have key : ∀ X63 : ts_S → Int32 → Prop, (∀ (σ : ts_S) (x3 : Int32), X63 σ x3 → ts_G g (tM_w v) 5 σ 63 [(0, .ref (tX_ad v 0)), (1, .int x1), (2, .int x2), (3, .int x3)] []) → ∀ (σ : ts_S) (x3 : Int32), wp_X10_goesBy_b63 K X63  x1 x2 σ x3 → ts_G g (tM_w v) 5 σ 63 [(0, .ref (tX_ad v 0)), (1, .int x1), (2, .int x2), (3, .int x3)] [] := by
      intro X63 hX63
      have J182 : ∀ (σ : ts_S) (x3 : Int32) (y0 : Int32) (y1 : Int32) (y2 : Int32), wp_X10_goesBy_j182 K X63  σ x1 x2 x3 y0 y1 y2 → ts_G g (tM_w v) 5 σ 182 [(0, .ref (tX_ad v 0)), (1, .int x1), (2, .int x2), (3, .int x3)] [.int y0, .int y1, .int y2, .ref (tX_ad v 12)] := by
        intro  σ x3 y0 y1 y2 hw
        unfold wp_X10_goesBy_j182 at hw
        refine ts_iadd X dX10_goesBy_182 ?_
        refine mi_ast X tM_c12 hw.1 dX10_goesBy_183 (fun s16 es16 => ?_)
        have hw := hw.2 s16 es16
        refine ts_iinc X dX10_goesBy_184 3 rfl (v := x3 + 1) rfl (by decide) (lv' := [(3, .int (x3 + 1)), (0, .ref (tX_ad v 0)), (1, .int x1), (2, .int x2)]) rfl ?_
        refine ts_goto 63 X dX10_goesBy_187 (by decide) ?_
        exact ts_sub [1, 2, 3, 0] rfl (hX63 _ _ hw)
      have J153 : ∀ (σ : ts_S) (x3 : Int32), wp_X10_goesBy_j153 K X63  σ x1 x2 x3 → ts_G g (tM_w v) 5 σ 153 [(0, .ref (tX_ad v 0)), (1, .int x1), (2, .int x2), (3, .int x3)] [] := by
        intro  σ x3 hw
        unfold wp_X10_goesBy_j153 at hw
        refine ts_aload_n X dX10_goesBy_153 0 rfl ?_
        refine gf_X10_43 X dX10_goesBy_154 ?_
        refine ts_bipush X dX10_goesBy_157 (v := 9) (by decide) ?_
        refine ts_iload_n X dX10_goesBy_159 3 rfl ?_
        refine ts_iadd X dX10_goesBy_160 ?_
        refine ts_dup2 X dX10_goesBy_161 rfl rfl ?_
        refine mi_ald X tM_c12 hw.1 dX10_goesBy_162 ?_
        have hw := hw.2
        refine ts_aload_n X dX10_goesBy_163 0 rfl ?_
        refine gf_X10_43 X dX10_goesBy_164 ?_
        refine ts_bipush X dX10_goesBy_167 (v := 9) (by decide) ?_
        refine ts_iload_n X dX10_goesBy_169 3 rfl ?_
        refine ts_iadd X dX10_goesBy_170 ?_
        refine mi_ald X tM_c12 hw.1 dX10_goesBy_171 ?_
        have hw := hw.2
        refine ts_bipush X dX10_goesBy_172 (v := 99) (by decide) ?_
        refine ts_icmp_ge 181 X dX10_goesBy_174 (by decide) (fun c => ?_) (fun c => ?_)
        · have hw := ts_itp hw c
          refine ts_iconst X dX10_goesBy_181 (v := 0) (by decide) ?_
          exact ts_sub [0, 1, 2, 3] rfl (J182  _ _ _ _ _ hw)
        · have hw := ts_itn hw c
          refine ts_iconst X dX10_goesBy_177 (v := 1) (by decide) ?_
          refine ts_goto 182 X dX10_goesBy_178 (by decide) ?_
          exact ts_sub [0, 1, 2, 3] rfl (J182  _ _ _ _ _ hw)
      have J152 : ∀ (σ : ts_S) (x3 : Int32) (y0 : Int32) (y1 : Int32), wp_X10_goesBy_j152 K X63  σ x1 x2 x3 y0 y1 → ts_G g (tM_w v) 5 σ 152 [(0, .ref (tX_ad v 0)), (1, .int x1), (2, .int x2), (3, .int x3)] [.int y0, .int y1, .ref (tX_ad v 12)] := by
        intro  σ x3 y0 y1 hw
        unfold wp_X10_goesBy_j152 at hw
        refine mi_ast X tM_c12 hw.1 dX10_goesBy_152 (fun s17 es17 => ?_)
        have hw := hw.2 s17 es17
        exact ts_sub [0, 1, 2, 3] rfl (J153  _ _ hw)
      have J119 : ∀ (σ : ts_S) (x3 : Int32) (y0 : Int32), wp_X10_goesBy_j119 K X63  σ x1 x2 x3 y0 → ts_G g (tM_w v) 5 σ 119 [(0, .ref (tX_ad v 0)), (1, .int x1), (2, .int x2), (3, .int x3)] [.int y0] := by
        intro  σ x3 y0 hw
        unfold wp_X10_goesBy_j119 at hw
        refine ts_istore X dX10_goesBy_119 (by decide) (lv' := [(4, .int y0), (0, .ref (tX_ad v 0)), (1, .int x1), (2, .int x2), (3, .int x3)]) rfl ?_
        refine ts_aload_n X dX10_goesBy_121 1 rfl ?_
        refine gf_X10_43 X dX10_goesBy_122 ?_
        refine ts_bipush X dX10_goesBy_125 (v := 15) (by decide) ?_
        refine ts_iload_n X dX10_goesBy_127 4 rfl ?_
        refine ts_iadd X dX10_goesBy_128 ?_
        refine ts_iload X dX10_goesBy_129 0 rfl ?_
        refine ts_if_ge 138 X dX10_goesBy_131 (by decide) (fun c => ?_) (fun c => ?_)
        · have hw := ts_itp hw c
          refine ts_iload X dX10_goesBy_138 0 rfl ?_
          refine ts_bipush X dX10_goesBy_140 (v := 30) (by decide) ?_
          refine ts_icmp_le 150 X dX10_goesBy_142 (by decide) (fun c => ?_) (fun c => ?_)
          · have hw := ts_itp hw c
            refine ts_iload X dX10_goesBy_150 0 rfl ?_
            exact ts_sub [1, 2, 3, 4] rfl (J152  _ _ _ _ hw)
          · have hw := ts_itn hw c
            refine ts_bipush X dX10_goesBy_145 (v := 30) (by decide) ?_
            refine ts_goto 152 X dX10_goesBy_147 (by decide) ?_
            exact ts_sub [1, 2, 3, 4] rfl (J152  _ _ _ _ hw)
        · have hw := ts_itn hw c
          refine ts_iconst X dX10_goesBy_134 (v := 0) (by decide) ?_
          refine ts_goto 152 X dX10_goesBy_135 (by decide) ?_
          exact ts_sub [1, 2, 3, 4] rfl (J152  _ _ _ _ hw)
      intro σ x3 hw
      unfold wp_X10_goesBy_b63 at hw
      refine ts_iload_n X dX10_goesBy_63 3 rfl ?_
      refine ts_aload_n X dX10_goesBy_64 0 rfl ?_
      refine gf_X10_73 X dX10_goesBy_65 ?_
      refine ts_icmp_ge 190 X dX10_goesBy_68 (by decide) (fun c => ?_) (fun c => ?_)
      · have hw := ts_itp hw c
        refine ts_aload_n X dX10_goesBy_190 0 rfl ?_
        refine gf_X10_43 X dX10_goesBy_191 ?_
        refine ts_iconst X dX10_goesBy_194 (v := 1) (by decide) ?_
        refine ts_dup2 X dX10_goesBy_195 rfl rfl ?_
        refine mi_ald X tM_c12 hw.1 dX10_goesBy_196 ?_
        have hw := hw.2
        refine ts_iload_n X dX10_goesBy_197 2 rfl ?_
        refine ts_ior X dX10_goesBy_198 ?_
        refine mi_ast X tM_c12 hw.1 dX10_goesBy_199 (fun s18 es18 => ?_)
        have hw := hw.2 s18 es18
        refine ts_aload_n X dX10_goesBy_200 0 rfl ?_
        refine gf_X10_43 X dX10_goesBy_201 ?_
        refine ts_iconst X dX10_goesBy_204 (v := 2) (by decide) ?_
        refine ts_iconst X dX10_goesBy_205 (v := 0) (by decide) ?_
        refine mi_ast X tM_c12 hw.1 dX10_goesBy_206 (fun s19 es19 => ?_)
        have hw := hw.2 s19 es19
        refine ts_aload_n X dX10_goesBy_207 0 rfl ?_
        refine gf_X10_43 X dX10_goesBy_208 ?_
        refine ts_iconst X dX10_goesBy_211 (v := 0) (by decide) ?_
        refine ts_dup2 X dX10_goesBy_212 rfl rfl ?_
        refine mi_ald X tM_c12 hw.1 dX10_goesBy_213 ?_
        have hw := hw.2
        refine ts_iconst X dX10_goesBy_214 (v := 1) (by decide) ?_
        refine ts_iadd X dX10_goesBy_215 ?_
        refine mi_ast X tM_c12 hw.1 dX10_goesBy_216 (fun s20 es20 => ?_)
        have hw := hw.2 s20 es20
        exact hret _ _ _ hw dX10_goesBy_217
      · have hw := ts_itn hw c
        refine ts_aload_n X dX10_goesBy_71 0 rfl ?_
        refine gf_X10_43 X dX10_goesBy_72 ?_
        refine ts_iconst X dX10_goesBy_75 (v := 1) (by decide) ?_
        refine mi_ald X tM_c12 hw.1 dX10_goesBy_76 ?_
        have hw := hw.2
        refine ts_iload_n X dX10_goesBy_77 2 rfl ?_
        refine ts_ior X dX10_goesBy_78 ?_
        refine ts_iload_n X dX10_goesBy_79 3 rfl ?_
        refine ts_callSi X (As := [.int ((σ 12 (1 : Int32).toNatClampNeg) ||| x2), .int x3]) (ct_X10_has g.2.1 v hi _ _ _ _ hw) ok_X10_has cw_X10_139 (ts_le hgn (by decide)) (by decide) rfl rfl (Nat.le_of_ble_eq_true rfl) dX10_goesBy_80 (fun r21 s22 hw => ?_)
        refine ts_if_ne 153 X dX10_goesBy_83 (by decide) (fun c => ?_) (fun c => ?_)
        · have hw := ts_itn hw c
          exact ts_sub [0, 1, 2, 3] rfl (J153  _ _ hw)
        · have hw := ts_itp hw c
          refine ts_iload_n X dX10_goesBy_86 1 rfl ?_
          refine ts_iload_n X dX10_goesBy_87 3 rfl ?_
          refine ts_callSi X (As := [.int x1, .int x3]) (ct_X10_has g.2.1 v hi _ _ _ _ hw) ok_X10_has cw_X10_139 (ts_le hgn (by decide)) (by decide) rfl rfl (Nat.le_of_ble_eq_true rfl) dX10_goesBy_88 (fun r23 s24 hw => ?_)
          refine ts_if_eq 108 X dX10_goesBy_91 (by decide) (fun c => ?_) (fun c => ?_)
          · have hw := ts_itp hw c
            refine ts_aload_n X dX10_goesBy_108 0 rfl ?_
            refine gf_X10_43 X dX10_goesBy_109 ?_
            refine ts_bipush X dX10_goesBy_112 (v := 15) (by decide) ?_
            refine ts_iload_n X dX10_goesBy_114 3 rfl ?_
            refine ts_iadd X dX10_goesBy_115 ?_
            refine mi_ald X tM_c12 hw.1 dX10_goesBy_116 ?_
            have hw := hw.2
            refine ts_iconst X dX10_goesBy_117 (v := 1) (by decide) ?_
            refine ts_iadd X dX10_goesBy_118 ?_
            exact ts_sub [0, 1, 2, 3] rfl (J119  _ _ _ hw)
          · have hw := ts_itn hw c
            refine ts_aload_n X dX10_goesBy_94 0 rfl ?_
            refine gf_X10_43 X dX10_goesBy_95 ?_
            refine ts_bipush X dX10_goesBy_98 (v := 15) (by decide) ?_
            refine ts_iload_n X dX10_goesBy_100 3 rfl ?_
            refine ts_iadd X dX10_goesBy_101 ?_
            refine mi_ald X tM_c12 hw.1 dX10_goesBy_102 ?_
            have hw := hw.2
            refine ts_iconst X dX10_goesBy_103 (v := 1) (by decide) ?_
            refine ts_isub X dX10_goesBy_104 ?_
            refine ts_goto 119 X dX10_goesBy_105 (by decide) ?_
            exact ts_sub [0, 1, 2, 3] rfl (J119  _ _ _ hw)
    exact hw _ (fun σ x3 h => key _ (fun _ _ h => h) σ x3 h)
  have J9 : ∀ (σ : ts_S) (x1 : Int32) (x2 : Int32) (x3 : Int32), wp_X10_goesBy_l9 K  σ x1 x2 x3 → ts_G g (tM_w v) 5 σ 9 [(0, .ref (tX_ad v 0)), (1, .int x1), (2, .int x2), (3, .int x3)] [] := by
    intro  σ x1 x2 x3 hw
    have key : ∀ X9 : ts_S → Int32 → Int32 → Prop, (∀ (σ : ts_S) (x2 : Int32) (x3 : Int32), X9 σ x2 x3 → ts_G g (tM_w v) 5 σ 9 [(0, .ref (tX_ad v 0)), (1, .int x1), (2, .int x2), (3, .int x3)] []) → ∀ (σ : ts_S) (x2 : Int32) (x3 : Int32), wp_X10_goesBy_b9 K X9  x1 σ x2 x3 → ts_G g (tM_w v) 5 σ 9 [(0, .ref (tX_ad v 0)), (1, .int x1), (2, .int x2), (3, .int x3)] [] := by
      intro X9 hX9
      intro σ x2 x3 hw
      unfold wp_X10_goesBy_b9 at hw
      refine ts_iload_n X dX10_goesBy_9 3 rfl ?_
      refine ts_aload_n X dX10_goesBy_10 0 rfl ?_
      refine gf_X10_73 X dX10_goesBy_11 ?_
      refine ts_icmp_ge 61 X dX10_goesBy_14 (by decide) (fun c => ?_) (fun c => ?_)
      · have hw := ts_itp hw c
        refine ts_iconst X dX10_goesBy_61 (v := 0) (by decide) ?_
        refine ts_istore_n X dX10_goesBy_62 (by decide) (lv' := [(3, .int 0), (0, .ref (tX_ad v 0)), (1, .int x1), (2, .int x2)]) rfl ?_
        exact ts_sub [1, 2, 3, 0] rfl (J63  _ _ _ _ hw)
      · have hw := ts_itn hw c
        refine ts_iload_n X dX10_goesBy_17 2 rfl ?_
        refine ts_iload_n X dX10_goesBy_18 1 rfl ?_
        refine ts_iload_n X dX10_goesBy_19 3 rfl ?_
        refine ts_callSi X (As := [.int x1, .int x3]) (ct_X10_has g.2.1 v hi _ _ _ _ hw) ok_X10_has cw_X10_139 (ts_le hgn (by decide)) (by decide) rfl rfl (Nat.le_of_ble_eq_true rfl) dX10_goesBy_20 (fun r25 s26 hw => ?_)
        refine ts_if_eq 52 X dX10_goesBy_23 (by decide) (fun c => ?_) (fun c => ?_)
        · have hw := ts_itp hw c
          refine ts_iconst X dX10_goesBy_52 (v := 0) (by decide) ?_
          refine ts_ior X dX10_goesBy_53 ?_
          refine ts_istore_n X dX10_goesBy_54 (by decide) (lv' := [(2, .int (x2 ||| 0)), (0, .ref (tX_ad v 0)), (1, .int x1), (3, .int x3)]) rfl ?_
          refine ts_iinc X dX10_goesBy_55 3 rfl (v := x3 + 1) rfl (by decide) (lv' := [(3, .int (x3 + 1)), (2, .int (x2 ||| 0)), (0, .ref (tX_ad v 0)), (1, .int x1)]) rfl ?_
          refine ts_goto 9 X dX10_goesBy_58 (by decide) ?_
          exact ts_sub [2, 3, 1, 0] rfl (hX9 _ _ _ hw)
        · have hw := ts_itn hw c
          refine ts_aload_n X dX10_goesBy_26 0 rfl ?_
          refine ts_iload_n X dX10_goesBy_27 3 rfl ?_
          refine ts_callVi (w := tM_w v) X (k := 0) (by decide : 0 < 15) rfl rfl rfl (As := [.int x3]) (ct_X10_fearOf g.2.1 v hi _ _ _ hw) ok_X10_fearOf cw_X10_147 (ts_le hgn (by decide)) (by decide) rfl rfl (Nat.le_of_ble_eq_true rfl) dX10_goesBy_28 (fun r27 s28 hw => ?_)
          refine ts_aload_n X dX10_goesBy_31 0 rfl ?_
          refine gf_X10_43 X dX10_goesBy_32 ?_
          refine ts_bipush X dX10_goesBy_35 (v := 15) (by decide) ?_
          refine ts_iload_n X dX10_goesBy_37 3 rfl ?_
          refine ts_iadd X dX10_goesBy_38 ?_
          refine mi_ald X tM_c12 hw.1 dX10_goesBy_39 ?_
          have hw := hw.2
          refine ts_isub X dX10_goesBy_40 ?_
          refine ts_bipush X dX10_goesBy_41 (v := 8) (by decide) ?_
          refine ts_icmp_lt 52 X dX10_goesBy_43 (by decide) (fun c => ?_) (fun c => ?_)
          · have hw := ts_itp hw c
            refine ts_iconst X dX10_goesBy_52 (v := 0) (by decide) ?_
            refine ts_ior X dX10_goesBy_53 ?_
            refine ts_istore_n X dX10_goesBy_54 (by decide) (lv' := [(2, .int (x2 ||| 0)), (0, .ref (tX_ad v 0)), (1, .int x1), (3, .int x3)]) rfl ?_
            refine ts_iinc X dX10_goesBy_55 3 rfl (v := x3 + 1) rfl (by decide) (lv' := [(3, .int (x3 + 1)), (2, .int (x2 ||| 0)), (0, .ref (tX_ad v 0)), (1, .int x1)]) rfl ?_
            refine ts_goto 9 X dX10_goesBy_58 (by decide) ?_
            exact ts_sub [2, 3, 1, 0] rfl (hX9 _ _ _ hw)
          · have hw := ts_itn hw c
            refine ts_iconst X dX10_goesBy_46 (v := 1) (by decide) ?_
            refine ts_iload_n X dX10_goesBy_47 3 rfl ?_
            refine ts_ishl X dX10_goesBy_48 ?_
            refine ts_goto 53 X dX10_goesBy_49 (by decide) ?_
            refine ts_ior X dX10_goesBy_53 ?_
            refine ts_istore_n X dX10_goesBy_54 (by decide) (lv' := [(2, .int (x2 ||| (1 <<< (x3 &&& 31)))), (0, .ref (tX_ad v 0)), (1, .int x1), (3, .int x3)]) rfl ?_
            refine ts_iinc X dX10_goesBy_55 3 rfl (v := x3 + 1) rfl (by decide) (lv' := [(3, .int (x3 + 1)), (2, .int (x2 ||| (1 <<< (x3 &&& 31)))), (0, .ref (tX_ad v 0)), (1, .int x1)]) rfl ?_
            refine ts_goto 9 X dX10_goesBy_58 (by decide) ?_
            exact ts_sub [2, 3, 1, 0] rfl (hX9 _ _ _ hw)
    exact hw _ (fun σ x2 x3 h => key _ (fun _ _ _ h => h) σ x2 x3 h)
  unfold wp_X10_goesBy at hw
  show ts_G g (tM_w v) 5 σ 0 [(0, .ref (tX_ad v 0))] []
  refine ts_aload_n X dX10_goesBy_0 0 rfl ?_
  refine ts_callVi (w := tM_w v) X (k := 0) (by decide : 0 < 15) rfl rfl rfl (As := []) (ct_X10_frozen g.2.1 v hi _ _  hw) ok_X10_frozen cw_X10_150 (ts_le hgn (by decide)) (by decide) rfl rfl (Nat.le_of_ble_eq_true rfl) dX10_goesBy_1 (fun r29 s30 hw => ?_)
  refine ts_istore_n X dX10_goesBy_4 (by decide) (lv' := [(1, .int r29), (0, .ref (tX_ad v 0))]) rfl ?_
  refine ts_iconst X dX10_goesBy_5 (v := 0) (by decide) ?_
  refine ts_istore_n X dX10_goesBy_6 (by decide) (lv' := [(2, .int 0), (1, .int r29), (0, .ref (tX_ad v 0))]) rfl ?_
  refine ts_iconst X dX10_goesBy_7 (v := 0) (by decide) ?_
  refine ts_istore_n X dX10_goesBy_8 (by decide) (lv' := [(3, .int 0), (2, .int 0), (1, .int r29), (0, .ref (tX_ad v 0))]) rfl ?_
  exact ts_sub [3, 2, 1, 0] rfl (J9  _ _ _ _ hw)
set_option maxRecDepth 100000 in
set_option maxHeartbeats 4000000 in
theorem ct_X10_becomes (l : Launch) (v : tX_V) (hi : ts_inj 15 (tX_ad v)) (K : ts_S → Prop) (σ : ts_S)   (hw : wp_X10_becomes K σ ) : ts_Mv l yX10_becomes (Cond.code yX10_becomes cX10_becomes 2 (none)) 2 (tM_w v) [.ref (tX_ad v 0)] σ K := by
  refine ts_Mv.of_v (w := tM_w v) hi (by decide +kernel) (Nat.le_of_ble_eq_true rfl) ?_
  intro g hgl hgn X hret
  have J49 : ∀ (σ : ts_S), wp_X10_becomes_j49 K  σ  → ts_G g (tM_w v) 2 σ 49 [(0, .ref (tX_ad v 0))] [] := by
    intro  σ  hw
    unfold wp_X10_becomes_j49 at hw
    refine ts_aload_n X dX10_becomes_49 0 rfl ?_
    refine gf_X10_19 X dX10_becomes_50 ?_
    refine ts_bipush X dX10_becomes_53 (v := 21) (by decide) ?_
    refine ts_aload_n X dX10_becomes_55 0 rfl ?_
    refine gf_X10_130 X dX10_becomes_56 ?_
    refine ts_imul X dX10_becomes_59 ?_
    refine ts_aload_n X dX10_becomes_60 0 rfl ?_
    refine gf_X10_16 X dX10_becomes_61 ?_
    refine ts_iconst X dX10_becomes_64 (v := 0) (by decide) ?_
    refine ts_bipush X dX10_becomes_65 (v := 21) (by decide) ?_
    refine ts_callSv X (As := [.ref (tX_ad v 4), .int (21 * (σ 0 6)), .ref (tX_ad v 3), .int 0, .int 21]) (ct_X10_copies g.2.1 v hi _ _ _ _ _ _ _ tM_c4 tM_c3 hw) ok_X10_copies cw_X10_123 (ts_le hgn (by decide)) (by decide) rfl rfl (Nat.le_of_ble_eq_true rfl) dX10_becomes_67 (fun s9 hw => ?_)
    refine ts_aload_n X dX10_becomes_70 0 rfl ?_
    refine ts_dup X dX10_becomes_71 rfl ?_
    refine gf_X10_130 X dX10_becomes_72 ?_
    refine ts_iconst X dX10_becomes_75 (v := 1) (by decide) ?_
    refine ts_iadd X dX10_becomes_76 ?_
    refine pf_X10_130 X dX10_becomes_77 (fun s10 es10 => ?_)
    have hw := hw s10 es10
    refine ts_aload_n X dX10_becomes_80 0 rfl ?_
    refine gf_X10_16 X dX10_becomes_81 ?_
    refine ts_iconst X dX10_becomes_84 (v := 0) (by decide) ?_
    refine ts_aload_n X dX10_becomes_85 0 rfl ?_
    refine gf_X10_43 X dX10_becomes_86 ?_
    refine ts_iconst X dX10_becomes_89 (v := 0) (by decide) ?_
    refine ts_bipush X dX10_becomes_90 (v := 21) (by decide) ?_
    refine ts_callSv X (As := [.ref (tX_ad v 3), .int 0, .ref (tX_ad v 12), .int 0, .int 21]) (ct_X10_copies g.2.1 v hi _ _ _ _ _ _ _ tM_c3 tM_c12 hw) ok_X10_copies cw_X10_123 (ts_le hgn (by decide)) (by decide) rfl rfl (Nat.le_of_ble_eq_true rfl) dX10_becomes_92 (fun s12 hw => ?_)
    exact hret _ _ _ hw dX10_becomes_95
  have J11 : ∀ (σ : ts_S) (x1 : Int32), wp_X10_becomes_l11 K  σ x1 → ts_G g (tM_w v) 2 σ 11 [(0, .ref (tX_ad v 0)), (1, .int x1)] [] := by
    intro  σ x1 hw
    have key : ∀ X11 : ts_S → Int32 → Prop, (∀ (σ : ts_S) (x1 : Int32), X11 σ x1 → ts_G g (tM_w v) 2 σ 11 [(0, .ref (tX_ad v 0)), (1, .int x1)] []) → ∀ (σ : ts_S) (x1 : Int32), wp_X10_becomes_b11 K X11   σ x1 → ts_G g (tM_w v) 2 σ 11 [(0, .ref (tX_ad v 0)), (1, .int x1)] [] := by
      intro X11 hX11
      intro σ x1 hw
      unfold wp_X10_becomes_b11 at hw
      refine ts_iload_n X dX10_becomes_11 1 rfl ?_
      refine ts_sipush X dX10_becomes_12 (v := 147) (by decide) ?_
      refine ts_icmp_ge 39 X dX10_becomes_15 (by decide) (fun c => ?_) (fun c => ?_)
      · have hw := ts_itp hw c
        refine ts_aload_n X dX10_becomes_39 0 rfl ?_
        refine ts_dup X dX10_becomes_40 rfl ?_
        refine gf_X10_130 X dX10_becomes_41 ?_
        refine ts_iconst X dX10_becomes_44 (v := 1) (by decide) ?_
        refine ts_isub X dX10_becomes_45 ?_
        refine pf_X10_130 X dX10_becomes_46 (fun s13 es13 => ?_)
        have hw := hw s13 es13
        exact ts_sub [0] rfl (J49  _  hw)
      · have hw := ts_itn hw c
        refine ts_aload_n X dX10_becomes_18 0 rfl ?_
        refine gf_X10_19 X dX10_becomes_19 ?_
        refine ts_iload_n X dX10_becomes_22 1 rfl ?_
        refine ts_aload_n X dX10_becomes_23 0 rfl ?_
        refine gf_X10_19 X dX10_becomes_24 ?_
        refine ts_iload_n X dX10_becomes_27 1 rfl ?_
        refine ts_bipush X dX10_becomes_28 (v := 21) (by decide) ?_
        refine ts_iadd X dX10_becomes_30 ?_
        refine mi_ald X tM_c4 hw.1 dX10_becomes_31 ?_
        have hw := hw.2
        refine mi_ast X tM_c4 hw.1 dX10_becomes_32 (fun s14 es14 => ?_)
        have hw := hw.2 s14 es14
        refine ts_iinc X dX10_becomes_33 1 rfl (v := x1 + 1) rfl (by decide) (lv' := [(1, .int (x1 + 1)), (0, .ref (tX_ad v 0))]) rfl ?_
        refine ts_goto 11 X dX10_becomes_36 (by decide) ?_
        exact ts_sub [1, 0] rfl (hX11 _ _ hw)
    exact hw _ (fun σ x1 h => key _ (fun _ _ h => h) σ x1 h)
  unfold wp_X10_becomes at hw
  show ts_G g (tM_w v) 2 σ 0 [(0, .ref (tX_ad v 0))] []
  refine ts_aload_n X dX10_becomes_0 0 rfl ?_
  refine gf_X10_130 X dX10_becomes_1 ?_
  refine ts_bipush X dX10_becomes_4 (v := 8) (by decide) ?_
  refine ts_icmp_ne 49 X dX10_becomes_6 (by decide) (fun c => ?_) (fun c => ?_)
  · have hw := ts_itn hw c
    exact ts_sub [0] rfl (J49  _  hw)
  · have hw := ts_itp hw c
    refine ts_iconst X dX10_becomes_9 (v := 0) (by decide) ?_
    refine ts_istore_n X dX10_becomes_10 (by decide) (lv' := [(1, .int 0), (0, .ref (tX_ad v 0))]) rfl ?_
    exact ts_sub [1, 0] rfl (J11  _ _ hw)
set_option maxRecDepth 100000 in
set_option maxHeartbeats 4000000 in
theorem ct_X10_pass (l : Launch) (v : tX_V) (hi : ts_inj 15 (tX_ad v)) (K : Int32 → ts_S → Prop) (σ : ts_S) (a1 : Int32)  (hw : wp_X10_pass K σ a1) : ts_Mi l yX10_pass (Cond.code yX10_pass cX10_pass 3 (some .int)) 6 (tM_w v) [.ref (tX_ad v 0), .int a1] σ K := by
  refine ts_Mi.of_i (w := tM_w v) hi (by decide +kernel) (Nat.le_of_ble_eq_true rfl) ?_
  intro g hgl hgn X hret
  have J35 : ∀ (σ : ts_S) (x2 : Int32), wp_X10_pass_l35 K a1 σ x2 → ts_G g (tM_w v) 3 σ 35 [(0, .ref (tX_ad v 0)), (1, .int a1), (2, .int x2)] [] := by
    intro  σ x2 hw
    have key : ∀ X35 : ts_S → Int32 → Prop, (∀ (σ : ts_S) (x2 : Int32), X35 σ x2 → ts_G g (tM_w v) 3 σ 35 [(0, .ref (tX_ad v 0)), (1, .int a1), (2, .int x2)] []) → ∀ (σ : ts_S) (x2 : Int32), wp_X10_pass_b35 K X35 a1  σ x2 → ts_G g (tM_w v) 3 σ 35 [(0, .ref (tX_ad v 0)), (1, .int a1), (2, .int x2)] [] := by
      intro X35 hX35
      intro σ x2 hw
      unfold wp_X10_pass_b35 at hw
      refine ts_iload_n X dX10_pass_35 2 rfl ?_
      refine ts_iload_n X dX10_pass_36 1 rfl ?_
      refine ts_icmp_ge 50 X dX10_pass_37 (by decide) (fun c => ?_) (fun c => ?_)
      · have hw := ts_itp hw c
        refine ts_aload_n X dX10_pass_50 0 rfl ?_
        refine ts_callVv (w := tM_w v) X (k := 0) (by decide : 0 < 15) rfl rfl rfl (As := []) (ct_X10_becomes g.2.1 v hi _ _  hw) ok_X10_becomes cw_X10_171 (ts_le hgn (by decide)) (by decide) rfl rfl (Nat.le_of_ble_eq_true rfl) dX10_pass_51 (fun s10 hw => ?_)
        refine ts_aload_n X dX10_pass_54 0 rfl ?_
        refine gf_X10_16 X dX10_pass_55 ?_
        refine ts_iconst X dX10_pass_58 (v := 0) (by decide) ?_
        refine mi_ald X tM_c3 hw.1 dX10_pass_59 ?_
        have hw := hw.2
        exact hret _ _ _ _ hw dX10_pass_60
      · have hw := ts_itn hw c
        refine ts_aload_n X dX10_pass_40 0 rfl ?_
        refine ts_callVv (w := tM_w v) X (k := 0) (by decide : 0 < 15) rfl rfl rfl (As := []) (ct_X10_goesBy g.2.1 v hi _ _  hw) ok_X10_goesBy cw_X10_168 (ts_le hgn (by decide)) (by decide) rfl rfl (Nat.le_of_ble_eq_true rfl) dX10_pass_41 (fun s12 hw => ?_)
        refine ts_iinc X dX10_pass_44 2 rfl (v := x2 + 1) rfl (by decide) (lv' := [(2, .int (x2 + 1)), (0, .ref (tX_ad v 0)), (1, .int a1)]) rfl ?_
        refine ts_goto 35 X dX10_pass_47 (by decide) ?_
        exact ts_sub [1, 2, 0] rfl (hX35 _ _ hw)
    exact hw _ (fun σ x2 h => key _ (fun _ _ h => h) σ x2 h)
  unfold wp_X10_pass at hw
  show ts_G g (tM_w v) 3 σ 0 [(0, .ref (tX_ad v 0)), (1, .int a1)] []
  refine ts_iload_n X dX10_pass_0 1 rfl ?_
  refine ts_iconst X dX10_pass_1 (v := 1) (by decide) ?_
  refine ts_bipush X dX10_pass_2 (v := 40) (by decide) ?_
  refine ts_callSi X (As := [.int a1, .int 1, .int 40]) (ct_X10_in g.2.1 v hi _ _ _ _ _ hw) ok_X10_in cw_X10_76 (ts_le hgn (by decide)) (by decide) rfl rfl (Nat.le_of_ble_eq_true rfl) dX10_pass_4 (fun r13 s14 hw => ?_)
  refine ts_if_ne 12 X dX10_pass_7 (by decide) (fun c => ?_) (fun c => ?_)
  · have hw := ts_itn hw c
    refine ts_aload_n X dX10_pass_12 0 rfl ?_
    refine gf_X10_16 X dX10_pass_13 ?_
    refine ts_iconst X dX10_pass_16 (v := 0) (by decide) ?_
    refine mi_ald X tM_c3 hw.1 dX10_pass_17 ?_
    have hw := hw.2
    refine ts_iload_n X dX10_pass_18 1 rfl ?_
    refine ts_iadd X dX10_pass_19 ?_
    refine ts_sipush X dX10_pass_20 (v := 999) (by decide) ?_
    refine ts_icmp_le 29 X dX10_pass_23 (by decide) (fun c => ?_) (fun c => ?_)
    · have hw := ts_itp hw c
      refine ts_aload_n X dX10_pass_29 0 rfl ?_
      refine ts_callVv (w := tM_w v) X (k := 0) (by decide : 0 < 15) rfl rfl rfl (As := []) (ct_X10_asItIs g.2.1 v hi _ _  hw) ok_X10_asItIs cw_X10_159 (ts_le hgn (by decide)) (by decide) rfl rfl (Nat.le_of_ble_eq_true rfl) dX10_pass_30 (fun s16 hw => ?_)
      refine ts_iconst X dX10_pass_33 (v := 0) (by decide) ?_
      refine ts_istore_n X dX10_pass_34 (by decide) (lv' := [(2, .int 0), (0, .ref (tX_ad v 0)), (1, .int a1)]) rfl ?_
      exact ts_sub [1, 2, 0] rfl (J35  _ _ hw)
    · have hw := ts_itn hw c
      refine ts_bipush X dX10_pass_26 (v := (-2)) (by decide) ?_
      exact hret _ _ _ _ hw dX10_pass_28
  · have hw := ts_itp hw c
    refine ts_iconst X dX10_pass_10 (v := (-1)) (by decide) ?_
    exact hret _ _ _ _ hw dX10_pass_11
set_option maxRecDepth 100000 in
set_option maxHeartbeats 4000000 in
theorem ct_X10_canPromote (l : Launch) (v : tX_V) (hi : ts_inj 15 (tX_ad v)) (K : Int32 → ts_S → Prop) (σ : ts_S) (a1 : Int32)  (hw : wp_X10_canPromote K σ a1) : ts_Mi l yX10_canPromote (Cond.code yX10_canPromote cX10_canPromote 2 (some .boolean)) 5 (tM_w v) [.ref (tX_ad v 0), .int a1] σ K := by
  refine ts_Mi.of_z (w := tM_w v) hi (by decide +kernel) (Nat.le_of_ble_eq_true rfl) ?_
  intro g hgl hgn X hret
  unfold wp_X10_canPromote at hw
  show ts_G g (tM_w v) 2 σ 0 [(0, .ref (tX_ad v 0)), (1, .int a1)] []
  refine ts_aload_n X dX10_canPromote_0 0 rfl ?_
  refine ts_callVi (w := tM_w v) X (k := 0) (by decide : 0 < 15) rfl rfl rfl (As := []) (ct_X10_frozen g.2.1 v hi _ _  hw) ok_X10_frozen cw_X10_150 (ts_le hgn (by decide)) (by decide) rfl rfl (Nat.le_of_ble_eq_true rfl) dX10_canPromote_1 (fun r5 s6 hw => ?_)
  refine ts_aload_n X dX10_canPromote_4 0 rfl ?_
  refine gf_X10_43 X dX10_canPromote_5 ?_
  refine ts_iconst X dX10_canPromote_8 (v := 1) (by decide) ?_
  refine mi_ald X tM_c12 hw.1 dX10_canPromote_9 ?_
  have hw := hw.2
  refine ts_ior X dX10_canPromote_10 ?_
  refine ts_iload_n X dX10_canPromote_11 1 rfl ?_
  refine ts_callSi X (As := [.int (r5 ||| (s6 12 (1 : Int32).toNatClampNeg)), .int a1]) (ct_X10_has g.2.1 v hi _ _ _ _ hw) ok_X10_has cw_X10_139 (ts_le hgn (by decide)) (by decide) rfl rfl (Nat.le_of_ble_eq_true rfl) dX10_canPromote_12 (fun r7 s8 hw => ?_)
  refine ts_if_ne 33 X dX10_canPromote_15 (by decide) (fun c => ?_) (fun c => ?_)
  · have hw := ts_itn hw c
    refine ts_iconst X dX10_canPromote_33 (v := 0) (by decide) ?_
    exact hret _ _ _ _ hw dX10_canPromote_34
  · have hw := ts_itp hw c
    refine ts_aload_n X dX10_canPromote_18 0 rfl ?_
    refine gf_X10_43 X dX10_canPromote_19 ?_
    refine ts_iconst X dX10_canPromote_22 (v := 3) (by decide) ?_
    refine ts_iload_n X dX10_canPromote_23 1 rfl ?_
    refine ts_iadd X dX10_canPromote_24 ?_
    refine mi_ald X tM_c12 hw.1 dX10_canPromote_25 ?_
    have hw := hw.2
    refine ts_if_le 33 X dX10_canPromote_26 (by decide) (fun c => ?_) (fun c => ?_)
    · have hw := ts_itp hw c
      refine ts_iconst X dX10_canPromote_33 (v := 0) (by decide) ?_
      exact hret _ _ _ _ hw dX10_canPromote_34
    · have hw := ts_itn hw c
      refine ts_iconst X dX10_canPromote_29 (v := 1) (by decide) ?_
      refine ts_goto 34 X dX10_canPromote_30 (by decide) ?_
      exact hret _ _ _ _ hw dX10_canPromote_34
set_option maxRecDepth 100000 in
set_option maxHeartbeats 4000000 in
theorem ct_X10_promote (l : Launch) (v : tX_V) (hi : ts_inj 15 (tX_ad v)) (K : Int32 → ts_S → Prop) (σ : ts_S) (a1 : Int32)  (hw : wp_X10_promote K σ a1) : ts_Mi l yX10_promote (Cond.code yX10_promote cX10_promote 2 (some .int)) 6 (tM_w v) [.ref (tX_ad v 0), .int a1] σ K := by
  refine ts_Mi.of_i (w := tM_w v) hi (by decide +kernel) (Nat.le_of_ble_eq_true rfl) ?_
  intro g hgl hgn X hret
  unfold wp_X10_promote at hw
  show ts_G g (tM_w v) 2 σ 0 [(0, .ref (tX_ad v 0)), (1, .int a1)] []
  refine ts_aload_n X dX10_promote_0 0 rfl ?_
  refine ts_iload_n X dX10_promote_1 1 rfl ?_
  refine ts_callVi (w := tM_w v) X (k := 0) (by decide : 0 < 15) rfl rfl rfl (As := [.int a1]) (ct_X10_isPerson g.2.1 v hi _ _ _ hw) ok_X10_isPerson cw_X10_156 (ts_le hgn (by decide)) (by decide) rfl rfl (Nat.le_of_ble_eq_true rfl) dX10_promote_2 (fun r10 s11 hw => ?_)
  refine ts_if_ne 10 X dX10_promote_5 (by decide) (fun c => ?_) (fun c => ?_)
  · have hw := ts_itn hw c
    refine ts_aload_n X dX10_promote_10 0 rfl ?_
    refine ts_callVv (w := tM_w v) X (k := 0) (by decide : 0 < 15) rfl rfl rfl (As := []) (ct_X10_asItIs g.2.1 v hi _ _  hw) ok_X10_asItIs cw_X10_159 (ts_le hgn (by decide)) (by decide) rfl rfl (Nat.le_of_ble_eq_true rfl) dX10_promote_11 (fun s13 hw => ?_)
    refine ts_aload_n X dX10_promote_14 0 rfl ?_
    refine ts_iload_n X dX10_promote_15 1 rfl ?_
    refine ts_callVi (w := tM_w v) X (k := 0) (by decide : 0 < 15) rfl rfl rfl (As := [.int a1]) (ct_X10_canPromote g.2.1 v hi _ _ _ hw) ok_X10_canPromote cw_X10_174 (ts_le hgn (by decide)) (by decide) rfl rfl (Nat.le_of_ble_eq_true rfl) dX10_promote_16 (fun r14 s15 hw => ?_)
    refine ts_if_ne 25 X dX10_promote_19 (by decide) (fun c => ?_) (fun c => ?_)
    · have hw := ts_itn hw c
      refine ts_aload_n X dX10_promote_25 0 rfl ?_
      refine gf_X10_43 X dX10_promote_26 ?_
      refine ts_iconst X dX10_promote_29 (v := 3) (by decide) ?_
      refine ts_iload_n X dX10_promote_30 1 rfl ?_
      refine ts_iadd X dX10_promote_31 ?_
      refine ts_dup2 X dX10_promote_32 rfl rfl ?_
      refine mi_ald X tM_c12 hw.1 dX10_promote_33 ?_
      have hw := hw.2
      refine ts_iconst X dX10_promote_34 (v := 1) (by decide) ?_
      refine ts_isub X dX10_promote_35 ?_
      refine mi_ast X tM_c12 hw.1 dX10_promote_36 (fun s16 es16 => ?_)
      have hw := hw.2 s16 es16
      refine ts_aload_n X dX10_promote_37 0 rfl ?_
      refine ts_callVv (w := tM_w v) X (k := 0) (by decide : 0 < 15) rfl rfl rfl (As := []) (ct_X10_becomes g.2.1 v hi _ _  hw) ok_X10_becomes cw_X10_171 (ts_le hgn (by decide)) (by decide) rfl rfl (Nat.le_of_ble_eq_true rfl) dX10_promote_38 (fun s18 hw => ?_)
      refine ts_aload_n X dX10_promote_41 0 rfl ?_
      refine gf_X10_16 X dX10_promote_42 ?_
      refine ts_iconst X dX10_promote_45 (v := 3) (by decide) ?_
      refine ts_iload_n X dX10_promote_46 1 rfl ?_
      refine ts_iadd X dX10_promote_47 ?_
      refine mi_ald X tM_c3 hw.1 dX10_promote_48 ?_
      have hw := hw.2
      exact hret _ _ _ _ hw dX10_promote_49
    · have hw := ts_itp hw c
      refine ts_bipush X dX10_promote_22 (v := (-2)) (by decide) ?_
      exact hret _ _ _ _ hw dX10_promote_24
  · have hw := ts_itp hw c
    refine ts_iconst X dX10_promote_8 (v := (-1)) (by decide) ?_
    exact hret _ _ _ _ hw dX10_promote_9
set_option maxRecDepth 100000 in
set_option maxHeartbeats 4000000 in
theorem ct_X10_canHoist (l : Launch) (v : tX_V) (hi : ts_inj 15 (tX_ad v)) (K : Int32 → ts_S → Prop) (σ : ts_S) (a1 : Int32)  (hw : wp_X10_canHoist K σ a1) : ts_Mi l yX10_canHoist (Cond.code yX10_canHoist cX10_canHoist 2 (some .boolean)) 2 (tM_w v) [.ref (tX_ad v 0), .int a1] σ K := by
  refine ts_Mi.of_z (w := tM_w v) hi (by decide +kernel) (Nat.le_of_ble_eq_true rfl) ?_
  intro g hgl hgn X hret
  unfold wp_X10_canHoist at hw
  show ts_G g (tM_w v) 2 σ 0 [(0, .ref (tX_ad v 0)), (1, .int a1)] []
  refine ts_aload_n X dX10_canHoist_0 0 rfl ?_
  refine gf_X10_43 X dX10_canHoist_1 ?_
  refine ts_iconst X dX10_canHoist_4 (v := 1) (by decide) ?_
  refine mi_ald X tM_c12 hw.1 dX10_canHoist_5 ?_
  have hw := hw.2
  refine ts_iload_n X dX10_canHoist_6 1 rfl ?_
  refine ts_callSi X (As := [.int (σ 12 (1 : Int32).toNatClampNeg), .int a1]) (ct_X10_has g.2.1 v hi _ _ _ _ hw) ok_X10_has cw_X10_139 (ts_le hgn (by decide)) (by decide) rfl rfl (Nat.le_of_ble_eq_true rfl) dX10_canHoist_7 (fun r3 s4 hw => ?_)
  refine ts_if_ne 34 X dX10_canHoist_10 (by decide) (fun c => ?_) (fun c => ?_)
  · have hw := ts_itn hw c
    refine ts_iconst X dX10_canHoist_34 (v := 0) (by decide) ?_
    exact hret _ _ _ _ hw dX10_canHoist_35
  · have hw := ts_itp hw c
    refine ts_aload_n X dX10_canHoist_13 0 rfl ?_
    refine gf_X10_43 X dX10_canHoist_14 ?_
    refine ts_iconst X dX10_canHoist_17 (v := 3) (by decide) ?_
    refine ts_iload_n X dX10_canHoist_18 1 rfl ?_
    refine ts_iadd X dX10_canHoist_19 ?_
    refine mi_ald X tM_c12 hw.1 dX10_canHoist_20 ?_
    have hw := hw.2
    refine ts_aload_n X dX10_canHoist_21 0 rfl ?_
    refine gf_X10_80 X dX10_canHoist_22 ?_
    refine ts_iconst X dX10_canHoist_25 (v := 1) (by decide) ?_
    refine ts_isub X dX10_canHoist_26 ?_
    refine ts_icmp_ge 34 X dX10_canHoist_27 (by decide) (fun c => ?_) (fun c => ?_)
    · have hw := ts_itp hw c
      refine ts_iconst X dX10_canHoist_34 (v := 0) (by decide) ?_
      exact hret _ _ _ _ hw dX10_canHoist_35
    · have hw := ts_itn hw c
      refine ts_iconst X dX10_canHoist_30 (v := 1) (by decide) ?_
      refine ts_goto 35 X dX10_canHoist_31 (by decide) ?_
      exact hret _ _ _ _ hw dX10_canHoist_35
set_option maxRecDepth 100000 in
set_option maxHeartbeats 4000000 in
theorem ct_X10_hoist (l : Launch) (v : tX_V) (hi : ts_inj 15 (tX_ad v)) (K : Int32 → ts_S → Prop) (σ : ts_S) (a1 : Int32)  (hw : wp_X10_hoist K σ a1) : ts_Mi l yX10_hoist (Cond.code yX10_hoist cX10_hoist 2 (some .int)) 3 (tM_w v) [.ref (tX_ad v 0), .int a1] σ K := by
  refine ts_Mi.of_i (w := tM_w v) hi (by decide +kernel) (Nat.le_of_ble_eq_true rfl) ?_
  intro g hgl hgn X hret
  unfold wp_X10_hoist at hw
  show ts_G g (tM_w v) 2 σ 0 [(0, .ref (tX_ad v 0)), (1, .int a1)] []
  refine ts_aload_n X dX10_hoist_0 0 rfl ?_
  refine ts_iload_n X dX10_hoist_1 1 rfl ?_
  refine ts_callVi (w := tM_w v) X (k := 0) (by decide : 0 < 15) rfl rfl rfl (As := [.int a1]) (ct_X10_isPerson g.2.1 v hi _ _ _ hw) ok_X10_isPerson cw_X10_156 (ts_le hgn (by decide)) (by decide) rfl rfl (Nat.le_of_ble_eq_true rfl) dX10_hoist_2 (fun r10 s11 hw => ?_)
  refine ts_if_ne 10 X dX10_hoist_5 (by decide) (fun c => ?_) (fun c => ?_)
  · have hw := ts_itn hw c
    refine ts_aload_n X dX10_hoist_10 0 rfl ?_
    refine ts_callVv (w := tM_w v) X (k := 0) (by decide : 0 < 15) rfl rfl rfl (As := []) (ct_X10_asItIs g.2.1 v hi _ _  hw) ok_X10_asItIs cw_X10_159 (ts_le hgn (by decide)) (by decide) rfl rfl (Nat.le_of_ble_eq_true rfl) dX10_hoist_11 (fun s13 hw => ?_)
    refine ts_aload_n X dX10_hoist_14 0 rfl ?_
    refine ts_iload_n X dX10_hoist_15 1 rfl ?_
    refine ts_callVi (w := tM_w v) X (k := 0) (by decide : 0 < 15) rfl rfl rfl (As := [.int a1]) (ct_X10_canHoist g.2.1 v hi _ _ _ hw) ok_X10_canHoist cw_X10_177 (ts_le hgn (by decide)) (by decide) rfl rfl (Nat.le_of_ble_eq_true rfl) dX10_hoist_16 (fun r14 s15 hw => ?_)
    refine ts_if_ne 25 X dX10_hoist_19 (by decide) (fun c => ?_) (fun c => ?_)
    · have hw := ts_itn hw c
      refine ts_aload_n X dX10_hoist_25 0 rfl ?_
      refine gf_X10_43 X dX10_hoist_26 ?_
      refine ts_iconst X dX10_hoist_29 (v := 3) (by decide) ?_
      refine ts_iload_n X dX10_hoist_30 1 rfl ?_
      refine ts_iadd X dX10_hoist_31 ?_
      refine ts_dup2 X dX10_hoist_32 rfl rfl ?_
      refine mi_ald X tM_c12 hw.1 dX10_hoist_33 ?_
      have hw := hw.2
      refine ts_iconst X dX10_hoist_34 (v := 1) (by decide) ?_
      refine ts_iadd X dX10_hoist_35 ?_
      refine mi_ast X tM_c12 hw.1 dX10_hoist_36 (fun s16 es16 => ?_)
      have hw := hw.2 s16 es16
      refine ts_aload_n X dX10_hoist_37 0 rfl ?_
      refine ts_callVv (w := tM_w v) X (k := 0) (by decide : 0 < 15) rfl rfl rfl (As := []) (ct_X10_becomes g.2.1 v hi _ _  hw) ok_X10_becomes cw_X10_171 (ts_le hgn (by decide)) (by decide) rfl rfl (Nat.le_of_ble_eq_true rfl) dX10_hoist_38 (fun s18 hw => ?_)
      refine ts_aload_n X dX10_hoist_41 0 rfl ?_
      refine gf_X10_16 X dX10_hoist_42 ?_
      refine ts_iconst X dX10_hoist_45 (v := 3) (by decide) ?_
      refine ts_iload_n X dX10_hoist_46 1 rfl ?_
      refine ts_iadd X dX10_hoist_47 ?_
      refine mi_ald X tM_c3 hw.1 dX10_hoist_48 ?_
      have hw := hw.2
      exact hret _ _ _ _ hw dX10_hoist_49
    · have hw := ts_itp hw c
      refine ts_bipush X dX10_hoist_22 (v := (-2)) (by decide) ?_
      exact hret _ _ _ _ hw dX10_hoist_24
  · have hw := ts_itp hw c
    refine ts_iconst X dX10_hoist_8 (v := (-1)) (by decide) ?_
    exact hret _ _ _ _ hw dX10_hoist_9
set_option maxRecDepth 100000 in
set_option maxHeartbeats 4000000 in
theorem ct_X10_calls (l : Launch) (v : tX_V) (hi : ts_inj 15 (tX_ad v)) (K : ts_S → Prop) (σ : ts_S) (a1 : Int32)  (hw : wp_X10_calls K σ a1) : ts_Mv l yX10_calls (Cond.code yX10_calls cX10_calls 4 (none)) 5 (tM_w v) [.ref (tX_ad v 0), .int a1] σ K := by
  refine ts_Mv.of_v (w := tM_w v) hi (by decide +kernel) (Nat.le_of_ble_eq_true rfl) ?_
  intro g hgl hgn X hret
  have J7 : ∀ (σ : ts_S) (x2 : Int32) (x3 : Int32), wp_X10_calls_l7 K a1 σ x2 x3 → ts_G g (tM_w v) 4 σ 7 [(0, .ref (tX_ad v 0)), (1, .int a1), (2, .int x2), (3, .int x3)] [] := by
    intro  σ x2 x3 hw
    have key : ∀ X7 : ts_S → Int32 → Prop, (∀ (σ : ts_S) (x3 : Int32), X7 σ x3 → ts_G g (tM_w v) 4 σ 7 [(0, .ref (tX_ad v 0)), (1, .int a1), (2, .int x2), (3, .int x3)] []) → ∀ (σ : ts_S) (x3 : Int32), wp_X10_calls_b7 K X7 a1 x2 σ x3 → ts_G g (tM_w v) 4 σ 7 [(0, .ref (tX_ad v 0)), (1, .int a1), (2, .int x2), (3, .int x3)] [] := by
      intro X7 hX7
      have J78 : ∀ (σ : ts_S) (x3 : Int32) (y0 : Int32) (y1 : Int32) (y2 : Int32), wp_X10_calls_j78 K X7 a1 σ x2 x3 y0 y1 y2 → ts_G g (tM_w v) 4 σ 78 [(0, .ref (tX_ad v 0)), (1, .int a1), (2, .int x2), (3, .int x3)] [.int y0, .int y1, .int y2, .ref (tX_ad v 12)] := by
        intro  σ x3 y0 y1 y2 hw
        unfold wp_X10_calls_j78 at hw
        refine ts_iadd X dX10_calls_78 ?_
        refine mi_ast X tM_c12 hw.1 dX10_calls_79 (fun s7 es7 => ?_)
        have hw := hw.2 s7 es7
        refine ts_iinc X dX10_calls_80 3 rfl (v := x3 + 1) rfl (by decide) (lv' := [(3, .int (x3 + 1)), (0, .ref (tX_ad v 0)), (1, .int a1), (2, .int x2)]) rfl ?_
        refine ts_goto 7 X dX10_calls_83 (by decide) ?_
        exact ts_sub [1, 2, 3, 0] rfl (hX7 _ _ hw)
      intro σ x3 hw
      unfold wp_X10_calls_b7 at hw
      refine ts_iload_n X dX10_calls_7 3 rfl ?_
      refine ts_aload_n X dX10_calls_8 0 rfl ?_
      refine gf_X10_73 X dX10_calls_9 ?_
      refine ts_icmp_ge 86 X dX10_calls_12 (by decide) (fun c => ?_) (fun c => ?_)
      · have hw := ts_itp hw c
        refine ts_aload_n X dX10_calls_86 0 rfl ?_
        refine gf_X10_43 X dX10_calls_87 ?_
        refine ts_iconst X dX10_calls_90 (v := 2) (by decide) ?_
        refine ts_dup2 X dX10_calls_91 rfl rfl ?_
        refine mi_ald X tM_c12 hw.1 dX10_calls_92 ?_
        have hw := hw.2
        refine ts_iconst X dX10_calls_93 (v := 1) (by decide) ?_
        refine ts_iload_n X dX10_calls_94 1 rfl ?_
        refine ts_ishl X dX10_calls_95 ?_
        refine ts_ior X dX10_calls_96 ?_
        refine mi_ast X tM_c12 hw.1 dX10_calls_97 (fun s8 es8 => ?_)
        have hw := hw.2 s8 es8
        exact hret _ _ _ hw dX10_calls_98
      · have hw := ts_itn hw c
        refine ts_aload_n X dX10_calls_15 0 rfl ?_
        refine gf_X10_43 X dX10_calls_16 ?_
        refine ts_bipush X dX10_calls_19 (v := 15) (by decide) ?_
        refine ts_iload_n X dX10_calls_21 1 rfl ?_
        refine ts_iadd X dX10_calls_22 ?_
        refine ts_dup2 X dX10_calls_23 rfl rfl ?_
        refine mi_ald X tM_c12 hw.1 dX10_calls_24 ?_
        have hw := hw.2
        refine ts_aload_n X dX10_calls_25 0 rfl ?_
        refine gf_X10_43 X dX10_calls_26 ?_
        refine ts_iconst X dX10_calls_29 (v := 3) (by decide) ?_
        refine ts_iload_n X dX10_calls_30 3 rfl ?_
        refine ts_iadd X dX10_calls_31 ?_
        refine mi_ald X tM_c12 hw.1 dX10_calls_32 ?_
        have hw := hw.2
        refine ts_aload_n X dX10_calls_33 0 rfl ?_
        refine gf_X10_43 X dX10_calls_34 ?_
        refine ts_iconst X dX10_calls_37 (v := 3) (by decide) ?_
        refine ts_iload_n X dX10_calls_38 1 rfl ?_
        refine ts_iadd X dX10_calls_39 ?_
        refine mi_ald X tM_c12 hw.1 dX10_calls_40 ?_
        have hw := hw.2
        refine ts_icmp_le 77 X dX10_calls_41 (by decide) (fun c => ?_) (fun c => ?_)
        · have hw := ts_itp hw c
          refine ts_iconst X dX10_calls_77 (v := 0) (by decide) ?_
          exact ts_sub [0, 1, 2, 3] rfl (J78  _ _ _ _ _ hw)
        · have hw := ts_itn hw c
          refine ts_iload_n X dX10_calls_44 2 rfl ?_
          refine ts_aload_n X dX10_calls_45 0 rfl ?_
          refine gf_X10_43 X dX10_calls_46 ?_
          refine ts_iconst X dX10_calls_49 (v := 1) (by decide) ?_
          refine mi_ald X tM_c12 hw.1 dX10_calls_50 ?_
          have hw := hw.2
          refine ts_ior X dX10_calls_51 ?_
          refine ts_iload_n X dX10_calls_52 3 rfl ?_
          refine ts_callSi X (As := [.int (x2 ||| (σ 12 (1 : Int32).toNatClampNeg)), .int x3]) (ct_X10_has g.2.1 v hi _ _ _ _ hw) ok_X10_has cw_X10_139 (ts_le hgn (by decide)) (by decide) rfl rfl (Nat.le_of_ble_eq_true rfl) dX10_calls_53 (fun r9 s10 hw => ?_)
          refine ts_if_ne 77 X dX10_calls_56 (by decide) (fun c => ?_) (fun c => ?_)
          · have hw := ts_itn hw c
            refine ts_iconst X dX10_calls_77 (v := 0) (by decide) ?_
            exact ts_sub [0, 1, 2, 3] rfl (J78  _ _ _ _ _ hw)
          · have hw := ts_itp hw c
            refine ts_aload_n X dX10_calls_59 0 rfl ?_
            refine gf_X10_43 X dX10_calls_60 ?_
            refine ts_bipush X dX10_calls_63 (v := 15) (by decide) ?_
            refine ts_iload_n X dX10_calls_65 1 rfl ?_
            refine ts_iadd X dX10_calls_66 ?_
            refine mi_ald X tM_c12 hw.1 dX10_calls_67 ?_
            have hw := hw.2
            refine ts_bipush X dX10_calls_68 (v := 30) (by decide) ?_
            refine ts_icmp_ge 77 X dX10_calls_70 (by decide) (fun c => ?_) (fun c => ?_)
            · have hw := ts_itp hw c
              refine ts_iconst X dX10_calls_77 (v := 0) (by decide) ?_
              exact ts_sub [0, 1, 2, 3] rfl (J78  _ _ _ _ _ hw)
            · have hw := ts_itn hw c
              refine ts_iconst X dX10_calls_73 (v := 1) (by decide) ?_
              refine ts_goto 78 X dX10_calls_74 (by decide) ?_
              exact ts_sub [0, 1, 2, 3] rfl (J78  _ _ _ _ _ hw)
    exact hw _ (fun σ x3 h => key _ (fun _ _ h => h) σ x3 h)
  unfold wp_X10_calls at hw
  show ts_G g (tM_w v) 4 σ 0 [(0, .ref (tX_ad v 0)), (1, .int a1)] []
  refine ts_aload_n X dX10_calls_0 0 rfl ?_
  refine ts_callVi (w := tM_w v) X (k := 0) (by decide : 0 < 15) rfl rfl rfl (As := []) (ct_X10_frozen g.2.1 v hi _ _  hw) ok_X10_frozen cw_X10_150 (ts_le hgn (by decide)) (by decide) rfl rfl (Nat.le_of_ble_eq_true rfl) dX10_calls_1 (fun r11 s12 hw => ?_)
  refine ts_istore_n X dX10_calls_4 (by decide) (lv' := [(2, .int r11), (0, .ref (tX_ad v 0)), (1, .int a1)]) rfl ?_
  refine ts_iconst X dX10_calls_5 (v := 0) (by decide) ?_
  refine ts_istore_n X dX10_calls_6 (by decide) (lv' := [(3, .int 0), (2, .int r11), (0, .ref (tX_ad v 0)), (1, .int a1)]) rfl ?_
  exact ts_sub [2, 3, 1, 0] rfl (J7  _ _ _ hw)
set_option maxRecDepth 100000 in
set_option maxHeartbeats 4000000 in
theorem ct_X10_call (l : Launch) (v : tX_V) (hi : ts_inj 15 (tX_ad v)) (K : Int32 → ts_S → Prop) (σ : ts_S) (a1 : Int32)  (hw : wp_X10_call K σ a1) : ts_Mi l yX10_call (Cond.code yX10_call cX10_call 2 (some .int)) 6 (tM_w v) [.ref (tX_ad v 0), .int a1] σ K := by
  refine ts_Mi.of_i (w := tM_w v) hi (by decide +kernel) (Nat.le_of_ble_eq_true rfl) ?_
  intro g hgl hgn X hret
  unfold wp_X10_call at hw
  show ts_G g (tM_w v) 2 σ 0 [(0, .ref (tX_ad v 0)), (1, .int a1)] []
  refine ts_aload_n X dX10_call_0 0 rfl ?_
  refine ts_iload_n X dX10_call_1 1 rfl ?_
  refine ts_callVi (w := tM_w v) X (k := 0) (by decide : 0 < 15) rfl rfl rfl (As := [.int a1]) (ct_X10_isPerson g.2.1 v hi _ _ _ hw) ok_X10_isPerson cw_X10_156 (ts_le hgn (by decide)) (by decide) rfl rfl (Nat.le_of_ble_eq_true rfl) dX10_call_2 (fun r11 s12 hw => ?_)
  refine ts_if_ne 10 X dX10_call_5 (by decide) (fun c => ?_) (fun c => ?_)
  · have hw := ts_itn hw c
    refine ts_aload_n X dX10_call_10 0 rfl ?_
    refine ts_callVv (w := tM_w v) X (k := 0) (by decide : 0 < 15) rfl rfl rfl (As := []) (ct_X10_asItIs g.2.1 v hi _ _  hw) ok_X10_asItIs cw_X10_159 (ts_le hgn (by decide)) (by decide) rfl rfl (Nat.le_of_ble_eq_true rfl) dX10_call_11 (fun s14 hw => ?_)
    refine ts_aload_n X dX10_call_14 0 rfl ?_
    refine ts_iload_n X dX10_call_15 1 rfl ?_
    refine ts_callVi (w := tM_w v) X (k := 0) (by decide : 0 < 15) rfl rfl rfl (As := [.int a1]) (ct_X10_canCall g.2.1 v hi _ _ _ hw) ok_X10_canCall cw_X10_162 (ts_le hgn (by decide)) (by decide) rfl rfl (Nat.le_of_ble_eq_true rfl) dX10_call_16 (fun r15 s16 hw => ?_)
    refine ts_if_ne 25 X dX10_call_19 (by decide) (fun c => ?_) (fun c => ?_)
    · have hw := ts_itn hw c
      refine ts_aload_n X dX10_call_25 0 rfl ?_
      refine ts_iload_n X dX10_call_26 1 rfl ?_
      refine ts_callVv (w := tM_w v) X (k := 0) (by decide : 0 < 15) rfl rfl rfl (As := [.int a1]) (ct_X10_calls g.2.1 v hi _ _ _ hw) ok_X10_calls cw_X10_180 (ts_le hgn (by decide)) (by decide) rfl rfl (Nat.le_of_ble_eq_true rfl) dX10_call_27 (fun s18 hw => ?_)
      refine ts_aload_n X dX10_call_30 0 rfl ?_
      refine ts_callVv (w := tM_w v) X (k := 0) (by decide : 0 < 15) rfl rfl rfl (As := []) (ct_X10_becomes g.2.1 v hi _ _  hw) ok_X10_becomes cw_X10_171 (ts_le hgn (by decide)) (by decide) rfl rfl (Nat.le_of_ble_eq_true rfl) dX10_call_31 (fun s20 hw => ?_)
      refine ts_aload_n X dX10_call_34 0 rfl ?_
      refine gf_X10_16 X dX10_call_35 ?_
      refine ts_bipush X dX10_call_38 (v := 15) (by decide) ?_
      refine ts_iload_n X dX10_call_40 1 rfl ?_
      refine ts_iadd X dX10_call_41 ?_
      refine mi_ald X tM_c3 hw.1 dX10_call_42 ?_
      have hw := hw.2
      exact hret _ _ _ _ hw dX10_call_43
    · have hw := ts_itp hw c
      refine ts_bipush X dX10_call_22 (v := (-2)) (by decide) ?_
      exact hret _ _ _ _ hw dX10_call_24
  · have hw := ts_itp hw c
    refine ts_iconst X dX10_call_8 (v := (-1)) (by decide) ?_
    exact hret _ _ _ _ hw dX10_call_9
set_option maxRecDepth 100000 in
set_option maxHeartbeats 4000000 in
theorem ct_X10_undo (l : Launch) (v : tX_V) (hi : ts_inj 15 (tX_ad v)) (K : Int32 → ts_S → Prop) (σ : ts_S)   (hw : wp_X10_undo K σ ) : ts_Mi l yX10_undo (Cond.code yX10_undo cX10_undo 1 (some .int)) 2 (tM_w v) [.ref (tX_ad v 0)] σ K := by
  refine ts_Mi.of_i (w := tM_w v) hi (by decide +kernel) (Nat.le_of_ble_eq_true rfl) ?_
  intro g hgl hgn X hret
  unfold wp_X10_undo at hw
  show ts_G g (tM_w v) 1 σ 0 [(0, .ref (tX_ad v 0))] []
  refine ts_aload_n X dX10_undo_0 0 rfl ?_
  refine gf_X10_130 X dX10_undo_1 ?_
  refine ts_if_ne 10 X dX10_undo_4 (by decide) (fun c => ?_) (fun c => ?_)
  · have hw := ts_itn hw c
    refine ts_aload_n X dX10_undo_10 0 rfl ?_
    refine ts_dup X dX10_undo_11 rfl ?_
    refine gf_X10_130 X dX10_undo_12 ?_
    refine ts_iconst X dX10_undo_15 (v := 1) (by decide) ?_
    refine ts_isub X dX10_undo_16 ?_
    refine pf_X10_130 X dX10_undo_17 (fun s4 es4 => ?_)
    have hw := hw s4 es4
    refine ts_aload_n X dX10_undo_20 0 rfl ?_
    refine gf_X10_16 X dX10_undo_21 ?_
    refine ts_iconst X dX10_undo_24 (v := 0) (by decide) ?_
    refine ts_aload_n X dX10_undo_25 0 rfl ?_
    refine gf_X10_19 X dX10_undo_26 ?_
    refine ts_bipush X dX10_undo_29 (v := 21) (by decide) ?_
    refine ts_aload_n X dX10_undo_31 0 rfl ?_
    refine gf_X10_130 X dX10_undo_32 ?_
    refine ts_imul X dX10_undo_35 ?_
    refine ts_bipush X dX10_undo_36 (v := 21) (by decide) ?_
    refine ts_callSv X (As := [.ref (tX_ad v 3), .int 0, .ref (tX_ad v 4), .int (21 * (s4 0 6)), .int 21]) (ct_X10_copies g.2.1 v hi _ _ _ _ _ _ _ tM_c3 tM_c4 hw) ok_X10_copies cw_X10_123 (ts_le hgn (by decide)) (by decide) rfl rfl (Nat.le_of_ble_eq_true rfl) dX10_undo_38 (fun s6 hw => ?_)
    refine ts_aload_n X dX10_undo_41 0 rfl ?_
    refine gf_X10_130 X dX10_undo_42 ?_
    exact hret _ _ _ _ hw dX10_undo_45
  · have hw := ts_itp hw c
    refine ts_bipush X dX10_undo_7 (v := (-2)) (by decide) ?_
    exact hret _ _ _ _ hw dX10_undo_9
set_option maxRecDepth 100000 in
set_option maxHeartbeats 4000000 in
theorem ct_X10_behind (l : Launch) (v : tX_V) (hi : ts_inj 15 (tX_ad v)) (K : Int32 → ts_S → Prop) (σ : ts_S) (a1 : Int32) (a2 : Int32) (a3 : Int32)  (hw : wp_X10_behind K σ a1 a2 a3) : ts_Mi l yX10_behind (Cond.code yX10_behind cX10_behind 5 (some .int)) 6 (tM_w v) [.ref (tX_ad v 0), .int a1, .int a2, .int a3] σ K := by
  refine ts_Mi.of_i (w := tM_w v) hi (by decide +kernel) (Nat.le_of_ble_eq_true rfl) ?_
  intro g hgl hgn X hret
  have J36 : ∀ (σ : ts_S) (x4 : Int32), wp_X10_behind_l36 K a1 a2 a3 σ x4 → ts_G g (tM_w v) 5 σ 36 [(0, .ref (tX_ad v 0)), (1, .int a1), (2, .int a2), (3, .int a3), (4, .int x4)] [] := by
    intro  σ x4 hw
    have key : ∀ X36 : ts_S → Int32 → Prop, (∀ (σ : ts_S) (x4 : Int32), X36 σ x4 → ts_G g (tM_w v) 5 σ 36 [(0, .ref (tX_ad v 0)), (1, .int a1), (2, .int a2), (3, .int a3), (4, .int x4)] []) → ∀ (σ : ts_S) (x4 : Int32), wp_X10_behind_b36 K X36 a1 a2 a3  σ x4 → ts_G g (tM_w v) 5 σ 36 [(0, .ref (tX_ad v 0)), (1, .int a1), (2, .int a2), (3, .int a3), (4, .int x4)] [] := by
      intro X36 hX36
      intro σ x4 hw
      unfold wp_X10_behind_b36 at hw
      refine ts_iload X dX10_behind_36 4 rfl ?_
      refine ts_iload_n X dX10_behind_38 1 rfl ?_
      refine ts_icmp_ge 52 X dX10_behind_39 (by decide) (fun c => ?_) (fun c => ?_)
      · have hw := ts_itp hw c
        refine ts_iload_n X dX10_behind_52 3 rfl ?_
        refine ts_if_ne 69 X dX10_behind_53 (by decide) (fun c => ?_) (fun c => ?_)
        · have hw := ts_itn hw c
          refine ts_aload_n X dX10_behind_69 0 rfl ?_
          refine gf_X10_43 X dX10_behind_70 ?_
          refine ts_bipush X dX10_behind_73 (v := 15) (by decide) ?_
          refine ts_iload_n X dX10_behind_75 2 rfl ?_
          refine ts_iadd X dX10_behind_76 ?_
          refine mi_ald X tM_c12 hw.1 dX10_behind_77 ?_
          have hw := hw.2
          exact hret _ _ _ _ hw dX10_behind_78
        · have hw := ts_itp hw c
          refine ts_aload_n X dX10_behind_56 0 rfl ?_
          refine gf_X10_43 X dX10_behind_57 ?_
          refine ts_iconst X dX10_behind_60 (v := 1) (by decide) ?_
          refine mi_ald X tM_c12 hw.1 dX10_behind_61 ?_
          have hw := hw.2
          refine ts_iload_n X dX10_behind_62 2 rfl ?_
          refine ts_ishr X dX10_behind_63 ?_
          refine ts_iconst X dX10_behind_64 (v := 1) (by decide) ?_
          refine ts_iand X dX10_behind_65 ?_
          refine ts_goto 78 X dX10_behind_66 (by decide) ?_
          exact hret _ _ _ _ hw dX10_behind_78
      · have hw := ts_itn hw c
        refine ts_aload_n X dX10_behind_42 0 rfl ?_
        refine ts_callVv (w := tM_w v) X (k := 0) (by decide : 0 < 15) rfl rfl rfl (As := []) (ct_X10_goesBy g.2.1 v hi _ _  hw) ok_X10_goesBy cw_X10_168 (ts_le hgn (by decide)) (by decide) rfl rfl (Nat.le_of_ble_eq_true rfl) dX10_behind_43 (fun s12 hw => ?_)
        refine ts_iinc X dX10_behind_46 4 rfl (v := x4 + 1) rfl (by decide) (lv' := [(4, .int (x4 + 1)), (0, .ref (tX_ad v 0)), (1, .int a1), (2, .int a2), (3, .int a3)]) rfl ?_
        refine ts_goto 36 X dX10_behind_49 (by decide) ?_
        exact ts_sub [1, 2, 3, 4, 0] rfl (hX36 _ _ hw)
    exact hw _ (fun σ x4 h => key _ (fun _ _ h => h) σ x4 h)
  unfold wp_X10_behind at hw
  show ts_G g (tM_w v) 5 σ 0 [(0, .ref (tX_ad v 0)), (1, .int a1), (2, .int a2), (3, .int a3)] []
  refine ts_iload_n X dX10_behind_0 1 rfl ?_
  refine ts_iconst X dX10_behind_1 (v := 0) (by decide) ?_
  refine ts_bipush X dX10_behind_2 (v := 40) (by decide) ?_
  refine ts_callSi X (As := [.int a1, .int 0, .int 40]) (ct_X10_in g.2.1 v hi _ _ _ _ _ hw) ok_X10_in cw_X10_76 (ts_le hgn (by decide)) (by decide) rfl rfl (Nat.le_of_ble_eq_true rfl) dX10_behind_4 (fun r13 s14 hw => ?_)
  refine ts_if_eq 27 X dX10_behind_7 (by decide) (fun c => ?_) (fun c => ?_)
  · have hw := ts_itp hw c
    refine ts_iconst X dX10_behind_27 (v := (-1)) (by decide) ?_
    exact hret _ _ _ _ hw dX10_behind_28
  · have hw := ts_itn hw c
    refine ts_aload_n X dX10_behind_10 0 rfl ?_
    refine ts_iload_n X dX10_behind_11 2 rfl ?_
    refine ts_callVi (w := tM_w v) X (k := 0) (by decide : 0 < 15) rfl rfl rfl (As := [.int a2]) (ct_X10_isPerson g.2.1 v hi _ _ _ hw) ok_X10_isPerson cw_X10_156 (ts_le hgn (by decide)) (by decide) rfl rfl (Nat.le_of_ble_eq_true rfl) dX10_behind_12 (fun r15 s16 hw => ?_)
    refine ts_if_eq 27 X dX10_behind_15 (by decide) (fun c => ?_) (fun c => ?_)
    · have hw := ts_itp hw c
      refine ts_iconst X dX10_behind_27 (v := (-1)) (by decide) ?_
      exact hret _ _ _ _ hw dX10_behind_28
    · have hw := ts_itn hw c
      refine ts_iload_n X dX10_behind_18 3 rfl ?_
      refine ts_iconst X dX10_behind_19 (v := 0) (by decide) ?_
      refine ts_iconst X dX10_behind_20 (v := 1) (by decide) ?_
      refine ts_callSi X (As := [.int a3, .int 0, .int 1]) (ct_X10_in g.2.1 v hi _ _ _ _ _ hw) ok_X10_in cw_X10_76 (ts_le hgn (by decide)) (by decide) rfl rfl (Nat.le_of_ble_eq_true rfl) dX10_behind_21 (fun r17 s18 hw => ?_)
      refine ts_if_ne 29 X dX10_behind_24 (by decide) (fun c => ?_) (fun c => ?_)
      · have hw := ts_itn hw c
        refine ts_aload_n X dX10_behind_29 0 rfl ?_
        refine ts_callVv (w := tM_w v) X (k := 0) (by decide : 0 < 15) rfl rfl rfl (As := []) (ct_X10_asItIs g.2.1 v hi _ _  hw) ok_X10_asItIs cw_X10_159 (ts_le hgn (by decide)) (by decide) rfl rfl (Nat.le_of_ble_eq_true rfl) dX10_behind_30 (fun s20 hw => ?_)
        refine ts_iconst X dX10_behind_33 (v := 0) (by decide) ?_
        refine ts_istore X dX10_behind_34 (by decide) (lv' := [(4, .int 0), (0, .ref (tX_ad v 0)), (1, .int a1), (2, .int a2), (3, .int a3)]) rfl ?_
        exact ts_sub [1, 2, 3, 4, 0] rfl (J36  _ _ hw)
      · have hw := ts_itp hw c
        refine ts_iconst X dX10_behind_27 (v := (-1)) (by decide) ?_
        exact hret _ _ _ _ hw dX10_behind_28
set_option maxRecDepth 100000 in
set_option maxHeartbeats 4000000 in
theorem ct_X10_lowest (l : Launch) (v : tX_V) (hi : ts_inj 15 (tX_ad v)) (K : Int32 → ts_S → Prop) (σ : ts_S) (a1 : Int32)  (hw : wp_X10_lowest K σ a1) : ts_Mi l yX10_lowest (Cond.code yX10_lowest cX10_lowest 3 (some .int)) 5 (tM_w v) [.ref (tX_ad v 0), .int a1] σ K := by
  refine ts_Mi.of_i (w := tM_w v) hi (by decide +kernel) (Nat.le_of_ble_eq_true rfl) ?_
  intro g hgl hgn X hret
  have J44 : ∀ (σ : ts_S) (x2 : Int32), wp_X10_lowest_l44 K a1 σ x2 → ts_G g (tM_w v) 3 σ 44 [(0, .ref (tX_ad v 0)), (1, .int a1), (2, .int x2)] [] := by
    intro  σ x2 hw
    have key : ∀ X44 : ts_S → Int32 → Prop, (∀ (σ : ts_S) (x2 : Int32), X44 σ x2 → ts_G g (tM_w v) 3 σ 44 [(0, .ref (tX_ad v 0)), (1, .int a1), (2, .int x2)] []) → ∀ (σ : ts_S) (x2 : Int32), wp_X10_lowest_b44 K X44 a1  σ x2 → ts_G g (tM_w v) 3 σ 44 [(0, .ref (tX_ad v 0)), (1, .int a1), (2, .int x2)] [] := by
      intro X44 hX44
      intro σ x2 hw
      unfold wp_X10_lowest_b44 at hw
      refine ts_iload_n X dX10_lowest_44 2 rfl ?_
      refine ts_if_le 80 X dX10_lowest_45 (by decide) (fun c => ?_) (fun c => ?_)
      · have hw := ts_itp hw c
        refine ts_iload_n X dX10_lowest_80 2 rfl ?_
        exact hret _ _ _ _ hw dX10_lowest_81
      · have hw := ts_itn hw c
        refine ts_aload_n X dX10_lowest_48 0 rfl ?_
        refine ts_iload_n X dX10_lowest_49 1 rfl ?_
        refine ts_iload_n X dX10_lowest_50 2 rfl ?_
        refine ts_iconst X dX10_lowest_51 (v := 1) (by decide) ?_
        refine ts_isub X dX10_lowest_52 ?_
        refine ts_aload_n X dX10_lowest_53 0 rfl ?_
        refine gf_X10_7 X dX10_lowest_54 ?_
        refine ts_iload_n X dX10_lowest_57 1 rfl ?_
        refine mi_ald X tM_c1 hw.1 dX10_lowest_58 ?_
        have hw := hw.2
        refine ts_callVi (w := tM_w v) X (k := 0) (by decide : 0 < 15) rfl rfl rfl (As := [.int a1, .int (x2 - 1), .int (σ 1 a1.toNatClampNeg)]) (ct_X10_fearAs g.2.1 v hi _ _ _ _ _ hw) ok_X10_fearAs cw_X10_143 (ts_le hgn (by decide)) (by decide) rfl rfl (Nat.le_of_ble_eq_true rfl) dX10_lowest_59 (fun r11 s12 hw => ?_)
        refine ts_aload_n X dX10_lowest_62 0 rfl ?_
        refine gf_X10_43 X dX10_lowest_63 ?_
        refine ts_bipush X dX10_lowest_66 (v := 15) (by decide) ?_
        refine ts_iload_n X dX10_lowest_68 1 rfl ?_
        refine ts_iadd X dX10_lowest_69 ?_
        refine mi_ald X tM_c12 hw.1 dX10_lowest_70 ?_
        have hw := hw.2
        refine ts_icmp_gt 80 X dX10_lowest_71 (by decide) (fun c => ?_) (fun c => ?_)
        · have hw := ts_itp hw c
          refine ts_iload_n X dX10_lowest_80 2 rfl ?_
          exact hret _ _ _ _ hw dX10_lowest_81
        · have hw := ts_itn hw c
          refine ts_iinc X dX10_lowest_74 2 rfl (v := x2 + (-1)) rfl (by decide) (lv' := [(2, .int (x2 + (-1))), (0, .ref (tX_ad v 0)), (1, .int a1)]) rfl ?_
          refine ts_goto 44 X dX10_lowest_77 (by decide) ?_
          exact ts_sub [1, 2, 0] rfl (hX44 _ _ hw)
    exact hw _ (fun σ x2 h => key _ (fun _ _ h => h) σ x2 h)
  unfold wp_X10_lowest at hw
  show ts_G g (tM_w v) 3 σ 0 [(0, .ref (tX_ad v 0)), (1, .int a1)] []
  refine ts_aload_n X dX10_lowest_0 0 rfl ?_
  refine ts_iload_n X dX10_lowest_1 1 rfl ?_
  refine ts_callVi (w := tM_w v) X (k := 0) (by decide : 0 < 15) rfl rfl rfl (As := [.int a1]) (ct_X10_isPerson g.2.1 v hi _ _ _ hw) ok_X10_isPerson cw_X10_156 (ts_le hgn (by decide)) (by decide) rfl rfl (Nat.le_of_ble_eq_true rfl) dX10_lowest_2 (fun r13 s14 hw => ?_)
  refine ts_if_ne 10 X dX10_lowest_5 (by decide) (fun c => ?_) (fun c => ?_)
  · have hw := ts_itn hw c
    refine ts_aload_n X dX10_lowest_10 0 rfl ?_
    refine ts_callVv (w := tM_w v) X (k := 0) (by decide : 0 < 15) rfl rfl rfl (As := []) (ct_X10_asItIs g.2.1 v hi _ _  hw) ok_X10_asItIs cw_X10_159 (ts_le hgn (by decide)) (by decide) rfl rfl (Nat.le_of_ble_eq_true rfl) dX10_lowest_11 (fun s16 hw => ?_)
    refine ts_aload_n X dX10_lowest_14 0 rfl ?_
    refine ts_callVi (w := tM_w v) X (k := 0) (by decide : 0 < 15) rfl rfl rfl (As := []) (ct_X10_frozen g.2.1 v hi _ _  hw) ok_X10_frozen cw_X10_150 (ts_le hgn (by decide)) (by decide) rfl rfl (Nat.le_of_ble_eq_true rfl) dX10_lowest_15 (fun r17 s18 hw => ?_)
    refine ts_aload_n X dX10_lowest_18 0 rfl ?_
    refine gf_X10_43 X dX10_lowest_19 ?_
    refine ts_iconst X dX10_lowest_22 (v := 1) (by decide) ?_
    refine mi_ald X tM_c12 hw.1 dX10_lowest_23 ?_
    have hw := hw.2
    refine ts_ior X dX10_lowest_24 ?_
    refine ts_iload_n X dX10_lowest_25 1 rfl ?_
    refine ts_callSi X (As := [.int (r17 ||| (s18 12 (1 : Int32).toNatClampNeg)), .int a1]) (ct_X10_has g.2.1 v hi _ _ _ _ hw) ok_X10_has cw_X10_139 (ts_le hgn (by decide)) (by decide) rfl rfl (Nat.le_of_ble_eq_true rfl) dX10_lowest_26 (fun r19 s20 hw => ?_)
    refine ts_if_eq 35 X dX10_lowest_29 (by decide) (fun c => ?_) (fun c => ?_)
    · have hw := ts_itp hw c
      refine ts_aload_n X dX10_lowest_35 0 rfl ?_
      refine gf_X10_43 X dX10_lowest_36 ?_
      refine ts_iconst X dX10_lowest_39 (v := 3) (by decide) ?_
      refine ts_iload_n X dX10_lowest_40 1 rfl ?_
      refine ts_iadd X dX10_lowest_41 ?_
      refine mi_ald X tM_c12 hw.1 dX10_lowest_42 ?_
      have hw := hw.2
      refine ts_istore_n X dX10_lowest_43 (by decide) (lv' := [(2, .int (s20 12 (3 + a1).toNatClampNeg)), (0, .ref (tX_ad v 0)), (1, .int a1)]) rfl ?_
      exact ts_sub [1, 2, 0] rfl (J44  _ _ hw)
    · have hw := ts_itn hw c
      refine ts_bipush X dX10_lowest_32 (v := (-2)) (by decide) ?_
      exact hret _ _ _ _ hw dX10_lowest_34
  · have hw := ts_itp hw c
    refine ts_iconst X dX10_lowest_8 (v := (-1)) (by decide) ?_
    exact hret _ _ _ _ hw dX10_lowest_9
set_option maxRecDepth 100000 in
set_option maxHeartbeats 4000000 in
theorem ct_X10_mayBe (l : Launch) (v : tX_V) (hi : ts_inj 15 (tX_ad v)) (K : Int32 → ts_S → Prop) (σ : ts_S) (a1 : Int32)  (hw : wp_X10_mayBe K σ a1) : ts_Mi l yX10_mayBe (Cond.code yX10_mayBe cX10_mayBe 4 (some .int)) 2 (tM_w v) [.ref (tX_ad v 0), .int a1] σ K := by
  refine ts_Mi.of_i (w := tM_w v) hi (by decide +kernel) (Nat.le_of_ble_eq_true rfl) ?_
  intro g hgl hgn X hret
  have J13 : ∀ (σ : ts_S) (x2 : Int32) (x3 : Int32), wp_X10_mayBe_l13 K a1 σ x2 x3 → ts_G g (tM_w v) 4 σ 13 [(0, .ref (tX_ad v 0)), (1, .int a1), (2, .int x2), (3, .int x3)] [] := by
    intro  σ x2 x3 hw
    have key : ∀ X13 : ts_S → Int32 → Int32 → Prop, (∀ (σ : ts_S) (x2 : Int32) (x3 : Int32), X13 σ x2 x3 → ts_G g (tM_w v) 4 σ 13 [(0, .ref (tX_ad v 0)), (1, .int a1), (2, .int x2), (3, .int x3)] []) → ∀ (σ : ts_S) (x2 : Int32) (x3 : Int32), wp_X10_mayBe_b13 K X13 a1  σ x2 x3 → ts_G g (tM_w v) 4 σ 13 [(0, .ref (tX_ad v 0)), (1, .int a1), (2, .int x2), (3, .int x3)] [] := by
      intro X13 hX13
      intro σ x2 x3 hw
      unfold wp_X10_mayBe_b13 at hw
      refine ts_iload_n X dX10_mayBe_13 3 rfl ?_
      refine ts_aload_n X dX10_mayBe_14 0 rfl ?_
      refine gf_X10_127 X dX10_mayBe_15 ?_
      refine ts_icmp_ge 57 X dX10_mayBe_18 (by decide) (fun c => ?_) (fun c => ?_)
      · have hw := ts_itp hw c
        refine ts_iload_n X dX10_mayBe_57 2 rfl ?_
        exact hret _ _ _ _ hw dX10_mayBe_58
      · have hw := ts_itn hw c
        refine ts_iload_n X dX10_mayBe_21 2 rfl ?_
        refine ts_aload_n X dX10_mayBe_22 0 rfl ?_
        refine gf_X10_16 X dX10_mayBe_23 ?_
        refine ts_iconst X dX10_mayBe_26 (v := 1) (by decide) ?_
        refine mi_ald X tM_c3 hw.1 dX10_mayBe_27 ?_
        have hw := hw.2
        refine ts_iload_n X dX10_mayBe_28 1 rfl ?_
        refine ts_callSi X (As := [.int (σ 3 (1 : Int32).toNatClampNeg), .int a1]) (ct_X10_has g.2.1 v hi _ _ _ _ hw) ok_X10_has cw_X10_139 (ts_le hgn (by decide)) (by decide) rfl rfl (Nat.le_of_ble_eq_true rfl) dX10_mayBe_29 (fun r3 s4 hw => ?_)
        refine ts_if_eq 39 X dX10_mayBe_32 (by decide) (fun c => ?_) (fun c => ?_)
        · have hw := ts_itp hw c
          refine ts_iconst X dX10_mayBe_39 (v := 1) (by decide) ?_
          refine ts_aload_n X dX10_mayBe_40 0 rfl ?_
          refine gf_X10_13 X dX10_mayBe_41 ?_
          refine ts_iconst X dX10_mayBe_44 (v := 2) (by decide) ?_
          refine ts_iload_n X dX10_mayBe_45 3 rfl ?_
          refine ts_imul X dX10_mayBe_46 ?_
          refine mi_ald X tM_c2 hw.1 dX10_mayBe_47 ?_
          have hw := hw.2
          refine ts_ishl X dX10_mayBe_48 ?_
          refine ts_ior X dX10_mayBe_49 ?_
          refine ts_istore_n X dX10_mayBe_50 (by decide) (lv' := [(2, .int (x2 ||| (1 <<< ((s4 2 (2 * x3).toNatClampNeg) &&& 31)))), (0, .ref (tX_ad v 0)), (1, .int a1), (3, .int x3)]) rfl ?_
          refine ts_iinc X dX10_mayBe_51 3 rfl (v := x3 + 1) rfl (by decide) (lv' := [(3, .int (x3 + 1)), (2, .int (x2 ||| (1 <<< ((s4 2 (2 * x3).toNatClampNeg) &&& 31)))), (0, .ref (tX_ad v 0)), (1, .int a1)]) rfl ?_
          refine ts_goto 13 X dX10_mayBe_54 (by decide) ?_
          exact ts_sub [2, 3, 1, 0] rfl (hX13 _ _ _ hw)
        · have hw := ts_itn hw c
          refine ts_iconst X dX10_mayBe_35 (v := 0) (by decide) ?_
          refine ts_goto 49 X dX10_mayBe_36 (by decide) ?_
          refine ts_ior X dX10_mayBe_49 ?_
          refine ts_istore_n X dX10_mayBe_50 (by decide) (lv' := [(2, .int (x2 ||| 0)), (0, .ref (tX_ad v 0)), (1, .int a1), (3, .int x3)]) rfl ?_
          refine ts_iinc X dX10_mayBe_51 3 rfl (v := x3 + 1) rfl (by decide) (lv' := [(3, .int (x3 + 1)), (2, .int (x2 ||| 0)), (0, .ref (tX_ad v 0)), (1, .int a1)]) rfl ?_
          refine ts_goto 13 X dX10_mayBe_54 (by decide) ?_
          exact ts_sub [2, 3, 1, 0] rfl (hX13 _ _ _ hw)
    exact hw _ (fun σ x2 x3 h => key _ (fun _ _ _ h => h) σ x2 x3 h)
  unfold wp_X10_mayBe at hw
  show ts_G g (tM_w v) 4 σ 0 [(0, .ref (tX_ad v 0)), (1, .int a1)] []
  refine ts_iconst X dX10_mayBe_0 (v := 1) (by decide) ?_
  refine ts_aload_n X dX10_mayBe_1 0 rfl ?_
  refine gf_X10_16 X dX10_mayBe_2 ?_
  refine ts_iconst X dX10_mayBe_5 (v := 3) (by decide) ?_
  refine ts_iload_n X dX10_mayBe_6 1 rfl ?_
  refine ts_iadd X dX10_mayBe_7 ?_
  refine mi_ald X tM_c3 hw.1 dX10_mayBe_8 ?_
  have hw := hw.2
  refine ts_ishl X dX10_mayBe_9 ?_
  refine ts_istore_n X dX10_mayBe_10 (by decide) (lv' := [(2, .int (1 <<< ((σ 3 (3 + a1).toNatClampNeg) &&& 31))), (0, .ref (tX_ad v 0)), (1, .int a1)]) rfl ?_
  refine ts_iconst X dX10_mayBe_11 (v := 0) (by decide) ?_
  refine ts_istore_n X dX10_mayBe_12 (by decide) (lv' := [(3, .int 0), (2, .int (1 <<< ((σ 3 (3 + a1).toNatClampNeg) &&& 31))), (0, .ref (tX_ad v 0)), (1, .int a1)]) rfl ?_
  exact ts_sub [2, 3, 1, 0] rfl (J13  _ _ _ hw)
set_option maxRecDepth 100000 in
set_option maxHeartbeats 4000000 in
theorem ct_X10_leastOf (l : Launch) (v : tX_V) (hi : ts_inj 15 (tX_ad v)) (K : Int32 → ts_S → Prop) (σ : ts_S) (a0 : Int32)  (hw : wp_X10_leastOf K σ a0) : ts_Mi l yX10_leastOf (Cond.code yX10_leastOf cX10_leastOf 2 (some .int)) 2 (tM_w v) [.int a0] σ K := by
  refine ts_Mi.of_i (w := tM_w v) hi (by decide +kernel) (Nat.le_of_ble_eq_true rfl) ?_
  intro g hgl hgn X hret
  have J2 : ∀ (σ : ts_S) (x1 : Int32), wp_X10_leastOf_l2 K a0 σ x1 → ts_G g (tM_w v) 2 σ 2 [(0, .int a0), (1, .int x1)] [] := by
    intro  σ x1 hw
    have key : ∀ X2 : ts_S → Int32 → Prop, (∀ (σ : ts_S) (x1 : Int32), X2 σ x1 → ts_G g (tM_w v) 2 σ 2 [(0, .int a0), (1, .int x1)] []) → ∀ (σ : ts_S) (x1 : Int32), wp_X10_leastOf_b2 K X2 a0  σ x1 → ts_G g (tM_w v) 2 σ 2 [(0, .int a0), (1, .int x1)] [] := by
      intro X2 hX2
      intro σ x1 hw
      unfold wp_X10_leastOf_b2 at hw
      refine ts_iload_n X dX10_leastOf_2 0 rfl ?_
      refine ts_iload_n X dX10_leastOf_3 1 rfl ?_
      refine ts_callSi X (As := [.int a0, .int x1]) (ct_X10_has g.2.1 v hi _ _ _ _ hw) ok_X10_has cw_X10_139 (ts_le hgn (by decide)) (by decide) rfl rfl (Nat.le_of_ble_eq_true rfl) dX10_leastOf_4 (fun r3 s4 hw => ?_)
      refine ts_if_ne 16 X dX10_leastOf_7 (by decide) (fun c => ?_) (fun c => ?_)
      · have hw := ts_itn hw c
        refine ts_iload_n X dX10_leastOf_16 1 rfl ?_
        exact hret _ _ _ _ hw dX10_leastOf_17
      · have hw := ts_itp hw c
        refine ts_iinc X dX10_leastOf_10 1 rfl (v := x1 + 1) rfl (by decide) (lv' := [(1, .int (x1 + 1)), (0, .int a0)]) rfl ?_
        refine ts_goto 2 X dX10_leastOf_13 (by decide) ?_
        exact ts_sub [1, 0] rfl (hX2 _ _ hw)
    exact hw _ (fun σ x1 h => key _ (fun _ _ h => h) σ x1 h)
  unfold wp_X10_leastOf at hw
  show ts_G g (tM_w v) 2 σ 0 [(0, .int a0)] []
  refine ts_iconst X dX10_leastOf_0 (v := 0) (by decide) ?_
  refine ts_istore_n X dX10_leastOf_1 (by decide) (lv' := [(1, .int 0), (0, .int a0)]) rfl ?_
  exact ts_sub [1, 0] rfl (J2  _ _ hw)
set_option maxRecDepth 100000 in
set_option maxHeartbeats 4000000 in
theorem ct_X10_done (l : Launch) (v : tX_V) (hi : ts_inj 15 (tX_ad v)) (K : Int32 → ts_S → Prop) (σ : ts_S)   (hw : wp_X10_done K σ ) : ts_Mi l yX10_done (Cond.code yX10_done cX10_done 4 (some .int)) 5 (tM_w v) [.ref (tX_ad v 0)] σ K := by
  refine ts_Mi.of_i (w := tM_w v) hi (by decide +kernel) (Nat.le_of_ble_eq_true rfl) ?_
  intro g hgl hgn X hret
  have J9 : ∀ (σ : ts_S) (x1 : Int32) (x2 : Int32) (x3 : Int32), wp_X10_done_l9 K  σ x1 x2 x3 → ts_G g (tM_w v) 4 σ 9 [(0, .ref (tX_ad v 0)), (1, .int x1), (2, .int x2), (3, .int x3)] [] := by
    intro  σ x1 x2 x3 hw
    have key : ∀ X9 : ts_S → Int32 → Int32 → Prop, (∀ (σ : ts_S) (x2 : Int32) (x3 : Int32), X9 σ x2 x3 → ts_G g (tM_w v) 4 σ 9 [(0, .ref (tX_ad v 0)), (1, .int x1), (2, .int x2), (3, .int x3)] []) → ∀ (σ : ts_S) (x2 : Int32) (x3 : Int32), wp_X10_done_b9 K X9  x1 σ x2 x3 → ts_G g (tM_w v) 4 σ 9 [(0, .ref (tX_ad v 0)), (1, .int x1), (2, .int x2), (3, .int x3)] [] := by
      intro X9 hX9
      intro σ x2 x3 hw
      unfold wp_X10_done_b9 at hw
      refine ts_iload_n X dX10_done_9 3 rfl ?_
      refine ts_aload_n X dX10_done_10 0 rfl ?_
      refine gf_X10_127 X dX10_done_11 ?_
      refine ts_icmp_ge 40 X dX10_done_14 (by decide) (fun c => ?_) (fun c => ?_)
      · have hw := ts_itp hw c
        refine ts_iload_n X dX10_done_40 2 rfl ?_
        exact hret _ _ _ _ hw dX10_done_41
      · have hw := ts_itn hw c
        refine ts_iload_n X dX10_done_17 2 rfl ?_
        refine ts_aload_n X dX10_done_18 0 rfl ?_
        refine ts_iload_n X dX10_done_19 3 rfl ?_
        refine ts_iload_n X dX10_done_20 1 rfl ?_
        refine ts_callVi (w := tM_w v) X (k := 0) (by decide : 0 < 15) rfl rfl rfl (As := [.int x3, .int x1]) (ct_X10_isDone g.2.1 v hi _ _ _ _ hw) ok_X10_isDone cw_X10_153 (ts_le hgn (by decide)) (by decide) rfl rfl (Nat.le_of_ble_eq_true rfl) dX10_done_21 (fun r5 s6 hw => ?_)
        refine ts_if_eq 31 X dX10_done_24 (by decide) (fun c => ?_) (fun c => ?_)
        · have hw := ts_itp hw c
          refine ts_iconst X dX10_done_31 (v := 0) (by decide) ?_
          refine ts_iadd X dX10_done_32 ?_
          refine ts_istore_n X dX10_done_33 (by decide) (lv' := [(2, .int (x2 + 0)), (0, .ref (tX_ad v 0)), (1, .int x1), (3, .int x3)]) rfl ?_
          refine ts_iinc X dX10_done_34 3 rfl (v := x3 + 1) rfl (by decide) (lv' := [(3, .int (x3 + 1)), (2, .int (x2 + 0)), (0, .ref (tX_ad v 0)), (1, .int x1)]) rfl ?_
          refine ts_goto 9 X dX10_done_37 (by decide) ?_
          exact ts_sub [2, 3, 1, 0] rfl (hX9 _ _ _ hw)
        · have hw := ts_itn hw c
          refine ts_iconst X dX10_done_27 (v := 1) (by decide) ?_
          refine ts_goto 32 X dX10_done_28 (by decide) ?_
          refine ts_iadd X dX10_done_32 ?_
          refine ts_istore_n X dX10_done_33 (by decide) (lv' := [(2, .int (x2 + 1)), (0, .ref (tX_ad v 0)), (1, .int x1), (3, .int x3)]) rfl ?_
          refine ts_iinc X dX10_done_34 3 rfl (v := x3 + 1) rfl (by decide) (lv' := [(3, .int (x3 + 1)), (2, .int (x2 + 1)), (0, .ref (tX_ad v 0)), (1, .int x1)]) rfl ?_
          refine ts_goto 9 X dX10_done_37 (by decide) ?_
          exact ts_sub [2, 3, 1, 0] rfl (hX9 _ _ _ hw)
    exact hw _ (fun σ x2 x3 h => key _ (fun _ _ _ h => h) σ x2 x3 h)
  unfold wp_X10_done at hw
  show ts_G g (tM_w v) 4 σ 0 [(0, .ref (tX_ad v 0))] []
  refine ts_aload_n X dX10_done_0 0 rfl ?_
  refine ts_callVi (w := tM_w v) X (k := 0) (by decide : 0 < 15) rfl rfl rfl (As := []) (ct_X10_frozen g.2.1 v hi _ _  hw) ok_X10_frozen cw_X10_150 (ts_le hgn (by decide)) (by decide) rfl rfl (Nat.le_of_ble_eq_true rfl) dX10_done_1 (fun r7 s8 hw => ?_)
  refine ts_istore_n X dX10_done_4 (by decide) (lv' := [(1, .int r7), (0, .ref (tX_ad v 0))]) rfl ?_
  refine ts_iconst X dX10_done_5 (v := 0) (by decide) ?_
  refine ts_istore_n X dX10_done_6 (by decide) (lv' := [(2, .int 0), (1, .int r7), (0, .ref (tX_ad v 0))]) rfl ?_
  refine ts_iconst X dX10_done_7 (v := 0) (by decide) ?_
  refine ts_istore_n X dX10_done_8 (by decide) (lv' := [(3, .int 0), (2, .int 0), (1, .int r7), (0, .ref (tX_ad v 0))]) rfl ?_
  exact ts_sub [3, 2, 1, 0] rfl (J9  _ _ _ _ hw)
set_option maxRecDepth 100000 in
set_option maxHeartbeats 4000000 in
theorem ct_X10_putsNext (l : Launch) (v : tX_V) (hi : ts_inj 15 (tX_ad v)) (K : Int32 → ts_S → Prop) (σ : ts_S)   (hw : wp_X10_putsNext K σ ) : ts_Mi l yX10_putsNext (Cond.code yX10_putsNext cX10_putsNext 4 (some .boolean)) 3 (tM_w v) [.ref (tX_ad v 0)] σ K := by
  refine ts_Mi.of_z (w := tM_w v) hi (by decide +kernel) (Nat.le_of_ble_eq_true rfl) ?_
  intro g hgl hgn X hret
  have J7 : ∀ (σ : ts_S) (x1 : Int32), wp_X10_putsNext_l7 K  σ x1 → ts_G g (tM_w v) 4 σ 7 [(0, .ref (tX_ad v 0)), (1, .int x1)] [] := by
    intro  σ x1 hw
    have key : ∀ X7 : ts_S → Int32 → Prop, (∀ (σ : ts_S) (x1 : Int32), X7 σ x1 → ts_G g (tM_w v) 4 σ 7 [(0, .ref (tX_ad v 0)), (1, .int x1)] []) → ∀ (σ : ts_S) (x1 : Int32), wp_X10_putsNext_b7 K X7   σ x1 → ts_G g (tM_w v) 4 σ 7 [(0, .ref (tX_ad v 0)), (1, .int x1)] [] := by
      intro X7 hX7
      have J50 : ∀ (σ : ts_S) (x1 : Int32) (x2 : Int32) (x3 : Int32), wp_X10_putsNext_j50 K X7  σ x1 x2 x3 → ts_G g (tM_w v) 4 σ 50 [(0, .ref (tX_ad v 0)), (1, .int x1), (2, .int x2), (3, .int x3)] [] := by
        intro  σ x1 x2 x3 hw
        unfold wp_X10_putsNext_j50 at hw
        refine ts_iload_n X dX10_putsNext_50 3 rfl ?_
        refine ts_aload_n X dX10_putsNext_51 0 rfl ?_
        refine gf_X10_80 X dX10_putsNext_52 ?_
        refine ts_icmp_ge 69 X dX10_putsNext_55 (by decide) (fun c => ?_) (fun c => ?_)
        · have hw := ts_itp hw c
          refine ts_aload_n X dX10_putsNext_69 0 rfl ?_
          refine gf_X10_43 X dX10_putsNext_70 ?_
          refine ts_iconst X dX10_putsNext_73 (v := 3) (by decide) ?_
          refine ts_iload_n X dX10_putsNext_74 1 rfl ?_
          refine ts_iadd X dX10_putsNext_75 ?_
          refine ts_iload_n X dX10_putsNext_76 2 rfl ?_
          refine ts_callSi X (As := [.int x2]) (ct_X10_leastOf g.2.1 v hi _ _ _ hw) ok_X10_leastOf cw_X10_187 (ts_le hgn (by decide)) (by decide) rfl rfl (Nat.le_of_ble_eq_true rfl) dX10_putsNext_77 (fun r9 s10 hw => ?_)
          refine mi_ast X tM_c12 hw.1 dX10_putsNext_80 (fun s11 es11 => ?_)
          have hw := hw.2 s11 es11
          refine ts_iinc X dX10_putsNext_81 1 rfl (v := x1 + (-1)) rfl (by decide) (lv' := [(1, .int (x1 + (-1))), (0, .ref (tX_ad v 0)), (2, .int x2), (3, .int x3)]) rfl ?_
          refine ts_goto 7 X dX10_putsNext_84 (by decide) ?_
          exact ts_sub [1, 0] rfl (hX7 _ _ hw)
        · have hw := ts_itn hw c
          refine ts_aload_n X dX10_putsNext_58 0 rfl ?_
          refine gf_X10_43 X dX10_putsNext_59 ?_
          refine ts_iconst X dX10_putsNext_62 (v := 3) (by decide) ?_
          refine ts_iload_n X dX10_putsNext_63 1 rfl ?_
          refine ts_iadd X dX10_putsNext_64 ?_
          refine ts_iload_n X dX10_putsNext_65 3 rfl ?_
          refine mi_ast X tM_c12 hw.1 dX10_putsNext_66 (fun s12 es12 => ?_)
          have hw := hw.2 s12 es12
          refine ts_iconst X dX10_putsNext_67 (v := 1) (by decide) ?_
          exact hret _ _ _ _ hw dX10_putsNext_68
      have J28 : ∀ (σ : ts_S) (x1 : Int32) (x2 : Int32) (x3 : Int32), wp_X10_putsNext_l28 K X7  σ x1 x2 x3 → ts_G g (tM_w v) 4 σ 28 [(0, .ref (tX_ad v 0)), (1, .int x1), (2, .int x2), (3, .int x3)] [] := by
        intro  σ x1 x2 x3 hw
        have key : ∀ X28 : ts_S → Int32 → Prop, (∀ (σ : ts_S) (x3 : Int32), X28 σ x3 → ts_G g (tM_w v) 4 σ 28 [(0, .ref (tX_ad v 0)), (1, .int x1), (2, .int x2), (3, .int x3)] []) → ∀ (σ : ts_S) (x3 : Int32), wp_X10_putsNext_b28 K X7 X28  x1 x2 σ x3 → ts_G g (tM_w v) 4 σ 28 [(0, .ref (tX_ad v 0)), (1, .int x1), (2, .int x2), (3, .int x3)] [] := by
          intro X28 hX28
          intro σ x3 hw
          unfold wp_X10_putsNext_b28 at hw
          refine ts_iload_n X dX10_putsNext_28 3 rfl ?_
          refine ts_aload_n X dX10_putsNext_29 0 rfl ?_
          refine gf_X10_80 X dX10_putsNext_30 ?_
          refine ts_icmp_ge 50 X dX10_putsNext_33 (by decide) (fun c => ?_) (fun c => ?_)
          · have hw := ts_itp hw c
            exact ts_sub [0, 1, 2, 3] rfl (J50  _ _ _ _ hw)
          · have hw := ts_itn hw c
            refine ts_iload_n X dX10_putsNext_36 2 rfl ?_
            refine ts_iload_n X dX10_putsNext_37 3 rfl ?_
            refine ts_callSi X (As := [.int x2, .int x3]) (ct_X10_has g.2.1 v hi _ _ _ _ hw) ok_X10_has cw_X10_139 (ts_le hgn (by decide)) (by decide) rfl rfl (Nat.le_of_ble_eq_true rfl) dX10_putsNext_38 (fun r13 s14 hw => ?_)
            refine ts_if_ne 50 X dX10_putsNext_41 (by decide) (fun c => ?_) (fun c => ?_)
            · have hw := ts_itn hw c
              exact ts_sub [0, 1, 2, 3] rfl (J50  _ _ _ _ hw)
            · have hw := ts_itp hw c
              refine ts_iinc X dX10_putsNext_44 3 rfl (v := x3 + 1) rfl (by decide) (lv' := [(3, .int (x3 + 1)), (0, .ref (tX_ad v 0)), (1, .int x1), (2, .int x2)]) rfl ?_
              refine ts_goto 28 X dX10_putsNext_47 (by decide) ?_
              exact ts_sub [1, 2, 3, 0] rfl (hX28 _ _ hw)
        exact hw _ (fun σ x3 h => key _ (fun _ _ h => h) σ x3 h)
      intro σ x1 hw
      unfold wp_X10_putsNext_b7 at hw
      refine ts_iload_n X dX10_putsNext_7 1 rfl ?_
      refine ts_if_lt 87 X dX10_putsNext_8 (by decide) (fun c => ?_) (fun c => ?_)
      · have hw := ts_itp hw c
        refine ts_iconst X dX10_putsNext_87 (v := 0) (by decide) ?_
        exact hret _ _ _ _ hw dX10_putsNext_88
      · have hw := ts_itn hw c
        refine ts_aload_n X dX10_putsNext_11 0 rfl ?_
        refine ts_iload_n X dX10_putsNext_12 1 rfl ?_
        refine ts_callVi (w := tM_w v) X (k := 0) (by decide : 0 < 15) rfl rfl rfl (As := [.int x1]) (ct_X10_mayBe g.2.1 v hi _ _ _ hw) ok_X10_mayBe cw_X10_184 (ts_le hgn (by decide)) (by decide) rfl rfl (Nat.le_of_ble_eq_true rfl) dX10_putsNext_13 (fun r15 s16 hw => ?_)
        refine ts_istore_n X dX10_putsNext_16 (by decide) (lv' := [(2, .int r15), (0, .ref (tX_ad v 0)), (1, .int x1)]) rfl ?_
        refine ts_aload_n X dX10_putsNext_17 1 rfl ?_
        refine gf_X10_43 X dX10_putsNext_18 ?_
        refine ts_iconst X dX10_putsNext_21 (v := 3) (by decide) ?_
        refine ts_iload_n X dX10_putsNext_22 2 rfl ?_
        refine ts_iadd X dX10_putsNext_23 ?_
        refine mi_ald X tM_c12 hw.1 dX10_putsNext_24 ?_
        have hw := hw.2
        refine ts_iconst X dX10_putsNext_25 (v := 1) (by decide) ?_
        refine ts_iadd X dX10_putsNext_26 ?_
        refine ts_istore_n X dX10_putsNext_27 (by decide) (lv' := [(3, .int ((s16 12 (3 + x1).toNatClampNeg) + 1)), (2, .int r15), (0, .ref (tX_ad v 0)), (1, .int x1)]) rfl ?_
        exact ts_sub [2, 3, 1, 0] rfl (J28  _ _ _ _ hw)
    exact hw _ (fun σ x1 h => key _ (fun _ _ h => h) σ x1 h)
  unfold wp_X10_putsNext at hw
  show ts_G g (tM_w v) 4 σ 0 [(0, .ref (tX_ad v 0))] []
  refine ts_aload_n X dX10_putsNext_0 0 rfl ?_
  refine gf_X10_73 X dX10_putsNext_1 ?_
  refine ts_iconst X dX10_putsNext_4 (v := 1) (by decide) ?_
  refine ts_isub X dX10_putsNext_5 ?_
  refine ts_istore_n X dX10_putsNext_6 (by decide) (lv' := [(1, .int ((σ 0 1) - 1)), (0, .ref (tX_ad v 0))]) rfl ?_
  exact ts_sub [1, 0] rfl (J7  _ _ hw)
