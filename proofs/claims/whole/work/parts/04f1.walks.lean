set_option maxRecDepth 100000 in
set_option maxHeartbeats 4000000 in
theorem ct_X10_clearTold (l : Launch) (v : tX_V) (hi : ts_inj 15 (tX_ad v)) (K : ts_S → Prop) (σ : ts_S)   (hw : wp_X10_clearTold K σ ) : ts_Mv l yX10_clearTold (Cond.code yX10_clearTold cX10_clearTold 2 (none)) 1 (tM_w v) [.ref (tX_ad v 0)] σ K := by
  refine ts_Mv.of_v (w := tM_w v) hi (by decide +kernel) (Nat.le_of_ble_eq_true rfl) ?_
  intro g hgl hgn X hret
  have J18 : ∀ (σ : ts_S) (x1 : Int32), wp_X10_clearTold_l18 K  σ x1 → ts_G g (tM_w v) 2 σ 18 [(0, .ref (tX_ad v 0)), (1, .int x1)] [] := by
    intro  σ x1 hw
    have key : ∀ X18 : ts_S → Int32 → Prop, (∀ (σ : ts_S) (x1 : Int32), X18 σ x1 → ts_G g (tM_w v) 2 σ 18 [(0, .ref (tX_ad v 0)), (1, .int x1)] []) → ∀ (σ : ts_S) (x1 : Int32), wp_X10_clearTold_b18 K X18   σ x1 → ts_G g (tM_w v) 2 σ 18 [(0, .ref (tX_ad v 0)), (1, .int x1)] [] := by
      intro X18 hX18
      intro σ x1 hw
      unfold wp_X10_clearTold_b18 at hw
      refine ts_iload_n X dX10_clearTold_18 1 rfl ?_
      refine ts_bipush X dX10_clearTold_19 (v := 21) (by decide) ?_
      refine ts_icmp_ge 37 X dX10_clearTold_21 (by decide) (fun c => ?_) (fun c => ?_)
      · have hw := ts_itp hw c
        exact hret _ _ _ hw dX10_clearTold_37
      · have hw := ts_itn hw c
        refine ts_aload_n X dX10_clearTold_24 0 rfl ?_
        refine gf_X10_37 X dX10_clearTold_25 ?_
        refine ts_iload_n X dX10_clearTold_28 1 rfl ?_
        refine ts_iconst X dX10_clearTold_29 (v := 0) (by decide) ?_
        refine mi_ast X tM_c10 hw.1 dX10_clearTold_30 (fun s5 es5 => ?_)
        have hw := hw.2 s5 es5
        refine ts_iinc X dX10_clearTold_31 1 rfl (v := x1 + 1) rfl (by decide) (lv' := [(1, .int (x1 + 1)), (0, .ref (tX_ad v 0))]) rfl ?_
        refine ts_goto 18 X dX10_clearTold_34 (by decide) ?_
        exact ts_sub [1, 0] rfl (hX18 _ _ hw)
    exact hw _ (fun σ x1 h => key _ (fun _ _ h => h) σ x1 h)
  unfold wp_X10_clearTold at hw
  show ts_G g (tM_w v) 2 σ 0 [(0, .ref (tX_ad v 0))] []
  refine ts_aload_n X dX10_clearTold_0 0 rfl ?_
  refine ts_bipush X dX10_clearTold_1 (v := 6) (by decide) ?_
  refine pf_X10_97 X dX10_clearTold_3 (fun s6 es6 => ?_)
  have hw := hw s6 es6
  refine ts_aload_n X dX10_clearTold_6 0 rfl ?_
  refine ts_iconst X dX10_clearTold_7 (v := 0) (by decide) ?_
  refine pf_X10_66 X dX10_clearTold_8 (fun s7 es7 => ?_)
  have hw := hw s7 es7
  refine ts_aload_n X dX10_clearTold_11 0 rfl ?_
  refine ts_iconst X dX10_clearTold_12 (v := 0) (by decide) ?_
  refine pf_X10_70 X dX10_clearTold_13 (fun s8 es8 => ?_)
  have hw := hw s8 es8
  refine ts_iconst X dX10_clearTold_16 (v := 0) (by decide) ?_
  refine ts_istore_n X dX10_clearTold_17 (by decide) (lv' := [(1, .int 0), (0, .ref (tX_ad v 0))]) rfl ?_
  exact ts_sub [1, 0] rfl (J18  _ _ hw)
set_option maxRecDepth 100000 in
set_option maxHeartbeats 4000000 in
theorem ct_X10_tellsPerson (l : Launch) (v : tX_V) (hi : ts_inj 15 (tX_ad v)) (K : ts_S → Prop) (σ : ts_S) (a1 : Int32) (a2 : Int32) (a3 : Int32) (a4 : Int32)  (hw : wp_X10_tellsPerson K σ a1 a2 a3 a4) : ts_Mv l yX10_tellsPerson (Cond.code yX10_tellsPerson cX10_tellsPerson 5 (none)) 1 (tM_w v) [.ref (tX_ad v 0), .int a1, .int a2, .int a3, .int a4] σ K := by
  refine ts_Mv.of_v (w := tM_w v) hi (by decide +kernel) (Nat.le_of_ble_eq_true rfl) ?_
  intro g hgl hgn X hret
  unfold wp_X10_tellsPerson at hw
  show ts_G g (tM_w v) 5 σ 0 [(0, .ref (tX_ad v 0)), (1, .int a1), (2, .int a2), (3, .int a3), (4, .int a4)] []
  refine ts_aload_n X dX10_tellsPerson_0 0 rfl ?_
  refine gf_X10_34 X dX10_tellsPerson_1 ?_
  refine ts_aload_n X dX10_tellsPerson_4 0 rfl ?_
  refine gf_X10_66 X dX10_tellsPerson_5 ?_
  refine ts_iload_n X dX10_tellsPerson_8 1 rfl ?_
  refine mi_ast X tM_c9 hw.1 dX10_tellsPerson_9 (fun s6 es6 => ?_)
  have hw := hw.2 s6 es6
  refine ts_aload_n X dX10_tellsPerson_10 0 rfl ?_
  refine gf_X10_37 X dX10_tellsPerson_11 ?_
  refine ts_iconst X dX10_tellsPerson_14 (v := 3) (by decide) ?_
  refine ts_aload_n X dX10_tellsPerson_15 0 rfl ?_
  refine gf_X10_66 X dX10_tellsPerson_16 ?_
  refine ts_iadd X dX10_tellsPerson_19 ?_
  refine ts_iload_n X dX10_tellsPerson_20 2 rfl ?_
  refine mi_ast X tM_c10 hw.1 dX10_tellsPerson_21 (fun s7 es7 => ?_)
  have hw := hw.2 s7 es7
  refine ts_aload_n X dX10_tellsPerson_22 0 rfl ?_
  refine gf_X10_37 X dX10_tellsPerson_23 ?_
  refine ts_bipush X dX10_tellsPerson_26 (v := 9) (by decide) ?_
  refine ts_aload_n X dX10_tellsPerson_28 0 rfl ?_
  refine gf_X10_66 X dX10_tellsPerson_29 ?_
  refine ts_iadd X dX10_tellsPerson_32 ?_
  refine ts_iload_n X dX10_tellsPerson_33 3 rfl ?_
  refine mi_ast X tM_c10 hw.1 dX10_tellsPerson_34 (fun s8 es8 => ?_)
  have hw := hw.2 s8 es8
  refine ts_aload_n X dX10_tellsPerson_35 0 rfl ?_
  refine gf_X10_37 X dX10_tellsPerson_36 ?_
  refine ts_bipush X dX10_tellsPerson_39 (v := 15) (by decide) ?_
  refine ts_aload_n X dX10_tellsPerson_41 0 rfl ?_
  refine gf_X10_66 X dX10_tellsPerson_42 ?_
  refine ts_iadd X dX10_tellsPerson_45 ?_
  refine ts_iload X dX10_tellsPerson_46 4 rfl ?_
  refine mi_ast X tM_c10 hw.1 dX10_tellsPerson_48 (fun s9 es9 => ?_)
  have hw := hw.2 s9 es9
  refine ts_aload_n X dX10_tellsPerson_49 0 rfl ?_
  refine ts_dup X dX10_tellsPerson_50 rfl ?_
  refine gf_X10_66 X dX10_tellsPerson_51 ?_
  refine ts_iconst X dX10_tellsPerson_54 (v := 1) (by decide) ?_
  refine ts_iadd X dX10_tellsPerson_55 ?_
  refine pf_X10_66 X dX10_tellsPerson_56 (fun s10 es10 => ?_)
  have hw := hw s10 es10
  exact hret _ _ _ hw dX10_tellsPerson_59
set_option maxRecDepth 100000 in
set_option maxHeartbeats 4000000 in
theorem ct_X10_tellsWork (l : Launch) (v : tX_V) (hi : ts_inj 15 (tX_ad v)) (K : ts_S → Prop) (σ : ts_S) (a1 : Int32) (a2 : Int32)  (hw : wp_X10_tellsWork K σ a1 a2) : ts_Mv l yX10_tellsWork (Cond.code yX10_tellsWork cX10_tellsWork 3 (none)) 1 (tM_w v) [.ref (tX_ad v 0), .int a1, .int a2] σ K := by
  refine ts_Mv.of_v (w := tM_w v) hi (by decide +kernel) (Nat.le_of_ble_eq_true rfl) ?_
  intro g hgl hgn X hret
  unfold wp_X10_tellsWork at hw
  show ts_G g (tM_w v) 3 σ 0 [(0, .ref (tX_ad v 0)), (1, .int a1), (2, .int a2)] []
  refine ts_aload_n X dX10_tellsWork_0 0 rfl ?_
  refine gf_X10_40 X dX10_tellsWork_1 ?_
  refine ts_iconst X dX10_tellsWork_4 (v := 2) (by decide) ?_
  refine ts_aload_n X dX10_tellsWork_5 0 rfl ?_
  refine gf_X10_70 X dX10_tellsWork_6 ?_
  refine ts_imul X dX10_tellsWork_9 ?_
  refine ts_iload_n X dX10_tellsWork_10 1 rfl ?_
  refine mi_ast X tM_c11 hw.1 dX10_tellsWork_11 (fun s4 es4 => ?_)
  have hw := hw.2 s4 es4
  refine ts_aload_n X dX10_tellsWork_12 0 rfl ?_
  refine gf_X10_40 X dX10_tellsWork_13 ?_
  refine ts_iconst X dX10_tellsWork_16 (v := 2) (by decide) ?_
  refine ts_aload_n X dX10_tellsWork_17 0 rfl ?_
  refine gf_X10_70 X dX10_tellsWork_18 ?_
  refine ts_imul X dX10_tellsWork_21 ?_
  refine ts_iconst X dX10_tellsWork_22 (v := 1) (by decide) ?_
  refine ts_iadd X dX10_tellsWork_23 ?_
  refine ts_iload_n X dX10_tellsWork_24 2 rfl ?_
  refine mi_ast X tM_c11 hw.1 dX10_tellsWork_25 (fun s5 es5 => ?_)
  have hw := hw.2 s5 es5
  refine ts_aload_n X dX10_tellsWork_26 0 rfl ?_
  refine ts_dup X dX10_tellsWork_27 rfl ?_
  refine gf_X10_70 X dX10_tellsWork_28 ?_
  refine ts_iconst X dX10_tellsWork_31 (v := 1) (by decide) ?_
  refine ts_iadd X dX10_tellsWork_32 ?_
  refine pf_X10_70 X dX10_tellsWork_33 (fun s6 es6 => ?_)
  have hw := hw s6 es6
  exact hret _ _ _ hw dX10_tellsWork_36
set_option maxRecDepth 100000 in
set_option maxHeartbeats 4000000 in
theorem ct_X10_copies (l : Launch) (v : tX_V) (hi : ts_inj 15 (tX_ad v)) (K : ts_S → Prop) (σ : ts_S) (t0 : Nat) (a1 : Int32) (t2 : Nat) (a3 : Int32) (a4 : Int32) (ht0 : tM_A t0 (tM_len t0)) (ht2 : tM_A t2 (tM_len t2)) (hw : wp_X10_copies K σ t0 a1 t2 a3 a4) : ts_Mv l yX10_copies (Cond.code yX10_copies cX10_copies 6 (none)) 1 (tM_w v) [.ref (tX_ad v t0), .int a1, .ref (tX_ad v t2), .int a3, .int a4] σ K := by
  refine ts_Mv.of_v (w := tM_w v) hi (by decide +kernel) (Nat.le_of_ble_eq_true rfl) ?_
  intro g hgl hgn X hret
  have J3 : ∀ (σ : ts_S) (x5 : Int32), wp_X10_copies_l3 K t0 a1 t2 a3 a4 σ x5 → ts_G g (tM_w v) 6 σ 3 [(0, .ref (tX_ad v t0)), (1, .int a1), (2, .ref (tX_ad v t2)), (3, .int a3), (4, .int a4), (5, .int x5)] [] := by
    intro  σ x5 hw
    have key : ∀ X3 : ts_S → Int32 → Prop, (∀ (σ : ts_S) (x5 : Int32), X3 σ x5 → ts_G g (tM_w v) 6 σ 3 [(0, .ref (tX_ad v t0)), (1, .int a1), (2, .ref (tX_ad v t2)), (3, .int a3), (4, .int a4), (5, .int x5)] []) → ∀ (σ : ts_S) (x5 : Int32), wp_X10_copies_b3 K X3 t0 a1 t2 a3 a4  σ x5 → ts_G g (tM_w v) 6 σ 3 [(0, .ref (tX_ad v t0)), (1, .int a1), (2, .ref (tX_ad v t2)), (3, .int a3), (4, .int a4), (5, .int x5)] [] := by
      intro X3 hX3
      intro σ x5 hw
      unfold wp_X10_copies_b3 at hw
      refine ts_iload X dX10_copies_3 5 rfl ?_
      refine ts_iload X dX10_copies_5 4 rfl ?_
      refine ts_icmp_ge 28 X dX10_copies_7 (by decide) (fun c => ?_) (fun c => ?_)
      · have hw := ts_itp hw c
        exact hret _ _ _ hw dX10_copies_28
      · have hw := ts_itn hw c
        refine ts_aload_n X dX10_copies_10 0 rfl ?_
        refine ts_iload_n X dX10_copies_11 1 rfl ?_
        refine ts_iload X dX10_copies_12 5 rfl ?_
        refine ts_iadd X dX10_copies_14 ?_
        refine ts_aload_n X dX10_copies_15 2 rfl ?_
        refine ts_iload_n X dX10_copies_16 3 rfl ?_
        refine ts_iload X dX10_copies_17 5 rfl ?_
        refine ts_iadd X dX10_copies_19 ?_
        refine mi_ald X ht2 hw.1 dX10_copies_20 ?_
        have hw := hw.2
        refine mi_ast X ht0 hw.1 dX10_copies_21 (fun s2 es2 => ?_)
        have hw := hw.2 s2 es2
        refine ts_iinc X dX10_copies_22 5 rfl (v := x5 + 1) rfl (by decide) (lv' := [(5, .int (x5 + 1)), (0, .ref (tX_ad v t0)), (1, .int a1), (2, .ref (tX_ad v t2)), (3, .int a3), (4, .int a4)]) rfl ?_
        refine ts_goto 3 X dX10_copies_25 (by decide) ?_
        exact ts_sub [1, 2, 3, 4, 5, 0] rfl (hX3 _ _ hw)
    exact hw _ (fun σ x5 h => key _ (fun _ _ h => h) σ x5 h)
  unfold wp_X10_copies at hw
  show ts_G g (tM_w v) 6 σ 0 [(0, .ref (tX_ad v t0)), (1, .int a1), (2, .ref (tX_ad v t2)), (3, .int a3), (4, .int a4)] []
  refine ts_iconst X dX10_copies_0 (v := 0) (by decide) ?_
  refine ts_istore X dX10_copies_1 (by decide) (lv' := [(5, .int 0), (0, .ref (tX_ad v t0)), (1, .int a1), (2, .ref (tX_ad v t2)), (3, .int a3), (4, .int a4)]) rfl ?_
  exact ts_sub [1, 2, 3, 4, 5, 0] rfl (J3  _ _ hw)
set_option maxRecDepth 100000 in
set_option maxHeartbeats 4000000 in
theorem ct_X10_settles (l : Launch) (v : tX_V) (hi : ts_inj 15 (tX_ad v)) (K : ts_S → Prop) (σ : ts_S)   (hw : wp_X10_settles K σ ) : ts_Mv l yX10_settles (Cond.code yX10_settles cX10_settles 1 (none)) 2 (tM_w v) [.ref (tX_ad v 0)] σ K := by
  refine ts_Mv.of_v (w := tM_w v) hi (by decide +kernel) (Nat.le_of_ble_eq_true rfl) ?_
  intro g hgl hgn X hret
  unfold wp_X10_settles at hw
  show ts_G g (tM_w v) 1 σ 0 [(0, .ref (tX_ad v 0))] []
  refine ts_aload_n X dX10_settles_0 0 rfl ?_
  refine ts_aload_n X dX10_settles_1 0 rfl ?_
  refine gf_X10_97 X dX10_settles_2 ?_
  refine pf_X10_80 X dX10_settles_5 (fun s13 es13 => ?_)
  have hw := hw s13 es13
  refine ts_aload_n X dX10_settles_8 0 rfl ?_
  refine ts_aload_n X dX10_settles_9 0 rfl ?_
  refine gf_X10_66 X dX10_settles_10 ?_
  refine pf_X10_73 X dX10_settles_13 (fun s14 es14 => ?_)
  have hw := hw s14 es14
  refine ts_aload_n X dX10_settles_16 0 rfl ?_
  refine gf_X10_7 X dX10_settles_17 ?_
  refine ts_iconst X dX10_settles_20 (v := 0) (by decide) ?_
  refine ts_aload_n X dX10_settles_21 0 rfl ?_
  refine gf_X10_34 X dX10_settles_22 ?_
  refine ts_iconst X dX10_settles_25 (v := 0) (by decide) ?_
  refine ts_bipush X dX10_settles_26 (v := 6) (by decide) ?_
  refine ts_callSv X (As := [.ref (tX_ad v 1), .int 0, .ref (tX_ad v 9), .int 0, .int 6]) (ct_X10_copies g.2.1 v hi _ _ _ _ _ _ _ tM_c1 tM_c9 hw) ok_X10_copies cw_X10_123 (ts_le hgn (by decide)) (by decide) rfl rfl (Nat.le_of_ble_eq_true rfl) dX10_settles_28 (fun s16 hw => ?_)
  refine ts_aload_n X dX10_settles_31 0 rfl ?_
  refine ts_aload_n X dX10_settles_32 0 rfl ?_
  refine gf_X10_70 X dX10_settles_33 ?_
  refine pf_X10_127 X dX10_settles_36 (fun s17 es17 => ?_)
  have hw := hw s17 es17
  refine ts_aload_n X dX10_settles_39 0 rfl ?_
  refine gf_X10_13 X dX10_settles_40 ?_
  refine ts_iconst X dX10_settles_43 (v := 0) (by decide) ?_
  refine ts_aload_n X dX10_settles_44 0 rfl ?_
  refine gf_X10_40 X dX10_settles_45 ?_
  refine ts_iconst X dX10_settles_48 (v := 0) (by decide) ?_
  refine ts_bipush X dX10_settles_49 (v := 10) (by decide) ?_
  refine ts_callSv X (As := [.ref (tX_ad v 2), .int 0, .ref (tX_ad v 11), .int 0, .int 10]) (ct_X10_copies g.2.1 v hi _ _ _ _ _ _ _ tM_c2 tM_c11 hw) ok_X10_copies cw_X10_123 (ts_le hgn (by decide)) (by decide) rfl rfl (Nat.le_of_ble_eq_true rfl) dX10_settles_51 (fun s19 hw => ?_)
  refine ts_aload_n X dX10_settles_54 0 rfl ?_
  refine gf_X10_16 X dX10_settles_55 ?_
  refine ts_iconst X dX10_settles_58 (v := 0) (by decide) ?_
  refine ts_aload_n X dX10_settles_59 0 rfl ?_
  refine gf_X10_37 X dX10_settles_60 ?_
  refine ts_iconst X dX10_settles_63 (v := 0) (by decide) ?_
  refine ts_bipush X dX10_settles_64 (v := 21) (by decide) ?_
  refine ts_callSv X (As := [.ref (tX_ad v 3), .int 0, .ref (tX_ad v 10), .int 0, .int 21]) (ct_X10_copies g.2.1 v hi _ _ _ _ _ _ _ tM_c3 tM_c10 hw) ok_X10_copies cw_X10_123 (ts_le hgn (by decide)) (by decide) rfl rfl (Nat.le_of_ble_eq_true rfl) dX10_settles_66 (fun s21 hw => ?_)
  refine ts_aload_n X dX10_settles_69 0 rfl ?_
  refine ts_iconst X dX10_settles_70 (v := 0) (by decide) ?_
  refine pf_X10_130 X dX10_settles_71 (fun s22 es22 => ?_)
  have hw := hw s22 es22
  refine ts_aload_n X dX10_settles_74 0 rfl ?_
  refine ts_iconst X dX10_settles_75 (v := 0) (by decide) ?_
  refine pf_X10_133 X dX10_settles_76 (fun s23 es23 => ?_)
  have hw := hw s23 es23
  refine ts_aload_n X dX10_settles_79 0 rfl ?_
  refine ts_iconst X dX10_settles_80 (v := 0) (by decide) ?_
  refine pf_X10_136 X dX10_settles_81 (fun s24 es24 => ?_)
  have hw := hw s24 es24
  exact hret _ _ _ hw dX10_settles_84
set_option maxRecDepth 100000 in
set_option maxHeartbeats 4000000 in
theorem ct_X10_in (l : Launch) (v : tX_V) (hi : ts_inj 15 (tX_ad v)) (K : Int32 → ts_S → Prop) (σ : ts_S) (a0 : Int32) (a1 : Int32) (a2 : Int32)  (hw : wp_X10_in K σ a0 a1 a2) : ts_Mi l yX10_in (Cond.code yX10_in cX10_in 3 (some .boolean)) 1 (tM_w v) [.int a0, .int a1, .int a2] σ K := by
  refine ts_Mi.of_z (w := tM_w v) hi (by decide +kernel) (Nat.le_of_ble_eq_true rfl) ?_
  intro g hgl hgn X hret
  unfold wp_X10_in at hw
  show ts_G g (tM_w v) 3 σ 0 [(0, .int a0), (1, .int a1), (2, .int a2)] []
  refine ts_iload_n X dX10_in_0 0 rfl ?_
  refine ts_iload_n X dX10_in_1 1 rfl ?_
  refine ts_icmp_lt 14 X dX10_in_2 (by decide) (fun c => ?_) (fun c => ?_)
  · have hw := ts_itp hw c
    refine ts_iconst X dX10_in_14 (v := 0) (by decide) ?_
    exact hret _ _ _ _ hw dX10_in_15
  · have hw := ts_itn hw c
    refine ts_iload_n X dX10_in_5 0 rfl ?_
    refine ts_iload_n X dX10_in_6 2 rfl ?_
    refine ts_icmp_gt 14 X dX10_in_7 (by decide) (fun c => ?_) (fun c => ?_)
    · have hw := ts_itp hw c
      refine ts_iconst X dX10_in_14 (v := 0) (by decide) ?_
      exact hret _ _ _ _ hw dX10_in_15
    · have hw := ts_itn hw c
      refine ts_iconst X dX10_in_10 (v := 1) (by decide) ?_
      refine ts_goto 15 X dX10_in_11 (by decide) ?_
      exact hret _ _ _ _ hw dX10_in_15
set_option maxRecDepth 100000 in
set_option maxHeartbeats 4000000 in
theorem ct_X10_write (l : Launch) (v : tX_V) (hi : ts_inj 15 (tX_ad v)) (K : Int32 → ts_S → Prop) (σ : ts_S) (a1 : Int32)  (hw : wp_X10_write K σ a1) : ts_Mi l yX10_write (Cond.code yX10_write cX10_write 2 (some .int)) 2 (tM_w v) [.ref (tX_ad v 0), .int a1] σ K := by
  refine ts_Mi.of_i (w := tM_w v) hi (by decide +kernel) (Nat.le_of_ble_eq_true rfl) ?_
  intro g hgl hgn X hret
  unfold wp_X10_write at hw
  show ts_G g (tM_w v) 2 σ 0 [(0, .ref (tX_ad v 0)), (1, .int a1)] []
  refine ts_iload_n X dX10_write_0 1 rfl ?_
  refine ts_bipush X dX10_write_1 (v := 32) (by decide) ?_
  refine ts_bipush X dX10_write_3 (v := 126) (by decide) ?_
  refine ts_callSi X (As := [.int a1, .int 32, .int 126]) (ct_X10_in g.2.1 v hi _ _ _ _ _ hw) ok_X10_in cw_X10_76 (ts_le hgn (by decide)) (by decide) rfl rfl (Nat.le_of_ble_eq_true rfl) dX10_write_5 (fun r5 s6 hw => ?_)
  refine ts_if_ne 13 X dX10_write_8 (by decide) (fun c => ?_) (fun c => ?_)
  · have hw := ts_itn hw c
    refine ts_aload_n X dX10_write_13 0 rfl ?_
    refine gf_X10_83 X dX10_write_14 ?_
    refine ts_sipush X dX10_write_17 (v := 200) (by decide) ?_
    refine ts_icmp_ne 26 X dX10_write_20 (by decide) (fun c => ?_) (fun c => ?_)
    · have hw := ts_itn hw c
      refine ts_aload_n X dX10_write_26 0 rfl ?_
      refine gf_X10_28 X dX10_write_27 ?_
      refine ts_aload_n X dX10_write_30 0 rfl ?_
      refine gf_X10_83 X dX10_write_31 ?_
      refine ts_iload_n X dX10_write_34 1 rfl ?_
      refine mi_ast X tM_c7 hw.1 dX10_write_35 (fun s7 es7 => ?_)
      have hw := hw.2 s7 es7
      refine ts_aload_n X dX10_write_36 0 rfl ?_
      refine ts_dup X dX10_write_37 rfl ?_
      refine gf_X10_83 X dX10_write_38 ?_
      refine ts_iconst X dX10_write_41 (v := 1) (by decide) ?_
      refine ts_iadd X dX10_write_42 ?_
      refine pf_X10_83 X dX10_write_43 (fun s8 es8 => ?_)
      have hw := hw s8 es8
      refine ts_aload_n X dX10_write_46 0 rfl ?_
      refine gf_X10_83 X dX10_write_47 ?_
      exact hret _ _ _ _ hw dX10_write_50
    · have hw := ts_itp hw c
      refine ts_bipush X dX10_write_23 (v := (-3)) (by decide) ?_
      exact hret _ _ _ _ hw dX10_write_25
  · have hw := ts_itp hw c
    refine ts_iconst X dX10_write_11 (v := (-1)) (by decide) ?_
    exact hret _ _ _ _ hw dX10_write_12
set_option maxRecDepth 100000 in
set_option maxHeartbeats 4000000 in
theorem ct_X10_wipe (l : Launch) (v : tX_V) (hi : ts_inj 15 (tX_ad v)) (K : Int32 → ts_S → Prop) (σ : ts_S)   (hw : wp_X10_wipe K σ ) : ts_Mi l yX10_wipe (Cond.code yX10_wipe cX10_wipe 2 (some .int)) 1 (tM_w v) [.ref (tX_ad v 0)] σ K := by
  refine ts_Mi.of_i (w := tM_w v) hi (by decide +kernel) (Nat.le_of_ble_eq_true rfl) ?_
  intro g hgl hgn X hret
  unfold wp_X10_wipe at hw
  show ts_G g (tM_w v) 2 σ 0 [(0, .ref (tX_ad v 0))] []
  refine ts_aload_n X dX10_wipe_0 0 rfl ?_
  refine gf_X10_83 X dX10_wipe_1 ?_
  refine ts_istore_n X dX10_wipe_4 (by decide) (lv' := [(1, .int (σ 0 13)), (0, .ref (tX_ad v 0))]) rfl ?_
  refine ts_aload_n X dX10_wipe_5 1 rfl ?_
  refine ts_iconst X dX10_wipe_6 (v := 0) (by decide) ?_
  refine pf_X10_83 X dX10_wipe_7 (fun s2 es2 => ?_)
  have hw := hw s2 es2
  refine ts_iload_n X dX10_wipe_10 0 rfl ?_
  exact hret _ _ _ _ hw dX10_wipe_11
set_option maxRecDepth 100000 in
set_option maxHeartbeats 4000000 in
theorem ct_X10_letterAt (l : Launch) (v : tX_V) (hi : ts_inj 15 (tX_ad v)) (K : Int32 → ts_S → Prop) (σ : ts_S) (a1 : Int32)  (hw : wp_X10_letterAt K σ a1) : ts_Mi l yX10_letterAt (Cond.code yX10_letterAt cX10_letterAt 2 (some .int)) 1 (tM_w v) [.ref (tX_ad v 0), .int a1] σ K := by
  refine ts_Mi.of_i (w := tM_w v) hi (by decide +kernel) (Nat.le_of_ble_eq_true rfl) ?_
  intro g hgl hgn X hret
  unfold wp_X10_letterAt at hw
  show ts_G g (tM_w v) 2 σ 0 [(0, .ref (tX_ad v 0)), (1, .int a1)] []
  refine ts_iload_n X dX10_letterAt_0 1 rfl ?_
  refine ts_aload_n X dX10_letterAt_1 0 rfl ?_
  refine gf_X10_83 X dX10_letterAt_2 ?_
  refine ts_icmp_ge 17 X dX10_letterAt_5 (by decide) (fun c => ?_) (fun c => ?_)
  · have hw := ts_itp hw c
    refine ts_iconst X dX10_letterAt_17 (v := (-1)) (by decide) ?_
    exact hret _ _ _ _ hw dX10_letterAt_18
  · have hw := ts_itn hw c
    refine ts_aload_n X dX10_letterAt_8 0 rfl ?_
    refine gf_X10_28 X dX10_letterAt_9 ?_
    refine ts_iload_n X dX10_letterAt_12 1 rfl ?_
    refine mi_ald X tM_c7 hw.1 dX10_letterAt_13 ?_
    have hw := hw.2
    refine ts_goto 18 X dX10_letterAt_14 (by decide) ?_
    exact hret _ _ _ _ hw dX10_letterAt_18
set_option maxRecDepth 100000 in
set_option maxHeartbeats 4000000 in
theorem ct_X10_isFigure (l : Launch) (v : tX_V) (hi : ts_inj 15 (tX_ad v)) (K : Int32 → ts_S → Prop) (σ : ts_S) (a0 : Int32)  (hw : wp_X10_isFigure K σ a0) : ts_Mi l yX10_isFigure (Cond.code yX10_isFigure cX10_isFigure 1 (some .boolean)) 2 (tM_w v) [.int a0] σ K := by
  refine ts_Mi.of_z (w := tM_w v) hi (by decide +kernel) (Nat.le_of_ble_eq_true rfl) ?_
  intro g hgl hgn X hret
  unfold wp_X10_isFigure at hw
  show ts_G g (tM_w v) 1 σ 0 [(0, .int a0)] []
  refine ts_iload_n X dX10_isFigure_0 0 rfl ?_
  refine ts_bipush X dX10_isFigure_1 (v := 48) (by decide) ?_
  refine ts_bipush X dX10_isFigure_3 (v := 57) (by decide) ?_
  refine ts_callSi X (As := [.int a0, .int 48, .int 57]) (ct_X10_in g.2.1 v hi _ _ _ _ _ hw) ok_X10_in cw_X10_76 (ts_le hgn (by decide)) (by decide) rfl rfl (Nat.le_of_ble_eq_true rfl) dX10_isFigure_5 (fun r3 s4 hw => ?_)
  exact hret _ _ _ _ hw dX10_isFigure_8
set_option maxRecDepth 100000 in
set_option maxHeartbeats 4000000 in
theorem ct_X10_readNumbers (l : Launch) (v : tX_V) (hi : ts_inj 15 (tX_ad v)) (K : Int32 → ts_S → Prop) (σ : ts_S) (a1 : Int32)  (hw : wp_X10_readNumbers K σ a1) : ts_Mi l yX10_readNumbers (Cond.code yX10_readNumbers cX10_readNumbers 3 (some .boolean)) 3 (tM_w v) [.ref (tX_ad v 0), .int a1] σ K := by
  refine ts_Mi.of_z (w := tM_w v) hi (by decide +kernel) (Nat.le_of_ble_eq_true rfl) ?_
  intro g hgl hgn X hret
  have J2 : ∀ (σ : ts_S) (x2 : Int32), wp_X10_readNumbers_l2 K a1 σ x2 → ts_G g (tM_w v) 3 σ 2 [(0, .ref (tX_ad v 0)), (1, .int a1), (2, .int x2)] [] := by
    intro  σ x2 hw
    have key : ∀ X2 : ts_S → Int32 → Prop, (∀ (σ : ts_S) (x2 : Int32), X2 σ x2 → ts_G g (tM_w v) 3 σ 2 [(0, .ref (tX_ad v 0)), (1, .int a1), (2, .int x2)] []) → ∀ (σ : ts_S) (x2 : Int32), wp_X10_readNumbers_b2 K X2 a1  σ x2 → ts_G g (tM_w v) 3 σ 2 [(0, .ref (tX_ad v 0)), (1, .int a1), (2, .int x2)] [] := by
      intro X2 hX2
      have J123 : ∀ (σ : ts_S) (x2 : Int32) (y0 : Int32) (y1 : Int32), wp_X10_readNumbers_j123 K X2 a1 σ x2 y0 y1 → ts_G g (tM_w v) 3 σ 123 [(0, .ref (tX_ad v 0)), (1, .int a1), (2, .int x2)] [.int y0, .int y1] := by
        intro  σ x2 y0 y1 hw
        unfold wp_X10_readNumbers_j123 at hw
        refine ts_icmp_eq 128 X dX10_readNumbers_123 (by decide) (fun c => ?_) (fun c => ?_)
        · have hw := ts_itp hw c
          refine ts_aload_n X dX10_readNumbers_128 0 rfl ?_
          refine ts_dup X dX10_readNumbers_129 rfl ?_
          refine gf_X10_86 X dX10_readNumbers_130 ?_
          refine ts_iconst X dX10_readNumbers_133 (v := 1) (by decide) ?_
          refine ts_iadd X dX10_readNumbers_134 ?_
          refine pf_X10_86 X dX10_readNumbers_135 (fun s20 es20 => ?_)
          have hw := hw s20 es20
          refine ts_iinc X dX10_readNumbers_138 2 rfl (v := x2 + 1) rfl (by decide) (lv' := [(2, .int (x2 + 1)), (0, .ref (tX_ad v 0)), (1, .int a1)]) rfl ?_
          refine ts_goto 2 X dX10_readNumbers_141 (by decide) ?_
          exact ts_sub [1, 2, 0] rfl (hX2 _ _ hw)
        · have hw := ts_itn hw c
          refine ts_iconst X dX10_readNumbers_126 (v := 0) (by decide) ?_
          exact hret _ _ _ _ hw dX10_readNumbers_127
      have J101 : ∀ (σ : ts_S) (x2 : Int32), wp_X10_readNumbers_j101 K X2 a1 σ x2 → ts_G g (tM_w v) 3 σ 101 [(0, .ref (tX_ad v 0)), (1, .int a1), (2, .int x2)] [] := by
        intro  σ x2 hw
        unfold wp_X10_readNumbers_j101 at hw
        refine ts_aload_n X dX10_readNumbers_101 0 rfl ?_
        refine ts_aload_n X dX10_readNumbers_102 0 rfl ?_
        refine gf_X10_86 X dX10_readNumbers_103 ?_
        refine ts_callVi (w := tM_w v) X (k := 0) (by decide : 0 < 15) rfl rfl rfl (As := [.int (σ 0 14)]) (ct_X10_letterAt g.2.1 v hi _ _ _ hw) ok_X10_letterAt cw_X10_89 (ts_le hgn (by decide)) (by decide) rfl rfl (Nat.le_of_ble_eq_true rfl) dX10_readNumbers_106 (fun r21 s22 hw => ?_)
        refine ts_iload_n X dX10_readNumbers_109 2 rfl ?_
        refine ts_iload_n X dX10_readNumbers_110 1 rfl ?_
        refine ts_iconst X dX10_readNumbers_111 (v := 1) (by decide) ?_
        refine ts_isub X dX10_readNumbers_112 ?_
        refine ts_icmp_ge 121 X dX10_readNumbers_113 (by decide) (fun c => ?_) (fun c => ?_)
        · have hw := ts_itp hw c
          refine ts_bipush X dX10_readNumbers_121 (v := 59) (by decide) ?_
          exact ts_sub [0, 1, 2] rfl (J123  _ _ _ _ hw)
        · have hw := ts_itn hw c
          refine ts_bipush X dX10_readNumbers_116 (v := 44) (by decide) ?_
          refine ts_goto 123 X dX10_readNumbers_118 (by decide) ?_
          exact ts_sub [0, 1, 2] rfl (J123  _ _ _ _ hw)
      intro σ x2 hw
      unfold wp_X10_readNumbers_b2 at hw
      refine ts_iload_n X dX10_readNumbers_2 2 rfl ?_
      refine ts_iload_n X dX10_readNumbers_3 1 rfl ?_
      refine ts_icmp_ge 144 X dX10_readNumbers_4 (by decide) (fun c => ?_) (fun c => ?_)
      · have hw := ts_itp hw c
        refine ts_iconst X dX10_readNumbers_144 (v := 1) (by decide) ?_
        exact hret _ _ _ _ hw dX10_readNumbers_145
      · have hw := ts_itn hw c
        refine ts_aload_n X dX10_readNumbers_7 0 rfl ?_
        refine ts_aload_n X dX10_readNumbers_8 0 rfl ?_
        refine gf_X10_86 X dX10_readNumbers_9 ?_
        refine ts_callVi (w := tM_w v) X (k := 0) (by decide : 0 < 15) rfl rfl rfl (As := [.int (σ 0 14)]) (ct_X10_letterAt g.2.1 v hi _ _ _ hw) ok_X10_letterAt cw_X10_89 (ts_le hgn (by decide)) (by decide) rfl rfl (Nat.le_of_ble_eq_true rfl) dX10_readNumbers_12 (fun r23 s24 hw => ?_)
        refine ts_callSi X (As := [.int r23]) (ct_X10_isFigure g.2.1 v hi _ _ _ hw) ok_X10_isFigure cw_X10_93 (ts_le hgn (by decide)) (by decide) rfl rfl (Nat.le_of_ble_eq_true rfl) dX10_readNumbers_15 (fun r25 s26 hw => ?_)
        refine ts_if_ne 23 X dX10_readNumbers_18 (by decide) (fun c => ?_) (fun c => ?_)
        · have hw := ts_itn hw c
          refine ts_aload_n X dX10_readNumbers_23 0 rfl ?_
          refine gf_X10_31 X dX10_readNumbers_24 ?_
          refine ts_iload_n X dX10_readNumbers_27 2 rfl ?_
          refine ts_aload_n X dX10_readNumbers_28 0 rfl ?_
          refine ts_aload_n X dX10_readNumbers_29 0 rfl ?_
          refine gf_X10_86 X dX10_readNumbers_30 ?_
          refine ts_callVi (w := tM_w v) X (k := 0) (by decide : 0 < 15) rfl rfl rfl (As := [.int (s26 0 14)]) (ct_X10_letterAt g.2.1 v hi _ _ _ hw) ok_X10_letterAt cw_X10_89 (ts_le hgn (by decide)) (by decide) rfl rfl (Nat.le_of_ble_eq_true rfl) dX10_readNumbers_33 (fun r27 s28 hw => ?_)
          refine ts_bipush X dX10_readNumbers_36 (v := 48) (by decide) ?_
          refine ts_isub X dX10_readNumbers_38 ?_
          refine mi_ast X tM_c8 hw.1 dX10_readNumbers_39 (fun s29 es29 => ?_)
          have hw := hw.2 s29 es29
          refine ts_aload_n X dX10_readNumbers_40 0 rfl ?_
          refine ts_dup X dX10_readNumbers_41 rfl ?_
          refine gf_X10_86 X dX10_readNumbers_42 ?_
          refine ts_iconst X dX10_readNumbers_45 (v := 1) (by decide) ?_
          refine ts_iadd X dX10_readNumbers_46 ?_
          refine pf_X10_86 X dX10_readNumbers_47 (fun s30 es30 => ?_)
          have hw := hw s30 es30
          refine ts_aload_n X dX10_readNumbers_50 0 rfl ?_
          refine ts_aload_n X dX10_readNumbers_51 0 rfl ?_
          refine gf_X10_86 X dX10_readNumbers_52 ?_
          refine ts_callVi (w := tM_w v) X (k := 0) (by decide : 0 < 15) rfl rfl rfl (As := [.int (s30 0 14)]) (ct_X10_letterAt g.2.1 v hi _ _ _ hw) ok_X10_letterAt cw_X10_89 (ts_le hgn (by decide)) (by decide) rfl rfl (Nat.le_of_ble_eq_true rfl) dX10_readNumbers_55 (fun r31 s32 hw => ?_)
          refine ts_callSi X (As := [.int r31]) (ct_X10_isFigure g.2.1 v hi _ _ _ hw) ok_X10_isFigure cw_X10_93 (ts_le hgn (by decide)) (by decide) rfl rfl (Nat.le_of_ble_eq_true rfl) dX10_readNumbers_58 (fun r33 s34 hw => ?_)
          refine ts_if_eq 101 X dX10_readNumbers_61 (by decide) (fun c => ?_) (fun c => ?_)
          · have hw := ts_itp hw c
            exact ts_sub [0, 1, 2] rfl (J101  _ _ hw)
          · have hw := ts_itn hw c
            refine ts_aload_n X dX10_readNumbers_64 0 rfl ?_
            refine gf_X10_31 X dX10_readNumbers_65 ?_
            refine ts_iload_n X dX10_readNumbers_68 2 rfl ?_
            refine ts_bipush X dX10_readNumbers_69 (v := 10) (by decide) ?_
            refine ts_aload_n X dX10_readNumbers_71 0 rfl ?_
            refine gf_X10_31 X dX10_readNumbers_72 ?_
            refine ts_iload_n X dX10_readNumbers_75 2 rfl ?_
            refine mi_ald X tM_c8 hw.1 dX10_readNumbers_76 ?_
            have hw := hw.2
            refine ts_imul X dX10_readNumbers_77 ?_
            refine ts_aload_n X dX10_readNumbers_78 0 rfl ?_
            refine ts_aload_n X dX10_readNumbers_79 0 rfl ?_
            refine gf_X10_86 X dX10_readNumbers_80 ?_
            refine ts_callVi (w := tM_w v) X (k := 0) (by decide : 0 < 15) rfl rfl rfl (As := [.int (s34 0 14)]) (ct_X10_letterAt g.2.1 v hi _ _ _ hw) ok_X10_letterAt cw_X10_89 (ts_le hgn (by decide)) (by decide) rfl rfl (Nat.le_of_ble_eq_true rfl) dX10_readNumbers_83 (fun r35 s36 hw => ?_)
            refine ts_iadd X dX10_readNumbers_86 ?_
            refine ts_bipush X dX10_readNumbers_87 (v := 48) (by decide) ?_
            refine ts_isub X dX10_readNumbers_89 ?_
            refine mi_ast X tM_c8 hw.1 dX10_readNumbers_90 (fun s37 es37 => ?_)
            have hw := hw.2 s37 es37
            refine ts_aload_n X dX10_readNumbers_91 0 rfl ?_
            refine ts_dup X dX10_readNumbers_92 rfl ?_
            refine gf_X10_86 X dX10_readNumbers_93 ?_
            refine ts_iconst X dX10_readNumbers_96 (v := 1) (by decide) ?_
            refine ts_iadd X dX10_readNumbers_97 ?_
            refine pf_X10_86 X dX10_readNumbers_98 (fun s38 es38 => ?_)
            have hw := hw s38 es38
            exact ts_sub [0, 1, 2] rfl (J101  _ _ hw)
        · have hw := ts_itp hw c
          refine ts_iconst X dX10_readNumbers_21 (v := 0) (by decide) ?_
          exact hret _ _ _ _ hw dX10_readNumbers_22
    exact hw _ (fun σ x2 h => key _ (fun _ _ h => h) σ x2 h)
  unfold wp_X10_readNumbers at hw
  show ts_G g (tM_w v) 3 σ 0 [(0, .ref (tX_ad v 0)), (1, .int a1)] []
  refine ts_iconst X dX10_readNumbers_0 (v := 0) (by decide) ?_
  refine ts_istore_n X dX10_readNumbers_1 (by decide) (lv' := [(2, .int 0), (0, .ref (tX_ad v 0)), (1, .int a1)]) rfl ?_
  exact ts_sub [1, 2, 0] rfl (J2  _ _ hw)
set_option maxRecDepth 100000 in
set_option maxHeartbeats 4000000 in
theorem ct_X10_isTold (l : Launch) (v : tX_V) (hi : ts_inj 15 (tX_ad v)) (K : Int32 → ts_S → Prop) (σ : ts_S) (a1 : Int32) (a2 : Int32) (a3 : Int32)  (hw : wp_X10_isTold K σ a1 a2 a3) : ts_Mi l yX10_isTold (Cond.code yX10_isTold cX10_isTold 4 (some .boolean)) 2 (tM_w v) [.ref (tX_ad v 0), .int a1, .int a2, .int a3] σ K := by
  refine ts_Mi.of_z (w := tM_w v) hi (by decide +kernel) (Nat.le_of_ble_eq_true rfl) ?_
  intro g hgl hgn X hret
  unfold wp_X10_isTold at hw
  show ts_G g (tM_w v) 4 σ 0 [(0, .ref (tX_ad v 0)), (1, .int a1), (2, .int a2), (3, .int a3)] []
  refine ts_aload_n X dX10_isTold_0 0 rfl ?_
  refine gf_X10_31 X dX10_isTold_1 ?_
  refine ts_iload_n X dX10_isTold_4 1 rfl ?_
  refine mi_ald X tM_c8 hw.1 dX10_isTold_5 ?_
  have hw := hw.2
  refine ts_iload_n X dX10_isTold_6 2 rfl ?_
  refine ts_iload_n X dX10_isTold_7 3 rfl ?_
  refine ts_callSi X (As := [.int (σ 8 a1.toNatClampNeg), .int a2, .int a3]) (ct_X10_in g.2.1 v hi _ _ _ _ _ hw) ok_X10_in cw_X10_76 (ts_le hgn (by decide)) (by decide) rfl rfl (Nat.le_of_ble_eq_true rfl) dX10_isTold_8 (fun r3 s4 hw => ?_)
  exact hret _ _ _ _ hw dX10_isTold_11
set_option maxRecDepth 100000 in
set_option maxHeartbeats 4000000 in
theorem ct_X10_readHeightOf (l : Launch) (v : tX_V) (hi : ts_inj 15 (tX_ad v)) (K : Int32 → ts_S → Prop) (σ : ts_S)   (hw : wp_X10_readHeightOf K σ ) : ts_Mi l yX10_readHeightOf (Cond.code yX10_readHeightOf cX10_readHeightOf 2 (some .boolean)) 4 (tM_w v) [.ref (tX_ad v 0)] σ K := by
  refine ts_Mi.of_z (w := tM_w v) hi (by decide +kernel) (Nat.le_of_ble_eq_true rfl) ?_
  intro g hgl hgn X hret
  have J43 : ∀ (σ : ts_S) (x1 : Int32) (y0 : Int32), wp_X10_readHeightOf_j43 K  σ x1 y0 → ts_G g (tM_w v) 2 σ 43 [(1, .int x1)] [.int y0, .ref (tX_ad v 0)] := by
    intro  σ x1 y0 hw
    unfold wp_X10_readHeightOf_j43 at hw
    refine pf_X10_97 X dX10_readHeightOf_43 (fun s6 es6 => ?_)
    have hw := hw s6 es6
    refine ts_iload_n X dX10_readHeightOf_46 0 rfl ?_
    exact hret _ _ _ _ hw dX10_readHeightOf_47
  have J24 : ∀ (σ : ts_S) (y0 : Int32), wp_X10_readHeightOf_j24 K  σ y0 → ts_G g (tM_w v) 2 σ 24 [(0, .ref (tX_ad v 0))] [.int y0] := by
    intro  σ y0 hw
    unfold wp_X10_readHeightOf_j24 at hw
    refine ts_istore_n X dX10_readHeightOf_24 (by decide) (lv' := [(1, .int y0), (0, .ref (tX_ad v 0))]) rfl ?_
    refine ts_aload_n X dX10_readHeightOf_25 1 rfl ?_
    refine ts_iload_n X dX10_readHeightOf_26 0 rfl ?_
    refine ts_if_eq 39 X dX10_readHeightOf_27 (by decide) (fun c => ?_) (fun c => ?_)
    · have hw := ts_itp hw c
      refine ts_aload_n X dX10_readHeightOf_39 1 rfl ?_
      refine gf_X10_97 X dX10_readHeightOf_40 ?_
      exact ts_sub [0] rfl (J43  _ _ _ hw)
    · have hw := ts_itn hw c
      refine ts_aload_n X dX10_readHeightOf_30 1 rfl ?_
      refine gf_X10_31 X dX10_readHeightOf_31 ?_
      refine ts_iconst X dX10_readHeightOf_34 (v := 0) (by decide) ?_
      refine mi_ald X tM_c8 hw.1 dX10_readHeightOf_35 ?_
      have hw := hw.2
      refine ts_goto 43 X dX10_readHeightOf_36 (by decide) ?_
      exact ts_sub [0] rfl (J43  _ _ _ hw)
  unfold wp_X10_readHeightOf at hw
  show ts_G g (tM_w v) 2 σ 0 [(0, .ref (tX_ad v 0))] []
  refine ts_aload_n X dX10_readHeightOf_0 0 rfl ?_
  refine ts_iconst X dX10_readHeightOf_1 (v := 1) (by decide) ?_
  refine ts_callVi (w := tM_w v) X (k := 0) (by decide : 0 < 15) rfl rfl rfl (As := [.int 1]) (ct_X10_readNumbers g.2.1 v hi _ _ _ hw) ok_X10_readNumbers cw_X10_100 (ts_le hgn (by decide)) (by decide) rfl rfl (Nat.le_of_ble_eq_true rfl) dX10_readHeightOf_2 (fun r7 s8 hw => ?_)
  refine ts_if_eq 23 X dX10_readHeightOf_5 (by decide) (fun c => ?_) (fun c => ?_)
  · have hw := ts_itp hw c
    refine ts_iconst X dX10_readHeightOf_23 (v := 0) (by decide) ?_
    exact ts_sub [0] rfl (J24  _ _ hw)
  · have hw := ts_itn hw c
    refine ts_aload_n X dX10_readHeightOf_8 0 rfl ?_
    refine ts_iconst X dX10_readHeightOf_9 (v := 0) (by decide) ?_
    refine ts_iconst X dX10_readHeightOf_10 (v := 2) (by decide) ?_
    refine ts_bipush X dX10_readHeightOf_11 (v := 10) (by decide) ?_
    refine ts_callVi (w := tM_w v) X (k := 0) (by decide : 0 < 15) rfl rfl rfl (As := [.int 0, .int 2, .int 10]) (ct_X10_isTold g.2.1 v hi _ _ _ _ _ hw) ok_X10_isTold cw_X10_103 (ts_le hgn (by decide)) (by decide) rfl rfl (Nat.le_of_ble_eq_true rfl) dX10_readHeightOf_13 (fun r9 s10 hw => ?_)
    refine ts_if_eq 23 X dX10_readHeightOf_16 (by decide) (fun c => ?_) (fun c => ?_)
    · have hw := ts_itp hw c
      refine ts_iconst X dX10_readHeightOf_23 (v := 0) (by decide) ?_
      exact ts_sub [0] rfl (J24  _ _ hw)
    · have hw := ts_itn hw c
      refine ts_iconst X dX10_readHeightOf_19 (v := 1) (by decide) ?_
      refine ts_goto 24 X dX10_readHeightOf_20 (by decide) ?_
      exact ts_sub [0] rfl (J24  _ _ hw)
set_option maxRecDepth 100000 in
set_option maxHeartbeats 4000000 in
theorem ct_X10_readPersonItem (l : Launch) (v : tX_V) (hi : ts_inj 15 (tX_ad v)) (K : Int32 → ts_S → Prop) (σ : ts_S)   (hw : wp_X10_readPersonItem K σ ) : ts_Mi l yX10_readPersonItem (Cond.code yX10_readPersonItem cX10_readPersonItem 1 (some .boolean)) 4 (tM_w v) [.ref (tX_ad v 0)] σ K := by
  refine ts_Mi.of_z (w := tM_w v) hi (by decide +kernel) (Nat.le_of_ble_eq_true rfl) ?_
  intro g hgl hgn X hret
  unfold wp_X10_readPersonItem at hw
  show ts_G g (tM_w v) 1 σ 0 [(0, .ref (tX_ad v 0))] []
  refine ts_aload_n X dX10_readPersonItem_0 0 rfl ?_
  refine gf_X10_66 X dX10_readPersonItem_1 ?_
  refine ts_bipush X dX10_readPersonItem_4 (v := 6) (by decide) ?_
  refine ts_icmp_eq 65 X dX10_readPersonItem_6 (by decide) (fun c => ?_) (fun c => ?_)
  · have hw := ts_itp hw c
    refine ts_iconst X dX10_readPersonItem_65 (v := 0) (by decide) ?_
    exact hret _ _ _ _ hw dX10_readPersonItem_66
  · have hw := ts_itn hw c
    refine ts_aload_n X dX10_readPersonItem_9 0 rfl ?_
    refine ts_iconst X dX10_readPersonItem_10 (v := 4) (by decide) ?_
    refine ts_callVi (w := tM_w v) X (k := 0) (by decide : 0 < 15) rfl rfl rfl (As := [.int 4]) (ct_X10_readNumbers g.2.1 v hi _ _ _ hw) ok_X10_readNumbers cw_X10_100 (ts_le hgn (by decide)) (by decide) rfl rfl (Nat.le_of_ble_eq_true rfl) dX10_readPersonItem_11 (fun r13 s14 hw => ?_)
    refine ts_if_eq 65 X dX10_readPersonItem_14 (by decide) (fun c => ?_) (fun c => ?_)
    · have hw := ts_itp hw c
      refine ts_iconst X dX10_readPersonItem_65 (v := 0) (by decide) ?_
      exact hret _ _ _ _ hw dX10_readPersonItem_66
    · have hw := ts_itn hw c
      refine ts_aload_n X dX10_readPersonItem_17 0 rfl ?_
      refine ts_iconst X dX10_readPersonItem_18 (v := 0) (by decide) ?_
      refine ts_iconst X dX10_readPersonItem_19 (v := 0) (by decide) ?_
      refine ts_iconst X dX10_readPersonItem_20 (v := 3) (by decide) ?_
      refine ts_callVi (w := tM_w v) X (k := 0) (by decide : 0 < 15) rfl rfl rfl (As := [.int 0, .int 0, .int 3]) (ct_X10_isTold g.2.1 v hi _ _ _ _ _ hw) ok_X10_isTold cw_X10_103 (ts_le hgn (by decide)) (by decide) rfl rfl (Nat.le_of_ble_eq_true rfl) dX10_readPersonItem_21 (fun r15 s16 hw => ?_)
      refine ts_if_eq 65 X dX10_readPersonItem_24 (by decide) (fun c => ?_) (fun c => ?_)
      · have hw := ts_itp hw c
        refine ts_iconst X dX10_readPersonItem_65 (v := 0) (by decide) ?_
        exact hret _ _ _ _ hw dX10_readPersonItem_66
      · have hw := ts_itn hw c
        refine ts_aload_n X dX10_readPersonItem_27 0 rfl ?_
        refine ts_iconst X dX10_readPersonItem_28 (v := 1) (by decide) ?_
        refine ts_iconst X dX10_readPersonItem_29 (v := 0) (by decide) ?_
        refine ts_aload_n X dX10_readPersonItem_30 0 rfl ?_
        refine gf_X10_97 X dX10_readPersonItem_31 ?_
        refine ts_iconst X dX10_readPersonItem_34 (v := 1) (by decide) ?_
        refine ts_isub X dX10_readPersonItem_35 ?_
        refine ts_callVi (w := tM_w v) X (k := 0) (by decide : 0 < 15) rfl rfl rfl (As := [.int 1, .int 0, .int ((s16 0 16) - 1)]) (ct_X10_isTold g.2.1 v hi _ _ _ _ _ hw) ok_X10_isTold cw_X10_103 (ts_le hgn (by decide)) (by decide) rfl rfl (Nat.le_of_ble_eq_true rfl) dX10_readPersonItem_36 (fun r17 s18 hw => ?_)
        refine ts_if_eq 65 X dX10_readPersonItem_39 (by decide) (fun c => ?_) (fun c => ?_)
        · have hw := ts_itp hw c
          refine ts_iconst X dX10_readPersonItem_65 (v := 0) (by decide) ?_
          exact hret _ _ _ _ hw dX10_readPersonItem_66
        · have hw := ts_itn hw c
          refine ts_aload_n X dX10_readPersonItem_42 0 rfl ?_
          refine ts_iconst X dX10_readPersonItem_43 (v := 2) (by decide) ?_
          refine ts_bipush X dX10_readPersonItem_44 (v := 12) (by decide) ?_
          refine ts_bipush X dX10_readPersonItem_46 (v := 60) (by decide) ?_
          refine ts_callVi (w := tM_w v) X (k := 0) (by decide : 0 < 15) rfl rfl rfl (As := [.int 2, .int 12, .int 60]) (ct_X10_isTold g.2.1 v hi _ _ _ _ _ hw) ok_X10_isTold cw_X10_103 (ts_le hgn (by decide)) (by decide) rfl rfl (Nat.le_of_ble_eq_true rfl) dX10_readPersonItem_48 (fun r19 s20 hw => ?_)
          refine ts_if_eq 65 X dX10_readPersonItem_51 (by decide) (fun c => ?_) (fun c => ?_)
          · have hw := ts_itp hw c
            refine ts_iconst X dX10_readPersonItem_65 (v := 0) (by decide) ?_
            exact hret _ _ _ _ hw dX10_readPersonItem_66
          · have hw := ts_itn hw c
            refine ts_aload_n X dX10_readPersonItem_54 0 rfl ?_
            refine ts_iconst X dX10_readPersonItem_55 (v := 3) (by decide) ?_
            refine ts_iconst X dX10_readPersonItem_56 (v := 0) (by decide) ?_
            refine ts_bipush X dX10_readPersonItem_57 (v := 30) (by decide) ?_
            refine ts_callVi (w := tM_w v) X (k := 0) (by decide : 0 < 15) rfl rfl rfl (As := [.int 3, .int 0, .int 30]) (ct_X10_isTold g.2.1 v hi _ _ _ _ _ hw) ok_X10_isTold cw_X10_103 (ts_le hgn (by decide)) (by decide) rfl rfl (Nat.le_of_ble_eq_true rfl) dX10_readPersonItem_59 (fun r21 s22 hw => ?_)
            refine ts_if_ne 67 X dX10_readPersonItem_62 (by decide) (fun c => ?_) (fun c => ?_)
            · have hw := ts_itn hw c
              refine ts_aload_n X dX10_readPersonItem_67 0 rfl ?_
              refine ts_aload_n X dX10_readPersonItem_68 0 rfl ?_
              refine gf_X10_31 X dX10_readPersonItem_69 ?_
              refine ts_iconst X dX10_readPersonItem_72 (v := 0) (by decide) ?_
              refine mi_ald X tM_c8 hw.1 dX10_readPersonItem_73 ?_
              have hw := hw.2
              refine ts_aload_n X dX10_readPersonItem_74 0 rfl ?_
              refine gf_X10_31 X dX10_readPersonItem_75 ?_
              refine ts_iconst X dX10_readPersonItem_78 (v := 1) (by decide) ?_
              refine mi_ald X tM_c8 hw.1 dX10_readPersonItem_79 ?_
              have hw := hw.2
              refine ts_aload_n X dX10_readPersonItem_80 0 rfl ?_
              refine gf_X10_31 X dX10_readPersonItem_81 ?_
              refine ts_iconst X dX10_readPersonItem_84 (v := 2) (by decide) ?_
              refine mi_ald X tM_c8 hw.1 dX10_readPersonItem_85 ?_
              have hw := hw.2
              refine ts_aload_n X dX10_readPersonItem_86 0 rfl ?_
              refine gf_X10_31 X dX10_readPersonItem_87 ?_
              refine ts_iconst X dX10_readPersonItem_90 (v := 3) (by decide) ?_
              refine mi_ald X tM_c8 hw.1 dX10_readPersonItem_91 ?_
              have hw := hw.2
              refine ts_callVv (w := tM_w v) X (k := 0) (by decide : 0 < 15) rfl rfl rfl (As := [.int (s22 8 (0 : Int32).toNatClampNeg), .int (s22 8 (1 : Int32).toNatClampNeg), .int (s22 8 (2 : Int32).toNatClampNeg), .int (s22 8 (3 : Int32).toNatClampNeg)]) (ct_X10_tellsPerson g.2.1 v hi _ _ _ _ _ _ hw) ok_X10_tellsPerson cw_X10_55 (ts_le hgn (by decide)) (by decide) rfl rfl (Nat.le_of_ble_eq_true rfl) dX10_readPersonItem_92 (fun s24 hw => ?_)
              refine ts_iconst X dX10_readPersonItem_95 (v := 1) (by decide) ?_
              exact hret _ _ _ _ hw dX10_readPersonItem_96
            · have hw := ts_itp hw c
              refine ts_iconst X dX10_readPersonItem_65 (v := 0) (by decide) ?_
              exact hret _ _ _ _ hw dX10_readPersonItem_66
set_option maxRecDepth 100000 in
set_option maxHeartbeats 4000000 in
theorem ct_X10_readWorkItem (l : Launch) (v : tX_V) (hi : ts_inj 15 (tX_ad v)) (K : Int32 → ts_S → Prop) (σ : ts_S)   (hw : wp_X10_readWorkItem K σ ) : ts_Mi l yX10_readWorkItem (Cond.code yX10_readWorkItem cX10_readWorkItem 1 (some .boolean)) 4 (tM_w v) [.ref (tX_ad v 0)] σ K := by
  refine ts_Mi.of_z (w := tM_w v) hi (by decide +kernel) (Nat.le_of_ble_eq_true rfl) ?_
  intro g hgl hgn X hret
  unfold wp_X10_readWorkItem at hw
  show ts_G g (tM_w v) 1 σ 0 [(0, .ref (tX_ad v 0))] []
  refine ts_aload_n X dX10_readWorkItem_0 0 rfl ?_
  refine gf_X10_70 X dX10_readWorkItem_1 ?_
  refine ts_iconst X dX10_readWorkItem_4 (v := 5) (by decide) ?_
  refine ts_icmp_eq 41 X dX10_readWorkItem_5 (by decide) (fun c => ?_) (fun c => ?_)
  · have hw := ts_itp hw c
    refine ts_iconst X dX10_readWorkItem_41 (v := 0) (by decide) ?_
    exact hret _ _ _ _ hw dX10_readWorkItem_42
  · have hw := ts_itn hw c
    refine ts_aload_n X dX10_readWorkItem_8 0 rfl ?_
    refine ts_iconst X dX10_readWorkItem_9 (v := 2) (by decide) ?_
    refine ts_callVi (w := tM_w v) X (k := 0) (by decide : 0 < 15) rfl rfl rfl (As := [.int 2]) (ct_X10_readNumbers g.2.1 v hi _ _ _ hw) ok_X10_readNumbers cw_X10_100 (ts_le hgn (by decide)) (by decide) rfl rfl (Nat.le_of_ble_eq_true rfl) dX10_readWorkItem_10 (fun r9 s10 hw => ?_)
    refine ts_if_eq 41 X dX10_readWorkItem_13 (by decide) (fun c => ?_) (fun c => ?_)
    · have hw := ts_itp hw c
      refine ts_iconst X dX10_readWorkItem_41 (v := 0) (by decide) ?_
      exact hret _ _ _ _ hw dX10_readWorkItem_42
    · have hw := ts_itn hw c
      refine ts_aload_n X dX10_readWorkItem_16 0 rfl ?_
      refine ts_iconst X dX10_readWorkItem_17 (v := 0) (by decide) ?_
      refine ts_iconst X dX10_readWorkItem_18 (v := 0) (by decide) ?_
      refine ts_aload_n X dX10_readWorkItem_19 0 rfl ?_
      refine gf_X10_97 X dX10_readWorkItem_20 ?_
      refine ts_iconst X dX10_readWorkItem_23 (v := 1) (by decide) ?_
      refine ts_isub X dX10_readWorkItem_24 ?_
      refine ts_callVi (w := tM_w v) X (k := 0) (by decide : 0 < 15) rfl rfl rfl (As := [.int 0, .int 0, .int ((s10 0 16) - 1)]) (ct_X10_isTold g.2.1 v hi _ _ _ _ _ hw) ok_X10_isTold cw_X10_103 (ts_le hgn (by decide)) (by decide) rfl rfl (Nat.le_of_ble_eq_true rfl) dX10_readWorkItem_25 (fun r11 s12 hw => ?_)
      refine ts_if_eq 41 X dX10_readWorkItem_28 (by decide) (fun c => ?_) (fun c => ?_)
      · have hw := ts_itp hw c
        refine ts_iconst X dX10_readWorkItem_41 (v := 0) (by decide) ?_
        exact hret _ _ _ _ hw dX10_readWorkItem_42
      · have hw := ts_itn hw c
        refine ts_aload_n X dX10_readWorkItem_31 0 rfl ?_
        refine ts_iconst X dX10_readWorkItem_32 (v := 1) (by decide) ?_
        refine ts_iconst X dX10_readWorkItem_33 (v := 1) (by decide) ?_
        refine ts_iconst X dX10_readWorkItem_34 (v := 4) (by decide) ?_
        refine ts_callVi (w := tM_w v) X (k := 0) (by decide : 0 < 15) rfl rfl rfl (As := [.int 1, .int 1, .int 4]) (ct_X10_isTold g.2.1 v hi _ _ _ _ _ hw) ok_X10_isTold cw_X10_103 (ts_le hgn (by decide)) (by decide) rfl rfl (Nat.le_of_ble_eq_true rfl) dX10_readWorkItem_35 (fun r13 s14 hw => ?_)
        refine ts_if_ne 43 X dX10_readWorkItem_38 (by decide) (fun c => ?_) (fun c => ?_)
        · have hw := ts_itn hw c
          refine ts_aload_n X dX10_readWorkItem_43 0 rfl ?_
          refine ts_aload_n X dX10_readWorkItem_44 0 rfl ?_
          refine gf_X10_31 X dX10_readWorkItem_45 ?_
          refine ts_iconst X dX10_readWorkItem_48 (v := 0) (by decide) ?_
          refine mi_ald X tM_c8 hw.1 dX10_readWorkItem_49 ?_
          have hw := hw.2
          refine ts_aload_n X dX10_readWorkItem_50 0 rfl ?_
          refine gf_X10_31 X dX10_readWorkItem_51 ?_
          refine ts_iconst X dX10_readWorkItem_54 (v := 1) (by decide) ?_
          refine mi_ald X tM_c8 hw.1 dX10_readWorkItem_55 ?_
          have hw := hw.2
          refine ts_callVv (w := tM_w v) X (k := 0) (by decide : 0 < 15) rfl rfl rfl (As := [.int (s14 8 (0 : Int32).toNatClampNeg), .int (s14 8 (1 : Int32).toNatClampNeg)]) (ct_X10_tellsWork g.2.1 v hi _ _ _ _ hw) ok_X10_tellsWork cw_X10_59 (ts_le hgn (by decide)) (by decide) rfl rfl (Nat.le_of_ble_eq_true rfl) dX10_readWorkItem_56 (fun s16 hw => ?_)
          refine ts_iconst X dX10_readWorkItem_59 (v := 1) (by decide) ?_
          exact hret _ _ _ _ hw dX10_readWorkItem_60
        · have hw := ts_itp hw c
          refine ts_iconst X dX10_readWorkItem_41 (v := 0) (by decide) ?_
          exact hret _ _ _ _ hw dX10_readWorkItem_42
set_option maxRecDepth 100000 in
set_option maxHeartbeats 4000000 in
theorem ct_X10_readItem (l : Launch) (v : tX_V) (hi : ts_inj 15 (tX_ad v)) (K : Int32 → ts_S → Prop) (σ : ts_S)   (hw : wp_X10_readItem K σ ) : ts_Mi l yX10_readItem (Cond.code yX10_readItem cX10_readItem 3 (some .boolean)) 5 (tM_w v) [.ref (tX_ad v 0)] σ K := by
  refine ts_Mi.of_z (w := tM_w v) hi (by decide +kernel) (Nat.le_of_ble_eq_true rfl) ?_
  intro g hgl hgn X hret
  have J21 : ∀ (σ : ts_S) (x1 : Int32) (y0 : Int32), wp_X10_readItem_j21 K  σ x1 y0 → ts_G g (tM_w v) 3 σ 21 [(0, .ref (tX_ad v 0)), (1, .int x1)] [.int y0] := by
    intro  σ x1 y0 hw
    unfold wp_X10_readItem_j21 at hw
    refine ts_istore_n X dX10_readItem_21 (by decide) (lv' := [(2, .int y0), (0, .ref (tX_ad v 0)), (1, .int x1)]) rfl ?_
    refine ts_aload_n X dX10_readItem_22 1 rfl ?_
    refine ts_dup X dX10_readItem_23 rfl ?_
    refine gf_X10_86 X dX10_readItem_24 ?_
    refine ts_iconst X dX10_readItem_27 (v := 1) (by decide) ?_
    refine ts_iadd X dX10_readItem_28 ?_
    refine pf_X10_86 X dX10_readItem_29 (fun s10 es10 => ?_)
    have hw := hw s10 es10
    refine ts_iload_n X dX10_readItem_32 2 rfl ?_
    by_cases c104 : x1 = 104
    · have hw := ts_itp hw c104
      refine ts_lookup (off := 35) 68 X dX10_readItem_33 (by decide) (by rw [c104]; first | done | rfl) (by decide) ?_
      refine ts_iload_n X dX10_readItem_68 0 rfl ?_
      refine ts_if_eq 83 X dX10_readItem_69 (by decide) (fun c => ?_) (fun c => ?_)
      · have hw := ts_itp hw c
        refine ts_iconst X dX10_readItem_83 (v := 0) (by decide) ?_
        exact hret _ _ _ _ hw dX10_readItem_84
      · have hw := ts_itn hw c
        refine ts_aload_n X dX10_readItem_72 1 rfl ?_
        refine ts_callVi (w := tM_w v) X (k := 0) (by decide : 0 < 15) rfl rfl rfl (As := []) (ct_X10_readHeightOf g.2.1 v hi _ _  hw) ok_X10_readHeightOf cw_X10_106 (ts_le hgn (by decide)) (by decide) rfl rfl (Nat.le_of_ble_eq_true rfl) dX10_readItem_73 (fun r11 s12 hw => ?_)
        refine ts_if_eq 83 X dX10_readItem_76 (by decide) (fun c => ?_) (fun c => ?_)
        · have hw := ts_itp hw c
          refine ts_iconst X dX10_readItem_83 (v := 0) (by decide) ?_
          exact hret _ _ _ _ hw dX10_readItem_84
        · have hw := ts_itn hw c
          refine ts_iconst X dX10_readItem_79 (v := 1) (by decide) ?_
          refine ts_goto 84 X dX10_readItem_80 (by decide) ?_
          exact hret _ _ _ _ hw dX10_readItem_84
    · have hw := ts_itn hw c104
      by_cases c112 : x1 = 112
      · have hw := ts_itp hw c112
        refine ts_lookup (off := 52) 85 X dX10_readItem_33 (by decide) (by rw [c112]; first | done | rfl) (by decide) ?_
        refine ts_aload_n X dX10_readItem_85 1 rfl ?_
        refine ts_callVi (w := tM_w v) X (k := 0) (by decide : 0 < 15) rfl rfl rfl (As := []) (ct_X10_readPersonItem g.2.1 v hi _ _  hw) ok_X10_readPersonItem cw_X10_110 (ts_le hgn (by decide)) (by decide) rfl rfl (Nat.le_of_ble_eq_true rfl) dX10_readItem_86 (fun r13 s14 hw => ?_)
        exact hret _ _ _ _ hw dX10_readItem_89
      · have hw := ts_itn hw c112
        by_cases c119 : x1 = 119
        · have hw := ts_itp hw c119
          refine ts_lookup (off := 57) 90 X dX10_readItem_33 (by decide) (by rw [c119]; first | done | rfl) (by decide) ?_
          refine ts_aload_n X dX10_readItem_90 1 rfl ?_
          refine ts_callVi (w := tM_w v) X (k := 0) (by decide : 0 < 15) rfl rfl rfl (As := []) (ct_X10_readWorkItem g.2.1 v hi _ _  hw) ok_X10_readWorkItem cw_X10_113 (ts_le hgn (by decide)) (by decide) rfl rfl (Nat.le_of_ble_eq_true rfl) dX10_readItem_91 (fun r15 s16 hw => ?_)
          exact hret _ _ _ _ hw dX10_readItem_94
        · have hw := ts_itn hw c119
          refine ts_lookup (off := 62) 95 X dX10_readItem_33 (by decide) (by show Op.lookupswitch.offset [(104, 35), (112, 52), (119, 57)] 62 _ = 62; rw [lv_osw c104 (by decide : (104 : Int32).toInt = 104), lv_osw c112 (by decide : (112 : Int32).toInt = 112), lv_osw c119 (by decide : (119 : Int32).toInt = 119)]; first | done | rfl) (by decide) ?_
          refine ts_iconst X dX10_readItem_95 (v := 0) (by decide) ?_
          exact hret _ _ _ _ hw dX10_readItem_96
  unfold wp_X10_readItem at hw
  show ts_G g (tM_w v) 3 σ 0 [(0, .ref (tX_ad v 0))] []
  refine ts_aload_n X dX10_readItem_0 0 rfl ?_
  refine ts_aload_n X dX10_readItem_1 0 rfl ?_
  refine gf_X10_86 X dX10_readItem_2 ?_
  refine ts_callVi (w := tM_w v) X (k := 0) (by decide : 0 < 15) rfl rfl rfl (As := [.int (σ 0 14)]) (ct_X10_letterAt g.2.1 v hi _ _ _ hw) ok_X10_letterAt cw_X10_89 (ts_le hgn (by decide)) (by decide) rfl rfl (Nat.le_of_ble_eq_true rfl) dX10_readItem_5 (fun r17 s18 hw => ?_)
  refine ts_istore_n X dX10_readItem_8 (by decide) (lv' := [(1, .int r17), (0, .ref (tX_ad v 0))]) rfl ?_
  refine ts_aload_n X dX10_readItem_9 1 rfl ?_
  refine gf_X10_86 X dX10_readItem_10 ?_
  refine ts_if_ne 20 X dX10_readItem_13 (by decide) (fun c => ?_) (fun c => ?_)
  · have hw := ts_itn hw c
    refine ts_iconst X dX10_readItem_20 (v := 0) (by decide) ?_
    exact ts_sub [1, 0] rfl (J21  _ _ _ hw)
  · have hw := ts_itp hw c
    refine ts_iconst X dX10_readItem_16 (v := 1) (by decide) ?_
    refine ts_goto 21 X dX10_readItem_17 (by decide) ?_
    exact ts_sub [1, 0] rfl (J21  _ _ _ hw)
set_option maxRecDepth 100000 in
set_option maxHeartbeats 4000000 in
theorem ct_X10_fault (l : Launch) (v : tX_V) (hi : ts_inj 15 (tX_ad v)) (K : Int32 → ts_S → Prop) (σ : ts_S)   (hw : wp_X10_fault K σ ) : ts_Mi l yX10_fault (Cond.code yX10_fault cX10_fault 2 (some .int)) 6 (tM_w v) [.ref (tX_ad v 0)] σ K := by
  refine ts_Mi.of_i (w := tM_w v) hi (by decide +kernel) (Nat.le_of_ble_eq_true rfl) ?_
  intro g hgl hgn X hret
  have J9 : ∀ (σ : ts_S), wp_X10_fault_l9 K  σ  → ts_G g (tM_w v) 2 σ 9 [(0, .ref (tX_ad v 0))] [] := by
    intro  σ  hw
    have key : ∀ X9 : ts_S → Prop, (∀ (σ : ts_S), X9 σ  → ts_G g (tM_w v) 2 σ 9 [(0, .ref (tX_ad v 0))] []) → ∀ (σ : ts_S), wp_X10_fault_b9 K X9   σ  → ts_G g (tM_w v) 2 σ 9 [(0, .ref (tX_ad v 0))] [] := by
      intro X9 hX9
      intro σ  hw
      unfold wp_X10_fault_b9 at hw
      refine ts_aload_n X dX10_fault_9 0 rfl ?_
      refine gf_X10_86 X dX10_fault_10 ?_
      refine ts_aload_n X dX10_fault_13 0 rfl ?_
      refine gf_X10_83 X dX10_fault_14 ?_
      refine ts_icmp_ge 37 X dX10_fault_17 (by decide) (fun c => ?_) (fun c => ?_)
      · have hw := ts_itp hw c
        refine ts_bipush X dX10_fault_37 (v := (-4)) (by decide) ?_
        exact hret _ _ _ _ hw dX10_fault_39
      · have hw := ts_itn hw c
        refine ts_aload_n X dX10_fault_20 0 rfl ?_
        refine gf_X10_86 X dX10_fault_21 ?_
        refine ts_istore_n X dX10_fault_24 (by decide) (lv' := [(1, .int (σ 0 14)), (0, .ref (tX_ad v 0))]) rfl ?_
        refine ts_aload_n X dX10_fault_25 1 rfl ?_
        refine ts_callVi (w := tM_w v) X (k := 0) (by decide : 0 < 15) rfl rfl rfl (As := []) (ct_X10_readItem g.2.1 v hi _ _  hw) ok_X10_readItem cw_X10_116 (ts_le hgn (by decide)) (by decide) rfl rfl (Nat.le_of_ble_eq_true rfl) dX10_fault_26 (fun r6 s7 hw => ?_)
        refine ts_if_ne 34 X dX10_fault_29 (by decide) (fun c => ?_) (fun c => ?_)
        · have hw := ts_itn hw c
          refine ts_goto 9 X dX10_fault_34 (by decide) ?_
          exact ts_sub [1] rfl (hX9 _  hw)
        · have hw := ts_itp hw c
          refine ts_iload_n X dX10_fault_32 0 rfl ?_
          exact hret _ _ _ _ hw dX10_fault_33
    exact hw _ (fun σ  h => key _ (fun _  h => h) σ  h)
  unfold wp_X10_fault at hw
  show ts_G g (tM_w v) 2 σ 0 [(0, .ref (tX_ad v 0))] []
  refine ts_aload_n X dX10_fault_0 0 rfl ?_
  refine ts_iconst X dX10_fault_1 (v := 0) (by decide) ?_
  refine pf_X10_86 X dX10_fault_2 (fun s8 es8 => ?_)
  have hw := hw s8 es8
  refine ts_aload_n X dX10_fault_5 0 rfl ?_
  refine ts_callVv (w := tM_w v) X (k := 0) (by decide : 0 < 15) rfl rfl rfl (As := []) (ct_X10_clearTold g.2.1 v hi _ _  hw) ok_X10_clearTold cw_X10_52 (ts_le hgn (by decide)) (by decide) rfl rfl (Nat.le_of_ble_eq_true rfl) dX10_fault_6 (fun s10 hw => ?_)
  exact ts_sub [0] rfl (J9  _  hw)
set_option maxRecDepth 100000 in
set_option maxHeartbeats 4000000 in
theorem ct_X10_lay (l : Launch) (v : tX_V) (hi : ts_inj 15 (tX_ad v)) (K : Int32 → ts_S → Prop) (σ : ts_S)   (hw : wp_X10_lay K σ ) : ts_Mi l yX10_lay (Cond.code yX10_lay cX10_lay 1 (some .int)) 7 (tM_w v) [.ref (tX_ad v 0)] σ K := by
  refine ts_Mi.of_i (w := tM_w v) hi (by decide +kernel) (Nat.le_of_ble_eq_true rfl) ?_
  intro g hgl hgn X hret
  unfold wp_X10_lay at hw
  show ts_G g (tM_w v) 1 σ 0 [(0, .ref (tX_ad v 0))] []
  refine ts_aload_n X dX10_lay_0 0 rfl ?_
  refine ts_callVi (w := tM_w v) X (k := 0) (by decide : 0 < 15) rfl rfl rfl (As := []) (ct_X10_fault g.2.1 v hi _ _  hw) ok_X10_fault cw_X10_119 (ts_le hgn (by decide)) (by decide) rfl rfl (Nat.le_of_ble_eq_true rfl) dX10_lay_1 (fun r5 s6 hw => ?_)
  refine ts_bipush X dX10_lay_4 (v := (-4)) (by decide) ?_
  refine ts_icmp_ne 16 X dX10_lay_6 (by decide) (fun c => ?_) (fun c => ?_)
  · have hw := ts_itn hw c
    refine ts_bipush X dX10_lay_16 (v := (-2)) (by decide) ?_
    exact hret _ _ _ _ hw dX10_lay_18
  · have hw := ts_itp hw c
    refine ts_aload_n X dX10_lay_9 0 rfl ?_
    refine gf_X10_66 X dX10_lay_10 ?_
    refine ts_if_ne 19 X dX10_lay_13 (by decide) (fun c => ?_) (fun c => ?_)
    · have hw := ts_itn hw c
      refine ts_aload_n X dX10_lay_19 0 rfl ?_
      refine ts_callVv (w := tM_w v) X (k := 0) (by decide : 0 < 15) rfl rfl rfl (As := []) (ct_X10_settles g.2.1 v hi _ _  hw) ok_X10_settles cw_X10_63 (ts_le hgn (by decide)) (by decide) rfl rfl (Nat.le_of_ble_eq_true rfl) dX10_lay_20 (fun s8 hw => ?_)
      refine ts_aload_n X dX10_lay_23 0 rfl ?_
      refine gf_X10_73 X dX10_lay_24 ?_
      exact hret _ _ _ _ hw dX10_lay_27
    · have hw := ts_itp hw c
      refine ts_bipush X dX10_lay_16 (v := (-2)) (by decide) ?_
      exact hret _ _ _ _ hw dX10_lay_18
set_option maxRecDepth 100000 in
set_option maxHeartbeats 4000000 in
theorem ct_X10_isPerson (l : Launch) (v : tX_V) (hi : ts_inj 15 (tX_ad v)) (K : Int32 → ts_S → Prop) (σ : ts_S) (a1 : Int32)  (hw : wp_X10_isPerson K σ a1) : ts_Mi l yX10_isPerson (Cond.code yX10_isPerson cX10_isPerson 2 (some .boolean)) 2 (tM_w v) [.ref (tX_ad v 0), .int a1] σ K := by
  refine ts_Mi.of_z (w := tM_w v) hi (by decide +kernel) (Nat.le_of_ble_eq_true rfl) ?_
  intro g hgl hgn X hret
  unfold wp_X10_isPerson at hw
  show ts_G g (tM_w v) 2 σ 0 [(0, .ref (tX_ad v 0)), (1, .int a1)] []
  refine ts_iload_n X dX10_isPerson_0 1 rfl ?_
  refine ts_iconst X dX10_isPerson_1 (v := 0) (by decide) ?_
  refine ts_aload_n X dX10_isPerson_2 0 rfl ?_
  refine gf_X10_73 X dX10_isPerson_3 ?_
  refine ts_iconst X dX10_isPerson_6 (v := 1) (by decide) ?_
  refine ts_isub X dX10_isPerson_7 ?_
  refine ts_callSi X (As := [.int a1, .int 0, .int ((σ 0 1) - 1)]) (ct_X10_in g.2.1 v hi _ _ _ _ _ hw) ok_X10_in cw_X10_76 (ts_le hgn (by decide)) (by decide) rfl rfl (Nat.le_of_ble_eq_true rfl) dX10_isPerson_8 (fun r3 s4 hw => ?_)
  exact hret _ _ _ _ hw dX10_isPerson_11
set_option maxRecDepth 100000 in
set_option maxHeartbeats 4000000 in
theorem ct_X10_asItIs (l : Launch) (v : tX_V) (hi : ts_inj 15 (tX_ad v)) (K : ts_S → Prop) (σ : ts_S)   (hw : wp_X10_asItIs K σ ) : ts_Mv l yX10_asItIs (Cond.code yX10_asItIs cX10_asItIs 1 (none)) 2 (tM_w v) [.ref (tX_ad v 0)] σ K := by
  refine ts_Mv.of_v (w := tM_w v) hi (by decide +kernel) (Nat.le_of_ble_eq_true rfl) ?_
  intro g hgl hgn X hret
  unfold wp_X10_asItIs at hw
  show ts_G g (tM_w v) 1 σ 0 [(0, .ref (tX_ad v 0))] []
  refine ts_aload_n X dX10_asItIs_0 0 rfl ?_
  refine gf_X10_43 X dX10_asItIs_1 ?_
  refine ts_iconst X dX10_asItIs_4 (v := 0) (by decide) ?_
  refine ts_aload_n X dX10_asItIs_5 0 rfl ?_
  refine gf_X10_16 X dX10_asItIs_6 ?_
  refine ts_iconst X dX10_asItIs_9 (v := 0) (by decide) ?_
  refine ts_bipush X dX10_asItIs_10 (v := 21) (by decide) ?_
  refine ts_callSv X (As := [.ref (tX_ad v 12), .int 0, .ref (tX_ad v 3), .int 0, .int 21]) (ct_X10_copies g.2.1 v hi _ _ _ _ _ _ _ tM_c12 tM_c3 hw) ok_X10_copies cw_X10_123 (ts_le hgn (by decide)) (by decide) rfl rfl (Nat.le_of_ble_eq_true rfl) dX10_asItIs_12 (fun s4 hw => ?_)
  exact hret _ _ _ hw dX10_asItIs_15
set_option maxRecDepth 100000 in
set_option maxHeartbeats 4000000 in
theorem ct_X10_has (l : Launch) (v : tX_V) (hi : ts_inj 15 (tX_ad v)) (K : Int32 → ts_S → Prop) (σ : ts_S) (a0 : Int32) (a1 : Int32)  (hw : wp_X10_has K σ a0 a1) : ts_Mi l yX10_has (Cond.code yX10_has cX10_has 2 (some .boolean)) 1 (tM_w v) [.int a0, .int a1] σ K := by
  refine ts_Mi.of_z (w := tM_w v) hi (by decide +kernel) (Nat.le_of_ble_eq_true rfl) ?_
  intro g hgl hgn X hret
  unfold wp_X10_has at hw
  show ts_G g (tM_w v) 2 σ 0 [(0, .int a0), (1, .int a1)] []
  refine ts_iload_n X dX10_has_0 0 rfl ?_
  refine ts_iload_n X dX10_has_1 1 rfl ?_
  refine ts_ishr X dX10_has_2 ?_
  refine ts_iconst X dX10_has_3 (v := 1) (by decide) ?_
  refine ts_iand X dX10_has_4 ?_
  refine ts_iconst X dX10_has_5 (v := 1) (by decide) ?_
  refine ts_icmp_ne 13 X dX10_has_6 (by decide) (fun c => ?_) (fun c => ?_)
  · have hw := ts_itn hw c
    refine ts_iconst X dX10_has_13 (v := 0) (by decide) ?_
    exact hret _ _ _ _ hw dX10_has_14
  · have hw := ts_itp hw c
    refine ts_iconst X dX10_has_9 (v := 1) (by decide) ?_
    refine ts_goto 14 X dX10_has_10 (by decide) ?_
    exact hret _ _ _ _ hw dX10_has_14
set_option maxRecDepth 100000 in
set_option maxHeartbeats 4000000 in
theorem ct_X10_canCall (l : Launch) (v : tX_V) (hi : ts_inj 15 (tX_ad v)) (K : Int32 → ts_S → Prop) (σ : ts_S) (a1 : Int32)  (hw : wp_X10_canCall K σ a1) : ts_Mi l yX10_canCall (Cond.code yX10_canCall cX10_canCall 2 (some .boolean)) 2 (tM_w v) [.ref (tX_ad v 0), .int a1] σ K := by
  refine ts_Mi.of_z (w := tM_w v) hi (by decide +kernel) (Nat.le_of_ble_eq_true rfl) ?_
  intro g hgl hgn X hret
  unfold wp_X10_canCall at hw
  show ts_G g (tM_w v) 2 σ 0 [(0, .ref (tX_ad v 0)), (1, .int a1)] []
  refine ts_aload_n X dX10_canCall_0 0 rfl ?_
  refine gf_X10_43 X dX10_canCall_1 ?_
  refine ts_iconst X dX10_canCall_4 (v := 1) (by decide) ?_
  refine mi_ald X tM_c12 hw.1 dX10_canCall_5 ?_
  have hw := hw.2
  refine ts_aload_n X dX10_canCall_6 0 rfl ?_
  refine gf_X10_43 X dX10_canCall_7 ?_
  refine ts_iconst X dX10_canCall_10 (v := 2) (by decide) ?_
  refine mi_ald X tM_c12 hw.1 dX10_canCall_11 ?_
  have hw := hw.2
  refine ts_ior X dX10_canCall_12 ?_
  refine ts_iload_n X dX10_canCall_13 1 rfl ?_
  refine ts_callSi X (As := [.int ((σ 12 (1 : Int32).toNatClampNeg) ||| (σ 12 (2 : Int32).toNatClampNeg)), .int a1]) (ct_X10_has g.2.1 v hi _ _ _ _ hw) ok_X10_has cw_X10_139 (ts_le hgn (by decide)) (by decide) rfl rfl (Nat.le_of_ble_eq_true rfl) dX10_canCall_14 (fun r3 s4 hw => ?_)
  refine ts_if_ne 24 X dX10_canCall_17 (by decide) (fun c => ?_) (fun c => ?_)
  · have hw := ts_itn hw c
    refine ts_iconst X dX10_canCall_24 (v := 0) (by decide) ?_
    exact hret _ _ _ _ hw dX10_canCall_25
  · have hw := ts_itp hw c
    refine ts_iconst X dX10_canCall_20 (v := 1) (by decide) ?_
    refine ts_goto 25 X dX10_canCall_21 (by decide) ?_
    exact hret _ _ _ _ hw dX10_canCall_25
set_option maxRecDepth 100000 in
set_option maxHeartbeats 4000000 in
theorem ct_X10_fearAs (l : Launch) (v : tX_V) (hi : ts_inj 15 (tX_ad v)) (K : Int32 → ts_S → Prop) (σ : ts_S) (a1 : Int32) (a2 : Int32) (a3 : Int32)  (hw : wp_X10_fearAs K σ a1 a2 a3) : ts_Mi l yX10_fearAs (Cond.code yX10_fearAs cX10_fearAs 6 (some .int)) 2 (tM_w v) [.ref (tX_ad v 0), .int a1, .int a2, .int a3] σ K := by
  refine ts_Mi.of_i (w := tM_w v) hi (by decide +kernel) (Nat.le_of_ble_eq_true rfl) ?_
  intro g hgl hgn X hret
  have J130 : ∀ (σ : ts_S) (x4 : Int32), wp_X10_fearAs_j130 K a1 a2 a3 σ x4 → ts_G g (tM_w v) 6 σ 130 [(4, .int x4)] [] := by
    intro  σ x4 hw
    unfold wp_X10_fearAs_j130 at hw
    refine ts_iload X dX10_fearAs_130 0 rfl ?_
    refine ts_if_ge 139 X dX10_fearAs_132 (by decide) (fun c => ?_) (fun c => ?_)
    · have hw := ts_itp hw c
      refine ts_iload X dX10_fearAs_139 0 rfl ?_
      exact hret _ _ _ _ hw dX10_fearAs_141
    · have hw := ts_itn hw c
      refine ts_iconst X dX10_fearAs_135 (v := 0) (by decide) ?_
      refine ts_goto 141 X dX10_fearAs_136 (by decide) ?_
      exact hret _ _ _ _ hw dX10_fearAs_141
  have J67 : ∀ (σ : ts_S) (x4 : Int32) (x5 : Int32), wp_X10_fearAs_l67 K a1 a2 a3 σ x4 x5 → ts_G g (tM_w v) 6 σ 67 [(0, .ref (tX_ad v 0)), (1, .int a1), (2, .int a2), (3, .int a3), (4, .int x4), (5, .int x5)] [] := by
    intro  σ x4 x5 hw
    have key : ∀ X67 : ts_S → Int32 → Int32 → Prop, (∀ (σ : ts_S) (x4 : Int32) (x5 : Int32), X67 σ x4 x5 → ts_G g (tM_w v) 6 σ 67 [(0, .ref (tX_ad v 0)), (1, .int a1), (2, .int a2), (3, .int a3), (4, .int x4), (5, .int x5)] []) → ∀ (σ : ts_S) (x4 : Int32) (x5 : Int32), wp_X10_fearAs_b67 K X67 a1 a2 a3  σ x4 x5 → ts_G g (tM_w v) 6 σ 67 [(0, .ref (tX_ad v 0)), (1, .int a1), (2, .int a2), (3, .int a3), (4, .int x4), (5, .int x5)] [] := by
      intro X67 hX67
      intro σ x4 x5 hw
      unfold wp_X10_fearAs_b67 at hw
      refine ts_iload X dX10_fearAs_67 5 rfl ?_
      refine ts_aload_n X dX10_fearAs_69 0 rfl ?_
      refine gf_X10_73 X dX10_fearAs_70 ?_
      refine ts_icmp_ge 130 X dX10_fearAs_73 (by decide) (fun c => ?_) (fun c => ?_)
      · have hw := ts_itp hw c
        exact ts_sub [4] rfl (J130  _ _ hw)
      · have hw := ts_itn hw c
        refine ts_iload_n X dX10_fearAs_76 3 rfl ?_
        refine ts_iconst X dX10_fearAs_77 (v := 3) (by decide) ?_
        refine ts_icmp_ne 130 X dX10_fearAs_78 (by decide) (fun c => ?_) (fun c => ?_)
        · have hw := ts_itn hw c
          exact ts_sub [4] rfl (J130  _ _ hw)
        · have hw := ts_itp hw c
          refine ts_iload X dX10_fearAs_81 4 rfl ?_
          refine ts_iload X dX10_fearAs_83 5 rfl ?_
          refine ts_iload_n X dX10_fearAs_85 1 rfl ?_
          refine ts_icmp_eq 120 X dX10_fearAs_86 (by decide) (fun c => ?_) (fun c => ?_)
          · have hw := ts_itp hw c
            refine ts_iconst X dX10_fearAs_120 (v := 0) (by decide) ?_
            refine ts_isub X dX10_fearAs_121 ?_
            refine ts_istore X dX10_fearAs_122 (by decide) (lv' := [(4, .int (x4 - 0)), (0, .ref (tX_ad v 0)), (1, .int a1), (2, .int a2), (3, .int a3), (5, .int x5)]) rfl ?_
            refine ts_iinc X dX10_fearAs_124 5 rfl (v := x5 + 1) rfl (by decide) (lv' := [(5, .int (x5 + 1)), (4, .int (x4 - 0)), (0, .ref (tX_ad v 0)), (1, .int a1), (2, .int a2), (3, .int a3)]) rfl ?_
            refine ts_goto 67 X dX10_fearAs_127 (by decide) ?_
            exact ts_sub [2, 3, 4, 5, 1, 0] rfl (hX67 _ _ _ hw)
          · have hw := ts_itn hw c
            refine ts_aload_n X dX10_fearAs_89 0 rfl ?_
            refine gf_X10_43 X dX10_fearAs_90 ?_
            refine ts_iconst X dX10_fearAs_93 (v := 3) (by decide) ?_
            refine ts_iload X dX10_fearAs_94 5 rfl ?_
            refine ts_iadd X dX10_fearAs_96 ?_
            refine mi_ald X tM_c12 hw.1 dX10_fearAs_97 ?_
            have hw := hw.2
            refine ts_iload_n X dX10_fearAs_98 2 rfl ?_
            refine ts_icmp_ne 120 X dX10_fearAs_99 (by decide) (fun c => ?_) (fun c => ?_)
            · have hw := ts_itn hw c
              refine ts_iconst X dX10_fearAs_120 (v := 0) (by decide) ?_
              refine ts_isub X dX10_fearAs_121 ?_
              refine ts_istore X dX10_fearAs_122 (by decide) (lv' := [(4, .int (x4 - 0)), (0, .ref (tX_ad v 0)), (1, .int a1), (2, .int a2), (3, .int a3), (5, .int x5)]) rfl ?_
              refine ts_iinc X dX10_fearAs_124 5 rfl (v := x5 + 1) rfl (by decide) (lv' := [(5, .int (x5 + 1)), (4, .int (x4 - 0)), (0, .ref (tX_ad v 0)), (1, .int a1), (2, .int a2), (3, .int a3)]) rfl ?_
              refine ts_goto 67 X dX10_fearAs_127 (by decide) ?_
              exact ts_sub [2, 3, 4, 5, 1, 0] rfl (hX67 _ _ _ hw)
            · have hw := ts_itp hw c
              refine ts_aload_n X dX10_fearAs_102 0 rfl ?_
              refine gf_X10_43 X dX10_fearAs_103 ?_
              refine ts_iconst X dX10_fearAs_106 (v := 1) (by decide) ?_
              refine mi_ald X tM_c12 hw.1 dX10_fearAs_107 ?_
              have hw := hw.2
              refine ts_iload X dX10_fearAs_108 5 rfl ?_
              refine ts_callSi X (As := [.int (σ 12 (1 : Int32).toNatClampNeg), .int x5]) (ct_X10_has g.2.1 v hi _ _ _ _ hw) ok_X10_has cw_X10_139 (ts_le hgn (by decide)) (by decide) rfl rfl (Nat.le_of_ble_eq_true rfl) dX10_fearAs_110 (fun r3 s4 hw => ?_)
              refine ts_if_ne 120 X dX10_fearAs_113 (by decide) (fun c => ?_) (fun c => ?_)
              · have hw := ts_itn hw c
                refine ts_iconst X dX10_fearAs_120 (v := 0) (by decide) ?_
                refine ts_isub X dX10_fearAs_121 ?_
                refine ts_istore X dX10_fearAs_122 (by decide) (lv' := [(4, .int (x4 - 0)), (0, .ref (tX_ad v 0)), (1, .int a1), (2, .int a2), (3, .int a3), (5, .int x5)]) rfl ?_
                refine ts_iinc X dX10_fearAs_124 5 rfl (v := x5 + 1) rfl (by decide) (lv' := [(5, .int (x5 + 1)), (4, .int (x4 - 0)), (0, .ref (tX_ad v 0)), (1, .int a1), (2, .int a2), (3, .int a3)]) rfl ?_
                refine ts_goto 67 X dX10_fearAs_127 (by decide) ?_
                exact ts_sub [2, 3, 4, 5, 1, 0] rfl (hX67 _ _ _ hw)
              · have hw := ts_itp hw c
                refine ts_iconst X dX10_fearAs_116 (v := 2) (by decide) ?_
                refine ts_goto 121 X dX10_fearAs_117 (by decide) ?_
                refine ts_isub X dX10_fearAs_121 ?_
                refine ts_istore X dX10_fearAs_122 (by decide) (lv' := [(4, .int (x4 - 2)), (0, .ref (tX_ad v 0)), (1, .int a1), (2, .int a2), (3, .int a3), (5, .int x5)]) rfl ?_
                refine ts_iinc X dX10_fearAs_124 5 rfl (v := x5 + 1) rfl (by decide) (lv' := [(5, .int (x5 + 1)), (4, .int (x4 - 2)), (0, .ref (tX_ad v 0)), (1, .int a1), (2, .int a2), (3, .int a3)]) rfl ?_
                refine ts_goto 67 X dX10_fearAs_127 (by decide) ?_
                exact ts_sub [2, 3, 4, 5, 1, 0] rfl (hX67 _ _ _ hw)
    exact hw _ (fun σ x4 x5 h => key _ (fun _ _ _ h => h) σ x4 x5 h)
  unfold wp_X10_fearAs at hw
  show ts_G g (tM_w v) 6 σ 0 [(0, .ref (tX_ad v 0)), (1, .int a1), (2, .int a2), (3, .int a3)] []
  refine ts_iconst X dX10_fearAs_0 (v := 2) (by decide) ?_
  refine ts_aload_n X dX10_fearAs_1 0 rfl ?_
  refine gf_X10_80 X dX10_fearAs_2 ?_
  refine ts_iconst X dX10_fearAs_5 (v := 1) (by decide) ?_
  refine ts_isub X dX10_fearAs_6 ?_
  refine ts_iload_n X dX10_fearAs_7 2 rfl ?_
  refine ts_isub X dX10_fearAs_8 ?_
  refine ts_imul X dX10_fearAs_9 ?_
  refine ts_istore X dX10_fearAs_10 (by decide) (lv' := [(4, .int (2 * (((σ 0 0) - 1) - a2))), (0, .ref (tX_ad v 0)), (1, .int a1), (2, .int a2), (3, .int a3)]) rfl ?_
  refine ts_iload_n X dX10_fearAs_12 4 rfl ?_
  refine ts_iconst X dX10_fearAs_13 (v := 1) (by decide) ?_
  refine ts_icmp_ne 22 X dX10_fearAs_14 (by decide) (fun c => ?_) (fun c => ?_)
  · have hw := ts_itn hw c
    refine ts_iload_n X dX10_fearAs_22 4 rfl ?_
    refine ts_iconst X dX10_fearAs_23 (v := 2) (by decide) ?_
    refine ts_icmp_ne 64 X dX10_fearAs_24 (by decide) (fun c => ?_) (fun c => ?_)
    · have hw := ts_itn hw c
      refine ts_iconst X dX10_fearAs_64 (v := 0) (by decide) ?_
      refine ts_istore X dX10_fearAs_65 (by decide) (lv' := [(5, .int 0), (4, .int (2 * (((σ 0 0) - 1) - a2))), (0, .ref (tX_ad v 0)), (1, .int a1), (2, .int a2), (3, .int a3)]) rfl ?_
      exact ts_sub [2, 3, 4, 5, 1, 0] rfl (J67  _ _ _ hw)
    · have hw := ts_itp hw c
      refine ts_aload_n X dX10_fearAs_27 1 rfl ?_
      refine gf_X10_43 X dX10_fearAs_28 ?_
      refine ts_bipush X dX10_fearAs_31 (v := 9) (by decide) ?_
      refine ts_iload_n X dX10_fearAs_33 2 rfl ?_
      refine ts_iadd X dX10_fearAs_34 ?_
      refine mi_ald X tM_c12 hw.1 dX10_fearAs_35 ?_
      have hw := hw.2
      refine ts_bipush X dX10_fearAs_36 (v := 20) (by decide) ?_
      refine ts_icmp_ge 46 X dX10_fearAs_38 (by decide) (fun c => ?_) (fun c => ?_)
      · have hw := ts_itp hw c
        refine ts_iload X dX10_fearAs_46 0 rfl ?_
        refine ts_aload_n X dX10_fearAs_48 1 rfl ?_
        refine gf_X10_43 X dX10_fearAs_49 ?_
        refine ts_bipush X dX10_fearAs_52 (v := 9) (by decide) ?_
        refine ts_iload_n X dX10_fearAs_54 2 rfl ?_
        refine ts_iadd X dX10_fearAs_55 ?_
        refine mi_ald X tM_c12 hw.1 dX10_fearAs_56 ?_
        have hw := hw.2
        refine ts_bipush X dX10_fearAs_57 (v := 20) (by decide) ?_
        refine ts_isub X dX10_fearAs_59 ?_
        refine ts_iconst X dX10_fearAs_60 (v := 5) (by decide) ?_
        refine ts_idiv X dX10_fearAs_61 hw.1 ?_
        have hw := hw.2
        refine ts_iadd X dX10_fearAs_62 ?_
        exact hret _ _ _ _ hw dX10_fearAs_63
      · have hw := ts_itn hw c
        refine ts_iload X dX10_fearAs_41 0 rfl ?_
        refine ts_goto 63 X dX10_fearAs_43 (by decide) ?_
        exact hret _ _ _ _ hw dX10_fearAs_63
  · have hw := ts_itp hw c
    refine ts_iload X dX10_fearAs_17 0 rfl ?_
    refine ts_iconst X dX10_fearAs_19 (v := 2) (by decide) ?_
    refine ts_idiv X dX10_fearAs_20 hw.1 ?_
    have hw := hw.2
    exact hret _ _ _ _ hw dX10_fearAs_21
set_option maxRecDepth 100000 in
set_option maxHeartbeats 4000000 in
theorem ct_X10_fearOf (l : Launch) (v : tX_V) (hi : ts_inj 15 (tX_ad v)) (K : Int32 → ts_S → Prop) (σ : ts_S) (a1 : Int32)  (hw : wp_X10_fearOf K σ a1) : ts_Mi l yX10_fearOf (Cond.code yX10_fearOf cX10_fearOf 2 (some .int)) 3 (tM_w v) [.ref (tX_ad v 0), .int a1] σ K := by
  refine ts_Mi.of_i (w := tM_w v) hi (by decide +kernel) (Nat.le_of_ble_eq_true rfl) ?_
  intro g hgl hgn X hret
  unfold wp_X10_fearOf at hw
  show ts_G g (tM_w v) 2 σ 0 [(0, .ref (tX_ad v 0)), (1, .int a1)] []
  refine ts_aload_n X dX10_fearOf_0 0 rfl ?_
  refine ts_iload_n X dX10_fearOf_1 1 rfl ?_
  refine ts_aload_n X dX10_fearOf_2 0 rfl ?_
  refine gf_X10_43 X dX10_fearOf_3 ?_
  refine ts_iconst X dX10_fearOf_6 (v := 3) (by decide) ?_
  refine ts_iload_n X dX10_fearOf_7 1 rfl ?_
  refine ts_iadd X dX10_fearOf_8 ?_
  refine mi_ald X tM_c12 hw.1 dX10_fearOf_9 ?_
  have hw := hw.2
  refine ts_aload_n X dX10_fearOf_10 0 rfl ?_
  refine gf_X10_7 X dX10_fearOf_11 ?_
  refine ts_iload_n X dX10_fearOf_14 1 rfl ?_
  refine mi_ald X tM_c1 hw.1 dX10_fearOf_15 ?_
  have hw := hw.2
  refine ts_callVi (w := tM_w v) X (k := 0) (by decide : 0 < 15) rfl rfl rfl (As := [.int a1, .int (σ 12 (3 + a1).toNatClampNeg), .int (σ 1 a1.toNatClampNeg)]) (ct_X10_fearAs g.2.1 v hi _ _ _ _ _ hw) ok_X10_fearAs cw_X10_143 (ts_le hgn (by decide)) (by decide) rfl rfl (Nat.le_of_ble_eq_true rfl) dX10_fearOf_16 (fun r3 s4 hw => ?_)
  exact hret _ _ _ _ hw dX10_fearOf_19
set_option maxRecDepth 100000 in
set_option maxHeartbeats 4000000 in
theorem ct_X10_frozen (l : Launch) (v : tX_V) (hi : ts_inj 15 (tX_ad v)) (K : Int32 → ts_S → Prop) (σ : ts_S)   (hw : wp_X10_frozen K σ ) : ts_Mi l yX10_frozen (Cond.code yX10_frozen cX10_frozen 3 (some .int)) 4 (tM_w v) [.ref (tX_ad v 0)] σ K := by
  refine ts_Mi.of_i (w := tM_w v) hi (by decide +kernel) (Nat.le_of_ble_eq_true rfl) ?_
  intro g hgl hgn X hret
  have J4 : ∀ (σ : ts_S) (x1 : Int32) (x2 : Int32), wp_X10_frozen_l4 K  σ x1 x2 → ts_G g (tM_w v) 3 σ 4 [(0, .ref (tX_ad v 0)), (1, .int x1), (2, .int x2)] [] := by
    intro  σ x1 x2 hw
    have key : ∀ X4 : ts_S → Int32 → Int32 → Prop, (∀ (σ : ts_S) (x1 : Int32) (x2 : Int32), X4 σ x1 x2 → ts_G g (tM_w v) 3 σ 4 [(0, .ref (tX_ad v 0)), (1, .int x1), (2, .int x2)] []) → ∀ (σ : ts_S) (x1 : Int32) (x2 : Int32), wp_X10_frozen_b4 K X4   σ x1 x2 → ts_G g (tM_w v) 3 σ 4 [(0, .ref (tX_ad v 0)), (1, .int x1), (2, .int x2)] [] := by
      intro X4 hX4
      intro σ x1 x2 hw
      unfold wp_X10_frozen_b4 at hw
      refine ts_iload_n X dX10_frozen_4 2 rfl ?_
      refine ts_aload_n X dX10_frozen_5 0 rfl ?_
      refine gf_X10_73 X dX10_frozen_6 ?_
      refine ts_icmp_ge 58 X dX10_frozen_9 (by decide) (fun c => ?_) (fun c => ?_)
      · have hw := ts_itp hw c
        refine ts_iload_n X dX10_frozen_58 1 rfl ?_
        exact hret _ _ _ _ hw dX10_frozen_59
      · have hw := ts_itn hw c
        refine ts_iload_n X dX10_frozen_12 1 rfl ?_
        refine ts_aload_n X dX10_frozen_13 0 rfl ?_
        refine gf_X10_43 X dX10_frozen_14 ?_
        refine ts_iconst X dX10_frozen_17 (v := 1) (by decide) ?_
        refine mi_ald X tM_c12 hw.1 dX10_frozen_18 ?_
        have hw := hw.2
        refine ts_iload_n X dX10_frozen_19 2 rfl ?_
        refine ts_callSi X (As := [.int (σ 12 (1 : Int32).toNatClampNeg), .int x2]) (ct_X10_has g.2.1 v hi _ _ _ _ hw) ok_X10_has cw_X10_139 (ts_le hgn (by decide)) (by decide) rfl rfl (Nat.le_of_ble_eq_true rfl) dX10_frozen_20 (fun r5 s6 hw => ?_)
        refine ts_if_ne 49 X dX10_frozen_23 (by decide) (fun c => ?_) (fun c => ?_)
        · have hw := ts_itn hw c
          refine ts_iconst X dX10_frozen_49 (v := 0) (by decide) ?_
          refine ts_ior X dX10_frozen_50 ?_
          refine ts_istore_n X dX10_frozen_51 (by decide) (lv' := [(1, .int (x1 ||| 0)), (0, .ref (tX_ad v 0)), (2, .int x2)]) rfl ?_
          refine ts_iinc X dX10_frozen_52 2 rfl (v := x2 + 1) rfl (by decide) (lv' := [(2, .int (x2 + 1)), (1, .int (x1 ||| 0)), (0, .ref (tX_ad v 0))]) rfl ?_
          refine ts_goto 4 X dX10_frozen_55 (by decide) ?_
          exact ts_sub [2, 1, 0] rfl (hX4 _ _ _ hw)
        · have hw := ts_itp hw c
          refine ts_aload_n X dX10_frozen_26 0 rfl ?_
          refine ts_iload_n X dX10_frozen_27 2 rfl ?_
          refine ts_callVi (w := tM_w v) X (k := 0) (by decide : 0 < 15) rfl rfl rfl (As := [.int x2]) (ct_X10_fearOf g.2.1 v hi _ _ _ hw) ok_X10_fearOf cw_X10_147 (ts_le hgn (by decide)) (by decide) rfl rfl (Nat.le_of_ble_eq_true rfl) dX10_frozen_28 (fun r7 s8 hw => ?_)
          refine ts_aload_n X dX10_frozen_31 0 rfl ?_
          refine gf_X10_43 X dX10_frozen_32 ?_
          refine ts_bipush X dX10_frozen_35 (v := 15) (by decide) ?_
          refine ts_iload_n X dX10_frozen_37 2 rfl ?_
          refine ts_iadd X dX10_frozen_38 ?_
          refine mi_ald X tM_c12 hw.1 dX10_frozen_39 ?_
          have hw := hw.2
          refine ts_icmp_le 49 X dX10_frozen_40 (by decide) (fun c => ?_) (fun c => ?_)
          · have hw := ts_itp hw c
            refine ts_iconst X dX10_frozen_49 (v := 0) (by decide) ?_
            refine ts_ior X dX10_frozen_50 ?_
            refine ts_istore_n X dX10_frozen_51 (by decide) (lv' := [(1, .int (x1 ||| 0)), (0, .ref (tX_ad v 0)), (2, .int x2)]) rfl ?_
            refine ts_iinc X dX10_frozen_52 2 rfl (v := x2 + 1) rfl (by decide) (lv' := [(2, .int (x2 + 1)), (1, .int (x1 ||| 0)), (0, .ref (tX_ad v 0))]) rfl ?_
            refine ts_goto 4 X dX10_frozen_55 (by decide) ?_
            exact ts_sub [2, 1, 0] rfl (hX4 _ _ _ hw)
          · have hw := ts_itn hw c
            refine ts_iconst X dX10_frozen_43 (v := 1) (by decide) ?_
            refine ts_iload_n X dX10_frozen_44 2 rfl ?_
            refine ts_ishl X dX10_frozen_45 ?_
            refine ts_goto 50 X dX10_frozen_46 (by decide) ?_
            refine ts_ior X dX10_frozen_50 ?_
            refine ts_istore_n X dX10_frozen_51 (by decide) (lv' := [(1, .int (x1 ||| (1 <<< (x2 &&& 31)))), (0, .ref (tX_ad v 0)), (2, .int x2)]) rfl ?_
            refine ts_iinc X dX10_frozen_52 2 rfl (v := x2 + 1) rfl (by decide) (lv' := [(2, .int (x2 + 1)), (1, .int (x1 ||| (1 <<< (x2 &&& 31)))), (0, .ref (tX_ad v 0))]) rfl ?_
            refine ts_goto 4 X dX10_frozen_55 (by decide) ?_
            exact ts_sub [2, 1, 0] rfl (hX4 _ _ _ hw)
    exact hw _ (fun σ x1 x2 h => key _ (fun _ _ _ h => h) σ x1 x2 h)
  unfold wp_X10_frozen at hw
  show ts_G g (tM_w v) 3 σ 0 [(0, .ref (tX_ad v 0))] []
  refine ts_iconst X dX10_frozen_0 (v := 0) (by decide) ?_
  refine ts_istore_n X dX10_frozen_1 (by decide) (lv' := [(1, .int 0), (0, .ref (tX_ad v 0))]) rfl ?_
  refine ts_iconst X dX10_frozen_2 (v := 0) (by decide) ?_
  refine ts_istore_n X dX10_frozen_3 (by decide) (lv' := [(2, .int 0), (1, .int 0), (0, .ref (tX_ad v 0))]) rfl ?_
  exact ts_sub [2, 1, 0] rfl (J4  _ _ _ hw)
set_option maxRecDepth 100000 in
set_option maxHeartbeats 4000000 in
theorem ct_X10_person (l : Launch) (v : tX_V) (hi : ts_inj 15 (tX_ad v)) (K : Int32 → ts_S → Prop) (σ : ts_S) (a1 : Int32) (a2 : Int32)  (hw : wp_X10_person K σ a1 a2) : ts_Mi l yX10_person (Cond.code yX10_person cX10_person 3 (some .int)) 5 (tM_w v) [.ref (tX_ad v 0), .int a1, .int a2] σ K := by
  refine ts_Mi.of_i (w := tM_w v) hi (by decide +kernel) (Nat.le_of_ble_eq_true rfl) ?_
  intro g hgl hgn X hret
  unfold wp_X10_person at hw
  show ts_G g (tM_w v) 3 σ 0 [(0, .ref (tX_ad v 0)), (1, .int a1), (2, .int a2)] []
  refine ts_aload_n X dX10_person_0 0 rfl ?_
  refine ts_iload_n X dX10_person_1 1 rfl ?_
  refine ts_callVi (w := tM_w v) X (k := 0) (by decide : 0 < 15) rfl rfl rfl (As := [.int a1]) (ct_X10_isPerson g.2.1 v hi _ _ _ hw) ok_X10_isPerson cw_X10_156 (ts_le hgn (by decide)) (by decide) rfl rfl (Nat.le_of_ble_eq_true rfl) dX10_person_2 (fun r15 s16 hw => ?_)
  refine ts_if_ne 10 X dX10_person_5 (by decide) (fun c => ?_) (fun c => ?_)
  · have hw := ts_itn hw c
    refine ts_aload_n X dX10_person_10 0 rfl ?_
    refine ts_callVv (w := tM_w v) X (k := 0) (by decide : 0 < 15) rfl rfl rfl (As := []) (ct_X10_asItIs g.2.1 v hi _ _  hw) ok_X10_asItIs cw_X10_159 (ts_le hgn (by decide)) (by decide) rfl rfl (Nat.le_of_ble_eq_true rfl) dX10_person_11 (fun s18 hw => ?_)
    refine ts_iload_n X dX10_person_14 2 rfl ?_
    by_cases c0 : a2 = 0
    · have hw := ts_itp hw c0
      refine ts_tableIn 60 X dX10_person_15 c0 (by decide) (by decide) rfl (by decide) ?_
      refine ts_aload_n X dX10_person_60 0 rfl ?_
      refine gf_X10_7 X dX10_person_61 ?_
      refine ts_iload_n X dX10_person_64 1 rfl ?_
      refine mi_ald X tM_c1 hw.1 dX10_person_65 ?_
      have hw := hw.2
      exact hret _ _ _ _ hw dX10_person_66
    · have hw := ts_itn hw c0
      by_cases c1 : a2 = 1
      · have hw := ts_itp hw c1
        refine ts_tableIn 67 X dX10_person_15 c1 (by decide) (by decide) rfl (by decide) ?_
        refine ts_aload_n X dX10_person_67 0 rfl ?_
        refine gf_X10_16 X dX10_person_68 ?_
        refine ts_iconst X dX10_person_71 (v := 3) (by decide) ?_
        refine ts_iload_n X dX10_person_72 1 rfl ?_
        refine ts_iadd X dX10_person_73 ?_
        refine mi_ald X tM_c3 hw.1 dX10_person_74 ?_
        have hw := hw.2
        exact hret _ _ _ _ hw dX10_person_75
      · have hw := ts_itn hw c1
        by_cases c2 : a2 = 2
        · have hw := ts_itp hw c2
          refine ts_tableIn 76 X dX10_person_15 c2 (by decide) (by decide) rfl (by decide) ?_
          refine ts_aload_n X dX10_person_76 0 rfl ?_
          refine gf_X10_16 X dX10_person_77 ?_
          refine ts_bipush X dX10_person_80 (v := 9) (by decide) ?_
          refine ts_iload_n X dX10_person_82 1 rfl ?_
          refine ts_iadd X dX10_person_83 ?_
          refine mi_ald X tM_c3 hw.1 dX10_person_84 ?_
          have hw := hw.2
          exact hret _ _ _ _ hw dX10_person_85
        · have hw := ts_itn hw c2
          by_cases c3 : a2 = 3
          · have hw := ts_itp hw c3
            refine ts_tableIn 86 X dX10_person_15 c3 (by decide) (by decide) rfl (by decide) ?_
            refine ts_aload_n X dX10_person_86 0 rfl ?_
            refine gf_X10_16 X dX10_person_87 ?_
            refine ts_bipush X dX10_person_90 (v := 15) (by decide) ?_
            refine ts_iload_n X dX10_person_92 1 rfl ?_
            refine ts_iadd X dX10_person_93 ?_
            refine mi_ald X tM_c3 hw.1 dX10_person_94 ?_
            have hw := hw.2
            exact hret _ _ _ _ hw dX10_person_95
          · have hw := ts_itn hw c3
            by_cases c4 : a2 = 4
            · have hw := ts_itp hw c4
              refine ts_tableIn 96 X dX10_person_15 c4 (by decide) (by decide) rfl (by decide) ?_
              refine ts_aload_n X dX10_person_96 0 rfl ?_
              refine ts_iload_n X dX10_person_97 1 rfl ?_
              refine ts_callVi (w := tM_w v) X (k := 0) (by decide : 0 < 15) rfl rfl rfl (As := [.int a1]) (ct_X10_fearOf g.2.1 v hi _ _ _ hw) ok_X10_fearOf cw_X10_147 (ts_le hgn (by decide)) (by decide) rfl rfl (Nat.le_of_ble_eq_true rfl) dX10_person_98 (fun r19 s20 hw => ?_)
              exact hret _ _ _ _ hw dX10_person_101
            · have hw := ts_itn hw c4
              by_cases c5 : a2 = 5
              · have hw := ts_itp hw c5
                refine ts_tableIn 102 X dX10_person_15 c5 (by decide) (by decide) rfl (by decide) ?_
                refine ts_aload_n X dX10_person_102 0 rfl ?_
                refine ts_callVi (w := tM_w v) X (k := 0) (by decide : 0 < 15) rfl rfl rfl (As := []) (ct_X10_frozen g.2.1 v hi _ _  hw) ok_X10_frozen cw_X10_150 (ts_le hgn (by decide)) (by decide) rfl rfl (Nat.le_of_ble_eq_true rfl) dX10_person_103 (fun r21 s22 hw => ?_)
                refine ts_iload_n X dX10_person_106 1 rfl ?_
                refine ts_callSi X (As := [.int r21, .int a1]) (ct_X10_has g.2.1 v hi _ _ _ _ hw) ok_X10_has cw_X10_139 (ts_le hgn (by decide)) (by decide) rfl rfl (Nat.le_of_ble_eq_true rfl) dX10_person_107 (fun r23 s24 hw => ?_)
                refine ts_if_eq 117 X dX10_person_110 (by decide) (fun c => ?_) (fun c => ?_)
                · have hw := ts_itp hw c
                  refine ts_iconst X dX10_person_117 (v := 0) (by decide) ?_
                  exact hret _ _ _ _ hw dX10_person_118
                · have hw := ts_itn hw c
                  refine ts_iconst X dX10_person_113 (v := 1) (by decide) ?_
                  refine ts_goto 118 X dX10_person_114 (by decide) ?_
                  exact hret _ _ _ _ hw dX10_person_118
              · have hw := ts_itn hw c5
                by_cases c6 : a2 = 6
                · have hw := ts_itp hw c6
                  refine ts_tableIn 119 X dX10_person_15 c6 (by decide) (by decide) rfl (by decide) ?_
                  refine ts_aload_n X dX10_person_119 0 rfl ?_
                  refine gf_X10_16 X dX10_person_120 ?_
                  refine ts_iconst X dX10_person_123 (v := 1) (by decide) ?_
                  refine mi_ald X tM_c3 hw.1 dX10_person_124 ?_
                  have hw := hw.2
                  refine ts_iload_n X dX10_person_125 1 rfl ?_
                  refine ts_callSi X (As := [.int (s18 3 (1 : Int32).toNatClampNeg), .int a1]) (ct_X10_has g.2.1 v hi _ _ _ _ hw) ok_X10_has cw_X10_139 (ts_le hgn (by decide)) (by decide) rfl rfl (Nat.le_of_ble_eq_true rfl) dX10_person_126 (fun r25 s26 hw => ?_)
                  refine ts_if_eq 136 X dX10_person_129 (by decide) (fun c => ?_) (fun c => ?_)
                  · have hw := ts_itp hw c
                    refine ts_iconst X dX10_person_136 (v := 0) (by decide) ?_
                    exact hret _ _ _ _ hw dX10_person_137
                  · have hw := ts_itn hw c
                    refine ts_iconst X dX10_person_132 (v := 1) (by decide) ?_
                    refine ts_goto 137 X dX10_person_133 (by decide) ?_
                    exact hret _ _ _ _ hw dX10_person_137
                · have hw := ts_itn hw c6
                  by_cases c7 : a2 = 7
                  · have hw := ts_itp hw c7
                    refine ts_tableIn 138 X dX10_person_15 c7 (by decide) (by decide) rfl (by decide) ?_
                    refine ts_aload_n X dX10_person_138 0 rfl ?_
                    refine ts_iload_n X dX10_person_139 1 rfl ?_
                    refine ts_callVi (w := tM_w v) X (k := 0) (by decide : 0 < 15) rfl rfl rfl (As := [.int a1]) (ct_X10_canCall g.2.1 v hi _ _ _ hw) ok_X10_canCall cw_X10_162 (ts_le hgn (by decide)) (by decide) rfl rfl (Nat.le_of_ble_eq_true rfl) dX10_person_140 (fun r27 s28 hw => ?_)
                    refine ts_if_eq 150 X dX10_person_143 (by decide) (fun c => ?_) (fun c => ?_)
                    · have hw := ts_itp hw c
                      refine ts_iconst X dX10_person_150 (v := 0) (by decide) ?_
                      exact hret _ _ _ _ hw dX10_person_151
                    · have hw := ts_itn hw c
                      refine ts_iconst X dX10_person_146 (v := 1) (by decide) ?_
                      refine ts_goto 151 X dX10_person_147 (by decide) ?_
                      exact hret _ _ _ _ hw dX10_person_151
                  · have hw := ts_itn hw c7
                    refine ts_tableOut 152 X dX10_person_15 (ts_out [0, 1, 2, 3, 4, 5, 6, 7] ⟨c0, c1, c2, c3, c4, c5, c6, c7, trivial⟩ (by decide)) (by decide) ?_
                    refine ts_iconst X dX10_person_152 (v := (-1)) (by decide) ?_
                    exact hret _ _ _ _ hw dX10_person_153
  · have hw := ts_itp hw c
    refine ts_iconst X dX10_person_8 (v := (-1)) (by decide) ?_
    exact hret _ _ _ _ hw dX10_person_9
