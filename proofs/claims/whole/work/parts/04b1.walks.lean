set_option maxRecDepth 100000 in
set_option maxHeartbeats 4000000 in
theorem ct_X6_add (l : Launch) (v : tX_V) (hi : ts_inj 151 (tX_ad v)) (K : Int32 → ts_S → Prop) (σ : ts_S) (a1 : Int32)  (hw : wp_X6_add K σ a1) : ts_Mi l yX6_add (Cond.code yX6_add cX6_add 2 (some .boolean)) 1 (tX_w v) [.ref (tX_ad v 1), .int a1] σ K := by
  refine ts_Mi.of_z (w := tX_w v) hi (by decide +kernel) (Nat.le_of_ble_eq_true rfl) ?_
  intro g hgl hgn X hret
  unfold wp_X6_add at hw
  show ts_G g (tX_w v) 2 σ 0 [(0, .ref (tX_ad v 1)), (1, .int a1)] []
  refine ts_aload_n X dX6_add_0 0 rfl ?_
  refine gf_X6_19 X dX6_add_1 ?_
  refine ts_sipush X dX6_add_4 (v := 200) (by decide) ?_
  refine ts_icmp_lt 12 X dX6_add_7 (by decide) (fun c => ?_) (fun c => ?_)
  · have hw := ts_itp hw c
    refine ts_aload_n X dX6_add_12 0 rfl ?_
    refine gf_X6_9 X dX6_add_13 ?_
    refine ts_aload_n X dX6_add_16 0 rfl ?_
    refine gf_X6_19 X dX6_add_17 ?_
    refine ts_iload_n X dX6_add_20 1 rfl ?_
    refine xc_ast X tX_c2 hw.1 dX6_add_21 (fun s3 es3 => ?_)
    have hw := hw.2 s3 es3
    refine ts_aload_n X dX6_add_22 0 rfl ?_
    refine ts_dup X dX6_add_23 rfl ?_
    refine gf_X6_19 X dX6_add_24 ?_
    refine ts_iconst X dX6_add_27 (v := 1) (by decide) ?_
    refine ts_iadd X dX6_add_28 ?_
    refine pf_X6_19 X dX6_add_29 (fun s4 es4 => ?_)
    have hw := hw s4 es4
    refine ts_iconst X dX6_add_32 (v := 1) (by decide) ?_
    exact hret _ _ _ _ hw dX6_add_33
  · have hw := ts_itn hw c
    refine ts_iconst X dX6_add_10 (v := 0) (by decide) ?_
    exact hret _ _ _ _ hw dX6_add_11
set_option maxRecDepth 100000 in
set_option maxHeartbeats 4000000 in
theorem ct_X6_takeWork (l : Launch) (v : tX_V) (hi : ts_inj 151 (tX_ad v)) (K : Int32 → ts_S → Prop) (σ : ts_S) (t1 : Nat) (ht1 : tX_L t1) (hw : wp_X6_takeWork K σ t1) : ts_Mi l yX6_takeWork (Cond.code yX6_takeWork cX6_takeWork 3 (some .boolean)) 2 (tX_w v) [.ref (tX_ad v 1), .ref (tX_ad v t1)] σ K := by
  refine ts_Mi.of_z (w := tX_w v) hi (by decide +kernel) (Nat.le_of_ble_eq_true rfl) ?_
  intro g hgl hgn X hret
  unfold wp_X6_takeWork at hw
  show ts_G g (tX_w v) 3 σ 0 [(0, .ref (tX_ad v 1)), (1, .ref (tX_ad v t1))] []
  refine ts_aload_n X dX6_takeWork_0 1 rfl ?_
  refine gf_X6_95 X ht1 dX6_takeWork_1 ?_
  refine ts_istore_n X dX6_takeWork_4 (by decide) (lv' := [(2, .int (σ t1 2)), (0, .ref (tX_ad v 1)), (1, .ref (tX_ad v t1))]) rfl ?_
  refine ts_iload_n X dX6_takeWork_5 0 rfl ?_
  refine ts_iconst X dX6_takeWork_6 (v := 5) (by decide) ?_
  refine ts_icmp_ge 37 X dX6_takeWork_7 (by decide) (fun c => ?_) (fun c => ?_)
  · have hw := ts_itp hw c
    refine ts_iconst X dX6_takeWork_37 (v := 0) (by decide) ?_
    exact hret _ _ _ _ hw dX6_takeWork_38
  · have hw := ts_itn hw c
    refine ts_aload_n X dX6_takeWork_10 1 rfl ?_
    refine gf_X6_15 X dX6_takeWork_11 ?_
    refine ts_iconst X dX6_takeWork_14 (v := 0) (by decide) ?_
    refine xi_ald X tX_c3 hw.1 dX6_takeWork_15 ?_
    have hw := hw.2
    refine ts_aload_n X dX6_takeWork_16 2 rfl ?_
    refine gf_X6_66 X ht1 dX6_takeWork_17 ?_
    refine ts_icmp_ge 37 X dX6_takeWork_20 (by decide) (fun c => ?_) (fun c => ?_)
    · have hw := ts_itp hw c
      refine ts_iconst X dX6_takeWork_37 (v := 0) (by decide) ?_
      exact hret _ _ _ _ hw dX6_takeWork_38
    · have hw := ts_itn hw c
      refine ts_aload_n X dX6_takeWork_23 1 rfl ?_
      refine gf_X6_15 X dX6_takeWork_24 ?_
      refine ts_iconst X dX6_takeWork_27 (v := 1) (by decide) ?_
      refine xi_ald X tX_c3 hw.1 dX6_takeWork_28 ?_
      have hw := hw.2
      refine ts_iconst X dX6_takeWork_29 (v := 1) (by decide) ?_
      refine ts_iconst X dX6_takeWork_30 (v := 4) (by decide) ?_
      refine ts_callNi X (As := [.int (σ 3 (1 : Int32).toNatClampNeg), .int 1, .int 4]) (ct_X9_within g.2.1 v hi _ _ _ _ _ hw) ok_X9_within cw_X6_69 (ts_le hgn (by decide)) (by decide) rfl rfl (Nat.le_of_ble_eq_true rfl) dX6_takeWork_31 (fun r6 s7 hw => ?_)
      refine ts_if_ne 39 X dX6_takeWork_34 (by decide) (fun c => ?_) (fun c => ?_)
      · have hw := ts_itn hw c
        refine ts_aload_n X dX6_takeWork_39 2 rfl ?_
        refine gf_X6_98 X ht1 (q := (t1 + 2)) rfl dX6_takeWork_40 ?_
        refine ts_iload_n X dX6_takeWork_43 0 rfl ?_
        refine ts_aload_n X dX6_takeWork_44 1 rfl ?_
        refine gf_X6_15 X dX6_takeWork_45 ?_
        refine ts_iconst X dX6_takeWork_48 (v := 0) (by decide) ?_
        refine xi_ald X tX_c3 hw.1 dX6_takeWork_49 ?_
        have hw := hw.2
        refine xi_ast X (tX_b2 ht1 rfl) hw.1 dX6_takeWork_50 (fun s8 es8 => ?_)
        have hw := hw.2 s8 es8
        refine ts_aload_n X dX6_takeWork_51 2 rfl ?_
        refine gf_X6_101 X ht1 (q := (t1 + 3)) rfl dX6_takeWork_52 ?_
        refine ts_iload_n X dX6_takeWork_55 0 rfl ?_
        refine ts_aload_n X dX6_takeWork_56 1 rfl ?_
        refine gf_X6_15 X dX6_takeWork_57 ?_
        refine ts_iconst X dX6_takeWork_60 (v := 1) (by decide) ?_
        refine xi_ald X tX_c3 hw.1 dX6_takeWork_61 ?_
        have hw := hw.2
        refine xi_ast X (tX_b3 ht1 rfl) hw.1 dX6_takeWork_62 (fun s9 es9 => ?_)
        have hw := hw.2 s9 es9
        refine ts_aload_n X dX6_takeWork_63 2 rfl ?_
        refine ts_dup X dX6_takeWork_64 rfl ?_
        refine gf_X6_95 X ht1 dX6_takeWork_65 ?_
        refine ts_iconst X dX6_takeWork_68 (v := 1) (by decide) ?_
        refine ts_iadd X dX6_takeWork_69 ?_
        refine pf_X6_95 X ht1 dX6_takeWork_70 (fun s10 es10 => ?_)
        have hw := hw s10 es10
        refine ts_iconst X dX6_takeWork_73 (v := 1) (by decide) ?_
        exact hret _ _ _ _ hw dX6_takeWork_74
      · have hw := ts_itp hw c
        refine ts_iconst X dX6_takeWork_37 (v := 0) (by decide) ?_
        exact hret _ _ _ _ hw dX6_takeWork_38
set_option maxRecDepth 100000 in
set_option maxHeartbeats 4000000 in
theorem ct_X6_figureAt (l : Launch) (v : tX_V) (hi : ts_inj 151 (tX_ad v)) (K : Int32 → ts_S → Prop) (σ : ts_S) (a1 : Int32)  (hw : wp_X6_figureAt K σ a1) : ts_Mi l yX6_figureAt (Cond.code yX6_figureAt cX6_figureAt 2 (some .int)) 1 (tX_w v) [.ref (tX_ad v 1), .int a1] σ K := by
  refine ts_Mi.of_i (w := tX_w v) hi (by decide +kernel) (Nat.le_of_ble_eq_true rfl) ?_
  intro g hgl hgn X hret
  unfold wp_X6_figureAt at hw
  show ts_G g (tX_w v) 2 σ 0 [(0, .ref (tX_ad v 1)), (1, .int a1)] []
  refine ts_iload_n X dX6_figureAt_0 1 rfl ?_
  refine ts_aload_n X dX6_figureAt_1 0 rfl ?_
  refine gf_X6_19 X dX6_figureAt_2 ?_
  refine ts_icmp_ge 30 X dX6_figureAt_5 (by decide) (fun c => ?_) (fun c => ?_)
  · have hw := ts_itp hw c
    refine ts_iconst X dX6_figureAt_30 (v := (-1)) (by decide) ?_
    exact hret _ _ _ _ hw dX6_figureAt_31
  · have hw := ts_itn hw c
    refine ts_aload_n X dX6_figureAt_8 0 rfl ?_
    refine gf_X6_9 X dX6_figureAt_9 ?_
    refine ts_iload_n X dX6_figureAt_12 1 rfl ?_
    refine xc_ald X tX_c2 hw.1 dX6_figureAt_13 ?_
    have hw := hw.2
    refine ts_bipush X dX6_figureAt_14 (v := 48) (by decide) ?_
    refine ts_icmp_lt 30 X dX6_figureAt_16 (by decide) (fun c => ?_) (fun c => ?_)
    · have hw := ts_itp hw c
      refine ts_iconst X dX6_figureAt_30 (v := (-1)) (by decide) ?_
      exact hret _ _ _ _ hw dX6_figureAt_31
    · have hw := ts_itn hw c
      refine ts_aload_n X dX6_figureAt_19 0 rfl ?_
      refine gf_X6_9 X dX6_figureAt_20 ?_
      refine ts_iload_n X dX6_figureAt_23 1 rfl ?_
      refine xc_ald X tX_c2 hw.1 dX6_figureAt_24 ?_
      have hw := hw.2
      refine ts_bipush X dX6_figureAt_25 (v := 57) (by decide) ?_
      refine ts_icmp_le 32 X dX6_figureAt_27 (by decide) (fun c => ?_) (fun c => ?_)
      · have hw := ts_itp hw c
        refine ts_aload_n X dX6_figureAt_32 0 rfl ?_
        refine gf_X6_9 X dX6_figureAt_33 ?_
        refine ts_iload_n X dX6_figureAt_36 1 rfl ?_
        refine xc_ald X tX_c2 hw.1 dX6_figureAt_37 ?_
        have hw := hw.2
        refine ts_bipush X dX6_figureAt_38 (v := 48) (by decide) ?_
        refine ts_isub X dX6_figureAt_40 ?_
        exact hret _ _ _ _ hw dX6_figureAt_41
      · have hw := ts_itn hw c
        refine ts_iconst X dX6_figureAt_30 (v := (-1)) (by decide) ?_
        exact hret _ _ _ _ hw dX6_figureAt_31
set_option maxRecDepth 100000 in
set_option maxHeartbeats 4000000 in
theorem ct_X6_readNumber (l : Launch) (v : tX_V) (hi : ts_inj 151 (tX_ad v)) (K : Int32 → ts_S → Prop) (σ : ts_S)   (hw : wp_X6_readNumber K σ ) : ts_Mi l yX6_readNumber (Cond.code yX6_readNumber cX6_readNumber 3 (some .int)) 2 (tX_w v) [.ref (tX_ad v 1)] σ K := by
  refine ts_Mi.of_i (w := tX_w v) hi (by decide +kernel) (Nat.le_of_ble_eq_true rfl) ?_
  intro g hgl hgn X hret
  unfold wp_X6_readNumber at hw
  show ts_G g (tX_w v) 3 σ 0 [(0, .ref (tX_ad v 1))] []
  refine ts_aload_n X dX6_readNumber_0 0 rfl ?_
  refine ts_aload_n X dX6_readNumber_1 0 rfl ?_
  refine gf_X6_37 X dX6_readNumber_2 ?_
  refine ts_callVi (w := tX_w v) X (k := 1) (by decide : 1 < 151) rfl rfl rfl (As := [.int (σ 1 2)]) (ct_X6_figureAt g.2.1 v hi _ _ _ hw) ok_X6_figureAt cw_X6_62 (ts_le hgn (by decide)) (by decide) rfl rfl (Nat.le_of_ble_eq_true rfl) dX6_readNumber_5 (fun r7 s8 hw => ?_)
  refine ts_istore_n X dX6_readNumber_8 (by decide) (lv' := [(1, .int r7), (0, .ref (tX_ad v 1))]) rfl ?_
  refine ts_iload_n X dX6_readNumber_9 0 rfl ?_
  refine ts_if_ge 15 X dX6_readNumber_10 (by decide) (fun c => ?_) (fun c => ?_)
  · have hw := ts_itp hw c
    refine ts_aload_n X dX6_readNumber_15 1 rfl ?_
    refine ts_dup X dX6_readNumber_16 rfl ?_
    refine gf_X6_37 X dX6_readNumber_17 ?_
    refine ts_iconst X dX6_readNumber_20 (v := 1) (by decide) ?_
    refine ts_iadd X dX6_readNumber_21 ?_
    refine pf_X6_37 X dX6_readNumber_22 (fun s9 es9 => ?_)
    have hw := hw s9 es9
    refine ts_aload_n X dX6_readNumber_25 1 rfl ?_
    refine ts_aload_n X dX6_readNumber_26 1 rfl ?_
    refine gf_X6_37 X dX6_readNumber_27 ?_
    refine ts_callVi (w := tX_w v) X (k := 1) (by decide : 1 < 151) rfl rfl rfl (As := [.int (s9 1 2)]) (ct_X6_figureAt g.2.1 v hi _ _ _ hw) ok_X6_figureAt cw_X6_62 (ts_le hgn (by decide)) (by decide) rfl rfl (Nat.le_of_ble_eq_true rfl) dX6_readNumber_30 (fun r10 s11 hw => ?_)
    refine ts_istore_n X dX6_readNumber_33 (by decide) (lv' := [(2, .int r10), (1, .int r7), (0, .ref (tX_ad v 1))]) rfl ?_
    refine ts_iload_n X dX6_readNumber_34 0 rfl ?_
    refine ts_if_ge 40 X dX6_readNumber_35 (by decide) (fun c => ?_) (fun c => ?_)
    · have hw := ts_itp hw c
      refine ts_aload_n X dX6_readNumber_40 2 rfl ?_
      refine ts_dup X dX6_readNumber_41 rfl ?_
      refine gf_X6_37 X dX6_readNumber_42 ?_
      refine ts_iconst X dX6_readNumber_45 (v := 1) (by decide) ?_
      refine ts_iadd X dX6_readNumber_46 ?_
      refine pf_X6_37 X dX6_readNumber_47 (fun s12 es12 => ?_)
      have hw := hw s12 es12
      refine ts_iload_n X dX6_readNumber_50 1 rfl ?_
      refine ts_bipush X dX6_readNumber_51 (v := 10) (by decide) ?_
      refine ts_imul X dX6_readNumber_53 ?_
      refine ts_iload_n X dX6_readNumber_54 0 rfl ?_
      refine ts_iadd X dX6_readNumber_55 ?_
      exact hret _ _ _ _ hw dX6_readNumber_56
    · have hw := ts_itn hw c
      refine ts_iload_n X dX6_readNumber_38 1 rfl ?_
      exact hret _ _ _ _ hw dX6_readNumber_39
  · have hw := ts_itn hw c
    refine ts_iconst X dX6_readNumber_13 (v := (-1)) (by decide) ?_
    exact hret _ _ _ _ hw dX6_readNumber_14
set_option maxRecDepth 100000 in
set_option maxHeartbeats 4000000 in
theorem ct_X6_readNumbers (l : Launch) (v : tX_V) (hi : ts_inj 151 (tX_ad v)) (K : Int32 → ts_S → Prop) (σ : ts_S) (a1 : Int32)  (hw : wp_X6_readNumbers K σ a1) : ts_Mi l yX6_readNumbers (Cond.code yX6_readNumbers cX6_readNumbers 5 (some .boolean)) 3 (tX_w v) [.ref (tX_ad v 1), .int a1] σ K := by
  refine ts_Mi.of_z (w := tX_w v) hi (by decide +kernel) (Nat.le_of_ble_eq_true rfl) ?_
  intro g hgl hgn X hret
  have J2 : ∀ (σ : ts_S) (x2 : Int32), wp_X6_readNumbers_l2 K a1 σ x2 → ts_G g (tX_w v) 5 σ 2 [(0, .ref (tX_ad v 1)), (1, .int a1), (2, .int x2)] [] := by
    intro  σ x2 hw
    have key : ∀ X2 : ts_S → Int32 → Prop, (∀ (σ : ts_S) (x2 : Int32), X2 σ x2 → ts_G g (tX_w v) 5 σ 2 [(0, .ref (tX_ad v 1)), (1, .int a1), (2, .int x2)] []) → ∀ (σ : ts_S) (x2 : Int32), wp_X6_readNumbers_b2 K X2 a1  σ x2 → ts_G g (tX_w v) 5 σ 2 [(0, .ref (tX_ad v 1)), (1, .int a1), (2, .int x2)] [] := by
      intro X2 hX2
      have J26 : ∀ (σ : ts_S) (x2 : Int32) (x3 : Int32) (y0 : Int32), wp_X6_readNumbers_j26 K X2 a1 σ x2 x3 y0 → ts_G g (tX_w v) 5 σ 26 [(0, .ref (tX_ad v 1)), (1, .int a1), (2, .int x2), (3, .int x3)] [.int y0] := by
        intro  σ x2 x3 y0 hw
        unfold wp_X6_readNumbers_j26 at hw
        refine ts_istore X dX6_readNumbers_26 (by decide) (lv' := [(4, .int y0), (0, .ref (tX_ad v 1)), (1, .int a1), (2, .int x2), (3, .int x3)]) rfl ?_
        refine ts_iload_n X dX6_readNumbers_28 4 rfl ?_
        refine ts_if_lt 57 X dX6_readNumbers_29 (by decide) (fun c => ?_) (fun c => ?_)
        · have hw := ts_itp hw c
          refine ts_iconst X dX6_readNumbers_57 (v := 0) (by decide) ?_
          exact hret _ _ _ _ hw dX6_readNumbers_58
        · have hw := ts_itn hw c
          refine ts_aload_n X dX6_readNumbers_32 1 rfl ?_
          refine gf_X6_37 X dX6_readNumbers_33 ?_
          refine ts_aload_n X dX6_readNumbers_36 1 rfl ?_
          refine gf_X6_19 X dX6_readNumbers_37 ?_
          refine ts_icmp_ge 57 X dX6_readNumbers_40 (by decide) (fun c => ?_) (fun c => ?_)
          · have hw := ts_itp hw c
            refine ts_iconst X dX6_readNumbers_57 (v := 0) (by decide) ?_
            exact hret _ _ _ _ hw dX6_readNumbers_58
          · have hw := ts_itn hw c
            refine ts_aload_n X dX6_readNumbers_43 1 rfl ?_
            refine gf_X6_9 X dX6_readNumbers_44 ?_
            refine ts_aload_n X dX6_readNumbers_47 1 rfl ?_
            refine gf_X6_37 X dX6_readNumbers_48 ?_
            refine xc_ald X tX_c2 hw.1 dX6_readNumbers_51 ?_
            have hw := hw.2
            refine ts_iload X dX6_readNumbers_52 0 rfl ?_
            refine ts_icmp_eq 59 X dX6_readNumbers_54 (by decide) (fun c => ?_) (fun c => ?_)
            · have hw := ts_itp hw c
              refine ts_aload_n X dX6_readNumbers_59 1 rfl ?_
              refine gf_X6_15 X dX6_readNumbers_60 ?_
              refine ts_iload_n X dX6_readNumbers_63 3 rfl ?_
              refine ts_iload_n X dX6_readNumbers_64 4 rfl ?_
              refine xi_ast X tX_c3 hw.1 dX6_readNumbers_65 (fun s5 es5 => ?_)
              have hw := hw.2 s5 es5
              refine ts_aload_n X dX6_readNumbers_66 1 rfl ?_
              refine ts_dup X dX6_readNumbers_67 rfl ?_
              refine gf_X6_37 X dX6_readNumbers_68 ?_
              refine ts_iconst X dX6_readNumbers_71 (v := 1) (by decide) ?_
              refine ts_iadd X dX6_readNumbers_72 ?_
              refine pf_X6_37 X dX6_readNumbers_73 (fun s6 es6 => ?_)
              have hw := hw s6 es6
              refine ts_iinc X dX6_readNumbers_76 3 rfl (v := x2 + 1) rfl (by decide) (lv' := [(2, .int (x2 + 1)), (4, .int y0), (0, .ref (tX_ad v 1)), (1, .int a1), (3, .int x3)]) rfl ?_
              refine ts_goto 2 X dX6_readNumbers_79 (by decide) ?_
              exact ts_sub [2, 3, 0] rfl (hX2 _ _ hw)
            · have hw := ts_itn hw c
              refine ts_iconst X dX6_readNumbers_57 (v := 0) (by decide) ?_
              exact hret _ _ _ _ hw dX6_readNumbers_58
      intro σ x2 hw
      unfold wp_X6_readNumbers_b2 at hw
      refine ts_iload_n X dX6_readNumbers_2 2 rfl ?_
      refine ts_iload_n X dX6_readNumbers_3 1 rfl ?_
      refine ts_icmp_ge 82 X dX6_readNumbers_4 (by decide) (fun c => ?_) (fun c => ?_)
      · have hw := ts_itp hw c
        refine ts_iconst X dX6_readNumbers_82 (v := 1) (by decide) ?_
        exact hret _ _ _ _ hw dX6_readNumbers_83
      · have hw := ts_itn hw c
        refine ts_aload_n X dX6_readNumbers_7 0 rfl ?_
        refine ts_callVi (w := tX_w v) X (k := 1) (by decide : 1 < 151) rfl rfl rfl (As := []) (ct_X6_readNumber g.2.1 v hi _ _  hw) ok_X6_readNumber cw_X6_58 (ts_le hgn (by decide)) (by decide) rfl rfl (Nat.le_of_ble_eq_true rfl) dX6_readNumbers_8 (fun r7 s8 hw => ?_)
        refine ts_istore_n X dX6_readNumbers_11 (by decide) (lv' := [(3, .int r7), (0, .ref (tX_ad v 1)), (1, .int a1), (2, .int x2)]) rfl ?_
        refine ts_iload_n X dX6_readNumbers_12 3 rfl ?_
        refine ts_iconst X dX6_readNumbers_13 (v := 1) (by decide) ?_
        refine ts_iadd X dX6_readNumbers_14 ?_
        refine ts_iload_n X dX6_readNumbers_15 2 rfl ?_
        refine ts_icmp_ge 24 X dX6_readNumbers_16 (by decide) (fun c => ?_) (fun c => ?_)
        · have hw := ts_itp hw c
          refine ts_bipush X dX6_readNumbers_24 (v := 59) (by decide) ?_
          exact ts_sub [1, 2, 3, 0] rfl (J26  _ _ _ _ hw)
        · have hw := ts_itn hw c
          refine ts_bipush X dX6_readNumbers_19 (v := 44) (by decide) ?_
          refine ts_goto 26 X dX6_readNumbers_21 (by decide) ?_
          exact ts_sub [1, 2, 3, 0] rfl (J26  _ _ _ _ hw)
    exact hw _ (fun σ x2 h => key _ (fun _ _ h => h) σ x2 h)
  unfold wp_X6_readNumbers at hw
  show ts_G g (tX_w v) 5 σ 0 [(0, .ref (tX_ad v 1)), (1, .int a1)] []
  refine ts_iconst X dX6_readNumbers_0 (v := 0) (by decide) ?_
  refine ts_istore_n X dX6_readNumbers_1 (by decide) (lv' := [(2, .int 0), (0, .ref (tX_ad v 1)), (1, .int a1)]) rfl ?_
  exact ts_sub [1, 2, 0] rfl (J2  _ _ hw)
set_option maxRecDepth 100000 in
set_option maxHeartbeats 4000000 in
theorem ct_X6_takeSteps (l : Launch) (v : tX_V) (hi : ts_inj 151 (tX_ad v)) (K : Int32 → ts_S → Prop) (σ : ts_S) (t1 : Nat) (ht1 : tX_L t1) (hw : wp_X6_takeSteps K σ t1) : ts_Mi l yX6_takeSteps (Cond.code yX6_takeSteps cX6_takeSteps 2 (some .boolean)) 2 (tX_w v) [.ref (tX_ad v 1), .ref (tX_ad v t1)] σ K := by
  refine ts_Mi.of_z (w := tX_w v) hi (by decide +kernel) (Nat.le_of_ble_eq_true rfl) ?_
  intro g hgl hgn X hret
  unfold wp_X6_takeSteps at hw
  show ts_G g (tX_w v) 2 σ 0 [(0, .ref (tX_ad v 1)), (1, .ref (tX_ad v t1))] []
  refine ts_aload_n X dX6_takeSteps_0 1 rfl ?_
  refine ts_aload_n X dX6_takeSteps_1 0 rfl ?_
  refine gf_X6_15 X dX6_takeSteps_2 ?_
  refine ts_iconst X dX6_takeSteps_5 (v := 0) (by decide) ?_
  refine xi_ald X tX_c3 hw.1 dX6_takeSteps_6 ?_
  have hw := hw.2
  refine pf_X6_66 X ht1 dX6_takeSteps_7 (fun s4 es4 => ?_)
  have hw := hw s4 es4
  refine ts_aload_n X dX6_takeSteps_10 0 rfl ?_
  refine gf_X6_15 X dX6_takeSteps_11 ?_
  refine ts_iconst X dX6_takeSteps_14 (v := 0) (by decide) ?_
  refine xi_ald X tX_c3 hw.1 dX6_takeSteps_15 ?_
  have hw := hw.2
  refine ts_iconst X dX6_takeSteps_16 (v := 2) (by decide) ?_
  refine ts_bipush X dX6_takeSteps_17 (v := 10) (by decide) ?_
  refine ts_callNi X (As := [.int (s4 3 (0 : Int32).toNatClampNeg), .int 2, .int 10]) (ct_X9_within g.2.1 v hi _ _ _ _ _ hw) ok_X9_within cw_X6_69 (ts_le hgn (by decide)) (by decide) rfl rfl (Nat.le_of_ble_eq_true rfl) dX6_takeSteps_19 (fun r5 s6 hw => ?_)
  exact hret _ _ _ _ hw dX6_takeSteps_22
set_option maxRecDepth 100000 in
set_option maxHeartbeats 4000000 in
theorem ct_X6_takePerson (l : Launch) (v : tX_V) (hi : ts_inj 151 (tX_ad v)) (K : Int32 → ts_S → Prop) (σ : ts_S) (t1 : Nat) (ht1 : tX_T t1) (hw : wp_X6_takePerson K σ t1) : ts_Mi l yX6_takePerson (Cond.code yX6_takePerson cX6_takePerson 3 (some .boolean)) 2 (tX_w v) [.ref (tX_ad v 1), .ref (tX_ad v t1)] σ K := by
  refine ts_Mi.of_z (w := tX_w v) hi (by decide +kernel) (Nat.le_of_ble_eq_true rfl) ?_
  intro g hgl hgn X hret
  unfold wp_X6_takePerson at hw
  show ts_G g (tX_w v) 3 σ 0 [(0, .ref (tX_ad v 1)), (1, .ref (tX_ad v t1))] []
  refine ts_aload_n X dX6_takePerson_0 1 rfl ?_
  refine gf_X6_23 X ht1 (q := tX_pl t1) rfl dX6_takePerson_1 ?_
  refine gf_X6_73 X (tX_Lp t1) dX6_takePerson_4 ?_
  refine ts_istore_n X dX6_takePerson_7 (by decide) (lv' := [(2, .int (σ (tX_pl t1) 1)), (0, .ref (tX_ad v 1)), (1, .ref (tX_ad v t1))]) rfl ?_
  refine ts_iload_n X dX6_takePerson_8 0 rfl ?_
  refine ts_bipush X dX6_takePerson_9 (v := 6) (by decide) ?_
  refine ts_icmp_ge 67 X dX6_takePerson_11 (by decide) (fun c => ?_) (fun c => ?_)
  · have hw := ts_itp hw c
    refine ts_iconst X dX6_takePerson_67 (v := 0) (by decide) ?_
    exact hret _ _ _ _ hw dX6_takePerson_68
  · have hw := ts_itn hw c
    refine ts_aload_n X dX6_takePerson_14 1 rfl ?_
    refine gf_X6_15 X dX6_takePerson_15 ?_
    refine ts_iconst X dX6_takePerson_18 (v := 0) (by decide) ?_
    refine xi_ald X tX_c3 hw.1 dX6_takePerson_19 ?_
    have hw := hw.2
    refine ts_iconst X dX6_takePerson_20 (v := 4) (by decide) ?_
    refine ts_icmp_ge 67 X dX6_takePerson_21 (by decide) (fun c => ?_) (fun c => ?_)
    · have hw := ts_itp hw c
      refine ts_iconst X dX6_takePerson_67 (v := 0) (by decide) ?_
      exact hret _ _ _ _ hw dX6_takePerson_68
    · have hw := ts_itn hw c
      refine ts_aload_n X dX6_takePerson_24 1 rfl ?_
      refine gf_X6_15 X dX6_takePerson_25 ?_
      refine ts_iconst X dX6_takePerson_28 (v := 1) (by decide) ?_
      refine xi_ald X tX_c3 hw.1 dX6_takePerson_29 ?_
      have hw := hw.2
      refine ts_aload_n X dX6_takePerson_30 2 rfl ?_
      refine gf_X6_23 X ht1 (q := tX_pl t1) rfl dX6_takePerson_31 ?_
      refine gf_X6_66 X (tX_Lp t1) dX6_takePerson_34 ?_
      refine ts_icmp_ge 67 X dX6_takePerson_37 (by decide) (fun c => ?_) (fun c => ?_)
      · have hw := ts_itp hw c
        refine ts_iconst X dX6_takePerson_67 (v := 0) (by decide) ?_
        exact hret _ _ _ _ hw dX6_takePerson_68
      · have hw := ts_itn hw c
        refine ts_aload_n X dX6_takePerson_40 1 rfl ?_
        refine gf_X6_15 X dX6_takePerson_41 ?_
        refine ts_iconst X dX6_takePerson_44 (v := 2) (by decide) ?_
        refine xi_ald X tX_c3 hw.1 dX6_takePerson_45 ?_
        have hw := hw.2
        refine ts_bipush X dX6_takePerson_46 (v := 12) (by decide) ?_
        refine ts_bipush X dX6_takePerson_48 (v := 60) (by decide) ?_
        refine ts_callNi X (As := [.int (σ 3 (2 : Int32).toNatClampNeg), .int 12, .int 60]) (ct_X9_within g.2.1 v hi _ _ _ _ _ hw) ok_X9_within cw_X6_69 (ts_le hgn (by decide)) (by decide) rfl rfl (Nat.le_of_ble_eq_true rfl) dX6_takePerson_50 (fun r10 s11 hw => ?_)
        refine ts_if_eq 67 X dX6_takePerson_53 (by decide) (fun c => ?_) (fun c => ?_)
        · have hw := ts_itp hw c
          refine ts_iconst X dX6_takePerson_67 (v := 0) (by decide) ?_
          exact hret _ _ _ _ hw dX6_takePerson_68
        · have hw := ts_itn hw c
          refine ts_aload_n X dX6_takePerson_56 1 rfl ?_
          refine gf_X6_15 X dX6_takePerson_57 ?_
          refine ts_iconst X dX6_takePerson_60 (v := 3) (by decide) ?_
          refine xi_ald X tX_c3 hw.1 dX6_takePerson_61 ?_
          have hw := hw.2
          refine ts_bipush X dX6_takePerson_62 (v := 30) (by decide) ?_
          refine ts_icmp_le 69 X dX6_takePerson_64 (by decide) (fun c => ?_) (fun c => ?_)
          · have hw := ts_itp hw c
            refine ts_aload_n X dX6_takePerson_69 2 rfl ?_
            refine gf_X6_23 X ht1 (q := tX_pl t1) rfl dX6_takePerson_70 ?_
            refine gf_X6_76 X (tX_Lp t1) (q := (tX_pl t1 + 1)) rfl dX6_takePerson_73 ?_
            refine ts_iload_n X dX6_takePerson_76 0 rfl ?_
            refine ts_aload_n X dX6_takePerson_77 1 rfl ?_
            refine gf_X6_15 X dX6_takePerson_78 ?_
            refine ts_iconst X dX6_takePerson_81 (v := 0) (by decide) ?_
            refine xi_ald X tX_c3 hw.1 dX6_takePerson_82 ?_
            have hw := hw.2
            refine xi_ast X (tX_b1 (tX_Lp t1) rfl) hw.1 dX6_takePerson_83 (fun s12 es12 => ?_)
            have hw := hw.2 s12 es12
            refine ts_aload_n X dX6_takePerson_84 2 rfl ?_
            refine gf_X6_79 X ht1 (q := (t1 + 1)) rfl dX6_takePerson_85 ?_
            refine ts_iload_n X dX6_takePerson_88 0 rfl ?_
            refine ts_aload_n X dX6_takePerson_89 1 rfl ?_
            refine gf_X6_15 X dX6_takePerson_90 ?_
            refine ts_iconst X dX6_takePerson_93 (v := 1) (by decide) ?_
            refine xi_ald X tX_c3 hw.1 dX6_takePerson_94 ?_
            have hw := hw.2
            refine xi_ast X (tX_a1 ht1 rfl) hw.1 dX6_takePerson_95 (fun s13 es13 => ?_)
            have hw := hw.2 s13 es13
            refine ts_aload_n X dX6_takePerson_96 2 rfl ?_
            refine gf_X6_82 X ht1 (q := (t1 + 2)) rfl dX6_takePerson_97 ?_
            refine ts_iload_n X dX6_takePerson_100 0 rfl ?_
            refine ts_aload_n X dX6_takePerson_101 1 rfl ?_
            refine gf_X6_15 X dX6_takePerson_102 ?_
            refine ts_iconst X dX6_takePerson_105 (v := 2) (by decide) ?_
            refine xi_ald X tX_c3 hw.1 dX6_takePerson_106 ?_
            have hw := hw.2
            refine xi_ast X (tX_a2 ht1 rfl) hw.1 dX6_takePerson_107 (fun s14 es14 => ?_)
            have hw := hw.2 s14 es14
            refine ts_aload_n X dX6_takePerson_108 2 rfl ?_
            refine gf_X6_85 X ht1 (q := (t1 + 3)) rfl dX6_takePerson_109 ?_
            refine ts_iload_n X dX6_takePerson_112 0 rfl ?_
            refine ts_aload_n X dX6_takePerson_113 1 rfl ?_
            refine gf_X6_15 X dX6_takePerson_114 ?_
            refine ts_iconst X dX6_takePerson_117 (v := 3) (by decide) ?_
            refine xi_ald X tX_c3 hw.1 dX6_takePerson_118 ?_
            have hw := hw.2
            refine xi_ast X (tX_a3 ht1 rfl) hw.1 dX6_takePerson_119 (fun s15 es15 => ?_)
            have hw := hw.2 s15 es15
            refine ts_aload_n X dX6_takePerson_120 2 rfl ?_
            refine gf_X6_88 X ht1 (q := (t1 + 4)) rfl dX6_takePerson_121 ?_
            refine ts_iload_n X dX6_takePerson_124 0 rfl ?_
            refine ts_iconst X dX6_takePerson_125 (v := 0) (by decide) ?_
            refine xz_ast X (tX_a4 ht1 rfl) hw.1 dX6_takePerson_126 (fun s16 es16 => ?_)
            have hw := hw.2 s16 es16
            refine ts_aload_n X dX6_takePerson_127 2 rfl ?_
            refine gf_X6_92 X ht1 (q := (t1 + 5)) rfl dX6_takePerson_128 ?_
            refine ts_iload_n X dX6_takePerson_131 0 rfl ?_
            refine ts_iconst X dX6_takePerson_132 (v := 0) (by decide) ?_
            refine xz_ast X (tX_a5 ht1 rfl) hw.1 dX6_takePerson_133 (fun s17 es17 => ?_)
            have hw := hw.2 s17 es17
            refine ts_aload_n X dX6_takePerson_134 2 rfl ?_
            refine gf_X6_23 X ht1 (q := tX_pl t1) rfl dX6_takePerson_135 ?_
            refine ts_dup X dX6_takePerson_138 rfl ?_
            refine gf_X6_73 X (tX_Lp t1) dX6_takePerson_139 ?_
            refine ts_iconst X dX6_takePerson_142 (v := 1) (by decide) ?_
            refine ts_iadd X dX6_takePerson_143 ?_
            refine pf_X6_73 X (tX_Lp t1) dX6_takePerson_144 (fun s18 es18 => ?_)
            have hw := hw s18 es18
            refine ts_iconst X dX6_takePerson_147 (v := 1) (by decide) ?_
            exact hret _ _ _ _ hw dX6_takePerson_148
          · have hw := ts_itn hw c
            refine ts_iconst X dX6_takePerson_67 (v := 0) (by decide) ?_
            exact hret _ _ _ _ hw dX6_takePerson_68
set_option maxRecDepth 100000 in
set_option maxHeartbeats 4000000 in
theorem ct_X6_readItem (l : Launch) (v : tX_V) (hi : ts_inj 151 (tX_ad v)) (K : Int32 → ts_S → Prop) (σ : ts_S) (t1 : Nat) (ht1 : tX_T t1) (hw : wp_X6_readItem K σ t1) : ts_Mi l yX6_readItem (Cond.code yX6_readItem cX6_readItem 4 (some .boolean)) 4 (tX_w v) [.ref (tX_ad v 1), .ref (tX_ad v t1)] σ K := by
  refine ts_Mi.of_z (w := tX_w v) hi (by decide +kernel) (Nat.le_of_ble_eq_true rfl) ?_
  intro g hgl hgn X hret
  have J12 : ∀ (σ : ts_S) (y0 : Int32), wp_X6_readItem_j12 K t1 σ y0 → ts_G g (tX_w v) 4 σ 12 [(0, .ref (tX_ad v 1)), (1, .ref (tX_ad v t1))] [.int y0] := by
    intro  σ y0 hw
    unfold wp_X6_readItem_j12 at hw
    refine ts_istore_n X dX6_readItem_12 (by decide) (lv' := [(2, .int y0), (0, .ref (tX_ad v 1)), (1, .ref (tX_ad v t1))]) rfl ?_
    refine ts_aload_n X dX6_readItem_13 1 rfl ?_
    refine gf_X6_9 X dX6_readItem_14 ?_
    refine ts_aload_n X dX6_readItem_17 1 rfl ?_
    refine gf_X6_37 X dX6_readItem_18 ?_
    refine xc_ald X tX_c2 hw.1 dX6_readItem_21 ?_
    have hw := hw.2
    refine ts_istore_n X dX6_readItem_22 (by decide) (lv' := [(3, .int (σ 2 (σ 1 2).toNatClampNeg)), (2, .int y0), (0, .ref (tX_ad v 1)), (1, .ref (tX_ad v t1))]) rfl ?_
    refine ts_aload_n X dX6_readItem_23 2 rfl ?_
    refine ts_dup X dX6_readItem_24 rfl ?_
    refine gf_X6_37 X dX6_readItem_25 ?_
    refine ts_iconst X dX6_readItem_28 (v := 1) (by decide) ?_
    refine ts_iadd X dX6_readItem_29 ?_
    refine pf_X6_37 X dX6_readItem_30 (fun s14 es14 => ?_)
    have hw := hw s14 es14
    refine ts_iload_n X dX6_readItem_33 0 rfl ?_
    by_cases c104 : (σ 2 (σ 1 2).toNatClampNeg) = 104
    · have hw := ts_itp hw c104
      refine ts_lookup (off := 34) 68 X dX6_readItem_34 (by decide) (by rw [c104]; first | done | rfl) (by decide) ?_
      refine ts_iload_n X dX6_readItem_68 1 rfl ?_
      refine ts_if_eq 95 X dX6_readItem_69 (by decide) (fun c => ?_) (fun c => ?_)
      · have hw := ts_itp hw c
        refine ts_iconst X dX6_readItem_95 (v := 0) (by decide) ?_
        exact hret _ _ _ _ hw dX6_readItem_96
      · have hw := ts_itn hw c
        refine ts_aload_n X dX6_readItem_72 2 rfl ?_
        refine ts_iconst X dX6_readItem_73 (v := 1) (by decide) ?_
        refine ts_callVi (w := tX_w v) X (k := 1) (by decide : 1 < 151) rfl rfl rfl (As := [.int 1]) (ct_X6_readNumbers g.2.1 v hi _ _ _ hw) ok_X6_readNumbers cw_X6_44 (ts_le hgn (by decide)) (by decide) rfl rfl (Nat.le_of_ble_eq_true rfl) dX6_readItem_74 (fun r15 s16 hw => ?_)
        refine ts_if_eq 95 X dX6_readItem_77 (by decide) (fun c => ?_) (fun c => ?_)
        · have hw := ts_itp hw c
          refine ts_iconst X dX6_readItem_95 (v := 0) (by decide) ?_
          exact hret _ _ _ _ hw dX6_readItem_96
        · have hw := ts_itn hw c
          refine ts_aload_n X dX6_readItem_80 2 rfl ?_
          refine ts_aload_n X dX6_readItem_81 3 rfl ?_
          refine gf_X6_23 X ht1 (q := tX_pl t1) rfl dX6_readItem_82 ?_
          refine ts_callVi (w := tX_w v) X (k := 1) (by decide : 1 < 151) rfl rfl rfl (As := [.ref (tX_ad v (tX_pl t1))]) (ct_X6_takeSteps g.2.1 v hi _ _ _ (tX_Lp t1) hw) ok_X6_takeSteps cw_X6_48 (ts_le hgn (by decide)) (by decide) rfl rfl (Nat.le_of_ble_eq_true rfl) dX6_readItem_85 (fun r17 s18 hw => ?_)
          refine ts_if_eq 95 X dX6_readItem_88 (by decide) (fun c => ?_) (fun c => ?_)
          · have hw := ts_itp hw c
            refine ts_iconst X dX6_readItem_95 (v := 0) (by decide) ?_
            exact hret _ _ _ _ hw dX6_readItem_96
          · have hw := ts_itn hw c
            refine ts_iconst X dX6_readItem_91 (v := 1) (by decide) ?_
            refine ts_goto 96 X dX6_readItem_92 (by decide) ?_
            exact hret _ _ _ _ hw dX6_readItem_96
    · have hw := ts_itn hw c104
      by_cases c112 : (σ 2 (σ 1 2).toNatClampNeg) = 112
      · have hw := ts_itp hw c112
        refine ts_lookup (off := 63) 97 X dX6_readItem_34 (by decide) (by rw [c112]; first | done | rfl) (by decide) ?_
        refine ts_aload_n X dX6_readItem_97 2 rfl ?_
        refine ts_iconst X dX6_readItem_98 (v := 4) (by decide) ?_
        refine ts_callVi (w := tX_w v) X (k := 1) (by decide : 1 < 151) rfl rfl rfl (As := [.int 4]) (ct_X6_readNumbers g.2.1 v hi _ _ _ hw) ok_X6_readNumbers cw_X6_44 (ts_le hgn (by decide)) (by decide) rfl rfl (Nat.le_of_ble_eq_true rfl) dX6_readItem_99 (fun r19 s20 hw => ?_)
        refine ts_if_eq 117 X dX6_readItem_102 (by decide) (fun c => ?_) (fun c => ?_)
        · have hw := ts_itp hw c
          refine ts_iconst X dX6_readItem_117 (v := 0) (by decide) ?_
          exact hret _ _ _ _ hw dX6_readItem_118
        · have hw := ts_itn hw c
          refine ts_aload_n X dX6_readItem_105 2 rfl ?_
          refine ts_aload_n X dX6_readItem_106 3 rfl ?_
          refine ts_callVi (w := tX_w v) X (k := 1) (by decide : 1 < 151) rfl rfl rfl (As := [.ref (tX_ad v t1)]) (ct_X6_takePerson g.2.1 v hi _ _ _ ht1 hw) ok_X6_takePerson cw_X6_52 (ts_le hgn (by decide)) (by decide) rfl rfl (Nat.le_of_ble_eq_true rfl) dX6_readItem_107 (fun r21 s22 hw => ?_)
          refine ts_if_eq 117 X dX6_readItem_110 (by decide) (fun c => ?_) (fun c => ?_)
          · have hw := ts_itp hw c
            refine ts_iconst X dX6_readItem_117 (v := 0) (by decide) ?_
            exact hret _ _ _ _ hw dX6_readItem_118
          · have hw := ts_itn hw c
            refine ts_iconst X dX6_readItem_113 (v := 1) (by decide) ?_
            refine ts_goto 118 X dX6_readItem_114 (by decide) ?_
            exact hret _ _ _ _ hw dX6_readItem_118
      · have hw := ts_itn hw c112
        by_cases c119 : (σ 2 (σ 1 2).toNatClampNeg) = 119
        · have hw := ts_itp hw c119
          refine ts_lookup (off := 85) 119 X dX6_readItem_34 (by decide) (by rw [c119]; first | done | rfl) (by decide) ?_
          refine ts_aload_n X dX6_readItem_119 2 rfl ?_
          refine ts_iconst X dX6_readItem_120 (v := 2) (by decide) ?_
          refine ts_callVi (w := tX_w v) X (k := 1) (by decide : 1 < 151) rfl rfl rfl (As := [.int 2]) (ct_X6_readNumbers g.2.1 v hi _ _ _ hw) ok_X6_readNumbers cw_X6_44 (ts_le hgn (by decide)) (by decide) rfl rfl (Nat.le_of_ble_eq_true rfl) dX6_readItem_121 (fun r23 s24 hw => ?_)
          refine ts_if_eq 142 X dX6_readItem_124 (by decide) (fun c => ?_) (fun c => ?_)
          · have hw := ts_itp hw c
            refine ts_iconst X dX6_readItem_142 (v := 0) (by decide) ?_
            exact hret _ _ _ _ hw dX6_readItem_143
          · have hw := ts_itn hw c
            refine ts_aload_n X dX6_readItem_127 2 rfl ?_
            refine ts_aload_n X dX6_readItem_128 3 rfl ?_
            refine gf_X6_23 X ht1 (q := tX_pl t1) rfl dX6_readItem_129 ?_
            refine ts_callVi (w := tX_w v) X (k := 1) (by decide : 1 < 151) rfl rfl rfl (As := [.ref (tX_ad v (tX_pl t1))]) (ct_X6_takeWork g.2.1 v hi _ _ _ (tX_Lp t1) hw) ok_X6_takeWork cw_X6_55 (ts_le hgn (by decide)) (by decide) rfl rfl (Nat.le_of_ble_eq_true rfl) dX6_readItem_132 (fun r25 s26 hw => ?_)
            refine ts_if_eq 142 X dX6_readItem_135 (by decide) (fun c => ?_) (fun c => ?_)
            · have hw := ts_itp hw c
              refine ts_iconst X dX6_readItem_142 (v := 0) (by decide) ?_
              exact hret _ _ _ _ hw dX6_readItem_143
            · have hw := ts_itn hw c
              refine ts_iconst X dX6_readItem_138 (v := 1) (by decide) ?_
              refine ts_goto 143 X dX6_readItem_139 (by decide) ?_
              exact hret _ _ _ _ hw dX6_readItem_143
        · have hw := ts_itn hw c119
          refine ts_lookup (off := 110) 144 X dX6_readItem_34 (by decide) (by show Op.lookupswitch.offset [(104, 34), (112, 63), (119, 85)] 110 _ = 110; rw [lv_osw c104 (by decide : (104 : Int32).toInt = 104), lv_osw c112 (by decide : (112 : Int32).toInt = 112), lv_osw c119 (by decide : (119 : Int32).toInt = 119)]; first | done | rfl) (by decide) ?_
          refine ts_iconst X dX6_readItem_144 (v := 0) (by decide) ?_
          exact hret _ _ _ _ hw dX6_readItem_145
  unfold wp_X6_readItem at hw
  show ts_G g (tX_w v) 4 σ 0 [(0, .ref (tX_ad v 1)), (1, .ref (tX_ad v t1))] []
  refine ts_aload_n X dX6_readItem_0 0 rfl ?_
  refine gf_X6_37 X dX6_readItem_1 ?_
  refine ts_if_ne 11 X dX6_readItem_4 (by decide) (fun c => ?_) (fun c => ?_)
  · have hw := ts_itn hw c
    refine ts_iconst X dX6_readItem_11 (v := 0) (by decide) ?_
    exact ts_sub [0, 1] rfl (J12  _ _ hw)
  · have hw := ts_itp hw c
    refine ts_iconst X dX6_readItem_7 (v := 1) (by decide) ?_
    refine ts_goto 12 X dX6_readItem_8 (by decide) ?_
    exact ts_sub [0, 1] rfl (J12  _ _ hw)
set_option maxRecDepth 100000 in
set_option maxHeartbeats 4000000 in
theorem ct_X6_readInto (l : Launch) (v : tX_V) (hi : ts_inj 151 (tX_ad v)) (K : Int32 → ts_S → Prop) (σ : ts_S) (t1 : Nat) (ht1 : tX_T t1) (hw : wp_X6_readInto K σ t1) : ts_Mi l yX6_readInto (Cond.code yX6_readInto cX6_readInto 4 (some .int)) 5 (tX_w v) [.ref (tX_ad v 1), .ref (tX_ad v t1)] σ K := by
  refine ts_Mi.of_i (w := tX_w v) hi (by decide +kernel) (Nat.le_of_ble_eq_true rfl) ?_
  intro g hgl hgn X hret
  have J19 : ∀ (σ : ts_S) (x2 : Int32), wp_X6_readInto_l19 K t1 σ x2 → ts_G g (tX_w v) 4 σ 19 [(0, .ref (tX_ad v 1)), (1, .ref (tX_ad v t1)), (2, .int x2)] [] := by
    intro  σ x2 hw
    have key : ∀ X19 : ts_S → Int32 → Prop, (∀ (σ : ts_S) (x2 : Int32), X19 σ x2 → ts_G g (tX_w v) 4 σ 19 [(0, .ref (tX_ad v 1)), (1, .ref (tX_ad v t1)), (2, .int x2)] []) → ∀ (σ : ts_S) (x2 : Int32), wp_X6_readInto_b19 K X19 t1  σ x2 → ts_G g (tX_w v) 4 σ 19 [(0, .ref (tX_ad v 1)), (1, .ref (tX_ad v t1)), (2, .int x2)] [] := by
      intro X19 hX19
      intro σ x2 hw
      unfold wp_X6_readInto_b19 at hw
      refine ts_iload_n X dX6_readInto_19 2 rfl ?_
      refine ts_sipush X dX6_readInto_20 (v := 200) (by decide) ?_
      refine ts_icmp_ge 58 X dX6_readInto_23 (by decide) (fun c => ?_) (fun c => ?_)
      · have hw := ts_itp hw c
        refine ts_bipush X dX6_readInto_58 (v := (-4)) (by decide) ?_
        exact hret _ _ _ _ hw dX6_readInto_60
      · have hw := ts_itn hw c
        refine ts_aload_n X dX6_readInto_26 0 rfl ?_
        refine gf_X6_37 X dX6_readInto_27 ?_
        refine ts_aload_n X dX6_readInto_30 0 rfl ?_
        refine gf_X6_19 X dX6_readInto_31 ?_
        refine ts_icmp_ge 58 X dX6_readInto_34 (by decide) (fun c => ?_) (fun c => ?_)
        · have hw := ts_itp hw c
          refine ts_bipush X dX6_readInto_58 (v := (-4)) (by decide) ?_
          exact hret _ _ _ _ hw dX6_readInto_60
        · have hw := ts_itn hw c
          refine ts_aload_n X dX6_readInto_37 0 rfl ?_
          refine gf_X6_37 X dX6_readInto_38 ?_
          refine ts_istore_n X dX6_readInto_41 (by decide) (lv' := [(3, .int (σ 1 2)), (0, .ref (tX_ad v 1)), (1, .ref (tX_ad v t1)), (2, .int x2)]) rfl ?_
          refine ts_aload_n X dX6_readInto_42 1 rfl ?_
          refine ts_aload_n X dX6_readInto_43 2 rfl ?_
          refine ts_callVi (w := tX_w v) X (k := 1) (by decide : 1 < 151) rfl rfl rfl (As := [.ref (tX_ad v t1)]) (ct_X6_readItem g.2.1 v hi _ _ _ ht1 hw) ok_X6_readItem cw_X6_40 (ts_le hgn (by decide)) (by decide) rfl rfl (Nat.le_of_ble_eq_true rfl) dX6_readInto_44 (fun r7 s8 hw => ?_)
          refine ts_if_ne 52 X dX6_readInto_47 (by decide) (fun c => ?_) (fun c => ?_)
          · have hw := ts_itn hw c
            refine ts_iinc X dX6_readInto_52 3 rfl (v := x2 + 1) rfl (by decide) (lv' := [(2, .int (x2 + 1)), (3, .int (σ 1 2)), (0, .ref (tX_ad v 1)), (1, .ref (tX_ad v t1))]) rfl ?_
            refine ts_goto 19 X dX6_readInto_55 (by decide) ?_
            exact ts_sub [2, 3, 0] rfl (hX19 _ _ hw)
          · have hw := ts_itp hw c
            refine ts_iload_n X dX6_readInto_50 0 rfl ?_
            exact hret _ _ _ _ hw dX6_readInto_51
    exact hw _ (fun σ x2 h => key _ (fun _ _ h => h) σ x2 h)
  unfold wp_X6_readInto at hw
  show ts_G g (tX_w v) 4 σ 0 [(0, .ref (tX_ad v 1)), (1, .ref (tX_ad v t1))] []
  refine ts_aload_n X dX6_readInto_0 1 rfl ?_
  refine gf_X6_23 X ht1 (q := tX_pl t1) rfl dX6_readInto_1 ?_
  refine ts_callVv (w := tX_w v) X (k := tX_pl t1) ((tX_Lp t1)).lt (tX_eL (tX_Lp t1) _) rfl rfl (As := []) (ct_X2_clear g.2.1 v hi _ _ _ (tX_Lp t1) hw) ok_X2_clear cw_X6_29 (ts_le hgn (by decide)) (by decide) rfl rfl (Nat.le_of_ble_eq_true rfl) dX6_readInto_4 (fun s10 hw => ?_)
  refine ts_aload_n X dX6_readInto_7 1 rfl ?_
  refine ts_iconst X dX6_readInto_8 (v := 0) (by decide) ?_
  refine pf_X6_34 X ht1 dX6_readInto_9 (fun s11 es11 => ?_)
  have hw := hw s11 es11
  refine ts_aload_n X dX6_readInto_12 0 rfl ?_
  refine ts_iconst X dX6_readInto_13 (v := 0) (by decide) ?_
  refine pf_X6_37 X dX6_readInto_14 (fun s12 es12 => ?_)
  have hw := hw s12 es12
  refine ts_iconst X dX6_readInto_17 (v := 0) (by decide) ?_
  refine ts_istore_n X dX6_readInto_18 (by decide) (lv' := [(2, .int 0), (0, .ref (tX_ad v 1)), (1, .ref (tX_ad v t1))]) rfl ?_
  exact ts_sub [1, 2, 0] rfl (J19  _ _ hw)
set_option maxRecDepth 100000 in
set_option maxHeartbeats 4000000 in
theorem ct_X6_clear (l : Launch) (v : tX_V) (hi : ts_inj 151 (tX_ad v)) (K : ts_S → Prop) (σ : ts_S)   (hw : wp_X6_clear K σ ) : ts_Mv l yX6_clear (Cond.code yX6_clear cX6_clear 1 (none)) 1 (tX_w v) [.ref (tX_ad v 1)] σ K := by
  refine ts_Mv.of_v (w := tX_w v) hi (by decide +kernel) (Nat.le_of_ble_eq_true rfl) ?_
  intro g hgl hgn X hret
  unfold wp_X6_clear at hw
  show ts_G g (tX_w v) 1 σ 0 [(0, .ref (tX_ad v 1))] []
  refine ts_aload_n X dX6_clear_0 0 rfl ?_
  refine ts_iconst X dX6_clear_1 (v := 0) (by decide) ?_
  refine pf_X6_19 X dX6_clear_2 (fun s2 es2 => ?_)
  have hw := hw s2 es2
  exact hret _ _ _ hw dX6_clear_5
