set_option maxRecDepth 100000 in
set_option maxHeartbeats 4000000 in
theorem ct_X3_isEasier (l : Launch) (v : tX_V) (hi : ts_inj 151 (tX_ad v)) (K : Int32 → ts_S → Prop) (σ : ts_S) (a1 : Int32) (a2 : Int32)  (hw : wp_X3_isEasier K σ a1 a2) : ts_Mi l yX3_isEasier (Cond.code yX3_isEasier cX3_isEasier 4 (some .boolean)) 1 (tX_w v) [.ref (tX_ad v 11), .int a1, .int a2] σ K := by
  refine ts_Mi.of_z (w := tX_w v) hi (by decide +kernel) (Nat.le_of_ble_eq_true rfl) ?_
  intro g hgl hgn X hret
  unfold wp_X3_isEasier at hw
  show ts_G g (tX_w v) 4 σ 0 [(0, .ref (tX_ad v 11)), (1, .int a1), (2, .int a2)] []
  refine ts_aload_n X dX3_isEasier_0 0 rfl ?_
  refine gf_X3_24 X dX3_isEasier_1 ?_
  refine gf_X3_38 X (tX_Tc 3 (by decide) rfl) (q := 23) rfl dX3_isEasier_4 ?_
  refine gf_X3_102 X (tX_Lp 49) (q := 26) rfl dX3_isEasier_7 ?_
  refine ts_iload_n X dX3_isEasier_10 2 rfl ?_
  refine xi_ald X (tX_b3 (tX_Lp 49) rfl) hw.1 dX3_isEasier_11 ?_
  have hw := hw.2
  refine ts_aload_n X dX3_isEasier_12 0 rfl ?_
  refine gf_X3_24 X dX3_isEasier_13 ?_
  refine gf_X3_38 X (tX_Tc 3 (by decide) rfl) (q := 23) rfl dX3_isEasier_16 ?_
  refine gf_X3_102 X (tX_Lp 49) (q := 26) rfl dX3_isEasier_19 ?_
  refine ts_iload_n X dX3_isEasier_22 1 rfl ?_
  refine xi_ald X (tX_b3 (tX_Lp 49) rfl) hw.1 dX3_isEasier_23 ?_
  have hw := hw.2
  refine ts_isub X dX3_isEasier_24 ?_
  refine ts_istore_n X dX3_isEasier_25 (by decide) (lv' := [(3, .int ((σ 26 a2.toNatClampNeg) - (σ 26 a1.toNatClampNeg))), (0, .ref (tX_ad v 11)), (1, .int a1), (2, .int a2)]) rfl ?_
  refine ts_iload_n X dX3_isEasier_26 0 rfl ?_
  refine ts_if_gt 39 X dX3_isEasier_27 (by decide) (fun c => ?_) (fun c => ?_)
  · have hw := ts_itp hw c
    refine ts_iconst X dX3_isEasier_39 (v := 1) (by decide) ?_
    refine ts_goto 44 X dX3_isEasier_40 (by decide) ?_
    exact hret _ _ _ _ hw dX3_isEasier_44
  · have hw := ts_itn hw c
    refine ts_iload_n X dX3_isEasier_30 0 rfl ?_
    refine ts_if_ne 43 X dX3_isEasier_31 (by decide) (fun c => ?_) (fun c => ?_)
    · have hw := ts_itn hw c
      refine ts_iconst X dX3_isEasier_43 (v := 0) (by decide) ?_
      exact hret _ _ _ _ hw dX3_isEasier_44
    · have hw := ts_itp hw c
      refine ts_iload_n X dX3_isEasier_34 2 rfl ?_
      refine ts_iload_n X dX3_isEasier_35 3 rfl ?_
      refine ts_icmp_ge 43 X dX3_isEasier_36 (by decide) (fun c => ?_) (fun c => ?_)
      · have hw := ts_itp hw c
        refine ts_iconst X dX3_isEasier_43 (v := 0) (by decide) ?_
        exact hret _ _ _ _ hw dX3_isEasier_44
      · have hw := ts_itn hw c
        refine ts_iconst X dX3_isEasier_39 (v := 1) (by decide) ?_
        refine ts_goto 44 X dX3_isEasier_40 (by decide) ?_
        exact hret _ _ _ _ hw dX3_isEasier_44
set_option maxRecDepth 100000 in
set_option maxHeartbeats 4000000 in
theorem ct_X3_needOfNextEasier (l : Launch) (v : tX_V) (hi : ts_inj 151 (tX_ad v)) (K : Int32 → ts_S → Prop) (σ : ts_S) (a1 : Int32)  (hw : wp_X3_needOfNextEasier K σ a1) : ts_Mi l yX3_needOfNextEasier (Cond.code yX3_needOfNextEasier cX3_needOfNextEasier 4 (some .int)) 2 (tX_w v) [.ref (tX_ad v 11), .int a1] σ K := by
  refine ts_Mi.of_i (w := tX_w v) hi (by decide +kernel) (Nat.le_of_ble_eq_true rfl) ?_
  intro g hgl hgn X hret
  have J4 : ∀ (σ : ts_S) (x2 : Int32) (x3 : Int32), wp_X3_needOfNextEasier_l4 K a1 σ x2 x3 → ts_G g (tX_w v) 4 σ 4 [(0, .ref (tX_ad v 11)), (1, .int a1), (2, .int x2), (3, .int x3)] [] := by
    intro  σ x2 x3 hw
    have key : ∀ X4 : ts_S → Int32 → Int32 → Prop, (∀ (σ : ts_S) (x2 : Int32) (x3 : Int32), X4 σ x2 x3 → ts_G g (tX_w v) 4 σ 4 [(0, .ref (tX_ad v 11)), (1, .int a1), (2, .int x2), (3, .int x3)] []) → ∀ (σ : ts_S) (x2 : Int32) (x3 : Int32), wp_X3_needOfNextEasier_b4 K X4 a1  σ x2 x3 → ts_G g (tX_w v) 4 σ 4 [(0, .ref (tX_ad v 11)), (1, .int a1), (2, .int x2), (3, .int x3)] [] := by
      intro X4 hX4
      intro σ x2 x3 hw
      unfold wp_X3_needOfNextEasier_b4 at hw
      refine ts_iload_n X dX3_needOfNextEasier_4 3 rfl ?_
      refine ts_aload_n X dX3_needOfNextEasier_5 0 rfl ?_
      refine gf_X3_24 X dX3_needOfNextEasier_6 ?_
      refine gf_X3_38 X (tX_Tc 3 (by decide) rfl) (q := 23) rfl dX3_needOfNextEasier_9 ?_
      refine gf_X3_54 X (tX_Lp 49) dX3_needOfNextEasier_12 ?_
      refine ts_icmp_ge 77 X dX3_needOfNextEasier_15 (by decide) (fun c => ?_) (fun c => ?_)
      · have hw := ts_itp hw c
        refine ts_iload_n X dX3_needOfNextEasier_77 2 rfl ?_
        exact hret _ _ _ _ hw dX3_needOfNextEasier_78
      · have hw := ts_itn hw c
        refine ts_aload_n X dX3_needOfNextEasier_18 0 rfl ?_
        refine gf_X3_24 X dX3_needOfNextEasier_19 ?_
        refine gf_X3_38 X (tX_Tc 3 (by decide) rfl) (q := 23) rfl dX3_needOfNextEasier_22 ?_
        refine gf_X3_75 X (tX_Lp 49) (q := 25) rfl dX3_needOfNextEasier_25 ?_
        refine ts_iload_n X dX3_needOfNextEasier_28 3 rfl ?_
        refine xi_ald X (tX_b2 (tX_Lp 49) rfl) hw.1 dX3_needOfNextEasier_29 ?_
        have hw := hw.2
        refine ts_aload_n X dX3_needOfNextEasier_30 0 rfl ?_
        refine gf_X3_24 X dX3_needOfNextEasier_31 ?_
        refine gf_X3_38 X (tX_Tc 3 (by decide) rfl) (q := 23) rfl dX3_needOfNextEasier_34 ?_
        refine gf_X3_75 X (tX_Lp 49) (q := 25) rfl dX3_needOfNextEasier_37 ?_
        refine ts_iload_n X dX3_needOfNextEasier_40 1 rfl ?_
        refine xi_ald X (tX_b2 (tX_Lp 49) rfl) hw.1 dX3_needOfNextEasier_41 ?_
        have hw := hw.2
        refine ts_icmp_ne 71 X dX3_needOfNextEasier_42 (by decide) (fun c => ?_) (fun c => ?_)
        · have hw := ts_itn hw c
          refine ts_iinc X dX3_needOfNextEasier_71 3 rfl (v := x3 + 1) rfl (by decide) (lv' := [(3, .int (x3 + 1)), (0, .ref (tX_ad v 11)), (1, .int a1), (2, .int x2)]) rfl ?_
          refine ts_goto 4 X dX3_needOfNextEasier_74 (by decide) ?_
          exact ts_sub [1, 2, 3, 0] rfl (hX4 _ _ _ hw)
        · have hw := ts_itp hw c
          refine ts_aload_n X dX3_needOfNextEasier_45 0 rfl ?_
          refine ts_iload_n X dX3_needOfNextEasier_46 3 rfl ?_
          refine ts_iload_n X dX3_needOfNextEasier_47 1 rfl ?_
          refine ts_callVi (w := tX_w v) X (k := 11) (by decide : 11 < 151) rfl rfl rfl (As := [.int x3, .int a1]) (ct_X3_isEasier g.2.1 v hi _ _ _ _ hw) ok_X3_isEasier cw_X3_98 (ts_le hgn (by decide)) (by decide) rfl rfl (Nat.le_of_ble_eq_true rfl) dX3_needOfNextEasier_48 (fun r3 s4 hw => ?_)
          refine ts_if_eq 71 X dX3_needOfNextEasier_51 (by decide) (fun c => ?_) (fun c => ?_)
          · have hw := ts_itp hw c
            refine ts_iinc X dX3_needOfNextEasier_71 3 rfl (v := x3 + 1) rfl (by decide) (lv' := [(3, .int (x3 + 1)), (0, .ref (tX_ad v 11)), (1, .int a1), (2, .int x2)]) rfl ?_
            refine ts_goto 4 X dX3_needOfNextEasier_74 (by decide) ?_
            exact ts_sub [1, 2, 3, 0] rfl (hX4 _ _ _ hw)
          · have hw := ts_itn hw c
            refine ts_iload_n X dX3_needOfNextEasier_54 2 rfl ?_
            refine ts_aload_n X dX3_needOfNextEasier_55 0 rfl ?_
            refine gf_X3_24 X dX3_needOfNextEasier_56 ?_
            refine gf_X3_38 X (tX_Tc 3 (by decide) rfl) (q := 23) rfl dX3_needOfNextEasier_59 ?_
            refine gf_X3_102 X (tX_Lp 49) (q := 26) rfl dX3_needOfNextEasier_62 ?_
            refine ts_iload_n X dX3_needOfNextEasier_65 3 rfl ?_
            refine xi_ald X (tX_b3 (tX_Lp 49) rfl) hw.1 dX3_needOfNextEasier_66 ?_
            have hw := hw.2
            refine ts_mmax X kw_675 kw_223 kw_64 kw_224 (ts_le hgn (by decide)) (Nat.le_of_ble_eq_true rfl) dX3_needOfNextEasier_67 ?_
            refine ts_istore_n X dX3_needOfNextEasier_70 (by decide) (lv' := [(2, .int (if x2 < (s4 26 x3.toNatClampNeg) then s4 26 x3.toNatClampNeg else x2)), (0, .ref (tX_ad v 11)), (1, .int a1), (3, .int x3)]) rfl ?_
            refine ts_iinc X dX3_needOfNextEasier_71 3 rfl (v := x3 + 1) rfl (by decide) (lv' := [(3, .int (x3 + 1)), (2, .int (if x2 < (s4 26 x3.toNatClampNeg) then s4 26 x3.toNatClampNeg else x2)), (0, .ref (tX_ad v 11)), (1, .int a1)]) rfl ?_
            refine ts_goto 4 X dX3_needOfNextEasier_74 (by decide) ?_
            exact ts_sub [2, 3, 1, 0] rfl (hX4 _ _ _ hw)
    exact hw _ (fun σ x2 x3 h => key _ (fun _ _ _ h => h) σ x2 x3 h)
  unfold wp_X3_needOfNextEasier at hw
  show ts_G g (tX_w v) 4 σ 0 [(0, .ref (tX_ad v 11)), (1, .int a1)] []
  refine ts_iconst X dX3_needOfNextEasier_0 (v := 0) (by decide) ?_
  refine ts_istore_n X dX3_needOfNextEasier_1 (by decide) (lv' := [(2, .int 0), (0, .ref (tX_ad v 11)), (1, .int a1)]) rfl ?_
  refine ts_iconst X dX3_needOfNextEasier_2 (v := 0) (by decide) ?_
  refine ts_istore_n X dX3_needOfNextEasier_3 (by decide) (lv' := [(3, .int 0), (2, .int 0), (0, .ref (tX_ad v 11)), (1, .int a1)]) rfl ?_
  exact ts_sub [2, 3, 1, 0] rfl (J4  _ _ _ hw)
set_option maxRecDepth 100000 in
set_option maxHeartbeats 4000000 in
theorem ct_X3_isFrozenAmong (l : Launch) (v : tX_V) (hi : ts_inj 151 (tX_ad v)) (K : Int32 → ts_S → Prop) (σ : ts_S) (a1 : Int32) (a2 : Int32) (a3 : Int32)  (hw : wp_X3_isFrozenAmong K σ a1 a2 a3) : ts_Mi l yX3_isFrozenAmong (Cond.code yX3_isFrozenAmong cX3_isFrozenAmong 4 (some .boolean)) 2 (tX_w v) [.ref (tX_ad v 11), .int a1, .int a2, .int a3] σ K := by
  refine ts_Mi.of_z (w := tX_w v) hi (by decide +kernel) (Nat.le_of_ble_eq_true rfl) ?_
  intro g hgl hgn X hret
  unfold wp_X3_isFrozenAmong at hw
  show ts_G g (tX_w v) 4 σ 0 [(0, .ref (tX_ad v 11)), (1, .int a1), (2, .int a2), (3, .int a3)] []
  refine ts_aload_n X dX3_isFrozenAmong_0 0 rfl ?_
  refine gf_X3_24 X dX3_isFrozenAmong_1 ?_
  refine ts_iload_n X dX3_isFrozenAmong_4 3 rfl ?_
  refine ts_aload_n X dX3_isFrozenAmong_5 0 rfl ?_
  refine gf_X3_24 X dX3_isFrozenAmong_6 ?_
  refine gf_X3_38 X (tX_Tc 3 (by decide) rfl) (q := 23) rfl dX3_isFrozenAmong_9 ?_
  refine gf_X3_85 X (tX_Lp 49) (q := 24) rfl dX3_isFrozenAmong_12 ?_
  refine ts_iload_n X dX3_isFrozenAmong_15 1 rfl ?_
  refine xi_ald X (tX_b1 (tX_Lp 49) rfl) hw.1 dX3_isFrozenAmong_16 ?_
  have hw := hw.2
  refine ts_aload_n X dX3_isFrozenAmong_17 0 rfl ?_
  refine gf_X3_24 X dX3_isFrozenAmong_18 ?_
  refine gf_X3_88 X (tX_Tc 3 (by decide) rfl) (q := 51) rfl dX3_isFrozenAmong_21 ?_
  refine ts_iload_n X dX3_isFrozenAmong_24 1 rfl ?_
  refine xi_ald X (tX_a2 (tX_Tc 3 (by decide) rfl) rfl) hw.1 dX3_isFrozenAmong_25 ?_
  have hw := hw.2
  refine ts_iload_n X dX3_isFrozenAmong_26 2 rfl ?_
  refine ts_callVi (w := tX_w v) X (k := 49) ((tX_Tc 3 (by decide) rfl)).lt (tX_eT (tX_Tc 3 (by decide) rfl) _) rfl rfl (As := [.int a3, .int (σ 24 a1.toNatClampNeg), .int (σ 51 a1.toNatClampNeg), .int a2]) (ct_X8_fearAmong g.2.1 v hi _ _ _ _ _ _ _ (tX_Tc 3 (by decide) rfl) hw) ok_X8_fearAmong cw_X3_91 (ts_le hgn (by decide)) (by decide) rfl rfl (Nat.le_of_ble_eq_true rfl) dX3_isFrozenAmong_27 (fun r3 s4 hw => ?_)
  refine ts_aload_n X dX3_isFrozenAmong_30 0 rfl ?_
  refine gf_X3_24 X dX3_isFrozenAmong_31 ?_
  refine gf_X3_95 X (tX_Tc 3 (by decide) rfl) (q := 52) rfl dX3_isFrozenAmong_34 ?_
  refine ts_iload_n X dX3_isFrozenAmong_37 1 rfl ?_
  refine xi_ald X (tX_a3 (tX_Tc 3 (by decide) rfl) rfl) hw.1 dX3_isFrozenAmong_38 ?_
  have hw := hw.2
  refine ts_icmp_le 46 X dX3_isFrozenAmong_39 (by decide) (fun c => ?_) (fun c => ?_)
  · have hw := ts_itp hw c
    refine ts_iconst X dX3_isFrozenAmong_46 (v := 0) (by decide) ?_
    exact hret _ _ _ _ hw dX3_isFrozenAmong_47
  · have hw := ts_itn hw c
    refine ts_iconst X dX3_isFrozenAmong_42 (v := 1) (by decide) ?_
    refine ts_goto 47 X dX3_isFrozenAmong_43 (by decide) ?_
    exact hret _ _ _ _ hw dX3_isFrozenAmong_47
set_option maxRecDepth 100000 in
set_option maxHeartbeats 4000000 in
theorem ct_X3_placesOf (l : Launch) (v : tX_V) (hi : ts_inj 151 (tX_ad v)) (K : Int32 → ts_S → Prop) (σ : ts_S) (a1 : Int32)  (hw : wp_X3_placesOf K σ a1) : ts_Mi l yX3_placesOf (Cond.code yX3_placesOf cX3_placesOf 4 (some .int)) 3 (tX_w v) [.ref (tX_ad v 11), .int a1] σ K := by
  refine ts_Mi.of_i (w := tX_w v) hi (by decide +kernel) (Nat.le_of_ble_eq_true rfl) ?_
  intro g hgl hgn X hret
  have J53 : ∀ (σ : ts_S) (x2 : Int32) (x3 : Int32), wp_X3_placesOf_l53 K a1 σ x2 x3 → ts_G g (tX_w v) 4 σ 53 [(0, .ref (tX_ad v 11)), (1, .int a1), (2, .int x2), (3, .int x3)] [] := by
    intro  σ x2 x3 hw
    have key : ∀ X53 : ts_S → Int32 → Int32 → Prop, (∀ (σ : ts_S) (x2 : Int32) (x3 : Int32), X53 σ x2 x3 → ts_G g (tX_w v) 4 σ 53 [(0, .ref (tX_ad v 11)), (1, .int a1), (2, .int x2), (3, .int x3)] []) → ∀ (σ : ts_S) (x2 : Int32) (x3 : Int32), wp_X3_placesOf_b53 K X53 a1  σ x2 x3 → ts_G g (tX_w v) 4 σ 53 [(0, .ref (tX_ad v 11)), (1, .int a1), (2, .int x2), (3, .int x3)] [] := by
      intro X53 hX53
      intro σ x2 x3 hw
      unfold wp_X3_placesOf_b53 at hw
      refine ts_iload_n X dX3_placesOf_53 3 rfl ?_
      refine ts_aload_n X dX3_placesOf_54 0 rfl ?_
      refine gf_X3_24 X dX3_placesOf_55 ?_
      refine gf_X3_38 X (tX_Tc 3 (by decide) rfl) (q := 23) rfl dX3_placesOf_58 ?_
      refine gf_X3_78 X (tX_Lp 49) dX3_placesOf_61 ?_
      refine ts_icmp_ge 96 X dX3_placesOf_64 (by decide) (fun c => ?_) (fun c => ?_)
      · have hw := ts_itp hw c
        refine ts_iload_n X dX3_placesOf_96 2 rfl ?_
        exact hret _ _ _ _ hw dX3_placesOf_97
      · have hw := ts_itn hw c
        refine ts_aload_n X dX3_placesOf_67 0 rfl ?_
        refine ts_iload_n X dX3_placesOf_68 1 rfl ?_
        refine ts_iload_n X dX3_placesOf_69 3 rfl ?_
        refine ts_aload_n X dX3_placesOf_70 0 rfl ?_
        refine gf_X3_51 X dX3_placesOf_71 ?_
        refine ts_iconst X dX3_placesOf_74 (v := 1) (by decide) ?_
        refine ts_isub X dX3_placesOf_75 ?_
        refine ts_callVi (w := tX_w v) X (k := 11) (by decide : 11 < 151) rfl rfl rfl (As := [.int a1, .int x3, .int ((σ 11 4) - 1)]) (ct_X3_isFrozenAmong g.2.1 v hi _ _ _ _ _ hw) ok_X3_isFrozenAmong cw_X3_81 (ts_le hgn (by decide)) (by decide) rfl rfl (Nat.le_of_ble_eq_true rfl) dX3_placesOf_76 (fun r3 s4 hw => ?_)
        refine ts_if_eq 90 X dX3_placesOf_79 (by decide) (fun c => ?_) (fun c => ?_)
        · have hw := ts_itp hw c
          refine ts_iinc X dX3_placesOf_90 3 rfl (v := x3 + 1) rfl (by decide) (lv' := [(3, .int (x3 + 1)), (0, .ref (tX_ad v 11)), (1, .int a1), (2, .int x2)]) rfl ?_
          refine ts_goto 53 X dX3_placesOf_93 (by decide) ?_
          exact ts_sub [1, 2, 3, 0] rfl (hX53 _ _ _ hw)
        · have hw := ts_itn hw c
          refine ts_iload_n X dX3_placesOf_82 2 rfl ?_
          refine ts_iconst X dX3_placesOf_83 (v := 1) (by decide) ?_
          refine ts_iload_n X dX3_placesOf_84 3 rfl ?_
          refine ts_ishl X dX3_placesOf_85 ?_
          refine ts_iconst X dX3_placesOf_86 (v := (-1)) (by decide) ?_
          refine ts_ixor X dX3_placesOf_87 ?_
          refine ts_iand X dX3_placesOf_88 ?_
          refine ts_istore_n X dX3_placesOf_89 (by decide) (lv' := [(2, .int (x2 &&& ((1 <<< (x3 &&& 31)) ^^^ (-1)))), (0, .ref (tX_ad v 11)), (1, .int a1), (3, .int x3)]) rfl ?_
          refine ts_iinc X dX3_placesOf_90 3 rfl (v := x3 + 1) rfl (by decide) (lv' := [(3, .int (x3 + 1)), (2, .int (x2 &&& ((1 <<< (x3 &&& 31)) ^^^ (-1)))), (0, .ref (tX_ad v 11)), (1, .int a1)]) rfl ?_
          refine ts_goto 53 X dX3_placesOf_93 (by decide) ?_
          exact ts_sub [2, 3, 1, 0] rfl (hX53 _ _ _ hw)
    exact hw _ (fun σ x2 x3 h => key _ (fun _ _ _ h => h) σ x2 x3 h)
  have J14 : ∀ (σ : ts_S) (x2 : Int32) (x3 : Int32), wp_X3_placesOf_l14 K a1 σ x2 x3 → ts_G g (tX_w v) 4 σ 14 [(0, .ref (tX_ad v 11)), (1, .int a1), (2, .int x2), (3, .int x3)] [] := by
    intro  σ x2 x3 hw
    have key : ∀ X14 : ts_S → Int32 → Int32 → Prop, (∀ (σ : ts_S) (x2 : Int32) (x3 : Int32), X14 σ x2 x3 → ts_G g (tX_w v) 4 σ 14 [(0, .ref (tX_ad v 11)), (1, .int a1), (2, .int x2), (3, .int x3)] []) → ∀ (σ : ts_S) (x2 : Int32) (x3 : Int32), wp_X3_placesOf_b14 K X14 a1  σ x2 x3 → ts_G g (tX_w v) 4 σ 14 [(0, .ref (tX_ad v 11)), (1, .int a1), (2, .int x2), (3, .int x3)] [] := by
      intro X14 hX14
      intro σ x2 x3 hw
      unfold wp_X3_placesOf_b14 at hw
      refine ts_iload_n X dX3_placesOf_14 3 rfl ?_
      refine ts_aload_n X dX3_placesOf_15 0 rfl ?_
      refine gf_X3_24 X dX3_placesOf_16 ?_
      refine gf_X3_38 X (tX_Tc 3 (by decide) rfl) (q := 23) rfl dX3_placesOf_19 ?_
      refine gf_X3_54 X (tX_Lp 49) dX3_placesOf_22 ?_
      refine ts_icmp_ge 51 X dX3_placesOf_25 (by decide) (fun c => ?_) (fun c => ?_)
      · have hw := ts_itp hw c
        refine ts_iconst X dX3_placesOf_51 (v := 0) (by decide) ?_
        refine ts_istore_n X dX3_placesOf_52 (by decide) (lv' := [(3, .int 0), (0, .ref (tX_ad v 11)), (1, .int a1), (2, .int x2)]) rfl ?_
        exact ts_sub [1, 2, 3, 0] rfl (J53  _ _ _ hw)
      · have hw := ts_itn hw c
        refine ts_iload_n X dX3_placesOf_28 2 rfl ?_
        refine ts_iconst X dX3_placesOf_29 (v := 1) (by decide) ?_
        refine ts_aload_n X dX3_placesOf_30 0 rfl ?_
        refine gf_X3_24 X dX3_placesOf_31 ?_
        refine gf_X3_38 X (tX_Tc 3 (by decide) rfl) (q := 23) rfl dX3_placesOf_34 ?_
        refine gf_X3_75 X (tX_Lp 49) (q := 25) rfl dX3_placesOf_37 ?_
        refine ts_iload_n X dX3_placesOf_40 3 rfl ?_
        refine xi_ald X (tX_b2 (tX_Lp 49) rfl) hw.1 dX3_placesOf_41 ?_
        have hw := hw.2
        refine ts_ishl X dX3_placesOf_42 ?_
        refine ts_ior X dX3_placesOf_43 ?_
        refine ts_istore_n X dX3_placesOf_44 (by decide) (lv' := [(2, .int (x2 ||| (1 <<< ((σ 25 x3.toNatClampNeg) &&& 31)))), (0, .ref (tX_ad v 11)), (1, .int a1), (3, .int x3)]) rfl ?_
        refine ts_iinc X dX3_placesOf_45 3 rfl (v := x3 + 1) rfl (by decide) (lv' := [(3, .int (x3 + 1)), (2, .int (x2 ||| (1 <<< ((σ 25 x3.toNatClampNeg) &&& 31)))), (0, .ref (tX_ad v 11)), (1, .int a1)]) rfl ?_
        refine ts_goto 14 X dX3_placesOf_48 (by decide) ?_
        exact ts_sub [2, 3, 1, 0] rfl (hX14 _ _ _ hw)
    exact hw _ (fun σ x2 x3 h => key _ (fun _ _ _ h => h) σ x2 x3 h)
  unfold wp_X3_placesOf at hw
  show ts_G g (tX_w v) 4 σ 0 [(0, .ref (tX_ad v 11)), (1, .int a1)] []
  refine ts_iconst X dX3_placesOf_0 (v := 1) (by decide) ?_
  refine ts_aload_n X dX3_placesOf_1 0 rfl ?_
  refine gf_X3_24 X dX3_placesOf_2 ?_
  refine gf_X3_72 X (tX_Tc 3 (by decide) rfl) (q := 50) rfl dX3_placesOf_5 ?_
  refine ts_iload_n X dX3_placesOf_8 1 rfl ?_
  refine xi_ald X (tX_a1 (tX_Tc 3 (by decide) rfl) rfl) hw.1 dX3_placesOf_9 ?_
  have hw := hw.2
  refine ts_ishl X dX3_placesOf_10 ?_
  refine ts_istore_n X dX3_placesOf_11 (by decide) (lv' := [(2, .int (1 <<< ((σ 50 a1.toNatClampNeg) &&& 31))), (0, .ref (tX_ad v 11)), (1, .int a1)]) rfl ?_
  refine ts_iconst X dX3_placesOf_12 (v := 0) (by decide) ?_
  refine ts_istore_n X dX3_placesOf_13 (by decide) (lv' := [(3, .int 0), (2, .int (1 <<< ((σ 50 a1.toNatClampNeg) &&& 31))), (0, .ref (tX_ad v 11)), (1, .int a1)]) rfl ?_
  exact ts_sub [2, 3, 1, 0] rfl (J14  _ _ _ hw)
set_option maxRecDepth 100000 in
set_option maxHeartbeats 4000000 in
theorem ct_X3_priceOf (l : Launch) (v : tX_V) (hi : ts_inj 151 (tX_ad v)) (K : Int32 → ts_S → Prop) (σ : ts_S) (a1 : Int32)  (hw : wp_X3_priceOf K σ a1) : ts_Mi l yX3_priceOf (Cond.code yX3_priceOf cX3_priceOf 3 (some .int)) 1 (tX_w v) [.ref (tX_ad v 11), .int a1] σ K := by
  refine ts_Mi.of_i (w := tX_w v) hi (by decide +kernel) (Nat.le_of_ble_eq_true rfl) ?_
  intro g hgl hgn X hret
  unfold wp_X3_priceOf at hw
  show ts_G g (tX_w v) 3 σ 0 [(0, .ref (tX_ad v 11)), (1, .int a1)] []
  refine ts_aload_n X dX3_priceOf_0 0 rfl ?_
  refine gf_X3_18 X dX3_priceOf_1 ?_
  refine ts_aload_n X dX3_priceOf_4 0 rfl ?_
  refine gf_X3_24 X dX3_priceOf_5 ?_
  refine gf_X3_38 X (tX_Tc 3 (by decide) rfl) (q := 23) rfl dX3_priceOf_8 ?_
  refine gf_X3_75 X (tX_Lp 49) (q := 25) rfl dX3_priceOf_11 ?_
  refine ts_iload_n X dX3_priceOf_14 1 rfl ?_
  refine xi_ald X (tX_b2 (tX_Lp 49) rfl) hw.1 dX3_priceOf_15 ?_
  have hw := hw.2
  refine xi_ald X tX_c14 hw.1 dX3_priceOf_16 ?_
  have hw := hw.2
  refine ts_istore_n X dX3_priceOf_17 (by decide) (lv' := [(2, .int (σ 14 (σ 25 a1.toNatClampNeg).toNatClampNeg)), (0, .ref (tX_ad v 11)), (1, .int a1)]) rfl ?_
  refine ts_aload_n X dX3_priceOf_18 1 rfl ?_
  refine gf_X3_24 X dX3_priceOf_19 ?_
  refine gf_X3_38 X (tX_Tc 3 (by decide) rfl) (q := 23) rfl dX3_priceOf_22 ?_
  refine gf_X3_102 X (tX_Lp 49) (q := 26) rfl dX3_priceOf_25 ?_
  refine ts_iload_n X dX3_priceOf_28 2 rfl ?_
  refine xi_ald X (tX_b3 (tX_Lp 49) rfl) hw.1 dX3_priceOf_29 ?_
  have hw := hw.2
  refine ts_iload_n X dX3_priceOf_30 0 rfl ?_
  refine ts_isub X dX3_priceOf_31 ?_
  refine ts_iconst X dX3_priceOf_32 (v := 0) (by decide) ?_
  refine ts_mmax X kw_675 kw_223 kw_64 kw_224 (ts_le hgn (by decide)) (Nat.le_of_ble_eq_true rfl) dX3_priceOf_33 ?_
  refine ts_aload_n X dX3_priceOf_36 1 rfl ?_
  refine gf_X3_15 X dX3_priceOf_37 ?_
  refine ts_iload_n X dX3_priceOf_40 2 rfl ?_
  refine xi_ald X tX_c13 hw.1 dX3_priceOf_41 ?_
  have hw := hw.2
  refine ts_iload_n X dX3_priceOf_42 0 rfl ?_
  refine ts_isub X dX3_priceOf_43 ?_
  refine ts_iconst X dX3_priceOf_44 (v := 0) (by decide) ?_
  refine ts_mmax X kw_675 kw_223 kw_64 kw_224 (ts_le hgn (by decide)) (Nat.le_of_ble_eq_true rfl) dX3_priceOf_45 ?_
  refine ts_isub X dX3_priceOf_48 ?_
  exact hret _ _ _ _ hw dX3_priceOf_49
set_option maxRecDepth 100000 in
set_option maxHeartbeats 4000000 in
theorem ct_X3_mostInReach (l : Launch) (v : tX_V) (hi : ts_inj 151 (tX_ad v)) (K : Int32 → ts_S → Prop) (σ : ts_S)   (hw : wp_X3_mostInReach K σ ) : ts_Mi l yX3_mostInReach (Cond.code yX3_mostInReach cX3_mostInReach 5 (some .int)) 2 (tX_w v) [.ref (tX_ad v 11)] σ K := by
  refine ts_Mi.of_i (w := tX_w v) hi (by decide +kernel) (Nat.le_of_ble_eq_true rfl) ?_
  intro g hgl hgn X hret
  have J9 : ∀ (σ : ts_S) (x1 : Int32) (x2 : Int32) (x3 : Int32), wp_X3_mostInReach_l9 K  σ x1 x2 x3 → ts_G g (tX_w v) 5 σ 9 [(0, .ref (tX_ad v 11)), (1, .int x1), (2, .int x2), (3, .int x3)] [] := by
    intro  σ x1 x2 x3 hw
    have key : ∀ X9 : ts_S → Int32 → Int32 → Int32 → Prop, (∀ (σ : ts_S) (x1 : Int32) (x2 : Int32) (x3 : Int32), X9 σ x1 x2 x3 → ts_G g (tX_w v) 5 σ 9 [(0, .ref (tX_ad v 11)), (1, .int x1), (2, .int x2), (3, .int x3)] []) → ∀ (σ : ts_S) (x1 : Int32) (x2 : Int32) (x3 : Int32), wp_X3_mostInReach_b9 K X9   σ x1 x2 x3 → ts_G g (tX_w v) 5 σ 9 [(0, .ref (tX_ad v 11)), (1, .int x1), (2, .int x2), (3, .int x3)] [] := by
      intro X9 hX9
      have J17 : ∀ (σ : ts_S) (x1 : Int32) (x2 : Int32) (x3 : Int32) (x4 : Int32), wp_X3_mostInReach_l17 K X9  σ x1 x2 x3 x4 → ts_G g (tX_w v) 5 σ 17 [(0, .ref (tX_ad v 11)), (1, .int x1), (2, .int x2), (3, .int x3), (4, .int x4)] [] := by
        intro  σ x1 x2 x3 x4 hw
        have key : ∀ X17 : ts_S → Int32 → Int32 → Int32 → Prop, (∀ (σ : ts_S) (x1 : Int32) (x2 : Int32) (x4 : Int32), X17 σ x1 x2 x4 → ts_G g (tX_w v) 5 σ 17 [(0, .ref (tX_ad v 11)), (1, .int x1), (2, .int x2), (3, .int x3), (4, .int x4)] []) → ∀ (σ : ts_S) (x1 : Int32) (x2 : Int32) (x4 : Int32), wp_X3_mostInReach_b17 K X9 X17  x3 σ x1 x2 x4 → ts_G g (tX_w v) 5 σ 17 [(0, .ref (tX_ad v 11)), (1, .int x1), (2, .int x2), (3, .int x3), (4, .int x4)] [] := by
          intro X17 hX17
          intro σ x1 x2 x4 hw
          unfold wp_X3_mostInReach_b17 at hw
          refine ts_iload X dX3_mostInReach_17 4 rfl ?_
          refine ts_aload_n X dX3_mostInReach_19 0 rfl ?_
          refine gf_X3_24 X dX3_mostInReach_20 ?_
          refine gf_X3_38 X (tX_Tc 3 (by decide) rfl) (q := 23) rfl dX3_mostInReach_23 ?_
          refine gf_X3_54 X (tX_Lp 49) dX3_mostInReach_26 ?_
          refine ts_icmp_ge 60 X dX3_mostInReach_29 (by decide) (fun c => ?_) (fun c => ?_)
          · have hw := ts_itp hw c
            refine ts_iinc X dX3_mostInReach_60 3 rfl (v := x3 + 1) rfl (by decide) (lv' := [(3, .int (x3 + 1)), (0, .ref (tX_ad v 11)), (1, .int x1), (2, .int x2), (4, .int x4)]) rfl ?_
            refine ts_goto 9 X dX3_mostInReach_63 (by decide) ?_
            exact ts_sub [1, 2, 3, 0] rfl (hX9 _ _ _ _ hw)
          · have hw := ts_itn hw c
            refine ts_iload_n X dX3_mostInReach_32 3 rfl ?_
            refine ts_iload_n X dX3_mostInReach_33 1 rfl ?_
            refine ts_icmp_gt 54 X dX3_mostInReach_34 (by decide) (fun c => ?_) (fun c => ?_)
            · have hw := ts_itp hw c
              refine ts_iinc X dX3_mostInReach_54 4 rfl (v := x4 + 1) rfl (by decide) (lv' := [(4, .int (x4 + 1)), (0, .ref (tX_ad v 11)), (1, .int x1), (2, .int x2), (3, .int x3)]) rfl ?_
              refine ts_goto 17 X dX3_mostInReach_57 (by decide) ?_
              exact ts_sub [1, 2, 3, 4, 0] rfl (hX17 _ _ _ _ hw)
            · have hw := ts_itn hw c
              refine ts_aload_n X dX3_mostInReach_37 0 rfl ?_
              refine ts_iload X dX3_mostInReach_38 4 rfl ?_
              refine ts_callVi (w := tX_w v) X (k := 11) (by decide : 11 < 151) rfl rfl rfl (As := [.int x4]) (ct_X3_priceOf g.2.1 v hi _ _ _ hw) ok_X3_priceOf cw_X3_128 (ts_le hgn (by decide)) (by decide) rfl rfl (Nat.le_of_ble_eq_true rfl) dX3_mostInReach_40 (fun r3 s4 hw => ?_)
              refine ts_iload_n X dX3_mostInReach_43 3 rfl ?_
              refine ts_icmp_ne 54 X dX3_mostInReach_44 (by decide) (fun c => ?_) (fun c => ?_)
              · have hw := ts_itn hw c
                refine ts_iinc X dX3_mostInReach_54 4 rfl (v := x4 + 1) rfl (by decide) (lv' := [(4, .int (x4 + 1)), (0, .ref (tX_ad v 11)), (1, .int x1), (2, .int x2), (3, .int x3)]) rfl ?_
                refine ts_goto 17 X dX3_mostInReach_57 (by decide) ?_
                exact ts_sub [1, 2, 3, 4, 0] rfl (hX17 _ _ _ _ hw)
              · have hw := ts_itp hw c
                refine ts_iload_n X dX3_mostInReach_47 1 rfl ?_
                refine ts_iload_n X dX3_mostInReach_48 3 rfl ?_
                refine ts_isub X dX3_mostInReach_49 ?_
                refine ts_istore_n X dX3_mostInReach_50 (by decide) (lv' := [(1, .int (x1 - x3)), (0, .ref (tX_ad v 11)), (2, .int x2), (3, .int x3), (4, .int x4)]) rfl ?_
                refine ts_iinc X dX3_mostInReach_51 2 rfl (v := x2 + 1) rfl (by decide) (lv' := [(2, .int (x2 + 1)), (1, .int (x1 - x3)), (0, .ref (tX_ad v 11)), (3, .int x3), (4, .int x4)]) rfl ?_
                refine ts_iinc X dX3_mostInReach_54 4 rfl (v := x4 + 1) rfl (by decide) (lv' := [(4, .int (x4 + 1)), (2, .int (x2 + 1)), (1, .int (x1 - x3)), (0, .ref (tX_ad v 11)), (3, .int x3)]) rfl ?_
                refine ts_goto 17 X dX3_mostInReach_57 (by decide) ?_
                exact ts_sub [3, 2, 1, 4, 0] rfl (hX17 _ _ _ _ hw)
        exact hw _ (fun σ x1 x2 x4 h => key _ (fun _ _ _ _ h => h) σ x1 x2 x4 h)
      intro σ x1 x2 x3 hw
      unfold wp_X3_mostInReach_b9 at hw
      refine ts_iload_n X dX3_mostInReach_9 3 rfl ?_
      refine ts_iconst X dX3_mostInReach_10 (v := 4) (by decide) ?_
      refine ts_icmp_gt 66 X dX3_mostInReach_11 (by decide) (fun c => ?_) (fun c => ?_)
      · have hw := ts_itp hw c
        refine ts_iload_n X dX3_mostInReach_66 2 rfl ?_
        exact hret _ _ _ _ hw dX3_mostInReach_67
      · have hw := ts_itn hw c
        refine ts_iconst X dX3_mostInReach_14 (v := 0) (by decide) ?_
        refine ts_istore X dX3_mostInReach_15 (by decide) (lv' := [(4, .int 0), (0, .ref (tX_ad v 11)), (1, .int x1), (2, .int x2), (3, .int x3)]) rfl ?_
        exact ts_sub [1, 2, 3, 4, 0] rfl (J17  _ _ _ _ _ hw)
    exact hw _ (fun σ x1 x2 x3 h => key _ (fun _ _ _ _ h => h) σ x1 x2 x3 h)
  unfold wp_X3_mostInReach at hw
  show ts_G g (tX_w v) 5 σ 0 [(0, .ref (tX_ad v 11))] []
  refine ts_aload_n X dX3_mostInReach_0 0 rfl ?_
  refine gf_X3_51 X dX3_mostInReach_1 ?_
  refine ts_istore_n X dX3_mostInReach_4 (by decide) (lv' := [(1, .int (σ 11 4)), (0, .ref (tX_ad v 11))]) rfl ?_
  refine ts_iconst X dX3_mostInReach_5 (v := 0) (by decide) ?_
  refine ts_istore_n X dX3_mostInReach_6 (by decide) (lv' := [(2, .int 0), (1, .int (σ 11 4)), (0, .ref (tX_ad v 11))]) rfl ?_
  refine ts_iconst X dX3_mostInReach_7 (v := 0) (by decide) ?_
  refine ts_istore_n X dX3_mostInReach_8 (by decide) (lv' := [(3, .int 0), (2, .int 0), (1, .int (σ 11 4)), (0, .ref (tX_ad v 11))]) rfl ?_
  exact ts_sub [3, 2, 1, 0] rfl (J9  _ _ _ _ hw)
set_option maxRecDepth 100000 in
set_option maxHeartbeats 4000000 in
theorem ct_X3_isSurelyFrozenBefore (l : Launch) (v : tX_V) (hi : ts_inj 151 (tX_ad v)) (K : Int32 → ts_S → Prop) (σ : ts_S) (a1 : Int32)  (hw : wp_X3_isSurelyFrozenBefore K σ a1) : ts_Mi l yX3_isSurelyFrozenBefore (Cond.code yX3_isSurelyFrozenBefore cX3_isSurelyFrozenBefore 4 (some .boolean)) 3 (tX_w v) [.ref (tX_ad v 11), .int a1] σ K := by
  refine ts_Mi.of_z (w := tX_w v) hi (by decide +kernel) (Nat.le_of_ble_eq_true rfl) ?_
  intro g hgl hgn X hret
  have J2 : ∀ (σ : ts_S) (x2 : Int32), wp_X3_isSurelyFrozenBefore_l2 K a1 σ x2 → ts_G g (tX_w v) 4 σ 2 [(0, .ref (tX_ad v 11)), (1, .int a1), (2, .int x2)] [] := by
    intro  σ x2 hw
    have key : ∀ X2 : ts_S → Int32 → Prop, (∀ (σ : ts_S) (x2 : Int32), X2 σ x2 → ts_G g (tX_w v) 4 σ 2 [(0, .ref (tX_ad v 11)), (1, .int a1), (2, .int x2)] []) → ∀ (σ : ts_S) (x2 : Int32), wp_X3_isSurelyFrozenBefore_b2 K X2 a1  σ x2 → ts_G g (tX_w v) 4 σ 2 [(0, .ref (tX_ad v 11)), (1, .int a1), (2, .int x2)] [] := by
      intro X2 hX2
      intro σ x2 hw
      unfold wp_X3_isSurelyFrozenBefore_b2 at hw
      refine ts_iload_n X dX3_isSurelyFrozenBefore_2 2 rfl ?_
      refine ts_iload_n X dX3_isSurelyFrozenBefore_3 1 rfl ?_
      refine ts_icmp_ge 59 X dX3_isSurelyFrozenBefore_4 (by decide) (fun c => ?_) (fun c => ?_)
      · have hw := ts_itp hw c
        refine ts_iconst X dX3_isSurelyFrozenBefore_59 (v := 0) (by decide) ?_
        exact hret _ _ _ _ hw dX3_isSurelyFrozenBefore_60
      · have hw := ts_itn hw c
        refine ts_aload_n X dX3_isSurelyFrozenBefore_7 0 rfl ?_
        refine gf_X3_24 X dX3_isSurelyFrozenBefore_8 ?_
        refine gf_X3_72 X (tX_Tc 3 (by decide) rfl) (q := 50) rfl dX3_isSurelyFrozenBefore_11 ?_
        refine ts_iload_n X dX3_isSurelyFrozenBefore_14 2 rfl ?_
        refine xi_ald X (tX_a1 (tX_Tc 3 (by decide) rfl) rfl) hw.1 dX3_isSurelyFrozenBefore_15 ?_
        have hw := hw.2
        refine ts_istore_n X dX3_isSurelyFrozenBefore_16 (by decide) (lv' := [(3, .int (σ 50 x2.toNatClampNeg)), (0, .ref (tX_ad v 11)), (1, .int a1), (2, .int x2)]) rfl ?_
        refine ts_aload_n X dX3_isSurelyFrozenBefore_17 1 rfl ?_
        refine gf_X3_24 X dX3_isSurelyFrozenBefore_18 ?_
        refine gf_X3_64 X (tX_Tc 3 (by decide) rfl) (q := 53) rfl dX3_isSurelyFrozenBefore_21 ?_
        refine ts_iload_n X dX3_isSurelyFrozenBefore_24 3 rfl ?_
        refine xz_ald X (tX_a4 (tX_Tc 3 (by decide) rfl) rfl) hw.1 dX3_isSurelyFrozenBefore_25 ?_
        have hw := hw.2
        refine ts_if_ne 53 X dX3_isSurelyFrozenBefore_26 (by decide) (fun c => ?_) (fun c => ?_)
        · have hw := ts_itn hw c
          refine ts_iinc X dX3_isSurelyFrozenBefore_53 3 rfl (v := x2 + 1) rfl (by decide) (lv' := [(2, .int (x2 + 1)), (3, .int (σ 50 x2.toNatClampNeg)), (0, .ref (tX_ad v 11)), (1, .int a1)]) rfl ?_
          refine ts_goto 2 X dX3_isSurelyFrozenBefore_56 (by decide) ?_
          exact ts_sub [2, 3, 0] rfl (hX2 _ _ hw)
        · have hw := ts_itp hw c
          refine ts_aload_n X dX3_isSurelyFrozenBefore_29 1 rfl ?_
          refine ts_iload_n X dX3_isSurelyFrozenBefore_30 3 rfl ?_
          refine ts_iload_n X dX3_isSurelyFrozenBefore_31 0 rfl ?_
          refine ts_aload_n X dX3_isSurelyFrozenBefore_32 1 rfl ?_
          refine gf_X3_18 X dX3_isSurelyFrozenBefore_33 ?_
          refine ts_iload_n X dX3_isSurelyFrozenBefore_36 0 rfl ?_
          refine xi_ald X tX_c14 hw.1 dX3_isSurelyFrozenBefore_37 ?_
          have hw := hw.2
          refine ts_iconst X dX3_isSurelyFrozenBefore_38 (v := 1) (by decide) ?_
          refine ts_isub X dX3_isSurelyFrozenBefore_39 ?_
          refine ts_aload_n X dX3_isSurelyFrozenBefore_40 1 rfl ?_
          refine gf_X3_51 X dX3_isSurelyFrozenBefore_41 ?_
          refine ts_iadd X dX3_isSurelyFrozenBefore_44 ?_
          refine ts_callVi (w := tX_w v) X (k := 11) (by decide : 11 < 151) rfl rfl rfl (As := [.int x2, .int (σ 50 x2.toNatClampNeg), .int (((σ 14 (σ 50 x2.toNatClampNeg).toNatClampNeg) - 1) + (σ 11 4))]) (ct_X3_isFrozenAmong g.2.1 v hi _ _ _ _ _ hw) ok_X3_isFrozenAmong cw_X3_81 (ts_le hgn (by decide)) (by decide) rfl rfl (Nat.le_of_ble_eq_true rfl) dX3_isSurelyFrozenBefore_45 (fun r3 s4 hw => ?_)
          refine ts_if_eq 53 X dX3_isSurelyFrozenBefore_48 (by decide) (fun c => ?_) (fun c => ?_)
          · have hw := ts_itp hw c
            refine ts_iinc X dX3_isSurelyFrozenBefore_53 3 rfl (v := x2 + 1) rfl (by decide) (lv' := [(2, .int (x2 + 1)), (3, .int (σ 50 x2.toNatClampNeg)), (0, .ref (tX_ad v 11)), (1, .int a1)]) rfl ?_
            refine ts_goto 2 X dX3_isSurelyFrozenBefore_56 (by decide) ?_
            exact ts_sub [2, 3, 0] rfl (hX2 _ _ hw)
          · have hw := ts_itn hw c
            refine ts_iconst X dX3_isSurelyFrozenBefore_51 (v := 1) (by decide) ?_
            exact hret _ _ _ _ hw dX3_isSurelyFrozenBefore_52
    exact hw _ (fun σ x2 h => key _ (fun _ _ h => h) σ x2 h)
  unfold wp_X3_isSurelyFrozenBefore at hw
  show ts_G g (tX_w v) 4 σ 0 [(0, .ref (tX_ad v 11)), (1, .int a1)] []
  refine ts_iconst X dX3_isSurelyFrozenBefore_0 (v := 0) (by decide) ?_
  refine ts_istore_n X dX3_isSurelyFrozenBefore_1 (by decide) (lv' := [(2, .int 0), (0, .ref (tX_ad v 11)), (1, .int a1)]) rfl ?_
  exact ts_sub [1, 2, 0] rfl (J2  _ _ hw)
set_option maxRecDepth 100000 in
set_option maxHeartbeats 4000000 in
theorem ct_X3_takeIfBetter (l : Launch) (v : tX_V) (hi : ts_inj 151 (tX_ad v)) (K : ts_S → Prop) (σ : ts_S)   (hw : wp_X3_takeIfBetter K σ ) : ts_Mv l yX3_takeIfBetter (Cond.code yX3_takeIfBetter cX3_takeIfBetter 3 (none)) 2 (tX_w v) [.ref (tX_ad v 11)] σ K := by
  refine ts_Mv.of_v (w := tX_w v) hi (by decide +kernel) (Nat.le_of_ble_eq_true rfl) ?_
  intro g hgl hgn X hret
  have J82 : ∀ (σ : ts_S) (x2 : Int32), wp_X3_takeIfBetter_l82 K  σ x2 → ts_G g (tX_w v) 3 σ 82 [(0, .ref (tX_ad v 11)), (2, .int x2)] [] := by
    intro  σ x2 hw
    have key : ∀ X82 : ts_S → Int32 → Prop, (∀ (σ : ts_S) (x2 : Int32), X82 σ x2 → ts_G g (tX_w v) 3 σ 82 [(0, .ref (tX_ad v 11)), (2, .int x2)] []) → ∀ (σ : ts_S) (x2 : Int32), wp_X3_takeIfBetter_b82 K X82   σ x2 → ts_G g (tX_w v) 3 σ 82 [(0, .ref (tX_ad v 11)), (2, .int x2)] [] := by
      intro X82 hX82
      have J127 : ∀ (σ : ts_S) (x2 : Int32) (y0 : Int32) (y1 : Int32), wp_X3_takeIfBetter_j127 K X82  σ x2 y0 y1 → ts_G g (tX_w v) 3 σ 127 [(0, .ref (tX_ad v 11)), (2, .int x2)] [.int y0, .int y1, .ref (tX_ad v 15)] := by
        intro  σ x2 y0 y1 hw
        unfold wp_X3_takeIfBetter_j127 at hw
        refine xi_ast X tX_c15 hw.1 dX3_takeIfBetter_127 (fun s5 es5 => ?_)
        have hw := hw.2 s5 es5
        refine ts_iinc X dX3_takeIfBetter_128 1 rfl (v := x2 + 1) rfl (by decide) (lv' := [(2, .int (x2 + 1)), (0, .ref (tX_ad v 11))]) rfl ?_
        refine ts_goto 82 X dX3_takeIfBetter_131 (by decide) ?_
        exact ts_sub [1, 0] rfl (hX82 _ _ hw)
      intro σ x2 hw
      unfold wp_X3_takeIfBetter_b82 at hw
      refine ts_iload_n X dX3_takeIfBetter_82 1 rfl ?_
      refine ts_aload_n X dX3_takeIfBetter_83 0 rfl ?_
      refine gf_X3_24 X dX3_takeIfBetter_84 ?_
      refine gf_X3_38 X (tX_Tc 3 (by decide) rfl) (q := 23) rfl dX3_takeIfBetter_87 ?_
      refine gf_X3_42 X (tX_Lp 49) dX3_takeIfBetter_90 ?_
      refine ts_icmp_ge 134 X dX3_takeIfBetter_93 (by decide) (fun c => ?_) (fun c => ?_)
      · have hw := ts_itp hw c
        exact hret _ _ _ hw dX3_takeIfBetter_134
      · have hw := ts_itn hw c
        refine ts_aload_n X dX3_takeIfBetter_96 0 rfl ?_
        refine gf_X3_21 X dX3_takeIfBetter_97 ?_
        refine ts_iload_n X dX3_takeIfBetter_100 1 rfl ?_
        refine ts_aload_n X dX3_takeIfBetter_101 0 rfl ?_
        refine gf_X3_24 X dX3_takeIfBetter_102 ?_
        refine gf_X3_64 X (tX_Tc 3 (by decide) rfl) (q := 53) rfl dX3_takeIfBetter_105 ?_
        refine ts_iload_n X dX3_takeIfBetter_108 1 rfl ?_
        refine xz_ald X (tX_a4 (tX_Tc 3 (by decide) rfl) rfl) hw.1 dX3_takeIfBetter_109 ?_
        have hw := hw.2
        refine ts_if_eq 118 X dX3_takeIfBetter_110 (by decide) (fun c => ?_) (fun c => ?_)
        · have hw := ts_itp hw c
          refine ts_aload_n X dX3_takeIfBetter_118 0 rfl ?_
          refine gf_X3_24 X dX3_takeIfBetter_119 ?_
          refine gf_X3_72 X (tX_Tc 3 (by decide) rfl) (q := 50) rfl dX3_takeIfBetter_122 ?_
          refine ts_iload_n X dX3_takeIfBetter_125 1 rfl ?_
          refine xi_ald X (tX_a1 (tX_Tc 3 (by decide) rfl) rfl) hw.1 dX3_takeIfBetter_126 ?_
          have hw := hw.2
          exact ts_sub [0, 1] rfl (J127  _ _ _ _ hw)
        · have hw := ts_itn hw c
          refine ts_bipush X dX3_takeIfBetter_113 (v := (-4)) (by decide) ?_
          refine ts_goto 127 X dX3_takeIfBetter_115 (by decide) ?_
          exact ts_sub [0, 1] rfl (J127  _ _ _ _ hw)
    exact hw _ (fun σ x2 h => key _ (fun _ _ h => h) σ x2 h)
  have J4 : ∀ (σ : ts_S) (x1 : Int32) (x2 : Int32), wp_X3_takeIfBetter_l4 K  σ x1 x2 → ts_G g (tX_w v) 3 σ 4 [(0, .ref (tX_ad v 11)), (1, .int x1), (2, .int x2)] [] := by
    intro  σ x1 x2 hw
    have key : ∀ X4 : ts_S → Int32 → Int32 → Prop, (∀ (σ : ts_S) (x1 : Int32) (x2 : Int32), X4 σ x1 x2 → ts_G g (tX_w v) 3 σ 4 [(0, .ref (tX_ad v 11)), (1, .int x1), (2, .int x2)] []) → ∀ (σ : ts_S) (x1 : Int32) (x2 : Int32), wp_X3_takeIfBetter_b4 K X4   σ x1 x2 → ts_G g (tX_w v) 3 σ 4 [(0, .ref (tX_ad v 11)), (1, .int x1), (2, .int x2)] [] := by
      intro X4 hX4
      have J56 : ∀ (σ : ts_S) (x2 : Int32) (y0 : Int32) (y1 : Int32), wp_X3_takeIfBetter_j56 K X4  σ x2 y0 y1 → ts_G g (tX_w v) 3 σ 56 [(0, .ref (tX_ad v 11)), (2, .int x2)] [.int y0, .int y1] := by
        intro  σ x2 y0 y1 hw
        unfold wp_X3_takeIfBetter_j56 at hw
        refine ts_callNi X (As := [.int y0]) (ct_X9_asNumber g.2.1 v hi _ _ _ hw) ok_X9_asNumber cw_X3_131 (ts_le hgn (by decide)) (by decide) rfl rfl (Nat.le_of_ble_eq_true rfl) dX3_takeIfBetter_56 (fun r6 s7 hw => ?_)
        refine ts_iadd X dX3_takeIfBetter_59 ?_
        refine ts_istore_n X dX3_takeIfBetter_60 (by decide) (lv' := [(1, .int (y1 + r6)), (0, .ref (tX_ad v 11)), (2, .int x2)]) rfl ?_
        refine ts_iinc X dX3_takeIfBetter_61 2 rfl (v := x2 + 1) rfl (by decide) (lv' := [(2, .int (x2 + 1)), (1, .int (y1 + r6)), (0, .ref (tX_ad v 11))]) rfl ?_
        refine ts_goto 4 X dX3_takeIfBetter_64 (by decide) ?_
        exact ts_sub [2, 1, 0] rfl (hX4 _ _ _ hw)
      intro σ x1 x2 hw
      unfold wp_X3_takeIfBetter_b4 at hw
      refine ts_iload_n X dX3_takeIfBetter_4 2 rfl ?_
      refine ts_aload_n X dX3_takeIfBetter_5 0 rfl ?_
      refine gf_X3_24 X dX3_takeIfBetter_6 ?_
      refine gf_X3_38 X (tX_Tc 3 (by decide) rfl) (q := 23) rfl dX3_takeIfBetter_9 ?_
      refine gf_X3_54 X (tX_Lp 49) dX3_takeIfBetter_12 ?_
      refine ts_icmp_ge 67 X dX3_takeIfBetter_15 (by decide) (fun c => ?_) (fun c => ?_)
      · have hw := ts_itp hw c
        refine ts_iload_n X dX3_takeIfBetter_67 1 rfl ?_
        refine ts_aload_n X dX3_takeIfBetter_68 0 rfl ?_
        refine gf_X3_34 X dX3_takeIfBetter_69 ?_
        refine ts_icmp_le 134 X dX3_takeIfBetter_72 (by decide) (fun c => ?_) (fun c => ?_)
        · have hw := ts_itp hw c
          exact hret _ _ _ hw dX3_takeIfBetter_134
        · have hw := ts_itn hw c
          refine ts_aload_n X dX3_takeIfBetter_75 0 rfl ?_
          refine ts_iload_n X dX3_takeIfBetter_76 1 rfl ?_
          refine pf_X3_34 X dX3_takeIfBetter_77 (fun s8 es8 => ?_)
          have hw := hw s8 es8
          refine ts_iconst X dX3_takeIfBetter_80 (v := 0) (by decide) ?_
          refine ts_istore_n X dX3_takeIfBetter_81 (by decide) (lv' := [(2, .int 0), (0, .ref (tX_ad v 11)), (1, .int x1)]) rfl ?_
          exact ts_sub [1, 0] rfl (J82  _ _ hw)
      · have hw := ts_itn hw c
        refine ts_iload_n X dX3_takeIfBetter_18 1 rfl ?_
        refine ts_aload_n X dX3_takeIfBetter_19 0 rfl ?_
        refine gf_X3_18 X dX3_takeIfBetter_20 ?_
        refine ts_aload_n X dX3_takeIfBetter_23 0 rfl ?_
        refine gf_X3_24 X dX3_takeIfBetter_24 ?_
        refine gf_X3_38 X (tX_Tc 3 (by decide) rfl) (q := 23) rfl dX3_takeIfBetter_27 ?_
        refine gf_X3_75 X (tX_Lp 49) (q := 25) rfl dX3_takeIfBetter_30 ?_
        refine ts_iload_n X dX3_takeIfBetter_33 2 rfl ?_
        refine xi_ald X (tX_b2 (tX_Lp 49) rfl) hw.1 dX3_takeIfBetter_34 ?_
        have hw := hw.2
        refine xi_ald X tX_c14 hw.1 dX3_takeIfBetter_35 ?_
        have hw := hw.2
        refine ts_aload_n X dX3_takeIfBetter_36 0 rfl ?_
        refine gf_X3_24 X dX3_takeIfBetter_37 ?_
        refine gf_X3_38 X (tX_Tc 3 (by decide) rfl) (q := 23) rfl dX3_takeIfBetter_40 ?_
        refine gf_X3_102 X (tX_Lp 49) (q := 26) rfl dX3_takeIfBetter_43 ?_
        refine ts_iload_n X dX3_takeIfBetter_46 2 rfl ?_
        refine xi_ald X (tX_b3 (tX_Lp 49) rfl) hw.1 dX3_takeIfBetter_47 ?_
        have hw := hw.2
        refine ts_icmp_lt 55 X dX3_takeIfBetter_48 (by decide) (fun c => ?_) (fun c => ?_)
        · have hw := ts_itp hw c
          refine ts_iconst X dX3_takeIfBetter_55 (v := 0) (by decide) ?_
          exact ts_sub [0, 2] rfl (J56  _ _ _ _ hw)
        · have hw := ts_itn hw c
          refine ts_iconst X dX3_takeIfBetter_51 (v := 1) (by decide) ?_
          refine ts_goto 56 X dX3_takeIfBetter_52 (by decide) ?_
          exact ts_sub [0, 2] rfl (J56  _ _ _ _ hw)
    exact hw _ (fun σ x1 x2 h => key _ (fun _ _ _ h => h) σ x1 x2 h)
  unfold wp_X3_takeIfBetter at hw
  show ts_G g (tX_w v) 3 σ 0 [(0, .ref (tX_ad v 11))] []
  refine ts_iconst X dX3_takeIfBetter_0 (v := 0) (by decide) ?_
  refine ts_istore_n X dX3_takeIfBetter_1 (by decide) (lv' := [(1, .int 0), (0, .ref (tX_ad v 11))]) rfl ?_
  refine ts_iconst X dX3_takeIfBetter_2 (v := 0) (by decide) ?_
  refine ts_istore_n X dX3_takeIfBetter_3 (by decide) (lv' := [(2, .int 0), (1, .int 0), (0, .ref (tX_ad v 11))]) rfl ?_
  exact ts_sub [2, 1, 0] rfl (J4  _ _ _ hw)
set_option maxRecDepth 100000 in
set_option maxHeartbeats 4000000 in
theorem ct_X3_put (l : Launch) (v : tX_V) (hi : ts_inj 151 (tX_ad v)) (F : (ts_S → Prop) → ts_S → Int32 → Prop) (nF : Nat) (hnF : 12 ≤ nF) (hF : ∀ (K : ts_S → Prop) (σ : ts_S) (a1 : Int32) , F K σ a1 → ts_Mv l yX3_putFrom (Cond.code yX3_putFrom cX3_putFrom 3 (none)) nF (tX_w v) [.ref (tX_ad v 11), .int a1] σ K) (K : ts_S → Prop) (σ : ts_S) (a1 : Int32) (a2 : Int32)  (hw : wp_X3_put F K σ a1 a2) : ts_Mv l yX3_put (Cond.code yX3_put cX3_put 3 (none)) (nF + 1) (tX_w v) [.ref (tX_ad v 11), .int a1, .int a2] σ K := by
  refine ts_Mv.of_v (w := tX_w v) hi (by decide +kernel) (Nat.le_of_ble_eq_true rfl) ?_
  intro g hgl hgn X hret
  subst hgl
  unfold wp_X3_put at hw
  show ts_G g (tX_w v) 3 σ 0 [(0, .ref (tX_ad v 11)), (1, .int a1), (2, .int a2)] []
  refine ts_aload_n X dX3_put_0 0 rfl ?_
  refine gf_X3_24 X dX3_put_1 ?_
  refine gf_X3_72 X (tX_Tc 3 (by decide) rfl) (q := 50) rfl dX3_put_4 ?_
  refine ts_iload_n X dX3_put_7 1 rfl ?_
  refine ts_iload_n X dX3_put_8 2 rfl ?_
  refine xi_ast X (tX_a1 (tX_Tc 3 (by decide) rfl) rfl) hw.1 dX3_put_9 (fun s6 es6 => ?_)
  have hw := hw.2 s6 es6
  refine ts_aload_n X dX3_put_10 0 rfl ?_
  refine gf_X3_18 X dX3_put_11 ?_
  refine ts_iload_n X dX3_put_14 2 rfl ?_
  refine ts_dup2 X dX3_put_15 rfl rfl ?_
  refine xi_ald X tX_c14 hw.1 dX3_put_16 ?_
  have hw := hw.2
  refine ts_iconst X dX3_put_17 (v := 1) (by decide) ?_
  refine ts_iadd X dX3_put_18 ?_
  refine xi_ast X tX_c14 hw.1 dX3_put_19 (fun s7 es7 => ?_)
  have hw := hw.2 s7 es7
  refine ts_aload_n X dX3_put_20 0 rfl ?_
  refine ts_iload_n X dX3_put_21 1 rfl ?_
  refine ts_iconst X dX3_put_22 (v := 1) (by decide) ?_
  refine ts_iadd X dX3_put_23 ?_
  refine ts_callVv (w := tX_w v) X (k := 11) (by decide : 11 < 151) rfl rfl rfl (As := [.int (a1 + 1)]) (hF _ _ _ hw) ok_X3_putFrom cw_X3_68 (ts_le hgn (by omega)) (by decide) rfl rfl (Nat.le_of_ble_eq_true rfl) dX3_put_24 (fun s9 hw => ?_)
  refine ts_aload_n X dX3_put_27 0 rfl ?_
  refine gf_X3_18 X dX3_put_28 ?_
  refine ts_iload_n X dX3_put_31 2 rfl ?_
  refine ts_dup2 X dX3_put_32 rfl rfl ?_
  refine xi_ald X tX_c14 hw.1 dX3_put_33 ?_
  have hw := hw.2
  refine ts_iconst X dX3_put_34 (v := 1) (by decide) ?_
  refine ts_isub X dX3_put_35 ?_
  refine xi_ast X tX_c14 hw.1 dX3_put_36 (fun s10 es10 => ?_)
  have hw := hw.2 s10 es10
  exact hret _ _ _ hw dX3_put_37
set_option maxRecDepth 100000 in
set_option maxHeartbeats 4000000 in
theorem ct_X3_putFrom_0 (l : Launch) (v : tX_V) (hi : ts_inj 151 (tX_ad v)) (F : (ts_S → Prop) → ts_S → Int32 → Prop) (nF : Nat) (hnF : 12 ≤ nF) (hF : ∀ (K : ts_S → Prop) (σ : ts_S) (a1 : Int32) , F K σ a1 → ts_Mv l yX3_putFrom (Cond.code yX3_putFrom cX3_putFrom 3 (none)) nF (tX_w v) [.ref (tX_ad v 11), .int a1] σ K) (K : ts_S → Prop) (σ : ts_S) (a1 : Int32)  (hw : wp_X3_putFrom_0 F K σ a1) : ts_Mv l yX3_putFrom (Cond.code yX3_putFrom cX3_putFrom 3 (none)) (nF + 2) (tX_w v) [.ref (tX_ad v 11), .int a1] σ K := by
  refine ts_Mv.of_v (w := tX_w v) hi (by decide +kernel) (Nat.le_of_ble_eq_true rfl) ?_
  intro g hgl hgn X hret
  subst hgl
  have J75 : ∀ (σ : ts_S) (x2 : Int32), wp_X3_putFrom_0_l75 F K a1 σ x2 → ts_G g (tX_w v) 3 σ 75 [(0, .ref (tX_ad v 11)), (1, .int a1), (2, .int x2)] [] := by
    intro  σ x2 hw
    have key : ∀ X75 : ts_S → Int32 → Prop, (∀ (σ : ts_S) (x2 : Int32), X75 σ x2 → ts_G g (tX_w v) 3 σ 75 [(0, .ref (tX_ad v 11)), (1, .int a1), (2, .int x2)] []) → ∀ (σ : ts_S) (x2 : Int32), wp_X3_putFrom_0_b75 F K X75 a1  σ x2 → ts_G g (tX_w v) 3 σ 75 [(0, .ref (tX_ad v 11)), (1, .int a1), (2, .int x2)] [] := by
      intro X75 hX75
      intro σ x2 hw
      unfold wp_X3_putFrom_0_b75 at hw
      refine ts_iload_n X dX3_putFrom_75 2 rfl ?_
      refine ts_aload_n X dX3_putFrom_76 0 rfl ?_
      refine gf_X3_24 X dX3_putFrom_77 ?_
      refine gf_X3_38 X (tX_Tc 3 (by decide) rfl) (q := 23) rfl dX3_putFrom_80 ?_
      refine gf_X3_78 X (tX_Lp 49) dX3_putFrom_83 ?_
      refine ts_icmp_ge 114 X dX3_putFrom_86 (by decide) (fun c => ?_) (fun c => ?_)
      · have hw := ts_itp hw c
        refine ts_aload_n X dX3_putFrom_114 0 rfl ?_
        refine ts_dup X dX3_putFrom_115 rfl ?_
        refine gf_X3_51 X dX3_putFrom_116 ?_
        refine ts_iconst X dX3_putFrom_119 (v := 1) (by decide) ?_
        refine ts_iadd X dX3_putFrom_120 ?_
        refine pf_X3_51 X dX3_putFrom_121 (fun s15 es15 => ?_)
        have hw := hw s15 es15
        exact hret _ _ _ hw dX3_putFrom_124
      · have hw := ts_itn hw c
        refine ts_aload_n X dX3_putFrom_89 0 rfl ?_
        refine gf_X3_9 X dX3_putFrom_90 ?_
        refine ts_iload_n X dX3_putFrom_93 1 rfl ?_
        refine xi_ald X tX_c12 hw.1 dX3_putFrom_94 ?_
        have hw := hw.2
        refine ts_iload_n X dX3_putFrom_95 2 rfl ?_
        refine ts_callNi X (As := [.int (σ 12 a1.toNatClampNeg), .int x2]) (ct_X9_hasBit g.2.1 v hi _ _ _ _ hw) ok_X9_hasBit cw_X3_121 (ts_le hgn (by omega)) (by decide) rfl rfl (Nat.le_of_ble_eq_true rfl) dX3_putFrom_96 (fun r16 s17 hw => ?_)
        refine ts_if_eq 108 X dX3_putFrom_99 (by decide) (fun c => ?_) (fun c => ?_)
        · have hw := ts_itp hw c
          refine ts_iinc X dX3_putFrom_108 2 rfl (v := x2 + 1) rfl (by decide) (lv' := [(2, .int (x2 + 1)), (0, .ref (tX_ad v 11)), (1, .int a1)]) rfl ?_
          refine ts_goto 75 X dX3_putFrom_111 (by decide) ?_
          exact ts_sub [1, 2, 0] rfl (hX75 _ _ hw)
        · have hw := ts_itn hw c
          refine ts_aload_n X dX3_putFrom_102 0 rfl ?_
          refine ts_iload_n X dX3_putFrom_103 1 rfl ?_
          refine ts_iload_n X dX3_putFrom_104 2 rfl ?_
          refine ts_callVv (w := tX_w v) X (k := 11) (by decide : 11 < 151) rfl rfl rfl (As := [.int a1, .int x2]) (ct_X3_put g.2.1 v hi F nF hnF hF _ _ _ _ hw) ok_X3_put cw_X3_124 (ts_le hgn (by omega)) (by decide) rfl rfl (Nat.le_of_ble_eq_true rfl) dX3_putFrom_105 (fun s19 hw => ?_)
          refine ts_iinc X dX3_putFrom_108 2 rfl (v := x2 + 1) rfl (by decide) (lv' := [(2, .int (x2 + 1)), (0, .ref (tX_ad v 11)), (1, .int a1)]) rfl ?_
          refine ts_goto 75 X dX3_putFrom_111 (by decide) ?_
          exact ts_sub [1, 2, 0] rfl (hX75 _ _ hw)
    exact hw _ (fun σ x2 h => key _ (fun _ _ h => h) σ x2 h)
  unfold wp_X3_putFrom_0 at hw
  show ts_G g (tX_w v) 3 σ 0 [(0, .ref (tX_ad v 11)), (1, .int a1)] []
  refine ts_aload_n X dX3_putFrom_0 0 rfl ?_
  refine ts_callVi (w := tX_w v) X (k := 11) (by decide : 11 < 151) rfl rfl rfl (As := []) (ct_X3_mostInReach g.2.1 v hi _ _  hw) ok_X3_mostInReach cw_X3_111 (ts_le hgn (by omega)) (by decide) rfl rfl (Nat.le_of_ble_eq_true rfl) dX3_putFrom_1 (fun r20 s21 hw => ?_)
  refine ts_aload_n X dX3_putFrom_4 0 rfl ?_
  refine gf_X3_34 X dX3_putFrom_5 ?_
  refine ts_icmp_le 19 X dX3_putFrom_8 (by decide) (fun c => ?_) (fun c => ?_)
  · have hw := ts_itp hw c
    exact hret _ _ _ hw dX3_putFrom_19
  · have hw := ts_itn hw c
    refine ts_aload_n X dX3_putFrom_11 0 rfl ?_
    refine ts_iload_n X dX3_putFrom_12 1 rfl ?_
    refine ts_callVi (w := tX_w v) X (k := 11) (by decide : 11 < 151) rfl rfl rfl (As := [.int a1]) (ct_X3_isSurelyFrozenBefore g.2.1 v hi _ _ _ hw) ok_X3_isSurelyFrozenBefore cw_X3_114 (ts_le hgn (by omega)) (by decide) rfl rfl (Nat.le_of_ble_eq_true rfl) dX3_putFrom_13 (fun r22 s23 hw => ?_)
    refine ts_if_eq 20 X dX3_putFrom_16 (by decide) (fun c => ?_) (fun c => ?_)
    · have hw := ts_itp hw c
      refine ts_iload_n X dX3_putFrom_20 1 rfl ?_
      refine ts_aload_n X dX3_putFrom_21 0 rfl ?_
      refine gf_X3_24 X dX3_putFrom_22 ?_
      refine gf_X3_38 X (tX_Tc 3 (by decide) rfl) (q := 23) rfl dX3_putFrom_25 ?_
      refine gf_X3_42 X (tX_Lp 49) dX3_putFrom_28 ?_
      refine ts_icmp_lt 41 X dX3_putFrom_31 (by decide) (fun c => ?_) (fun c => ?_)
      · have hw := ts_itp hw c
        refine ts_aload_n X dX3_putFrom_41 0 rfl ?_
        refine gf_X3_24 X dX3_putFrom_42 ?_
        refine gf_X3_64 X (tX_Tc 3 (by decide) rfl) (q := 53) rfl dX3_putFrom_45 ?_
        refine ts_iload_n X dX3_putFrom_48 1 rfl ?_
        refine xz_ald X (tX_a4 (tX_Tc 3 (by decide) rfl) rfl) hw.1 dX3_putFrom_49 ?_
        have hw := hw.2
        refine ts_if_eq 63 X dX3_putFrom_50 (by decide) (fun c => ?_) (fun c => ?_)
        · have hw := ts_itp hw c
          refine ts_aload_n X dX3_putFrom_63 0 rfl ?_
          refine ts_dup X dX3_putFrom_64 rfl ?_
          refine gf_X3_51 X dX3_putFrom_65 ?_
          refine ts_iconst X dX3_putFrom_68 (v := 1) (by decide) ?_
          refine ts_isub X dX3_putFrom_69 ?_
          refine pf_X3_51 X dX3_putFrom_70 (fun s24 es24 => ?_)
          have hw := hw s24 es24
          refine ts_iconst X dX3_putFrom_73 (v := 0) (by decide) ?_
          refine ts_istore_n X dX3_putFrom_74 (by decide) (lv' := [(2, .int 0), (0, .ref (tX_ad v 11)), (1, .int a1)]) rfl ?_
          exact ts_sub [1, 2, 0] rfl (J75  _ _ hw)
        · have hw := ts_itn hw c
          refine ts_aload_n X dX3_putFrom_53 0 rfl ?_
          refine ts_iload_n X dX3_putFrom_54 1 rfl ?_
          refine ts_iconst X dX3_putFrom_55 (v := 1) (by decide) ?_
          refine ts_iadd X dX3_putFrom_56 ?_
          refine ts_callVv (w := tX_w v) X (k := 11) (by decide : 11 < 151) rfl rfl rfl (As := [.int (a1 + 1)]) (hF _ _ _ hw) ok_X3_putFrom cw_X3_68 (ts_le hgn (by omega)) (by decide) rfl rfl (Nat.le_of_ble_eq_true rfl) dX3_putFrom_57 (fun s26 hw => ?_)
          refine ts_goto 124 X dX3_putFrom_60 (by decide) ?_
          exact hret _ _ _ hw dX3_putFrom_124
      · have hw := ts_itn hw c
        refine ts_aload_n X dX3_putFrom_34 0 rfl ?_
        refine ts_callVv (w := tX_w v) X (k := 11) (by decide : 11 < 151) rfl rfl rfl (As := []) (ct_X3_takeIfBetter g.2.1 v hi _ _  hw) ok_X3_takeIfBetter cw_X3_118 (ts_le hgn (by omega)) (by decide) rfl rfl (Nat.le_of_ble_eq_true rfl) dX3_putFrom_35 (fun s28 hw => ?_)
        refine ts_goto 124 X dX3_putFrom_38 (by decide) ?_
        exact hret _ _ _ hw dX3_putFrom_124
    · have hw := ts_itn hw c
      exact hret _ _ _ hw dX3_putFrom_19
theorem ct_X3_putFrom (l : Launch) (v : tX_V) (hi : ts_inj 151 (tX_ad v)) : ∀ (d : Nat) (K : ts_S → Prop) (σ : ts_S) (a1 : Int32) (hw : wp_X3_putFrom d K σ a1), ts_Mv l yX3_putFrom (Cond.code yX3_putFrom cX3_putFrom 3 none) (12 + 2 * d) (tX_w v) [.ref (tX_ad v 11), .int a1] σ K
  | 0, _, _, _, hw => absurd hw id
  | d + 1, K, σ, a1, hw => ct_X3_putFrom_0 l v hi (wp_X3_putFrom d) (12 + 2 * d) (by omega) (fun K σ a1 hw => ct_X3_putFrom l v hi d K σ a1 hw) K σ a1 hw
set_option maxRecDepth 100000 in
set_option maxHeartbeats 4000000 in
theorem ct_X3_search (l : Launch) (v : tX_V) (hi : ts_inj 151 (tX_ad v)) (K : ts_S → Prop) (σ : ts_S) (t1 : Nat) (ht1 : tX_T t1) (hw : wp_X3_search K σ t1) : ts_Mv l yX3_search (Cond.code yX3_search cX3_search 4 (none)) 29 (tX_w v) [.ref (tX_ad v 11), .ref (tX_ad v t1)] σ K := by
  refine ts_Mv.of_v (w := tX_w v) hi (by decide +kernel) (Nat.le_of_ble_eq_true rfl) ?_
  intro g hgl hgn X hret
  have J93 : ∀ (σ : ts_S) (x2 : Int32) (x3 : Int32), wp_X3_search_l93 K t1 σ x2 x3 → ts_G g (tX_w v) 4 σ 93 [(0, .ref (tX_ad v 11)), (2, .int x2), (3, .int x3)] [] := by
    intro  σ x2 x3 hw
    have key : ∀ X93 : ts_S → Int32 → Int32 → Prop, (∀ (σ : ts_S) (x2 : Int32) (x3 : Int32), X93 σ x2 x3 → ts_G g (tX_w v) 4 σ 93 [(0, .ref (tX_ad v 11)), (2, .int x2), (3, .int x3)] []) → ∀ (σ : ts_S) (x2 : Int32) (x3 : Int32), wp_X3_search_b93 K X93 t1  σ x2 x3 → ts_G g (tX_w v) 4 σ 93 [(0, .ref (tX_ad v 11)), (2, .int x2), (3, .int x3)] [] := by
      intro X93 hX93
      intro σ x2 x3 hw
      unfold wp_X3_search_b93 at hw
      refine ts_iload_n X dX3_search_93 2 rfl ?_
      refine ts_aload_n X dX3_search_94 0 rfl ?_
      refine gf_X3_24 X dX3_search_95 ?_
      refine gf_X3_38 X (tX_Tc 3 (by decide) rfl) (q := 23) rfl dX3_search_98 ?_
      refine gf_X3_42 X (tX_Lp 49) dX3_search_101 ?_
      refine ts_icmp_ge 155 X dX3_search_104 (by decide) (fun c => ?_) (fun c => ?_)
      · have hw := ts_itp hw c
        refine ts_iload_n X dX3_search_155 1 rfl ?_
        refine ts_if_eq 164 X dX3_search_156 (by decide) (fun c => ?_) (fun c => ?_)
        · have hw := ts_itp hw c
          exact hret _ _ _ hw dX3_search_164
        · have hw := ts_itn hw c
          refine ts_aload_n X dX3_search_159 0 rfl ?_
          refine ts_iconst X dX3_search_160 (v := 0) (by decide) ?_
          refine ts_callVv (w := tX_w v) X (k := 11) (by decide : 11 < 151) rfl rfl rfl (As := [.int 0]) (ct_X3_putFrom g.2.1 v hi 8 _ _ _ hw) ok_X3_putFrom cw_X3_68 (ts_le hgn (by decide)) (by decide) rfl rfl (Nat.le_of_ble_eq_true rfl) dX3_search_161 (fun s17 hw => ?_)
          exact hret _ _ _ hw dX3_search_164
      · have hw := ts_itn hw c
        refine ts_aload_n X dX3_search_107 0 rfl ?_
        refine gf_X3_9 X dX3_search_108 ?_
        refine ts_iload_n X dX3_search_111 2 rfl ?_
        refine ts_aload_n X dX3_search_112 0 rfl ?_
        refine ts_iload_n X dX3_search_113 2 rfl ?_
        refine ts_callVi (w := tX_w v) X (k := 11) (by decide : 11 < 151) rfl rfl rfl (As := [.int x3]) (ct_X3_placesOf g.2.1 v hi _ _ _ hw) ok_X3_placesOf cw_X3_61 (ts_le hgn (by decide)) (by decide) rfl rfl (Nat.le_of_ble_eq_true rfl) dX3_search_114 (fun r18 s19 hw => ?_)
        refine xi_ast X tX_c12 hw.1 dX3_search_117 (fun s20 es20 => ?_)
        have hw := hw.2 s20 es20
        refine ts_iload_n X dX3_search_118 1 rfl ?_
        refine ts_if_eq 147 X dX3_search_119 (by decide) (fun c => ?_) (fun c => ?_)
        · have hw := ts_itp hw c
          refine ts_iconst X dX3_search_147 (v := 0) (by decide) ?_
          refine ts_istore_n X dX3_search_148 (by decide) (lv' := [(2, .int 0), (0, .ref (tX_ad v 11)), (3, .int x3)]) rfl ?_
          refine ts_iinc X dX3_search_149 2 rfl (v := x3 + 1) rfl (by decide) (lv' := [(3, .int (x3 + 1)), (2, .int 0), (0, .ref (tX_ad v 11))]) rfl ?_
          refine ts_goto 93 X dX3_search_152 (by decide) ?_
          exact ts_sub [2, 1, 0] rfl (hX93 _ _ _ hw)
        · have hw := ts_itn hw c
          refine ts_aload_n X dX3_search_122 0 rfl ?_
          refine gf_X3_24 X dX3_search_123 ?_
          refine gf_X3_64 X (tX_Tc 3 (by decide) rfl) (q := 53) rfl dX3_search_126 ?_
          refine ts_iload_n X dX3_search_129 2 rfl ?_
          refine xz_ald X (tX_a4 (tX_Tc 3 (by decide) rfl) rfl) hw.1 dX3_search_130 ?_
          have hw := hw.2
          refine ts_if_ne 143 X dX3_search_131 (by decide) (fun c => ?_) (fun c => ?_)
          · have hw := ts_itn hw c
            refine ts_iconst X dX3_search_143 (v := 1) (by decide) ?_
            refine ts_goto 148 X dX3_search_144 (by decide) ?_
            refine ts_istore_n X dX3_search_148 (by decide) (lv' := [(2, .int 1), (0, .ref (tX_ad v 11)), (3, .int x3)]) rfl ?_
            refine ts_iinc X dX3_search_149 2 rfl (v := x3 + 1) rfl (by decide) (lv' := [(3, .int (x3 + 1)), (2, .int 1), (0, .ref (tX_ad v 11))]) rfl ?_
            refine ts_goto 93 X dX3_search_152 (by decide) ?_
            exact ts_sub [2, 1, 0] rfl (hX93 _ _ _ hw)
          · have hw := ts_itp hw c
            refine ts_aload_n X dX3_search_134 0 rfl ?_
            refine gf_X3_9 X dX3_search_135 ?_
            refine ts_iload_n X dX3_search_138 2 rfl ?_
            refine xi_ald X tX_c12 hw.1 dX3_search_139 ?_
            have hw := hw.2
            refine ts_if_eq 147 X dX3_search_140 (by decide) (fun c => ?_) (fun c => ?_)
            · have hw := ts_itp hw c
              refine ts_iconst X dX3_search_147 (v := 0) (by decide) ?_
              refine ts_istore_n X dX3_search_148 (by decide) (lv' := [(2, .int 0), (0, .ref (tX_ad v 11)), (3, .int x3)]) rfl ?_
              refine ts_iinc X dX3_search_149 2 rfl (v := x3 + 1) rfl (by decide) (lv' := [(3, .int (x3 + 1)), (2, .int 0), (0, .ref (tX_ad v 11))]) rfl ?_
              refine ts_goto 93 X dX3_search_152 (by decide) ?_
              exact ts_sub [2, 1, 0] rfl (hX93 _ _ _ hw)
            · have hw := ts_itn hw c
              refine ts_iconst X dX3_search_143 (v := 1) (by decide) ?_
              refine ts_goto 148 X dX3_search_144 (by decide) ?_
              refine ts_istore_n X dX3_search_148 (by decide) (lv' := [(2, .int 1), (0, .ref (tX_ad v 11)), (3, .int x3)]) rfl ?_
              refine ts_iinc X dX3_search_149 2 rfl (v := x3 + 1) rfl (by decide) (lv' := [(3, .int (x3 + 1)), (2, .int 1), (0, .ref (tX_ad v 11))]) rfl ?_
              refine ts_goto 93 X dX3_search_152 (by decide) ?_
              exact ts_sub [2, 1, 0] rfl (hX93 _ _ _ hw)
    exact hw _ (fun σ x2 x3 h => key _ (fun _ _ _ h => h) σ x2 x3 h)
  have J58 : ∀ (σ : ts_S) (x2 : Int32), wp_X3_search_l58 K t1 σ x2 → ts_G g (tX_w v) 4 σ 58 [(0, .ref (tX_ad v 11)), (2, .int x2)] [] := by
    intro  σ x2 hw
    have key : ∀ X58 : ts_S → Int32 → Prop, (∀ (σ : ts_S) (x2 : Int32), X58 σ x2 → ts_G g (tX_w v) 4 σ 58 [(0, .ref (tX_ad v 11)), (2, .int x2)] []) → ∀ (σ : ts_S) (x2 : Int32), wp_X3_search_b58 K X58 t1  σ x2 → ts_G g (tX_w v) 4 σ 58 [(0, .ref (tX_ad v 11)), (2, .int x2)] [] := by
      intro X58 hX58
      intro σ x2 hw
      unfold wp_X3_search_b58 at hw
      refine ts_iload_n X dX3_search_58 1 rfl ?_
      refine ts_aload_n X dX3_search_59 0 rfl ?_
      refine gf_X3_24 X dX3_search_60 ?_
      refine gf_X3_38 X (tX_Tc 3 (by decide) rfl) (q := 23) rfl dX3_search_63 ?_
      refine gf_X3_54 X (tX_Lp 49) dX3_search_66 ?_
      refine ts_icmp_ge 89 X dX3_search_69 (by decide) (fun c => ?_) (fun c => ?_)
      · have hw := ts_itp hw c
        refine ts_iconst X dX3_search_89 (v := 1) (by decide) ?_
        refine ts_istore_n X dX3_search_90 (by decide) (lv' := [(2, .int 1), (0, .ref (tX_ad v 11))]) rfl ?_
        refine ts_iconst X dX3_search_91 (v := 0) (by decide) ?_
        refine ts_istore_n X dX3_search_92 (by decide) (lv' := [(3, .int 0), (2, .int 1), (0, .ref (tX_ad v 11))]) rfl ?_
        exact ts_sub [2, 1, 0] rfl (J93  _ _ _ hw)
      · have hw := ts_itn hw c
        refine ts_aload_n X dX3_search_72 0 rfl ?_
        refine gf_X3_15 X dX3_search_73 ?_
        refine ts_iload_n X dX3_search_76 1 rfl ?_
        refine ts_aload_n X dX3_search_77 0 rfl ?_
        refine ts_iload_n X dX3_search_78 1 rfl ?_
        refine ts_callVi (w := tX_w v) X (k := 11) (by decide : 11 < 151) rfl rfl rfl (As := [.int x2]) (ct_X3_needOfNextEasier g.2.1 v hi _ _ _ hw) ok_X3_needOfNextEasier cw_X3_57 (ts_le hgn (by decide)) (by decide) rfl rfl (Nat.le_of_ble_eq_true rfl) dX3_search_79 (fun r21 s22 hw => ?_)
        refine xi_ast X tX_c13 hw.1 dX3_search_82 (fun s23 es23 => ?_)
        have hw := hw.2 s23 es23
        refine ts_iinc X dX3_search_83 1 rfl (v := x2 + 1) rfl (by decide) (lv' := [(2, .int (x2 + 1)), (0, .ref (tX_ad v 11))]) rfl ?_
        refine ts_goto 58 X dX3_search_86 (by decide) ?_
        exact ts_sub [1, 0] rfl (hX58 _ _ hw)
    exact hw _ (fun σ x2 h => key _ (fun _ _ h => h) σ x2 h)
  have J37 : ∀ (σ : ts_S) (x2 : Int32), wp_X3_search_l37 K t1 σ x2 → ts_G g (tX_w v) 4 σ 37 [(0, .ref (tX_ad v 11)), (2, .int x2)] [] := by
    intro  σ x2 hw
    have key : ∀ X37 : ts_S → Int32 → Prop, (∀ (σ : ts_S) (x2 : Int32), X37 σ x2 → ts_G g (tX_w v) 4 σ 37 [(0, .ref (tX_ad v 11)), (2, .int x2)] []) → ∀ (σ : ts_S) (x2 : Int32), wp_X3_search_b37 K X37 t1  σ x2 → ts_G g (tX_w v) 4 σ 37 [(0, .ref (tX_ad v 11)), (2, .int x2)] [] := by
      intro X37 hX37
      intro σ x2 hw
      unfold wp_X3_search_b37 at hw
      refine ts_iload_n X dX3_search_37 1 rfl ?_
      refine ts_bipush X dX3_search_38 (v := 10) (by decide) ?_
      refine ts_icmp_ge 56 X dX3_search_40 (by decide) (fun c => ?_) (fun c => ?_)
      · have hw := ts_itp hw c
        refine ts_iconst X dX3_search_56 (v := 0) (by decide) ?_
        refine ts_istore_n X dX3_search_57 (by decide) (lv' := [(2, .int 0), (0, .ref (tX_ad v 11))]) rfl ?_
        exact ts_sub [1, 0] rfl (J58  _ _ hw)
      · have hw := ts_itn hw c
        refine ts_aload_n X dX3_search_43 0 rfl ?_
        refine gf_X3_18 X dX3_search_44 ?_
        refine ts_iload_n X dX3_search_47 1 rfl ?_
        refine ts_iconst X dX3_search_48 (v := 0) (by decide) ?_
        refine xi_ast X tX_c14 hw.1 dX3_search_49 (fun s24 es24 => ?_)
        have hw := hw.2 s24 es24
        refine ts_iinc X dX3_search_50 1 rfl (v := x2 + 1) rfl (by decide) (lv' := [(2, .int (x2 + 1)), (0, .ref (tX_ad v 11))]) rfl ?_
        refine ts_goto 37 X dX3_search_53 (by decide) ?_
        exact ts_sub [1, 0] rfl (hX37 _ _ hw)
    exact hw _ (fun σ x2 h => key _ (fun _ _ h => h) σ x2 h)
  unfold wp_X3_search at hw
  show ts_G g (tX_w v) 4 σ 0 [(0, .ref (tX_ad v 11)), (1, .ref (tX_ad v t1))] []
  refine ts_aload_n X dX3_search_0 0 rfl ?_
  refine gf_X3_24 X dX3_search_1 ?_
  refine ts_aload_n X dX3_search_4 1 rfl ?_
  refine ts_callVv (w := tX_w v) X (k := 49) ((tX_Tc 3 (by decide) rfl)).lt (tX_eT (tX_Tc 3 (by decide) rfl) _) rfl rfl (As := [.ref (tX_ad v t1)]) (ct_X8_standAs g.2.1 v hi _ _ _ _ (tX_Tc 3 (by decide) rfl) ht1 hw) ok_X8_standAs cw_X3_28 (ts_le hgn (by decide)) (by decide) rfl rfl (Nat.le_of_ble_eq_true rfl) dX3_search_5 (fun s26 hw => ?_)
  refine ts_aload_n X dX3_search_8 0 rfl ?_
  refine ts_iconst X dX3_search_9 (v := (-1)) (by decide) ?_
  refine pf_X3_34 X dX3_search_10 (fun s27 es27 => ?_)
  have hw := hw s27 es27
  refine ts_aload_n X dX3_search_13 0 rfl ?_
  refine ts_aload_n X dX3_search_14 0 rfl ?_
  refine gf_X3_24 X dX3_search_15 ?_
  refine gf_X3_38 X (tX_Tc 3 (by decide) rfl) (q := 23) rfl dX3_search_18 ?_
  refine gf_X3_42 X (tX_Lp 49) dX3_search_21 ?_
  refine ts_aload_n X dX3_search_24 0 rfl ?_
  refine gf_X3_24 X dX3_search_25 ?_
  refine ts_callVi (w := tX_w v) X (k := 49) ((tX_Tc 3 (by decide) rfl)).lt (tX_eT (tX_Tc 3 (by decide) rfl) _) rfl rfl (As := []) (ct_X8_goneMany g.2.1 v hi _ _ _ (tX_Tc 3 (by decide) rfl) hw) ok_X8_goneMany cw_X3_47 (ts_le hgn (by decide)) (by decide) rfl rfl (Nat.le_of_ble_eq_true rfl) dX3_search_28 (fun r28 s29 hw => ?_)
  refine ts_isub X dX3_search_31 ?_
  refine pf_X3_51 X dX3_search_32 (fun s30 es30 => ?_)
  have hw := hw s30 es30
  refine ts_iconst X dX3_search_35 (v := 0) (by decide) ?_
  refine ts_istore_n X dX3_search_36 (by decide) (lv' := [(2, .int 0), (0, .ref (tX_ad v 11)), (1, .ref (tX_ad v t1))]) rfl ?_
  exact ts_sub [1, 0] rfl (J37  _ _ hw)
