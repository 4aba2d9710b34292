set_option maxRecDepth 100000 in
set_option maxHeartbeats 4000000 in
theorem ct_X9_decade (l : Launch) (v : tX_V) (hi : ts_inj 151 (tX_ad v)) (K : Int32 → ts_S → Prop) (σ : ts_S) (a1 : Int32) (a2 : Int32) (a3 : Int32)  (hw : wp_X9_decade K σ a1 a2 a3) : ts_Mi l yX9_decade (Cond.code yX9_decade cX9_decade 5 (some .int)) 6 (tX_w v) [.ref (tX_ad v 0), .int a1, .int a2, .int a3] σ K := by
  refine ts_Mi.of_i (w := tX_w v) hi (by decide +kernel) (Nat.le_of_ble_eq_true rfl) ?_
  intro g hgl hgn X hret
  have J46 : ∀ (σ : ts_S) (x4 : Int32), wp_X9_decade_l46 K a1 a2 a3 σ x4 → ts_G g (tX_w v) 5 σ 46 [(0, .ref (tX_ad v 0)), (1, .int a1), (2, .int a2), (3, .int a3), (4, .int x4)] [] := by
    intro  σ x4 hw
    have key : ∀ X46 : ts_S → Int32 → Prop, (∀ (σ : ts_S) (x4 : Int32), X46 σ x4 → ts_G g (tX_w v) 5 σ 46 [(0, .ref (tX_ad v 0)), (1, .int a1), (2, .int a2), (3, .int a3), (4, .int x4)] []) → ∀ (σ : ts_S) (x4 : Int32), wp_X9_decade_b46 K X46 a1 a2 a3  σ x4 → ts_G g (tX_w v) 5 σ 46 [(0, .ref (tX_ad v 0)), (1, .int a1), (2, .int a2), (3, .int a3), (4, .int x4)] [] := by
      intro X46 hX46
      intro σ x4 hw
      unfold wp_X9_decade_b46 at hw
      refine ts_iload X dX9_decade_46 4 rfl ?_
      refine ts_iload_n X dX9_decade_48 2 rfl ?_
      refine ts_icmp_ge 78 X dX9_decade_49 (by decide) (fun c => ?_) (fun c => ?_)
      · have hw := ts_itp hw c
        refine ts_iload_n X dX9_decade_78 3 rfl ?_
        by_cases c0 : a3 = 0
        · have hw := ts_itp hw c0
          refine ts_lookup (off := 25) 104 X dX9_decade_79 (by decide) (by rw [c0]; first | done | rfl) (by decide) ?_
          refine ts_aload_n X dX9_decade_104 0 rfl ?_
          refine gf_X9_31 X dX9_decade_105 ?_
          refine ts_callVi (w := tX_w v) X (k := 43) ((tX_Tc 2 (by decide) rfl)).lt (tX_eT (tX_Tc 2 (by decide) rfl) _) rfl rfl (As := []) (ct_X8_goneMany g.2.1 v hi _ _ _ (tX_Tc 2 (by decide) rfl) hw) ok_X8_goneMany cw_X9_284 (ts_le hgn (by decide)) (by decide) rfl rfl (Nat.le_of_ble_eq_true rfl) dX9_decade_108 (fun r21 s22 hw => ?_)
          exact hret _ _ _ _ hw dX9_decade_111
        · have hw := ts_itn hw c0
          by_cases c1 : a3 = 1
          · have hw := ts_itp hw c1
            refine ts_lookup (off := 33) 112 X dX9_decade_79 (by decide) (by rw [c1]; first | done | rfl) (by decide) ?_
            refine ts_aload_n X dX9_decade_112 0 rfl ?_
            refine gf_X9_31 X dX9_decade_113 ?_
            refine ts_callVi (w := tX_w v) X (k := 43) ((tX_Tc 2 (by decide) rfl)).lt (tX_eT (tX_Tc 2 (by decide) rfl) _) rfl rfl (As := []) (ct_X8_doneMany g.2.1 v hi _ _ _ (tX_Tc 2 (by decide) rfl) hw) ok_X8_doneMany cw_X9_287 (ts_le hgn (by decide)) (by decide) rfl rfl (Nat.le_of_ble_eq_true rfl) dX9_decade_116 (fun r23 s24 hw => ?_)
            exact hret _ _ _ _ hw dX9_decade_119
          · have hw := ts_itn hw c1
            refine ts_lookup (off := 41) 120 X dX9_decade_79 (by decide) (by show Op.lookupswitch.offset [(0, 25), (1, 33)] 41 _ = 41; rw [lv_osw c0 (by decide : (0 : Int32).toInt = 0), lv_osw c1 (by decide : (1 : Int32).toInt = 1)]; first | done | rfl) (by decide) ?_
            refine ts_aload_n X dX9_decade_120 0 rfl ?_
            refine gf_X9_31 X dX9_decade_121 ?_
            refine ts_callVi (w := tX_w v) X (k := 43) ((tX_Tc 2 (by decide) rfl)).lt (tX_eT (tX_Tc 2 (by decide) rfl) _) rfl rfl (As := []) (ct_X8_stepsTogether g.2.1 v hi _ _ _ (tX_Tc 2 (by decide) rfl) hw) ok_X8_stepsTogether cw_X9_290 (ts_le hgn (by decide)) (by decide) rfl rfl (Nat.le_of_ble_eq_true rfl) dX9_decade_124 (fun r25 s26 hw => ?_)
            exact hret _ _ _ _ hw dX9_decade_127
      · have hw := ts_itn hw c
        refine ts_aload_n X dX9_decade_52 0 rfl ?_
        refine gf_X9_31 X dX9_decade_53 ?_
        refine ts_iload_n X dX9_decade_56 1 rfl ?_
        refine ts_iload X dX9_decade_57 4 rfl ?_
        refine ts_callSi X (As := [.int a1, .int x4]) (ct_X9_drawOf g.2.1 v hi _ _ _ _ hw) ok_X9_drawOf cw_X9_275 (ts_le hgn (by decide)) (by decide) rfl rfl (Nat.le_of_ble_eq_true rfl) dX9_decade_59 (fun r27 s28 hw => ?_)
        refine ts_callVv (w := tX_w v) X (k := 43) ((tX_Tc 2 (by decide) rfl)).lt (tX_eT (tX_Tc 2 (by decide) rfl) _) rfl rfl (As := [.int r27]) (ct_X8_actBy g.2.1 v hi _ _ _ _ (tX_Tc 2 (by decide) rfl) hw) ok_X8_actBy cw_X9_278 (ts_le hgn (by decide)) (by decide) rfl rfl (Nat.le_of_ble_eq_true rfl) dX9_decade_62 (fun s30 hw => ?_)
        refine ts_aload_n X dX9_decade_65 0 rfl ?_
        refine gf_X9_31 X dX9_decade_66 ?_
        refine ts_callVv (w := tX_w v) X (k := 43) ((tX_Tc 2 (by decide) rfl)).lt (tX_eT (tX_Tc 2 (by decide) rfl) _) rfl rfl (As := []) (ct_X8_goYear g.2.1 v hi _ _ _ (tX_Tc 2 (by decide) rfl) hw) ok_X8_goYear cw_X9_281 (ts_le hgn (by decide)) (by decide) rfl rfl (Nat.le_of_ble_eq_true rfl) dX9_decade_69 (fun s32 hw => ?_)
        refine ts_iinc X dX9_decade_72 4 rfl (v := x4 + 1) rfl (by decide) (lv' := [(4, .int (x4 + 1)), (0, .ref (tX_ad v 0)), (1, .int a1), (2, .int a2), (3, .int a3)]) rfl ?_
        refine ts_goto 46 X dX9_decade_75 (by decide) ?_
        exact ts_sub [1, 2, 3, 4, 0] rfl (hX46 _ _ hw)
    exact hw _ (fun σ x4 h => key _ (fun _ _ h => h) σ x4 h)
  unfold wp_X9_decade at hw
  show ts_G g (tX_w v) 5 σ 0 [(0, .ref (tX_ad v 0)), (1, .int a1), (2, .int a2), (3, .int a3)] []
  refine ts_iload_n X dX9_decade_0 1 rfl ?_
  refine ts_iconst X dX9_decade_1 (v := 0) (by decide) ?_
  refine ts_sipush X dX9_decade_2 (v := 9999) (by decide) ?_
  refine ts_callSi X (As := [.int a1, .int 0, .int 9999]) (ct_X9_within g.2.1 v hi _ _ _ _ _ hw) ok_X9_within cw_X9_112 (ts_le hgn (by decide)) (by decide) rfl rfl (Nat.le_of_ble_eq_true rfl) dX9_decade_5 (fun r33 s34 hw => ?_)
  refine ts_if_eq 30 X dX9_decade_8 (by decide) (fun c => ?_) (fun c => ?_)
  · have hw := ts_itp hw c
    refine ts_iconst X dX9_decade_30 (v := (-1)) (by decide) ?_
    exact hret _ _ _ _ hw dX9_decade_31
  · have hw := ts_itn hw c
    refine ts_iload_n X dX9_decade_11 2 rfl ?_
    refine ts_iconst X dX9_decade_12 (v := 1) (by decide) ?_
    refine ts_bipush X dX9_decade_13 (v := 60) (by decide) ?_
    refine ts_callSi X (As := [.int a2, .int 1, .int 60]) (ct_X9_within g.2.1 v hi _ _ _ _ _ hw) ok_X9_within cw_X9_112 (ts_le hgn (by decide)) (by decide) rfl rfl (Nat.le_of_ble_eq_true rfl) dX9_decade_15 (fun r35 s36 hw => ?_)
    refine ts_if_eq 30 X dX9_decade_18 (by decide) (fun c => ?_) (fun c => ?_)
    · have hw := ts_itp hw c
      refine ts_iconst X dX9_decade_30 (v := (-1)) (by decide) ?_
      exact hret _ _ _ _ hw dX9_decade_31
    · have hw := ts_itn hw c
      refine ts_iload_n X dX9_decade_21 3 rfl ?_
      refine ts_iconst X dX9_decade_22 (v := 0) (by decide) ?_
      refine ts_iconst X dX9_decade_23 (v := 2) (by decide) ?_
      refine ts_callSi X (As := [.int a3, .int 0, .int 2]) (ct_X9_within g.2.1 v hi _ _ _ _ _ hw) ok_X9_within cw_X9_112 (ts_le hgn (by decide)) (by decide) rfl rfl (Nat.le_of_ble_eq_true rfl) dX9_decade_24 (fun r37 s38 hw => ?_)
      refine ts_if_ne 32 X dX9_decade_27 (by decide) (fun c => ?_) (fun c => ?_)
      · have hw := ts_itn hw c
        refine ts_aload_n X dX9_decade_32 0 rfl ?_
        refine gf_X9_31 X dX9_decade_33 ?_
        refine ts_aload_n X dX9_decade_36 0 rfl ?_
        refine gf_X9_28 X dX9_decade_37 ?_
        refine ts_callVv (w := tX_w v) X (k := 43) ((tX_Tc 2 (by decide) rfl)).lt (tX_eT (tX_Tc 2 (by decide) rfl) _) rfl rfl (As := [.ref (tX_ad v 31)]) (ct_X8_standAs g.2.1 v hi _ _ _ _ (tX_Tc 2 (by decide) rfl) (tX_Tc 0 (by decide) rfl) hw) ok_X8_standAs cw_X9_210 (ts_le hgn (by decide)) (by decide) rfl rfl (Nat.le_of_ble_eq_true rfl) dX9_decade_40 (fun s40 hw => ?_)
        refine ts_iconst X dX9_decade_43 (v := 0) (by decide) ?_
        refine ts_istore X dX9_decade_44 (by decide) (lv' := [(4, .int 0), (0, .ref (tX_ad v 0)), (1, .int a1), (2, .int a2), (3, .int a3)]) rfl ?_
        exact ts_sub [1, 2, 3, 4, 0] rfl (J46  _ _ hw)
      · have hw := ts_itp hw c
        refine ts_iconst X dX9_decade_30 (v := (-1)) (by decide) ?_
        exact hret _ _ _ _ hw dX9_decade_31
set_option maxRecDepth 100000 in
set_option maxHeartbeats 4000000 in
theorem ct_X9_keep (l : Launch) (v : tX_V) (hi : ts_inj 151 (tX_ad v)) (K : Int32 → ts_S → Prop) (σ : ts_S)   (hw : wp_X9_keep K σ ) : ts_Mi l yX9_keep (Cond.code yX9_keep cX9_keep 1 (some .int)) 2 (tX_w v) [.ref (tX_ad v 0)] σ K := by
  refine ts_Mi.of_i (w := tX_w v) hi (by decide +kernel) (Nat.le_of_ble_eq_true rfl) ?_
  intro g hgl hgn X hret
  unfold wp_X9_keep at hw
  show ts_G g (tX_w v) 1 σ 0 [(0, .ref (tX_ad v 0))] []
  refine ts_aload_n X dX9_keep_0 0 rfl ?_
  refine gf_X9_293 X dX9_keep_1 ?_
  refine ts_iconst X dX9_keep_4 (v := 2) (by decide) ?_
  refine ts_icmp_lt 11 X dX9_keep_5 (by decide) (fun c => ?_) (fun c => ?_)
  · have hw := ts_itp hw c
    refine ts_aload_n X dX9_keep_11 0 rfl ?_
    refine gf_X9_45 X dX9_keep_12 ?_
    refine ts_aload_n X dX9_keep_15 0 rfl ?_
    refine gf_X9_293 X dX9_keep_16 ?_
    have hq5 := hw.1
    refine xa_ald6 X hq5 dX9_keep_19 ?_
    have hw := hw.2
    refine ts_aload_n X dX9_keep_20 0 rfl ?_
    refine gf_X9_28 X dX9_keep_21 ?_
    refine ts_callVv (w := tX_w v) X (k := (61 + 6 * (σ 0 6).toNatClampNeg)) ((tX_Tr hq5 ⟨5, rfl, by decide⟩)).lt (tX_eT (tX_Tr hq5 ⟨5, rfl, by decide⟩) _) rfl rfl (As := [.ref (tX_ad v 31)]) (ct_X8_standAs g.2.1 v hi _ _ _ _ (tX_Tr hq5 ⟨5, rfl, by decide⟩) (tX_Tc 0 (by decide) rfl) hw) ok_X8_standAs cw_X9_210 (ts_le hgn (by decide)) (by decide) rfl rfl (Nat.le_of_ble_eq_true rfl) dX9_keep_24 (fun s7 hw => ?_)
    refine ts_aload_n X dX9_keep_27 0 rfl ?_
    refine ts_dup X dX9_keep_28 rfl ?_
    refine gf_X9_293 X dX9_keep_29 ?_
    refine ts_iconst X dX9_keep_32 (v := 1) (by decide) ?_
    refine ts_iadd X dX9_keep_33 ?_
    refine pf_X9_293 X dX9_keep_34 (fun s8 es8 => ?_)
    have hw := hw s8 es8
    refine ts_aload_n X dX9_keep_37 0 rfl ?_
    refine gf_X9_293 X dX9_keep_38 ?_
    exact hret _ _ _ _ hw dX9_keep_41
  · have hw := ts_itn hw c
    refine ts_bipush X dX9_keep_8 (v := (-3)) (by decide) ?_
    exact hret _ _ _ _ hw dX9_keep_10
set_option maxRecDepth 100000 in
set_option maxHeartbeats 4000000 in
theorem ct_X9_back (l : Launch) (v : tX_V) (hi : ts_inj 151 (tX_ad v)) (K : Int32 → ts_S → Prop) (σ : ts_S)   (hw : wp_X9_back K σ ) : ts_Mi l yX9_back (Cond.code yX9_back cX9_back 1 (some .int)) 2 (tX_w v) [.ref (tX_ad v 0)] σ K := by
  refine ts_Mi.of_i (w := tX_w v) hi (by decide +kernel) (Nat.le_of_ble_eq_true rfl) ?_
  intro g hgl hgn X hret
  unfold wp_X9_back at hw
  show ts_G g (tX_w v) 1 σ 0 [(0, .ref (tX_ad v 0))] []
  refine ts_aload_n X dX9_back_0 0 rfl ?_
  refine gf_X9_293 X dX9_back_1 ?_
  refine ts_if_gt 10 X dX9_back_4 (by decide) (fun c => ?_) (fun c => ?_)
  · have hw := ts_itp hw c
    refine ts_aload_n X dX9_back_10 0 rfl ?_
    refine ts_dup X dX9_back_11 rfl ?_
    refine gf_X9_293 X dX9_back_12 ?_
    refine ts_iconst X dX9_back_15 (v := 1) (by decide) ?_
    refine ts_isub X dX9_back_16 ?_
    refine pf_X9_293 X dX9_back_17 (fun s7 es7 => ?_)
    have hw := hw s7 es7
    refine ts_aload_n X dX9_back_20 0 rfl ?_
    refine gf_X9_28 X dX9_back_21 ?_
    refine ts_aload_n X dX9_back_24 0 rfl ?_
    refine gf_X9_45 X dX9_back_25 ?_
    refine ts_aload_n X dX9_back_28 0 rfl ?_
    refine gf_X9_293 X dX9_back_29 ?_
    have hq8 := hw.1
    refine xa_ald6 X hq8 dX9_back_32 ?_
    have hw := hw.2
    refine ts_callVv (w := tX_w v) X (k := 31) ((tX_Tc 0 (by decide) rfl)).lt (tX_eT (tX_Tc 0 (by decide) rfl) _) rfl rfl (As := [.ref (tX_ad v (61 + 6 * (s7 0 6).toNatClampNeg))]) (ct_X8_standAs g.2.1 v hi _ _ _ _ (tX_Tc 0 (by decide) rfl) (tX_Tr hq8 ⟨5, rfl, by decide⟩) hw) ok_X8_standAs cw_X9_210 (ts_le hgn (by decide)) (by decide) rfl rfl (Nat.le_of_ble_eq_true rfl) dX9_back_33 (fun s10 hw => ?_)
    refine ts_aload_n X dX9_back_36 0 rfl ?_
    refine gf_X9_37 X dX9_back_37 ?_
    refine ts_callVv (w := tX_w v) X (k := 4) (by decide : 4 < 151) rfl rfl rfl (As := []) (ct_X1_clear g.2.1 v hi _ _  hw) ok_X1_clear cw_X9_296 (ts_le hgn (by decide)) (by decide) rfl rfl (Nat.le_of_ble_eq_true rfl) dX9_back_40 (fun s12 hw => ?_)
    refine ts_aload_n X dX9_back_43 0 rfl ?_
    refine gf_X9_293 X dX9_back_44 ?_
    exact hret _ _ _ _ hw dX9_back_47
  · have hw := ts_itn hw c
    refine ts_bipush X dX9_back_7 (v := (-2)) (by decide) ?_
    exact hret _ _ _ _ hw dX9_back_9
set_option maxRecDepth 100000 in
set_option maxHeartbeats 4000000 in
theorem ct_X9_count (l : Launch) (v : tX_V) (hi : ts_inj 151 (tX_ad v)) (K : Int32 → ts_S → Prop) (σ : ts_S) (a1 : Int32)  (hw : wp_X9_count K σ a1) : ts_Mi l yX9_count (Cond.code yX9_count cX9_count 2 (some .int)) 6 (tX_w v) [.ref (tX_ad v 0), .int a1] σ K := by
  refine ts_Mi.of_i (w := tX_w v) hi (by decide +kernel) (Nat.le_of_ble_eq_true rfl) ?_
  intro g hgl hgn X hret
  unfold wp_X9_count at hw
  show ts_G g (tX_w v) 2 σ 0 [(0, .ref (tX_ad v 0)), (1, .int a1)] []
  refine ts_iload_n X dX9_count_0 1 rfl ?_
  by_cases c0 : a1 = 0
  · have hw := ts_itp hw c0
    refine ts_tableIn 60 X dX9_count_1 c0 (by decide) (by decide) rfl (by decide) ?_
    refine ts_aload_n X dX9_count_60 0 rfl ?_
    refine gf_X9_28 X dX9_count_61 ?_
    refine gf_X9_119 X (tX_Tc 0 (by decide) rfl) (q := 23) rfl dX9_count_64 ?_
    refine gf_X9_297 X (tX_Lp 31) dX9_count_67 ?_
    exact hret _ _ _ _ hw dX9_count_70
  · have hw := ts_itn hw c0
    by_cases c1 : a1 = 1
    · have hw := ts_itp hw c1
      refine ts_tableIn 71 X dX9_count_1 c1 (by decide) (by decide) rfl (by decide) ?_
      refine ts_aload_n X dX9_count_71 0 rfl ?_
      refine gf_X9_28 X dX9_count_72 ?_
      refine gf_X9_119 X (tX_Tc 0 (by decide) rfl) (q := 23) rfl dX9_count_75 ?_
      refine gf_X9_123 X (tX_Lp 31) dX9_count_78 ?_
      exact hret _ _ _ _ hw dX9_count_81
    · have hw := ts_itn hw c1
      by_cases c2 : a1 = 2
      · have hw := ts_itp hw c2
        refine ts_tableIn 82 X dX9_count_1 c2 (by decide) (by decide) rfl (by decide) ?_
        refine ts_aload_n X dX9_count_82 0 rfl ?_
        refine gf_X9_28 X dX9_count_83 ?_
        refine gf_X9_119 X (tX_Tc 0 (by decide) rfl) (q := 23) rfl dX9_count_86 ?_
        refine gf_X9_164 X (tX_Lp 31) dX9_count_89 ?_
        exact hret _ _ _ _ hw dX9_count_92
      · have hw := ts_itn hw c2
        by_cases c3 : a1 = 3
        · have hw := ts_itp hw c3
          refine ts_tableIn 93 X dX9_count_1 c3 (by decide) (by decide) rfl (by decide) ?_
          refine ts_aload_n X dX9_count_93 0 rfl ?_
          refine gf_X9_28 X dX9_count_94 ?_
          refine gf_X9_180 X (tX_Tc 0 (by decide) rfl) dX9_count_97 ?_
          exact hret _ _ _ _ hw dX9_count_100
        · have hw := ts_itn hw c3
          by_cases c4 : a1 = 4
          · have hw := ts_itp hw c4
            refine ts_tableIn 101 X dX9_count_1 c4 (by decide) (by decide) rfl (by decide) ?_
            refine ts_aload_n X dX9_count_101 0 rfl ?_
            refine gf_X9_28 X dX9_count_102 ?_
            refine ts_callVi (w := tX_w v) X (k := 31) ((tX_Tc 0 (by decide) rfl)).lt (tX_eT (tX_Tc 0 (by decide) rfl) _) rfl rfl (As := []) (ct_X8_goneMany g.2.1 v hi _ _ _ (tX_Tc 0 (by decide) rfl) hw) ok_X8_goneMany cw_X9_284 (ts_le hgn (by decide)) (by decide) rfl rfl (Nat.le_of_ble_eq_true rfl) dX9_count_105 (fun r9 s10 hw => ?_)
            exact hret _ _ _ _ hw dX9_count_108
          · have hw := ts_itn hw c4
            by_cases c5 : a1 = 5
            · have hw := ts_itp hw c5
              refine ts_tableIn 109 X dX9_count_1 c5 (by decide) (by decide) rfl (by decide) ?_
              refine ts_aload_n X dX9_count_109 0 rfl ?_
              refine gf_X9_28 X dX9_count_110 ?_
              refine ts_callVi (w := tX_w v) X (k := 31) ((tX_Tc 0 (by decide) rfl)).lt (tX_eT (tX_Tc 0 (by decide) rfl) _) rfl rfl (As := []) (ct_X8_frozenBits g.2.1 v hi _ _ _ (tX_Tc 0 (by decide) rfl) hw) ok_X8_frozenBits cw_X9_253 (ts_le hgn (by decide)) (by decide) rfl rfl (Nat.le_of_ble_eq_true rfl) dX9_count_113 (fun r11 s12 hw => ?_)
              refine ts_callSi X (As := [.int r11]) (ct_J6_bitCount_0f7a4 g.2.1 v hi _ _ _ hw) ok_J6_bitCount_0f7a4 cw_X9_264 (ts_le hgn (by decide)) (by decide) rfl rfl (Nat.le_of_ble_eq_true rfl) dX9_count_116 (fun r13 s14 hw => ?_)
              exact hret _ _ _ _ hw dX9_count_119
            · have hw := ts_itn hw c5
              by_cases c6 : a1 = 6
              · have hw := ts_itp hw c6
                refine ts_tableIn 120 X dX9_count_1 c6 (by decide) (by decide) rfl (by decide) ?_
                refine ts_aload_n X dX9_count_120 0 rfl ?_
                refine gf_X9_28 X dX9_count_121 ?_
                refine ts_callVi (w := tX_w v) X (k := 31) ((tX_Tc 0 (by decide) rfl)).lt (tX_eT (tX_Tc 0 (by decide) rfl) _) rfl rfl (As := []) (ct_X8_doneMany g.2.1 v hi _ _ _ (tX_Tc 0 (by decide) rfl) hw) ok_X8_doneMany cw_X9_287 (ts_le hgn (by decide)) (by decide) rfl rfl (Nat.le_of_ble_eq_true rfl) dX9_count_124 (fun r15 s16 hw => ?_)
                exact hret _ _ _ _ hw dX9_count_127
              · have hw := ts_itn hw c6
                by_cases c7 : a1 = 7
                · have hw := ts_itp hw c7
                  refine ts_tableIn 128 X dX9_count_1 c7 (by decide) (by decide) rfl (by decide) ?_
                  refine ts_aload_n X dX9_count_128 0 rfl ?_
                  refine gf_X9_52 X dX9_count_129 ?_
                  refine gf_X9_247 X dX9_count_132 ?_
                  exact hret _ _ _ _ hw dX9_count_135
                · have hw := ts_itn hw c7
                  by_cases c8 : a1 = 8
                  · have hw := ts_itp hw c8
                    refine ts_tableIn 136 X dX9_count_1 c8 (by decide) (by decide) rfl (by decide) ?_
                    refine ts_aload_n X dX9_count_136 0 rfl ?_
                    refine gf_X9_37 X dX9_count_137 ?_
                    refine gf_X9_204 X dX9_count_140 ?_
                    exact hret _ _ _ _ hw dX9_count_143
                  · have hw := ts_itn hw c8
                    by_cases c9 : a1 = 9
                    · have hw := ts_itp hw c9
                      refine ts_tableIn 144 X dX9_count_1 c9 (by decide) (by decide) rfl (by decide) ?_
                      refine ts_aload_n X dX9_count_144 0 rfl ?_
                      refine gf_X9_293 X dX9_count_145 ?_
                      exact hret _ _ _ _ hw dX9_count_148
                    · have hw := ts_itn hw c9
                      by_cases c10 : a1 = 10
                      · have hw := ts_itp hw c10
                        refine ts_tableIn 149 X dX9_count_1 c10 (by decide) (by decide) rfl (by decide) ?_
                        refine ts_aload_n X dX9_count_149 0 rfl ?_
                        refine gf_X9_10 X dX9_count_150 ?_
                        refine gf_X9_116 X dX9_count_153 ?_
                        exact hret _ _ _ _ hw dX9_count_156
                      · have hw := ts_itn hw c10
                        refine ts_tableOut 157 X dX9_count_1 (ts_out [0, 1, 2, 3, 4, 5, 6, 7, 8, 9, 10] ⟨c0, c1, c2, c3, c4, c5, c6, c7, c8, c9, c10, trivial⟩ (by decide)) (by decide) ?_
                        refine ts_iconst X dX9_count_157 (v := (-1)) (by decide) ?_
                        exact hret _ _ _ _ hw dX9_count_158
