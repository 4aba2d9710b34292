set_option maxRecDepth 100000 in
set_option maxHeartbeats 4000000 in
theorem ct_X10_posting (l : Launch) (v : tX_V) (hi : ts_inj 15 (tX_ad v)) (K : Int32 → ts_S → Prop) (σ : ts_S) (a1 : Int32)  (hw : wp_X10_posting K σ a1) : ts_Mi l yX10_posting (Cond.code yX10_posting cX10_posting 5 (some .int)) 6 (tM_w v) [.ref (tX_ad v 0), .int a1] σ K := by
  refine ts_Mi.of_i (w := tM_w v) hi (by decide +kernel) (Nat.le_of_ble_eq_true rfl) ?_
  intro g hgl hgn X hret
  have J57 : ∀ (σ : ts_S) (x2 : Int32) (x3 : Int32), wp_X10_posting_l57 K a1 σ x2 x3 → ts_G g (tM_w v) 5 σ 57 [(0, .ref (tX_ad v 0)), (1, .int a1), (2, .int x2), (3, .int x3)] [] := by
    intro  σ x2 x3 hw
    have key : ∀ X57 : ts_S → Int32 → Int32 → Prop, (∀ (σ : ts_S) (x2 : Int32) (x3 : Int32), X57 σ x2 x3 → ts_G g (tM_w v) 5 σ 57 [(0, .ref (tX_ad v 0)), (1, .int a1), (2, .int x2), (3, .int x3)] []) → ∀ (σ : ts_S) (x2 : Int32) (x3 : Int32), wp_X10_posting_b57 K X57 a1  σ x2 x3 → ts_G g (tM_w v) 5 σ 57 [(0, .ref (tX_ad v 0)), (1, .int a1), (2, .int x2), (3, .int x3)] [] := by
      intro X57 hX57
      have J103 : ∀ (σ : ts_S) (x2 : Int32), wp_X10_posting_j103 K X57 a1 σ x2 → ts_G g (tM_w v) 5 σ 103 [(0, .ref (tX_ad v 0)), (1, .int a1), (2, .int x2)] [] := by
        intro  σ x2 hw
        unfold wp_X10_posting_j103 at hw
        refine ts_aload_n X dX10_posting_103 0 rfl ?_
        refine ts_callVi (w := tM_w v) X (k := 0) (by decide : 0 < 15) rfl rfl rfl (As := []) (ct_X10_putsNext g.2.1 v hi _ _  hw) ok_X10_putsNext cw_X10_193 (ts_le hgn (by decide)) (by decide) rfl rfl (Nat.le_of_ble_eq_true rfl) dX10_posting_104 (fun r20 s21 hw => ?_)
        refine ts_istore_n X dX10_posting_107 (by decide) (lv' := [(3, .int r20), (0, .ref (tX_ad v 0)), (1, .int a1), (2, .int x2)]) rfl ?_
        refine ts_goto 57 X dX10_posting_108 (by decide) ?_
        exact ts_sub [1, 2, 3, 0] rfl (hX57 _ _ _ hw)
      have J77 : ∀ (σ : ts_S) (x2 : Int32) (y0 : Int32), wp_X10_posting_j77 K X57 a1 σ x2 y0 → ts_G g (tM_w v) 5 σ 77 [(0, .ref (tX_ad v 0)), (1, .int a1), (2, .int x2)] [.int y0] := by
        intro  σ x2 y0 hw
        unfold wp_X10_posting_j77 at hw
        refine ts_istore X dX10_posting_77 (by decide) (lv' := [(4, .int y0), (0, .ref (tX_ad v 0)), (1, .int a1), (2, .int x2)]) rfl ?_
        refine ts_iload X dX10_posting_79 0 rfl ?_
        refine ts_iload_n X dX10_posting_81 3 rfl ?_
        refine ts_icmp_le 103 X dX10_posting_82 (by decide) (fun c => ?_) (fun c => ?_)
        · have hw := ts_itp hw c
          exact ts_sub [1, 2, 3] rfl (J103  _ _ hw)
        · have hw := ts_itn hw c
          refine ts_iload X dX10_posting_85 0 rfl ?_
          refine ts_istore_n X dX10_posting_87 (by decide) (lv' := [(2, .int y0), (4, .int y0), (0, .ref (tX_ad v 0)), (1, .int a1)]) rfl ?_
          refine ts_aload_n X dX10_posting_88 2 rfl ?_
          refine gf_X10_46 X dX10_posting_89 ?_
          refine ts_iconst X dX10_posting_92 (v := 0) (by decide) ?_
          refine ts_aload_n X dX10_posting_93 2 rfl ?_
          refine gf_X10_43 X dX10_posting_94 ?_
          refine ts_iconst X dX10_posting_97 (v := 3) (by decide) ?_
          refine ts_bipush X dX10_posting_98 (v := 6) (by decide) ?_
          refine ts_callSv X (As := [.ref (tX_ad v 13), .int 0, .ref (tX_ad v 12), .int 3, .int 6]) (ct_X10_copies g.2.1 v hi _ _ _ _ _ _ _ tM_c13 tM_c12 hw) ok_X10_copies cw_X10_123 (ts_le hgn (by decide)) (by decide) rfl rfl (Nat.le_of_ble_eq_true rfl) dX10_posting_100 (fun s23 hw => ?_)
          exact ts_sub [2, 3, 0] rfl (J103  _ _ hw)
      intro σ x2 x3 hw
      unfold wp_X10_posting_b57 at hw
      refine ts_iload_n X dX10_posting_57 3 rfl ?_
      refine ts_if_eq 111 X dX10_posting_58 (by decide) (fun c => ?_) (fun c => ?_)
      · have hw := ts_itp hw c
        refine ts_iload_n X dX10_posting_111 1 rfl ?_
        refine ts_if_lt 119 X dX10_posting_112 (by decide) (fun c => ?_) (fun c => ?_)
        · have hw := ts_itp hw c
          refine ts_iload_n X dX10_posting_119 2 rfl ?_
          refine ts_goto 147 X dX10_posting_120 (by decide) ?_
          exact hret _ _ _ _ hw dX10_posting_147
        · have hw := ts_itn hw c
          refine ts_iload_n X dX10_posting_115 2 rfl ?_
          refine ts_if_ge 123 X dX10_posting_116 (by decide) (fun c => ?_) (fun c => ?_)
          · have hw := ts_itp hw c
            refine ts_aload_n X dX10_posting_123 0 rfl ?_
            refine gf_X10_16 X dX10_posting_124 ?_
            refine ts_iconst X dX10_posting_127 (v := 1) (by decide) ?_
            refine mi_ald X tM_c3 hw.1 dX10_posting_128 ?_
            have hw := hw.2
            refine ts_iload_n X dX10_posting_129 1 rfl ?_
            refine ts_callSi X (As := [.int (σ 3 (1 : Int32).toNatClampNeg), .int a1]) (ct_X10_has g.2.1 v hi _ _ _ _ hw) ok_X10_has cw_X10_139 (ts_le hgn (by decide)) (by decide) rfl rfl (Nat.le_of_ble_eq_true rfl) dX10_posting_130 (fun r24 s25 hw => ?_)
            refine ts_if_eq 141 X dX10_posting_133 (by decide) (fun c => ?_) (fun c => ?_)
            · have hw := ts_itp hw c
              refine ts_aload_n X dX10_posting_141 0 rfl ?_
              refine gf_X10_46 X dX10_posting_142 ?_
              refine ts_iload_n X dX10_posting_145 1 rfl ?_
              refine mi_ald X tM_c13 hw.1 dX10_posting_146 ?_
              have hw := hw.2
              exact hret _ _ _ _ hw dX10_posting_147
            · have hw := ts_itn hw c
              refine ts_bipush X dX10_posting_136 (v := (-4)) (by decide) ?_
              refine ts_goto 147 X dX10_posting_138 (by decide) ?_
              exact hret _ _ _ _ hw dX10_posting_147
          · have hw := ts_itn hw c
            refine ts_iload_n X dX10_posting_119 2 rfl ?_
            refine ts_goto 147 X dX10_posting_120 (by decide) ?_
            exact hret _ _ _ _ hw dX10_posting_147
      · have hw := ts_itn hw c
        refine ts_aload_n X dX10_posting_61 0 rfl ?_
        refine ts_callVi (w := tM_w v) X (k := 0) (by decide : 0 < 15) rfl rfl rfl (As := []) (ct_X10_frozen g.2.1 v hi _ _  hw) ok_X10_frozen cw_X10_150 (ts_le hgn (by decide)) (by decide) rfl rfl (Nat.le_of_ble_eq_true rfl) dX10_posting_62 (fun r26 s27 hw => ?_)
        refine ts_if_ne 75 X dX10_posting_65 (by decide) (fun c => ?_) (fun c => ?_)
        · have hw := ts_itn hw c
          refine ts_bipush X dX10_posting_75 (v := (-4)) (by decide) ?_
          exact ts_sub [0, 1, 2] rfl (J77  _ _ _ hw)
        · have hw := ts_itp hw c
          refine ts_aload_n X dX10_posting_68 0 rfl ?_
          refine ts_callVi (w := tM_w v) X (k := 0) (by decide : 0 < 15) rfl rfl rfl (As := []) (ct_X10_done g.2.1 v hi _ _  hw) ok_X10_done cw_X10_190 (ts_le hgn (by decide)) (by decide) rfl rfl (Nat.le_of_ble_eq_true rfl) dX10_posting_69 (fun r28 s29 hw => ?_)
          refine ts_goto 77 X dX10_posting_72 (by decide) ?_
          exact ts_sub [0, 1, 2] rfl (J77  _ _ _ hw)
    exact hw _ (fun σ x2 x3 h => key _ (fun _ _ _ h => h) σ x2 x3 h)
  have J22 : ∀ (σ : ts_S) (x2 : Int32), wp_X10_posting_l22 K a1 σ x2 → ts_G g (tM_w v) 5 σ 22 [(0, .ref (tX_ad v 0)), (1, .int a1), (2, .int x2)] [] := by
    intro  σ x2 hw
    have key : ∀ X22 : ts_S → Int32 → Prop, (∀ (σ : ts_S) (x2 : Int32), X22 σ x2 → ts_G g (tM_w v) 5 σ 22 [(0, .ref (tX_ad v 0)), (1, .int a1), (2, .int x2)] []) → ∀ (σ : ts_S) (x2 : Int32), wp_X10_posting_b22 K X22 a1  σ x2 → ts_G g (tM_w v) 5 σ 22 [(0, .ref (tX_ad v 0)), (1, .int a1), (2, .int x2)] [] := by
      intro X22 hX22
      intro σ x2 hw
      unfold wp_X10_posting_b22 at hw
      refine ts_iload_n X dX10_posting_22 2 rfl ?_
      refine ts_aload_n X dX10_posting_23 0 rfl ?_
      refine gf_X10_73 X dX10_posting_24 ?_
      refine ts_icmp_ge 52 X dX10_posting_27 (by decide) (fun c => ?_) (fun c => ?_)
      · have hw := ts_itp hw c
        refine ts_bipush X dX10_posting_52 (v := (-4)) (by decide) ?_
        refine ts_istore_n X dX10_posting_54 (by decide) (lv' := [(2, .int (-4)), (0, .ref (tX_ad v 0)), (1, .int a1)]) rfl ?_
        refine ts_iconst X dX10_posting_55 (v := 1) (by decide) ?_
        refine ts_istore_n X dX10_posting_56 (by decide) (lv' := [(3, .int 1), (2, .int (-4)), (0, .ref (tX_ad v 0)), (1, .int a1)]) rfl ?_
        exact ts_sub [2, 3, 1, 0] rfl (J57  _ _ _ hw)
      · have hw := ts_itn hw c
        refine ts_aload_n X dX10_posting_30 0 rfl ?_
        refine gf_X10_43 X dX10_posting_31 ?_
        refine ts_iconst X dX10_posting_34 (v := 3) (by decide) ?_
        refine ts_iload_n X dX10_posting_35 2 rfl ?_
        refine ts_iadd X dX10_posting_36 ?_
        refine ts_aload_n X dX10_posting_37 0 rfl ?_
        refine ts_iload_n X dX10_posting_38 2 rfl ?_
        refine ts_callVi (w := tM_w v) X (k := 0) (by decide : 0 < 15) rfl rfl rfl (As := [.int x2]) (ct_X10_mayBe g.2.1 v hi _ _ _ hw) ok_X10_mayBe cw_X10_184 (ts_le hgn (by decide)) (by decide) rfl rfl (Nat.le_of_ble_eq_true rfl) dX10_posting_39 (fun r30 s31 hw => ?_)
        refine ts_callSi X (As := [.int r30]) (ct_X10_leastOf g.2.1 v hi _ _ _ hw) ok_X10_leastOf cw_X10_187 (ts_le hgn (by decide)) (by decide) rfl rfl (Nat.le_of_ble_eq_true rfl) dX10_posting_42 (fun r32 s33 hw => ?_)
        refine mi_ast X tM_c12 hw.1 dX10_posting_45 (fun s34 es34 => ?_)
        have hw := hw.2 s34 es34
        refine ts_iinc X dX10_posting_46 2 rfl (v := x2 + 1) rfl (by decide) (lv' := [(2, .int (x2 + 1)), (0, .ref (tX_ad v 0)), (1, .int a1)]) rfl ?_
        refine ts_goto 22 X dX10_posting_49 (by decide) ?_
        exact ts_sub [1, 2, 0] rfl (hX22 _ _ hw)
    exact hw _ (fun σ x2 h => key _ (fun _ _ h => h) σ x2 h)
  unfold wp_X10_posting at hw
  show ts_G g (tM_w v) 5 σ 0 [(0, .ref (tX_ad v 0)), (1, .int a1)] []
  refine ts_iload_n X dX10_posting_0 1 rfl ?_
  refine ts_iconst X dX10_posting_1 (v := (-1)) (by decide) ?_
  refine ts_aload_n X dX10_posting_2 0 rfl ?_
  refine gf_X10_73 X dX10_posting_3 ?_
  refine ts_iconst X dX10_posting_6 (v := 1) (by decide) ?_
  refine ts_isub X dX10_posting_7 ?_
  refine ts_callSi X (As := [.int a1, .int (-1), .int ((σ 0 1) - 1)]) (ct_X10_in g.2.1 v hi _ _ _ _ _ hw) ok_X10_in cw_X10_76 (ts_le hgn (by decide)) (by decide) rfl rfl (Nat.le_of_ble_eq_true rfl) dX10_posting_8 (fun r35 s36 hw => ?_)
  refine ts_if_ne 16 X dX10_posting_11 (by decide) (fun c => ?_) (fun c => ?_)
  · have hw := ts_itn hw c
    refine ts_aload_n X dX10_posting_16 0 rfl ?_
    refine ts_callVv (w := tM_w v) X (k := 0) (by decide : 0 < 15) rfl rfl rfl (As := []) (ct_X10_asItIs g.2.1 v hi _ _  hw) ok_X10_asItIs cw_X10_159 (ts_le hgn (by decide)) (by decide) rfl rfl (Nat.le_of_ble_eq_true rfl) dX10_posting_17 (fun s38 hw => ?_)
    refine ts_iconst X dX10_posting_20 (v := 0) (by decide) ?_
    refine ts_istore_n X dX10_posting_21 (by decide) (lv' := [(2, .int 0), (0, .ref (tX_ad v 0)), (1, .int a1)]) rfl ?_
    exact ts_sub [1, 2, 0] rfl (J22  _ _ hw)
  · have hw := ts_itp hw c
    refine ts_iconst X dX10_posting_14 (v := (-1)) (by decide) ?_
    exact hret _ _ _ _ hw dX10_posting_15
set_option maxRecDepth 100000 in
set_option maxHeartbeats 4000000 in
theorem ct_X10_sevens (l : Launch) (v : tX_V) (hi : ts_inj 15 (tX_ad v)) (K : Int32 → ts_S → Prop) (σ : ts_S) (a0 : Int32)  (hw : wp_X10_sevens K σ a0) : ts_Mi l yX10_sevens (Cond.code yX10_sevens cX10_sevens 3 (some .int)) 1 (tM_w v) [.int a0] σ K := by
  refine ts_Mi.of_i (w := tM_w v) hi (by decide +kernel) (Nat.le_of_ble_eq_true rfl) ?_
  intro g hgl hgn X hret
  have J4 : ∀ (σ : ts_S) (x1 : Int32) (x2 : Int32), wp_X10_sevens_l4 K a0 σ x1 x2 → ts_G g (tM_w v) 3 σ 4 [(0, .int a0), (1, .int x1), (2, .int x2)] [] := by
    intro  σ x1 x2 hw
    have key : ∀ X4 : ts_S → Int32 → Int32 → Prop, (∀ (σ : ts_S) (x1 : Int32) (x2 : Int32), X4 σ x1 x2 → ts_G g (tM_w v) 3 σ 4 [(0, .int a0), (1, .int x1), (2, .int x2)] []) → ∀ (σ : ts_S) (x1 : Int32) (x2 : Int32), wp_X10_sevens_b4 K X4 a0  σ x1 x2 → ts_G g (tM_w v) 3 σ 4 [(0, .int a0), (1, .int x1), (2, .int x2)] [] := by
      intro X4 hX4
      intro σ x1 x2 hw
      unfold wp_X10_sevens_b4 at hw
      refine ts_iload_n X dX10_sevens_4 2 rfl ?_
      refine ts_iload_n X dX10_sevens_5 0 rfl ?_
      refine ts_icmp_ge 20 X dX10_sevens_6 (by decide) (fun c => ?_) (fun c => ?_)
      · have hw := ts_itp hw c
        refine ts_iload_n X dX10_sevens_20 1 rfl ?_
        exact hret _ _ _ _ hw dX10_sevens_21
      · have hw := ts_itn hw c
        refine ts_iload_n X dX10_sevens_9 1 rfl ?_
        refine ts_bipush X dX10_sevens_10 (v := 7) (by decide) ?_
        refine ts_imul X dX10_sevens_12 ?_
        refine ts_istore_n X dX10_sevens_13 (by decide) (lv' := [(1, .int (x1 * 7)), (0, .int a0), (2, .int x2)]) rfl ?_
        refine ts_iinc X dX10_sevens_14 2 rfl (v := x2 + 1) rfl (by decide) (lv' := [(2, .int (x2 + 1)), (1, .int (x1 * 7)), (0, .int a0)]) rfl ?_
        refine ts_goto 4 X dX10_sevens_17 (by decide) ?_
        exact ts_sub [2, 1, 0] rfl (hX4 _ _ _ hw)
    exact hw _ (fun σ x1 x2 h => key _ (fun _ _ _ h => h) σ x1 x2 h)
  unfold wp_X10_sevens at hw
  show ts_G g (tM_w v) 3 σ 0 [(0, .int a0)] []
  refine ts_iconst X dX10_sevens_0 (v := 1) (by decide) ?_
  refine ts_istore_n X dX10_sevens_1 (by decide) (lv' := [(1, .int 1), (0, .int a0)]) rfl ?_
  refine ts_iconst X dX10_sevens_2 (v := 0) (by decide) ?_
  refine ts_istore_n X dX10_sevens_3 (by decide) (lv' := [(2, .int 0), (1, .int 1), (0, .int a0)]) rfl ?_
  exact ts_sub [2, 1, 0] rfl (J4  _ _ _ hw)
set_option maxRecDepth 100000 in
set_option maxHeartbeats 4000000 in
theorem ct_X10_doneBy (l : Launch) (v : tX_V) (hi : ts_inj 15 (tX_ad v)) (K : Int32 → ts_S → Prop) (σ : ts_S) (a1 : Int32) (a2 : Int32)  (hw : wp_X10_doneBy K σ a1 a2) : ts_Mi l yX10_doneBy (Cond.code yX10_doneBy cX10_doneBy 5 (some .int)) 6 (tM_w v) [.ref (tX_ad v 0), .int a1, .int a2] σ K := by
  refine ts_Mi.of_i (w := tM_w v) hi (by decide +kernel) (Nat.le_of_ble_eq_true rfl) ?_
  intro g hgl hgn X hret
  have J8 : ∀ (σ : ts_S) (x3 : Int32), wp_X10_doneBy_l8 K a1 a2 σ x3 → ts_G g (tM_w v) 5 σ 8 [(0, .ref (tX_ad v 0)), (1, .int a1), (3, .int x3)] [] := by
    intro  σ x3 hw
    have key : ∀ X8 : ts_S → Int32 → Prop, (∀ (σ : ts_S) (x3 : Int32), X8 σ x3 → ts_G g (tM_w v) 5 σ 8 [(0, .ref (tX_ad v 0)), (1, .int a1), (3, .int x3)] []) → ∀ (σ : ts_S) (x3 : Int32), wp_X10_doneBy_b8 K X8 a1 a2  σ x3 → ts_G g (tM_w v) 5 σ 8 [(0, .ref (tX_ad v 0)), (1, .int a1), (3, .int x3)] [] := by
      intro X8 hX8
      have J68 : ∀ (σ : ts_S) (x3 : Int32), wp_X10_doneBy_j68 K X8 a1 a2 σ x3 → ts_G g (tM_w v) 5 σ 68 [(0, .ref (tX_ad v 0)), (1, .int a1), (3, .int x3)] [] := by
        intro  σ x3 hw
        unfold wp_X10_doneBy_j68 at hw
        refine ts_aload_n X dX10_doneBy_68 0 rfl ?_
        refine ts_callVv (w := tM_w v) X (k := 0) (by decide : 0 < 15) rfl rfl rfl (As := []) (ct_X10_goesBy g.2.1 v hi _ _  hw) ok_X10_goesBy cw_X10_168 (ts_le hgn (by decide)) (by decide) rfl rfl (Nat.le_of_ble_eq_true rfl) dX10_doneBy_69 (fun s13 hw => ?_)
        refine ts_iinc X dX10_doneBy_72 2 rfl (v := x3 + (-1)) rfl (by decide) (lv' := [(3, .int (x3 + (-1))), (0, .ref (tX_ad v 0)), (1, .int a1)]) rfl ?_
        refine ts_goto 8 X dX10_doneBy_75 (by decide) ?_
        exact ts_sub [1, 2, 0] rfl (hX8 _ _ hw)
      have J50 : ∀ (σ : ts_S) (x3 : Int32) (x4 : Int32), wp_X10_doneBy_j50 K X8 a1 a2 σ x3 x4 → ts_G g (tM_w v) 5 σ 50 [(0, .ref (tX_ad v 0)), (1, .int a1), (3, .int x3), (4, .int x4)] [] := by
        intro  σ x3 x4 hw
        unfold wp_X10_doneBy_j50 at hw
        refine ts_iload X dX10_doneBy_50 3 rfl ?_
        refine ts_if_lt 68 X dX10_doneBy_52 (by decide) (fun c => ?_) (fun c => ?_)
        · have hw := ts_itp hw c
          exact ts_sub [0, 1, 2] rfl (J68  _ _ hw)
        · have hw := ts_itn hw c
          refine ts_aload_n X dX10_doneBy_55 0 rfl ?_
          refine gf_X10_43 X dX10_doneBy_56 ?_
          refine ts_iconst X dX10_doneBy_59 (v := 3) (by decide) ?_
          refine ts_iload X dX10_doneBy_60 3 rfl ?_
          refine ts_iadd X dX10_doneBy_62 ?_
          refine ts_dup2 X dX10_doneBy_63 rfl rfl ?_
          refine mi_ald X tM_c12 hw.1 dX10_doneBy_64 ?_
          have hw := hw.2
          refine ts_iconst X dX10_doneBy_65 (v := 1) (by decide) ?_
          refine ts_isub X dX10_doneBy_66 ?_
          refine mi_ast X tM_c12 hw.1 dX10_doneBy_67 (fun s14 es14 => ?_)
          have hw := hw.2 s14 es14
          exact ts_sub [0, 1, 2] rfl (J68  _ _ hw)
      intro σ x3 hw
      unfold wp_X10_doneBy_b8 at hw
      refine ts_iload_n X dX10_doneBy_8 2 rfl ?_
      refine ts_if_lt 78 X dX10_doneBy_9 (by decide) (fun c => ?_) (fun c => ?_)
      · have hw := ts_itp hw c
        refine ts_aload_n X dX10_doneBy_78 0 rfl ?_
        refine ts_callVi (w := tM_w v) X (k := 0) (by decide : 0 < 15) rfl rfl rfl (As := []) (ct_X10_done g.2.1 v hi _ _  hw) ok_X10_done cw_X10_190 (ts_le hgn (by decide)) (by decide) rfl rfl (Nat.le_of_ble_eq_true rfl) dX10_doneBy_79 (fun r15 s16 hw => ?_)
        exact hret _ _ _ _ hw dX10_doneBy_82
      · have hw := ts_itn hw c
        refine ts_iload_n X dX10_doneBy_12 1 rfl ?_
        refine ts_iload_n X dX10_doneBy_13 2 rfl ?_
        refine ts_callSi X (As := [.int x3]) (ct_X10_sevens g.2.1 v hi _ _ _ hw) ok_X10_sevens cw_X10_196 (ts_le hgn (by decide)) (by decide) rfl rfl (Nat.le_of_ble_eq_true rfl) dX10_doneBy_14 (fun r17 s18 hw => ?_)
        refine ts_idiv X dX10_doneBy_17 hw.1 ?_
        have hw := hw.2
        refine ts_bipush X dX10_doneBy_18 (v := 7) (by decide) ?_
        refine ts_irem X dX10_doneBy_20 hw.1 ?_
        have hw := hw.2
        refine ts_iconst X dX10_doneBy_21 (v := 1) (by decide) ?_
        refine ts_isub X dX10_doneBy_22 ?_
        refine ts_istore X dX10_doneBy_23 (by decide) (lv' := [(4, .int (((a1 / r17) - (a1 / r17) / 7 * 7) - 1)), (0, .ref (tX_ad v 0)), (1, .int a1), (3, .int x3)]) rfl ?_
        refine ts_iload X dX10_doneBy_25 0 rfl ?_
        refine ts_aload_n X dX10_doneBy_27 1 rfl ?_
        refine gf_X10_73 X dX10_doneBy_28 ?_
        refine ts_icmp_ge 48 X dX10_doneBy_31 (by decide) (fun c => ?_) (fun c => ?_)
        · have hw := ts_itp hw c
          refine ts_iconst X dX10_doneBy_48 (v := (-1)) (by decide) ?_
          exact hret _ _ _ _ hw dX10_doneBy_49
        · have hw := ts_itn hw c
          refine ts_iload X dX10_doneBy_34 0 rfl ?_
          refine ts_if_lt 50 X dX10_doneBy_36 (by decide) (fun c => ?_) (fun c => ?_)
          · have hw := ts_itp hw c
            exact ts_sub [1, 2, 3, 0] rfl (J50  _ _ _ hw)
          · have hw := ts_itn hw c
            refine ts_aload_n X dX10_doneBy_39 1 rfl ?_
            refine ts_iload X dX10_doneBy_40 0 rfl ?_
            refine ts_callVi (w := tM_w v) X (k := 0) (by decide : 0 < 15) rfl rfl rfl (As := [.int (((a1 / r17) - (a1 / r17) / 7 * 7) - 1)]) (ct_X10_canPromote g.2.1 v hi _ _ _ hw) ok_X10_canPromote cw_X10_174 (ts_le hgn (by decide)) (by decide) rfl rfl (Nat.le_of_ble_eq_true rfl) dX10_doneBy_42 (fun r19 s20 hw => ?_)
            refine ts_if_ne 50 X dX10_doneBy_45 (by decide) (fun c => ?_) (fun c => ?_)
            · have hw := ts_itn hw c
              exact ts_sub [1, 2, 3, 0] rfl (J50  _ _ _ hw)
            · have hw := ts_itp hw c
              refine ts_iconst X dX10_doneBy_48 (v := (-1)) (by decide) ?_
              exact hret _ _ _ _ hw dX10_doneBy_49
    exact hw _ (fun σ x3 h => key _ (fun _ _ h => h) σ x3 h)
  unfold wp_X10_doneBy at hw
  show ts_G g (tM_w v) 5 σ 0 [(0, .ref (tX_ad v 0)), (1, .int a1), (2, .int a2)] []
  refine ts_aload_n X dX10_doneBy_0 0 rfl ?_
  refine ts_callVv (w := tM_w v) X (k := 0) (by decide : 0 < 15) rfl rfl rfl (As := []) (ct_X10_asItIs g.2.1 v hi _ _  hw) ok_X10_asItIs cw_X10_159 (ts_le hgn (by decide)) (by decide) rfl rfl (Nat.le_of_ble_eq_true rfl) dX10_doneBy_1 (fun s22 hw => ?_)
  refine ts_iload_n X dX10_doneBy_4 2 rfl ?_
  refine ts_iconst X dX10_doneBy_5 (v := 1) (by decide) ?_
  refine ts_isub X dX10_doneBy_6 ?_
  refine ts_istore_n X dX10_doneBy_7 (by decide) (lv' := [(3, .int (a2 - 1)), (0, .ref (tX_ad v 0)), (1, .int a1), (2, .int a2)]) rfl ?_
  exact ts_sub [1, 2, 0] rfl (J8  _ _ hw)
set_option maxRecDepth 100000 in
set_option maxHeartbeats 4000000 in
theorem ct_X10_timetable (l : Launch) (v : tX_V) (hi : ts_inj 15 (tX_ad v)) (K : Int32 → ts_S → Prop) (σ : ts_S) (a1 : Int32) (a2 : Int32)  (hw : wp_X10_timetable K σ a1 a2) : ts_Mi l yX10_timetable (Cond.code yX10_timetable cX10_timetable 7 (some .int)) 7 (tM_w v) [.ref (tX_ad v 0), .int a1, .int a2] σ K := by
  refine ts_Mi.of_i (w := tM_w v) hi (by decide +kernel) (Nat.le_of_ble_eq_true rfl) ?_
  intro g hgl hgn X hret
  have J111 : ∀ (σ : ts_S) (y0 : Int32), wp_X10_timetable_j111 K a1 a2 σ y0 → ts_G g (tM_w v) 7 σ 111 [] [.int y0] := by
    intro  σ y0 hw
    unfold wp_X10_timetable_j111 at hw
    refine ts_istore X dX10_timetable_111 (by decide) (lv' := [(5, .int y0)]) rfl ?_
    refine ts_iload X dX10_timetable_113 0 rfl ?_
    refine ts_if_ge 123 X dX10_timetable_115 (by decide) (fun c => ?_) (fun c => ?_)
    · have hw := ts_itp hw c
      refine ts_iload X dX10_timetable_123 0 rfl ?_
      exact hret _ _ _ _ hw dX10_timetable_125
    · have hw := ts_itn hw c
      refine ts_bipush X dX10_timetable_118 (v := (-4)) (by decide) ?_
      refine ts_goto 125 X dX10_timetable_120 (by decide) ?_
      exact hret _ _ _ _ hw dX10_timetable_125
  have J28 : ∀ (σ : ts_S) (x3 : Int32) (x4 : Int32) (x5 : Int32), wp_X10_timetable_l28 K a1 a2 σ x3 x4 x5 → ts_G g (tM_w v) 7 σ 28 [(0, .ref (tX_ad v 0)), (1, .int a1), (2, .int a2), (3, .int x3), (4, .int x4), (5, .int x5)] [] := by
    intro  σ x3 x4 x5 hw
    have key : ∀ X28 : ts_S → Int32 → Int32 → Int32 → Prop, (∀ (σ : ts_S) (x3 : Int32) (x4 : Int32) (x5 : Int32), X28 σ x3 x4 x5 → ts_G g (tM_w v) 7 σ 28 [(0, .ref (tX_ad v 0)), (1, .int a1), (2, .int a2), (3, .int x3), (4, .int x4), (5, .int x5)] []) → ∀ (σ : ts_S) (x3 : Int32) (x4 : Int32) (x5 : Int32), wp_X10_timetable_b28 K X28 a1 a2  σ x3 x4 x5 → ts_G g (tM_w v) 7 σ 28 [(0, .ref (tX_ad v 0)), (1, .int a1), (2, .int a2), (3, .int x3), (4, .int x4), (5, .int x5)] [] := by
      intro X28 hX28
      have J59 : ∀ (σ : ts_S) (x3 : Int32) (x5 : Int32) (x6 : Int32) (y0 : Int32), wp_X10_timetable_j59 K X28 a1 a2 σ x3 x5 x6 y0 → ts_G g (tM_w v) 7 σ 59 [(0, .ref (tX_ad v 0)), (1, .int a1), (2, .int a2), (3, .int x3), (5, .int x5), (6, .int x6)] [.int y0] := by
        intro  σ x3 x5 x6 y0 hw
        unfold wp_X10_timetable_j59 at hw
        refine ts_istore X dX10_timetable_59 (by decide) (lv' := [(4, .int y0), (0, .ref (tX_ad v 0)), (1, .int a1), (2, .int a2), (3, .int x3), (5, .int x5), (6, .int x6)]) rfl ?_
        refine ts_iload X dX10_timetable_61 6 rfl ?_
        refine ts_iload_n X dX10_timetable_63 4 rfl ?_
        refine ts_icmp_le 72 X dX10_timetable_64 (by decide) (fun c => ?_) (fun c => ?_)
        · have hw := ts_itp hw c
          refine ts_iload_n X dX10_timetable_72 4 rfl ?_
          refine ts_istore_n X dX10_timetable_73 (by decide) (lv' := [(3, .int x3), (4, .int y0), (0, .ref (tX_ad v 0)), (1, .int a1), (2, .int a2), (5, .int x5), (6, .int x6)]) rfl ?_
          refine ts_iinc X dX10_timetable_74 5 rfl (v := x5 + 1) rfl (by decide) (lv' := [(5, .int (x5 + 1)), (3, .int x3), (4, .int y0), (0, .ref (tX_ad v 0)), (1, .int a1), (2, .int a2), (6, .int x6)]) rfl ?_
          refine ts_goto 28 X dX10_timetable_77 (by decide) ?_
          exact ts_sub [3, 4, 5, 1, 2, 0] rfl (hX28 _ _ _ _ hw)
        · have hw := ts_itn hw c
          refine ts_iload X dX10_timetable_67 6 rfl ?_
          refine ts_goto 73 X dX10_timetable_69 (by decide) ?_
          refine ts_istore_n X dX10_timetable_73 (by decide) (lv' := [(3, .int x6), (4, .int y0), (0, .ref (tX_ad v 0)), (1, .int a1), (2, .int a2), (5, .int x5), (6, .int x6)]) rfl ?_
          refine ts_iinc X dX10_timetable_74 5 rfl (v := x5 + 1) rfl (by decide) (lv' := [(5, .int (x5 + 1)), (3, .int x6), (4, .int y0), (0, .ref (tX_ad v 0)), (1, .int a1), (2, .int a2), (6, .int x6)]) rfl ?_
          refine ts_goto 28 X dX10_timetable_77 (by decide) ?_
          exact ts_sub [3, 4, 5, 1, 2, 0] rfl (hX28 _ _ _ _ hw)
      intro σ x3 x4 x5 hw
      unfold wp_X10_timetable_b28 at hw
      refine ts_iload X dX10_timetable_28 5 rfl ?_
      refine ts_iload_n X dX10_timetable_30 1 rfl ?_
      refine ts_callSi X (As := [.int a1]) (ct_X10_sevens g.2.1 v hi _ _ _ hw) ok_X10_sevens cw_X10_196 (ts_le hgn (by decide)) (by decide) rfl rfl (Nat.le_of_ble_eq_true rfl) dX10_timetable_31 (fun r11 s12 hw => ?_)
      refine ts_icmp_ge 80 X dX10_timetable_34 (by decide) (fun c => ?_) (fun c => ?_)
      · have hw := ts_itp hw c
        refine ts_iload_n X dX10_timetable_80 2 rfl ?_
        refine ts_if_ge 86 X dX10_timetable_81 (by decide) (fun c => ?_) (fun c => ?_)
        · have hw := ts_itp hw c
          refine ts_iload_n X dX10_timetable_86 2 rfl ?_
          refine ts_iload_n X dX10_timetable_87 1 rfl ?_
          refine ts_icmp_ge 110 X dX10_timetable_88 (by decide) (fun c => ?_) (fun c => ?_)
          · have hw := ts_itp hw c
            refine ts_iconst X dX10_timetable_110 (v := (-1)) (by decide) ?_
            exact ts_sub [] rfl (J111  _ _ hw)
          · have hw := ts_itn hw c
            refine ts_iload X dX10_timetable_91 4 rfl ?_
            refine ts_iload_n X dX10_timetable_93 1 rfl ?_
            refine ts_iconst X dX10_timetable_94 (v := 1) (by decide) ?_
            refine ts_isub X dX10_timetable_95 ?_
            refine ts_iload_n X dX10_timetable_96 2 rfl ?_
            refine ts_isub X dX10_timetable_97 ?_
            refine ts_callSi X (As := [.int ((a1 - 1) - a2)]) (ct_X10_sevens g.2.1 v hi _ _ _ hw) ok_X10_sevens cw_X10_196 (ts_le hgn (by decide)) (by decide) rfl rfl (Nat.le_of_ble_eq_true rfl) dX10_timetable_98 (fun r13 s14 hw => ?_)
            refine ts_idiv X dX10_timetable_101 hw.1 ?_
            have hw := hw.2
            refine ts_bipush X dX10_timetable_102 (v := 7) (by decide) ?_
            refine ts_irem X dX10_timetable_104 hw.1 ?_
            have hw := hw.2
            refine ts_iconst X dX10_timetable_105 (v := 1) (by decide) ?_
            refine ts_isub X dX10_timetable_106 ?_
            refine ts_goto 111 X dX10_timetable_107 (by decide) ?_
            exact ts_sub [] rfl (J111  _ _ hw)
        · have hw := ts_itn hw c
          refine ts_iload_n X dX10_timetable_84 3 rfl ?_
          exact hret _ _ _ _ hw dX10_timetable_85
      · have hw := ts_itn hw c
        refine ts_aload_n X dX10_timetable_37 0 rfl ?_
        refine ts_iload X dX10_timetable_38 5 rfl ?_
        refine ts_iload_n X dX10_timetable_40 1 rfl ?_
        refine ts_callVi (w := tM_w v) X (k := 0) (by decide : 0 < 15) rfl rfl rfl (As := [.int x5, .int a1]) (ct_X10_doneBy g.2.1 v hi _ _ _ _ hw) ok_X10_doneBy cw_X10_199 (ts_le hgn (by decide)) (by decide) rfl rfl (Nat.le_of_ble_eq_true rfl) dX10_timetable_41 (fun r15 s16 hw => ?_)
        refine ts_istore X dX10_timetable_44 (by decide) (lv' := [(6, .int r15), (0, .ref (tX_ad v 0)), (1, .int a1), (2, .int a2), (3, .int x3), (4, .int x4), (5, .int x5)]) rfl ?_
        refine ts_iload X dX10_timetable_46 0 rfl ?_
        refine ts_iload_n X dX10_timetable_48 4 rfl ?_
        refine ts_icmp_le 57 X dX10_timetable_49 (by decide) (fun c => ?_) (fun c => ?_)
        · have hw := ts_itp hw c
          refine ts_iload X dX10_timetable_57 5 rfl ?_
          exact ts_sub [1, 2, 3, 4, 6, 0] rfl (J59  _ _ _ _ _ hw)
        · have hw := ts_itn hw c
          refine ts_iload X dX10_timetable_52 6 rfl ?_
          refine ts_goto 59 X dX10_timetable_54 (by decide) ?_
          exact ts_sub [1, 2, 3, 4, 6, 0] rfl (J59  _ _ _ _ _ hw)
    exact hw _ (fun σ x3 x4 x5 h => key _ (fun _ _ _ _ h => h) σ x3 x4 x5 h)
  unfold wp_X10_timetable at hw
  show ts_G g (tM_w v) 7 σ 0 [(0, .ref (tX_ad v 0)), (1, .int a1), (2, .int a2)] []
  refine ts_iload_n X dX10_timetable_0 1 rfl ?_
  refine ts_iconst X dX10_timetable_1 (v := 1) (by decide) ?_
  refine ts_iconst X dX10_timetable_2 (v := 4) (by decide) ?_
  refine ts_callSi X (As := [.int a1, .int 1, .int 4]) (ct_X10_in g.2.1 v hi _ _ _ _ _ hw) ok_X10_in cw_X10_76 (ts_le hgn (by decide)) (by decide) rfl rfl (Nat.le_of_ble_eq_true rfl) dX10_timetable_3 (fun r17 s18 hw => ?_)
  refine ts_if_eq 18 X dX10_timetable_6 (by decide) (fun c => ?_) (fun c => ?_)
  · have hw := ts_itp hw c
    refine ts_iconst X dX10_timetable_18 (v := (-1)) (by decide) ?_
    exact hret _ _ _ _ hw dX10_timetable_19
  · have hw := ts_itn hw c
    refine ts_iload_n X dX10_timetable_9 2 rfl ?_
    refine ts_iconst X dX10_timetable_10 (v := (-1)) (by decide) ?_
    refine ts_iconst X dX10_timetable_11 (v := 3) (by decide) ?_
    refine ts_callSi X (As := [.int a2, .int (-1), .int 3]) (ct_X10_in g.2.1 v hi _ _ _ _ _ hw) ok_X10_in cw_X10_76 (ts_le hgn (by decide)) (by decide) rfl rfl (Nat.le_of_ble_eq_true rfl) dX10_timetable_12 (fun r19 s20 hw => ?_)
    refine ts_if_ne 20 X dX10_timetable_15 (by decide) (fun c => ?_) (fun c => ?_)
    · have hw := ts_itn hw c
      refine ts_iconst X dX10_timetable_20 (v := (-1)) (by decide) ?_
      refine ts_istore_n X dX10_timetable_21 (by decide) (lv' := [(3, .int (-1)), (0, .ref (tX_ad v 0)), (1, .int a1), (2, .int a2)]) rfl ?_
      refine ts_iconst X dX10_timetable_22 (v := 0) (by decide) ?_
      refine ts_istore X dX10_timetable_23 (by decide) (lv' := [(4, .int 0), (3, .int (-1)), (0, .ref (tX_ad v 0)), (1, .int a1), (2, .int a2)]) rfl ?_
      refine ts_iconst X dX10_timetable_25 (v := 0) (by decide) ?_
      refine ts_istore X dX10_timetable_26 (by decide) (lv' := [(5, .int 0), (4, .int 0), (3, .int (-1)), (0, .ref (tX_ad v 0)), (1, .int a1), (2, .int a2)]) rfl ?_
      exact ts_sub [3, 4, 5, 2, 1, 0] rfl (J28  _ _ _ _ hw)
    · have hw := ts_itp hw c
      refine ts_iconst X dX10_timetable_18 (v := (-1)) (by decide) ?_
      exact hret _ _ _ _ hw dX10_timetable_19
set_option maxRecDepth 100000 in
set_option maxHeartbeats 4000000 in
theorem ct_X10_swap (l : Launch) (v : tX_V) (hi : ts_inj 15 (tX_ad v)) (K : Int32 → ts_S → Prop) (σ : ts_S) (a1 : Int32)  (hw : wp_X10_swap K σ a1) : ts_Mi l yX10_swap (Cond.code yX10_swap cX10_swap 7 (some .int)) 6 (tM_w v) [.ref (tX_ad v 0), .int a1] σ K := by
  refine ts_Mi.of_i (w := tM_w v) hi (by decide +kernel) (Nat.le_of_ble_eq_true rfl) ?_
  intro g hgl hgn X hret
  have J20 : ∀ (σ : ts_S) (x2 : Int32) (x3 : Int32) (x4 : Int32), wp_X10_swap_l20 K a1 σ x2 x3 x4 → ts_G g (tM_w v) 7 σ 20 [(0, .ref (tX_ad v 0)), (1, .int a1), (2, .int x2), (3, .int x3), (4, .int x4)] [] := by
    intro  σ x2 x3 x4 hw
    have key : ∀ X20 : ts_S → Int32 → Int32 → Int32 → Prop, (∀ (σ : ts_S) (x2 : Int32) (x3 : Int32) (x4 : Int32), X20 σ x2 x3 x4 → ts_G g (tM_w v) 7 σ 20 [(0, .ref (tX_ad v 0)), (1, .int a1), (2, .int x2), (3, .int x3), (4, .int x4)] []) → ∀ (σ : ts_S) (x2 : Int32) (x3 : Int32) (x4 : Int32), wp_X10_swap_b20 K X20 a1  σ x2 x3 x4 → ts_G g (tM_w v) 7 σ 20 [(0, .ref (tX_ad v 0)), (1, .int a1), (2, .int x2), (3, .int x3), (4, .int x4)] [] := by
      intro X20 hX20
      have J35 : ∀ (σ : ts_S) (x2 : Int32) (x3 : Int32) (x4 : Int32) (x5 : Int32), wp_X10_swap_l35 K X20 a1 σ x2 x3 x4 x5 → ts_G g (tM_w v) 7 σ 35 [(0, .ref (tX_ad v 0)), (1, .int a1), (2, .int x2), (3, .int x3), (4, .int x4), (5, .int x5)] [] := by
        intro  σ x2 x3 x4 x5 hw
        have key : ∀ X35 : ts_S → Int32 → Int32 → Int32 → Prop, (∀ (σ : ts_S) (x2 : Int32) (x3 : Int32) (x5 : Int32), X35 σ x2 x3 x5 → ts_G g (tM_w v) 7 σ 35 [(0, .ref (tX_ad v 0)), (1, .int a1), (2, .int x2), (3, .int x3), (4, .int x4), (5, .int x5)] []) → ∀ (σ : ts_S) (x2 : Int32) (x3 : Int32) (x5 : Int32), wp_X10_swap_b35 K X20 X35 a1 x4 σ x2 x3 x5 → ts_G g (tM_w v) 7 σ 35 [(0, .ref (tX_ad v 0)), (1, .int a1), (2, .int x2), (3, .int x3), (4, .int x4), (5, .int x5)] [] := by
          intro X35 hX35
          have J157 : ∀ (σ : ts_S) (x3 : Int32) (x5 : Int32) (x6 : Int32) (y0 : Int32), wp_X10_swap_j157 K X20 X35 a1 σ x3 x4 x5 x6 y0 → ts_G g (tM_w v) 7 σ 157 [(0, .ref (tX_ad v 0)), (1, .int a1), (3, .int x3), (4, .int x4), (5, .int x5), (6, .int x6)] [.int y0] := by
            intro  σ x3 x5 x6 y0 hw
            unfold wp_X10_swap_j157 at hw
            refine ts_istore_n X dX10_swap_157 (by decide) (lv' := [(2, .int y0), (0, .ref (tX_ad v 0)), (1, .int a1), (3, .int x3), (4, .int x4), (5, .int x5), (6, .int x6)]) rfl ?_
            refine ts_iload X dX10_swap_158 6 rfl ?_
            refine ts_iload_n X dX10_swap_160 3 rfl ?_
            refine ts_icmp_le 169 X dX10_swap_161 (by decide) (fun c => ?_) (fun c => ?_)
            · have hw := ts_itp hw c
              refine ts_iload_n X dX10_swap_169 3 rfl ?_
              refine ts_istore_n X dX10_swap_170 (by decide) (lv' := [(3, .int x3), (2, .int y0), (0, .ref (tX_ad v 0)), (1, .int a1), (4, .int x4), (5, .int x5), (6, .int x6)]) rfl ?_
              refine ts_iinc X dX10_swap_171 5 rfl (v := x5 + 1) rfl (by decide) (lv' := [(5, .int (x5 + 1)), (3, .int x3), (2, .int y0), (0, .ref (tX_ad v 0)), (1, .int a1), (4, .int x4), (6, .int x6)]) rfl ?_
              refine ts_goto 35 X dX10_swap_174 (by decide) ?_
              exact ts_sub [3, 4, 2, 1, 5, 0] rfl (hX35 _ _ _ _ hw)
            · have hw := ts_itn hw c
              refine ts_iload X dX10_swap_164 6 rfl ?_
              refine ts_goto 170 X dX10_swap_166 (by decide) ?_
              refine ts_istore_n X dX10_swap_170 (by decide) (lv' := [(3, .int x6), (2, .int y0), (0, .ref (tX_ad v 0)), (1, .int a1), (4, .int x4), (5, .int x5), (6, .int x6)]) rfl ?_
              refine ts_iinc X dX10_swap_171 5 rfl (v := x5 + 1) rfl (by decide) (lv' := [(5, .int (x5 + 1)), (3, .int x6), (2, .int y0), (0, .ref (tX_ad v 0)), (1, .int a1), (4, .int x4), (6, .int x6)]) rfl ?_
              refine ts_goto 35 X dX10_swap_174 (by decide) ?_
              exact ts_sub [3, 4, 2, 1, 5, 0] rfl (hX35 _ _ _ _ hw)
          intro σ x2 x3 x5 hw
          unfold wp_X10_swap_b35 at hw
          refine ts_iload X dX10_swap_35 5 rfl ?_
          refine ts_aload_n X dX10_swap_37 0 rfl ?_
          refine gf_X10_73 X dX10_swap_38 ?_
          refine ts_icmp_ge 177 X dX10_swap_41 (by decide) (fun c => ?_) (fun c => ?_)
          · have hw := ts_itp hw c
            refine ts_iinc X dX10_swap_177 4 rfl (v := x4 + 1) rfl (by decide) (lv' := [(4, .int (x4 + 1)), (0, .ref (tX_ad v 0)), (1, .int a1), (2, .int x2), (3, .int x3), (5, .int x5)]) rfl ?_
            refine ts_goto 20 X dX10_swap_180 (by decide) ?_
            exact ts_sub [1, 2, 3, 4, 0] rfl (hX20 _ _ _ _ hw)
          · have hw := ts_itn hw c
            refine ts_aload_n X dX10_swap_44 0 rfl ?_
            refine gf_X10_16 X dX10_swap_45 ?_
            refine ts_iconst X dX10_swap_48 (v := 1) (by decide) ?_
            refine mi_ald X tM_c3 hw.1 dX10_swap_49 ?_
            have hw := hw.2
            refine ts_iload X dX10_swap_50 4 rfl ?_
            refine ts_callSi X (As := [.int (σ 3 (1 : Int32).toNatClampNeg), .int x4]) (ct_X10_has g.2.1 v hi _ _ _ _ hw) ok_X10_has cw_X10_139 (ts_le hgn (by decide)) (by decide) rfl rfl (Nat.le_of_ble_eq_true rfl) dX10_swap_52 (fun r13 s14 hw => ?_)
            refine ts_if_ne 171 X dX10_swap_55 (by decide) (fun c => ?_) (fun c => ?_)
            · have hw := ts_itn hw c
              refine ts_iinc X dX10_swap_171 5 rfl (v := x5 + 1) rfl (by decide) (lv' := [(5, .int (x5 + 1)), (0, .ref (tX_ad v 0)), (1, .int a1), (2, .int x2), (3, .int x3), (4, .int x4)]) rfl ?_
              refine ts_goto 35 X dX10_swap_174 (by decide) ?_
              exact ts_sub [1, 2, 3, 4, 5, 0] rfl (hX35 _ _ _ _ hw)
            · have hw := ts_itp hw c
              refine ts_aload_n X dX10_swap_58 0 rfl ?_
              refine gf_X10_16 X dX10_swap_59 ?_
              refine ts_iconst X dX10_swap_62 (v := 1) (by decide) ?_
              refine mi_ald X tM_c3 hw.1 dX10_swap_63 ?_
              have hw := hw.2
              refine ts_iload X dX10_swap_64 5 rfl ?_
              refine ts_callSi X (As := [.int (s14 3 (1 : Int32).toNatClampNeg), .int x5]) (ct_X10_has g.2.1 v hi _ _ _ _ hw) ok_X10_has cw_X10_139 (ts_le hgn (by decide)) (by decide) rfl rfl (Nat.le_of_ble_eq_true rfl) dX10_swap_66 (fun r15 s16 hw => ?_)
              refine ts_if_ne 171 X dX10_swap_69 (by decide) (fun c => ?_) (fun c => ?_)
              · have hw := ts_itn hw c
                refine ts_iinc X dX10_swap_171 5 rfl (v := x5 + 1) rfl (by decide) (lv' := [(5, .int (x5 + 1)), (0, .ref (tX_ad v 0)), (1, .int a1), (2, .int x2), (3, .int x3), (4, .int x4)]) rfl ?_
                refine ts_goto 35 X dX10_swap_174 (by decide) ?_
                exact ts_sub [1, 2, 3, 4, 5, 0] rfl (hX35 _ _ _ _ hw)
              · have hw := ts_itp hw c
                refine ts_aload_n X dX10_swap_72 0 rfl ?_
                refine gf_X10_16 X dX10_swap_73 ?_
                refine ts_iconst X dX10_swap_76 (v := 3) (by decide) ?_
                refine ts_iload X dX10_swap_77 4 rfl ?_
                refine ts_iadd X dX10_swap_79 ?_
                refine mi_ald X tM_c3 hw.1 dX10_swap_80 ?_
                have hw := hw.2
                refine ts_aload_n X dX10_swap_81 0 rfl ?_
                refine gf_X10_16 X dX10_swap_82 ?_
                refine ts_iconst X dX10_swap_85 (v := 3) (by decide) ?_
                refine ts_iload X dX10_swap_86 5 rfl ?_
                refine ts_iadd X dX10_swap_88 ?_
                refine mi_ald X tM_c3 hw.1 dX10_swap_89 ?_
                have hw := hw.2
                refine ts_icmp_eq 171 X dX10_swap_90 (by decide) (fun c => ?_) (fun c => ?_)
                · have hw := ts_itp hw c
                  refine ts_iinc X dX10_swap_171 5 rfl (v := x5 + 1) rfl (by decide) (lv' := [(5, .int (x5 + 1)), (0, .ref (tX_ad v 0)), (1, .int a1), (2, .int x2), (3, .int x3), (4, .int x4)]) rfl ?_
                  refine ts_goto 35 X dX10_swap_174 (by decide) ?_
                  exact ts_sub [1, 2, 3, 4, 5, 0] rfl (hX35 _ _ _ _ hw)
                · have hw := ts_itn hw c
                  refine ts_aload_n X dX10_swap_93 0 rfl ?_
                  refine ts_callVv (w := tM_w v) X (k := 0) (by decide : 0 < 15) rfl rfl rfl (As := []) (ct_X10_asItIs g.2.1 v hi _ _  hw) ok_X10_asItIs cw_X10_159 (ts_le hgn (by decide)) (by decide) rfl rfl (Nat.le_of_ble_eq_true rfl) dX10_swap_94 (fun s18 hw => ?_)
                  refine ts_aload_n X dX10_swap_97 0 rfl ?_
                  refine gf_X10_43 X dX10_swap_98 ?_
                  refine ts_iconst X dX10_swap_101 (v := 3) (by decide) ?_
                  refine ts_iload X dX10_swap_102 4 rfl ?_
                  refine ts_iadd X dX10_swap_104 ?_
                  refine ts_aload_n X dX10_swap_105 0 rfl ?_
                  refine gf_X10_16 X dX10_swap_106 ?_
                  refine ts_iconst X dX10_swap_109 (v := 3) (by decide) ?_
                  refine ts_iload X dX10_swap_110 5 rfl ?_
                  refine ts_iadd X dX10_swap_112 ?_
                  refine mi_ald X tM_c3 hw.1 dX10_swap_113 ?_
                  have hw := hw.2
                  refine mi_ast X tM_c12 hw.1 dX10_swap_114 (fun s19 es19 => ?_)
                  have hw := hw.2 s19 es19
                  refine ts_aload_n X dX10_swap_115 0 rfl ?_
                  refine gf_X10_43 X dX10_swap_116 ?_
                  refine ts_iconst X dX10_swap_119 (v := 3) (by decide) ?_
                  refine ts_iload X dX10_swap_120 5 rfl ?_
                  refine ts_iadd X dX10_swap_122 ?_
                  refine ts_aload_n X dX10_swap_123 0 rfl ?_
                  refine gf_X10_16 X dX10_swap_124 ?_
                  refine ts_iconst X dX10_swap_127 (v := 3) (by decide) ?_
                  refine ts_iload X dX10_swap_128 4 rfl ?_
                  refine ts_iadd X dX10_swap_130 ?_
                  refine mi_ald X tM_c3 hw.1 dX10_swap_131 ?_
                  have hw := hw.2
                  refine mi_ast X tM_c12 hw.1 dX10_swap_132 (fun s20 es20 => ?_)
                  have hw := hw.2 s20 es20
                  refine ts_aload_n X dX10_swap_133 0 rfl ?_
                  refine ts_callVi (w := tM_w v) X (k := 0) (by decide : 0 < 15) rfl rfl rfl (As := []) (ct_X10_done g.2.1 v hi _ _  hw) ok_X10_done cw_X10_190 (ts_le hgn (by decide)) (by decide) rfl rfl (Nat.le_of_ble_eq_true rfl) dX10_swap_134 (fun r21 s22 hw => ?_)
                  refine ts_istore X dX10_swap_137 (by decide) (lv' := [(6, .int r21), (0, .ref (tX_ad v 0)), (1, .int a1), (2, .int x2), (3, .int x3), (4, .int x4), (5, .int x5)]) rfl ?_
                  refine ts_iload X dX10_swap_139 0 rfl ?_
                  refine ts_iload_n X dX10_swap_141 4 rfl ?_
                  refine ts_icmp_le 156 X dX10_swap_142 (by decide) (fun c => ?_) (fun c => ?_)
                  · have hw := ts_itp hw c
                    refine ts_iload_n X dX10_swap_156 3 rfl ?_
                    exact ts_sub [1, 2, 4, 5, 6, 0] rfl (J157  _ _ _ _ _ hw)
                  · have hw := ts_itn hw c
                    refine ts_bipush X dX10_swap_145 (v := 10) (by decide) ?_
                    refine ts_iload X dX10_swap_147 5 rfl ?_
                    refine ts_imul X dX10_swap_149 ?_
                    refine ts_iload X dX10_swap_150 6 rfl ?_
                    refine ts_iadd X dX10_swap_152 ?_
                    refine ts_goto 157 X dX10_swap_153 (by decide) ?_
                    exact ts_sub [1, 2, 4, 5, 6, 0] rfl (J157  _ _ _ _ _ hw)
        exact hw _ (fun σ x2 x3 x5 h => key _ (fun _ _ _ _ h => h) σ x2 x3 x5 h)
      intro σ x2 x3 x4 hw
      unfold wp_X10_swap_b20 at hw
      refine ts_iload X dX10_swap_20 4 rfl ?_
      refine ts_aload_n X dX10_swap_22 0 rfl ?_
      refine gf_X10_73 X dX10_swap_23 ?_
      refine ts_icmp_ge 183 X dX10_swap_26 (by decide) (fun c => ?_) (fun c => ?_)
      · have hw := ts_itp hw c
        refine ts_iload_n X dX10_swap_183 1 rfl ?_
        refine ts_if_ne 191 X dX10_swap_184 (by decide) (fun c => ?_) (fun c => ?_)
        · have hw := ts_itn hw c
          refine ts_iload_n X dX10_swap_191 3 rfl ?_
          exact hret _ _ _ _ hw dX10_swap_192
        · have hw := ts_itp hw c
          refine ts_iload_n X dX10_swap_187 2 rfl ?_
          refine ts_goto 192 X dX10_swap_188 (by decide) ?_
          exact hret _ _ _ _ hw dX10_swap_192
      · have hw := ts_itn hw c
        refine ts_iload X dX10_swap_29 4 rfl ?_
        refine ts_iconst X dX10_swap_31 (v := 1) (by decide) ?_
        refine ts_iadd X dX10_swap_32 ?_
        refine ts_istore X dX10_swap_33 (by decide) (lv' := [(5, .int (x4 + 1)), (0, .ref (tX_ad v 0)), (1, .int a1), (2, .int x2), (3, .int x3), (4, .int x4)]) rfl ?_
        exact ts_sub [1, 2, 3, 4, 5, 0] rfl (J35  _ _ _ _ _ hw)
    exact hw _ (fun σ x2 x3 x4 h => key _ (fun _ _ _ _ h => h) σ x2 x3 x4 h)
  unfold wp_X10_swap at hw
  show ts_G g (tM_w v) 7 σ 0 [(0, .ref (tX_ad v 0)), (1, .int a1)] []
  refine ts_iload_n X dX10_swap_0 1 rfl ?_
  refine ts_iconst X dX10_swap_1 (v := 0) (by decide) ?_
  refine ts_iconst X dX10_swap_2 (v := 1) (by decide) ?_
  refine ts_callSi X (As := [.int a1, .int 0, .int 1]) (ct_X10_in g.2.1 v hi _ _ _ _ _ hw) ok_X10_in cw_X10_76 (ts_le hgn (by decide)) (by decide) rfl rfl (Nat.le_of_ble_eq_true rfl) dX10_swap_3 (fun r23 s24 hw => ?_)
  refine ts_if_ne 11 X dX10_swap_6 (by decide) (fun c => ?_) (fun c => ?_)
  · have hw := ts_itn hw c
    refine ts_bipush X dX10_swap_11 (v := (-4)) (by decide) ?_
    refine ts_istore_n X dX10_swap_13 (by decide) (lv' := [(2, .int (-4)), (0, .ref (tX_ad v 0)), (1, .int a1)]) rfl ?_
    refine ts_bipush X dX10_swap_14 (v := (-4)) (by decide) ?_
    refine ts_istore_n X dX10_swap_16 (by decide) (lv' := [(3, .int (-4)), (2, .int (-4)), (0, .ref (tX_ad v 0)), (1, .int a1)]) rfl ?_
    refine ts_iconst X dX10_swap_17 (v := 0) (by decide) ?_
    refine ts_istore X dX10_swap_18 (by decide) (lv' := [(4, .int 0), (3, .int (-4)), (2, .int (-4)), (0, .ref (tX_ad v 0)), (1, .int a1)]) rfl ?_
    exact ts_sub [3, 4, 2, 1, 0] rfl (J20  _ _ _ _ hw)
  · have hw := ts_itp hw c
    refine ts_iconst X dX10_swap_9 (v := (-1)) (by decide) ?_
    exact hret _ _ _ _ hw dX10_swap_10
set_option maxRecDepth 100000 in
set_option maxHeartbeats 4000000 in
theorem ct_X10_can (l : Launch) (v : tX_V) (hi : ts_inj 15 (tX_ad v)) (K : Int32 → ts_S → Prop) (σ : ts_S) (a1 : Int32) (a2 : Int32) (a3 : Int32)  (hw : wp_X10_can K σ a1 a2 a3) : ts_Mi l yX10_can (Cond.code yX10_can cX10_can 10 (some .int)) 5 (tM_w v) [.ref (tX_ad v 0), .int a1, .int a2, .int a3] σ K := by
  refine ts_Mi.of_i (w := tM_w v) hi (by decide +kernel) (Nat.le_of_ble_eq_true rfl) ?_
  intro g hgl hgn X hret
  have J272 : ∀ (σ : ts_S) (x5 : Int32) (x6 : Int32) (x7 : Int32), wp_X10_can_l272 K a1 a2 a3 σ x5 x6 x7 → ts_G g (tM_w v) 10 σ 272 [(0, .ref (tX_ad v 0)), (1, .int a1), (3, .int a3), (5, .int x5), (6, .int x6), (7, .int x7)] [] := by
    intro  σ x5 x6 x7 hw
    have key : ∀ X272 : ts_S → Int32 → Int32 → Int32 → Prop, (∀ (σ : ts_S) (x5 : Int32) (x6 : Int32) (x7 : Int32), X272 σ x5 x6 x7 → ts_G g (tM_w v) 10 σ 272 [(0, .ref (tX_ad v 0)), (1, .int a1), (3, .int a3), (5, .int x5), (6, .int x6), (7, .int x7)] []) → ∀ (σ : ts_S) (x5 : Int32) (x6 : Int32) (x7 : Int32), wp_X10_can_b272 K X272 a1 a2 a3  σ x5 x6 x7 → ts_G g (tM_w v) 10 σ 272 [(0, .ref (tX_ad v 0)), (1, .int a1), (3, .int a3), (5, .int x5), (6, .int x6), (7, .int x7)] [] := by
      intro X272 hX272
      have J325 : ∀ (σ : ts_S) (x6 : Int32) (x7 : Int32) (x8 : Int32) (y0 : Int32), wp_X10_can_j325 K X272 a1 a2 a3 σ x6 x7 x8 y0 → ts_G g (tM_w v) 10 σ 325 [(0, .ref (tX_ad v 0)), (1, .int a1), (3, .int a3), (6, .int x6), (7, .int x7), (8, .int x8)] [.int y0] := by
        intro  σ x6 x7 x8 y0 hw
        unfold wp_X10_can_j325 at hw
        refine ts_istore X dX10_can_325 (by decide) (lv' := [(5, .int y0), (0, .ref (tX_ad v 0)), (1, .int a1), (3, .int a3), (6, .int x6), (7, .int x7), (8, .int x8)]) rfl ?_
        refine ts_iload X dX10_can_327 6 rfl ?_
        refine ts_if_eq 342 X dX10_can_329 (by decide) (fun c => ?_) (fun c => ?_)
        · have hw := ts_itp hw c
          refine ts_iload X dX10_can_342 4 rfl ?_
          refine ts_istore X dX10_can_344 (by decide) (lv' := [(6, .int x6), (5, .int y0), (0, .ref (tX_ad v 0)), (1, .int a1), (3, .int a3), (7, .int x7), (8, .int x8)]) rfl ?_
          refine ts_iinc X dX10_can_346 5 rfl (v := x7 + 1) rfl (by decide) (lv' := [(7, .int (x7 + 1)), (6, .int x6), (5, .int y0), (0, .ref (tX_ad v 0)), (1, .int a1), (3, .int a3), (8, .int x8)]) rfl ?_
          refine ts_goto 272 X dX10_can_349 (by decide) ?_
          exact ts_sub [3, 4, 5, 2, 1, 0] rfl (hX272 _ _ _ _ hw)
        · have hw := ts_itn hw c
          refine ts_aload_n X dX10_can_332 1 rfl ?_
          refine gf_X10_49 X dX10_can_333 ?_
          refine ts_iload X dX10_can_336 5 rfl ?_
          refine mi_ald X tM_c14 hw.1 dX10_can_338 ?_
          have hw := hw.2
          refine ts_goto 344 X dX10_can_339 (by decide) ?_
          refine ts_istore X dX10_can_344 (by decide) (lv' := [(6, .int (σ 14 x7.toNatClampNeg)), (5, .int y0), (0, .ref (tX_ad v 0)), (1, .int a1), (3, .int a3), (7, .int x7), (8, .int x8)]) rfl ?_
          refine ts_iinc X dX10_can_346 5 rfl (v := x7 + 1) rfl (by decide) (lv' := [(7, .int (x7 + 1)), (6, .int (σ 14 x7.toNatClampNeg)), (5, .int y0), (0, .ref (tX_ad v 0)), (1, .int a1), (3, .int a3), (8, .int x8)]) rfl ?_
          refine ts_goto 272 X dX10_can_349 (by decide) ?_
          exact ts_sub [3, 4, 5, 2, 1, 0] rfl (hX272 _ _ _ _ hw)
      have J311 : ∀ (σ : ts_S) (x5 : Int32) (x6 : Int32) (x7 : Int32) (y0 : Int32), wp_X10_can_j311 K X272 a1 a2 a3 σ x5 x6 x7 y0 → ts_G g (tM_w v) 10 σ 311 [(0, .ref (tX_ad v 0)), (1, .int a1), (3, .int a3), (5, .int x5), (6, .int x6), (7, .int x7)] [.int y0] := by
        intro  σ x5 x6 x7 y0 hw
        unfold wp_X10_can_j311 at hw
        refine ts_istore X dX10_can_311 (by decide) (lv' := [(8, .int y0), (0, .ref (tX_ad v 0)), (1, .int a1), (3, .int a3), (5, .int x5), (6, .int x6), (7, .int x7)]) rfl ?_
        refine ts_iload X dX10_can_313 0 rfl ?_
        refine ts_if_eq 323 X dX10_can_315 (by decide) (fun c => ?_) (fun c => ?_)
        · have hw := ts_itp hw c
          refine ts_iload X dX10_can_323 4 rfl ?_
          exact ts_sub [1, 2, 3, 5, 6, 0] rfl (J325  _ _ _ _ _ hw)
        · have hw := ts_itn hw c
          refine ts_iload X dX10_can_318 6 rfl ?_
          refine ts_goto 325 X dX10_can_320 (by decide) ?_
          exact ts_sub [1, 2, 3, 5, 6, 0] rfl (J325  _ _ _ _ _ hw)
      intro σ x5 x6 x7 hw
      unfold wp_X10_can_b272 at hw
      refine ts_iload X dX10_can_272 5 rfl ?_
      refine ts_aload_n X dX10_can_274 0 rfl ?_
      refine gf_X10_73 X dX10_can_275 ?_
      refine ts_icmp_ge 352 X dX10_can_278 (by decide) (fun c => ?_) (fun c => ?_)
      · have hw := ts_itp hw c
        refine ts_iload X dX10_can_352 3 rfl ?_
        refine ts_if_lt 362 X dX10_can_354 (by decide) (fun c => ?_) (fun c => ?_)
        · have hw := ts_itp hw c
          refine ts_iload X dX10_can_362 3 rfl ?_
          refine ts_goto 369 X dX10_can_364 (by decide) ?_
          exact hret _ _ _ _ hw dX10_can_369
        · have hw := ts_itn hw c
          refine ts_iload_n X dX10_can_357 2 rfl ?_
          refine ts_iconst X dX10_can_358 (v := 1) (by decide) ?_
          refine ts_icmp_ne 367 X dX10_can_359 (by decide) (fun c => ?_) (fun c => ?_)
          · have hw := ts_itn hw c
            refine ts_iload X dX10_can_367 4 rfl ?_
            exact hret _ _ _ _ hw dX10_can_369
          · have hw := ts_itp hw c
            refine ts_iload X dX10_can_362 3 rfl ?_
            refine ts_goto 369 X dX10_can_364 (by decide) ?_
            exact hret _ _ _ _ hw dX10_can_369
      · have hw := ts_itn hw c
        refine ts_aload_n X dX10_can_281 0 rfl ?_
        refine gf_X10_43 X dX10_can_282 ?_
        refine ts_iconst X dX10_can_285 (v := 3) (by decide) ?_
        refine ts_iload X dX10_can_286 5 rfl ?_
        refine ts_iadd X dX10_can_288 ?_
        refine mi_ald X tM_c12 hw.1 dX10_can_289 ?_
        have hw := hw.2
        refine ts_iload_n X dX10_can_290 1 rfl ?_
        refine ts_icmp_ne 310 X dX10_can_291 (by decide) (fun c => ?_) (fun c => ?_)
        · have hw := ts_itn hw c
          refine ts_iconst X dX10_can_310 (v := 0) (by decide) ?_
          exact ts_sub [0, 1, 2, 3, 4, 5] rfl (J311  _ _ _ _ _ hw)
        · have hw := ts_itp hw c
          refine ts_aload_n X dX10_can_294 0 rfl ?_
          refine gf_X10_49 X dX10_can_295 ?_
          refine ts_iload X dX10_can_298 5 rfl ?_
          refine mi_ald X tM_c14 hw.1 dX10_can_300 ?_
          have hw := hw.2
          refine ts_iload X dX10_can_301 4 rfl ?_
          refine ts_icmp_ge 310 X dX10_can_303 (by decide) (fun c => ?_) (fun c => ?_)
          · have hw := ts_itp hw c
            refine ts_iconst X dX10_can_310 (v := 0) (by decide) ?_
            exact ts_sub [0, 1, 2, 3, 4, 5] rfl (J311  _ _ _ _ _ hw)
          · have hw := ts_itn hw c
            refine ts_iconst X dX10_can_306 (v := 1) (by decide) ?_
            refine ts_goto 311 X dX10_can_307 (by decide) ?_
            exact ts_sub [0, 1, 2, 3, 4, 5] rfl (J311  _ _ _ _ _ hw)
    exact hw _ (fun σ x5 x6 x7 h => key _ (fun _ _ _ _ h => h) σ x5 x6 x7 h)
  have J101 : ∀ (σ : ts_S) (x4 : Int32) (x5 : Int32), wp_X10_can_l101 K a1 a2 a3 σ x4 x5 → ts_G g (tM_w v) 10 σ 101 [(0, .ref (tX_ad v 0)), (1, .int a1), (3, .int a3), (4, .int x4), (5, .int x5)] [] := by
    intro  σ x4 x5 hw
    have key : ∀ X101 : ts_S → Int32 → Prop, (∀ (σ : ts_S) (x5 : Int32), X101 σ x5 → ts_G g (tM_w v) 10 σ 101 [(0, .ref (tX_ad v 0)), (1, .int a1), (3, .int a3), (4, .int x4), (5, .int x5)] []) → ∀ (σ : ts_S) (x5 : Int32), wp_X10_can_b101 K X101 a1 a2 a3 x4 σ x5 → ts_G g (tM_w v) 10 σ 101 [(0, .ref (tX_ad v 0)), (1, .int a1), (3, .int a3), (4, .int x4), (5, .int x5)] [] := by
      intro X101 hX101
      have J113 : ∀ (σ : ts_S) (x5 : Int32) (x6 : Int32), wp_X10_can_l113 K X101 a1 a2 a3 σ x4 x5 x6 → ts_G g (tM_w v) 10 σ 113 [(0, .ref (tX_ad v 0)), (1, .int a1), (3, .int a3), (4, .int x4), (5, .int x5), (6, .int x6)] [] := by
        intro  σ x5 x6 hw
        have key : ∀ X113 : ts_S → Int32 → Prop, (∀ (σ : ts_S) (x6 : Int32), X113 σ x6 → ts_G g (tM_w v) 10 σ 113 [(0, .ref (tX_ad v 0)), (1, .int a1), (3, .int a3), (4, .int x4), (5, .int x5), (6, .int x6)] []) → ∀ (σ : ts_S) (x6 : Int32), wp_X10_can_b113 K X101 X113 a1 a2 a3 x4 x5 σ x6 → ts_G g (tM_w v) 10 σ 113 [(0, .ref (tX_ad v 0)), (1, .int a1), (3, .int a3), (4, .int x4), (5, .int x5), (6, .int x6)] [] := by
          intro X113 hX113
          have J125 : ∀ (σ : ts_S) (x6 : Int32) (x7 : Int32), wp_X10_can_l125 K X101 X113 a1 a2 a3 σ x4 x5 x6 x7 → ts_G g (tM_w v) 10 σ 125 [(0, .ref (tX_ad v 0)), (1, .int a1), (3, .int a3), (4, .int x4), (5, .int x5), (6, .int x6), (7, .int x7)] [] := by
            intro  σ x6 x7 hw
            have key : ∀ X125 : ts_S → Int32 → Prop, (∀ (σ : ts_S) (x7 : Int32), X125 σ x7 → ts_G g (tM_w v) 10 σ 125 [(0, .ref (tX_ad v 0)), (1, .int a1), (3, .int a3), (4, .int x4), (5, .int x5), (6, .int x6), (7, .int x7)] []) → ∀ (σ : ts_S) (x7 : Int32), wp_X10_can_b125 K X101 X113 X125 a1 a2 a3 x4 x5 x6 σ x7 → ts_G g (tM_w v) 10 σ 125 [(0, .ref (tX_ad v 0)), (1, .int a1), (3, .int a3), (4, .int x4), (5, .int x5), (6, .int x6), (7, .int x7)] [] := by
              intro X125 hX125
              have J242 : ∀ (σ : ts_S) (x7 : Int32) (y0 : Int32) (y1 : Int32), wp_X10_can_j242 K X101 X113 X125 a1 a2 a3 σ x4 x5 x6 x7 y0 y1 → ts_G g (tM_w v) 10 σ 242 [(0, .ref (tX_ad v 0)), (1, .int a1), (3, .int a3), (4, .int x4), (5, .int x5), (6, .int x6), (7, .int x7)] [.int y0, .int y1, .ref (tX_ad v 14)] := by
                intro  σ x7 y0 y1 hw
                unfold wp_X10_can_j242 at hw
                refine mi_ast X tM_c14 hw.1 dX10_can_242 (fun s21 es21 => ?_)
                have hw := hw.2 s21 es21
                refine ts_iinc X dX10_can_243 6 rfl (v := x7 + 1) rfl (by decide) (lv' := [(7, .int (x7 + 1)), (0, .ref (tX_ad v 0)), (1, .int a1), (3, .int a3), (4, .int x4), (5, .int x5), (6, .int x6)]) rfl ?_
                refine ts_goto 125 X dX10_can_246 (by decide) ?_
                exact ts_sub [1, 2, 3, 4, 5, 6, 0] rfl (hX125 _ _ hw)
              have J210 : ∀ (σ : ts_S) (x7 : Int32) (y0 : Int32), wp_X10_can_j210 K X101 X113 X125 a1 a2 a3 σ x4 x5 x6 x7 y0 → ts_G g (tM_w v) 10 σ 210 [(0, .ref (tX_ad v 0)), (1, .int a1), (3, .int a3), (4, .int x4), (5, .int x5), (6, .int x6), (7, .int x7)] [.int y0] := by
                intro  σ x7 y0 hw
                unfold wp_X10_can_j210 at hw
                refine ts_istore X dX10_can_210 (by decide) (lv' := [(9, .int y0), (0, .ref (tX_ad v 0)), (1, .int a1), (3, .int a3), (4, .int x4), (5, .int x5), (6, .int x6), (7, .int x7)]) rfl ?_
                refine ts_aload_n X dX10_can_212 1 rfl ?_
                refine gf_X10_49 X dX10_can_213 ?_
                refine ts_iload X dX10_can_216 6 rfl ?_
                refine ts_iload X dX10_can_218 0 rfl ?_
                refine ts_if_eq 235 X dX10_can_220 (by decide) (fun c => ?_) (fun c => ?_)
                · have hw := ts_itp hw c
                  refine ts_aload_n X dX10_can_235 1 rfl ?_
                  refine gf_X10_49 X dX10_can_236 ?_
                  refine ts_iload X dX10_can_239 6 rfl ?_
                  refine mi_ald X tM_c14 hw.1 dX10_can_241 ?_
                  have hw := hw.2
                  exact ts_sub [1, 2, 3, 4, 5, 6, 7] rfl (J242  _ _ _ _ hw)
                · have hw := ts_itn hw c
                  refine ts_aload_n X dX10_can_223 1 rfl ?_
                  refine gf_X10_49 X dX10_can_224 ?_
                  refine ts_iload X dX10_can_227 7 rfl ?_
                  refine mi_ald X tM_c14 hw.1 dX10_can_229 ?_
                  have hw := hw.2
                  refine ts_iconst X dX10_can_230 (v := 1) (by decide) ?_
                  refine ts_iadd X dX10_can_231 ?_
                  refine ts_goto 242 X dX10_can_232 (by decide) ?_
                  exact ts_sub [1, 2, 3, 4, 5, 6, 7] rfl (J242  _ _ _ _ hw)
              intro σ x7 hw
              unfold wp_X10_can_b125 at hw
              refine ts_iload X dX10_can_125 6 rfl ?_
              refine ts_aload_n X dX10_can_127 0 rfl ?_
              refine gf_X10_73 X dX10_can_128 ?_
              refine ts_icmp_ge 249 X dX10_can_131 (by decide) (fun c => ?_) (fun c => ?_)
              · have hw := ts_itp hw c
                refine ts_iinc X dX10_can_249 5 rfl (v := x6 + 1) rfl (by decide) (lv' := [(6, .int (x6 + 1)), (0, .ref (tX_ad v 0)), (1, .int a1), (3, .int a3), (4, .int x4), (5, .int x5), (7, .int x7)]) rfl ?_
                refine ts_goto 113 X dX10_can_252 (by decide) ?_
                exact ts_sub [1, 2, 3, 4, 5, 0] rfl (hX113 _ _ hw)
              · have hw := ts_itn hw c
                refine ts_aload_n X dX10_can_134 0 rfl ?_
                refine gf_X10_43 X dX10_can_135 ?_
                refine ts_iconst X dX10_can_138 (v := 3) (by decide) ?_
                refine ts_iload X dX10_can_139 5 rfl ?_
                refine ts_iadd X dX10_can_141 ?_
                refine mi_ald X tM_c12 hw.1 dX10_can_142 ?_
                have hw := hw.2
                refine ts_aload_n X dX10_can_143 0 rfl ?_
                refine gf_X10_43 X dX10_can_144 ?_
                refine ts_iconst X dX10_can_147 (v := 3) (by decide) ?_
                refine ts_iload X dX10_can_148 6 rfl ?_
                refine ts_iadd X dX10_can_150 ?_
                refine mi_ald X tM_c12 hw.1 dX10_can_151 ?_
                have hw := hw.2
                refine ts_isub X dX10_can_152 ?_
                refine ts_istore X dX10_can_153 (by decide) (lv' := [(8, .int ((σ 12 (3 + x6).toNatClampNeg) - (σ 12 (3 + x7).toNatClampNeg))), (0, .ref (tX_ad v 0)), (1, .int a1), (3, .int a3), (4, .int x4), (5, .int x5), (6, .int x6), (7, .int x7)]) rfl ?_
                refine ts_iload X dX10_can_155 4 rfl ?_
                refine ts_iload X dX10_can_157 6 rfl ?_
                refine ts_callSi X (As := [.int x4, .int x6]) (ct_X10_has g.2.1 v hi _ _ _ _ hw) ok_X10_has cw_X10_139 (ts_le hgn (by decide)) (by decide) rfl rfl (Nat.le_of_ble_eq_true rfl) dX10_can_159 (fun r22 s23 hw => ?_)
                refine ts_if_ne 209 X dX10_can_162 (by decide) (fun c => ?_) (fun c => ?_)
                · have hw := ts_itn hw c
                  refine ts_iconst X dX10_can_209 (v := 0) (by decide) ?_
                  exact ts_sub [1, 2, 3, 4, 5, 6, 7] rfl (J210  _ _ _ hw)
                · have hw := ts_itp hw c
                  refine ts_iload X dX10_can_165 4 rfl ?_
                  refine ts_iload X dX10_can_167 7 rfl ?_
                  refine ts_callSi X (As := [.int x4, .int x7]) (ct_X10_has g.2.1 v hi _ _ _ _ hw) ok_X10_has cw_X10_139 (ts_le hgn (by decide)) (by decide) rfl rfl (Nat.le_of_ble_eq_true rfl) dX10_can_169 (fun r24 s25 hw => ?_)
                  refine ts_if_ne 209 X dX10_can_172 (by decide) (fun c => ?_) (fun c => ?_)
                  · have hw := ts_itn hw c
                    refine ts_iconst X dX10_can_209 (v := 0) (by decide) ?_
                    exact ts_sub [1, 2, 3, 4, 5, 6, 7] rfl (J210  _ _ _ hw)
                  · have hw := ts_itp hw c
                    refine ts_iload X dX10_can_175 0 rfl ?_
                    refine ts_bipush X dX10_can_177 (v := (-2)) (by decide) ?_
                    refine ts_iconst X dX10_can_179 (v := 2) (by decide) ?_
                    refine ts_callSi X (As := [.int ((σ 12 (3 + x6).toNatClampNeg) - (σ 12 (3 + x7).toNatClampNeg)), .int (-2), .int 2]) (ct_X10_in g.2.1 v hi _ _ _ _ _ hw) ok_X10_in cw_X10_76 (ts_le hgn (by decide)) (by decide) rfl rfl (Nat.le_of_ble_eq_true rfl) dX10_can_180 (fun r26 s27 hw => ?_)
                    refine ts_if_eq 209 X dX10_can_183 (by decide) (fun c => ?_) (fun c => ?_)
                    · have hw := ts_itp hw c
                      refine ts_iconst X dX10_can_209 (v := 0) (by decide) ?_
                      exact ts_sub [1, 2, 3, 4, 5, 6, 7] rfl (J210  _ _ _ hw)
                    · have hw := ts_itn hw c
                      refine ts_aload_n X dX10_can_186 1 rfl ?_
                      refine gf_X10_49 X dX10_can_187 ?_
                      refine ts_iload X dX10_can_190 7 rfl ?_
                      refine mi_ald X tM_c14 hw.1 dX10_can_192 ?_
                      have hw := hw.2
                      refine ts_iconst X dX10_can_193 (v := 1) (by decide) ?_
                      refine ts_iadd X dX10_can_194 ?_
                      refine ts_aload_n X dX10_can_195 1 rfl ?_
                      refine gf_X10_49 X dX10_can_196 ?_
                      refine ts_iload X dX10_can_199 6 rfl ?_
                      refine mi_ald X tM_c14 hw.1 dX10_can_201 ?_
                      have hw := hw.2
                      refine ts_icmp_ge 209 X dX10_can_202 (by decide) (fun c => ?_) (fun c => ?_)
                      · have hw := ts_itp hw c
                        refine ts_iconst X dX10_can_209 (v := 0) (by decide) ?_
                        exact ts_sub [1, 2, 3, 4, 5, 6, 7] rfl (J210  _ _ _ hw)
                      · have hw := ts_itn hw c
                        refine ts_iconst X dX10_can_205 (v := 1) (by decide) ?_
                        refine ts_goto 210 X dX10_can_206 (by decide) ?_
                        exact ts_sub [1, 2, 3, 4, 5, 6, 7] rfl (J210  _ _ _ hw)
            exact hw _ (fun σ x7 h => key _ (fun _ _ h => h) σ x7 h)
          intro σ x6 hw
          unfold wp_X10_can_b113 at hw
          refine ts_iload X dX10_can_113 5 rfl ?_
          refine ts_aload_n X dX10_can_115 0 rfl ?_
          refine gf_X10_73 X dX10_can_116 ?_
          refine ts_icmp_ge 255 X dX10_can_119 (by decide) (fun c => ?_) (fun c => ?_)
          · have hw := ts_itp hw c
            refine ts_iinc X dX10_can_255 4 rfl (v := x5 + 1) rfl (by decide) (lv' := [(5, .int (x5 + 1)), (0, .ref (tX_ad v 0)), (1, .int a1), (3, .int a3), (4, .int x4), (6, .int x6)]) rfl ?_
            refine ts_goto 101 X dX10_can_258 (by decide) ?_
            exact ts_sub [1, 2, 3, 4, 0] rfl (hX101 _ _ hw)
          · have hw := ts_itn hw c
            refine ts_iconst X dX10_can_122 (v := 0) (by decide) ?_
            refine ts_istore X dX10_can_123 (by decide) (lv' := [(7, .int 0), (0, .ref (tX_ad v 0)), (1, .int a1), (3, .int a3), (4, .int x4), (5, .int x5), (6, .int x6)]) rfl ?_
            exact ts_sub [1, 2, 3, 4, 5, 6, 0] rfl (J125  _ _ _ hw)
        exact hw _ (fun σ x6 h => key _ (fun _ _ h => h) σ x6 h)
      intro σ x5 hw
      unfold wp_X10_can_b101 at hw
      refine ts_iload X dX10_can_101 4 rfl ?_
      refine ts_aload_n X dX10_can_103 0 rfl ?_
      refine gf_X10_73 X dX10_can_104 ?_
      refine ts_icmp_ge 261 X dX10_can_107 (by decide) (fun c => ?_) (fun c => ?_)
      · have hw := ts_itp hw c
        refine ts_bipush X dX10_can_261 (v := (-4)) (by decide) ?_
        refine ts_istore X dX10_can_263 (by decide) (lv' := [(5, .int (-4)), (0, .ref (tX_ad v 0)), (1, .int a1), (3, .int a3), (4, .int x4)]) rfl ?_
        refine ts_bipush X dX10_can_265 (v := 100) (by decide) ?_
        refine ts_istore X dX10_can_267 (by decide) (lv' := [(6, .int 100), (5, .int (-4)), (0, .ref (tX_ad v 0)), (1, .int a1), (3, .int a3), (4, .int x4)]) rfl ?_
        refine ts_iconst X dX10_can_269 (v := 0) (by decide) ?_
        refine ts_istore X dX10_can_270 (by decide) (lv' := [(7, .int 0), (6, .int 100), (5, .int (-4)), (0, .ref (tX_ad v 0)), (1, .int a1), (3, .int a3), (4, .int x4)]) rfl ?_
        exact ts_sub [3, 4, 5, 2, 1, 0] rfl (J272  _ _ _ _ hw)
      · have hw := ts_itn hw c
        refine ts_iconst X dX10_can_110 (v := 0) (by decide) ?_
        refine ts_istore X dX10_can_111 (by decide) (lv' := [(6, .int 0), (0, .ref (tX_ad v 0)), (1, .int a1), (3, .int a3), (4, .int x4), (5, .int x5)]) rfl ?_
        exact ts_sub [1, 2, 3, 4, 5, 0] rfl (J113  _ _ _ hw)
    exact hw _ (fun σ x5 h => key _ (fun _ _ h => h) σ x5 h)
  have J47 : ∀ (σ : ts_S) (x4 : Int32) (x5 : Int32), wp_X10_can_l47 K a1 a2 a3 σ x4 x5 → ts_G g (tM_w v) 10 σ 47 [(0, .ref (tX_ad v 0)), (1, .int a1), (2, .int a2), (3, .int a3), (4, .int x4), (5, .int x5)] [] := by
    intro  σ x4 x5 hw
    have key : ∀ X47 : ts_S → Int32 → Prop, (∀ (σ : ts_S) (x5 : Int32), X47 σ x5 → ts_G g (tM_w v) 10 σ 47 [(0, .ref (tX_ad v 0)), (1, .int a1), (2, .int a2), (3, .int a3), (4, .int x4), (5, .int x5)] []) → ∀ (σ : ts_S) (x5 : Int32), wp_X10_can_b47 K X47 a1 a2 a3 x4 σ x5 → ts_G g (tM_w v) 10 σ 47 [(0, .ref (tX_ad v 0)), (1, .int a1), (2, .int a2), (3, .int a3), (4, .int x4), (5, .int x5)] [] := by
      intro X47 hX47
      have J91 : ∀ (σ : ts_S) (x5 : Int32) (y0 : Int32) (y1 : Int32), wp_X10_can_j91 K X47 a1 a2 a3 σ x4 x5 y0 y1 → ts_G g (tM_w v) 10 σ 91 [(0, .ref (tX_ad v 0)), (1, .int a1), (2, .int a2), (3, .int a3), (4, .int x4), (5, .int x5)] [.int y0, .int y1, .ref (tX_ad v 14)] := by
        intro  σ x5 y0 y1 hw
        unfold wp_X10_can_j91 at hw
        refine mi_ast X tM_c14 hw.1 dX10_can_91 (fun s28 es28 => ?_)
        have hw := hw.2 s28 es28
        refine ts_iinc X dX10_can_92 5 rfl (v := x5 + 1) rfl (by decide) (lv' := [(5, .int (x5 + 1)), (0, .ref (tX_ad v 0)), (1, .int a1), (2, .int a2), (3, .int a3), (4, .int x4)]) rfl ?_
        refine ts_goto 47 X dX10_can_95 (by decide) ?_
        exact ts_sub [1, 2, 3, 4, 5, 0] rfl (hX47 _ _ hw)
      intro σ x5 hw
      unfold wp_X10_can_b47 at hw
      refine ts_iload X dX10_can_47 5 rfl ?_
      refine ts_aload_n X dX10_can_49 0 rfl ?_
      refine gf_X10_73 X dX10_can_50 ?_
      refine ts_icmp_ge 98 X dX10_can_53 (by decide) (fun c => ?_) (fun c => ?_)
      · have hw := ts_itp hw c
        refine ts_iconst X dX10_can_98 (v := 0) (by decide) ?_
        refine ts_istore X dX10_can_99 (by decide) (lv' := [(5, .int 0), (0, .ref (tX_ad v 0)), (1, .int a1), (2, .int a2), (3, .int a3), (4, .int x4)]) rfl ?_
        exact ts_sub [1, 2, 4, 5, 0] rfl (J101  _ _ _ hw)
      · have hw := ts_itn hw c
        refine ts_aload_n X dX10_can_56 0 rfl ?_
        refine gf_X10_49 X dX10_can_57 ?_
        refine ts_iload X dX10_can_60 5 rfl ?_
        refine ts_iload X dX10_can_62 4 rfl ?_
        refine ts_iload X dX10_can_64 5 rfl ?_
        refine ts_callSi X (As := [.int x4, .int x5]) (ct_X10_has g.2.1 v hi _ _ _ _ hw) ok_X10_has cw_X10_139 (ts_le hgn (by decide)) (by decide) rfl rfl (Nat.le_of_ble_eq_true rfl) dX10_can_66 (fun r29 s30 hw => ?_)
        refine ts_if_ne 89 X dX10_can_69 (by decide) (fun c => ?_) (fun c => ?_)
        · have hw := ts_itn hw c
          refine ts_bipush X dX10_can_89 (v := 100) (by decide) ?_
          exact ts_sub [0, 1, 2, 3, 4, 5] rfl (J91  _ _ _ _ hw)
        · have hw := ts_itp hw c
          refine ts_aload_n X dX10_can_72 0 rfl ?_
          refine gf_X10_43 X dX10_can_73 ?_
          refine ts_iconst X dX10_can_76 (v := 3) (by decide) ?_
          refine ts_iload X dX10_can_77 5 rfl ?_
          refine ts_iadd X dX10_can_79 ?_
          refine mi_ald X tM_c12 hw.1 dX10_can_80 ?_
          have hw := hw.2
          refine ts_iload_n X dX10_can_81 2 rfl ?_
          refine ts_icmp_ne 89 X dX10_can_82 (by decide) (fun c => ?_) (fun c => ?_)
          · have hw := ts_itn hw c
            refine ts_bipush X dX10_can_89 (v := 100) (by decide) ?_
            exact ts_sub [0, 1, 2, 3, 4, 5] rfl (J91  _ _ _ _ hw)
          · have hw := ts_itp hw c
            refine ts_iconst X dX10_can_85 (v := 1) (by decide) ?_
            refine ts_goto 91 X dX10_can_86 (by decide) ?_
            exact ts_sub [0, 1, 2, 3, 4, 5] rfl (J91  _ _ _ _ hw)
    exact hw _ (fun σ x5 h => key _ (fun _ _ h => h) σ x5 h)
  unfold wp_X10_can at hw
  show ts_G g (tM_w v) 10 σ 0 [(0, .ref (tX_ad v 0)), (1, .int a1), (2, .int a2), (3, .int a3)] []
  refine ts_aload_n X dX10_can_0 0 rfl ?_
  refine ts_iload_n X dX10_can_1 1 rfl ?_
  refine ts_callVi (w := tM_w v) X (k := 0) (by decide : 0 < 15) rfl rfl rfl (As := [.int a1]) (ct_X10_isStep g.2.1 v hi _ _ _ hw) ok_X10_isStep cw_X10_165 (ts_le hgn (by decide)) (by decide) rfl rfl (Nat.le_of_ble_eq_true rfl) dX10_can_2 (fun r31 s32 hw => ?_)
  refine ts_if_eq 25 X dX10_can_5 (by decide) (fun c => ?_) (fun c => ?_)
  · have hw := ts_itp hw c
    refine ts_iconst X dX10_can_25 (v := (-1)) (by decide) ?_
    exact hret _ _ _ _ hw dX10_can_26
  · have hw := ts_itn hw c
    refine ts_aload_n X dX10_can_8 0 rfl ?_
    refine ts_iload_n X dX10_can_9 2 rfl ?_
    refine ts_callVi (w := tM_w v) X (k := 0) (by decide : 0 < 15) rfl rfl rfl (As := [.int a2]) (ct_X10_isStep g.2.1 v hi _ _ _ hw) ok_X10_isStep cw_X10_165 (ts_le hgn (by decide)) (by decide) rfl rfl (Nat.le_of_ble_eq_true rfl) dX10_can_10 (fun r33 s34 hw => ?_)
    refine ts_if_eq 25 X dX10_can_13 (by decide) (fun c => ?_) (fun c => ?_)
    · have hw := ts_itp hw c
      refine ts_iconst X dX10_can_25 (v := (-1)) (by decide) ?_
      exact hret _ _ _ _ hw dX10_can_26
    · have hw := ts_itn hw c
      refine ts_iload_n X dX10_can_16 3 rfl ?_
      refine ts_iconst X dX10_can_17 (v := 0) (by decide) ?_
      refine ts_iconst X dX10_can_18 (v := 1) (by decide) ?_
      refine ts_callSi X (As := [.int a3, .int 0, .int 1]) (ct_X10_in g.2.1 v hi _ _ _ _ _ hw) ok_X10_in cw_X10_76 (ts_le hgn (by decide)) (by decide) rfl rfl (Nat.le_of_ble_eq_true rfl) dX10_can_19 (fun r35 s36 hw => ?_)
      refine ts_if_ne 27 X dX10_can_22 (by decide) (fun c => ?_) (fun c => ?_)
      · have hw := ts_itn hw c
        refine ts_aload_n X dX10_can_27 0 rfl ?_
        refine ts_callVv (w := tM_w v) X (k := 0) (by decide : 0 < 15) rfl rfl rfl (As := []) (ct_X10_asItIs g.2.1 v hi _ _  hw) ok_X10_asItIs cw_X10_159 (ts_le hgn (by decide)) (by decide) rfl rfl (Nat.le_of_ble_eq_true rfl) dX10_can_28 (fun s38 hw => ?_)
        refine ts_aload_n X dX10_can_31 0 rfl ?_
        refine ts_callVi (w := tM_w v) X (k := 0) (by decide : 0 < 15) rfl rfl rfl (As := []) (ct_X10_frozen g.2.1 v hi _ _  hw) ok_X10_frozen cw_X10_150 (ts_le hgn (by decide)) (by decide) rfl rfl (Nat.le_of_ble_eq_true rfl) dX10_can_32 (fun r39 s40 hw => ?_)
        refine ts_aload_n X dX10_can_35 0 rfl ?_
        refine gf_X10_43 X dX10_can_36 ?_
        refine ts_iconst X dX10_can_39 (v := 1) (by decide) ?_
        refine mi_ald X tM_c12 hw.1 dX10_can_40 ?_
        have hw := hw.2
        refine ts_ior X dX10_can_41 ?_
        refine ts_istore X dX10_can_42 (by decide) (lv' := [(4, .int (r39 ||| (s40 12 (1 : Int32).toNatClampNeg))), (0, .ref (tX_ad v 0)), (1, .int a1), (2, .int a2), (3, .int a3)]) rfl ?_
        refine ts_iconst X dX10_can_44 (v := 0) (by decide) ?_
        refine ts_istore X dX10_can_45 (by decide) (lv' := [(5, .int 0), (4, .int (r39 ||| (s40 12 (1 : Int32).toNatClampNeg))), (0, .ref (tX_ad v 0)), (1, .int a1), (2, .int a2), (3, .int a3)]) rfl ?_
        exact ts_sub [2, 3, 4, 5, 1, 0] rfl (J47  _ _ _ hw)
      · have hw := ts_itp hw c
        refine ts_iconst X dX10_can_25 (v := (-1)) (by decide) ?_
        exact hret _ _ _ _ hw dX10_can_26
set_option maxRecDepth 100000 in
set_option maxHeartbeats 4000000 in
theorem ct_X10_seen (l : Launch) (v : tX_V) (hi : ts_inj 15 (tX_ad v)) (K : Int32 → ts_S → Prop) (σ : ts_S) (a1 : Int32) (a2 : Int32) (a3 : Int32)  (hw : wp_X10_seen K σ a1 a2 a3) : ts_Mi l yX10_seen (Cond.code yX10_seen cX10_seen 4 (some .int)) 3 (tM_w v) [.ref (tX_ad v 0), .int a1, .int a2, .int a3] σ K := by
  refine ts_Mi.of_i (w := tM_w v) hi (by decide +kernel) (Nat.le_of_ble_eq_true rfl) ?_
  intro g hgl hgn X hret
  unfold wp_X10_seen at hw
  show ts_G g (tM_w v) 4 σ 0 [(0, .ref (tX_ad v 0)), (1, .int a1), (2, .int a2), (3, .int a3)] []
  refine ts_aload_n X dX10_seen_0 0 rfl ?_
  refine ts_iload_n X dX10_seen_1 1 rfl ?_
  refine ts_callVi (w := tM_w v) X (k := 0) (by decide : 0 < 15) rfl rfl rfl (As := [.int a1]) (ct_X10_isPerson g.2.1 v hi _ _ _ hw) ok_X10_isPerson cw_X10_156 (ts_le hgn (by decide)) (by decide) rfl rfl (Nat.le_of_ble_eq_true rfl) dX10_seen_2 (fun r11 s12 hw => ?_)
  refine ts_if_eq 25 X dX10_seen_5 (by decide) (fun c => ?_) (fun c => ?_)
  · have hw := ts_itp hw c
    refine ts_iconst X dX10_seen_25 (v := (-1)) (by decide) ?_
    exact hret _ _ _ _ hw dX10_seen_26
  · have hw := ts_itn hw c
    refine ts_aload_n X dX10_seen_8 0 rfl ?_
    refine ts_iload_n X dX10_seen_9 2 rfl ?_
    refine ts_callVi (w := tM_w v) X (k := 0) (by decide : 0 < 15) rfl rfl rfl (As := [.int a2]) (ct_X10_isStep g.2.1 v hi _ _ _ hw) ok_X10_isStep cw_X10_165 (ts_le hgn (by decide)) (by decide) rfl rfl (Nat.le_of_ble_eq_true rfl) dX10_seen_10 (fun r13 s14 hw => ?_)
    refine ts_if_eq 25 X dX10_seen_13 (by decide) (fun c => ?_) (fun c => ?_)
    · have hw := ts_itp hw c
      refine ts_iconst X dX10_seen_25 (v := (-1)) (by decide) ?_
      exact hret _ _ _ _ hw dX10_seen_26
    · have hw := ts_itn hw c
      refine ts_iload_n X dX10_seen_16 3 rfl ?_
      refine ts_iconst X dX10_seen_17 (v := 0) (by decide) ?_
      refine ts_iconst X dX10_seen_18 (v := 1) (by decide) ?_
      refine ts_callSi X (As := [.int a3, .int 0, .int 1]) (ct_X10_in g.2.1 v hi _ _ _ _ _ hw) ok_X10_in cw_X10_76 (ts_le hgn (by decide)) (by decide) rfl rfl (Nat.le_of_ble_eq_true rfl) dX10_seen_19 (fun r15 s16 hw => ?_)
      refine ts_if_ne 27 X dX10_seen_22 (by decide) (fun c => ?_) (fun c => ?_)
      · have hw := ts_itn hw c
        refine ts_aload_n X dX10_seen_27 0 rfl ?_
        refine gf_X10_136 X dX10_seen_28 ?_
        refine ts_bipush X dX10_seen_31 (v := 6) (by decide) ?_
        refine ts_icmp_ne 39 X dX10_seen_33 (by decide) (fun c => ?_) (fun c => ?_)
        · have hw := ts_itn hw c
          refine ts_aload_n X dX10_seen_39 0 rfl ?_
          refine gf_X10_25 X dX10_seen_40 ?_
          refine ts_iconst X dX10_seen_43 (v := 3) (by decide) ?_
          refine ts_aload_n X dX10_seen_44 0 rfl ?_
          refine gf_X10_136 X dX10_seen_45 ?_
          refine ts_imul X dX10_seen_48 ?_
          refine ts_iload_n X dX10_seen_49 1 rfl ?_
          refine mi_ast X tM_c6 hw.1 dX10_seen_50 (fun s17 es17 => ?_)
          have hw := hw.2 s17 es17
          refine ts_aload_n X dX10_seen_51 0 rfl ?_
          refine gf_X10_25 X dX10_seen_52 ?_
          refine ts_iconst X dX10_seen_55 (v := 3) (by decide) ?_
          refine ts_aload_n X dX10_seen_56 0 rfl ?_
          refine gf_X10_136 X dX10_seen_57 ?_
          refine ts_imul X dX10_seen_60 ?_
          refine ts_iconst X dX10_seen_61 (v := 1) (by decide) ?_
          refine ts_iadd X dX10_seen_62 ?_
          refine ts_iload_n X dX10_seen_63 2 rfl ?_
          refine mi_ast X tM_c6 hw.1 dX10_seen_64 (fun s18 es18 => ?_)
          have hw := hw.2 s18 es18
          refine ts_aload_n X dX10_seen_65 0 rfl ?_
          refine gf_X10_25 X dX10_seen_66 ?_
          refine ts_iconst X dX10_seen_69 (v := 3) (by decide) ?_
          refine ts_aload_n X dX10_seen_70 0 rfl ?_
          refine gf_X10_136 X dX10_seen_71 ?_
          refine ts_imul X dX10_seen_74 ?_
          refine ts_iconst X dX10_seen_75 (v := 2) (by decide) ?_
          refine ts_iadd X dX10_seen_76 ?_
          refine ts_iload_n X dX10_seen_77 3 rfl ?_
          refine mi_ast X tM_c6 hw.1 dX10_seen_78 (fun s19 es19 => ?_)
          have hw := hw.2 s19 es19
          refine ts_aload_n X dX10_seen_79 0 rfl ?_
          refine ts_dup X dX10_seen_80 rfl ?_
          refine gf_X10_136 X dX10_seen_81 ?_
          refine ts_iconst X dX10_seen_84 (v := 1) (by decide) ?_
          refine ts_iadd X dX10_seen_85 ?_
          refine pf_X10_136 X dX10_seen_86 (fun s20 es20 => ?_)
          have hw := hw s20 es20
          refine ts_aload_n X dX10_seen_89 0 rfl ?_
          refine gf_X10_136 X dX10_seen_90 ?_
          exact hret _ _ _ _ hw dX10_seen_93
        · have hw := ts_itp hw c
          refine ts_bipush X dX10_seen_36 (v := (-3)) (by decide) ?_
          exact hret _ _ _ _ hw dX10_seen_38
      · have hw := ts_itp hw c
        refine ts_iconst X dX10_seen_25 (v := (-1)) (by decide) ?_
        exact hret _ _ _ _ hw dX10_seen_26
set_option maxRecDepth 100000 in
set_option maxHeartbeats 4000000 in
theorem ct_X10_forget (l : Launch) (v : tX_V) (hi : ts_inj 15 (tX_ad v)) (K : Int32 → ts_S → Prop) (σ : ts_S)   (hw : wp_X10_forget K σ ) : ts_Mi l yX10_forget (Cond.code yX10_forget cX10_forget 2 (some .int)) 1 (tM_w v) [.ref (tX_ad v 0)] σ K := by
  refine ts_Mi.of_i (w := tM_w v) hi (by decide +kernel) (Nat.le_of_ble_eq_true rfl) ?_
  intro g hgl hgn X hret
  unfold wp_X10_forget at hw
  show ts_G g (tM_w v) 2 σ 0 [(0, .ref (tX_ad v 0))] []
  refine ts_aload_n X dX10_forget_0 0 rfl ?_
  refine gf_X10_136 X dX10_forget_1 ?_
  refine ts_istore_n X dX10_forget_4 (by decide) (lv' := [(1, .int (σ 0 10)), (0, .ref (tX_ad v 0))]) rfl ?_
  refine ts_aload_n X dX10_forget_5 1 rfl ?_
  refine ts_iconst X dX10_forget_6 (v := 0) (by decide) ?_
  refine pf_X10_136 X dX10_forget_7 (fun s2 es2 => ?_)
  have hw := hw s2 es2
  refine ts_iload_n X dX10_forget_10 0 rfl ?_
  exact hret _ _ _ _ hw dX10_forget_11
set_option maxRecDepth 100000 in
set_option maxHeartbeats 4000000 in
theorem ct_X10_isSo (l : Launch) (v : tX_V) (hi : ts_inj 15 (tX_ad v)) (K : Int32 → ts_S → Prop) (σ : ts_S) (a1 : Int32) (a2 : Int32) (a3 : Int32)  (hw : wp_X10_isSo K σ a1 a2 a3) : ts_Mi l yX10_isSo (Cond.code yX10_isSo cX10_isSo 7 (some .boolean)) 3 (tM_w v) [.ref (tX_ad v 0), .int a1, .int a2, .int a3] σ K := by
  refine ts_Mi.of_z (w := tM_w v) hi (by decide +kernel) (Nat.le_of_ble_eq_true rfl) ?_
  intro g hgl hgn X hret
  have J6 : ∀ (σ : ts_S) (x4 : Int32) (x5 : Int32), wp_X10_isSo_l6 K a1 a2 a3 σ x4 x5 → ts_G g (tM_w v) 7 σ 6 [(0, .ref (tX_ad v 0)), (1, .int a1), (2, .int a2), (3, .int a3), (4, .int x4), (5, .int x5)] [] := by
    intro  σ x4 x5 hw
    have key : ∀ X6 : ts_S → Int32 → Int32 → Prop, (∀ (σ : ts_S) (x4 : Int32) (x5 : Int32), X6 σ x4 x5 → ts_G g (tM_w v) 7 σ 6 [(0, .ref (tX_ad v 0)), (1, .int a1), (2, .int a2), (3, .int a3), (4, .int x4), (5, .int x5)] []) → ∀ (σ : ts_S) (x4 : Int32) (x5 : Int32), wp_X10_isSo_b6 K X6 a1 a2 a3  σ x4 x5 → ts_G g (tM_w v) 7 σ 6 [(0, .ref (tX_ad v 0)), (1, .int a1), (2, .int a2), (3, .int a3), (4, .int x4), (5, .int x5)] [] := by
      intro X6 hX6
      have J83 : ∀ (σ : ts_S) (x5 : Int32) (y0 : Int32) (y1 : Int32), wp_X10_isSo_j83 K X6 a1 a2 a3 σ x5 y0 y1 → ts_G g (tM_w v) 7 σ 83 [(0, .ref (tX_ad v 0)), (1, .int a1), (2, .int a2), (3, .int a3), (5, .int x5)] [.int y0, .int y1] := by
        intro  σ x5 y0 y1 hw
        unfold wp_X10_isSo_j83 at hw
        refine ts_icmp_ne 90 X dX10_isSo_83 (by decide) (fun c => ?_) (fun c => ?_)
        · have hw := ts_itn hw c
          refine ts_iconst X dX10_isSo_90 (v := 0) (by decide) ?_
          refine ts_istore X dX10_isSo_91 (by decide) (lv' := [(4, .int 0), (0, .ref (tX_ad v 0)), (1, .int a1), (2, .int a2), (3, .int a3), (5, .int x5)]) rfl ?_
          refine ts_iinc X dX10_isSo_93 5 rfl (v := x5 + 1) rfl (by decide) (lv' := [(5, .int (x5 + 1)), (4, .int 0), (0, .ref (tX_ad v 0)), (1, .int a1), (2, .int a2), (3, .int a3)]) rfl ?_
          refine ts_goto 6 X dX10_isSo_96 (by decide) ?_
          exact ts_sub [2, 3, 4, 5, 1, 0] rfl (hX6 _ _ _ hw)
        · have hw := ts_itp hw c
          refine ts_iconst X dX10_isSo_86 (v := 1) (by decide) ?_
          refine ts_goto 91 X dX10_isSo_87 (by decide) ?_
          refine ts_istore X dX10_isSo_91 (by decide) (lv' := [(4, .int 1), (0, .ref (tX_ad v 0)), (1, .int a1), (2, .int a2), (3, .int a3), (5, .int x5)]) rfl ?_
          refine ts_iinc X dX10_isSo_93 5 rfl (v := x5 + 1) rfl (by decide) (lv' := [(5, .int (x5 + 1)), (4, .int 1), (0, .ref (tX_ad v 0)), (1, .int a1), (2, .int a2), (3, .int a3)]) rfl ?_
          refine ts_goto 6 X dX10_isSo_96 (by decide) ?_
          exact ts_sub [2, 3, 4, 5, 1, 0] rfl (hX6 _ _ _ hw)
      have J41 : ∀ (σ : ts_S) (x4 : Int32) (x5 : Int32) (y0 : Int32), wp_X10_isSo_j41 K X6 a1 a2 a3 σ x4 x5 y0 → ts_G g (tM_w v) 7 σ 41 [(0, .ref (tX_ad v 0)), (1, .int a1), (2, .int a2), (3, .int a3), (4, .int x4), (5, .int x5)] [.int y0] := by
        intro  σ x4 x5 y0 hw
        unfold wp_X10_isSo_j41 at hw
        refine ts_istore X dX10_isSo_41 (by decide) (lv' := [(6, .int y0), (0, .ref (tX_ad v 0)), (1, .int a1), (2, .int a2), (3, .int a3), (4, .int x4), (5, .int x5)]) rfl ?_
        refine ts_iload X dX10_isSo_43 5 rfl ?_
        refine ts_if_eq 90 X dX10_isSo_45 (by decide) (fun c => ?_) (fun c => ?_)
        · have hw := ts_itp hw c
          refine ts_iconst X dX10_isSo_90 (v := 0) (by decide) ?_
          refine ts_istore X dX10_isSo_91 (by decide) (lv' := [(4, .int 0), (6, .int y0), (0, .ref (tX_ad v 0)), (1, .int a1), (2, .int a2), (3, .int a3), (5, .int x5)]) rfl ?_
          refine ts_iinc X dX10_isSo_93 6 rfl (v := x5 + 1) rfl (by decide) (lv' := [(5, .int (x5 + 1)), (4, .int 0), (6, .int y0), (0, .ref (tX_ad v 0)), (1, .int a1), (2, .int a2), (3, .int a3)]) rfl ?_
          refine ts_goto 6 X dX10_isSo_96 (by decide) ?_
          exact ts_sub [3, 4, 5, 6, 1, 0] rfl (hX6 _ _ _ hw)
        · have hw := ts_itn hw c
          refine ts_aload_n X dX10_isSo_48 1 rfl ?_
          refine gf_X10_25 X dX10_isSo_49 ?_
          refine ts_iconst X dX10_isSo_52 (v := 3) (by decide) ?_
          refine ts_iload X dX10_isSo_53 6 rfl ?_
          refine ts_imul X dX10_isSo_55 ?_
          refine mi_ald X tM_c6 hw.1 dX10_isSo_56 ?_
          have hw := hw.2
          refine ts_iload_n X dX10_isSo_57 2 rfl ?_
          refine ts_icmp_ne 86 X dX10_isSo_58 (by decide) (fun c => ?_) (fun c => ?_)
          · have hw := ts_itn hw c
            refine ts_iconst X dX10_isSo_86 (v := 1) (by decide) ?_
            refine ts_goto 91 X dX10_isSo_87 (by decide) ?_
            refine ts_istore X dX10_isSo_91 (by decide) (lv' := [(4, .int 1), (6, .int y0), (0, .ref (tX_ad v 0)), (1, .int a1), (2, .int a2), (3, .int a3), (5, .int x5)]) rfl ?_
            refine ts_iinc X dX10_isSo_93 6 rfl (v := x5 + 1) rfl (by decide) (lv' := [(5, .int (x5 + 1)), (4, .int 1), (6, .int y0), (0, .ref (tX_ad v 0)), (1, .int a1), (2, .int a2), (3, .int a3)]) rfl ?_
            refine ts_goto 6 X dX10_isSo_96 (by decide) ?_
            exact ts_sub [3, 4, 5, 6, 1, 0] rfl (hX6 _ _ _ hw)
          · have hw := ts_itp hw c
            refine ts_iload X dX10_isSo_61 0 rfl ?_
            refine ts_aload_n X dX10_isSo_63 1 rfl ?_
            refine gf_X10_25 X dX10_isSo_64 ?_
            refine ts_iconst X dX10_isSo_67 (v := 3) (by decide) ?_
            refine ts_iload X dX10_isSo_68 6 rfl ?_
            refine ts_imul X dX10_isSo_70 ?_
            refine ts_iconst X dX10_isSo_71 (v := 2) (by decide) ?_
            refine ts_iadd X dX10_isSo_72 ?_
            refine mi_ald X tM_c6 hw.1 dX10_isSo_73 ?_
            have hw := hw.2
            refine ts_iconst X dX10_isSo_74 (v := 1) (by decide) ?_
            refine ts_icmp_ne 82 X dX10_isSo_75 (by decide) (fun c => ?_) (fun c => ?_)
            · have hw := ts_itn hw c
              refine ts_iconst X dX10_isSo_82 (v := 0) (by decide) ?_
              exact ts_sub [1, 2, 3, 4, 6] rfl (J83  _ _ _ _ hw)
            · have hw := ts_itp hw c
              refine ts_iconst X dX10_isSo_78 (v := 1) (by decide) ?_
              refine ts_goto 83 X dX10_isSo_79 (by decide) ?_
              exact ts_sub [1, 2, 3, 4, 6] rfl (J83  _ _ _ _ hw)
      intro σ x4 x5 hw
      unfold wp_X10_isSo_b6 at hw
      refine ts_iload X dX10_isSo_6 5 rfl ?_
      refine ts_aload_n X dX10_isSo_8 0 rfl ?_
      refine gf_X10_136 X dX10_isSo_9 ?_
      refine ts_icmp_ge 99 X dX10_isSo_12 (by decide) (fun c => ?_) (fun c => ?_)
      · have hw := ts_itp hw c
        refine ts_iload X dX10_isSo_99 4 rfl ?_
        exact hret _ _ _ _ hw dX10_isSo_101
      · have hw := ts_itn hw c
        refine ts_aload_n X dX10_isSo_15 0 rfl ?_
        refine ts_iload_n X dX10_isSo_16 1 rfl ?_
        refine ts_aload_n X dX10_isSo_17 0 rfl ?_
        refine gf_X10_25 X dX10_isSo_18 ?_
        refine ts_iconst X dX10_isSo_21 (v := 3) (by decide) ?_
        refine ts_iload X dX10_isSo_22 5 rfl ?_
        refine ts_imul X dX10_isSo_24 ?_
        refine ts_iconst X dX10_isSo_25 (v := 1) (by decide) ?_
        refine ts_iadd X dX10_isSo_26 ?_
        refine mi_ald X tM_c6 hw.1 dX10_isSo_27 ?_
        have hw := hw.2
        refine ts_iload_n X dX10_isSo_28 2 rfl ?_
        refine ts_callVi (w := tM_w v) X (k := 0) (by decide : 0 < 15) rfl rfl rfl (As := [.int a1, .int (σ 6 ((3 * x5) + 1).toNatClampNeg), .int a2]) (ct_X10_fearAs g.2.1 v hi _ _ _ _ _ hw) ok_X10_fearAs cw_X10_143 (ts_le hgn (by decide)) (by decide) rfl rfl (Nat.le_of_ble_eq_true rfl) dX10_isSo_29 (fun r3 s4 hw => ?_)
        refine ts_iload_n X dX10_isSo_32 3 rfl ?_
        refine ts_icmp_le 40 X dX10_isSo_33 (by decide) (fun c => ?_) (fun c => ?_)
        · have hw := ts_itp hw c
          refine ts_iconst X dX10_isSo_40 (v := 0) (by decide) ?_
          exact ts_sub [0, 1, 2, 3, 4, 5] rfl (J41  _ _ _ _ hw)
        · have hw := ts_itn hw c
          refine ts_iconst X dX10_isSo_36 (v := 1) (by decide) ?_
          refine ts_goto 41 X dX10_isSo_37 (by decide) ?_
          exact ts_sub [0, 1, 2, 3, 4, 5] rfl (J41  _ _ _ _ hw)
    exact hw _ (fun σ x4 x5 h => key _ (fun _ _ _ h => h) σ x4 x5 h)
  unfold wp_X10_isSo at hw
  show ts_G g (tM_w v) 7 σ 0 [(0, .ref (tX_ad v 0)), (1, .int a1), (2, .int a2), (3, .int a3)] []
  refine ts_iconst X dX10_isSo_0 (v := 1) (by decide) ?_
  refine ts_istore X dX10_isSo_1 (by decide) (lv' := [(4, .int 1), (0, .ref (tX_ad v 0)), (1, .int a1), (2, .int a2), (3, .int a3)]) rfl ?_
  refine ts_iconst X dX10_isSo_3 (v := 0) (by decide) ?_
  refine ts_istore X dX10_isSo_4 (by decide) (lv' := [(5, .int 0), (4, .int 1), (0, .ref (tX_ad v 0)), (1, .int a1), (2, .int a2), (3, .int a3)]) rfl ?_
  exact ts_sub [2, 3, 4, 5, 1, 0] rfl (J6  _ _ _ hw)
set_option maxRecDepth 100000 in
set_option maxHeartbeats 4000000 in
theorem ct_X10_nerves (l : Launch) (v : tX_V) (hi : ts_inj 15 (tX_ad v)) (K : Int32 → ts_S → Prop) (σ : ts_S) (a1 : Int32) (a2 : Int32)  (hw : wp_X10_nerves K σ a1 a2) : ts_Mi l yX10_nerves (Cond.code yX10_nerves cX10_nerves 7 (some .int)) 4 (tM_w v) [.ref (tX_ad v 0), .int a1, .int a2] σ K := by
  refine ts_Mi.of_i (w := tM_w v) hi (by decide +kernel) (Nat.le_of_ble_eq_true rfl) ?_
  intro g hgl hgn X hret
  have J33 : ∀ (σ : ts_S) (x3 : Int32) (x4 : Int32) (x5 : Int32), wp_X10_nerves_l33 K a1 a2 σ x3 x4 x5 → ts_G g (tM_w v) 7 σ 33 [(0, .ref (tX_ad v 0)), (1, .int a1), (2, .int a2), (3, .int x3), (4, .int x4), (5, .int x5)] [] := by
    intro  σ x3 x4 x5 hw
    have key : ∀ X33 : ts_S → Int32 → Int32 → Int32 → Prop, (∀ (σ : ts_S) (x3 : Int32) (x4 : Int32) (x5 : Int32), X33 σ x3 x4 x5 → ts_G g (tM_w v) 7 σ 33 [(0, .ref (tX_ad v 0)), (1, .int a1), (2, .int a2), (3, .int x3), (4, .int x4), (5, .int x5)] []) → ∀ (σ : ts_S) (x3 : Int32) (x4 : Int32) (x5 : Int32), wp_X10_nerves_b33 K X33 a1 a2  σ x3 x4 x5 → ts_G g (tM_w v) 7 σ 33 [(0, .ref (tX_ad v 0)), (1, .int a1), (2, .int a2), (3, .int x3), (4, .int x4), (5, .int x5)] [] := by
      intro X33 hX33
      have J64 : ∀ (σ : ts_S) (x4 : Int32) (x5 : Int32) (x6 : Int32) (y0 : Int32) (y1 : Int32), wp_X10_nerves_j64 K X33 a1 a2 σ x4 x5 x6 y0 y1 → ts_G g (tM_w v) 7 σ 64 [(0, .ref (tX_ad v 0)), (1, .int a1), (2, .int a2), (4, .int x4), (5, .int x5), (6, .int x6)] [.int y0, .int y1] := by
        intro  σ x4 x5 x6 y0 y1 hw
        unfold wp_X10_nerves_j64 at hw
        refine ts_iadd X dX10_nerves_64 ?_
        refine ts_istore_n X dX10_nerves_65 (by decide) (lv' := [(3, .int (y1 + y0)), (0, .ref (tX_ad v 0)), (1, .int a1), (2, .int a2), (4, .int x4), (5, .int x5), (6, .int x6)]) rfl ?_
        refine ts_iload X dX10_nerves_66 6 rfl ?_
        refine ts_if_eq 76 X dX10_nerves_68 (by decide) (fun c => ?_) (fun c => ?_)
        · have hw := ts_itp hw c
          refine ts_iload X dX10_nerves_76 4 rfl ?_
          refine ts_istore X dX10_nerves_78 (by decide) (lv' := [(4, .int x4), (3, .int (y1 + y0)), (0, .ref (tX_ad v 0)), (1, .int a1), (2, .int a2), (5, .int x5), (6, .int x6)]) rfl ?_
          refine ts_iinc X dX10_nerves_80 5 rfl (v := x5 + (-1)) rfl (by decide) (lv' := [(5, .int (x5 + (-1))), (4, .int x4), (3, .int (y1 + y0)), (0, .ref (tX_ad v 0)), (1, .int a1), (2, .int a2), (6, .int x6)]) rfl ?_
          refine ts_goto 33 X dX10_nerves_83 (by decide) ?_
          exact ts_sub [3, 4, 5, 2, 1, 0] rfl (hX33 _ _ _ _ hw)
        · have hw := ts_itn hw c
          refine ts_iload X dX10_nerves_71 5 rfl ?_
          refine ts_goto 78 X dX10_nerves_73 (by decide) ?_
          refine ts_istore X dX10_nerves_78 (by decide) (lv' := [(4, .int x5), (3, .int (y1 + y0)), (0, .ref (tX_ad v 0)), (1, .int a1), (2, .int a2), (5, .int x5), (6, .int x6)]) rfl ?_
          refine ts_iinc X dX10_nerves_80 5 rfl (v := x5 + (-1)) rfl (by decide) (lv' := [(5, .int (x5 + (-1))), (4, .int x5), (3, .int (y1 + y0)), (0, .ref (tX_ad v 0)), (1, .int a1), (2, .int a2), (6, .int x6)]) rfl ?_
          refine ts_goto 33 X dX10_nerves_83 (by decide) ?_
          exact ts_sub [3, 4, 5, 2, 1, 0] rfl (hX33 _ _ _ _ hw)
      intro σ x3 x4 x5 hw
      unfold wp_X10_nerves_b33 at hw
      refine ts_iload X dX10_nerves_33 5 rfl ?_
      refine ts_if_lt 86 X dX10_nerves_35 (by decide) (fun c => ?_) (fun c => ?_)
      · have hw := ts_itp hw c
        refine ts_iload_n X dX10_nerves_86 2 rfl ?_
        refine ts_if_ne 94 X dX10_nerves_87 (by decide) (fun c => ?_) (fun c => ?_)
        · have hw := ts_itn hw c
          refine ts_iload X dX10_nerves_94 4 rfl ?_
          exact hret _ _ _ _ hw dX10_nerves_96
        · have hw := ts_itp hw c
          refine ts_iload_n X dX10_nerves_90 3 rfl ?_
          refine ts_goto 96 X dX10_nerves_91 (by decide) ?_
          exact hret _ _ _ _ hw dX10_nerves_96
      · have hw := ts_itn hw c
        refine ts_aload_n X dX10_nerves_38 0 rfl ?_
        refine ts_iload_n X dX10_nerves_39 1 rfl ?_
        refine ts_aload_n X dX10_nerves_40 0 rfl ?_
        refine gf_X10_7 X dX10_nerves_41 ?_
        refine ts_iload_n X dX10_nerves_44 1 rfl ?_
        refine mi_ald X tM_c1 hw.1 dX10_nerves_45 ?_
        have hw := hw.2
        refine ts_iload X dX10_nerves_46 5 rfl ?_
        refine ts_callVi (w := tM_w v) X (k := 0) (by decide : 0 < 15) rfl rfl rfl (As := [.int a1, .int (σ 1 a1.toNatClampNeg), .int x5]) (ct_X10_isSo g.2.1 v hi _ _ _ _ _ hw) ok_X10_isSo cw_X10_203 (ts_le hgn (by decide)) (by decide) rfl rfl (Nat.le_of_ble_eq_true rfl) dX10_nerves_48 (fun r9 s10 hw => ?_)
        refine ts_istore X dX10_nerves_51 (by decide) (lv' := [(6, .int r9), (0, .ref (tX_ad v 0)), (1, .int a1), (2, .int a2), (3, .int x3), (4, .int x4), (5, .int x5)]) rfl ?_
        refine ts_iload_n X dX10_nerves_53 4 rfl ?_
        refine ts_iload X dX10_nerves_54 0 rfl ?_
        refine ts_if_eq 63 X dX10_nerves_56 (by decide) (fun c => ?_) (fun c => ?_)
        · have hw := ts_itp hw c
          refine ts_iconst X dX10_nerves_63 (v := 0) (by decide) ?_
          exact ts_sub [1, 2, 3, 5, 6, 0] rfl (J64  _ _ _ _ _ _ hw)
        · have hw := ts_itn hw c
          refine ts_iconst X dX10_nerves_59 (v := 1) (by decide) ?_
          refine ts_goto 64 X dX10_nerves_60 (by decide) ?_
          exact ts_sub [1, 2, 3, 5, 6, 0] rfl (J64  _ _ _ _ _ _ hw)
    exact hw _ (fun σ x3 x4 x5 h => key _ (fun _ _ _ _ h => h) σ x3 x4 x5 h)
  unfold wp_X10_nerves at hw
  show ts_G g (tM_w v) 7 σ 0 [(0, .ref (tX_ad v 0)), (1, .int a1), (2, .int a2)] []
  refine ts_aload_n X dX10_nerves_0 0 rfl ?_
  refine ts_iload_n X dX10_nerves_1 1 rfl ?_
  refine ts_callVi (w := tM_w v) X (k := 0) (by decide : 0 < 15) rfl rfl rfl (As := [.int a1]) (ct_X10_isPerson g.2.1 v hi _ _ _ hw) ok_X10_isPerson cw_X10_156 (ts_le hgn (by decide)) (by decide) rfl rfl (Nat.le_of_ble_eq_true rfl) dX10_nerves_2 (fun r11 s12 hw => ?_)
  refine ts_if_eq 17 X dX10_nerves_5 (by decide) (fun c => ?_) (fun c => ?_)
  · have hw := ts_itp hw c
    refine ts_iconst X dX10_nerves_17 (v := (-1)) (by decide) ?_
    exact hret _ _ _ _ hw dX10_nerves_18
  · have hw := ts_itn hw c
    refine ts_iload_n X dX10_nerves_8 2 rfl ?_
    refine ts_iconst X dX10_nerves_9 (v := 0) (by decide) ?_
    refine ts_iconst X dX10_nerves_10 (v := 1) (by decide) ?_
    refine ts_callSi X (As := [.int a2, .int 0, .int 1]) (ct_X10_in g.2.1 v hi _ _ _ _ _ hw) ok_X10_in cw_X10_76 (ts_le hgn (by decide)) (by decide) rfl rfl (Nat.le_of_ble_eq_true rfl) dX10_nerves_11 (fun r13 s14 hw => ?_)
    refine ts_if_ne 19 X dX10_nerves_14 (by decide) (fun c => ?_) (fun c => ?_)
    · have hw := ts_itn hw c
      refine ts_aload_n X dX10_nerves_19 0 rfl ?_
      refine ts_callVv (w := tM_w v) X (k := 0) (by decide : 0 < 15) rfl rfl rfl (As := []) (ct_X10_asItIs g.2.1 v hi _ _  hw) ok_X10_asItIs cw_X10_159 (ts_le hgn (by decide)) (by decide) rfl rfl (Nat.le_of_ble_eq_true rfl) dX10_nerves_20 (fun s16 hw => ?_)
      refine ts_iconst X dX10_nerves_23 (v := 0) (by decide) ?_
      refine ts_istore_n X dX10_nerves_24 (by decide) (lv' := [(3, .int 0), (0, .ref (tX_ad v 0)), (1, .int a1), (2, .int a2)]) rfl ?_
      refine ts_bipush X dX10_nerves_25 (v := (-4)) (by decide) ?_
      refine ts_istore X dX10_nerves_27 (by decide) (lv' := [(4, .int (-4)), (3, .int 0), (0, .ref (tX_ad v 0)), (1, .int a1), (2, .int a2)]) rfl ?_
      refine ts_bipush X dX10_nerves_29 (v := 30) (by decide) ?_
      refine ts_istore X dX10_nerves_31 (by decide) (lv' := [(5, .int 30), (4, .int (-4)), (3, .int 0), (0, .ref (tX_ad v 0)), (1, .int a1), (2, .int a2)]) rfl ?_
      exact ts_sub [3, 4, 5, 2, 1, 0] rfl (J33  _ _ _ _ hw)
    · have hw := ts_itp hw c
      refine ts_iconst X dX10_nerves_17 (v := (-1)) (by decide) ?_
      exact hret _ _ _ _ hw dX10_nerves_18
