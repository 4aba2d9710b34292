set_option maxRecDepth 100000 in
set_option maxHeartbeats 4000000 in
theorem ct_X10_kinds (l : Launch) (v : tX_V) (hi : ts_inj 15 (tX_ad v)) (K : Int32 → ts_S → Prop) (σ : ts_S) (a1 : Int32)  (hw : wp_X10_kinds K σ a1) : ts_Mi l yX10_kinds (Cond.code yX10_kinds cX10_kinds 4 (some .int)) 4 (tM_w v) [.ref (tX_ad v 0), .int a1] σ K := by
  refine ts_Mi.of_i (w := tM_w v) hi (by decide +kernel) (Nat.le_of_ble_eq_true rfl) ?_
  intro g hgl hgn X hret
  have J18 : ∀ (σ : ts_S) (x2 : Int32) (x3 : Int32), wp_X10_kinds_l18 K a1 σ x2 x3 → ts_G g (tM_w v) 4 σ 18 [(0, .ref (tX_ad v 0)), (1, .int a1), (2, .int x2), (3, .int x3)] [] := by
    intro  σ x2 x3 hw
    have key : ∀ X18 : ts_S → Int32 → Int32 → Prop, (∀ (σ : ts_S) (x2 : Int32) (x3 : Int32), X18 σ x2 x3 → ts_G g (tM_w v) 4 σ 18 [(0, .ref (tX_ad v 0)), (1, .int a1), (2, .int x2), (3, .int x3)] []) → ∀ (σ : ts_S) (x2 : Int32) (x3 : Int32), wp_X10_kinds_b18 K X18 a1  σ x2 x3 → ts_G g (tM_w v) 4 σ 18 [(0, .ref (tX_ad v 0)), (1, .int a1), (2, .int x2), (3, .int x3)] [] := by
      intro X18 hX18
      intro σ x2 x3 hw
      unfold wp_X10_kinds_b18 at hw
      refine ts_iload_n X dX10_kinds_18 3 rfl ?_
      refine ts_iconst X dX10_kinds_19 (v := 3) (by decide) ?_
      refine ts_icmp_gt 57 X dX10_kinds_20 (by decide) (fun c => ?_) (fun c => ?_)
      · have hw := ts_itp hw c
        refine ts_iload_n X dX10_kinds_57 2 rfl ?_
        exact hret _ _ _ _ hw dX10_kinds_58
      · have hw := ts_itn hw c
        refine ts_iload_n X dX10_kinds_23 2 rfl ?_
        refine ts_aload_n X dX10_kinds_24 0 rfl ?_
        refine ts_iload_n X dX10_kinds_25 1 rfl ?_
        refine ts_iload_n X dX10_kinds_26 3 rfl ?_
        refine ts_aload_n X dX10_kinds_27 0 rfl ?_
        refine gf_X10_43 X dX10_kinds_28 ?_
        refine ts_bipush X dX10_kinds_31 (v := 15) (by decide) ?_
        refine ts_iload_n X dX10_kinds_33 1 rfl ?_
        refine ts_iadd X dX10_kinds_34 ?_
        refine mi_ald X tM_c12 hw.1 dX10_kinds_35 ?_
        have hw := hw.2
        refine ts_callVi (w := tM_w v) X (k := 0) (by decide : 0 < 15) rfl rfl rfl (As := [.int a1, .int x3, .int (σ 12 (15 + a1).toNatClampNeg)]) (ct_X10_isSo g.2.1 v hi _ _ _ _ _ hw) ok_X10_isSo cw_X10_203 (ts_le hgn (by decide)) (by decide) rfl rfl (Nat.le_of_ble_eq_true rfl) dX10_kinds_36 (fun r7 s8 hw => ?_)
        refine ts_if_eq 48 X dX10_kinds_39 (by decide) (fun c => ?_) (fun c => ?_)
        · have hw := ts_itp hw c
          refine ts_iconst X dX10_kinds_48 (v := 0) (by decide) ?_
          refine ts_ior X dX10_kinds_49 ?_
          refine ts_istore_n X dX10_kinds_50 (by decide) (lv' := [(2, .int (x2 ||| 0)), (0, .ref (tX_ad v 0)), (1, .int a1), (3, .int x3)]) rfl ?_
          refine ts_iinc X dX10_kinds_51 3 rfl (v := x3 + 1) rfl (by decide) (lv' := [(3, .int (x3 + 1)), (2, .int (x2 ||| 0)), (0, .ref (tX_ad v 0)), (1, .int a1)]) rfl ?_
          refine ts_goto 18 X dX10_kinds_54 (by decide) ?_
          exact ts_sub [2, 3, 1, 0] rfl (hX18 _ _ _ hw)
        · have hw := ts_itn hw c
          refine ts_iconst X dX10_kinds_42 (v := 1) (by decide) ?_
          refine ts_iload_n X dX10_kinds_43 3 rfl ?_
          refine ts_ishl X dX10_kinds_44 ?_
          refine ts_goto 49 X dX10_kinds_45 (by decide) ?_
          refine ts_ior X dX10_kinds_49 ?_
          refine ts_istore_n X dX10_kinds_50 (by decide) (lv' := [(2, .int (x2 ||| (1 <<< (x3 &&& 31)))), (0, .ref (tX_ad v 0)), (1, .int a1), (3, .int x3)]) rfl ?_
          refine ts_iinc X dX10_kinds_51 3 rfl (v := x3 + 1) rfl (by decide) (lv' := [(3, .int (x3 + 1)), (2, .int (x2 ||| (1 <<< (x3 &&& 31)))), (0, .ref (tX_ad v 0)), (1, .int a1)]) rfl ?_
          refine ts_goto 18 X dX10_kinds_54 (by decide) ?_
          exact ts_sub [2, 3, 1, 0] rfl (hX18 _ _ _ hw)
    exact hw _ (fun σ x2 x3 h => key _ (fun _ _ _ h => h) σ x2 x3 h)
  unfold wp_X10_kinds at hw
  show ts_G g (tM_w v) 4 σ 0 [(0, .ref (tX_ad v 0)), (1, .int a1)] []
  refine ts_aload_n X dX10_kinds_0 0 rfl ?_
  refine ts_iload_n X dX10_kinds_1 1 rfl ?_
  refine ts_callVi (w := tM_w v) X (k := 0) (by decide : 0 < 15) rfl rfl rfl (As := [.int a1]) (ct_X10_isPerson g.2.1 v hi _ _ _ hw) ok_X10_isPerson cw_X10_156 (ts_le hgn (by decide)) (by decide) rfl rfl (Nat.le_of_ble_eq_true rfl) dX10_kinds_2 (fun r9 s10 hw => ?_)
  refine ts_if_ne 10 X dX10_kinds_5 (by decide) (fun c => ?_) (fun c => ?_)
  · have hw := ts_itn hw c
    refine ts_aload_n X dX10_kinds_10 0 rfl ?_
    refine ts_callVv (w := tM_w v) X (k := 0) (by decide : 0 < 15) rfl rfl rfl (As := []) (ct_X10_asItIs g.2.1 v hi _ _  hw) ok_X10_asItIs cw_X10_159 (ts_le hgn (by decide)) (by decide) rfl rfl (Nat.le_of_ble_eq_true rfl) dX10_kinds_11 (fun s12 hw => ?_)
    refine ts_iconst X dX10_kinds_14 (v := 0) (by decide) ?_
    refine ts_istore_n X dX10_kinds_15 (by decide) (lv' := [(2, .int 0), (0, .ref (tX_ad v 0)), (1, .int a1)]) rfl ?_
    refine ts_iconst X dX10_kinds_16 (v := 0) (by decide) ?_
    refine ts_istore_n X dX10_kinds_17 (by decide) (lv' := [(3, .int 0), (2, .int 0), (0, .ref (tX_ad v 0)), (1, .int a1)]) rfl ?_
    exact ts_sub [2, 3, 1, 0] rfl (J18  _ _ _ hw)
  · have hw := ts_itp hw c
    refine ts_iconst X dX10_kinds_8 (v := (-1)) (by decide) ?_
    exact hret _ _ _ _ hw dX10_kinds_9
set_option maxRecDepth 100000 in
set_option maxHeartbeats 4000000 in
theorem ct_X10_least (l : Launch) (v : tX_V) (hi : ts_inj 15 (tX_ad v)) (K : Int32 → ts_S → Prop) (σ : ts_S) (a0 : Int32) (a1 : Int32) (a2 : Int32)  (hw : wp_X10_least K σ a0 a1 a2) : ts_Mi l yX10_least (Cond.code yX10_least cX10_least 6 (some .int)) 1 (tM_w v) [.int a0, .int a1, .int a2] σ K := by
  refine ts_Mi.of_i (w := tM_w v) hi (by decide +kernel) (Nat.le_of_ble_eq_true rfl) ?_
  intro g hgl hgn X hret
  have J5 : ∀ (σ : ts_S) (x3 : Int32) (x4 : Int32), wp_X10_least_l5 K a0 a1 a2 σ x3 x4 → ts_G g (tM_w v) 6 σ 5 [(0, .int a0), (1, .int a1), (2, .int a2), (3, .int x3), (4, .int x4)] [] := by
    intro  σ x3 x4 hw
    have key : ∀ X5 : ts_S → Int32 → Int32 → Prop, (∀ (σ : ts_S) (x3 : Int32) (x4 : Int32), X5 σ x3 x4 → ts_G g (tM_w v) 6 σ 5 [(0, .int a0), (1, .int a1), (2, .int a2), (3, .int x3), (4, .int x4)] []) → ∀ (σ : ts_S) (x3 : Int32) (x4 : Int32), wp_X10_least_b5 K X5 a0 a1 a2  σ x3 x4 → ts_G g (tM_w v) 6 σ 5 [(0, .int a0), (1, .int a1), (2, .int a2), (3, .int x3), (4, .int x4)] [] := by
      intro X5 hX5
      intro σ x3 x4 hw
      unfold wp_X10_least_b5 at hw
      refine ts_iload X dX10_least_5 4 rfl ?_
      refine ts_if_le 26 X dX10_least_7 (by decide) (fun c => ?_) (fun c => ?_)
      · have hw := ts_itp hw c
        refine ts_iload_n X dX10_least_26 2 rfl ?_
        refine ts_if_ne 34 X dX10_least_27 (by decide) (fun c => ?_) (fun c => ?_)
        · have hw := ts_itn hw c
          refine ts_iload_n X dX10_least_34 1 rfl ?_
          refine ts_iload_n X dX10_least_35 3 rfl ?_
          refine ts_idiv X dX10_least_36 hw.1 ?_
          have hw := hw.2
          exact hret _ _ _ _ hw dX10_least_37
        · have hw := ts_itp hw c
          refine ts_iload_n X dX10_least_30 0 rfl ?_
          refine ts_goto 35 X dX10_least_31 (by decide) ?_
          refine ts_iload_n X dX10_least_35 3 rfl ?_
          refine ts_idiv X dX10_least_36 hw.1 ?_
          have hw := hw.2
          exact hret _ _ _ _ hw dX10_least_37
      · have hw := ts_itn hw c
        refine ts_iload_n X dX10_least_10 3 rfl ?_
        refine ts_iload X dX10_least_11 4 rfl ?_
        refine ts_irem X dX10_least_13 hw.1 ?_
        have hw := hw.2
        refine ts_istore X dX10_least_14 (by decide) (lv' := [(5, .int (x3 - x3 / x4 * x4)), (0, .int a0), (1, .int a1), (2, .int a2), (3, .int x3), (4, .int x4)]) rfl ?_
        refine ts_iload X dX10_least_16 5 rfl ?_
        refine ts_istore_n X dX10_least_18 (by decide) (lv' := [(3, .int x4), (5, .int (x3 - x3 / x4 * x4)), (0, .int a0), (1, .int a1), (2, .int a2), (4, .int x4)]) rfl ?_
        refine ts_iload X dX10_least_19 1 rfl ?_
        refine ts_istore X dX10_least_21 (by decide) (lv' := [(4, .int (x3 - x3 / x4 * x4)), (3, .int x4), (5, .int (x3 - x3 / x4 * x4)), (0, .int a0), (1, .int a1), (2, .int a2)]) rfl ?_
        refine ts_goto 5 X dX10_least_23 (by decide) ?_
        exact ts_sub [3, 4, 5, 1, 0] rfl (hX5 _ _ _ hw)
    exact hw _ (fun σ x3 x4 h => key _ (fun _ _ _ h => h) σ x3 x4 h)
  unfold wp_X10_least at hw
  show ts_G g (tM_w v) 6 σ 0 [(0, .int a0), (1, .int a1), (2, .int a2)] []
  refine ts_iload_n X dX10_least_0 0 rfl ?_
  refine ts_istore_n X dX10_least_1 (by decide) (lv' := [(3, .int a0), (0, .int a0), (1, .int a1), (2, .int a2)]) rfl ?_
  refine ts_iload_n X dX10_least_2 2 rfl ?_
  refine ts_istore X dX10_least_3 (by decide) (lv' := [(4, .int a1), (3, .int a0), (0, .int a0), (1, .int a1), (2, .int a2)]) rfl ?_
  exact ts_sub [2, 3, 4, 1, 0] rfl (J5  _ _ _ hw)
set_option maxRecDepth 100000 in
set_option maxHeartbeats 4000000 in
theorem ct_X10_likely (l : Launch) (v : tX_V) (hi : ts_inj 15 (tX_ad v)) (K : Int32 → ts_S → Prop) (σ : ts_S) (a1 : Int32) (a2 : Int32) (a3 : Int32)  (hw : wp_X10_likely K σ a1 a2 a3) : ts_Mi l yX10_likely (Cond.code yX10_likely cX10_likely 10 (some .int)) 6 (tM_w v) [.ref (tX_ad v 0), .int a1, .int a2, .int a3] σ K := by
  refine ts_Mi.of_i (w := tM_w v) hi (by decide +kernel) (Nat.le_of_ble_eq_true rfl) ?_
  intro g hgl hgn X hret
  have J88 : ∀ (σ : ts_S) (x4 : Int32) (x5 : Int32) (x6 : Int32) (x7 : Int32), wp_X10_likely_l88 K a1 a2 a3 σ x4 x5 x6 x7 → ts_G g (tM_w v) 10 σ 88 [(0, .ref (tX_ad v 0)), (1, .int a1), (2, .int a2), (3, .int a3), (4, .int x4), (5, .int x5), (6, .int x6), (7, .int x7)] [] := by
    intro  σ x4 x5 x6 x7 hw
    have key : ∀ X88 : ts_S → Int32 → Int32 → Prop, (∀ (σ : ts_S) (x5 : Int32) (x7 : Int32), X88 σ x5 x7 → ts_G g (tM_w v) 10 σ 88 [(0, .ref (tX_ad v 0)), (1, .int a1), (2, .int a2), (3, .int a3), (4, .int x4), (5, .int x5), (6, .int x6), (7, .int x7)] []) → ∀ (σ : ts_S) (x5 : Int32) (x7 : Int32), wp_X10_likely_b88 K X88 a1 a2 a3 x4 x6 σ x5 x7 → ts_G g (tM_w v) 10 σ 88 [(0, .ref (tX_ad v 0)), (1, .int a1), (2, .int a2), (3, .int a3), (4, .int x4), (5, .int x5), (6, .int x6), (7, .int x7)] [] := by
      intro X88 hX88
      have J115 : ∀ (σ : ts_S) (x5 : Int32) (x7 : Int32) (x8 : Int32) (x9 : Int32), wp_X10_likely_l115 K X88 a1 a2 a3 σ x4 x5 x6 x7 x8 x9 → ts_G g (tM_w v) 10 σ 115 [(0, .ref (tX_ad v 0)), (1, .int a1), (2, .int a2), (3, .int a3), (4, .int x4), (5, .int x5), (6, .int x6), (7, .int x7), (8, .int x8), (9, .int x9)] [] := by
        intro  σ x5 x7 x8 x9 hw
        have key : ∀ X115 : ts_S → Int32 → Int32 → Prop, (∀ (σ : ts_S) (x8 : Int32) (x9 : Int32), X115 σ x8 x9 → ts_G g (tM_w v) 10 σ 115 [(0, .ref (tX_ad v 0)), (1, .int a1), (2, .int a2), (3, .int a3), (4, .int x4), (5, .int x5), (6, .int x6), (7, .int x7), (8, .int x8), (9, .int x9)] []) → ∀ (σ : ts_S) (x8 : Int32) (x9 : Int32), wp_X10_likely_b115 K X88 X115 a1 a2 a3 x4 x5 x6 x7 σ x8 x9 → ts_G g (tM_w v) 10 σ 115 [(0, .ref (tX_ad v 0)), (1, .int a1), (2, .int a2), (3, .int a3), (4, .int x4), (5, .int x5), (6, .int x6), (7, .int x7), (8, .int x8), (9, .int x9)] [] := by
          intro X115 hX115
          intro σ x8 x9 hw
          unfold wp_X10_likely_b115 at hw
          refine ts_iload X dX10_likely_115 9 rfl ?_
          refine ts_aload_n X dX10_likely_117 0 rfl ?_
          refine gf_X10_73 X dX10_likely_118 ?_
          refine ts_icmp_ge 167 X dX10_likely_121 (by decide) (fun c => ?_) (fun c => ?_)
          · have hw := ts_itp hw c
            refine ts_aload_n X dX10_likely_167 0 rfl ?_
            refine gf_X10_43 X dX10_likely_168 ?_
            refine ts_iconst X dX10_likely_171 (v := 1) (by decide) ?_
            refine ts_aload_n X dX10_likely_172 0 rfl ?_
            refine gf_X10_16 X dX10_likely_173 ?_
            refine ts_iconst X dX10_likely_176 (v := 1) (by decide) ?_
            refine mi_ald X tM_c3 hw.1 dX10_likely_177 ?_
            have hw := hw.2
            refine ts_iload X dX10_likely_178 7 rfl ?_
            refine ts_ior X dX10_likely_180 ?_
            refine mi_ast X tM_c12 hw.1 dX10_likely_181 (fun s22 es22 => ?_)
            have hw := hw.2 s22 es22
            refine ts_iload X dX10_likely_182 5 rfl ?_
            refine ts_aload_n X dX10_likely_184 0 rfl ?_
            refine ts_callVi (w := tM_w v) X (k := 0) (by decide : 0 < 15) rfl rfl rfl (As := []) (ct_X10_done g.2.1 v hi _ _  hw) ok_X10_done cw_X10_190 (ts_le hgn (by decide)) (by decide) rfl rfl (Nat.le_of_ble_eq_true rfl) dX10_likely_185 (fun r23 s24 hw => ?_)
            refine ts_iload_n X dX10_likely_188 1 rfl ?_
            refine ts_icmp_lt 197 X dX10_likely_189 (by decide) (fun c => ?_) (fun c => ?_)
            · have hw := ts_itp hw c
              refine ts_iconst X dX10_likely_197 (v := 0) (by decide) ?_
              refine ts_iadd X dX10_likely_198 ?_
              refine ts_istore X dX10_likely_199 (by decide) (lv' := [(5, .int (x5 + 0)), (0, .ref (tX_ad v 0)), (1, .int a1), (2, .int a2), (3, .int a3), (4, .int x4), (6, .int x6), (7, .int x7), (8, .int x8), (9, .int x9)]) rfl ?_
              refine ts_iinc X dX10_likely_201 7 rfl (v := x7 + 1) rfl (by decide) (lv' := [(7, .int (x7 + 1)), (5, .int (x5 + 0)), (0, .ref (tX_ad v 0)), (1, .int a1), (2, .int a2), (3, .int a3), (4, .int x4), (6, .int x6), (8, .int x8), (9, .int x9)]) rfl ?_
              refine ts_goto 88 X dX10_likely_204 (by decide) ?_
              exact ts_sub [2, 3, 4, 5, 6, 1, 7, 0] rfl (hX88 _ _ _ hw)
            · have hw := ts_itn hw c
              refine ts_iload X dX10_likely_192 8 rfl ?_
              refine ts_goto 198 X dX10_likely_194 (by decide) ?_
              refine ts_iadd X dX10_likely_198 ?_
              refine ts_istore X dX10_likely_199 (by decide) (lv' := [(5, .int (x5 + x8)), (0, .ref (tX_ad v 0)), (1, .int a1), (2, .int a2), (3, .int a3), (4, .int x4), (6, .int x6), (7, .int x7), (8, .int x8), (9, .int x9)]) rfl ?_
              refine ts_iinc X dX10_likely_201 7 rfl (v := x7 + 1) rfl (by decide) (lv' := [(7, .int (x7 + 1)), (5, .int (x5 + x8)), (0, .ref (tX_ad v 0)), (1, .int a1), (2, .int a2), (3, .int a3), (4, .int x4), (6, .int x6), (8, .int x8), (9, .int x9)]) rfl ?_
              refine ts_goto 88 X dX10_likely_204 (by decide) ?_
              exact ts_sub [2, 3, 4, 5, 6, 1, 7, 0] rfl (hX88 _ _ _ hw)
          · have hw := ts_itn hw c
            refine ts_iload X dX10_likely_124 8 rfl ?_
            refine ts_iload X dX10_likely_126 4 rfl ?_
            refine ts_iload X dX10_likely_128 9 rfl ?_
            refine ts_callSi X (As := [.int x4, .int x9]) (ct_X10_has g.2.1 v hi _ _ _ _ hw) ok_X10_has cw_X10_139 (ts_le hgn (by decide)) (by decide) rfl rfl (Nat.le_of_ble_eq_true rfl) dX10_likely_130 (fun r25 s26 hw => ?_)
            refine ts_if_ne 140 X dX10_likely_133 (by decide) (fun c => ?_) (fun c => ?_)
            · have hw := ts_itn hw c
              refine ts_iload X dX10_likely_140 7 rfl ?_
              refine ts_iload X dX10_likely_142 9 rfl ?_
              refine ts_callSi X (As := [.int x7, .int x9]) (ct_X10_has g.2.1 v hi _ _ _ _ hw) ok_X10_has cw_X10_139 (ts_le hgn (by decide)) (by decide) rfl rfl (Nat.le_of_ble_eq_true rfl) dX10_likely_144 (fun r27 s28 hw => ?_)
              refine ts_if_eq 154 X dX10_likely_147 (by decide) (fun c => ?_) (fun c => ?_)
              · have hw := ts_itp hw c
                refine ts_bipush X dX10_likely_154 (v := 10) (by decide) ?_
                refine ts_iload_n X dX10_likely_156 2 rfl ?_
                refine ts_isub X dX10_likely_157 ?_
                refine ts_imul X dX10_likely_158 ?_
                refine ts_istore X dX10_likely_159 (by decide) (lv' := [(8, .int (x8 * (10 - a2))), (0, .ref (tX_ad v 0)), (1, .int a1), (2, .int a2), (3, .int a3), (4, .int x4), (5, .int x5), (6, .int x6), (7, .int x7), (9, .int x9)]) rfl ?_
                refine ts_iinc X dX10_likely_161 9 rfl (v := x9 + 1) rfl (by decide) (lv' := [(9, .int (x9 + 1)), (8, .int (x8 * (10 - a2))), (0, .ref (tX_ad v 0)), (1, .int a1), (2, .int a2), (3, .int a3), (4, .int x4), (5, .int x5), (6, .int x6), (7, .int x7)]) rfl ?_
                refine ts_goto 115 X dX10_likely_164 (by decide) ?_
                exact ts_sub [2, 3, 4, 5, 6, 7, 8, 9, 1, 0] rfl (hX115 _ _ _ hw)
              · have hw := ts_itn hw c
                refine ts_iload_n X dX10_likely_150 2 rfl ?_
                refine ts_goto 158 X dX10_likely_151 (by decide) ?_
                refine ts_imul X dX10_likely_158 ?_
                refine ts_istore X dX10_likely_159 (by decide) (lv' := [(8, .int (x8 * a2)), (0, .ref (tX_ad v 0)), (1, .int a1), (2, .int a2), (3, .int a3), (4, .int x4), (5, .int x5), (6, .int x6), (7, .int x7), (9, .int x9)]) rfl ?_
                refine ts_iinc X dX10_likely_161 9 rfl (v := x9 + 1) rfl (by decide) (lv' := [(9, .int (x9 + 1)), (8, .int (x8 * a2)), (0, .ref (tX_ad v 0)), (1, .int a1), (2, .int a2), (3, .int a3), (4, .int x4), (5, .int x5), (6, .int x6), (7, .int x7)]) rfl ?_
                refine ts_goto 115 X dX10_likely_164 (by decide) ?_
                exact ts_sub [2, 3, 4, 5, 6, 7, 8, 9, 1, 0] rfl (hX115 _ _ _ hw)
            · have hw := ts_itp hw c
              refine ts_iconst X dX10_likely_136 (v := 1) (by decide) ?_
              refine ts_goto 158 X dX10_likely_137 (by decide) ?_
              refine ts_imul X dX10_likely_158 ?_
              refine ts_istore X dX10_likely_159 (by decide) (lv' := [(8, .int (x8 * 1)), (0, .ref (tX_ad v 0)), (1, .int a1), (2, .int a2), (3, .int a3), (4, .int x4), (5, .int x5), (6, .int x6), (7, .int x7), (9, .int x9)]) rfl ?_
              refine ts_iinc X dX10_likely_161 9 rfl (v := x9 + 1) rfl (by decide) (lv' := [(9, .int (x9 + 1)), (8, .int (x8 * 1)), (0, .ref (tX_ad v 0)), (1, .int a1), (2, .int a2), (3, .int a3), (4, .int x4), (5, .int x5), (6, .int x6), (7, .int x7)]) rfl ?_
              refine ts_goto 115 X dX10_likely_164 (by decide) ?_
              exact ts_sub [2, 3, 4, 5, 6, 7, 8, 9, 1, 0] rfl (hX115 _ _ _ hw)
        exact hw _ (fun σ x8 x9 h => key _ (fun _ _ _ h => h) σ x8 x9 h)
      intro σ x5 x7 hw
      unfold wp_X10_likely_b88 at hw
      refine ts_iload X dX10_likely_88 7 rfl ?_
      refine ts_iconst X dX10_likely_90 (v := 1) (by decide) ?_
      refine ts_aload_n X dX10_likely_91 0 rfl ?_
      refine gf_X10_73 X dX10_likely_92 ?_
      refine ts_ishl X dX10_likely_95 ?_
      refine ts_icmp_ge 207 X dX10_likely_96 (by decide) (fun c => ?_) (fun c => ?_)
      · have hw := ts_itp hw c
        refine ts_iload X dX10_likely_207 5 rfl ?_
        refine ts_iload X dX10_likely_209 6 rfl ?_
        refine ts_iload_n X dX10_likely_211 3 rfl ?_
        refine ts_callSi X (As := [.int x5, .int x6, .int a3]) (ct_X10_least g.2.1 v hi _ _ _ _ _ hw) ok_X10_least cw_X10_206 (ts_le hgn (by decide)) (by decide) rfl rfl (Nat.le_of_ble_eq_true rfl) dX10_likely_212 (fun r29 s30 hw => ?_)
        exact hret _ _ _ _ hw dX10_likely_215
      · have hw := ts_itn hw c
        refine ts_iload X dX10_likely_99 7 rfl ?_
        refine ts_iload X dX10_likely_101 4 rfl ?_
        refine ts_iconst X dX10_likely_103 (v := (-1)) (by decide) ?_
        refine ts_ixor X dX10_likely_104 ?_
        refine ts_iand X dX10_likely_105 ?_
        refine ts_if_ne 201 X dX10_likely_106 (by decide) (fun c => ?_) (fun c => ?_)
        · have hw := ts_itn hw c
          refine ts_iinc X dX10_likely_201 7 rfl (v := x7 + 1) rfl (by decide) (lv' := [(7, .int (x7 + 1)), (0, .ref (tX_ad v 0)), (1, .int a1), (2, .int a2), (3, .int a3), (4, .int x4), (5, .int x5), (6, .int x6)]) rfl ?_
          refine ts_goto 88 X dX10_likely_204 (by decide) ?_
          exact ts_sub [1, 2, 3, 4, 5, 6, 7, 0] rfl (hX88 _ _ _ hw)
        · have hw := ts_itp hw c
          refine ts_iconst X dX10_likely_109 (v := 1) (by decide) ?_
          refine ts_istore X dX10_likely_110 (by decide) (lv' := [(8, .int 1), (0, .ref (tX_ad v 0)), (1, .int a1), (2, .int a2), (3, .int a3), (4, .int x4), (5, .int x5), (6, .int x6), (7, .int x7)]) rfl ?_
          refine ts_iconst X dX10_likely_112 (v := 0) (by decide) ?_
          refine ts_istore X dX10_likely_113 (by decide) (lv' := [(9, .int 0), (8, .int 1), (0, .ref (tX_ad v 0)), (1, .int a1), (2, .int a2), (3, .int a3), (4, .int x4), (5, .int x5), (6, .int x6), (7, .int x7)]) rfl ?_
          exact ts_sub [2, 3, 4, 5, 6, 7, 8, 9, 1, 0] rfl (J115  _ _ _ _ _ hw)
    exact hw _ (fun σ x5 x7 h => key _ (fun _ _ _ h => h) σ x5 x7 h)
  have J49 : ∀ (σ : ts_S) (x4 : Int32) (x5 : Int32) (x6 : Int32) (x7 : Int32), wp_X10_likely_l49 K a1 a2 a3 σ x4 x5 x6 x7 → ts_G g (tM_w v) 10 σ 49 [(0, .ref (tX_ad v 0)), (1, .int a1), (2, .int a2), (3, .int a3), (4, .int x4), (5, .int x5), (6, .int x6), (7, .int x7)] [] := by
    intro  σ x4 x5 x6 x7 hw
    have key : ∀ X49 : ts_S → Int32 → Int32 → Prop, (∀ (σ : ts_S) (x6 : Int32) (x7 : Int32), X49 σ x6 x7 → ts_G g (tM_w v) 10 σ 49 [(0, .ref (tX_ad v 0)), (1, .int a1), (2, .int a2), (3, .int a3), (4, .int x4), (5, .int x5), (6, .int x6), (7, .int x7)] []) → ∀ (σ : ts_S) (x6 : Int32) (x7 : Int32), wp_X10_likely_b49 K X49 a1 a2 a3 x4 x5 σ x6 x7 → ts_G g (tM_w v) 10 σ 49 [(0, .ref (tX_ad v 0)), (1, .int a1), (2, .int a2), (3, .int a3), (4, .int x4), (5, .int x5), (6, .int x6), (7, .int x7)] [] := by
      intro X49 hX49
      intro σ x6 x7 hw
      unfold wp_X10_likely_b49 at hw
      refine ts_iload X dX10_likely_49 7 rfl ?_
      refine ts_aload_n X dX10_likely_51 0 rfl ?_
      refine gf_X10_73 X dX10_likely_52 ?_
      refine ts_icmp_ge 85 X dX10_likely_55 (by decide) (fun c => ?_) (fun c => ?_)
      · have hw := ts_itp hw c
        refine ts_iconst X dX10_likely_85 (v := 0) (by decide) ?_
        refine ts_istore X dX10_likely_86 (by decide) (lv' := [(7, .int 0), (0, .ref (tX_ad v 0)), (1, .int a1), (2, .int a2), (3, .int a3), (4, .int x4), (5, .int x5), (6, .int x6)]) rfl ?_
        exact ts_sub [1, 2, 3, 4, 5, 6, 7, 0] rfl (J88  _ _ _ _ _ hw)
      · have hw := ts_itn hw c
        refine ts_iload X dX10_likely_58 6 rfl ?_
        refine ts_iload X dX10_likely_60 4 rfl ?_
        refine ts_iload X dX10_likely_62 7 rfl ?_
        refine ts_callSi X (As := [.int x4, .int x7]) (ct_X10_has g.2.1 v hi _ _ _ _ hw) ok_X10_has cw_X10_139 (ts_le hgn (by decide)) (by decide) rfl rfl (Nat.le_of_ble_eq_true rfl) dX10_likely_64 (fun r31 s32 hw => ?_)
        refine ts_if_eq 75 X dX10_likely_67 (by decide) (fun c => ?_) (fun c => ?_)
        · have hw := ts_itp hw c
          refine ts_iconst X dX10_likely_75 (v := 1) (by decide) ?_
          refine ts_imul X dX10_likely_76 ?_
          refine ts_istore X dX10_likely_77 (by decide) (lv' := [(6, .int (x6 * 1)), (0, .ref (tX_ad v 0)), (1, .int a1), (2, .int a2), (3, .int a3), (4, .int x4), (5, .int x5), (7, .int x7)]) rfl ?_
          refine ts_iinc X dX10_likely_79 7 rfl (v := x7 + 1) rfl (by decide) (lv' := [(7, .int (x7 + 1)), (6, .int (x6 * 1)), (0, .ref (tX_ad v 0)), (1, .int a1), (2, .int a2), (3, .int a3), (4, .int x4), (5, .int x5)]) rfl ?_
          refine ts_goto 49 X dX10_likely_82 (by decide) ?_
          exact ts_sub [2, 3, 4, 5, 6, 7, 1, 0] rfl (hX49 _ _ _ hw)
        · have hw := ts_itn hw c
          refine ts_bipush X dX10_likely_70 (v := 10) (by decide) ?_
          refine ts_goto 76 X dX10_likely_72 (by decide) ?_
          refine ts_imul X dX10_likely_76 ?_
          refine ts_istore X dX10_likely_77 (by decide) (lv' := [(6, .int (x6 * 10)), (0, .ref (tX_ad v 0)), (1, .int a1), (2, .int a2), (3, .int a3), (4, .int x4), (5, .int x5), (7, .int x7)]) rfl ?_
          refine ts_iinc X dX10_likely_79 7 rfl (v := x7 + 1) rfl (by decide) (lv' := [(7, .int (x7 + 1)), (6, .int (x6 * 10)), (0, .ref (tX_ad v 0)), (1, .int a1), (2, .int a2), (3, .int a3), (4, .int x4), (5, .int x5)]) rfl ?_
          refine ts_goto 49 X dX10_likely_82 (by decide) ?_
          exact ts_sub [2, 3, 4, 5, 6, 7, 1, 0] rfl (hX49 _ _ _ hw)
    exact hw _ (fun σ x6 x7 h => key _ (fun _ _ _ h => h) σ x6 x7 h)
  unfold wp_X10_likely at hw
  show ts_G g (tM_w v) 10 σ 0 [(0, .ref (tX_ad v 0)), (1, .int a1), (2, .int a2), (3, .int a3)] []
  refine ts_iload_n X dX10_likely_0 1 rfl ?_
  refine ts_iconst X dX10_likely_1 (v := 0) (by decide) ?_
  refine ts_iconst X dX10_likely_2 (v := 5) (by decide) ?_
  refine ts_callSi X (As := [.int a1, .int 0, .int 5]) (ct_X10_in g.2.1 v hi _ _ _ _ _ hw) ok_X10_in cw_X10_76 (ts_le hgn (by decide)) (by decide) rfl rfl (Nat.le_of_ble_eq_true rfl) dX10_likely_3 (fun r33 s34 hw => ?_)
  refine ts_if_eq 28 X dX10_likely_6 (by decide) (fun c => ?_) (fun c => ?_)
  · have hw := ts_itp hw c
    refine ts_iconst X dX10_likely_28 (v := (-1)) (by decide) ?_
    exact hret _ _ _ _ hw dX10_likely_29
  · have hw := ts_itn hw c
    refine ts_iload_n X dX10_likely_9 2 rfl ?_
    refine ts_iconst X dX10_likely_10 (v := 0) (by decide) ?_
    refine ts_bipush X dX10_likely_11 (v := 10) (by decide) ?_
    refine ts_callSi X (As := [.int a2, .int 0, .int 10]) (ct_X10_in g.2.1 v hi _ _ _ _ _ hw) ok_X10_in cw_X10_76 (ts_le hgn (by decide)) (by decide) rfl rfl (Nat.le_of_ble_eq_true rfl) dX10_likely_13 (fun r35 s36 hw => ?_)
    refine ts_if_eq 28 X dX10_likely_16 (by decide) (fun c => ?_) (fun c => ?_)
    · have hw := ts_itp hw c
      refine ts_iconst X dX10_likely_28 (v := (-1)) (by decide) ?_
      exact hret _ _ _ _ hw dX10_likely_29
    · have hw := ts_itn hw c
      refine ts_iload_n X dX10_likely_19 3 rfl ?_
      refine ts_iconst X dX10_likely_20 (v := 0) (by decide) ?_
      refine ts_iconst X dX10_likely_21 (v := 1) (by decide) ?_
      refine ts_callSi X (As := [.int a3, .int 0, .int 1]) (ct_X10_in g.2.1 v hi _ _ _ _ _ hw) ok_X10_in cw_X10_76 (ts_le hgn (by decide)) (by decide) rfl rfl (Nat.le_of_ble_eq_true rfl) dX10_likely_22 (fun r37 s38 hw => ?_)
      refine ts_if_ne 30 X dX10_likely_25 (by decide) (fun c => ?_) (fun c => ?_)
      · have hw := ts_itn hw c
        refine ts_aload_n X dX10_likely_30 0 rfl ?_
        refine ts_callVv (w := tM_w v) X (k := 0) (by decide : 0 < 15) rfl rfl rfl (As := []) (ct_X10_asItIs g.2.1 v hi _ _  hw) ok_X10_asItIs cw_X10_159 (ts_le hgn (by decide)) (by decide) rfl rfl (Nat.le_of_ble_eq_true rfl) dX10_likely_31 (fun s40 hw => ?_)
        refine ts_aload_n X dX10_likely_34 0 rfl ?_
        refine ts_callVi (w := tM_w v) X (k := 0) (by decide : 0 < 15) rfl rfl rfl (As := []) (ct_X10_frozen g.2.1 v hi _ _  hw) ok_X10_frozen cw_X10_150 (ts_le hgn (by decide)) (by decide) rfl rfl (Nat.le_of_ble_eq_true rfl) dX10_likely_35 (fun r41 s42 hw => ?_)
        refine ts_istore X dX10_likely_38 (by decide) (lv' := [(4, .int r41), (0, .ref (tX_ad v 0)), (1, .int a1), (2, .int a2), (3, .int a3)]) rfl ?_
        refine ts_iconst X dX10_likely_40 (v := 0) (by decide) ?_
        refine ts_istore X dX10_likely_41 (by decide) (lv' := [(5, .int 0), (4, .int r41), (0, .ref (tX_ad v 0)), (1, .int a1), (2, .int a2), (3, .int a3)]) rfl ?_
        refine ts_iconst X dX10_likely_43 (v := 1) (by decide) ?_
        refine ts_istore X dX10_likely_44 (by decide) (lv' := [(6, .int 1), (5, .int 0), (4, .int r41), (0, .ref (tX_ad v 0)), (1, .int a1), (2, .int a2), (3, .int a3)]) rfl ?_
        refine ts_iconst X dX10_likely_46 (v := 0) (by decide) ?_
        refine ts_istore X dX10_likely_47 (by decide) (lv' := [(7, .int 0), (6, .int 1), (5, .int 0), (4, .int r41), (0, .ref (tX_ad v 0)), (1, .int a1), (2, .int a2), (3, .int a3)]) rfl ?_
        exact ts_sub [4, 5, 6, 7, 3, 2, 1, 0] rfl (J49  _ _ _ _ _ hw)
      · have hw := ts_itp hw c
        refine ts_iconst X dX10_likely_28 (v := (-1)) (by decide) ?_
        exact hret _ _ _ _ hw dX10_likely_29
set_option maxRecDepth 100000 in
set_option maxHeartbeats 4000000 in
theorem ct_X10_turns (l : Launch) (v : tX_V) (hi : ts_inj 15 (tX_ad v)) (K : ts_S → Prop) (σ : ts_S) (a1 : Int32)  (hw : wp_X10_turns K σ a1) : ts_Mv l yX10_turns (Cond.code yX10_turns cX10_turns 4 (none)) 6 (tM_w v) [.ref (tX_ad v 0), .int a1] σ K := by
  refine ts_Mv.of_v (w := tM_w v) hi (by decide +kernel) (Nat.le_of_ble_eq_true rfl) ?_
  intro g hgl hgn X hret
  have J97 : ∀ (σ : ts_S), wp_X10_turns_j97 K a1 σ  → ts_G g (tM_w v) 4 σ 97 [(0, .ref (tX_ad v 0))] [] := by
    intro  σ  hw
    unfold wp_X10_turns_j97 at hw
    refine ts_aload_n X dX10_turns_97 0 rfl ?_
    refine ts_callVv (w := tM_w v) X (k := 0) (by decide : 0 < 15) rfl rfl rfl (As := []) (ct_X10_goesBy g.2.1 v hi _ _  hw) ok_X10_goesBy cw_X10_168 (ts_le hgn (by decide)) (by decide) rfl rfl (Nat.le_of_ble_eq_true rfl) dX10_turns_98 (fun s14 hw => ?_)
    exact hret _ _ _ hw dX10_turns_101
  have J74 : ∀ (σ : ts_S) (y0 : Int32) (y1 : Int32) (y2 : Int32), wp_X10_turns_j74 K a1 σ y0 y1 y2 → ts_G g (tM_w v) 4 σ 74 [(0, .ref (tX_ad v 0))] [.int y0, .int y1, .int y2, .ref (tX_ad v 12)] := by
    intro  σ y0 y1 y2 hw
    unfold wp_X10_turns_j74 at hw
    refine ts_iadd X dX10_turns_74 ?_
    refine mi_ast X tM_c12 hw.1 dX10_turns_75 (fun s15 es15 => ?_)
    have hw := hw.2 s15 es15
    refine ts_goto 97 X dX10_turns_76 (by decide) ?_
    exact ts_sub [0] rfl (J97  _  hw)
  have J42 : ∀ (σ : ts_S) (y0 : Int32) (y1 : Int32) (y2 : Int32), wp_X10_turns_j42 K a1 σ y0 y1 y2 → ts_G g (tM_w v) 4 σ 42 [(0, .ref (tX_ad v 0))] [.int y0, .int y1, .int y2, .ref (tX_ad v 12)] := by
    intro  σ y0 y1 y2 hw
    unfold wp_X10_turns_j42 at hw
    refine ts_isub X dX10_turns_42 ?_
    refine mi_ast X tM_c12 hw.1 dX10_turns_43 (fun s16 es16 => ?_)
    have hw := hw.2 s16 es16
    refine ts_goto 97 X dX10_turns_44 (by decide) ?_
    exact ts_sub [0] rfl (J97  _  hw)
  unfold wp_X10_turns at hw
  show ts_G g (tM_w v) 4 σ 0 [(0, .ref (tX_ad v 0)), (1, .int a1)] []
  refine ts_iload_n X dX10_turns_0 1 rfl ?_
  refine ts_aload_n X dX10_turns_1 0 rfl ?_
  refine gf_X10_73 X dX10_turns_2 ?_
  refine ts_irem X dX10_turns_5 hw.1 ?_
  have hw := hw.2
  refine ts_istore_n X dX10_turns_6 (by decide) (lv' := [(2, .int (a1 - a1 / (σ 0 1) * (σ 0 1))), (0, .ref (tX_ad v 0)), (1, .int a1)]) rfl ?_
  refine ts_iload_n X dX10_turns_7 2 rfl ?_
  refine ts_bipush X dX10_turns_8 (v := 8) (by decide) ?_
  refine ts_idiv X dX10_turns_10 hw.1 ?_
  have hw := hw.2
  refine ts_bipush X dX10_turns_11 (v := 6) (by decide) ?_
  refine ts_irem X dX10_turns_13 hw.1 ?_
  have hw := hw.2
  refine ts_istore_n X dX10_turns_14 (by decide) (lv' := [(3, .int ((a1 / 8) - (a1 / 8) / 6 * 6)), (2, .int (a1 - a1 / (σ 0 1) * (σ 0 1))), (0, .ref (tX_ad v 0)), (1, .int a1)]) rfl ?_
  refine ts_iload_n X dX10_turns_15 0 rfl ?_
  refine ts_iconst X dX10_turns_16 (v := 2) (by decide) ?_
  refine ts_icmp_ge 47 X dX10_turns_17 (by decide) (fun c => ?_) (fun c => ?_)
  · have hw := ts_itp hw c
    refine ts_iload_n X dX10_turns_47 0 rfl ?_
    refine ts_iconst X dX10_turns_48 (v := 2) (by decide) ?_
    refine ts_icmp_ne 79 X dX10_turns_49 (by decide) (fun c => ?_) (fun c => ?_)
    · have hw := ts_itn hw c
      refine ts_iload_n X dX10_turns_79 0 rfl ?_
      refine ts_iconst X dX10_turns_80 (v := 3) (by decide) ?_
      refine ts_icmp_ne 97 X dX10_turns_81 (by decide) (fun c => ?_) (fun c => ?_)
      · have hw := ts_itn hw c
        exact ts_sub [2] rfl (J97  _  hw)
      · have hw := ts_itp hw c
        refine ts_aload_n X dX10_turns_84 2 rfl ?_
        refine ts_iload_n X dX10_turns_85 1 rfl ?_
        refine ts_callVi (w := tM_w v) X (k := 0) (by decide : 0 < 15) rfl rfl rfl (As := [.int (a1 - a1 / (σ 0 1) * (σ 0 1))]) (ct_X10_canCall g.2.1 v hi _ _ _ hw) ok_X10_canCall cw_X10_162 (ts_le hgn (by decide)) (by decide) rfl rfl (Nat.le_of_ble_eq_true rfl) dX10_turns_86 (fun r17 s18 hw => ?_)
        refine ts_if_eq 97 X dX10_turns_89 (by decide) (fun c => ?_) (fun c => ?_)
        · have hw := ts_itp hw c
          exact ts_sub [2] rfl (J97  _  hw)
        · have hw := ts_itn hw c
          refine ts_aload_n X dX10_turns_92 2 rfl ?_
          refine ts_iload_n X dX10_turns_93 1 rfl ?_
          refine ts_callVv (w := tM_w v) X (k := 0) (by decide : 0 < 15) rfl rfl rfl (As := [.int (a1 - a1 / (σ 0 1) * (σ 0 1))]) (ct_X10_calls g.2.1 v hi _ _ _ hw) ok_X10_calls cw_X10_180 (ts_le hgn (by decide)) (by decide) rfl rfl (Nat.le_of_ble_eq_true rfl) dX10_turns_94 (fun s20 hw => ?_)
          exact ts_sub [2] rfl (J97  _  hw)
    · have hw := ts_itp hw c
      refine ts_aload_n X dX10_turns_52 2 rfl ?_
      refine gf_X10_43 X dX10_turns_53 ?_
      refine ts_iconst X dX10_turns_56 (v := 3) (by decide) ?_
      refine ts_iload_n X dX10_turns_57 1 rfl ?_
      refine ts_iadd X dX10_turns_58 ?_
      refine ts_dup2 X dX10_turns_59 rfl rfl ?_
      refine mi_ald X tM_c12 hw.1 dX10_turns_60 ?_
      have hw := hw.2
      refine ts_aload_n X dX10_turns_61 2 rfl ?_
      refine ts_iload_n X dX10_turns_62 1 rfl ?_
      refine ts_callVi (w := tM_w v) X (k := 0) (by decide : 0 < 15) rfl rfl rfl (As := [.int (a1 - a1 / (σ 0 1) * (σ 0 1))]) (ct_X10_canHoist g.2.1 v hi _ _ _ hw) ok_X10_canHoist cw_X10_177 (ts_le hgn (by decide)) (by decide) rfl rfl (Nat.le_of_ble_eq_true rfl) dX10_turns_63 (fun r21 s22 hw => ?_)
      refine ts_if_eq 73 X dX10_turns_66 (by decide) (fun c => ?_) (fun c => ?_)
      · have hw := ts_itp hw c
        refine ts_iconst X dX10_turns_73 (v := 0) (by decide) ?_
        exact ts_sub [2] rfl (J74  _ _ _ _ hw)
      · have hw := ts_itn hw c
        refine ts_iconst X dX10_turns_69 (v := 1) (by decide) ?_
        refine ts_goto 74 X dX10_turns_70 (by decide) ?_
        exact ts_sub [2] rfl (J74  _ _ _ _ hw)
  · have hw := ts_itn hw c
    refine ts_aload_n X dX10_turns_20 2 rfl ?_
    refine gf_X10_43 X dX10_turns_21 ?_
    refine ts_iconst X dX10_turns_24 (v := 3) (by decide) ?_
    refine ts_iload_n X dX10_turns_25 1 rfl ?_
    refine ts_iadd X dX10_turns_26 ?_
    refine ts_dup2 X dX10_turns_27 rfl rfl ?_
    refine mi_ald X tM_c12 hw.1 dX10_turns_28 ?_
    have hw := hw.2
    refine ts_aload_n X dX10_turns_29 2 rfl ?_
    refine ts_iload_n X dX10_turns_30 1 rfl ?_
    refine ts_callVi (w := tM_w v) X (k := 0) (by decide : 0 < 15) rfl rfl rfl (As := [.int (a1 - a1 / (σ 0 1) * (σ 0 1))]) (ct_X10_canPromote g.2.1 v hi _ _ _ hw) ok_X10_canPromote cw_X10_174 (ts_le hgn (by decide)) (by decide) rfl rfl (Nat.le_of_ble_eq_true rfl) dX10_turns_31 (fun r23 s24 hw => ?_)
    refine ts_if_eq 41 X dX10_turns_34 (by decide) (fun c => ?_) (fun c => ?_)
    · have hw := ts_itp hw c
      refine ts_iconst X dX10_turns_41 (v := 0) (by decide) ?_
      exact ts_sub [2] rfl (J42  _ _ _ _ hw)
    · have hw := ts_itn hw c
      refine ts_iconst X dX10_turns_37 (v := 1) (by decide) ?_
      refine ts_goto 42 X dX10_turns_38 (by decide) ?_
      exact ts_sub [2] rfl (J42  _ _ _ _ hw)
set_option maxRecDepth 100000 in
set_option maxHeartbeats 4000000 in
theorem ct_X10_bits (l : Launch) (v : tX_V) (hi : ts_inj 15 (tX_ad v)) (K : Int32 → ts_S → Prop) (σ : ts_S) (a0 : Int32)  (hw : wp_X10_bits K σ a0) : ts_Mi l yX10_bits (Cond.code yX10_bits cX10_bits 3 (some .int)) 1 (tM_w v) [.int a0] σ K := by
  refine ts_Mi.of_i (w := tM_w v) hi (by decide +kernel) (Nat.le_of_ble_eq_true rfl) ?_
  intro g hgl hgn X hret
  have J4 : ∀ (σ : ts_S) (x1 : Int32) (x2 : Int32), wp_X10_bits_l4 K a0 σ x1 x2 → ts_G g (tM_w v) 3 σ 4 [(0, .int a0), (1, .int x1), (2, .int x2)] [] := by
    intro  σ x1 x2 hw
    have key : ∀ X4 : ts_S → Int32 → Int32 → Prop, (∀ (σ : ts_S) (x1 : Int32) (x2 : Int32), X4 σ x1 x2 → ts_G g (tM_w v) 3 σ 4 [(0, .int a0), (1, .int x1), (2, .int x2)] []) → ∀ (σ : ts_S) (x1 : Int32) (x2 : Int32), wp_X10_bits_b4 K X4 a0  σ x1 x2 → ts_G g (tM_w v) 3 σ 4 [(0, .int a0), (1, .int x1), (2, .int x2)] [] := by
      intro X4 hX4
      intro σ x1 x2 hw
      unfold wp_X10_bits_b4 at hw
      refine ts_iload_n X dX10_bits_4 2 rfl ?_
      refine ts_bipush X dX10_bits_5 (v := 6) (by decide) ?_
      refine ts_icmp_ge 24 X dX10_bits_7 (by decide) (fun c => ?_) (fun c => ?_)
      · have hw := ts_itp hw c
        refine ts_iload_n X dX10_bits_24 1 rfl ?_
        exact hret _ _ _ _ hw dX10_bits_25
      · have hw := ts_itn hw c
        refine ts_iload_n X dX10_bits_10 1 rfl ?_
        refine ts_iload_n X dX10_bits_11 0 rfl ?_
        refine ts_iload_n X dX10_bits_12 2 rfl ?_
        refine ts_ishr X dX10_bits_13 ?_
        refine ts_iconst X dX10_bits_14 (v := 1) (by decide) ?_
        refine ts_iand X dX10_bits_15 ?_
        refine ts_iadd X dX10_bits_16 ?_
        refine ts_istore_n X dX10_bits_17 (by decide) (lv' := [(1, .int (x1 + ((a0 >>> (x2 &&& 31)) &&& 1))), (0, .int a0), (2, .int x2)]) rfl ?_
        refine ts_iinc X dX10_bits_18 2 rfl (v := x2 + 1) rfl (by decide) (lv' := [(2, .int (x2 + 1)), (1, .int (x1 + ((a0 >>> (x2 &&& 31)) &&& 1))), (0, .int a0)]) rfl ?_
        refine ts_goto 4 X dX10_bits_21 (by decide) ?_
        exact ts_sub [2, 1, 0] rfl (hX4 _ _ _ hw)
    exact hw _ (fun σ x1 x2 h => key _ (fun _ _ _ h => h) σ x1 x2 h)
  unfold wp_X10_bits at hw
  show ts_G g (tM_w v) 3 σ 0 [(0, .int a0)] []
  refine ts_iconst X dX10_bits_0 (v := 0) (by decide) ?_
  refine ts_istore_n X dX10_bits_1 (by decide) (lv' := [(1, .int 0), (0, .int a0)]) rfl ?_
  refine ts_iconst X dX10_bits_2 (v := 0) (by decide) ?_
  refine ts_istore_n X dX10_bits_3 (by decide) (lv' := [(2, .int 0), (1, .int 0), (0, .int a0)]) rfl ?_
  exact ts_sub [2, 1, 0] rfl (J4  _ _ _ hw)
set_option maxRecDepth 100000 in
set_option maxHeartbeats 4000000 in
theorem ct_X10_decade (l : Launch) (v : tX_V) (hi : ts_inj 15 (tX_ad v)) (K : Int32 → ts_S → Prop) (σ : ts_S) (a1 : Int32) (a2 : Int32) (a3 : Int32)  (hw : wp_X10_decade K σ a1 a2 a3) : ts_Mi l yX10_decade (Cond.code yX10_decade cX10_decade 7 (some .int)) 7 (tM_w v) [.ref (tX_ad v 0), .int a1, .int a2, .int a3] σ K := by
  refine ts_Mi.of_i (w := tM_w v) hi (by decide +kernel) (Nat.le_of_ble_eq_true rfl) ?_
  intro g hgl hgn X hret
  have J93 : ∀ (σ : ts_S) (x4 : Int32) (x5 : Int32), wp_X10_decade_l93 K a1 a2 a3 σ x4 x5 → ts_G g (tM_w v) 7 σ 93 [(0, .ref (tX_ad v 0)), (3, .int a3), (4, .int x4), (5, .int x5)] [] := by
    intro  σ x4 x5 hw
    have key : ∀ X93 : ts_S → Int32 → Int32 → Prop, (∀ (σ : ts_S) (x4 : Int32) (x5 : Int32), X93 σ x4 x5 → ts_G g (tM_w v) 7 σ 93 [(0, .ref (tX_ad v 0)), (3, .int a3), (4, .int x4), (5, .int x5)] []) → ∀ (σ : ts_S) (x4 : Int32) (x5 : Int32), wp_X10_decade_b93 K X93 a1 a2 a3  σ x4 x5 → ts_G g (tM_w v) 7 σ 93 [(0, .ref (tX_ad v 0)), (3, .int a3), (4, .int x4), (5, .int x5)] [] := by
      intro X93 hX93
      intro σ x4 x5 hw
      unfold wp_X10_decade_b93 at hw
      refine ts_iload X dX10_decade_93 3 rfl ?_
      refine ts_aload_n X dX10_decade_95 0 rfl ?_
      refine gf_X10_73 X dX10_decade_96 ?_
      refine ts_icmp_ge 140 X dX10_decade_99 (by decide) (fun c => ?_) (fun c => ?_)
      · have hw := ts_itp hw c
        refine ts_iload_n X dX10_decade_140 1 rfl ?_
        refine ts_if_ne 156 X dX10_decade_141 (by decide) (fun c => ?_) (fun c => ?_)
        · have hw := ts_itn hw c
          refine ts_iload_n X dX10_decade_156 1 rfl ?_
          refine ts_iconst X dX10_decade_157 (v := 1) (by decide) ?_
          refine ts_icmp_ne 168 X dX10_decade_158 (by decide) (fun c => ?_) (fun c => ?_)
          · have hw := ts_itn hw c
            refine ts_iload X dX10_decade_168 2 rfl ?_
            exact hret _ _ _ _ hw dX10_decade_170
          · have hw := ts_itp hw c
            refine ts_aload_n X dX10_decade_161 0 rfl ?_
            refine ts_callVi (w := tM_w v) X (k := 0) (by decide : 0 < 15) rfl rfl rfl (As := []) (ct_X10_done g.2.1 v hi _ _  hw) ok_X10_done cw_X10_190 (ts_le hgn (by decide)) (by decide) rfl rfl (Nat.le_of_ble_eq_true rfl) dX10_decade_162 (fun r17 s18 hw => ?_)
            refine ts_goto 170 X dX10_decade_165 (by decide) ?_
            exact hret _ _ _ _ hw dX10_decade_170
        · have hw := ts_itp hw c
          refine ts_aload_n X dX10_decade_144 0 rfl ?_
          refine gf_X10_43 X dX10_decade_145 ?_
          refine ts_iconst X dX10_decade_148 (v := 1) (by decide) ?_
          refine mi_ald X tM_c12 hw.1 dX10_decade_149 ?_
          have hw := hw.2
          refine ts_callSi X (As := [.int (σ 12 (1 : Int32).toNatClampNeg)]) (ct_X10_bits g.2.1 v hi _ _ _ hw) ok_X10_bits cw_X10_220 (ts_le hgn (by decide)) (by decide) rfl rfl (Nat.le_of_ble_eq_true rfl) dX10_decade_150 (fun r19 s20 hw => ?_)
          refine ts_goto 170 X dX10_decade_153 (by decide) ?_
          exact hret _ _ _ _ hw dX10_decade_170
      · have hw := ts_itn hw c
        refine ts_iload X dX10_decade_102 2 rfl ?_
        refine ts_aload_n X dX10_decade_104 0 rfl ?_
        refine gf_X10_43 X dX10_decade_105 ?_
        refine ts_iconst X dX10_decade_108 (v := 1) (by decide) ?_
        refine mi_ald X tM_c12 hw.1 dX10_decade_109 ?_
        have hw := hw.2
        refine ts_iload X dX10_decade_110 3 rfl ?_
        refine ts_callSi X (As := [.int (σ 12 (1 : Int32).toNatClampNeg), .int x5]) (ct_X10_has g.2.1 v hi _ _ _ _ hw) ok_X10_has cw_X10_139 (ts_le hgn (by decide)) (by decide) rfl rfl (Nat.le_of_ble_eq_true rfl) dX10_decade_112 (fun r21 s22 hw => ?_)
        refine ts_if_eq 122 X dX10_decade_115 (by decide) (fun c => ?_) (fun c => ?_)
        · have hw := ts_itp hw c
          refine ts_aload_n X dX10_decade_122 0 rfl ?_
          refine gf_X10_43 X dX10_decade_123 ?_
          refine ts_iconst X dX10_decade_126 (v := 3) (by decide) ?_
          refine ts_iload X dX10_decade_127 3 rfl ?_
          refine ts_iadd X dX10_decade_129 ?_
          refine mi_ald X tM_c12 hw.1 dX10_decade_130 ?_
          have hw := hw.2
          refine ts_iadd X dX10_decade_131 ?_
          refine ts_istore X dX10_decade_132 (by decide) (lv' := [(4, .int (x4 + (s22 12 (3 + x5).toNatClampNeg))), (0, .ref (tX_ad v 0)), (3, .int a3), (5, .int x5)]) rfl ?_
          refine ts_iinc X dX10_decade_134 3 rfl (v := x5 + 1) rfl (by decide) (lv' := [(5, .int (x5 + 1)), (4, .int (x4 + (s22 12 (3 + x5).toNatClampNeg))), (0, .ref (tX_ad v 0)), (3, .int a3)]) rfl ?_
          refine ts_goto 93 X dX10_decade_137 (by decide) ?_
          exact ts_sub [2, 3, 1, 0] rfl (hX93 _ _ _ hw)
        · have hw := ts_itn hw c
          refine ts_iconst X dX10_decade_118 (v := 0) (by decide) ?_
          refine ts_goto 131 X dX10_decade_119 (by decide) ?_
          refine ts_iadd X dX10_decade_131 ?_
          refine ts_istore X dX10_decade_132 (by decide) (lv' := [(4, .int (x4 + 0)), (0, .ref (tX_ad v 0)), (3, .int a3), (5, .int x5)]) rfl ?_
          refine ts_iinc X dX10_decade_134 3 rfl (v := x5 + 1) rfl (by decide) (lv' := [(5, .int (x5 + 1)), (4, .int (x4 + 0)), (0, .ref (tX_ad v 0)), (3, .int a3)]) rfl ?_
          refine ts_goto 93 X dX10_decade_137 (by decide) ?_
          exact ts_sub [2, 3, 1, 0] rfl (hX93 _ _ _ hw)
    exact hw _ (fun σ x4 x5 h => key _ (fun _ _ _ h => h) σ x4 x5 h)
  have J39 : ∀ (σ : ts_S) (x4 : Int32), wp_X10_decade_l39 K a1 a2 a3 σ x4 → ts_G g (tM_w v) 7 σ 39 [(0, .ref (tX_ad v 0)), (1, .int a1), (2, .int a2), (3, .int a3), (4, .int x4)] [] := by
    intro  σ x4 hw
    have key : ∀ X39 : ts_S → Int32 → Prop, (∀ (σ : ts_S) (x4 : Int32), X39 σ x4 → ts_G g (tM_w v) 7 σ 39 [(0, .ref (tX_ad v 0)), (1, .int a1), (2, .int a2), (3, .int a3), (4, .int x4)] []) → ∀ (σ : ts_S) (x4 : Int32), wp_X10_decade_b39 K X39 a1 a2 a3  σ x4 → ts_G g (tM_w v) 7 σ 39 [(0, .ref (tX_ad v 0)), (1, .int a1), (2, .int a2), (3, .int a3), (4, .int x4)] [] := by
      intro X39 hX39
      intro σ x4 hw
      unfold wp_X10_decade_b39 at hw
      refine ts_iload X dX10_decade_39 4 rfl ?_
      refine ts_iload_n X dX10_decade_41 2 rfl ?_
      refine ts_icmp_ge 87 X dX10_decade_42 (by decide) (fun c => ?_) (fun c => ?_)
      · have hw := ts_itp hw c
        refine ts_iconst X dX10_decade_87 (v := 0) (by decide) ?_
        refine ts_istore X dX10_decade_88 (by decide) (lv' := [(4, .int 0), (0, .ref (tX_ad v 0)), (1, .int a1), (2, .int a2), (3, .int a3)]) rfl ?_
        refine ts_iconst X dX10_decade_90 (v := 0) (by decide) ?_
        refine ts_istore X dX10_decade_91 (by decide) (lv' := [(5, .int 0), (4, .int 0), (0, .ref (tX_ad v 0)), (1, .int a1), (2, .int a2), (3, .int a3)]) rfl ?_
        exact ts_sub [2, 5, 1, 0] rfl (J93  _ _ _ hw)
      · have hw := ts_itn hw c
        refine ts_ldc2 X kw_1192 dX10_decade_45 ?_
        refine ts_iload_n X dX10_decade_48 1 rfl ?_
        refine ts_i2l X dX10_decade_49 ?_
        refine ts_lmul X dX10_decade_50 ?_
        refine ts_ldc2 X kw_1193 dX10_decade_51 ?_
        refine ts_iload X dX10_decade_54 4 rfl ?_
        refine ts_i2l X dX10_decade_56 ?_
        refine ts_lmul X dX10_decade_57 ?_
        refine ts_ladd X dX10_decade_58 ?_
        refine ts_lconst X dX10_decade_59 (v := 1) (by decide) ?_
        refine ts_ladd X dX10_decade_60 ?_
        refine ts_lstore X dX10_decade_61 (by decide) (lv' := [(5, .long (((7919 * a1.toInt64) + (6151 * x4.toInt64)) + 1)), (0, .ref (tX_ad v 0)), (1, .int a1), (2, .int a2), (3, .int a3), (4, .int x4)]) rfl ?_
        refine ts_aload_n X dX10_decade_63 1 rfl ?_
        refine ts_lload X dX10_decade_64 0 rfl ?_
        refine ts_lload X dX10_decade_66 0 rfl ?_
        refine ts_lmul X dX10_decade_68 ?_
        refine ts_ldc2 X kw_1194 dX10_decade_69 ?_
        refine ts_lrem X dX10_decade_72 hw.1 ?_
        have hw := hw.2
        refine ts_ldc2 X kw_1195 dX10_decade_73 ?_
        refine ts_ldiv X dX10_decade_76 hw.1 ?_
        have hw := hw.2
        refine ts_l2i X dX10_decade_77 ?_
        refine ts_callVv (w := tM_w v) X (k := 0) (by decide : 0 < 15) rfl rfl rfl (As := [.int (((((((7919 * a1.toInt64) + (6151 * x4.toInt64)) + 1) * (((7919 * a1.toInt64) + (6151 * x4.toInt64)) + 1)) - ((((7919 * a1.toInt64) + (6151 * x4.toInt64)) + 1) * (((7919 * a1.toInt64) + (6151 * x4.toInt64)) + 1)) / 65521 * 65521) / 2).toInt32)]) (ct_X10_turns g.2.1 v hi _ _ _ hw) ok_X10_turns cw_X10_217 (ts_le hgn (by decide)) (by decide) rfl rfl (Nat.le_of_ble_eq_true rfl) dX10_decade_78 (fun s24 hw => ?_)
        refine ts_iinc X dX10_decade_81 5 rfl (v := x4 + 1) rfl (by decide) (lv' := [(4, .int (x4 + 1)), (5, .long (((7919 * a1.toInt64) + (6151 * x4.toInt64)) + 1)), (0, .ref (tX_ad v 0)), (1, .int a1), (2, .int a2), (3, .int a3)]) rfl ?_
        refine ts_goto 39 X dX10_decade_84 (by decide) ?_
        exact ts_sub [2, 3, 4, 5, 0] rfl (hX39 _ _ hw)
    exact hw _ (fun σ x4 h => key _ (fun _ _ h => h) σ x4 h)
  unfold wp_X10_decade at hw
  show ts_G g (tM_w v) 7 σ 0 [(0, .ref (tX_ad v 0)), (1, .int a1), (2, .int a2), (3, .int a3)] []
  refine ts_iload_n X dX10_decade_0 1 rfl ?_
  refine ts_iconst X dX10_decade_1 (v := 0) (by decide) ?_
  refine ts_sipush X dX10_decade_2 (v := 9999) (by decide) ?_
  refine ts_callSi X (As := [.int a1, .int 0, .int 9999]) (ct_X10_in g.2.1 v hi _ _ _ _ _ hw) ok_X10_in cw_X10_76 (ts_le hgn (by decide)) (by decide) rfl rfl (Nat.le_of_ble_eq_true rfl) dX10_decade_5 (fun r25 s26 hw => ?_)
  refine ts_if_eq 30 X dX10_decade_8 (by decide) (fun c => ?_) (fun c => ?_)
  · have hw := ts_itp hw c
    refine ts_iconst X dX10_decade_30 (v := (-1)) (by decide) ?_
    exact hret _ _ _ _ hw dX10_decade_31
  · have hw := ts_itn hw c
    refine ts_iload_n X dX10_decade_11 2 rfl ?_
    refine ts_iconst X dX10_decade_12 (v := 1) (by decide) ?_
    refine ts_bipush X dX10_decade_13 (v := 60) (by decide) ?_
    refine ts_callSi X (As := [.int a2, .int 1, .int 60]) (ct_X10_in g.2.1 v hi _ _ _ _ _ hw) ok_X10_in cw_X10_76 (ts_le hgn (by decide)) (by decide) rfl rfl (Nat.le_of_ble_eq_true rfl) dX10_decade_15 (fun r27 s28 hw => ?_)
    refine ts_if_eq 30 X dX10_decade_18 (by decide) (fun c => ?_) (fun c => ?_)
    · have hw := ts_itp hw c
      refine ts_iconst X dX10_decade_30 (v := (-1)) (by decide) ?_
      exact hret _ _ _ _ hw dX10_decade_31
    · have hw := ts_itn hw c
      refine ts_iload_n X dX10_decade_21 3 rfl ?_
      refine ts_iconst X dX10_decade_22 (v := 0) (by decide) ?_
      refine ts_iconst X dX10_decade_23 (v := 2) (by decide) ?_
      refine ts_callSi X (As := [.int a3, .int 0, .int 2]) (ct_X10_in g.2.1 v hi _ _ _ _ _ hw) ok_X10_in cw_X10_76 (ts_le hgn (by decide)) (by decide) rfl rfl (Nat.le_of_ble_eq_true rfl) dX10_decade_24 (fun r29 s30 hw => ?_)
      refine ts_if_ne 32 X dX10_decade_27 (by decide) (fun c => ?_) (fun c => ?_)
      · have hw := ts_itn hw c
        refine ts_aload_n X dX10_decade_32 0 rfl ?_
        refine ts_callVv (w := tM_w v) X (k := 0) (by decide : 0 < 15) rfl rfl rfl (As := []) (ct_X10_asItIs g.2.1 v hi _ _  hw) ok_X10_asItIs cw_X10_159 (ts_le hgn (by decide)) (by decide) rfl rfl (Nat.le_of_ble_eq_true rfl) dX10_decade_33 (fun s32 hw => ?_)
        refine ts_iconst X dX10_decade_36 (v := 0) (by decide) ?_
        refine ts_istore X dX10_decade_37 (by decide) (lv' := [(4, .int 0), (0, .ref (tX_ad v 0)), (1, .int a1), (2, .int a2), (3, .int a3)]) rfl ?_
        exact ts_sub [1, 2, 3, 4, 0] rfl (J39  _ _ hw)
      · have hw := ts_itp hw c
        refine ts_iconst X dX10_decade_30 (v := (-1)) (by decide) ?_
        exact hret _ _ _ _ hw dX10_decade_31
set_option maxRecDepth 100000 in
set_option maxHeartbeats 4000000 in
theorem ct_X10_keep (l : Launch) (v : tX_V) (hi : ts_inj 15 (tX_ad v)) (K : Int32 → ts_S → Prop) (σ : ts_S)   (hw : wp_X10_keep K σ ) : ts_Mi l yX10_keep (Cond.code yX10_keep cX10_keep 1 (some .int)) 2 (tM_w v) [.ref (tX_ad v 0)] σ K := by
  refine ts_Mi.of_i (w := tM_w v) hi (by decide +kernel) (Nat.le_of_ble_eq_true rfl) ?_
  intro g hgl hgn X hret
  unfold wp_X10_keep at hw
  show ts_G g (tM_w v) 1 σ 0 [(0, .ref (tX_ad v 0))] []
  refine ts_aload_n X dX10_keep_0 0 rfl ?_
  refine gf_X10_133 X dX10_keep_1 ?_
  refine ts_iconst X dX10_keep_4 (v := 2) (by decide) ?_
  refine ts_icmp_ne 11 X dX10_keep_5 (by decide) (fun c => ?_) (fun c => ?_)
  · have hw := ts_itn hw c
    refine ts_aload_n X dX10_keep_11 0 rfl ?_
    refine gf_X10_22 X dX10_keep_12 ?_
    refine ts_bipush X dX10_keep_15 (v := 21) (by decide) ?_
    refine ts_aload_n X dX10_keep_17 0 rfl ?_
    refine gf_X10_133 X dX10_keep_18 ?_
    refine ts_imul X dX10_keep_21 ?_
    refine ts_aload_n X dX10_keep_22 0 rfl ?_
    refine gf_X10_16 X dX10_keep_23 ?_
    refine ts_iconst X dX10_keep_26 (v := 0) (by decide) ?_
    refine ts_bipush X dX10_keep_27 (v := 21) (by decide) ?_
    refine ts_callSv X (As := [.ref (tX_ad v 5), .int (21 * (σ 0 8)), .ref (tX_ad v 3), .int 0, .int 21]) (ct_X10_copies g.2.1 v hi _ _ _ _ _ _ _ tM_c5 tM_c3 hw) ok_X10_copies cw_X10_123 (ts_le hgn (by decide)) (by decide) rfl rfl (Nat.le_of_ble_eq_true rfl) dX10_keep_29 (fun s5 hw => ?_)
    refine ts_aload_n X dX10_keep_32 0 rfl ?_
    refine ts_dup X dX10_keep_33 rfl ?_
    refine gf_X10_133 X dX10_keep_34 ?_
    refine ts_iconst X dX10_keep_37 (v := 1) (by decide) ?_
    refine ts_iadd X dX10_keep_38 ?_
    refine pf_X10_133 X dX10_keep_39 (fun s6 es6 => ?_)
    have hw := hw s6 es6
    refine ts_aload_n X dX10_keep_42 0 rfl ?_
    refine gf_X10_133 X dX10_keep_43 ?_
    exact hret _ _ _ _ hw dX10_keep_46
  · have hw := ts_itp hw c
    refine ts_bipush X dX10_keep_8 (v := (-3)) (by decide) ?_
    exact hret _ _ _ _ hw dX10_keep_10
set_option maxRecDepth 100000 in
set_option maxHeartbeats 4000000 in
theorem ct_X10_back (l : Launch) (v : tX_V) (hi : ts_inj 15 (tX_ad v)) (K : Int32 → ts_S → Prop) (σ : ts_S)   (hw : wp_X10_back K σ ) : ts_Mi l yX10_back (Cond.code yX10_back cX10_back 1 (some .int)) 2 (tM_w v) [.ref (tX_ad v 0)] σ K := by
  refine ts_Mi.of_i (w := tM_w v) hi (by decide +kernel) (Nat.le_of_ble_eq_true rfl) ?_
  intro g hgl hgn X hret
  unfold wp_X10_back at hw
  show ts_G g (tM_w v) 1 σ 0 [(0, .ref (tX_ad v 0))] []
  refine ts_aload_n X dX10_back_0 0 rfl ?_
  refine gf_X10_133 X dX10_back_1 ?_
  refine ts_if_ne 10 X dX10_back_4 (by decide) (fun c => ?_) (fun c => ?_)
  · have hw := ts_itn hw c
    refine ts_aload_n X dX10_back_10 0 rfl ?_
    refine ts_dup X dX10_back_11 rfl ?_
    refine gf_X10_133 X dX10_back_12 ?_
    refine ts_iconst X dX10_back_15 (v := 1) (by decide) ?_
    refine ts_isub X dX10_back_16 ?_
    refine pf_X10_133 X dX10_back_17 (fun s5 es5 => ?_)
    have hw := hw s5 es5
    refine ts_aload_n X dX10_back_20 0 rfl ?_
    refine gf_X10_16 X dX10_back_21 ?_
    refine ts_iconst X dX10_back_24 (v := 0) (by decide) ?_
    refine ts_aload_n X dX10_back_25 0 rfl ?_
    refine gf_X10_22 X dX10_back_26 ?_
    refine ts_bipush X dX10_back_29 (v := 21) (by decide) ?_
    refine ts_aload_n X dX10_back_31 0 rfl ?_
    refine gf_X10_133 X dX10_back_32 ?_
    refine ts_imul X dX10_back_35 ?_
    refine ts_bipush X dX10_back_36 (v := 21) (by decide) ?_
    refine ts_callSv X (As := [.ref (tX_ad v 3), .int 0, .ref (tX_ad v 5), .int (21 * (s5 0 8)), .int 21]) (ct_X10_copies g.2.1 v hi _ _ _ _ _ _ _ tM_c3 tM_c5 hw) ok_X10_copies cw_X10_123 (ts_le hgn (by decide)) (by decide) rfl rfl (Nat.le_of_ble_eq_true rfl) dX10_back_38 (fun s7 hw => ?_)
    refine ts_aload_n X dX10_back_41 0 rfl ?_
    refine ts_iconst X dX10_back_42 (v := 0) (by decide) ?_
    refine pf_X10_130 X dX10_back_43 (fun s8 es8 => ?_)
    have hw := hw s8 es8
    refine ts_aload_n X dX10_back_46 0 rfl ?_
    refine gf_X10_133 X dX10_back_47 ?_
    exact hret _ _ _ _ hw dX10_back_50
  · have hw := ts_itp hw c
    refine ts_bipush X dX10_back_7 (v := (-2)) (by decide) ?_
    exact hret _ _ _ _ hw dX10_back_9
set_option maxRecDepth 100000 in
set_option maxHeartbeats 4000000 in
theorem ct_X10_count (l : Launch) (v : tX_V) (hi : ts_inj 15 (tX_ad v)) (K : Int32 → ts_S → Prop) (σ : ts_S) (a1 : Int32)  (hw : wp_X10_count K σ a1) : ts_Mi l yX10_count (Cond.code yX10_count cX10_count 2 (some .int)) 6 (tM_w v) [.ref (tX_ad v 0), .int a1] σ K := by
  refine ts_Mi.of_i (w := tM_w v) hi (by decide +kernel) (Nat.le_of_ble_eq_true rfl) ?_
  intro g hgl hgn X hret
  unfold wp_X10_count at hw
  show ts_G g (tM_w v) 2 σ 0 [(0, .ref (tX_ad v 0)), (1, .int a1)] []
  refine ts_aload_n X dX10_count_0 0 rfl ?_
  refine ts_callVv (w := tM_w v) X (k := 0) (by decide : 0 < 15) rfl rfl rfl (As := []) (ct_X10_asItIs g.2.1 v hi _ _  hw) ok_X10_asItIs cw_X10_159 (ts_le hgn (by decide)) (by decide) rfl rfl (Nat.le_of_ble_eq_true rfl) dX10_count_1 (fun s12 hw => ?_)
  refine ts_iload_n X dX10_count_4 1 rfl ?_
  by_cases c0 : a1 = 0
  · have hw := ts_itp hw c0
    refine ts_tableIn 64 X dX10_count_5 c0 (by decide) (by decide) rfl (by decide) ?_
    refine ts_aload_n X dX10_count_64 0 rfl ?_
    refine gf_X10_80 X dX10_count_65 ?_
    exact hret _ _ _ _ hw dX10_count_68
  · have hw := ts_itn hw c0
    by_cases c1 : a1 = 1
    · have hw := ts_itp hw c1
      refine ts_tableIn 69 X dX10_count_5 c1 (by decide) (by decide) rfl (by decide) ?_
      refine ts_aload_n X dX10_count_69 0 rfl ?_
      refine gf_X10_73 X dX10_count_70 ?_
      exact hret _ _ _ _ hw dX10_count_73
    · have hw := ts_itn hw c1
      by_cases c2 : a1 = 2
      · have hw := ts_itp hw c2
        refine ts_tableIn 74 X dX10_count_5 c2 (by decide) (by decide) rfl (by decide) ?_
        refine ts_aload_n X dX10_count_74 0 rfl ?_
        refine gf_X10_127 X dX10_count_75 ?_
        exact hret _ _ _ _ hw dX10_count_78
      · have hw := ts_itn hw c2
        by_cases c3 : a1 = 3
        · have hw := ts_itp hw c3
          refine ts_tableIn 79 X dX10_count_5 c3 (by decide) (by decide) rfl (by decide) ?_
          refine ts_aload_n X dX10_count_79 0 rfl ?_
          refine gf_X10_16 X dX10_count_80 ?_
          refine ts_iconst X dX10_count_83 (v := 0) (by decide) ?_
          refine mi_ald X tM_c3 hw.1 dX10_count_84 ?_
          have hw := hw.2
          exact hret _ _ _ _ hw dX10_count_85
        · have hw := ts_itn hw c3
          by_cases c4 : a1 = 4
          · have hw := ts_itp hw c4
            refine ts_tableIn 86 X dX10_count_5 c4 (by decide) (by decide) rfl (by decide) ?_
            refine ts_aload_n X dX10_count_86 0 rfl ?_
            refine gf_X10_16 X dX10_count_87 ?_
            refine ts_iconst X dX10_count_90 (v := 1) (by decide) ?_
            refine mi_ald X tM_c3 hw.1 dX10_count_91 ?_
            have hw := hw.2
            refine ts_callSi X (As := [.int (s12 3 (1 : Int32).toNatClampNeg)]) (ct_X10_bits g.2.1 v hi _ _ _ hw) ok_X10_bits cw_X10_220 (ts_le hgn (by decide)) (by decide) rfl rfl (Nat.le_of_ble_eq_true rfl) dX10_count_92 (fun r13 s14 hw => ?_)
            exact hret _ _ _ _ hw dX10_count_95
          · have hw := ts_itn hw c4
            by_cases c5 : a1 = 5
            · have hw := ts_itp hw c5
              refine ts_tableIn 96 X dX10_count_5 c5 (by decide) (by decide) rfl (by decide) ?_
              refine ts_aload_n X dX10_count_96 0 rfl ?_
              refine ts_callVi (w := tM_w v) X (k := 0) (by decide : 0 < 15) rfl rfl rfl (As := []) (ct_X10_frozen g.2.1 v hi _ _  hw) ok_X10_frozen cw_X10_150 (ts_le hgn (by decide)) (by decide) rfl rfl (Nat.le_of_ble_eq_true rfl) dX10_count_97 (fun r15 s16 hw => ?_)
              refine ts_callSi X (As := [.int r15]) (ct_X10_bits g.2.1 v hi _ _ _ hw) ok_X10_bits cw_X10_220 (ts_le hgn (by decide)) (by decide) rfl rfl (Nat.le_of_ble_eq_true rfl) dX10_count_100 (fun r17 s18 hw => ?_)
              exact hret _ _ _ _ hw dX10_count_103
            · have hw := ts_itn hw c5
              by_cases c6 : a1 = 6
              · have hw := ts_itp hw c6
                refine ts_tableIn 104 X dX10_count_5 c6 (by decide) (by decide) rfl (by decide) ?_
                refine ts_aload_n X dX10_count_104 0 rfl ?_
                refine ts_callVi (w := tM_w v) X (k := 0) (by decide : 0 < 15) rfl rfl rfl (As := []) (ct_X10_done g.2.1 v hi _ _  hw) ok_X10_done cw_X10_190 (ts_le hgn (by decide)) (by decide) rfl rfl (Nat.le_of_ble_eq_true rfl) dX10_count_105 (fun r19 s20 hw => ?_)
                exact hret _ _ _ _ hw dX10_count_108
              · have hw := ts_itn hw c6
                by_cases c7 : a1 = 7
                · have hw := ts_itp hw c7
                  refine ts_tableIn 109 X dX10_count_5 c7 (by decide) (by decide) rfl (by decide) ?_
                  refine ts_aload_n X dX10_count_109 0 rfl ?_
                  refine gf_X10_136 X dX10_count_110 ?_
                  exact hret _ _ _ _ hw dX10_count_113
                · have hw := ts_itn hw c7
                  by_cases c8 : a1 = 8
                  · have hw := ts_itp hw c8
                    refine ts_tableIn 114 X dX10_count_5 c8 (by decide) (by decide) rfl (by decide) ?_
                    refine ts_aload_n X dX10_count_114 0 rfl ?_
                    refine gf_X10_130 X dX10_count_115 ?_
                    exact hret _ _ _ _ hw dX10_count_118
                  · have hw := ts_itn hw c8
                    by_cases c9 : a1 = 9
                    · have hw := ts_itp hw c9
                      refine ts_tableIn 119 X dX10_count_5 c9 (by decide) (by decide) rfl (by decide) ?_
                      refine ts_aload_n X dX10_count_119 0 rfl ?_
                      refine gf_X10_133 X dX10_count_120 ?_
                      exact hret _ _ _ _ hw dX10_count_123
                    · have hw := ts_itn hw c9
                      by_cases c10 : a1 = 10
                      · have hw := ts_itp hw c10
                        refine ts_tableIn 124 X dX10_count_5 c10 (by decide) (by decide) rfl (by decide) ?_
                        refine ts_aload_n X dX10_count_124 0 rfl ?_
                        refine gf_X10_83 X dX10_count_125 ?_
                        exact hret _ _ _ _ hw dX10_count_128
                      · have hw := ts_itn hw c10
                        refine ts_tableOut 129 X dX10_count_5 (ts_out [0, 1, 2, 3, 4, 5, 6, 7, 8, 9, 10] ⟨c0, c1, c2, c3, c4, c5, c6, c7, c8, c9, c10, trivial⟩ (by decide)) (by decide) ?_
                        refine ts_iconst X dX10_count_129 (v := (-1)) (by decide) ?_
                        exact hret _ _ _ _ hw dX10_count_130
