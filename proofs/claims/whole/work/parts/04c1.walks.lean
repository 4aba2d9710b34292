set_option maxRecDepth 100000 in
set_option maxHeartbeats 4000000 in
theorem ct_X1_clear (l : Launch) (v : tX_V) (hi : ts_inj 151 (tX_ad v)) (K : ts_S → Prop) (σ : ts_S)   (hw : wp_X1_clear K σ ) : ts_Mv l yX1_clear (Cond.code yX1_clear cX1_clear 1 (none)) 1 (tX_w v) [.ref (tX_ad v 4)] σ K := by
  refine ts_Mv.of_v (w := tX_w v) hi (by decide +kernel) (Nat.le_of_ble_eq_true rfl) ?_
  intro g hgl hgn X hret
  unfold wp_X1_clear at hw
  show ts_G g (tX_w v) 1 σ 0 [(0, .ref (tX_ad v 4))] []
  refine ts_aload_n X dX1_clear_0 0 rfl ?_
  refine ts_iconst X dX1_clear_1 (v := 0) (by decide) ?_
  refine pf_X1_23 X dX1_clear_2 (fun s2 es2 => ?_)
  have hw := hw s2 es2
  exact hret _ _ _ hw dX1_clear_5
set_option maxRecDepth 100000 in
set_option maxHeartbeats 4000000 in
theorem ct_X4_clear (l : Launch) (v : tX_V) (hi : ts_inj 151 (tX_ad v)) (K : ts_S → Prop) (σ : ts_S)   (hw : wp_X4_clear K σ ) : ts_Mv l yX4_clear (Cond.code yX4_clear cX4_clear 1 (none)) 1 (tX_w v) [.ref (tX_ad v 7)] σ K := by
  refine ts_Mv.of_v (w := tX_w v) hi (by decide +kernel) (Nat.le_of_ble_eq_true rfl) ?_
  intro g hgl hgn X hret
  unfold wp_X4_clear at hw
  show ts_G g (tX_w v) 1 σ 0 [(0, .ref (tX_ad v 7))] []
  refine ts_aload_n X dX4_clear_0 0 rfl ?_
  refine ts_iconst X dX4_clear_1 (v := 0) (by decide) ?_
  refine pf_X4_22 X dX4_clear_2 (fun s2 es2 => ?_)
  have hw := hw s2 es2
  exact hret _ _ _ hw dX4_clear_5
set_option maxRecDepth 100000 in
set_option maxHeartbeats 4000000 in
theorem ct_X1_add (l : Launch) (v : tX_V) (hi : ts_inj 151 (tX_ad v)) (K : ts_S → Prop) (σ : ts_S) (t1 : Nat) (ht1 : tX_T t1) (hw : wp_X1_add K σ t1) : ts_Mv l yX1_add (Cond.code yX1_add cX1_add 2 (none)) 2 (tX_w v) [.ref (tX_ad v 4), .ref (tX_ad v t1)] σ K := by
  refine ts_Mv.of_v (w := tX_w v) hi (by decide +kernel) (Nat.le_of_ble_eq_true rfl) ?_
  intro g hgl hgn X hret
  unfold wp_X1_add at hw
  show ts_G g (tX_w v) 2 σ 0 [(0, .ref (tX_ad v 4)), (1, .ref (tX_ad v t1))] []
  refine ts_aload_n X dX1_add_0 0 rfl ?_
  refine gf_X1_13 X dX1_add_1 ?_
  refine ts_aload_n X dX1_add_4 0 rfl ?_
  refine gf_X1_19 X dX1_add_5 ?_
  refine ts_aload_n X dX1_add_8 0 rfl ?_
  refine gf_X1_23 X dX1_add_9 ?_
  refine ts_iadd X dX1_add_12 ?_
  refine ts_bipush X dX1_add_13 (v := 8) (by decide) ?_
  refine ts_irem X dX1_add_15 hw.1 ?_
  have hw := hw.2
  have hq6 := hw.1
  refine xa_ald5 X hq6 dX1_add_16 ?_
  have hw := hw.2
  refine ts_aload_n X dX1_add_17 1 rfl ?_
  refine ts_callVv (w := tX_w v) X (k := (73 + 6 * (((σ 4 1) + (σ 4 2)) - ((σ 4 1) + (σ 4 2)) / 8 * 8).toNatClampNeg)) ((tX_Tr hq6 ⟨7, rfl, by decide⟩)).lt (tX_eT (tX_Tr hq6 ⟨7, rfl, by decide⟩) _) rfl rfl (As := [.ref (tX_ad v t1)]) (ct_X8_standAs g.2.1 v hi _ _ _ _ (tX_Tr hq6 ⟨7, rfl, by decide⟩) ht1 hw) ok_X8_standAs cw_X1_26 (ts_le hgn (by decide)) (by decide) rfl rfl (Nat.le_of_ble_eq_true rfl) dX1_add_18 (fun s8 hw => ?_)
  refine ts_aload_n X dX1_add_21 0 rfl ?_
  refine gf_X1_23 X dX1_add_22 ?_
  refine ts_bipush X dX1_add_25 (v := 8) (by decide) ?_
  refine ts_icmp_ge 43 X dX1_add_27 (by decide) (fun c => ?_) (fun c => ?_)
  · have hw := ts_itp hw c
    refine ts_aload_n X dX1_add_43 0 rfl ?_
    refine ts_aload_n X dX1_add_44 0 rfl ?_
    refine gf_X1_19 X dX1_add_45 ?_
    refine ts_iconst X dX1_add_48 (v := 1) (by decide) ?_
    refine ts_iadd X dX1_add_49 ?_
    refine ts_bipush X dX1_add_50 (v := 8) (by decide) ?_
    refine ts_irem X dX1_add_52 hw.1 ?_
    have hw := hw.2
    refine pf_X1_19 X dX1_add_53 (fun s9 es9 => ?_)
    have hw := hw s9 es9
    exact hret _ _ _ hw dX1_add_56
  · have hw := ts_itn hw c
    refine ts_aload_n X dX1_add_30 0 rfl ?_
    refine ts_dup X dX1_add_31 rfl ?_
    refine gf_X1_23 X dX1_add_32 ?_
    refine ts_iconst X dX1_add_35 (v := 1) (by decide) ?_
    refine ts_iadd X dX1_add_36 ?_
    refine pf_X1_23 X dX1_add_37 (fun s10 es10 => ?_)
    have hw := hw s10 es10
    refine ts_goto 56 X dX1_add_40 (by decide) ?_
    exact hret _ _ _ hw dX1_add_56
set_option maxRecDepth 100000 in
set_option maxHeartbeats 4000000 in
theorem ct_X1_takeLastInto (l : Launch) (v : tX_V) (hi : ts_inj 151 (tX_ad v)) (K : ts_S → Prop) (σ : ts_S) (t1 : Nat) (ht1 : tX_T t1) (hw : wp_X1_takeLastInto K σ t1) : ts_Mv l yX1_takeLastInto (Cond.code yX1_takeLastInto cX1_takeLastInto 2 (none)) 2 (tX_w v) [.ref (tX_ad v 4), .ref (tX_ad v t1)] σ K := by
  refine ts_Mv.of_v (w := tX_w v) hi (by decide +kernel) (Nat.le_of_ble_eq_true rfl) ?_
  intro g hgl hgn X hret
  unfold wp_X1_takeLastInto at hw
  show ts_G g (tX_w v) 2 σ 0 [(0, .ref (tX_ad v 4)), (1, .ref (tX_ad v t1))] []
  refine ts_aload_n X dX1_takeLastInto_0 0 rfl ?_
  refine gf_X1_23 X dX1_takeLastInto_1 ?_
  refine ts_if_le 38 X dX1_takeLastInto_4 (by decide) (fun c => ?_) (fun c => ?_)
  · have hw := ts_itp hw c
    exact hret _ _ _ hw dX1_takeLastInto_38
  · have hw := ts_itn hw c
    refine ts_aload_n X dX1_takeLastInto_7 0 rfl ?_
    refine ts_dup X dX1_takeLastInto_8 rfl ?_
    refine gf_X1_23 X dX1_takeLastInto_9 ?_
    refine ts_iconst X dX1_takeLastInto_12 (v := 1) (by decide) ?_
    refine ts_isub X dX1_takeLastInto_13 ?_
    refine pf_X1_23 X dX1_takeLastInto_14 (fun s5 es5 => ?_)
    have hw := hw s5 es5
    refine ts_aload_n X dX1_takeLastInto_17 1 rfl ?_
    refine ts_aload_n X dX1_takeLastInto_18 0 rfl ?_
    refine gf_X1_13 X dX1_takeLastInto_19 ?_
    refine ts_aload_n X dX1_takeLastInto_22 0 rfl ?_
    refine gf_X1_19 X dX1_takeLastInto_23 ?_
    refine ts_aload_n X dX1_takeLastInto_26 0 rfl ?_
    refine gf_X1_23 X dX1_takeLastInto_27 ?_
    refine ts_iadd X dX1_takeLastInto_30 ?_
    refine ts_bipush X dX1_takeLastInto_31 (v := 8) (by decide) ?_
    refine ts_irem X dX1_takeLastInto_33 hw.1 ?_
    have hw := hw.2
    have hq6 := hw.1
    refine xa_ald5 X hq6 dX1_takeLastInto_34 ?_
    have hw := hw.2
    refine ts_callVv (w := tX_w v) X (k := t1) (ht1).lt (tX_eT ht1 _) rfl rfl (As := [.ref (tX_ad v (73 + 6 * (((s5 4 1) + (s5 4 2)) - ((s5 4 1) + (s5 4 2)) / 8 * 8).toNatClampNeg))]) (ct_X8_standAs g.2.1 v hi _ _ _ _ ht1 (tX_Tr hq6 ⟨7, rfl, by decide⟩) hw) ok_X8_standAs cw_X1_26 (ts_le hgn (by decide)) (by decide) rfl rfl (Nat.le_of_ble_eq_true rfl) dX1_takeLastInto_35 (fun s8 hw => ?_)
    exact hret _ _ _ hw dX1_takeLastInto_38
set_option maxRecDepth 100000 in
set_option maxHeartbeats 4000000 in
theorem ct_X7_takeIfBetter (l : Launch) (v : tX_V) (hi : ts_inj 151 (tX_ad v)) (K : ts_S → Prop) (σ : ts_S) (a1 : Int32)  (hw : wp_X7_takeIfBetter K σ a1) : ts_Mv l yX7_takeIfBetter (Cond.code yX7_takeIfBetter cX7_takeIfBetter 2 (none)) 1 (tX_w v) [.ref (tX_ad v 16), .int a1] σ K := by
  refine ts_Mv.of_v (w := tX_w v) hi (by decide +kernel) (Nat.le_of_ble_eq_true rfl) ?_
  intro g hgl hgn X hret
  unfold wp_X7_takeIfBetter at hw
  show ts_G g (tX_w v) 2 σ 0 [(0, .ref (tX_ad v 16)), (1, .int a1)] []
  refine ts_iload_n X dX7_takeIfBetter_0 1 rfl ?_
  refine ts_aload_n X dX7_takeIfBetter_1 0 rfl ?_
  refine gf_X7_36 X dX7_takeIfBetter_2 ?_
  refine ts_icmp_le 27 X dX7_takeIfBetter_5 (by decide) (fun c => ?_) (fun c => ?_)
  · have hw := ts_itp hw c
    exact hret _ _ _ hw dX7_takeIfBetter_27
  · have hw := ts_itn hw c
    refine ts_aload_n X dX7_takeIfBetter_8 0 rfl ?_
    refine ts_iload_n X dX7_takeIfBetter_9 1 rfl ?_
    refine pf_X7_36 X dX7_takeIfBetter_10 (fun s3 es3 => ?_)
    have hw := hw s3 es3
    refine ts_aload_n X dX7_takeIfBetter_13 0 rfl ?_
    refine gf_X7_9 X dX7_takeIfBetter_14 ?_
    refine ts_iconst X dX7_takeIfBetter_17 (v := 0) (by decide) ?_
    refine ts_aload_n X dX7_takeIfBetter_18 0 rfl ?_
    refine gf_X7_15 X dX7_takeIfBetter_19 ?_
    refine ts_iconst X dX7_takeIfBetter_22 (v := 0) (by decide) ?_
    refine ts_iconst X dX7_takeIfBetter_23 (v := 4) (by decide) ?_
    refine xcp_I X kw_735 kw_451 kw_450 kw_74 tX_c18 tX_c19 (m := 4) (by decide) (by decide) (by decide) (by decide) (ts_le hgn (by decide)) (Nat.le_of_ble_eq_true rfl) dX7_takeIfBetter_24 (fun s4 es4 => ?_)
    have hw := hw s4 es4
    exact hret _ _ _ hw dX7_takeIfBetter_27
set_option maxRecDepth 100000 in
set_option maxHeartbeats 4000000 in
theorem ct_X7_choose (l : Launch) (v : tX_V) (hi : ts_inj 151 (tX_ad v)) (F : (ts_S → Prop) → ts_S → Int32 → Prop) (nF : Nat) (hnF : 12 ≤ nF) (hF : ∀ (K : ts_S → Prop) (σ : ts_S) (a1 : Int32) , F K σ a1 → ts_Mv l yX7_chooseFrom (Cond.code yX7_chooseFrom cX7_chooseFrom 4 (none)) nF (tX_w v) [.ref (tX_ad v 16), .int a1] σ K) (K : ts_S → Prop) (σ : ts_S) (a1 : Int32) (a2 : Int32)  (hw : wp_X7_choose F K σ a1 a2) : ts_Mv l yX7_choose (Cond.code yX7_choose cX7_choose 4 (none)) (nF + 1) (tX_w v) [.ref (tX_ad v 16), .int a1, .int a2] σ K := by
  refine ts_Mv.of_v (w := tX_w v) hi (by decide +kernel) (Nat.le_of_ble_eq_true rfl) ?_
  intro g hgl hgn X hret
  subst hgl
  have J28 : ∀ (hr0 : tX_T (121 + 6 * (a1 + 1).toNatClampNeg)) (σ : ts_S), wp_X7_choose_j28 F K a1 a2 σ  → ts_G g (tX_w v) 4 σ 28 [(0, .ref (tX_ad v 16)), (1, .int a1), (2, .int a2), (3, .ref (tX_ad v (121 + 6 * (a1 + 1).toNatClampNeg)))] [] := by
    intro hr0 σ  hw
    unfold wp_X7_choose_j28 at hw
    refine ts_aload_n X dX7_choose_28 3 rfl ?_
    refine ts_callVv (w := tX_w v) X (k := (121 + 6 * (a1 + 1).toNatClampNeg)) (hr0).lt (tX_eT hr0 _) rfl rfl (As := []) (ct_X8_goYear g.2.1 v hi _ _ _ hr0 hw) ok_X8_goYear cw_X7_79 (ts_le hgn (by omega)) (by decide) rfl rfl (Nat.le_of_ble_eq_true rfl) dX7_choose_29 (fun s13 hw => ?_)
    refine ts_aload_n X dX7_choose_32 0 rfl ?_
    refine gf_X7_9 X dX7_choose_33 ?_
    refine ts_iload_n X dX7_choose_36 1 rfl ?_
    refine ts_iload_n X dX7_choose_37 2 rfl ?_
    refine xi_ast X tX_c18 hw.1 dX7_choose_38 (fun s14 es14 => ?_)
    have hw := hw.2 s14 es14
    refine ts_aload_n X dX7_choose_39 0 rfl ?_
    refine ts_iload_n X dX7_choose_40 1 rfl ?_
    refine ts_iconst X dX7_choose_41 (v := 1) (by decide) ?_
    refine ts_iadd X dX7_choose_42 ?_
    refine ts_callVv (w := tX_w v) X (k := 16) (by decide : 16 < 151) rfl rfl rfl (As := [.int (a1 + 1)]) (hF _ _ _ hw) ok_X7_chooseFrom cw_X7_45 (ts_le hgn (by omega)) (by decide) rfl rfl (Nat.le_of_ble_eq_true rfl) dX7_choose_43 (fun s16 hw => ?_)
    exact hret _ _ _ hw dX7_choose_46
  unfold wp_X7_choose at hw
  show ts_G g (tX_w v) 4 σ 0 [(0, .ref (tX_ad v 16)), (1, .int a1), (2, .int a2)] []
  refine ts_aload_n X dX7_choose_0 0 rfl ?_
  refine gf_X7_22 X dX7_choose_1 ?_
  refine ts_iload_n X dX7_choose_4 1 rfl ?_
  refine ts_iconst X dX7_choose_5 (v := 1) (by decide) ?_
  refine ts_iadd X dX7_choose_6 ?_
  have hq17 := hw.1
  refine xa_ald17 X hq17 dX7_choose_7 ?_
  have hw := hw.2
  refine ts_astore_n X dX7_choose_8 (by decide) (lv' := [(3, .ref (tX_ad v (121 + 6 * (a1 + 1).toNatClampNeg))), (0, .ref (tX_ad v 16)), (1, .int a1), (2, .int a2)]) rfl ?_
  refine ts_aload_n X dX7_choose_9 0 rfl ?_
  refine ts_aload_n X dX7_choose_10 1 rfl ?_
  refine gf_X7_22 X dX7_choose_11 ?_
  refine ts_iload_n X dX7_choose_14 2 rfl ?_
  have hq18 := hw.1
  refine xa_ald17 X hq18 dX7_choose_15 ?_
  have hw := hw.2
  refine ts_callVv (w := tX_w v) X (k := (121 + 6 * (a1 + 1).toNatClampNeg)) ((tX_Tr hq17 ⟨15, rfl, by decide⟩)).lt (tX_eT (tX_Tr hq17 ⟨15, rfl, by decide⟩) _) rfl rfl (As := [.ref (tX_ad v (121 + 6 * a1.toNatClampNeg))]) (ct_X8_standAs g.2.1 v hi _ _ _ _ (tX_Tr hq17 ⟨15, rfl, by decide⟩) (tX_Tr hq18 ⟨15, rfl, by decide⟩) hw) ok_X8_standAs cw_X7_39 (ts_le hgn (by omega)) (by decide) rfl rfl (Nat.le_of_ble_eq_true rfl) dX7_choose_16 (fun s20 hw => ?_)
  refine ts_iload_n X dX7_choose_19 3 rfl ?_
  refine ts_if_lt 28 X dX7_choose_20 (by decide) (fun c => ?_) (fun c => ?_)
  · have hw := ts_itp hw c
    exact ts_sub [1, 2, 3, 0] rfl (J28 (tX_Tr hq17 ⟨15, rfl, by decide⟩) _  hw)
  · have hw := ts_itn hw c
    refine ts_aload_n X dX7_choose_23 0 rfl ?_
    refine ts_iload_n X dX7_choose_24 3 rfl ?_
    refine ts_callVv (w := tX_w v) X (k := (121 + 6 * (a1 + 1).toNatClampNeg)) ((tX_Tr hq17 ⟨15, rfl, by decide⟩)).lt (tX_eT (tX_Tr hq17 ⟨15, rfl, by decide⟩) _) rfl rfl (As := [.int a2]) (ct_X8_goDown g.2.1 v hi _ _ _ _ (tX_Tr hq17 ⟨15, rfl, by decide⟩) hw) ok_X8_goDown cw_X7_76 (ts_le hgn (by omega)) (by decide) rfl rfl (Nat.le_of_ble_eq_true rfl) dX7_choose_25 (fun s22 hw => ?_)
    exact ts_sub [1, 2, 3, 0] rfl (J28 (tX_Tr hq17 ⟨15, rfl, by decide⟩) _  hw)
set_option maxRecDepth 100000 in
set_option maxHeartbeats 4000000 in
theorem ct_X7_chooseFrom_0 (l : Launch) (v : tX_V) (hi : ts_inj 151 (tX_ad v)) (F : (ts_S → Prop) → ts_S → Int32 → Prop) (nF : Nat) (hnF : 12 ≤ nF) (hF : ∀ (K : ts_S → Prop) (σ : ts_S) (a1 : Int32) , F K σ a1 → ts_Mv l yX7_chooseFrom (Cond.code yX7_chooseFrom cX7_chooseFrom 4 (none)) nF (tX_w v) [.ref (tX_ad v 16), .int a1] σ K) (K : ts_S → Prop) (σ : ts_S) (a1 : Int32)  (hw : wp_X7_chooseFrom_0 F K σ a1) : ts_Mv l yX7_chooseFrom (Cond.code yX7_chooseFrom cX7_chooseFrom 4 (none)) (nF + 2) (tX_w v) [.ref (tX_ad v 16), .int a1] σ K := by
  refine ts_Mv.of_v (w := tX_w v) hi (by decide +kernel) (Nat.le_of_ble_eq_true rfl) ?_
  intro g hgl hgn X hret
  subst hgl
  have J33 : ∀ (hr0 : tX_T (121 + 6 * a1.toNatClampNeg)) (σ : ts_S) (x3 : Int32), wp_X7_chooseFrom_0_l33 F K a1 σ x3 → ts_G g (tX_w v) 4 σ 33 [(0, .ref (tX_ad v 16)), (1, .int a1), (2, .ref (tX_ad v (121 + 6 * a1.toNatClampNeg))), (3, .int x3)] [] := by
    intro hr0 σ x3 hw
    have key : ∀ X33 : ts_S → Int32 → Prop, (∀ (σ : ts_S) (x3 : Int32), X33 σ x3 → ts_G g (tX_w v) 4 σ 33 [(0, .ref (tX_ad v 16)), (1, .int a1), (2, .ref (tX_ad v (121 + 6 * a1.toNatClampNeg))), (3, .int x3)] []) → ∀ (σ : ts_S) (x3 : Int32), wp_X7_chooseFrom_0_b33 F K X33 a1  σ x3 → ts_G g (tX_w v) 4 σ 33 [(0, .ref (tX_ad v 16)), (1, .int a1), (2, .ref (tX_ad v (121 + 6 * a1.toNatClampNeg))), (3, .int x3)] [] := by
      intro X33 hX33
      intro σ x3 hw
      unfold wp_X7_chooseFrom_0_b33 at hw
      refine ts_iload_n X dX7_chooseFrom_33 3 rfl ?_
      refine ts_aload_n X dX7_chooseFrom_34 2 rfl ?_
      refine gf_X7_60 X hr0 (q := tX_pl (121 + 6 * a1.toNatClampNeg)) rfl dX7_chooseFrom_35 ?_
      refine gf_X7_64 X (tX_Lp (121 + 6 * a1.toNatClampNeg)) dX7_chooseFrom_38 ?_
      refine ts_icmp_ge 78 X dX7_chooseFrom_41 (by decide) (fun c => ?_) (fun c => ?_)
      · have hw := ts_itp hw c
        exact hret _ _ _ hw dX7_chooseFrom_78
      · have hw := ts_itn hw c
        refine ts_aload_n X dX7_chooseFrom_44 0 rfl ?_
        refine gf_X7_36 X dX7_chooseFrom_45 ?_
        refine ts_aload_n X dX7_chooseFrom_48 2 rfl ?_
        refine gf_X7_60 X hr0 (q := tX_pl (121 + 6 * a1.toNatClampNeg)) rfl dX7_chooseFrom_49 ?_
        refine gf_X7_69 X (tX_Lp (121 + 6 * a1.toNatClampNeg)) dX7_chooseFrom_52 ?_
        refine ts_icmp_ge 78 X dX7_chooseFrom_55 (by decide) (fun c => ?_) (fun c => ?_)
        · have hw := ts_itp hw c
          exact hret _ _ _ hw dX7_chooseFrom_78
        · have hw := ts_itn hw c
          refine ts_aload_n X dX7_chooseFrom_58 2 rfl ?_
          refine ts_iload_n X dX7_chooseFrom_59 3 rfl ?_
          refine ts_callVi (w := tX_w v) X (k := (121 + 6 * a1.toNatClampNeg)) (hr0).lt (tX_eT hr0 _) rfl rfl (As := [.int x3]) (ct_X8_mayGoDown g.2.1 v hi _ _ _ _ hr0 hw) ok_X8_mayGoDown cw_X7_72 (ts_le hgn (by omega)) (by decide) rfl rfl (Nat.le_of_ble_eq_true rfl) dX7_chooseFrom_60 (fun r12 s13 hw => ?_)
          refine ts_if_eq 72 X dX7_chooseFrom_63 (by decide) (fun c => ?_) (fun c => ?_)
          · have hw := ts_itp hw c
            refine ts_iinc X dX7_chooseFrom_72 3 rfl (v := x3 + 1) rfl (by decide) (lv' := [(3, .int (x3 + 1)), (0, .ref (tX_ad v 16)), (1, .int a1), (2, .ref (tX_ad v (121 + 6 * a1.toNatClampNeg)))]) rfl ?_
            refine ts_goto 33 X dX7_chooseFrom_75 (by decide) ?_
            exact ts_sub [1, 2, 3, 0] rfl (hX33 _ _ hw)
          · have hw := ts_itn hw c
            refine ts_aload_n X dX7_chooseFrom_66 0 rfl ?_
            refine ts_iload_n X dX7_chooseFrom_67 1 rfl ?_
            refine ts_iload_n X dX7_chooseFrom_68 3 rfl ?_
            refine ts_callVv (w := tX_w v) X (k := 16) (by decide : 16 < 151) rfl rfl rfl (As := [.int a1, .int x3]) (ct_X7_choose g.2.1 v hi F nF hnF hF _ _ _ _ hw) ok_X7_choose cw_X7_56 (ts_le hgn (by omega)) (by decide) rfl rfl (Nat.le_of_ble_eq_true rfl) dX7_chooseFrom_69 (fun s15 hw => ?_)
            refine ts_iinc X dX7_chooseFrom_72 3 rfl (v := x3 + 1) rfl (by decide) (lv' := [(3, .int (x3 + 1)), (0, .ref (tX_ad v 16)), (1, .int a1), (2, .ref (tX_ad v (121 + 6 * a1.toNatClampNeg)))]) rfl ?_
            refine ts_goto 33 X dX7_chooseFrom_75 (by decide) ?_
            exact ts_sub [1, 2, 3, 0] rfl (hX33 _ _ hw)
    exact hw _ (fun σ x3 h => key _ (fun _ _ h => h) σ x3 h)
  unfold wp_X7_chooseFrom_0 at hw
  show ts_G g (tX_w v) 4 σ 0 [(0, .ref (tX_ad v 16)), (1, .int a1)] []
  refine ts_aload_n X dX7_chooseFrom_0 0 rfl ?_
  refine gf_X7_22 X dX7_chooseFrom_1 ?_
  refine ts_iload_n X dX7_chooseFrom_4 1 rfl ?_
  have hq16 := hw.1
  refine xa_ald17 X hq16 dX7_chooseFrom_5 ?_
  have hw := hw.2
  refine ts_astore_n X dX7_chooseFrom_6 (by decide) (lv' := [(2, .ref (tX_ad v (121 + 6 * a1.toNatClampNeg))), (0, .ref (tX_ad v 16)), (1, .int a1)]) rfl ?_
  refine ts_iload_n X dX7_chooseFrom_7 2 rfl ?_
  refine ts_aload_n X dX7_chooseFrom_8 1 rfl ?_
  refine gf_X7_32 X dX7_chooseFrom_9 ?_
  refine ts_icmp_lt 24 X dX7_chooseFrom_12 (by decide) (fun c => ?_) (fun c => ?_)
  · have hw := ts_itp hw c
    refine ts_aload_n X dX7_chooseFrom_24 1 rfl ?_
    refine ts_iload_n X dX7_chooseFrom_25 2 rfl ?_
    refine ts_bipush X dX7_chooseFrom_26 (v := (-4)) (by decide) ?_
    refine ts_callVv (w := tX_w v) X (k := 16) (by decide : 16 < 151) rfl rfl rfl (As := [.int a1, .int (-4)]) (ct_X7_choose g.2.1 v hi F nF hnF hF _ _ _ _ hw) ok_X7_choose cw_X7_56 (ts_le hgn (by omega)) (by decide) rfl rfl (Nat.le_of_ble_eq_true rfl) dX7_chooseFrom_28 (fun s18 hw => ?_)
    refine ts_iconst X dX7_chooseFrom_31 (v := 0) (by decide) ?_
    refine ts_istore_n X dX7_chooseFrom_32 (by decide) (lv' := [(3, .int 0), (2, .ref (tX_ad v (121 + 6 * a1.toNatClampNeg))), (0, .ref (tX_ad v 16)), (1, .int a1)]) rfl ?_
    exact ts_sub [2, 3, 1, 0] rfl (J33 (tX_Tr hq16 ⟨15, rfl, by decide⟩) _ _ hw)
  · have hw := ts_itn hw c
    refine ts_aload_n X dX7_chooseFrom_15 1 rfl ?_
    refine ts_aload_n X dX7_chooseFrom_16 0 rfl ?_
    refine ts_callVi (w := tX_w v) X (k := (121 + 6 * a1.toNatClampNeg)) ((tX_Tr hq16 ⟨15, rfl, by decide⟩)).lt (tX_eT (tX_Tr hq16 ⟨15, rfl, by decide⟩) _) rfl rfl (As := []) (ct_X8_doneMany g.2.1 v hi _ _ _ (tX_Tr hq16 ⟨15, rfl, by decide⟩) hw) ok_X8_doneMany cw_X7_49 (ts_le hgn (by omega)) (by decide) rfl rfl (Nat.le_of_ble_eq_true rfl) dX7_chooseFrom_17 (fun r19 s20 hw => ?_)
    refine ts_callVv (w := tX_w v) X (k := 16) (by decide : 16 < 151) rfl rfl rfl (As := [.int r19]) (ct_X7_takeIfBetter g.2.1 v hi _ _ _ hw) ok_X7_takeIfBetter cw_X7_53 (ts_le hgn (by omega)) (by decide) rfl rfl (Nat.le_of_ble_eq_true rfl) dX7_chooseFrom_20 (fun s22 hw => ?_)
    exact hret _ _ _ hw dX7_chooseFrom_23
theorem ct_X7_chooseFrom (l : Launch) (v : tX_V) (hi : ts_inj 151 (tX_ad v)) : ∀ (d : Nat) (K : ts_S → Prop) (σ : ts_S) (a1 : Int32) (hw : wp_X7_chooseFrom d K σ a1), ts_Mv l yX7_chooseFrom (Cond.code yX7_chooseFrom cX7_chooseFrom 4 none) (12 + 2 * d) (tX_w v) [.ref (tX_ad v 16), .int a1] σ K
  | 0, _, _, _, hw => absurd hw id
  | d + 1, K, σ, a1, hw => ct_X7_chooseFrom_0 l v hi (wp_X7_chooseFrom d) (12 + 2 * d) (by omega) (fun K σ a1 hw => ct_X7_chooseFrom l v hi d K σ a1 hw) K σ a1 hw
set_option maxRecDepth 100000 in
set_option maxHeartbeats 4000000 in
theorem ct_X7_search (l : Launch) (v : tX_V) (hi : ts_inj 151 (tX_ad v)) (K : ts_S → Prop) (σ : ts_S) (t1 : Nat) (a2 : Int32) (ht1 : tX_T t1) (hw : wp_X7_search K σ t1 a2) : ts_Mv l yX7_search (Cond.code yX7_search cX7_search 3 (none)) 29 (tX_w v) [.ref (tX_ad v 16), .ref (tX_ad v t1), .int a2] σ K := by
  refine ts_Mv.of_v (w := tX_w v) hi (by decide +kernel) (Nat.le_of_ble_eq_true rfl) ?_
  intro g hgl hgn X hret
  unfold wp_X7_search at hw
  show ts_G g (tX_w v) 3 σ 0 [(0, .ref (tX_ad v 16)), (1, .ref (tX_ad v t1)), (2, .int a2)] []
  refine ts_aload_n X dX7_search_0 0 rfl ?_
  refine ts_iload_n X dX7_search_1 2 rfl ?_
  refine ts_iconst X dX7_search_2 (v := 4) (by decide) ?_
  refine ts_mmin X kw_719 kw_602 kw_64 kw_603 (ts_le hgn (by decide)) (Nat.le_of_ble_eq_true rfl) dX7_search_3 ?_
  refine pf_X7_32 X dX7_search_6 (fun s8 es8 => ?_)
  have hw := hw s8 es8
  refine ts_aload_n X dX7_search_9 0 rfl ?_
  refine ts_iconst X dX7_search_10 (v := (-1)) (by decide) ?_
  refine pf_X7_36 X dX7_search_11 (fun s9 es9 => ?_)
  have hw := hw s9 es9
  refine ts_aload_n X dX7_search_14 0 rfl ?_
  refine gf_X7_22 X dX7_search_15 ?_
  refine ts_iconst X dX7_search_18 (v := 0) (by decide) ?_
  have hq10 := hw.1
  refine xa_ald17 X hq10 dX7_search_19 ?_
  have hw := hw.2
  refine ts_aload_n X dX7_search_20 1 rfl ?_
  refine ts_callVv (w := tX_w v) X (k := (121 + 6 * (0 : Int32).toNatClampNeg)) ((tX_Tr hq10 ⟨15, rfl, by decide⟩)).lt (tX_eT (tX_Tr hq10 ⟨15, rfl, by decide⟩) _) rfl rfl (As := [.ref (tX_ad v t1)]) (ct_X8_standAs g.2.1 v hi _ _ _ _ (tX_Tr hq10 ⟨15, rfl, by decide⟩) ht1 hw) ok_X8_standAs cw_X7_39 (ts_le hgn (by decide)) (by decide) rfl rfl (Nat.le_of_ble_eq_true rfl) dX7_search_21 (fun s12 hw => ?_)
  refine ts_aload_n X dX7_search_24 0 rfl ?_
  refine ts_iconst X dX7_search_25 (v := 0) (by decide) ?_
  refine ts_callVv (w := tX_w v) X (k := 16) (by decide : 16 < 151) rfl rfl rfl (As := [.int 0]) (ct_X7_chooseFrom g.2.1 v hi 8 _ _ _ hw) ok_X7_chooseFrom cw_X7_45 (ts_le hgn (by decide)) (by decide) rfl rfl (Nat.le_of_ble_eq_true rfl) dX7_search_26 (fun s14 hw => ?_)
  exact hret _ _ _ hw dX7_search_29
set_option maxRecDepth 100000 in
set_option maxHeartbeats 4000000 in
theorem ct_X5_changePlaces (l : Launch) (v : tX_V) (hi : ts_inj 151 (tX_ad v)) (K : ts_S → Prop) (σ : ts_S) (a1 : Int32) (a2 : Int32)  (hw : wp_X5_changePlaces K σ a1 a2) : ts_Mv l yX5_changePlaces (Cond.code yX5_changePlaces cX5_changePlaces 4 (none)) 1 (tX_w v) [.ref (tX_ad v 20), .int a1, .int a2] σ K := by
  refine ts_Mv.of_v (w := tX_w v) hi (by decide +kernel) (Nat.le_of_ble_eq_true rfl) ?_
  intro g hgl hgn X hret
  unfold wp_X5_changePlaces at hw
  show ts_G g (tX_w v) 4 σ 0 [(0, .ref (tX_ad v 20)), (1, .int a1), (2, .int a2)] []
  refine ts_aload_n X dX5_changePlaces_0 0 rfl ?_
  refine gf_X5_7 X dX5_changePlaces_1 ?_
  refine gf_X5_36 X (tX_Tc 4 (by decide) rfl) (q := 56) rfl dX5_changePlaces_4 ?_
  refine ts_iload_n X dX5_changePlaces_7 1 rfl ?_
  refine xi_ald X (tX_a1 (tX_Tc 4 (by decide) rfl) rfl) hw.1 dX5_changePlaces_8 ?_
  have hw := hw.2
  refine ts_istore_n X dX5_changePlaces_9 (by decide) (lv' := [(3, .int (σ 56 a1.toNatClampNeg)), (0, .ref (tX_ad v 20)), (1, .int a1), (2, .int a2)]) rfl ?_
  refine ts_aload_n X dX5_changePlaces_10 1 rfl ?_
  refine gf_X5_7 X dX5_changePlaces_11 ?_
  refine gf_X5_36 X (tX_Tc 4 (by decide) rfl) (q := 56) rfl dX5_changePlaces_14 ?_
  refine ts_iload_n X dX5_changePlaces_17 2 rfl ?_
  refine ts_aload_n X dX5_changePlaces_18 1 rfl ?_
  refine gf_X5_7 X dX5_changePlaces_19 ?_
  refine gf_X5_36 X (tX_Tc 4 (by decide) rfl) (q := 56) rfl dX5_changePlaces_22 ?_
  refine ts_iload_n X dX5_changePlaces_25 3 rfl ?_
  refine xi_ald X (tX_a1 (tX_Tc 4 (by decide) rfl) rfl) hw.1 dX5_changePlaces_26 ?_
  have hw := hw.2
  refine xi_ast X (tX_a1 (tX_Tc 4 (by decide) rfl) rfl) hw.1 dX5_changePlaces_27 (fun s3 es3 => ?_)
  have hw := hw.2 s3 es3
  refine ts_aload_n X dX5_changePlaces_28 1 rfl ?_
  refine gf_X5_7 X dX5_changePlaces_29 ?_
  refine gf_X5_36 X (tX_Tc 4 (by decide) rfl) (q := 56) rfl dX5_changePlaces_32 ?_
  refine ts_iload_n X dX5_changePlaces_35 3 rfl ?_
  refine ts_iload_n X dX5_changePlaces_36 0 rfl ?_
  refine xi_ast X (tX_a1 (tX_Tc 4 (by decide) rfl) rfl) hw.1 dX5_changePlaces_37 (fun s4 es4 => ?_)
  have hw := hw.2 s4 es4
  exact hret _ _ _ hw dX5_changePlaces_38
set_option maxRecDepth 100000 in
set_option maxHeartbeats 4000000 in
theorem ct_X5_takeIfBetter (l : Launch) (v : tX_V) (hi : ts_inj 151 (tX_ad v)) (K : ts_S → Prop) (σ : ts_S) (a1 : Int32) (a2 : Int32)  (hw : wp_X5_takeIfBetter K σ a1 a2) : ts_Mv l yX5_takeIfBetter (Cond.code yX5_takeIfBetter cX5_takeIfBetter 4 (none)) 6 (tX_w v) [.ref (tX_ad v 20), .int a1, .int a2] σ K := by
  refine ts_Mv.of_v (w := tX_w v) hi (by decide +kernel) (Nat.le_of_ble_eq_true rfl) ?_
  intro g hgl hgn X hret
  unfold wp_X5_takeIfBetter at hw
  show ts_G g (tX_w v) 4 σ 0 [(0, .ref (tX_ad v 20)), (1, .int a1), (2, .int a2)] []
  refine ts_aload_n X dX5_takeIfBetter_0 0 rfl ?_
  refine ts_iload_n X dX5_takeIfBetter_1 1 rfl ?_
  refine ts_iload_n X dX5_takeIfBetter_2 2 rfl ?_
  refine ts_callVv (w := tX_w v) X (k := 20) (by decide : 20 < 151) rfl rfl rfl (As := [.int a1, .int a2]) (ct_X5_changePlaces g.2.1 v hi _ _ _ _ hw) ok_X5_changePlaces cw_X5_44 (ts_le hgn (by decide)) (by decide) rfl rfl (Nat.le_of_ble_eq_true rfl) dX5_takeIfBetter_3 (fun s10 hw => ?_)
  refine ts_aload_n X dX5_takeIfBetter_6 0 rfl ?_
  refine gf_X5_7 X dX5_takeIfBetter_7 ?_
  refine ts_callVi (w := tX_w v) X (k := 55) ((tX_Tc 4 (by decide) rfl)).lt (tX_eT (tX_Tc 4 (by decide) rfl) _) rfl rfl (As := []) (ct_X8_doneMany g.2.1 v hi _ _ _ (tX_Tc 4 (by decide) rfl) hw) ok_X8_doneMany cw_X5_47 (ts_le hgn (by decide)) (by decide) rfl rfl (Nat.le_of_ble_eq_true rfl) dX5_takeIfBetter_10 (fun r11 s12 hw => ?_)
  refine ts_istore_n X dX5_takeIfBetter_13 (by decide) (lv' := [(3, .int r11), (0, .ref (tX_ad v 20)), (1, .int a1), (2, .int a2)]) rfl ?_
  refine ts_aload_n X dX5_takeIfBetter_14 1 rfl ?_
  refine ts_iload_n X dX5_takeIfBetter_15 2 rfl ?_
  refine ts_iload_n X dX5_takeIfBetter_16 3 rfl ?_
  refine ts_callVv (w := tX_w v) X (k := 20) (by decide : 20 < 151) rfl rfl rfl (As := [.int a1, .int a2]) (ct_X5_changePlaces g.2.1 v hi _ _ _ _ hw) ok_X5_changePlaces cw_X5_44 (ts_le hgn (by decide)) (by decide) rfl rfl (Nat.le_of_ble_eq_true rfl) dX5_takeIfBetter_17 (fun s14 hw => ?_)
  refine ts_iload_n X dX5_takeIfBetter_20 0 rfl ?_
  refine ts_aload_n X dX5_takeIfBetter_21 1 rfl ?_
  refine gf_X5_13 X dX5_takeIfBetter_22 ?_
  refine ts_icmp_le 43 X dX5_takeIfBetter_25 (by decide) (fun c => ?_) (fun c => ?_)
  · have hw := ts_itp hw c
    exact hret _ _ _ hw dX5_takeIfBetter_43
  · have hw := ts_itn hw c
    refine ts_aload_n X dX5_takeIfBetter_28 1 rfl ?_
    refine ts_iload_n X dX5_takeIfBetter_29 0 rfl ?_
    refine pf_X5_13 X dX5_takeIfBetter_30 (fun s15 es15 => ?_)
    have hw := hw s15 es15
    refine ts_aload_n X dX5_takeIfBetter_33 1 rfl ?_
    refine ts_bipush X dX5_takeIfBetter_34 (v := 10) (by decide) ?_
    refine ts_iload_n X dX5_takeIfBetter_36 2 rfl ?_
    refine ts_imul X dX5_takeIfBetter_37 ?_
    refine ts_iload_n X dX5_takeIfBetter_38 3 rfl ?_
    refine ts_iadd X dX5_takeIfBetter_39 ?_
    refine pf_X5_51 X dX5_takeIfBetter_40 (fun s16 es16 => ?_)
    have hw := hw s16 es16
    exact hret _ _ _ hw dX5_takeIfBetter_43
set_option maxRecDepth 100000 in
set_option maxHeartbeats 4000000 in
theorem ct_X5_search (l : Launch) (v : tX_V) (hi : ts_inj 151 (tX_ad v)) (K : ts_S → Prop) (σ : ts_S) (t1 : Nat) (ht1 : tX_T t1) (hw : wp_X5_search K σ t1) : ts_Mv l yX5_search (Cond.code yX5_search cX5_search 4 (none)) 7 (tX_w v) [.ref (tX_ad v 20), .ref (tX_ad v t1)] σ K := by
  refine ts_Mv.of_v (w := tX_w v) hi (by decide +kernel) (Nat.le_of_ble_eq_true rfl) ?_
  intro g hgl hgn X hret
  have J15 : ∀ (σ : ts_S) (x2 : Int32), wp_X5_search_l15 K t1 σ x2 → ts_G g (tX_w v) 4 σ 15 [(0, .ref (tX_ad v 20)), (2, .int x2)] [] := by
    intro  σ x2 hw
    have key : ∀ X15 : ts_S → Int32 → Prop, (∀ (σ : ts_S) (x2 : Int32), X15 σ x2 → ts_G g (tX_w v) 4 σ 15 [(0, .ref (tX_ad v 20)), (2, .int x2)] []) → ∀ (σ : ts_S) (x2 : Int32), wp_X5_search_b15 K X15 t1  σ x2 → ts_G g (tX_w v) 4 σ 15 [(0, .ref (tX_ad v 20)), (2, .int x2)] [] := by
      intro X15 hX15
      have J33 : ∀ (σ : ts_S) (x2 : Int32) (x3 : Int32), wp_X5_search_l33 K X15 t1 σ x2 x3 → ts_G g (tX_w v) 4 σ 33 [(0, .ref (tX_ad v 20)), (2, .int x2), (3, .int x3)] [] := by
        intro  σ x2 x3 hw
        have key : ∀ X33 : ts_S → Int32 → Prop, (∀ (σ : ts_S) (x3 : Int32), X33 σ x3 → ts_G g (tX_w v) 4 σ 33 [(0, .ref (tX_ad v 20)), (2, .int x2), (3, .int x3)] []) → ∀ (σ : ts_S) (x3 : Int32), wp_X5_search_b33 K X15 X33 t1 x2 σ x3 → ts_G g (tX_w v) 4 σ 33 [(0, .ref (tX_ad v 20)), (2, .int x2), (3, .int x3)] [] := by
          intro X33 hX33
          intro σ x3 hw
          unfold wp_X5_search_b33 at hw
          refine ts_iload_n X dX5_search_33 2 rfl ?_
          refine ts_aload_n X dX5_search_34 0 rfl ?_
          refine gf_X5_7 X dX5_search_35 ?_
          refine gf_X5_23 X (tX_Tc 4 (by decide) rfl) (q := 23) rfl dX5_search_38 ?_
          refine gf_X5_27 X (tX_Lp 55) dX5_search_41 ?_
          refine ts_icmp_ge 104 X dX5_search_44 (by decide) (fun c => ?_) (fun c => ?_)
          · have hw := ts_itp hw c
            refine ts_iinc X dX5_search_104 1 rfl (v := x2 + 1) rfl (by decide) (lv' := [(2, .int (x2 + 1)), (0, .ref (tX_ad v 20)), (3, .int x3)]) rfl ?_
            refine ts_goto 15 X dX5_search_107 (by decide) ?_
            exact ts_sub [1, 0] rfl (hX15 _ _ hw)
          · have hw := ts_itn hw c
            refine ts_aload_n X dX5_search_47 0 rfl ?_
            refine gf_X5_7 X dX5_search_48 ?_
            refine gf_X5_32 X (tX_Tc 4 (by decide) rfl) (q := 59) rfl dX5_search_51 ?_
            refine ts_iload_n X dX5_search_54 1 rfl ?_
            refine xz_ald X (tX_a4 (tX_Tc 4 (by decide) rfl) rfl) hw.1 dX5_search_55 ?_
            have hw := hw.2
            refine ts_if_ne 98 X dX5_search_56 (by decide) (fun c => ?_) (fun c => ?_)
            · have hw := ts_itn hw c
              refine ts_iinc X dX5_search_98 2 rfl (v := x3 + 1) rfl (by decide) (lv' := [(3, .int (x3 + 1)), (0, .ref (tX_ad v 20)), (2, .int x2)]) rfl ?_
              refine ts_goto 33 X dX5_search_101 (by decide) ?_
              exact ts_sub [1, 2, 0] rfl (hX33 _ _ hw)
            · have hw := ts_itp hw c
              refine ts_aload_n X dX5_search_59 0 rfl ?_
              refine gf_X5_7 X dX5_search_60 ?_
              refine gf_X5_32 X (tX_Tc 4 (by decide) rfl) (q := 59) rfl dX5_search_63 ?_
              refine ts_iload_n X dX5_search_66 2 rfl ?_
              refine xz_ald X (tX_a4 (tX_Tc 4 (by decide) rfl) rfl) hw.1 dX5_search_67 ?_
              have hw := hw.2
              refine ts_if_ne 98 X dX5_search_68 (by decide) (fun c => ?_) (fun c => ?_)
              · have hw := ts_itn hw c
                refine ts_iinc X dX5_search_98 2 rfl (v := x3 + 1) rfl (by decide) (lv' := [(3, .int (x3 + 1)), (0, .ref (tX_ad v 20)), (2, .int x2)]) rfl ?_
                refine ts_goto 33 X dX5_search_101 (by decide) ?_
                exact ts_sub [1, 2, 0] rfl (hX33 _ _ hw)
              · have hw := ts_itp hw c
                refine ts_aload_n X dX5_search_71 0 rfl ?_
                refine gf_X5_7 X dX5_search_72 ?_
                refine gf_X5_36 X (tX_Tc 4 (by decide) rfl) (q := 56) rfl dX5_search_75 ?_
                refine ts_iload_n X dX5_search_78 1 rfl ?_
                refine xi_ald X (tX_a1 (tX_Tc 4 (by decide) rfl) rfl) hw.1 dX5_search_79 ?_
                have hw := hw.2
                refine ts_aload_n X dX5_search_80 0 rfl ?_
                refine gf_X5_7 X dX5_search_81 ?_
                refine gf_X5_36 X (tX_Tc 4 (by decide) rfl) (q := 56) rfl dX5_search_84 ?_
                refine ts_iload_n X dX5_search_87 2 rfl ?_
                refine xi_ald X (tX_a1 (tX_Tc 4 (by decide) rfl) rfl) hw.1 dX5_search_88 ?_
                have hw := hw.2
                refine ts_icmp_eq 98 X dX5_search_89 (by decide) (fun c => ?_) (fun c => ?_)
                · have hw := ts_itp hw c
                  refine ts_iinc X dX5_search_98 2 rfl (v := x3 + 1) rfl (by decide) (lv' := [(3, .int (x3 + 1)), (0, .ref (tX_ad v 20)), (2, .int x2)]) rfl ?_
                  refine ts_goto 33 X dX5_search_101 (by decide) ?_
                  exact ts_sub [1, 2, 0] rfl (hX33 _ _ hw)
                · have hw := ts_itn hw c
                  refine ts_aload_n X dX5_search_92 0 rfl ?_
                  refine ts_iload_n X dX5_search_93 1 rfl ?_
                  refine ts_iload_n X dX5_search_94 2 rfl ?_
                  refine ts_callVv (w := tX_w v) X (k := 20) (by decide : 20 < 151) rfl rfl rfl (As := [.int x2, .int x3]) (ct_X5_takeIfBetter g.2.1 v hi _ _ _ _ hw) ok_X5_takeIfBetter cw_X5_40 (ts_le hgn (by decide)) (by decide) rfl rfl (Nat.le_of_ble_eq_true rfl) dX5_search_95 (fun s7 hw => ?_)
                  refine ts_iinc X dX5_search_98 2 rfl (v := x3 + 1) rfl (by decide) (lv' := [(3, .int (x3 + 1)), (0, .ref (tX_ad v 20)), (2, .int x2)]) rfl ?_
                  refine ts_goto 33 X dX5_search_101 (by decide) ?_
                  exact ts_sub [1, 2, 0] rfl (hX33 _ _ hw)
        exact hw _ (fun σ x3 h => key _ (fun _ _ h => h) σ x3 h)
      intro σ x2 hw
      unfold wp_X5_search_b15 at hw
      refine ts_iload_n X dX5_search_15 1 rfl ?_
      refine ts_aload_n X dX5_search_16 0 rfl ?_
      refine gf_X5_7 X dX5_search_17 ?_
      refine gf_X5_23 X (tX_Tc 4 (by decide) rfl) (q := 23) rfl dX5_search_20 ?_
      refine gf_X5_27 X (tX_Lp 55) dX5_search_23 ?_
      refine ts_icmp_ge 110 X dX5_search_26 (by decide) (fun c => ?_) (fun c => ?_)
      · have hw := ts_itp hw c
        exact hret _ _ _ hw dX5_search_110
      · have hw := ts_itn hw c
        refine ts_iload_n X dX5_search_29 1 rfl ?_
        refine ts_iconst X dX5_search_30 (v := 1) (by decide) ?_
        refine ts_iadd X dX5_search_31 ?_
        refine ts_istore_n X dX5_search_32 (by decide) (lv' := [(3, .int (x2 + 1)), (0, .ref (tX_ad v 20)), (2, .int x2)]) rfl ?_
        exact ts_sub [1, 2, 0] rfl (J33  _ _ _ hw)
    exact hw _ (fun σ x2 h => key _ (fun _ _ h => h) σ x2 h)
  unfold wp_X5_search at hw
  show ts_G g (tX_w v) 4 σ 0 [(0, .ref (tX_ad v 20)), (1, .ref (tX_ad v t1))] []
  refine ts_aload_n X dX5_search_0 0 rfl ?_
  refine ts_iconst X dX5_search_1 (v := (-1)) (by decide) ?_
  refine pf_X5_13 X dX5_search_2 (fun s8 es8 => ?_)
  have hw := hw s8 es8
  refine ts_aload_n X dX5_search_5 0 rfl ?_
  refine gf_X5_7 X dX5_search_6 ?_
  refine ts_aload_n X dX5_search_9 1 rfl ?_
  refine ts_callVv (w := tX_w v) X (k := 55) ((tX_Tc 4 (by decide) rfl)).lt (tX_eT (tX_Tc 4 (by decide) rfl) _) rfl rfl (As := [.ref (tX_ad v t1)]) (ct_X8_standAs g.2.1 v hi _ _ _ _ (tX_Tc 4 (by decide) rfl) ht1 hw) ok_X8_standAs cw_X5_17 (ts_le hgn (by decide)) (by decide) rfl rfl (Nat.le_of_ble_eq_true rfl) dX5_search_10 (fun s10 hw => ?_)
  refine ts_iconst X dX5_search_13 (v := 0) (by decide) ?_
  refine ts_istore_n X dX5_search_14 (by decide) (lv' := [(2, .int 0), (0, .ref (tX_ad v 20)), (1, .ref (tX_ad v t1))]) rfl ?_
  exact ts_sub [1, 0] rfl (J15  _ _ hw)
set_option maxRecDepth 100000 in
set_option maxHeartbeats 4000000 in
theorem ct_X0_reaches (l : Launch) (v : tX_V) (hi : ts_inj 151 (tX_ad v)) (K : Int32 → ts_S → Prop) (σ : ts_S) (t1 : Nat) (a2 : Int32) (a3 : Int32) (ht1 : tX_T t1) (hw : wp_X0_reaches K σ t1 a2 a3) : ts_Mi l yX0_reaches (Cond.code yX0_reaches cX0_reaches 5 (some .boolean)) 1 (tX_w v) [.ref (tX_ad v 21), .ref (tX_ad v t1), .int a2, .int a3] σ K := by
  refine ts_Mi.of_z (w := tX_w v) hi (by decide +kernel) (Nat.le_of_ble_eq_true rfl) ?_
  intro g hgl hgn X hret
  have J3 : ∀ (σ : ts_S) (x4 : Int32), wp_X0_reaches_l3 K t1 a2 a3 σ x4 → ts_G g (tX_w v) 5 σ 3 [(0, .ref (tX_ad v 21)), (1, .ref (tX_ad v t1)), (2, .int a2), (3, .int a3), (4, .int x4)] [] := by
    intro  σ x4 hw
    have key : ∀ X3 : ts_S → Int32 → Prop, (∀ (σ : ts_S) (x4 : Int32), X3 σ x4 → ts_G g (tX_w v) 5 σ 3 [(0, .ref (tX_ad v 21)), (1, .ref (tX_ad v t1)), (2, .int a2), (3, .int a3), (4, .int x4)] []) → ∀ (σ : ts_S) (x4 : Int32), wp_X0_reaches_b3 K X3 t1 a2 a3  σ x4 → ts_G g (tX_w v) 5 σ 3 [(0, .ref (tX_ad v 21)), (1, .ref (tX_ad v t1)), (2, .int a2), (3, .int a3), (4, .int x4)] [] := by
      intro X3 hX3
      intro σ x4 hw
      unfold wp_X0_reaches_b3 at hw
      refine ts_iload X dX0_reaches_3 4 rfl ?_
      refine ts_aload_n X dX0_reaches_5 1 rfl ?_
      refine gf_X0_26 X ht1 (q := tX_pl t1) rfl dX0_reaches_6 ?_
      refine gf_X0_32 X (tX_Lp t1) dX0_reaches_9 ?_
      refine ts_icmp_ge 55 X dX0_reaches_12 (by decide) (fun c => ?_) (fun c => ?_)
      · have hw := ts_itp hw c
        refine ts_iconst X dX0_reaches_55 (v := 0) (by decide) ?_
        exact hret _ _ _ _ hw dX0_reaches_56
      · have hw := ts_itn hw c
        refine ts_aload_n X dX0_reaches_15 0 rfl ?_
        refine gf_X0_9 X dX0_reaches_16 ?_
        refine ts_iload X dX0_reaches_19 4 rfl ?_
        refine xi_ald X tX_c22 hw.1 dX0_reaches_21 ?_
        have hw := hw.2
        refine ts_iload_n X dX0_reaches_22 3 rfl ?_
        refine ts_icmp_ne 49 X dX0_reaches_23 (by decide) (fun c => ?_) (fun c => ?_)
        · have hw := ts_itn hw c
          refine ts_iinc X dX0_reaches_49 4 rfl (v := x4 + 1) rfl (by decide) (lv' := [(4, .int (x4 + 1)), (0, .ref (tX_ad v 21)), (1, .ref (tX_ad v t1)), (2, .int a2), (3, .int a3)]) rfl ?_
          refine ts_goto 3 X dX0_reaches_52 (by decide) ?_
          exact ts_sub [1, 2, 3, 4, 0] rfl (hX3 _ _ hw)
        · have hw := ts_itp hw c
          refine ts_aload_n X dX0_reaches_26 1 rfl ?_
          refine gf_X0_36 X ht1 (q := (t1 + 1)) rfl dX0_reaches_27 ?_
          refine ts_iload_n X dX0_reaches_30 2 rfl ?_
          refine xi_ald X (tX_a1 ht1 rfl) hw.1 dX0_reaches_31 ?_
          have hw := hw.2
          refine ts_aload_n X dX0_reaches_32 1 rfl ?_
          refine gf_X0_36 X ht1 (q := (t1 + 1)) rfl dX0_reaches_33 ?_
          refine ts_iload X dX0_reaches_36 4 rfl ?_
          refine xi_ald X (tX_a1 ht1 rfl) hw.1 dX0_reaches_38 ?_
          have hw := hw.2
          refine ts_isub X dX0_reaches_39 ?_
          refine ts_mabs X kw_779 kw_780 kw_64 kw_781 (ts_le hgn (by decide)) (Nat.le_of_ble_eq_true rfl) dX0_reaches_40 ?_
          refine ts_iconst X dX0_reaches_43 (v := 2) (by decide) ?_
          refine ts_icmp_gt 49 X dX0_reaches_44 (by decide) (fun c => ?_) (fun c => ?_)
          · have hw := ts_itp hw c
            refine ts_iinc X dX0_reaches_49 4 rfl (v := x4 + 1) rfl (by decide) (lv' := [(4, .int (x4 + 1)), (0, .ref (tX_ad v 21)), (1, .ref (tX_ad v t1)), (2, .int a2), (3, .int a3)]) rfl ?_
            refine ts_goto 3 X dX0_reaches_52 (by decide) ?_
            exact ts_sub [1, 2, 3, 4, 0] rfl (hX3 _ _ hw)
          · have hw := ts_itn hw c
            refine ts_iconst X dX0_reaches_47 (v := 1) (by decide) ?_
            exact hret _ _ _ _ hw dX0_reaches_48
    exact hw _ (fun σ x4 h => key _ (fun _ _ h => h) σ x4 h)
  unfold wp_X0_reaches at hw
  show ts_G g (tX_w v) 5 σ 0 [(0, .ref (tX_ad v 21)), (1, .ref (tX_ad v t1)), (2, .int a2), (3, .int a3)] []
  refine ts_iconst X dX0_reaches_0 (v := 0) (by decide) ?_
  refine ts_istore X dX0_reaches_1 (by decide) (lv' := [(4, .int 0), (0, .ref (tX_ad v 21)), (1, .ref (tX_ad v t1)), (2, .int a2), (3, .int a3)]) rfl ?_
  exact ts_sub [1, 2, 3, 4, 0] rfl (J3  _ _ hw)
set_option maxRecDepth 100000 in
set_option maxHeartbeats 4000000 in
theorem ct_X0_countFrom (l : Launch) (v : tX_V) (hi : ts_inj 151 (tX_ad v)) (K : ts_S → Prop) (σ : ts_S) (t1 : Nat) (a2 : Int32) (ht1 : tX_T t1) (hw : wp_X0_countFrom K σ t1 a2) : ts_Mv l yX0_countFrom (Cond.code yX0_countFrom cX0_countFrom 6 (none)) 5 (tX_w v) [.ref (tX_ad v 21), .ref (tX_ad v t1), .int a2] σ K := by
  refine ts_Mv.of_v (w := tX_w v) hi (by decide +kernel) (Nat.le_of_ble_eq_true rfl) ?_
  intro g hgl hgn X hret
  have J61 : ∀ (σ : ts_S) (x3 : Int32) (x4 : Int32), wp_X0_countFrom_l61 K t1 a2 σ x3 x4 → ts_G g (tX_w v) 6 σ 61 [(0, .ref (tX_ad v 21)), (1, .ref (tX_ad v t1)), (3, .int x3), (4, .int x4)] [] := by
    intro  σ x3 x4 hw
    have key : ∀ X61 : ts_S → Int32 → Prop, (∀ (σ : ts_S) (x4 : Int32), X61 σ x4 → ts_G g (tX_w v) 6 σ 61 [(0, .ref (tX_ad v 21)), (1, .ref (tX_ad v t1)), (3, .int x3), (4, .int x4)] []) → ∀ (σ : ts_S) (x4 : Int32), wp_X0_countFrom_b61 K X61 t1 a2 x3 σ x4 → ts_G g (tX_w v) 6 σ 61 [(0, .ref (tX_ad v 21)), (1, .ref (tX_ad v t1)), (3, .int x3), (4, .int x4)] [] := by
      intro X61 hX61
      have J76 : ∀ (σ : ts_S) (x4 : Int32) (x5 : Int32), wp_X0_countFrom_l76 K X61 t1 a2 σ x3 x4 x5 → ts_G g (tX_w v) 6 σ 76 [(0, .ref (tX_ad v 21)), (1, .ref (tX_ad v t1)), (3, .int x3), (4, .int x4), (5, .int x5)] [] := by
        intro  σ x4 x5 hw
        have key : ∀ X76 : ts_S → Int32 → Prop, (∀ (σ : ts_S) (x5 : Int32), X76 σ x5 → ts_G g (tX_w v) 6 σ 76 [(0, .ref (tX_ad v 21)), (1, .ref (tX_ad v t1)), (3, .int x3), (4, .int x4), (5, .int x5)] []) → ∀ (σ : ts_S) (x5 : Int32), wp_X0_countFrom_b76 K X61 X76 t1 a2 x3 x4 σ x5 → ts_G g (tX_w v) 6 σ 76 [(0, .ref (tX_ad v 21)), (1, .ref (tX_ad v t1)), (3, .int x3), (4, .int x4), (5, .int x5)] [] := by
          intro X76 hX76
          intro σ x5 hw
          unfold wp_X0_countFrom_b76 at hw
          refine ts_iload X dX0_countFrom_76 4 rfl ?_
          refine ts_aload_n X dX0_countFrom_78 1 rfl ?_
          refine gf_X0_26 X ht1 (q := tX_pl t1) rfl dX0_countFrom_79 ?_
          refine gf_X0_32 X (tX_Lp t1) dX0_countFrom_82 ?_
          refine ts_icmp_ge 136 X dX0_countFrom_85 (by decide) (fun c => ?_) (fun c => ?_)
          · have hw := ts_itp hw c
            refine ts_iinc X dX0_countFrom_136 3 rfl (v := x4 + 1) rfl (by decide) (lv' := [(4, .int (x4 + 1)), (0, .ref (tX_ad v 21)), (1, .ref (tX_ad v t1)), (3, .int x3), (5, .int x5)]) rfl ?_
            refine ts_goto 61 X dX0_countFrom_139 (by decide) ?_
            exact ts_sub [1, 2, 3, 0] rfl (hX61 _ _ hw)
          · have hw := ts_itn hw c
            refine ts_aload_n X dX0_countFrom_88 0 rfl ?_
            refine gf_X0_9 X dX0_countFrom_89 ?_
            refine ts_iload X dX0_countFrom_92 4 rfl ?_
            refine xi_ald X tX_c22 hw.1 dX0_countFrom_94 ?_
            have hw := hw.2
            refine ts_if_ne 130 X dX0_countFrom_95 (by decide) (fun c => ?_) (fun c => ?_)
            · have hw := ts_itn hw c
              refine ts_iinc X dX0_countFrom_130 4 rfl (v := x5 + 1) rfl (by decide) (lv' := [(5, .int (x5 + 1)), (0, .ref (tX_ad v 21)), (1, .ref (tX_ad v t1)), (3, .int x3), (4, .int x4)]) rfl ?_
              refine ts_goto 76 X dX0_countFrom_133 (by decide) ?_
              exact ts_sub [1, 2, 3, 4, 0] rfl (hX76 _ _ hw)
            · have hw := ts_itp hw c
              refine ts_iload_n X dX0_countFrom_98 2 rfl ?_
              refine ts_iload X dX0_countFrom_99 4 rfl ?_
              refine ts_callNi X (As := [.int x3, .int x5]) (ct_X9_hasBit g.2.1 v hi _ _ _ _ hw) ok_X9_hasBit cw_X0_43 (ts_le hgn (by decide)) (by decide) rfl rfl (Nat.le_of_ble_eq_true rfl) dX0_countFrom_101 (fun r11 s12 hw => ?_)
              refine ts_if_eq 130 X dX0_countFrom_104 (by decide) (fun c => ?_) (fun c => ?_)
              · have hw := ts_itp hw c
                refine ts_iinc X dX0_countFrom_130 4 rfl (v := x5 + 1) rfl (by decide) (lv' := [(5, .int (x5 + 1)), (0, .ref (tX_ad v 21)), (1, .ref (tX_ad v t1)), (3, .int x3), (4, .int x4)]) rfl ?_
                refine ts_goto 76 X dX0_countFrom_133 (by decide) ?_
                exact ts_sub [1, 2, 3, 4, 0] rfl (hX76 _ _ hw)
              · have hw := ts_itn hw c
                refine ts_aload_n X dX0_countFrom_107 0 rfl ?_
                refine ts_aload_n X dX0_countFrom_108 1 rfl ?_
                refine ts_iload X dX0_countFrom_109 4 rfl ?_
                refine ts_iload X dX0_countFrom_111 3 rfl ?_
                refine ts_callVi (w := tX_w v) X (k := 21) (by decide : 21 < 151) rfl rfl rfl (As := [.ref (tX_ad v t1), .int x5, .int x4]) (ct_X0_reaches g.2.1 v hi _ _ _ _ _ ht1 hw) ok_X0_reaches cw_X0_47 (ts_le hgn (by decide)) (by decide) rfl rfl (Nat.le_of_ble_eq_true rfl) dX0_countFrom_113 (fun r13 s14 hw => ?_)
                refine ts_if_eq 130 X dX0_countFrom_116 (by decide) (fun c => ?_) (fun c => ?_)
                · have hw := ts_itp hw c
                  refine ts_iinc X dX0_countFrom_130 4 rfl (v := x5 + 1) rfl (by decide) (lv' := [(5, .int (x5 + 1)), (0, .ref (tX_ad v 21)), (1, .ref (tX_ad v t1)), (3, .int x3), (4, .int x4)]) rfl ?_
                  refine ts_goto 76 X dX0_countFrom_133 (by decide) ?_
                  exact ts_sub [1, 2, 3, 4, 0] rfl (hX76 _ _ hw)
                · have hw := ts_itn hw c
                  refine ts_aload_n X dX0_countFrom_119 0 rfl ?_
                  refine gf_X0_9 X dX0_countFrom_120 ?_
                  refine ts_iload X dX0_countFrom_123 4 rfl ?_
                  refine ts_iload X dX0_countFrom_125 3 rfl ?_
                  refine ts_iconst X dX0_countFrom_127 (v := 1) (by decide) ?_
                  refine ts_iadd X dX0_countFrom_128 ?_
                  refine xi_ast X tX_c22 hw.1 dX0_countFrom_129 (fun s15 es15 => ?_)
                  have hw := hw.2 s15 es15
                  refine ts_iinc X dX0_countFrom_130 4 rfl (v := x5 + 1) rfl (by decide) (lv' := [(5, .int (x5 + 1)), (0, .ref (tX_ad v 21)), (1, .ref (tX_ad v t1)), (3, .int x3), (4, .int x4)]) rfl ?_
                  refine ts_goto 76 X dX0_countFrom_133 (by decide) ?_
                  exact ts_sub [1, 2, 3, 4, 0] rfl (hX76 _ _ hw)
        exact hw _ (fun σ x5 h => key _ (fun _ _ h => h) σ x5 h)
      intro σ x4 hw
      unfold wp_X0_countFrom_b61 at hw
      refine ts_iload X dX0_countFrom_61 3 rfl ?_
      refine ts_aload_n X dX0_countFrom_63 1 rfl ?_
      refine gf_X0_26 X ht1 (q := tX_pl t1) rfl dX0_countFrom_64 ?_
      refine gf_X0_32 X (tX_Lp t1) dX0_countFrom_67 ?_
      refine ts_icmp_ge 142 X dX0_countFrom_70 (by decide) (fun c => ?_) (fun c => ?_)
      · have hw := ts_itp hw c
        exact hret _ _ _ hw dX0_countFrom_142
      · have hw := ts_itn hw c
        refine ts_iconst X dX0_countFrom_73 (v := 0) (by decide) ?_
        refine ts_istore X dX0_countFrom_74 (by decide) (lv' := [(5, .int 0), (0, .ref (tX_ad v 21)), (1, .ref (tX_ad v t1)), (3, .int x3), (4, .int x4)]) rfl ?_
        exact ts_sub [1, 2, 3, 4, 0] rfl (J76  _ _ _ hw)
    exact hw _ (fun σ x4 h => key _ (fun _ _ h => h) σ x4 h)
  have J8 : ∀ (σ : ts_S) (x3 : Int32) (x4 : Int32), wp_X0_countFrom_l8 K t1 a2 σ x3 x4 → ts_G g (tX_w v) 6 σ 8 [(0, .ref (tX_ad v 21)), (1, .ref (tX_ad v t1)), (2, .int a2), (3, .int x3), (4, .int x4)] [] := by
    intro  σ x3 x4 hw
    have key : ∀ X8 : ts_S → Int32 → Prop, (∀ (σ : ts_S) (x4 : Int32), X8 σ x4 → ts_G g (tX_w v) 6 σ 8 [(0, .ref (tX_ad v 21)), (1, .ref (tX_ad v t1)), (2, .int a2), (3, .int x3), (4, .int x4)] []) → ∀ (σ : ts_S) (x4 : Int32), wp_X0_countFrom_b8 K X8 t1 a2 x3 σ x4 → ts_G g (tX_w v) 6 σ 8 [(0, .ref (tX_ad v 21)), (1, .ref (tX_ad v t1)), (2, .int a2), (3, .int x3), (4, .int x4)] [] := by
      intro X8 hX8
      have J51 : ∀ (σ : ts_S) (x4 : Int32) (y0 : Int32) (y1 : Int32), wp_X0_countFrom_j51 K X8 t1 a2 σ x3 x4 y0 y1 → ts_G g (tX_w v) 6 σ 51 [(0, .ref (tX_ad v 21)), (1, .ref (tX_ad v t1)), (2, .int a2), (3, .int x3), (4, .int x4)] [.int y0, .int y1, .ref (tX_ad v 22)] := by
        intro  σ x4 y0 y1 hw
        unfold wp_X0_countFrom_j51 at hw
        refine xi_ast X tX_c22 hw.1 dX0_countFrom_51 (fun s16 es16 => ?_)
        have hw := hw.2 s16 es16
        refine ts_iinc X dX0_countFrom_52 4 rfl (v := x4 + 1) rfl (by decide) (lv' := [(4, .int (x4 + 1)), (0, .ref (tX_ad v 21)), (1, .ref (tX_ad v t1)), (2, .int a2), (3, .int x3)]) rfl ?_
        refine ts_goto 8 X dX0_countFrom_55 (by decide) ?_
        exact ts_sub [1, 2, 3, 4, 0] rfl (hX8 _ _ hw)
      intro σ x4 hw
      unfold wp_X0_countFrom_b8 at hw
      refine ts_iload X dX0_countFrom_8 4 rfl ?_
      refine ts_aload_n X dX0_countFrom_10 1 rfl ?_
      refine gf_X0_26 X ht1 (q := tX_pl t1) rfl dX0_countFrom_11 ?_
      refine gf_X0_32 X (tX_Lp t1) dX0_countFrom_14 ?_
      refine ts_icmp_ge 58 X dX0_countFrom_17 (by decide) (fun c => ?_) (fun c => ?_)
      · have hw := ts_itp hw c
        refine ts_iconst X dX0_countFrom_58 (v := 1) (by decide) ?_
        refine ts_istore X dX0_countFrom_59 (by decide) (lv' := [(4, .int 1), (0, .ref (tX_ad v 21)), (1, .ref (tX_ad v t1)), (2, .int a2), (3, .int x3)]) rfl ?_
        exact ts_sub [1, 2, 4, 0] rfl (J61  _ _ _ hw)
      · have hw := ts_itn hw c
        refine ts_aload_n X dX0_countFrom_20 0 rfl ?_
        refine gf_X0_9 X dX0_countFrom_21 ?_
        refine ts_iload X dX0_countFrom_24 4 rfl ?_
        refine ts_iload_n X dX0_countFrom_26 3 rfl ?_
        refine ts_iload X dX0_countFrom_27 4 rfl ?_
        refine ts_callNi X (As := [.int x3, .int x4]) (ct_X9_hasBit g.2.1 v hi _ _ _ _ hw) ok_X9_hasBit cw_X0_43 (ts_le hgn (by decide)) (by decide) rfl rfl (Nat.le_of_ble_eq_true rfl) dX0_countFrom_29 (fun r17 s18 hw => ?_)
        refine ts_if_eq 50 X dX0_countFrom_32 (by decide) (fun c => ?_) (fun c => ?_)
        · have hw := ts_itp hw c
          refine ts_iconst X dX0_countFrom_50 (v := 0) (by decide) ?_
          exact ts_sub [0, 1, 2, 3, 4] rfl (J51  _ _ _ _ hw)
        · have hw := ts_itn hw c
          refine ts_aload_n X dX0_countFrom_35 1 rfl ?_
          refine gf_X0_36 X ht1 (q := (t1 + 1)) rfl dX0_countFrom_36 ?_
          refine ts_iload X dX0_countFrom_39 4 rfl ?_
          refine xi_ald X (tX_a1 ht1 rfl) hw.1 dX0_countFrom_41 ?_
          have hw := hw.2
          refine ts_iload_n X dX0_countFrom_42 2 rfl ?_
          refine ts_icmp_ne 50 X dX0_countFrom_43 (by decide) (fun c => ?_) (fun c => ?_)
          · have hw := ts_itn hw c
            refine ts_iconst X dX0_countFrom_50 (v := 0) (by decide) ?_
            exact ts_sub [0, 1, 2, 3, 4] rfl (J51  _ _ _ _ hw)
          · have hw := ts_itp hw c
            refine ts_iconst X dX0_countFrom_46 (v := 1) (by decide) ?_
            refine ts_goto 51 X dX0_countFrom_47 (by decide) ?_
            exact ts_sub [0, 1, 2, 3, 4] rfl (J51  _ _ _ _ hw)
    exact hw _ (fun σ x4 h => key _ (fun _ _ h => h) σ x4 h)
  unfold wp_X0_countFrom at hw
  show ts_G g (tX_w v) 6 σ 0 [(0, .ref (tX_ad v 21)), (1, .ref (tX_ad v t1)), (2, .int a2)] []
  refine ts_aload_n X dX0_countFrom_0 1 rfl ?_
  refine ts_callVi (w := tX_w v) X (k := t1) (ht1).lt (tX_eT ht1 _) rfl rfl (As := []) (ct_X8_steadyBits g.2.1 v hi _ _ _ ht1 hw) ok_X8_steadyBits cw_X0_39 (ts_le hgn (by decide)) (by decide) rfl rfl (Nat.le_of_ble_eq_true rfl) dX0_countFrom_1 (fun r19 s20 hw => ?_)
  refine ts_istore_n X dX0_countFrom_4 (by decide) (lv' := [(3, .int r19), (0, .ref (tX_ad v 21)), (1, .ref (tX_ad v t1)), (2, .int a2)]) rfl ?_
  refine ts_iconst X dX0_countFrom_5 (v := 0) (by decide) ?_
  refine ts_istore X dX0_countFrom_6 (by decide) (lv' := [(4, .int 0), (3, .int r19), (0, .ref (tX_ad v 21)), (1, .ref (tX_ad v t1)), (2, .int a2)]) rfl ?_
  exact ts_sub [2, 3, 4, 1, 0] rfl (J8  _ _ _ hw)
set_option maxRecDepth 100000 in
set_option maxHeartbeats 4000000 in
theorem ct_X0_search (l : Launch) (v : tX_V) (hi : ts_inj 151 (tX_ad v)) (K : ts_S → Prop) (σ : ts_S) (t1 : Nat) (a2 : Int32) (a3 : Int32) (ht1 : tX_T t1) (hw : wp_X0_search K σ t1 a2 a3) : ts_Mv l yX0_search (Cond.code yX0_search cX0_search 5 (none)) 6 (tX_w v) [.ref (tX_ad v 21), .ref (tX_ad v t1), .int a2, .int a3] σ K := by
  refine ts_Mv.of_v (w := tX_w v) hi (by decide +kernel) (Nat.le_of_ble_eq_true rfl) ?_
  intro g hgl hgn X hret
  have J19 : ∀ (σ : ts_S) (x4 : Int32), wp_X0_search_l19 K t1 a2 a3 σ x4 → ts_G g (tX_w v) 5 σ 19 [(0, .ref (tX_ad v 21)), (1, .ref (tX_ad v t1)), (2, .int a2), (4, .int x4)] [] := by
    intro  σ x4 hw
    have key : ∀ X19 : ts_S → Int32 → Prop, (∀ (σ : ts_S) (x4 : Int32), X19 σ x4 → ts_G g (tX_w v) 5 σ 19 [(0, .ref (tX_ad v 21)), (1, .ref (tX_ad v t1)), (2, .int a2), (4, .int x4)] []) → ∀ (σ : ts_S) (x4 : Int32), wp_X0_search_b19 K X19 t1 a2 a3  σ x4 → ts_G g (tX_w v) 5 σ 19 [(0, .ref (tX_ad v 21)), (1, .ref (tX_ad v t1)), (2, .int a2), (4, .int x4)] [] := by
      intro X19 hX19
      have J73 : ∀ (σ : ts_S) (x4 : Int32), wp_X0_search_j73 K X19 t1 a2 a3 σ x4 → ts_G g (tX_w v) 5 σ 73 [(0, .ref (tX_ad v 21)), (1, .ref (tX_ad v t1)), (2, .int a2), (4, .int x4)] [] := by
        intro  σ x4 hw
        unfold wp_X0_search_j73 at hw
        refine ts_aload_n X dX0_search_73 0 rfl ?_
        refine ts_iload X dX0_search_74 3 rfl ?_
        refine pf_X0_19 X dX0_search_76 (fun s7 es7 => ?_)
        have hw := hw s7 es7
        refine ts_aload_n X dX0_search_79 0 rfl ?_
        refine ts_aload_n X dX0_search_80 0 rfl ?_
        refine gf_X0_9 X dX0_search_81 ?_
        refine ts_iload X dX0_search_84 3 rfl ?_
        refine xi_ald X tX_c22 hw.1 dX0_search_86 ?_
        have hw := hw.2
        refine pf_X0_23 X dX0_search_87 (fun s8 es8 => ?_)
        have hw := hw s8 es8
        refine ts_iinc X dX0_search_90 3 rfl (v := x4 + 1) rfl (by decide) (lv' := [(4, .int (x4 + 1)), (0, .ref (tX_ad v 21)), (1, .ref (tX_ad v t1)), (2, .int a2)]) rfl ?_
        refine ts_goto 19 X dX0_search_93 (by decide) ?_
        exact ts_sub [1, 2, 3, 0] rfl (hX19 _ _ hw)
      intro σ x4 hw
      unfold wp_X0_search_b19 at hw
      refine ts_iload X dX0_search_19 3 rfl ?_
      refine ts_aload_n X dX0_search_21 1 rfl ?_
      refine gf_X0_26 X ht1 (q := tX_pl t1) rfl dX0_search_22 ?_
      refine gf_X0_32 X (tX_Lp t1) dX0_search_25 ?_
      refine ts_icmp_ge 96 X dX0_search_28 (by decide) (fun c => ?_) (fun c => ?_)
      · have hw := ts_itp hw c
        exact hret _ _ _ hw dX0_search_96
      · have hw := ts_itn hw c
        refine ts_aload_n X dX0_search_31 0 rfl ?_
        refine gf_X0_9 X dX0_search_32 ?_
        refine ts_iload X dX0_search_35 3 rfl ?_
        refine xi_ald X tX_c22 hw.1 dX0_search_37 ?_
        have hw := hw.2
        refine ts_if_le 90 X dX0_search_38 (by decide) (fun c => ?_) (fun c => ?_)
        · have hw := ts_itp hw c
          refine ts_iinc X dX0_search_90 3 rfl (v := x4 + 1) rfl (by decide) (lv' := [(4, .int (x4 + 1)), (0, .ref (tX_ad v 21)), (1, .ref (tX_ad v t1)), (2, .int a2)]) rfl ?_
          refine ts_goto 19 X dX0_search_93 (by decide) ?_
          exact ts_sub [1, 2, 3, 0] rfl (hX19 _ _ hw)
        · have hw := ts_itn hw c
          refine ts_aload_n X dX0_search_41 1 rfl ?_
          refine gf_X0_36 X ht1 (q := (t1 + 1)) rfl dX0_search_42 ?_
          refine ts_iload X dX0_search_45 3 rfl ?_
          refine xi_ald X (tX_a1 ht1 rfl) hw.1 dX0_search_47 ?_
          have hw := hw.2
          refine ts_iload_n X dX0_search_48 2 rfl ?_
          refine ts_icmp_ne 90 X dX0_search_49 (by decide) (fun c => ?_) (fun c => ?_)
          · have hw := ts_itn hw c
            refine ts_iinc X dX0_search_90 3 rfl (v := x4 + 1) rfl (by decide) (lv' := [(4, .int (x4 + 1)), (0, .ref (tX_ad v 21)), (1, .ref (tX_ad v t1)), (2, .int a2)]) rfl ?_
            refine ts_goto 19 X dX0_search_93 (by decide) ?_
            exact ts_sub [1, 2, 3, 0] rfl (hX19 _ _ hw)
          · have hw := ts_itp hw c
            refine ts_aload_n X dX0_search_52 0 rfl ?_
            refine gf_X0_19 X dX0_search_53 ?_
            refine ts_if_lt 73 X dX0_search_56 (by decide) (fun c => ?_) (fun c => ?_)
            · have hw := ts_itp hw c
              exact ts_sub [0, 1, 2, 3] rfl (J73  _ _ hw)
            · have hw := ts_itn hw c
              refine ts_aload_n X dX0_search_59 0 rfl ?_
              refine gf_X0_9 X dX0_search_60 ?_
              refine ts_iload X dX0_search_63 3 rfl ?_
              refine xi_ald X tX_c22 hw.1 dX0_search_65 ?_
              have hw := hw.2
              refine ts_aload_n X dX0_search_66 0 rfl ?_
              refine gf_X0_23 X dX0_search_67 ?_
              refine ts_icmp_ge 90 X dX0_search_70 (by decide) (fun c => ?_) (fun c => ?_)
              · have hw := ts_itp hw c
                refine ts_iinc X dX0_search_90 3 rfl (v := x4 + 1) rfl (by decide) (lv' := [(4, .int (x4 + 1)), (0, .ref (tX_ad v 21)), (1, .ref (tX_ad v t1)), (2, .int a2)]) rfl ?_
                refine ts_goto 19 X dX0_search_93 (by decide) ?_
                exact ts_sub [1, 2, 3, 0] rfl (hX19 _ _ hw)
              · have hw := ts_itn hw c
                exact ts_sub [0, 1, 2, 3] rfl (J73  _ _ hw)
    exact hw _ (fun σ x4 h => key _ (fun _ _ h => h) σ x4 h)
  unfold wp_X0_search at hw
  show ts_G g (tX_w v) 5 σ 0 [(0, .ref (tX_ad v 21)), (1, .ref (tX_ad v t1)), (2, .int a2), (3, .int a3)] []
  refine ts_aload_n X dX0_search_0 0 rfl ?_
  refine ts_aload_n X dX0_search_1 1 rfl ?_
  refine ts_iload_n X dX0_search_2 3 rfl ?_
  refine ts_callVv (w := tX_w v) X (k := 21) (by decide : 21 < 151) rfl rfl rfl (As := [.ref (tX_ad v t1), .int a3]) (ct_X0_countFrom g.2.1 v hi _ _ _ _ ht1 hw) ok_X0_countFrom cw_X0_15 (ts_le hgn (by decide)) (by decide) rfl rfl (Nat.le_of_ble_eq_true rfl) dX0_search_3 (fun s10 hw => ?_)
  refine ts_aload_n X dX0_search_6 0 rfl ?_
  refine ts_iconst X dX0_search_7 (v := (-1)) (by decide) ?_
  refine pf_X0_19 X dX0_search_8 (fun s11 es11 => ?_)
  have hw := hw s11 es11
  refine ts_aload_n X dX0_search_11 0 rfl ?_
  refine ts_iconst X dX0_search_12 (v := 0) (by decide) ?_
  refine pf_X0_23 X dX0_search_13 (fun s12 es12 => ?_)
  have hw := hw s12 es12
  refine ts_iconst X dX0_search_16 (v := 0) (by decide) ?_
  refine ts_istore X dX0_search_17 (by decide) (lv' := [(4, .int 0), (0, .ref (tX_ad v 21)), (1, .ref (tX_ad v t1)), (2, .int a2), (3, .int a3)]) rfl ?_
  exact ts_sub [1, 2, 3, 0] rfl (J19  _ _ hw)
set_option maxRecDepth 100000 in
set_option maxHeartbeats 4000000 in
theorem ct_X4_add (l : Launch) (v : tX_V) (hi : ts_inj 151 (tX_ad v)) (K : Int32 → ts_S → Prop) (σ : ts_S) (a1 : Int32) (a2 : Int32) (a3 : Int32)  (hw : wp_X4_add K σ a1 a2 a3) : ts_Mi l yX4_add (Cond.code yX4_add cX4_add 4 (some .boolean)) 1 (tX_w v) [.ref (tX_ad v 7), .int a1, .int a2, .int a3] σ K := by
  refine ts_Mi.of_z (w := tX_w v) hi (by decide +kernel) (Nat.le_of_ble_eq_true rfl) ?_
  intro g hgl hgn X hret
  unfold wp_X4_add at hw
  show ts_G g (tX_w v) 4 σ 0 [(0, .ref (tX_ad v 7)), (1, .int a1), (2, .int a2), (3, .int a3)] []
  refine ts_aload_n X dX4_add_0 0 rfl ?_
  refine gf_X4_22 X dX4_add_1 ?_
  refine ts_bipush X dX4_add_4 (v := 6) (by decide) ?_
  refine ts_icmp_lt 11 X dX4_add_6 (by decide) (fun c => ?_) (fun c => ?_)
  · have hw := ts_itp hw c
    refine ts_aload_n X dX4_add_11 0 rfl ?_
    refine gf_X4_9 X dX4_add_12 ?_
    refine ts_aload_n X dX4_add_15 0 rfl ?_
    refine gf_X4_22 X dX4_add_16 ?_
    refine ts_iload_n X dX4_add_19 1 rfl ?_
    refine xi_ast X tX_c8 hw.1 dX4_add_20 (fun s5 es5 => ?_)
    have hw := hw.2 s5 es5
    refine ts_aload_n X dX4_add_21 0 rfl ?_
    refine gf_X4_15 X dX4_add_22 ?_
    refine ts_aload_n X dX4_add_25 0 rfl ?_
    refine gf_X4_22 X dX4_add_26 ?_
    refine ts_iload_n X dX4_add_29 2 rfl ?_
    refine xi_ast X tX_c9 hw.1 dX4_add_30 (fun s6 es6 => ?_)
    have hw := hw.2 s6 es6
    refine ts_aload_n X dX4_add_31 0 rfl ?_
    refine gf_X4_18 X dX4_add_32 ?_
    refine ts_aload_n X dX4_add_35 0 rfl ?_
    refine gf_X4_22 X dX4_add_36 ?_
    refine ts_iload_n X dX4_add_39 3 rfl ?_
    refine xz_ast X tX_c10 hw.1 dX4_add_40 (fun s7 es7 => ?_)
    have hw := hw.2 s7 es7
    refine ts_aload_n X dX4_add_41 0 rfl ?_
    refine ts_dup X dX4_add_42 rfl ?_
    refine gf_X4_22 X dX4_add_43 ?_
    refine ts_iconst X dX4_add_46 (v := 1) (by decide) ?_
    refine ts_iadd X dX4_add_47 ?_
    refine pf_X4_22 X dX4_add_48 (fun s8 es8 => ?_)
    have hw := hw s8 es8
    refine ts_iconst X dX4_add_51 (v := 1) (by decide) ?_
    exact hret _ _ _ _ hw dX4_add_52
  · have hw := ts_itn hw c
    refine ts_iconst X dX4_add_9 (v := 0) (by decide) ?_
    exact hret _ _ _ _ hw dX4_add_10
set_option maxRecDepth 100000 in
set_option maxHeartbeats 4000000 in
theorem ct_X4_wouldHold (l : Launch) (v : tX_V) (hi : ts_inj 151 (tX_ad v)) (K : Int32 → ts_S → Prop) (σ : ts_S) (t1 : Nat) (a2 : Int32) (a3 : Int32) (a4 : Int32) (ht1 : tX_T t1) (hw : wp_X4_wouldHold K σ t1 a2 a3 a4) : ts_Mi l yX4_wouldHold (Cond.code yX4_wouldHold cX4_wouldHold 6 (some .boolean)) 3 (tX_w v) [.ref (tX_ad v 7), .ref (tX_ad v t1), .int a2, .int a3, .int a4] σ K := by
  refine ts_Mi.of_z (w := tX_w v) hi (by decide +kernel) (Nat.le_of_ble_eq_true rfl) ?_
  intro g hgl hgn X hret
  have J3 : ∀ (σ : ts_S) (x5 : Int32), wp_X4_wouldHold_l3 K t1 a2 a3 a4 σ x5 → ts_G g (tX_w v) 6 σ 3 [(0, .ref (tX_ad v 7)), (1, .ref (tX_ad v t1)), (2, .int a2), (3, .int a3), (4, .int a4), (5, .int x5)] [] := by
    intro  σ x5 hw
    have key : ∀ X3 : ts_S → Int32 → Prop, (∀ (σ : ts_S) (x5 : Int32), X3 σ x5 → ts_G g (tX_w v) 6 σ 3 [(0, .ref (tX_ad v 7)), (1, .ref (tX_ad v t1)), (2, .int a2), (3, .int a3), (4, .int a4), (5, .int x5)] []) → ∀ (σ : ts_S) (x5 : Int32), wp_X4_wouldHold_b3 K X3 t1 a2 a3 a4  σ x5 → ts_G g (tX_w v) 6 σ 3 [(0, .ref (tX_ad v 7)), (1, .ref (tX_ad v t1)), (2, .int a2), (3, .int a3), (4, .int a4), (5, .int x5)] [] := by
      intro X3 hX3
      have J46 : ∀ (σ : ts_S) (x5 : Int32) (y0 : Int32), wp_X4_wouldHold_j46 K X3 t1 a2 a3 a4 σ x5 y0 → ts_G g (tX_w v) 6 σ 46 [(0, .ref (tX_ad v 7)), (1, .ref (tX_ad v t1)), (2, .int a2), (3, .int a3), (4, .int a4), (5, .int x5)] [.int y0] := by
        intro  σ x5 y0 hw
        unfold wp_X4_wouldHold_j46 at hw
        refine ts_aload_n X dX4_wouldHold_46 0 rfl ?_
        refine gf_X4_18 X dX4_wouldHold_47 ?_
        refine ts_iload X dX4_wouldHold_50 5 rfl ?_
        refine xz_ald X tX_c10 hw.1 dX4_wouldHold_52 ?_
        have hw := hw.2
        refine ts_icmp_eq 58 X dX4_wouldHold_53 (by decide) (fun c => ?_) (fun c => ?_)
        · have hw := ts_itp hw c
          refine ts_iinc X dX4_wouldHold_58 5 rfl (v := x5 + 1) rfl (by decide) (lv' := [(5, .int (x5 + 1)), (0, .ref (tX_ad v 7)), (1, .ref (tX_ad v t1)), (2, .int a2), (3, .int a3), (4, .int a4)]) rfl ?_
          refine ts_goto 3 X dX4_wouldHold_61 (by decide) ?_
          exact ts_sub [1, 2, 3, 4, 5, 0] rfl (hX3 _ _ hw)
        · have hw := ts_itn hw c
          refine ts_iconst X dX4_wouldHold_56 (v := 0) (by decide) ?_
          exact hret _ _ _ _ hw dX4_wouldHold_57
      intro σ x5 hw
      unfold wp_X4_wouldHold_b3 at hw
      refine ts_iload X dX4_wouldHold_3 5 rfl ?_
      refine ts_aload_n X dX4_wouldHold_5 0 rfl ?_
      refine gf_X4_22 X dX4_wouldHold_6 ?_
      refine ts_icmp_ge 64 X dX4_wouldHold_9 (by decide) (fun c => ?_) (fun c => ?_)
      · have hw := ts_itp hw c
        refine ts_iconst X dX4_wouldHold_64 (v := 1) (by decide) ?_
        exact hret _ _ _ _ hw dX4_wouldHold_65
      · have hw := ts_itn hw c
        refine ts_aload_n X dX4_wouldHold_12 0 rfl ?_
        refine gf_X4_9 X dX4_wouldHold_13 ?_
        refine ts_iload X dX4_wouldHold_16 5 rfl ?_
        refine xi_ald X tX_c8 hw.1 dX4_wouldHold_18 ?_
        have hw := hw.2
        refine ts_iload_n X dX4_wouldHold_19 2 rfl ?_
        refine ts_icmp_ne 58 X dX4_wouldHold_20 (by decide) (fun c => ?_) (fun c => ?_)
        · have hw := ts_itn hw c
          refine ts_iinc X dX4_wouldHold_58 5 rfl (v := x5 + 1) rfl (by decide) (lv' := [(5, .int (x5 + 1)), (0, .ref (tX_ad v 7)), (1, .ref (tX_ad v t1)), (2, .int a2), (3, .int a3), (4, .int a4)]) rfl ?_
          refine ts_goto 3 X dX4_wouldHold_61 (by decide) ?_
          exact ts_sub [1, 2, 3, 4, 5, 0] rfl (hX3 _ _ hw)
        · have hw := ts_itp hw c
          refine ts_aload_n X dX4_wouldHold_23 1 rfl ?_
          refine ts_iload_n X dX4_wouldHold_24 3 rfl ?_
          refine ts_iload_n X dX4_wouldHold_25 2 rfl ?_
          refine ts_aload_n X dX4_wouldHold_26 0 rfl ?_
          refine gf_X4_15 X dX4_wouldHold_27 ?_
          refine ts_iload X dX4_wouldHold_30 5 rfl ?_
          refine xi_ald X tX_c9 hw.1 dX4_wouldHold_32 ?_
          have hw := hw.2
          refine ts_callVi (w := tX_w v) X (k := t1) (ht1).lt (tX_eT ht1 _) rfl rfl (As := [.int a3, .int a2, .int (σ 9 x5.toNatClampNeg)]) (ct_X8_fearAs g.2.1 v hi _ _ _ _ _ _ ht1 hw) ok_X8_fearAs cw_X4_26 (ts_le hgn (by decide)) (by decide) rfl rfl (Nat.le_of_ble_eq_true rfl) dX4_wouldHold_33 (fun r3 s4 hw => ?_)
          refine ts_iload X dX4_wouldHold_36 4 rfl ?_
          refine ts_icmp_le 45 X dX4_wouldHold_38 (by decide) (fun c => ?_) (fun c => ?_)
          · have hw := ts_itp hw c
            refine ts_iconst X dX4_wouldHold_45 (v := 0) (by decide) ?_
            exact ts_sub [0, 1, 2, 3, 4, 5] rfl (J46  _ _ _ hw)
          · have hw := ts_itn hw c
            refine ts_iconst X dX4_wouldHold_41 (v := 1) (by decide) ?_
            refine ts_goto 46 X dX4_wouldHold_42 (by decide) ?_
            exact ts_sub [0, 1, 2, 3, 4, 5] rfl (J46  _ _ _ hw)
    exact hw _ (fun σ x5 h => key _ (fun _ _ h => h) σ x5 h)
  unfold wp_X4_wouldHold at hw
  show ts_G g (tX_w v) 6 σ 0 [(0, .ref (tX_ad v 7)), (1, .ref (tX_ad v t1)), (2, .int a2), (3, .int a3), (4, .int a4)] []
  refine ts_iconst X dX4_wouldHold_0 (v := 0) (by decide) ?_
  refine ts_istore X dX4_wouldHold_1 (by decide) (lv' := [(5, .int 0), (0, .ref (tX_ad v 7)), (1, .ref (tX_ad v t1)), (2, .int a2), (3, .int a3), (4, .int a4)]) rfl ?_
  exact ts_sub [1, 2, 3, 4, 5, 0] rfl (J3  _ _ hw)
