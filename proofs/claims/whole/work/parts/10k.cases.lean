/-! the law: one call each -/
theorem okL_X9_write : ts_ok yX9_write 1 := ⟨by decide +kernel, by decide +kernel, by decide +kernel⟩
theorem cwL_X9_write : ts_cV RL 13 yX9_write (Cond.code yX9_write cX9_write 2 (some .int)) := ⟨kw_507, kw_508, kw_509, kw_59, kw_510⟩
theorem okL_X9_wipe : ts_ok yX9_wipe 0 := ⟨by decide +kernel, by decide +kernel, by decide +kernel⟩
theorem cwL_X9_wipe : ts_cV RL 18 yX9_wipe (Cond.code yX9_wipe cX9_wipe 2 (some .int)) := ⟨kw_512, kw_513, kw_514, kw_59, kw_515⟩
theorem okL_X9_fault : ts_ok yX9_fault 0 := ⟨by decide +kernel, by decide +kernel, by decide +kernel⟩
theorem cwL_X9_fault : ts_cV RL 23 yX9_fault (Cond.code yX9_fault cX9_fault 1 (some .int)) := ⟨kw_516, kw_517, kw_518, kw_59, kw_519⟩
theorem okL_X9_lay : ts_ok yX9_lay 0 := ⟨by decide +kernel, by decide +kernel, by decide +kernel⟩
theorem cwL_X9_lay : ts_cV RL 27 yX9_lay (Cond.code yX9_lay cX9_lay 1 (some .int)) := ⟨kw_520, kw_521, kw_522, kw_59, kw_523⟩
theorem okL_X9_person : ts_ok yX9_person 2 := ⟨by decide +kernel, by decide +kernel, by decide +kernel⟩
theorem cwL_X9_person : ts_cV RL 31 yX9_person (Cond.code yX9_person cX9_person 3 (some .int)) := ⟨kw_524, kw_525, kw_526, kw_59, kw_527⟩
theorem okL_X9_fear : ts_ok yX9_fear 2 := ⟨by decide +kernel, by decide +kernel, by decide +kernel⟩
theorem cwL_X9_fear : ts_cV RL 36 yX9_fear (Cond.code yX9_fear cX9_fear 3 (some .int)) := ⟨kw_555, kw_556, kw_557, kw_59, kw_558⟩
theorem okL_X9_work : ts_ok yX9_work 2 := ⟨by decide +kernel, by decide +kernel, by decide +kernel⟩
theorem cwL_X9_work : ts_cV RL 40 yX9_work (Cond.code yX9_work cX9_work 3 (some .int)) := ⟨kw_563, kw_564, kw_565, kw_59, kw_566⟩
theorem okL_X9_pass : ts_ok yX9_pass 1 := ⟨by decide +kernel, by decide +kernel, by decide +kernel⟩
theorem cwL_X9_pass : ts_cV RL 44 yX9_pass (Cond.code yX9_pass cX9_pass 2 (some .int)) := ⟨kw_582, kw_583, kw_584, kw_59, kw_585⟩
theorem okL_X9_promote : ts_ok yX9_promote 1 := ⟨by decide +kernel, by decide +kernel, by decide +kernel⟩
theorem cwL_X9_promote : ts_cV RL 48 yX9_promote (Cond.code yX9_promote cX9_promote 2 (some .int)) := ⟨kw_604, kw_605, kw_606, kw_59, kw_607⟩
theorem okL_X9_hoist : ts_ok yX9_hoist 1 := ⟨by decide +kernel, by decide +kernel, by decide +kernel⟩
theorem cwL_X9_hoist : ts_cV RL 52 yX9_hoist (Cond.code yX9_hoist cX9_hoist 2 (some .int)) := ⟨kw_616, kw_617, kw_618, kw_59, kw_619⟩
theorem okL_X9_call : ts_ok yX9_call 1 := ⟨by decide +kernel, by decide +kernel, by decide +kernel⟩
theorem cwL_X9_call : ts_cV RL 56 yX9_call (Cond.code yX9_call cX9_call 2 (some .int)) := ⟨kw_628, kw_629, kw_630, kw_59, kw_631⟩
theorem okL_X9_undo : ts_ok yX9_undo 0 := ⟨by decide +kernel, by decide +kernel, by decide +kernel⟩
theorem cwL_X9_undo : ts_cV RL 60 yX9_undo (Cond.code yX9_undo cX9_undo 1 (some .int)) := ⟨kw_636, kw_637, kw_638, kw_59, kw_639⟩
theorem okL_X9_behind : ts_ok yX9_behind 3 := ⟨by decide +kernel, by decide +kernel, by decide +kernel⟩
theorem cwL_X9_behind : ts_cV RL 64 yX9_behind (Cond.code yX9_behind cX9_behind 4 (some .int)) := ⟨kw_644, kw_645, kw_646, kw_59, kw_647⟩
theorem okL_X9_lowest : ts_ok yX9_lowest 1 := ⟨by decide +kernel, by decide +kernel, by decide +kernel⟩
theorem cwL_X9_lowest : ts_cV RL 69 yX9_lowest (Cond.code yX9_lowest cX9_lowest 3 (some .int)) := ⟨kw_648, kw_649, kw_650, kw_59, kw_651⟩
theorem okL_X9_posting : ts_ok yX9_posting 1 := ⟨by decide +kernel, by decide +kernel, by decide +kernel⟩
theorem cwL_X9_posting : ts_cV RL 73 yX9_posting (Cond.code yX9_posting cX9_posting 2 (some .int)) := ⟨kw_653, kw_654, kw_655, kw_59, kw_656⟩
theorem okL_X9_timetable : ts_ok yX9_timetable 2 := ⟨by decide +kernel, by decide +kernel, by decide +kernel⟩
theorem cwL_X9_timetable : ts_cV RL 77 yX9_timetable (Cond.code yX9_timetable cX9_timetable 3 (some .int)) := ⟨kw_711, kw_712, kw_713, kw_59, kw_714⟩
theorem okL_X9_swap : ts_ok yX9_swap 1 := ⟨by decide +kernel, by decide +kernel, by decide +kernel⟩
theorem cwL_X9_swap : ts_cV RL 81 yX9_swap (Cond.code yX9_swap cX9_swap 2 (some .int)) := ⟨kw_743, kw_744, kw_745, kw_59, kw_746⟩
theorem okL_X9_can : ts_ok yX9_can 3 := ⟨by decide +kernel, by decide +kernel, by decide +kernel⟩
theorem cwL_X9_can : ts_cV RL 85 yX9_can (Cond.code yX9_can cX9_can 4 (some .int)) := ⟨kw_761, kw_762, kw_763, kw_59, kw_764⟩
theorem okL_X9_seen : ts_ok yX9_seen 3 := ⟨by decide +kernel, by decide +kernel, by decide +kernel⟩
theorem cwL_X9_seen : ts_cV RL 89 yX9_seen (Cond.code yX9_seen cX9_seen 4 (some .int)) := ⟨kw_782, kw_783, kw_784, kw_59, kw_785⟩
theorem okL_X9_forget : ts_ok yX9_forget 0 := ⟨by decide +kernel, by decide +kernel, by decide +kernel⟩
theorem cwL_X9_forget : ts_cV RL 93 yX9_forget (Cond.code yX9_forget cX9_forget 2 (some .int)) := ⟨kw_790, kw_791, kw_792, kw_59, kw_793⟩
theorem okL_X9_nerves : ts_ok yX9_nerves 2 := ⟨by decide +kernel, by decide +kernel, by decide +kernel⟩
theorem cwL_X9_nerves : ts_cV RL 97 yX9_nerves (Cond.code yX9_nerves cX9_nerves 6 (some .int)) := ⟨kw_794, kw_795, kw_796, kw_59, kw_797⟩
theorem okL_X9_kinds : ts_ok yX9_kinds 1 := ⟨by decide +kernel, by decide +kernel, by decide +kernel⟩
theorem cwL_X9_kinds : ts_cV RL 101 yX9_kinds (Cond.code yX9_kinds cX9_kinds 4 (some .int)) := ⟨kw_803, kw_804, kw_805, kw_59, kw_806⟩
theorem okL_X9_likely : ts_ok yX9_likely 3 := ⟨by decide +kernel, by decide +kernel, by decide +kernel⟩
theorem cwL_X9_likely : ts_cV RL 105 yX9_likely (Cond.code yX9_likely cX9_likely 8 (some .int)) := ⟨kw_807, kw_808, kw_809, kw_59, kw_810⟩
theorem okL_X9_decade : ts_ok yX9_decade 3 := ⟨by decide +kernel, by decide +kernel, by decide +kernel⟩
theorem cwL_X9_decade : ts_cV RL 109 yX9_decade (Cond.code yX9_decade cX9_decade 5 (some .int)) := ⟨kw_837, kw_838, kw_839, kw_59, kw_840⟩
theorem okL_X9_keep : ts_ok yX9_keep 0 := ⟨by decide +kernel, by decide +kernel, by decide +kernel⟩
theorem cwL_X9_keep : ts_cV RL 113 yX9_keep (Cond.code yX9_keep cX9_keep 1 (some .int)) := ⟨kw_864, kw_865, kw_866, kw_59, kw_867⟩
theorem okL_X9_back : ts_ok yX9_back 0 := ⟨by decide +kernel, by decide +kernel, by decide +kernel⟩
theorem cwL_X9_back : ts_cV RL 117 yX9_back (Cond.code yX9_back cX9_back 1 (some .int)) := ⟨kw_868, kw_869, kw_870, kw_59, kw_871⟩
theorem okL_X9_count : ts_ok yX9_count 1 := ⟨by decide +kernel, by decide +kernel, by decide +kernel⟩
theorem cwL_X9_count : ts_cV RL 121 yX9_count (Cond.code yX9_count cX9_count 2 (some .int)) := ⟨kw_872, kw_873, kw_874, kw_59, kw_875⟩
theorem okL_X10_write : ts_ok yX10_write 1 := ⟨by decide +kernel, by decide +kernel, by decide +kernel⟩
theorem cwL_X10_write : ts_cV RL 17 yX10_write (Cond.code yX10_write cX10_write 2 (some .int)) := ⟨kw_977, kw_978, kw_979, kw_75, kw_980⟩
theorem okL_X10_wipe : ts_ok yX10_wipe 0 := ⟨by decide +kernel, by decide +kernel, by decide +kernel⟩
theorem cwL_X10_wipe : ts_cV RL 22 yX10_wipe (Cond.code yX10_wipe cX10_wipe 2 (some .int)) := ⟨kw_984, kw_985, kw_986, kw_75, kw_987⟩
theorem okL_X10_fault : ts_ok yX10_fault 0 := ⟨by decide +kernel, by decide +kernel, by decide +kernel⟩
theorem cwL_X10_fault : ts_cV RL 26 yX10_fault (Cond.code yX10_fault cX10_fault 2 (some .int)) := ⟨kw_988, kw_989, kw_990, kw_75, kw_991⟩
theorem okL_X10_lay : ts_ok yX10_lay 0 := ⟨by decide +kernel, by decide +kernel, by decide +kernel⟩
theorem cwL_X10_lay : ts_cV RL 30 yX10_lay (Cond.code yX10_lay cX10_lay 1 (some .int)) := ⟨kw_1023, kw_1024, kw_1025, kw_75, kw_1026⟩
theorem okL_X10_person : ts_ok yX10_person 2 := ⟨by decide +kernel, by decide +kernel, by decide +kernel⟩
theorem cwL_X10_person : ts_cV RL 35 yX10_person (Cond.code yX10_person cX10_person 3 (some .int)) := ⟨kw_1028, kw_1029, kw_1030, kw_75, kw_1031⟩
theorem okL_X10_fear : ts_ok yX10_fear 2 := ⟨by decide +kernel, by decide +kernel, by decide +kernel⟩
theorem cwL_X10_fear : ts_cV RL 39 yX10_fear (Cond.code yX10_fear cX10_fear 3 (some .int)) := ⟨kw_1059, kw_1060, kw_1061, kw_75, kw_1062⟩
theorem okL_X10_work : ts_ok yX10_work 2 := ⟨by decide +kernel, by decide +kernel, by decide +kernel⟩
theorem cwL_X10_work : ts_cV RL 43 yX10_work (Cond.code yX10_work cX10_work 3 (some .int)) := ⟨kw_1067, kw_1068, kw_1069, kw_75, kw_1070⟩
theorem okL_X10_pass : ts_ok yX10_pass 1 := ⟨by decide +kernel, by decide +kernel, by decide +kernel⟩
theorem cwL_X10_pass : ts_cV RL 47 yX10_pass (Cond.code yX10_pass cX10_pass 3 (some .int)) := ⟨kw_1075, kw_1076, kw_1077, kw_75, kw_1078⟩
theorem okL_X10_promote : ts_ok yX10_promote 1 := ⟨by decide +kernel, by decide +kernel, by decide +kernel⟩
theorem cwL_X10_promote : ts_cV RL 51 yX10_promote (Cond.code yX10_promote cX10_promote 2 (some .int)) := ⟨kw_1087, kw_1088, kw_1089, kw_75, kw_1090⟩
theorem okL_X10_hoist : ts_ok yX10_hoist 1 := ⟨by decide +kernel, by decide +kernel, by decide +kernel⟩
theorem cwL_X10_hoist : ts_cV RL 55 yX10_hoist (Cond.code yX10_hoist cX10_hoist 2 (some .int)) := ⟨kw_1095, kw_1096, kw_1097, kw_75, kw_1098⟩
theorem okL_X10_call : ts_ok yX10_call 1 := ⟨by decide +kernel, by decide +kernel, by decide +kernel⟩
theorem cwL_X10_call : ts_cV RL 59 yX10_call (Cond.code yX10_call cX10_call 2 (some .int)) := ⟨kw_1103, kw_1104, kw_1105, kw_75, kw_1106⟩
theorem okL_X10_undo : ts_ok yX10_undo 0 := ⟨by decide +kernel, by decide +kernel, by decide +kernel⟩
theorem cwL_X10_undo : ts_cV RL 63 yX10_undo (Cond.code yX10_undo cX10_undo 1 (some .int)) := ⟨kw_1111, kw_1112, kw_1113, kw_75, kw_1114⟩
theorem okL_X10_behind : ts_ok yX10_behind 3 := ⟨by decide +kernel, by decide +kernel, by decide +kernel⟩
theorem cwL_X10_behind : ts_cV RL 68 yX10_behind (Cond.code yX10_behind cX10_behind 5 (some .int)) := ⟨kw_1115, kw_1116, kw_1117, kw_75, kw_1118⟩
theorem okL_X10_lowest : ts_ok yX10_lowest 1 := ⟨by decide +kernel, by decide +kernel, by decide +kernel⟩
theorem cwL_X10_lowest : ts_cV RL 72 yX10_lowest (Cond.code yX10_lowest cX10_lowest 3 (some .int)) := ⟨kw_1119, kw_1120, kw_1121, kw_75, kw_1122⟩
theorem okL_X10_posting : ts_ok yX10_posting 1 := ⟨by decide +kernel, by decide +kernel, by decide +kernel⟩
theorem cwL_X10_posting : ts_cV RL 76 yX10_posting (Cond.code yX10_posting cX10_posting 5 (some .int)) := ⟨kw_1123, kw_1124, kw_1125, kw_75, kw_1126⟩
theorem okL_X10_timetable : ts_ok yX10_timetable 2 := ⟨by decide +kernel, by decide +kernel, by decide +kernel⟩
theorem cwL_X10_timetable : ts_cV RL 80 yX10_timetable (Cond.code yX10_timetable cX10_timetable 7 (some .int)) := ⟨kw_1142, kw_1143, kw_1144, kw_75, kw_1145⟩
theorem okL_X10_swap : ts_ok yX10_swap 1 := ⟨by decide +kernel, by decide +kernel, by decide +kernel⟩
theorem cwL_X10_swap : ts_cV RL 84 yX10_swap (Cond.code yX10_swap cX10_swap 7 (some .int)) := ⟨kw_1153, kw_1154, kw_1155, kw_75, kw_1156⟩
theorem okL_X10_can : ts_ok yX10_can 3 := ⟨by decide +kernel, by decide +kernel, by decide +kernel⟩
theorem cwL_X10_can : ts_cV RL 88 yX10_can (Cond.code yX10_can cX10_can 10 (some .int)) := ⟨kw_1157, kw_1158, kw_1159, kw_75, kw_1160⟩
theorem okL_X10_seen : ts_ok yX10_seen 3 := ⟨by decide +kernel, by decide +kernel, by decide +kernel⟩
theorem cwL_X10_seen : ts_cV RL 92 yX10_seen (Cond.code yX10_seen cX10_seen 4 (some .int)) := ⟨kw_1161, kw_1162, kw_1163, kw_75, kw_1164⟩
theorem okL_X10_forget : ts_ok yX10_forget 0 := ⟨by decide +kernel, by decide +kernel, by decide +kernel⟩
theorem cwL_X10_forget : ts_cV RL 96 yX10_forget (Cond.code yX10_forget cX10_forget 2 (some .int)) := ⟨kw_1165, kw_1166, kw_1167, kw_75, kw_1168⟩
theorem okL_X10_nerves : ts_ok yX10_nerves 2 := ⟨by decide +kernel, by decide +kernel, by decide +kernel⟩
theorem cwL_X10_nerves : ts_cV RL 100 yX10_nerves (Cond.code yX10_nerves cX10_nerves 7 (some .int)) := ⟨kw_1169, kw_1170, kw_1171, kw_75, kw_1172⟩
theorem okL_X10_kinds : ts_ok yX10_kinds 1 := ⟨by decide +kernel, by decide +kernel, by decide +kernel⟩
theorem cwL_X10_kinds : ts_cV RL 104 yX10_kinds (Cond.code yX10_kinds cX10_kinds 4 (some .int)) := ⟨kw_1177, kw_1178, kw_1179, kw_75, kw_1180⟩
theorem okL_X10_likely : ts_ok yX10_likely 3 := ⟨by decide +kernel, by decide +kernel, by decide +kernel⟩
theorem cwL_X10_likely : ts_cV RL 108 yX10_likely (Cond.code yX10_likely cX10_likely 10 (some .int)) := ⟨kw_1181, kw_1182, kw_1183, kw_75, kw_1184⟩
theorem okL_X10_decade : ts_ok yX10_decade 3 := ⟨by decide +kernel, by decide +kernel, by decide +kernel⟩
theorem cwL_X10_decade : ts_cV RL 112 yX10_decade (Cond.code yX10_decade cX10_decade 7 (some .int)) := ⟨kw_1188, kw_1189, kw_1190, kw_75, kw_1191⟩
theorem okL_X10_keep : ts_ok yX10_keep 0 := ⟨by decide +kernel, by decide +kernel, by decide +kernel⟩
theorem cwL_X10_keep : ts_cV RL 116 yX10_keep (Cond.code yX10_keep cX10_keep 1 (some .int)) := ⟨kw_1203, kw_1204, kw_1205, kw_75, kw_1206⟩
theorem okL_X10_back : ts_ok yX10_back 0 := ⟨by decide +kernel, by decide +kernel, by decide +kernel⟩
theorem cwL_X10_back : ts_cV RL 120 yX10_back (Cond.code yX10_back cX10_back 1 (some .int)) := ⟨kw_1207, kw_1208, kw_1209, kw_75, kw_1210⟩
theorem okL_X10_count : ts_ok yX10_count 1 := ⟨by decide +kernel, by decide +kernel, by decide +kernel⟩
theorem cwL_X10_count : ts_cV RL 124 yX10_count (Cond.code yX10_count cX10_count 2 (some .int)) := ⟨kw_1211, kw_1212, kw_1213, kw_75, kw_1214⟩
section LWC
variable {g : gw_Ctx} {v : tX_V} {b L i : Nat} {xs : Nat → Int32} {aX aM : Nat → Nat} {σ τ : ts_S} {U : sU}
set_option maxRecDepth 100000 in
set_option maxHeartbeats 4000000 in
theorem lc_0 (C : lw_C g v b L xs) (hi : i + 3 < L) (hL : L ≤ 2048) (hX : rX σ U) (hM : rM τ U) (hn : lw_N g v aX aM b i) : gw_G g v.1 4 (ts_wd (tM_w (setAd v aM)) τ ++ ts_wd (tX_w (setAd v aX)) σ) 166 1667 156 [(3, .int (nI i)), (2, .ref (aM 0)), (1, .ref (aX 0)), (0, .ref b)] [] := by
  refine gw_aload_n C.1 dL_law_156 2 rfl ?_
  refine lw_arg C hi hL 1 (by decide) (by decide) dL_law_157 dL_law_158 dL_law_159 dL_law_160 dL_law_161 ?_
  refine gw_callVi (w := tX_w (setAd v aX)) (σ := σ) (k := 0) (n := 2) (As := [.int (xs (i + 1))]) (st := []) (K := fun r σ' => r = (o_write U (xs (i + 1))).1 ∧ rX σ' (o_write U (xs (i + 1))).2) C.1 rfl rfl (by decide : 0 < 151) rfl rfl rfl (fun hj => ct_X9_write g.2.1 (setAd v aX) hj _ _ _ (px_write hX (fun σ' h => ⟨rfl, h⟩))) okL_X9_write cwL_X9_write (by rw [C.2.1]; exact Nat.le_of_ble_eq_true rfl) (by rw [C.2.1]; exact Nat.le_of_ble_eq_true rfl) (by rw [C.2.1]; exact Nat.le_of_ble_eq_true rfl) (by rw [C.2.1]; exact Nat.le_of_ble_eq_true rfl) rfl rfl (Nat.le_of_ble_eq_true rfl) dL_law_162 (fun r1 σ1 h1 => ?_)
  obtain ⟨rfl, h1⟩ := h1
  refine gw_perm List.perm_append_comm ?_
  refine gw_aload_n C.1 dL_law_165 1 rfl ?_
  refine lw_arg C hi hL 1 (by decide) (by decide) dL_law_166 dL_law_167 dL_law_168 dL_law_169 dL_law_170 ?_
  refine gw_callVi (w := tM_w (setAd v aM)) (σ := τ) (k := 0) (n := 2) (As := [.int (xs (i + 1))]) (st := [.int ((o_write U (xs (i + 1))).1)]) (K := fun r τ' => r = (o_write U (xs (i + 1))).1 ∧ rM τ' (o_write U (xs (i + 1))).2) C.1 rfl rfl (by decide : 0 < 15) rfl rfl rfl (fun hj => ct_X10_write g.2.1 (setAd v aM) hj _ _ _ (pm_write hX.1 hM (fun τ' h => ⟨rfl, h⟩))) okL_X10_write cwL_X10_write (by rw [C.2.1]; exact Nat.le_of_ble_eq_true rfl) (by rw [C.2.1]; exact Nat.le_of_ble_eq_true rfl) (by rw [C.2.1]; exact Nat.le_of_ble_eq_true rfl) (by rw [C.2.1]; exact Nat.le_of_ble_eq_true rfl) rfl rfl (Nat.le_of_ble_eq_true rfl) dL_law_171 (fun r2 τ1 h2 => ?_)
  obtain ⟨rfl, h2⟩ := h2
  refine gw_icmp_eq 857 C.1 dL_law_174 (by decide) (fun _ => ?_) (fun c => absurd rfl c)
  refine gw_perm List.perm_append_comm ?_
  exact hn _ _ _ h1 h2
set_option maxRecDepth 100000 in
set_option maxHeartbeats 4000000 in
theorem lc_1 (C : lw_C g v b L xs) (hi : i + 3 < L) (hL : L ≤ 2048) (hX : rX σ U) (hM : rM τ U) (hn : lw_N g v aX aM b i) : gw_G g v.1 4 (ts_wd (tM_w (setAd v aM)) τ ++ ts_wd (tX_w (setAd v aX)) σ) 166 1667 179 [(3, .int (nI i)), (2, .ref (aM 0)), (1, .ref (aX 0)), (0, .ref b)] [] := by
  refine gw_aload_n C.1 dL_law_179 2 rfl ?_
  refine gw_callVi (w := tX_w (setAd v aX)) (σ := σ) (k := 0) (n := 2) (As := []) (st := []) (K := fun r σ' => r = (o_wipe U).1 ∧ rX σ' (o_wipe U).2) C.1 rfl rfl (by decide : 0 < 151) rfl rfl rfl (fun hj => ct_X9_wipe g.2.1 (setAd v aX) hj _ _  (px_wipe hX (fun σ' h => ⟨rfl, h⟩))) okL_X9_wipe cwL_X9_wipe (by rw [C.2.1]; exact Nat.le_of_ble_eq_true rfl) (by rw [C.2.1]; exact Nat.le_of_ble_eq_true rfl) (by rw [C.2.1]; exact Nat.le_of_ble_eq_true rfl) (by rw [C.2.1]; exact Nat.le_of_ble_eq_true rfl) rfl rfl (Nat.le_of_ble_eq_true rfl) dL_law_180 (fun r1 σ1 h1 => ?_)
  obtain ⟨rfl, h1⟩ := h1
  refine gw_perm List.perm_append_comm ?_
  refine gw_aload_n C.1 dL_law_183 1 rfl ?_
  refine gw_callVi (w := tM_w (setAd v aM)) (σ := τ) (k := 0) (n := 1) (As := []) (st := [.int ((o_wipe U).1)]) (K := fun r τ' => r = (o_wipe U).1 ∧ rM τ' (o_wipe U).2) C.1 rfl rfl (by decide : 0 < 15) rfl rfl rfl (fun hj => ct_X10_wipe g.2.1 (setAd v aM) hj _ _  (pm_wipe hM (fun τ' h => ⟨rfl, h⟩))) okL_X10_wipe cwL_X10_wipe (by rw [C.2.1]; exact Nat.le_of_ble_eq_true rfl) (by rw [C.2.1]; exact Nat.le_of_ble_eq_true rfl) (by rw [C.2.1]; exact Nat.le_of_ble_eq_true rfl) (by rw [C.2.1]; exact Nat.le_of_ble_eq_true rfl) rfl rfl (Nat.le_of_ble_eq_true rfl) dL_law_184 (fun r2 τ1 h2 => ?_)
  obtain ⟨rfl, h2⟩ := h2
  refine gw_icmp_eq 857 C.1 dL_law_187 (by decide) (fun _ => ?_) (fun c => absurd rfl c)
  refine gw_perm List.perm_append_comm ?_
  exact hn _ _ _ h1 h2
set_option maxRecDepth 100000 in
set_option maxHeartbeats 4000000 in
theorem lc_2 (C : lw_C g v b L xs) (hi : i + 3 < L) (hL : L ≤ 2048) (hX : rX σ U) (hM : rM τ U) (hn : lw_N g v aX aM b i) : gw_G g v.1 4 (ts_wd (tM_w (setAd v aM)) τ ++ ts_wd (tX_w (setAd v aX)) σ) 166 1667 192 [(3, .int (nI i)), (2, .ref (aM 0)), (1, .ref (aX 0)), (0, .ref b)] [] := by
  refine gw_aload_n C.1 dL_law_192 2 rfl ?_
  refine gw_callVi (w := tX_w (setAd v aX)) (σ := σ) (k := 0) (n := 6) (As := []) (st := []) (K := fun r σ' => r = o_fault U ∧ rX σ' U) C.1 rfl rfl (by decide : 0 < 151) rfl rfl rfl (fun hj => ct_X9_fault g.2.1 (setAd v aX) hj _ _  (px_fault hX (fun σ' h => ⟨rfl, h⟩))) okL_X9_fault cwL_X9_fault (by rw [C.2.1]; exact Nat.le_of_ble_eq_true rfl) (by rw [C.2.1]; exact Nat.le_of_ble_eq_true rfl) (by rw [C.2.1]; exact Nat.le_of_ble_eq_true rfl) (by rw [C.2.1]; exact Nat.le_of_ble_eq_true rfl) rfl rfl (Nat.le_of_ble_eq_true rfl) dL_law_193 (fun r1 σ1 h1 => ?_)
  obtain ⟨rfl, h1⟩ := h1
  refine gw_perm List.perm_append_comm ?_
  refine gw_aload_n C.1 dL_law_196 1 rfl ?_
  refine gw_callVi (w := tM_w (setAd v aM)) (σ := τ) (k := 0) (n := 6) (As := []) (st := [.int (o_fault U)]) (K := fun r τ' => r = o_fault U ∧ rM τ' U) C.1 rfl rfl (by decide : 0 < 15) rfl rfl rfl (fun hj => ct_X10_fault g.2.1 (setAd v aM) hj _ _  (pm_fault hX.1 hM (fun τ' h => ⟨rfl, h⟩))) okL_X10_fault cwL_X10_fault (by rw [C.2.1]; exact Nat.le_of_ble_eq_true rfl) (by rw [C.2.1]; exact Nat.le_of_ble_eq_true rfl) (by rw [C.2.1]; exact Nat.le_of_ble_eq_true rfl) (by rw [C.2.1]; exact Nat.le_of_ble_eq_true rfl) rfl rfl (Nat.le_of_ble_eq_true rfl) dL_law_197 (fun r2 τ1 h2 => ?_)
  obtain ⟨rfl, h2⟩ := h2
  refine gw_icmp_eq 857 C.1 dL_law_200 (by decide) (fun _ => ?_) (fun c => absurd rfl c)
  refine gw_perm List.perm_append_comm ?_
  exact hn _ _ _ h1 h2
set_option maxRecDepth 100000 in
set_option maxHeartbeats 4000000 in
theorem lc_3 (C : lw_C g v b L xs) (hi : i + 3 < L) (hL : L ≤ 2048) (hX : rX σ U) (hM : rM τ U) (hn : lw_N g v aX aM b i) : gw_G g v.1 4 (ts_wd (tM_w (setAd v aM)) τ ++ ts_wd (tX_w (setAd v aX)) σ) 166 1667 205 [(3, .int (nI i)), (2, .ref (aM 0)), (1, .ref (aX 0)), (0, .ref b)] [] := by
  refine gw_aload_n C.1 dL_law_205 2 rfl ?_
  refine gw_callVi (w := tX_w (setAd v aX)) (σ := σ) (k := 0) (n := 6) (As := []) (st := []) (K := fun r σ' => r = (o_lay U).1 ∧ rX σ' (o_lay U).2) C.1 rfl rfl (by decide : 0 < 151) rfl rfl rfl (fun hj => ct_X9_lay g.2.1 (setAd v aX) hj _ _  (px_lay hX (fun σ' h => ⟨rfl, h⟩))) okL_X9_lay cwL_X9_lay (by rw [C.2.1]; exact Nat.le_of_ble_eq_true rfl) (by rw [C.2.1]; exact Nat.le_of_ble_eq_true rfl) (by rw [C.2.1]; exact Nat.le_of_ble_eq_true rfl) (by rw [C.2.1]; exact Nat.le_of_ble_eq_true rfl) rfl rfl (Nat.le_of_ble_eq_true rfl) dL_law_206 (fun r1 σ1 h1 => ?_)
  obtain ⟨rfl, h1⟩ := h1
  refine gw_perm List.perm_append_comm ?_
  refine gw_aload_n C.1 dL_law_209 1 rfl ?_
  refine gw_callVi (w := tM_w (setAd v aM)) (σ := τ) (k := 0) (n := 7) (As := []) (st := [.int ((o_lay U).1)]) (K := fun r τ' => r = (o_lay U).1 ∧ rM τ' (o_lay U).2) C.1 rfl rfl (by decide : 0 < 15) rfl rfl rfl (fun hj => ct_X10_lay g.2.1 (setAd v aM) hj _ _  (pm_lay hX.1 hM (fun τ' h => ⟨rfl, h⟩))) okL_X10_lay cwL_X10_lay (by rw [C.2.1]; exact Nat.le_of_ble_eq_true rfl) (by rw [C.2.1]; exact Nat.le_of_ble_eq_true rfl) (by rw [C.2.1]; exact Nat.le_of_ble_eq_true rfl) (by rw [C.2.1]; exact Nat.le_of_ble_eq_true rfl) rfl rfl (Nat.le_of_ble_eq_true rfl) dL_law_210 (fun r2 τ1 h2 => ?_)
  obtain ⟨rfl, h2⟩ := h2
  refine gw_icmp_eq 857 C.1 dL_law_213 (by decide) (fun _ => ?_) (fun c => absurd rfl c)
  refine gw_perm List.perm_append_comm ?_
  exact hn _ _ _ h1 h2
set_option maxRecDepth 100000 in
set_option maxHeartbeats 4000000 in
theorem lc_4 (C : lw_C g v b L xs) (hi : i + 3 < L) (hL : L ≤ 2048) (hX : rX σ U) (hM : rM τ U) (hn : lw_N g v aX aM b i) : gw_G g v.1 4 (ts_wd (tM_w (setAd v aM)) τ ++ ts_wd (tX_w (setAd v aX)) σ) 166 1667 218 [(3, .int (nI i)), (2, .ref (aM 0)), (1, .ref (aX 0)), (0, .ref b)] [] := by
  refine gw_aload_n C.1 dL_law_218 2 rfl ?_
  refine lw_arg C hi hL 1 (by decide) (by decide) dL_law_219 dL_law_220 dL_law_221 dL_law_222 dL_law_223 ?_
  refine lw_arg C hi hL 2 (by decide) (by decide) dL_law_224 dL_law_225 dL_law_226 dL_law_227 dL_law_228 ?_
  refine gw_callVi (w := tX_w (setAd v aX)) (σ := σ) (k := 0) (n := 4) (As := [.int (xs (i + 1)), .int (xs (i + 2))]) (st := []) (K := fun r σ' => r = o_person U (xs (i + 1)) (xs (i + 2)) ∧ rX σ' U) C.1 rfl rfl (by decide : 0 < 151) rfl rfl rfl (fun hj => ct_X9_person g.2.1 (setAd v aX) hj _ _ _ _ (px_person hX ⟨rfl, hX⟩)) okL_X9_person cwL_X9_person (by rw [C.2.1]; exact Nat.le_of_ble_eq_true rfl) (by rw [C.2.1]; exact Nat.le_of_ble_eq_true rfl) (by rw [C.2.1]; exact Nat.le_of_ble_eq_true rfl) (by rw [C.2.1]; exact Nat.le_of_ble_eq_true rfl) rfl rfl (Nat.le_of_ble_eq_true rfl) dL_law_229 (fun r1 σ1 h1 => ?_)
  obtain ⟨rfl, h1⟩ := h1
  refine gw_perm List.perm_append_comm ?_
  refine gw_aload_n C.1 dL_law_232 1 rfl ?_
  refine lw_arg C hi hL 1 (by decide) (by decide) dL_law_233 dL_law_234 dL_law_235 dL_law_236 dL_law_237 ?_
  refine lw_arg C hi hL 2 (by decide) (by decide) dL_law_238 dL_law_239 dL_law_240 dL_law_241 dL_law_242 ?_
  refine gw_callVi (w := tM_w (setAd v aM)) (σ := τ) (k := 0) (n := 5) (As := [.int (xs (i + 1)), .int (xs (i + 2))]) (st := [.int (o_person U (xs (i + 1)) (xs (i + 2)))]) (K := fun r τ' => r = o_person U (xs (i + 1)) (xs (i + 2)) ∧ rM τ' U) C.1 rfl rfl (by decide : 0 < 15) rfl rfl rfl (fun hj => ct_X10_person g.2.1 (setAd v aM) hj _ _ _ _ (pm_person hX.1 hM (fun τ' h => ⟨rfl, h⟩))) okL_X10_person cwL_X10_person (by rw [C.2.1]; exact Nat.le_of_ble_eq_true rfl) (by rw [C.2.1]; exact Nat.le_of_ble_eq_true rfl) (by rw [C.2.1]; exact Nat.le_of_ble_eq_true rfl) (by rw [C.2.1]; exact Nat.le_of_ble_eq_true rfl) rfl rfl (Nat.le_of_ble_eq_true rfl) dL_law_243 (fun r2 τ1 h2 => ?_)
  obtain ⟨rfl, h2⟩ := h2
  refine gw_icmp_eq 857 C.1 dL_law_246 (by decide) (fun _ => ?_) (fun c => absurd rfl c)
  refine gw_perm List.perm_append_comm ?_
  exact hn _ _ _ h1 h2
set_option maxRecDepth 100000 in
set_option maxHeartbeats 4000000 in
theorem lc_5 (C : lw_C g v b L xs) (hi : i + 3 < L) (hL : L ≤ 2048) (hX : rX σ U) (hM : rM τ U) (hn : lw_N g v aX aM b i) : gw_G g v.1 4 (ts_wd (tM_w (setAd v aM)) τ ++ ts_wd (tX_w (setAd v aX)) σ) 166 1667 251 [(3, .int (nI i)), (2, .ref (aM 0)), (1, .ref (aX 0)), (0, .ref b)] [] := by
  refine gw_aload_n C.1 dL_law_251 2 rfl ?_
  refine lw_arg C hi hL 1 (by decide) (by decide) dL_law_252 dL_law_253 dL_law_254 dL_law_255 dL_law_256 ?_
  refine lw_arg C hi hL 2 (by decide) (by decide) dL_law_257 dL_law_258 dL_law_259 dL_law_260 dL_law_261 ?_
  refine gw_callVi (w := tX_w (setAd v aX)) (σ := σ) (k := 0) (n := 4) (As := [.int (xs (i + 1)), .int (xs (i + 2))]) (st := []) (K := fun r σ' => r = o_fear U (xs (i + 1)) (xs (i + 2)) ∧ rX σ' U) C.1 rfl rfl (by decide : 0 < 151) rfl rfl rfl (fun hj => ct_X9_fear g.2.1 (setAd v aX) hj _ _ _ _ (px_fear hX ⟨rfl, hX⟩)) okL_X9_fear cwL_X9_fear (by rw [C.2.1]; exact Nat.le_of_ble_eq_true rfl) (by rw [C.2.1]; exact Nat.le_of_ble_eq_true rfl) (by rw [C.2.1]; exact Nat.le_of_ble_eq_true rfl) (by rw [C.2.1]; exact Nat.le_of_ble_eq_true rfl) rfl rfl (Nat.le_of_ble_eq_true rfl) dL_law_262 (fun r1 σ1 h1 => ?_)
  obtain ⟨rfl, h1⟩ := h1
  refine gw_perm List.perm_append_comm ?_
  refine gw_aload_n C.1 dL_law_265 1 rfl ?_
  refine lw_arg C hi hL 1 (by decide) (by decide) dL_law_266 dL_law_267 dL_law_268 dL_law_269 dL_law_270 ?_
  refine lw_arg C hi hL 2 (by decide) (by decide) dL_law_271 dL_law_272 dL_law_273 dL_law_274 dL_law_275 ?_
  refine gw_callVi (w := tM_w (setAd v aM)) (σ := τ) (k := 0) (n := 3) (As := [.int (xs (i + 1)), .int (xs (i + 2))]) (st := [.int (o_fear U (xs (i + 1)) (xs (i + 2)))]) (K := fun r τ' => r = o_fear U (xs (i + 1)) (xs (i + 2)) ∧ rM τ' U) C.1 rfl rfl (by decide : 0 < 15) rfl rfl rfl (fun hj => ct_X10_fear g.2.1 (setAd v aM) hj _ _ _ _ (pm_fear hX.1 hM (fun τ' h => ⟨rfl, h⟩))) okL_X10_fear cwL_X10_fear (by rw [C.2.1]; exact Nat.le_of_ble_eq_true rfl) (by rw [C.2.1]; exact Nat.le_of_ble_eq_true rfl) (by rw [C.2.1]; exact Nat.le_of_ble_eq_true rfl) (by rw [C.2.1]; exact Nat.le_of_ble_eq_true rfl) rfl rfl (Nat.le_of_ble_eq_true rfl) dL_law_276 (fun r2 τ1 h2 => ?_)
  obtain ⟨rfl, h2⟩ := h2
  refine gw_icmp_eq 857 C.1 dL_law_279 (by decide) (fun _ => ?_) (fun c => absurd rfl c)
  refine gw_perm List.perm_append_comm ?_
  exact hn _ _ _ h1 h2
set_option maxRecDepth 100000 in
set_option maxHeartbeats 4000000 in
theorem lc_6 (C : lw_C g v b L xs) (hi : i + 3 < L) (hL : L ≤ 2048) (hX : rX σ U) (hM : rM τ U) (hn : lw_N g v aX aM b i) : gw_G g v.1 4 (ts_wd (tM_w (setAd v aM)) τ ++ ts_wd (tX_w (setAd v aX)) σ) 166 1667 284 [(3, .int (nI i)), (2, .ref (aM 0)), (1, .ref (aX 0)), (0, .ref b)] [] := by
  refine gw_aload_n C.1 dL_law_284 2 rfl ?_
  refine lw_arg C hi hL 1 (by decide) (by decide) dL_law_285 dL_law_286 dL_law_287 dL_law_288 dL_law_289 ?_
  refine lw_arg C hi hL 2 (by decide) (by decide) dL_law_290 dL_law_291 dL_law_292 dL_law_293 dL_law_294 ?_
  refine gw_callVi (w := tX_w (setAd v aX)) (σ := σ) (k := 0) (n := 5) (As := [.int (xs (i + 1)), .int (xs (i + 2))]) (st := []) (K := fun r σ' => r = o_work U (xs (i + 1)) (xs (i + 2)) ∧ rX σ' U) C.1 rfl rfl (by decide : 0 < 151) rfl rfl rfl (fun hj => ct_X9_work g.2.1 (setAd v aX) hj _ _ _ _ (px_work hX ⟨rfl, hX⟩)) okL_X9_work cwL_X9_work (by rw [C.2.1]; exact Nat.le_of_ble_eq_true rfl) (by rw [C.2.1]; exact Nat.le_of_ble_eq_true rfl) (by rw [C.2.1]; exact Nat.le_of_ble_eq_true rfl) (by rw [C.2.1]; exact Nat.le_of_ble_eq_true rfl) rfl rfl (Nat.le_of_ble_eq_true rfl) dL_law_295 (fun r1 σ1 h1 => ?_)
  obtain ⟨rfl, h1⟩ := h1
  refine gw_perm List.perm_append_comm ?_
  refine gw_aload_n C.1 dL_law_298 1 rfl ?_
  refine lw_arg C hi hL 1 (by decide) (by decide) dL_law_299 dL_law_300 dL_law_301 dL_law_302 dL_law_303 ?_
  refine lw_arg C hi hL 2 (by decide) (by decide) dL_law_304 dL_law_305 dL_law_306 dL_law_307 dL_law_308 ?_
  refine gw_callVi (w := tM_w (setAd v aM)) (σ := τ) (k := 0) (n := 5) (As := [.int (xs (i + 1)), .int (xs (i + 2))]) (st := [.int (o_work U (xs (i + 1)) (xs (i + 2)))]) (K := fun r τ' => r = o_work U (xs (i + 1)) (xs (i + 2)) ∧ rM τ' U) C.1 rfl rfl (by decide : 0 < 15) rfl rfl rfl (fun hj => ct_X10_work g.2.1 (setAd v aM) hj _ _ _ _ (pm_work hX.1 hM (fun τ' h => ⟨rfl, h⟩))) okL_X10_work cwL_X10_work (by rw [C.2.1]; exact Nat.le_of_ble_eq_true rfl) (by rw [C.2.1]; exact Nat.le_of_ble_eq_true rfl) (by rw [C.2.1]; exact Nat.le_of_ble_eq_true rfl) (by rw [C.2.1]; exact Nat.le_of_ble_eq_true rfl) rfl rfl (Nat.le_of_ble_eq_true rfl) dL_law_309 (fun r2 τ1 h2 => ?_)
  obtain ⟨rfl, h2⟩ := h2
  refine gw_icmp_eq 857 C.1 dL_law_312 (by decide) (fun _ => ?_) (fun c => absurd rfl c)
  refine gw_perm List.perm_append_comm ?_
  exact hn _ _ _ h1 h2
set_option maxRecDepth 100000 in
set_option maxHeartbeats 4000000 in
theorem lc_7 (C : lw_C g v b L xs) (hi : i + 3 < L) (hL : L ≤ 2048) (hX : rX σ U) (hM : rM τ U) (hn : lw_N g v aX aM b i) : gw_G g v.1 4 (ts_wd (tM_w (setAd v aM)) τ ++ ts_wd (tX_w (setAd v aX)) σ) 166 1667 317 [(3, .int (nI i)), (2, .ref (aM 0)), (1, .ref (aX 0)), (0, .ref b)] [] := by
  refine gw_aload_n C.1 dL_law_317 2 rfl ?_
  refine lw_arg C hi hL 1 (by decide) (by decide) dL_law_318 dL_law_319 dL_law_320 dL_law_321 dL_law_322 ?_
  refine gw_callVi (w := tX_w (setAd v aX)) (σ := σ) (k := 0) (n := 6) (As := [.int (xs (i + 1))]) (st := []) (K := fun r σ' => r = (o_pass U (xs (i + 1))).1 ∧ rX σ' (o_pass U (xs (i + 1))).2) C.1 rfl rfl (by decide : 0 < 151) rfl rfl rfl (fun hj => ct_X9_pass g.2.1 (setAd v aX) hj _ _ _ (px_pass hX (fun σ' h => ⟨rfl, h⟩))) okL_X9_pass cwL_X9_pass (by rw [C.2.1]; exact Nat.le_of_ble_eq_true rfl) (by rw [C.2.1]; exact Nat.le_of_ble_eq_true rfl) (by rw [C.2.1]; exact Nat.le_of_ble_eq_true rfl) (by rw [C.2.1]; exact Nat.le_of_ble_eq_true rfl) rfl rfl (Nat.le_of_ble_eq_true rfl) dL_law_323 (fun r1 σ1 h1 => ?_)
  obtain ⟨rfl, h1⟩ := h1
  refine gw_perm List.perm_append_comm ?_
  refine gw_aload_n C.1 dL_law_326 1 rfl ?_
  refine lw_arg C hi hL 1 (by decide) (by decide) dL_law_327 dL_law_328 dL_law_329 dL_law_330 dL_law_331 ?_
  refine gw_callVi (w := tM_w (setAd v aM)) (σ := τ) (k := 0) (n := 6) (As := [.int (xs (i + 1))]) (st := [.int ((o_pass U (xs (i + 1))).1)]) (K := fun r τ' => r = (o_pass U (xs (i + 1))).1 ∧ rM τ' (o_pass U (xs (i + 1))).2) C.1 rfl rfl (by decide : 0 < 15) rfl rfl rfl (fun hj => ct_X10_pass g.2.1 (setAd v aM) hj _ _ _ (pm_pass hX.1 hM (fun τ' h => ⟨rfl, h⟩))) okL_X10_pass cwL_X10_pass (by rw [C.2.1]; exact Nat.le_of_ble_eq_true rfl) (by rw [C.2.1]; exact Nat.le_of_ble_eq_true rfl) (by rw [C.2.1]; exact Nat.le_of_ble_eq_true rfl) (by rw [C.2.1]; exact Nat.le_of_ble_eq_true rfl) rfl rfl (Nat.le_of_ble_eq_true rfl) dL_law_332 (fun r2 τ1 h2 => ?_)
  obtain ⟨rfl, h2⟩ := h2
  refine gw_icmp_eq 857 C.1 dL_law_335 (by decide) (fun _ => ?_) (fun c => absurd rfl c)
  refine gw_perm List.perm_append_comm ?_
  exact hn _ _ _ h1 h2
set_option maxRecDepth 100000 in
set_option maxHeartbeats 4000000 in
theorem lc_8 (C : lw_C g v b L xs) (hi : i + 3 < L) (hL : L ≤ 2048) (hX : rX σ U) (hM : rM τ U) (hn : lw_N g v aX aM b i) : gw_G g v.1 4 (ts_wd (tM_w (setAd v aM)) τ ++ ts_wd (tX_w (setAd v aX)) σ) 166 1667 340 [(3, .int (nI i)), (2, .ref (aM 0)), (1, .ref (aX 0)), (0, .ref b)] [] := by
  refine gw_aload_n C.1 dL_law_340 2 rfl ?_
  refine lw_arg C hi hL 1 (by decide) (by decide) dL_law_341 dL_law_342 dL_law_343 dL_law_344 dL_law_345 ?_
  refine gw_callVi (w := tX_w (setAd v aX)) (σ := σ) (k := 0) (n := 5) (As := [.int (xs (i + 1))]) (st := []) (K := fun r σ' => r = (o_promote U (xs (i + 1))).1 ∧ rX σ' (o_promote U (xs (i + 1))).2) C.1 rfl rfl (by decide : 0 < 151) rfl rfl rfl (fun hj => ct_X9_promote g.2.1 (setAd v aX) hj _ _ _ (px_promote hX (fun σ' h => ⟨rfl, h⟩))) okL_X9_promote cwL_X9_promote (by rw [C.2.1]; exact Nat.le_of_ble_eq_true rfl) (by rw [C.2.1]; exact Nat.le_of_ble_eq_true rfl) (by rw [C.2.1]; exact Nat.le_of_ble_eq_true rfl) (by rw [C.2.1]; exact Nat.le_of_ble_eq_true rfl) rfl rfl (Nat.le_of_ble_eq_true rfl) dL_law_346 (fun r1 σ1 h1 => ?_)
  obtain ⟨rfl, h1⟩ := h1
  refine gw_perm List.perm_append_comm ?_
  refine gw_aload_n C.1 dL_law_349 1 rfl ?_
  refine lw_arg C hi hL 1 (by decide) (by decide) dL_law_350 dL_law_351 dL_law_352 dL_law_353 dL_law_354 ?_
  refine gw_callVi (w := tM_w (setAd v aM)) (σ := τ) (k := 0) (n := 6) (As := [.int (xs (i + 1))]) (st := [.int ((o_promote U (xs (i + 1))).1)]) (K := fun r τ' => r = (o_promote U (xs (i + 1))).1 ∧ rM τ' (o_promote U (xs (i + 1))).2) C.1 rfl rfl (by decide : 0 < 15) rfl rfl rfl (fun hj => ct_X10_promote g.2.1 (setAd v aM) hj _ _ _ (pm_promote hX.1 hM (fun τ' h => ⟨rfl, h⟩))) okL_X10_promote cwL_X10_promote (by rw [C.2.1]; exact Nat.le_of_ble_eq_true rfl) (by rw [C.2.1]; exact Nat.le_of_ble_eq_true rfl) (by rw [C.2.1]; exact Nat.le_of_ble_eq_true rfl) (by rw [C.2.1]; exact Nat.le_of_ble_eq_true rfl) rfl rfl (Nat.le_of_ble_eq_true rfl) dL_law_355 (fun r2 τ1 h2 => ?_)
  obtain ⟨rfl, h2⟩ := h2
  refine gw_icmp_eq 857 C.1 dL_law_358 (by decide) (fun _ => ?_) (fun c => absurd rfl c)
  refine gw_perm List.perm_append_comm ?_
  exact hn _ _ _ h1 h2
set_option maxRecDepth 100000 in
set_option maxHeartbeats 4000000 in
theorem lc_9 (C : lw_C g v b L xs) (hi : i + 3 < L) (hL : L ≤ 2048) (hX : rX σ U) (hM : rM τ U) (hn : lw_N g v aX aM b i) : gw_G g v.1 4 (ts_wd (tM_w (setAd v aM)) τ ++ ts_wd (tX_w (setAd v aX)) σ) 166 1667 363 [(3, .int (nI i)), (2, .ref (aM 0)), (1, .ref (aX 0)), (0, .ref b)] [] := by
  refine gw_aload_n C.1 dL_law_363 2 rfl ?_
  refine lw_arg C hi hL 1 (by decide) (by decide) dL_law_364 dL_law_365 dL_law_366 dL_law_367 dL_law_368 ?_
  refine gw_callVi (w := tX_w (setAd v aX)) (σ := σ) (k := 0) (n := 3) (As := [.int (xs (i + 1))]) (st := []) (K := fun r σ' => r = (o_hoist U (xs (i + 1))).1 ∧ rX σ' (o_hoist U (xs (i + 1))).2) C.1 rfl rfl (by decide : 0 < 151) rfl rfl rfl (fun hj => ct_X9_hoist g.2.1 (setAd v aX) hj _ _ _ (px_hoist hX (fun σ' h => ⟨rfl, h⟩))) okL_X9_hoist cwL_X9_hoist (by rw [C.2.1]; exact Nat.le_of_ble_eq_true rfl) (by rw [C.2.1]; exact Nat.le_of_ble_eq_true rfl) (by rw [C.2.1]; exact Nat.le_of_ble_eq_true rfl) (by rw [C.2.1]; exact Nat.le_of_ble_eq_true rfl) rfl rfl (Nat.le_of_ble_eq_true rfl) dL_law_369 (fun r1 σ1 h1 => ?_)
  obtain ⟨rfl, h1⟩ := h1
  refine gw_perm List.perm_append_comm ?_
  refine gw_aload_n C.1 dL_law_372 1 rfl ?_
  refine lw_arg C hi hL 1 (by decide) (by decide) dL_law_373 dL_law_374 dL_law_375 dL_law_376 dL_law_377 ?_
  refine gw_callVi (w := tM_w (setAd v aM)) (σ := τ) (k := 0) (n := 3) (As := [.int (xs (i + 1))]) (st := [.int ((o_hoist U (xs (i + 1))).1)]) (K := fun r τ' => r = (o_hoist U (xs (i + 1))).1 ∧ rM τ' (o_hoist U (xs (i + 1))).2) C.1 rfl rfl (by decide : 0 < 15) rfl rfl rfl (fun hj => ct_X10_hoist g.2.1 (setAd v aM) hj _ _ _ (pm_hoist hX.1 hM (fun τ' h => ⟨rfl, h⟩))) okL_X10_hoist cwL_X10_hoist (by rw [C.2.1]; exact Nat.le_of_ble_eq_true rfl) (by rw [C.2.1]; exact Nat.le_of_ble_eq_true rfl) (by rw [C.2.1]; exact Nat.le_of_ble_eq_true rfl) (by rw [C.2.1]; exact Nat.le_of_ble_eq_true rfl) rfl rfl (Nat.le_of_ble_eq_true rfl) dL_law_378 (fun r2 τ1 h2 => ?_)
  obtain ⟨rfl, h2⟩ := h2
  refine gw_icmp_eq 857 C.1 dL_law_381 (by decide) (fun _ => ?_) (fun c => absurd rfl c)
  refine gw_perm List.perm_append_comm ?_
  exact hn _ _ _ h1 h2
set_option maxRecDepth 100000 in
set_option maxHeartbeats 4000000 in
theorem lc_10 (C : lw_C g v b L xs) (hi : i + 3 < L) (hL : L ≤ 2048) (hX : rX σ U) (hM : rM τ U) (hn : lw_N g v aX aM b i) : gw_G g v.1 4 (ts_wd (tM_w (setAd v aM)) τ ++ ts_wd (tX_w (setAd v aX)) σ) 166 1667 386 [(3, .int (nI i)), (2, .ref (aM 0)), (1, .ref (aX 0)), (0, .ref b)] [] := by
  refine gw_aload_n C.1 dL_law_386 2 rfl ?_
  refine lw_arg C hi hL 1 (by decide) (by decide) dL_law_387 dL_law_388 dL_law_389 dL_law_390 dL_law_391 ?_
  refine gw_callVi (w := tX_w (setAd v aX)) (σ := σ) (k := 0) (n := 5) (As := [.int (xs (i + 1))]) (st := []) (K := fun r σ' => r = (o_call U (xs (i + 1))).1 ∧ rX σ' (o_call U (xs (i + 1))).2) C.1 rfl rfl (by decide : 0 < 151) rfl rfl rfl (fun hj => ct_X9_call g.2.1 (setAd v aX) hj _ _ _ (px_call hX (fun σ' h => ⟨rfl, h⟩))) okL_X9_call cwL_X9_call (by rw [C.2.1]; exact Nat.le_of_ble_eq_true rfl) (by rw [C.2.1]; exact Nat.le_of_ble_eq_true rfl) (by rw [C.2.1]; exact Nat.le_of_ble_eq_true rfl) (by rw [C.2.1]; exact Nat.le_of_ble_eq_true rfl) rfl rfl (Nat.le_of_ble_eq_true rfl) dL_law_392 (fun r1 σ1 h1 => ?_)
  obtain ⟨rfl, h1⟩ := h1
  refine gw_perm List.perm_append_comm ?_
  refine gw_aload_n C.1 dL_law_395 1 rfl ?_
  refine lw_arg C hi hL 1 (by decide) (by decide) dL_law_396 dL_law_397 dL_law_398 dL_law_399 dL_law_400 ?_
  refine gw_callVi (w := tM_w (setAd v aM)) (σ := τ) (k := 0) (n := 6) (As := [.int (xs (i + 1))]) (st := [.int ((o_call U (xs (i + 1))).1)]) (K := fun r τ' => r = (o_call U (xs (i + 1))).1 ∧ rM τ' (o_call U (xs (i + 1))).2) C.1 rfl rfl (by decide : 0 < 15) rfl rfl rfl (fun hj => ct_X10_call g.2.1 (setAd v aM) hj _ _ _ (pm_call hX.1 hM (fun τ' h => ⟨rfl, h⟩))) okL_X10_call cwL_X10_call (by rw [C.2.1]; exact Nat.le_of_ble_eq_true rfl) (by rw [C.2.1]; exact Nat.le_of_ble_eq_true rfl) (by rw [C.2.1]; exact Nat.le_of_ble_eq_true rfl) (by rw [C.2.1]; exact Nat.le_of_ble_eq_true rfl) rfl rfl (Nat.le_of_ble_eq_true rfl) dL_law_401 (fun r2 τ1 h2 => ?_)
  obtain ⟨rfl, h2⟩ := h2
  refine gw_icmp_eq 857 C.1 dL_law_404 (by decide) (fun _ => ?_) (fun c => absurd rfl c)
  refine gw_perm List.perm_append_comm ?_
  exact hn _ _ _ h1 h2
set_option maxRecDepth 100000 in
set_option maxHeartbeats 4000000 in
theorem lc_11 (C : lw_C g v b L xs) (hi : i + 3 < L) (hL : L ≤ 2048) (hX : rX σ U) (hM : rM τ U) (hn : lw_N g v aX aM b i) : gw_G g v.1 4 (ts_wd (tM_w (setAd v aM)) τ ++ ts_wd (tX_w (setAd v aX)) σ) 166 1667 409 [(3, .int (nI i)), (2, .ref (aM 0)), (1, .ref (aX 0)), (0, .ref b)] [] := by
  refine gw_aload_n C.1 dL_law_409 2 rfl ?_
  refine gw_callVi (w := tX_w (setAd v aX)) (σ := σ) (k := 0) (n := 3) (As := []) (st := []) (K := fun r σ' => r = (o_undo U).1 ∧ rX σ' (o_undo U).2) C.1 rfl rfl (by decide : 0 < 151) rfl rfl rfl (fun hj => ct_X9_undo g.2.1 (setAd v aX) hj _ _  (px_undo hX (fun σ' h => ⟨rfl, h⟩))) okL_X9_undo cwL_X9_undo (by rw [C.2.1]; exact Nat.le_of_ble_eq_true rfl) (by rw [C.2.1]; exact Nat.le_of_ble_eq_true rfl) (by rw [C.2.1]; exact Nat.le_of_ble_eq_true rfl) (by rw [C.2.1]; exact Nat.le_of_ble_eq_true rfl) rfl rfl (Nat.le_of_ble_eq_true rfl) dL_law_410 (fun r1 σ1 h1 => ?_)
  obtain ⟨rfl, h1⟩ := h1
  refine gw_perm List.perm_append_comm ?_
  refine gw_aload_n C.1 dL_law_413 1 rfl ?_
  refine gw_callVi (w := tM_w (setAd v aM)) (σ := τ) (k := 0) (n := 2) (As := []) (st := [.int ((o_undo U).1)]) (K := fun r τ' => r = (o_undo U).1 ∧ rM τ' (o_undo U).2) C.1 rfl rfl (by decide : 0 < 15) rfl rfl rfl (fun hj => ct_X10_undo g.2.1 (setAd v aM) hj _ _  (pm_undo hX.1 hM (fun τ' h => ⟨rfl, h⟩))) okL_X10_undo cwL_X10_undo (by rw [C.2.1]; exact Nat.le_of_ble_eq_true rfl) (by rw [C.2.1]; exact Nat.le_of_ble_eq_true rfl) (by rw [C.2.1]; exact Nat.le_of_ble_eq_true rfl) (by rw [C.2.1]; exact Nat.le_of_ble_eq_true rfl) rfl rfl (Nat.le_of_ble_eq_true rfl) dL_law_414 (fun r2 τ1 h2 => ?_)
  obtain ⟨rfl, h2⟩ := h2
  refine gw_icmp_eq 857 C.1 dL_law_417 (by decide) (fun _ => ?_) (fun c => absurd rfl c)
  refine gw_perm List.perm_append_comm ?_
  exact hn _ _ _ h1 h2
set_option maxRecDepth 100000 in
set_option maxHeartbeats 4000000 in
theorem lc_12 (C : lw_C g v b L xs) (hi : i + 3 < L) (hL : L ≤ 2048) (hX : rX σ U) (hM : rM τ U) (hn : lw_N g v aX aM b i) : gw_G g v.1 4 (ts_wd (tM_w (setAd v aM)) τ ++ ts_wd (tX_w (setAd v aX)) σ) 166 1667 422 [(3, .int (nI i)), (2, .ref (aM 0)), (1, .ref (aX 0)), (0, .ref b)] [] := by
  refine gw_aload_n C.1 dL_law_422 2 rfl ?_
  refine lw_arg C hi hL 1 (by decide) (by decide) dL_law_423 dL_law_424 dL_law_425 dL_law_426 dL_law_427 ?_
  refine lw_arg C hi hL 2 (by decide) (by decide) dL_law_428 dL_law_429 dL_law_430 dL_law_431 dL_law_432 ?_
  refine lw_arg C hi hL 3 (by decide) (by decide) dL_law_433 dL_law_434 dL_law_435 dL_law_436 dL_law_437 ?_
  refine gw_callVi (w := tX_w (setAd v aX)) (σ := σ) (k := 0) (n := 6) (As := [.int (xs (i + 1)), .int (xs (i + 2)), .int (xs (i + 3))]) (st := []) (K := fun r σ' => r = o_behind U (xs (i + 1)) (xs (i + 2)) (xs (i + 3)) ∧ rX σ' U) C.1 rfl rfl (by decide : 0 < 151) rfl rfl rfl (fun hj => ct_X9_behind g.2.1 (setAd v aX) hj _ _ _ _ _ (px_behind hX (fun σ' h => ⟨rfl, h⟩))) okL_X9_behind cwL_X9_behind (by rw [C.2.1]; exact Nat.le_of_ble_eq_true rfl) (by rw [C.2.1]; exact Nat.le_of_ble_eq_true rfl) (by rw [C.2.1]; exact Nat.le_of_ble_eq_true rfl) (by rw [C.2.1]; exact Nat.le_of_ble_eq_true rfl) rfl rfl (Nat.le_of_ble_eq_true rfl) dL_law_438 (fun r1 σ1 h1 => ?_)
  obtain ⟨rfl, h1⟩ := h1
  refine gw_perm List.perm_append_comm ?_
  refine gw_aload_n C.1 dL_law_441 1 rfl ?_
  refine lw_arg C hi hL 1 (by decide) (by decide) dL_law_442 dL_law_443 dL_law_444 dL_law_445 dL_law_446 ?_
  refine lw_arg C hi hL 2 (by decide) (by decide) dL_law_447 dL_law_448 dL_law_449 dL_law_450 dL_law_451 ?_
  refine lw_arg C hi hL 3 (by decide) (by decide) dL_law_452 dL_law_453 dL_law_454 dL_law_455 dL_law_456 ?_
  refine gw_callVi (w := tM_w (setAd v aM)) (σ := τ) (k := 0) (n := 6) (As := [.int (xs (i + 1)), .int (xs (i + 2)), .int (xs (i + 3))]) (st := [.int (o_behind U (xs (i + 1)) (xs (i + 2)) (xs (i + 3)))]) (K := fun r τ' => r = o_behind U (xs (i + 1)) (xs (i + 2)) (xs (i + 3)) ∧ rM τ' U) C.1 rfl rfl (by decide : 0 < 15) rfl rfl rfl (fun hj => ct_X10_behind g.2.1 (setAd v aM) hj _ _ _ _ _ (pm_behind hX.1 hM (fun τ' h => ⟨rfl, h⟩))) okL_X10_behind cwL_X10_behind (by rw [C.2.1]; exact Nat.le_of_ble_eq_true rfl) (by rw [C.2.1]; exact Nat.le_of_ble_eq_true rfl) (by rw [C.2.1]; exact Nat.le_of_ble_eq_true rfl) (by rw [C.2.1]; exact Nat.le_of_ble_eq_true rfl) rfl rfl (Nat.le_of_ble_eq_true rfl) dL_law_457 (fun r2 τ1 h2 => ?_)
  obtain ⟨rfl, h2⟩ := h2
  refine gw_icmp_eq 857 C.1 dL_law_460 (by decide) (fun _ => ?_) (fun c => absurd rfl c)
  refine gw_perm List.perm_append_comm ?_
  exact hn _ _ _ h1 h2
set_option maxRecDepth 100000 in
set_option maxHeartbeats 4000000 in
theorem lc_13 (C : lw_C g v b L xs) (hi : i + 3 < L) (hL : L ≤ 2048) (hX : rX σ U) (hM : rM τ U) (hn : lw_N g v aX aM b i) : gw_G g v.1 4 (ts_wd (tM_w (setAd v aM)) τ ++ ts_wd (tX_w (setAd v aX)) σ) 166 1667 465 [(3, .int (nI i)), (2, .ref (aM 0)), (1, .ref (aX 0)), (0, .ref b)] [] := by
  refine gw_aload_n C.1 dL_law_465 2 rfl ?_
  refine lw_arg C hi hL 1 (by decide) (by decide) dL_law_466 dL_law_467 dL_law_468 dL_law_469 dL_law_470 ?_
  refine gw_callVi (w := tX_w (setAd v aX)) (σ := σ) (k := 0) (n := 4) (As := [.int (xs (i + 1))]) (st := []) (K := fun r σ' => r = o_lowest U (xs (i + 1)) ∧ rX σ' U) C.1 rfl rfl (by decide : 0 < 151) rfl rfl rfl (fun hj => ct_X9_lowest g.2.1 (setAd v aX) hj _ _ _ (px_lowest hX ⟨rfl, hX⟩)) okL_X9_lowest cwL_X9_lowest (by rw [C.2.1]; exact Nat.le_of_ble_eq_true rfl) (by rw [C.2.1]; exact Nat.le_of_ble_eq_true rfl) (by rw [C.2.1]; exact Nat.le_of_ble_eq_true rfl) (by rw [C.2.1]; exact Nat.le_of_ble_eq_true rfl) rfl rfl (Nat.le_of_ble_eq_true rfl) dL_law_471 (fun r1 σ1 h1 => ?_)
  obtain ⟨rfl, h1⟩ := h1
  refine gw_perm List.perm_append_comm ?_
  refine gw_aload_n C.1 dL_law_474 1 rfl ?_
  refine lw_arg C hi hL 1 (by decide) (by decide) dL_law_475 dL_law_476 dL_law_477 dL_law_478 dL_law_479 ?_
  refine gw_callVi (w := tM_w (setAd v aM)) (σ := τ) (k := 0) (n := 5) (As := [.int (xs (i + 1))]) (st := [.int (o_lowest U (xs (i + 1)))]) (K := fun r τ' => r = o_lowest U (xs (i + 1)) ∧ rM τ' U) C.1 rfl rfl (by decide : 0 < 15) rfl rfl rfl (fun hj => ct_X10_lowest g.2.1 (setAd v aM) hj _ _ _ (pm_lowest hX.1 hM (fun τ' h => ⟨rfl, h⟩))) okL_X10_lowest cwL_X10_lowest (by rw [C.2.1]; exact Nat.le_of_ble_eq_true rfl) (by rw [C.2.1]; exact Nat.le_of_ble_eq_true rfl) (by rw [C.2.1]; exact Nat.le_of_ble_eq_true rfl) (by rw [C.2.1]; exact Nat.le_of_ble_eq_true rfl) rfl rfl (Nat.le_of_ble_eq_true rfl) dL_law_480 (fun r2 τ1 h2 => ?_)
  obtain ⟨rfl, h2⟩ := h2
  refine gw_icmp_eq 857 C.1 dL_law_483 (by decide) (fun _ => ?_) (fun c => absurd rfl c)
  refine gw_perm List.perm_append_comm ?_
  exact hn _ _ _ h1 h2
set_option maxRecDepth 100000 in
set_option maxHeartbeats 4000000 in
theorem lc_14 (C : lw_C g v b L xs) (hi : i + 3 < L) (hL : L ≤ 2048) (hX : rX σ U) (hM : rM τ U) (hn : lw_N g v aX aM b i) : gw_G g v.1 4 (ts_wd (tM_w (setAd v aM)) τ ++ ts_wd (tX_w (setAd v aX)) σ) 166 1667 488 [(3, .int (nI i)), (2, .ref (aM 0)), (1, .ref (aX 0)), (0, .ref b)] [] := by
  refine gw_aload_n C.1 dL_law_488 2 rfl ?_
  refine lw_arg C hi hL 1 (by decide) (by decide) dL_law_489 dL_law_490 dL_law_491 dL_law_492 dL_law_493 ?_
  refine gw_callVi (w := tX_w (setAd v aX)) (σ := σ) (k := 0) (n := 30) (As := [.int (xs (i + 1))]) (st := []) (K := fun r σ' => r = o_posting U (xs (i + 1)) ∧ rX σ' U) C.1 rfl rfl (by decide : 0 < 151) rfl rfl rfl (fun hj => ct_X9_posting g.2.1 (setAd v aX) hj _ _ _ (px_posting hX (fun σ' h => ⟨rfl, h⟩))) okL_X9_posting cwL_X9_posting (by rw [C.2.1]; exact Nat.le_of_ble_eq_true rfl) (by rw [C.2.1]; exact Nat.le_of_ble_eq_true rfl) (by rw [C.2.1]; exact Nat.le_of_ble_eq_true rfl) (by rw [C.2.1]; exact Nat.le_of_ble_eq_true rfl) rfl rfl (Nat.le_of_ble_eq_true rfl) dL_law_494 (fun r1 σ1 h1 => ?_)
  obtain ⟨rfl, h1⟩ := h1
  refine gw_perm List.perm_append_comm ?_
  refine gw_aload_n C.1 dL_law_497 1 rfl ?_
  refine lw_arg C hi hL 1 (by decide) (by decide) dL_law_498 dL_law_499 dL_law_500 dL_law_501 dL_law_502 ?_
  refine gw_callVi (w := tM_w (setAd v aM)) (σ := τ) (k := 0) (n := 6) (As := [.int (xs (i + 1))]) (st := [.int (o_posting U (xs (i + 1)))]) (K := fun r τ' => r = o_posting U (xs (i + 1)) ∧ rM τ' U) C.1 rfl rfl (by decide : 0 < 15) rfl rfl rfl (fun hj => ct_X10_posting g.2.1 (setAd v aM) hj _ _ _ (pm_posting hX.1 hM (fun τ' h => ⟨rfl, h⟩))) okL_X10_posting cwL_X10_posting (by rw [C.2.1]; exact Nat.le_of_ble_eq_true rfl) (by rw [C.2.1]; exact Nat.le_of_ble_eq_true rfl) (by rw [C.2.1]; exact Nat.le_of_ble_eq_true rfl) (by rw [C.2.1]; exact Nat.le_of_ble_eq_true rfl) rfl rfl (Nat.le_of_ble_eq_true rfl) dL_law_503 (fun r2 τ1 h2 => ?_)
  obtain ⟨rfl, h2⟩ := h2
  refine gw_icmp_eq 857 C.1 dL_law_506 (by decide) (fun _ => ?_) (fun c => absurd rfl c)
  refine gw_perm List.perm_append_comm ?_
  exact hn _ _ _ h1 h2
set_option maxRecDepth 100000 in
set_option maxHeartbeats 4000000 in
theorem lc_15 (C : lw_C g v b L xs) (hi : i + 3 < L) (hL : L ≤ 2048) (hX : rX σ U) (hM : rM τ U) (hn : lw_N g v aX aM b i) : gw_G g v.1 4 (ts_wd (tM_w (setAd v aM)) τ ++ ts_wd (tX_w (setAd v aX)) σ) 166 1667 511 [(3, .int (nI i)), (2, .ref (aM 0)), (1, .ref (aX 0)), (0, .ref b)] [] := by
  refine gw_aload_n C.1 dL_law_511 2 rfl ?_
  refine lw_arg C hi hL 1 (by decide) (by decide) dL_law_512 dL_law_513 dL_law_514 dL_law_515 dL_law_516 ?_
  refine lw_arg C hi hL 2 (by decide) (by decide) dL_law_517 dL_law_518 dL_law_519 dL_law_520 dL_law_521 ?_
  refine gw_callVi (w := tX_w (setAd v aX)) (σ := σ) (k := 0) (n := 30) (As := [.int (xs (i + 1)), .int (xs (i + 2))]) (st := []) (K := fun r σ' => r = o_timetable U (xs (i + 1)) (xs (i + 2)) ∧ rX σ' U) C.1 rfl rfl (by decide : 0 < 151) rfl rfl rfl (fun hj => ct_X9_timetable g.2.1 (setAd v aX) hj _ _ _ _ (px_timetable hX (fun σ' h => ⟨rfl, h⟩))) okL_X9_timetable cwL_X9_timetable (by rw [C.2.1]; exact Nat.le_of_ble_eq_true rfl) (by rw [C.2.1]; exact Nat.le_of_ble_eq_true rfl) (by rw [C.2.1]; exact Nat.le_of_ble_eq_true rfl) (by rw [C.2.1]; exact Nat.le_of_ble_eq_true rfl) rfl rfl (Nat.le_of_ble_eq_true rfl) dL_law_522 (fun r1 σ1 h1 => ?_)
  obtain ⟨rfl, h1⟩ := h1
  refine gw_perm List.perm_append_comm ?_
  refine gw_aload_n C.1 dL_law_525 1 rfl ?_
  refine lw_arg C hi hL 1 (by decide) (by decide) dL_law_526 dL_law_527 dL_law_528 dL_law_529 dL_law_530 ?_
  refine lw_arg C hi hL 2 (by decide) (by decide) dL_law_531 dL_law_532 dL_law_533 dL_law_534 dL_law_535 ?_
  refine gw_callVi (w := tM_w (setAd v aM)) (σ := τ) (k := 0) (n := 7) (As := [.int (xs (i + 1)), .int (xs (i + 2))]) (st := [.int (o_timetable U (xs (i + 1)) (xs (i + 2)))]) (K := fun r τ' => r = o_timetable U (xs (i + 1)) (xs (i + 2)) ∧ rM τ' U) C.1 rfl rfl (by decide : 0 < 15) rfl rfl rfl (fun hj => ct_X10_timetable g.2.1 (setAd v aM) hj _ _ _ _ (pm_timetable hX.1 hM (fun τ' h => ⟨rfl, h⟩))) okL_X10_timetable cwL_X10_timetable (by rw [C.2.1]; exact Nat.le_of_ble_eq_true rfl) (by rw [C.2.1]; exact Nat.le_of_ble_eq_true rfl) (by rw [C.2.1]; exact Nat.le_of_ble_eq_true rfl) (by rw [C.2.1]; exact Nat.le_of_ble_eq_true rfl) rfl rfl (Nat.le_of_ble_eq_true rfl) dL_law_536 (fun r2 τ1 h2 => ?_)
  obtain ⟨rfl, h2⟩ := h2
  refine gw_icmp_eq 857 C.1 dL_law_539 (by decide) (fun _ => ?_) (fun c => absurd rfl c)
  refine gw_perm List.perm_append_comm ?_
  exact hn _ _ _ h1 h2
set_option maxRecDepth 100000 in
set_option maxHeartbeats 4000000 in
theorem lc_16 (C : lw_C g v b L xs) (hi : i + 3 < L) (hL : L ≤ 2048) (hX : rX σ U) (hM : rM τ U) (hn : lw_N g v aX aM b i) : gw_G g v.1 4 (ts_wd (tM_w (setAd v aM)) τ ++ ts_wd (tX_w (setAd v aX)) σ) 166 1667 544 [(3, .int (nI i)), (2, .ref (aM 0)), (1, .ref (aX 0)), (0, .ref b)] [] := by
  refine gw_aload_n C.1 dL_law_544 2 rfl ?_
  refine lw_arg C hi hL 1 (by decide) (by decide) dL_law_545 dL_law_546 dL_law_547 dL_law_548 dL_law_549 ?_
  refine gw_callVi (w := tX_w (setAd v aX)) (σ := σ) (k := 0) (n := 8) (As := [.int (xs (i + 1))]) (st := []) (K := fun r σ' => r = o_swap U (xs (i + 1)) ∧ rX σ' U) C.1 rfl rfl (by decide : 0 < 151) rfl rfl rfl (fun hj => ct_X9_swap g.2.1 (setAd v aX) hj _ _ _ (px_swap hX (fun σ' h => ⟨rfl, h⟩))) okL_X9_swap cwL_X9_swap (by rw [C.2.1]; exact Nat.le_of_ble_eq_true rfl) (by rw [C.2.1]; exact Nat.le_of_ble_eq_true rfl) (by rw [C.2.1]; exact Nat.le_of_ble_eq_true rfl) (by rw [C.2.1]; exact Nat.le_of_ble_eq_true rfl) rfl rfl (Nat.le_of_ble_eq_true rfl) dL_law_550 (fun r1 σ1 h1 => ?_)
  obtain ⟨rfl, h1⟩ := h1
  refine gw_perm List.perm_append_comm ?_
  refine gw_aload_n C.1 dL_law_553 1 rfl ?_
  refine lw_arg C hi hL 1 (by decide) (by decide) dL_law_554 dL_law_555 dL_law_556 dL_law_557 dL_law_558 ?_
  refine gw_callVi (w := tM_w (setAd v aM)) (σ := τ) (k := 0) (n := 6) (As := [.int (xs (i + 1))]) (st := [.int (o_swap U (xs (i + 1)))]) (K := fun r τ' => r = o_swap U (xs (i + 1)) ∧ rM τ' U) C.1 rfl rfl (by decide : 0 < 15) rfl rfl rfl (fun hj => ct_X10_swap g.2.1 (setAd v aM) hj _ _ _ (pm_swap hX.1 hM (fun τ' h => ⟨rfl, h⟩))) okL_X10_swap cwL_X10_swap (by rw [C.2.1]; exact Nat.le_of_ble_eq_true rfl) (by rw [C.2.1]; exact Nat.le_of_ble_eq_true rfl) (by rw [C.2.1]; exact Nat.le_of_ble_eq_true rfl) (by rw [C.2.1]; exact Nat.le_of_ble_eq_true rfl) rfl rfl (Nat.le_of_ble_eq_true rfl) dL_law_559 (fun r2 τ1 h2 => ?_)
  obtain ⟨rfl, h2⟩ := h2
  refine gw_icmp_eq 857 C.1 dL_law_562 (by decide) (fun _ => ?_) (fun c => absurd rfl c)
  refine gw_perm List.perm_append_comm ?_
  exact hn _ _ _ h1 h2
set_option maxRecDepth 100000 in
set_option maxHeartbeats 4000000 in
theorem lc_17 (C : lw_C g v b L xs) (hi : i + 3 < L) (hL : L ≤ 2048) (hX : rX σ U) (hM : rM τ U) (hn : lw_N g v aX aM b i) : gw_G g v.1 4 (ts_wd (tM_w (setAd v aM)) τ ++ ts_wd (tX_w (setAd v aX)) σ) 166 1667 567 [(3, .int (nI i)), (2, .ref (aM 0)), (1, .ref (aX 0)), (0, .ref b)] [] := by
  refine gw_aload_n C.1 dL_law_567 2 rfl ?_
  refine lw_arg C hi hL 1 (by decide) (by decide) dL_law_568 dL_law_569 dL_law_570 dL_law_571 dL_law_572 ?_
  refine lw_arg C hi hL 2 (by decide) (by decide) dL_law_573 dL_law_574 dL_law_575 dL_law_576 dL_law_577 ?_
  refine lw_arg C hi hL 3 (by decide) (by decide) dL_law_578 dL_law_579 dL_law_580 dL_law_581 dL_law_582 ?_
  refine gw_callVi (w := tX_w (setAd v aX)) (σ := σ) (k := 0) (n := 7) (As := [.int (xs (i + 1)), .int (xs (i + 2)), .int (xs (i + 3))]) (st := []) (K := fun r σ' => r = o_can U (xs (i + 1)) (xs (i + 2)) (xs (i + 3)) ∧ rX σ' U) C.1 rfl rfl (by decide : 0 < 151) rfl rfl rfl (fun hj => ct_X9_can g.2.1 (setAd v aX) hj _ _ _ _ _ (px_can hX (fun σ' h => ⟨rfl, h⟩))) okL_X9_can cwL_X9_can (by rw [C.2.1]; exact Nat.le_of_ble_eq_true rfl) (by rw [C.2.1]; exact Nat.le_of_ble_eq_true rfl) (by rw [C.2.1]; exact Nat.le_of_ble_eq_true rfl) (by rw [C.2.1]; exact Nat.le_of_ble_eq_true rfl) rfl rfl (Nat.le_of_ble_eq_true rfl) dL_law_583 (fun r1 σ1 h1 => ?_)
  obtain ⟨rfl, h1⟩ := h1
  refine gw_perm List.perm_append_comm ?_
  refine gw_aload_n C.1 dL_law_586 1 rfl ?_
  refine lw_arg C hi hL 1 (by decide) (by decide) dL_law_587 dL_law_588 dL_law_589 dL_law_590 dL_law_591 ?_
  refine lw_arg C hi hL 2 (by decide) (by decide) dL_law_592 dL_law_593 dL_law_594 dL_law_595 dL_law_596 ?_
  refine lw_arg C hi hL 3 (by decide) (by decide) dL_law_597 dL_law_598 dL_law_599 dL_law_600 dL_law_601 ?_
  refine gw_callVi (w := tM_w (setAd v aM)) (σ := τ) (k := 0) (n := 5) (As := [.int (xs (i + 1)), .int (xs (i + 2)), .int (xs (i + 3))]) (st := [.int (o_can U (xs (i + 1)) (xs (i + 2)) (xs (i + 3)))]) (K := fun r τ' => r = o_can U (xs (i + 1)) (xs (i + 2)) (xs (i + 3)) ∧ rM τ' U) C.1 rfl rfl (by decide : 0 < 15) rfl rfl rfl (fun hj => ct_X10_can g.2.1 (setAd v aM) hj _ _ _ _ _ (pm_can hX.1 hM (fun τ' h => ⟨rfl, h⟩))) okL_X10_can cwL_X10_can (by rw [C.2.1]; exact Nat.le_of_ble_eq_true rfl) (by rw [C.2.1]; exact Nat.le_of_ble_eq_true rfl) (by rw [C.2.1]; exact Nat.le_of_ble_eq_true rfl) (by rw [C.2.1]; exact Nat.le_of_ble_eq_true rfl) rfl rfl (Nat.le_of_ble_eq_true rfl) dL_law_602 (fun r2 τ1 h2 => ?_)
  obtain ⟨rfl, h2⟩ := h2
  refine gw_icmp_eq 857 C.1 dL_law_605 (by decide) (fun _ => ?_) (fun c => absurd rfl c)
  refine gw_perm List.perm_append_comm ?_
  exact hn _ _ _ h1 h2
set_option maxRecDepth 100000 in
set_option maxHeartbeats 4000000 in
theorem lc_18 (C : lw_C g v b L xs) (hi : i + 3 < L) (hL : L ≤ 2048) (hX : rX σ U) (hM : rM τ U) (hn : lw_N g v aX aM b i) : gw_G g v.1 4 (ts_wd (tM_w (setAd v aM)) τ ++ ts_wd (tX_w (setAd v aX)) σ) 166 1667 610 [(3, .int (nI i)), (2, .ref (aM 0)), (1, .ref (aX 0)), (0, .ref b)] [] := by
  refine gw_aload_n C.1 dL_law_610 2 rfl ?_
  refine lw_arg C hi hL 1 (by decide) (by decide) dL_law_611 dL_law_612 dL_law_613 dL_law_614 dL_law_615 ?_
  refine lw_arg C hi hL 2 (by decide) (by decide) dL_law_616 dL_law_617 dL_law_618 dL_law_619 dL_law_620 ?_
  refine lw_arg C hi hL 3 (by decide) (by decide) dL_law_621 dL_law_622 dL_law_623 dL_law_624 dL_law_625 ?_
  refine gw_callVi (w := tX_w (setAd v aX)) (σ := σ) (k := 0) (n := 3) (As := [.int (xs (i + 1)), .int (xs (i + 2)), .int (xs (i + 3))]) (st := []) (K := fun r σ' => r = (o_seen U (xs (i + 1)) (xs (i + 2)) (xs (i + 3))).1 ∧ rX σ' (o_seen U (xs (i + 1)) (xs (i + 2)) (xs (i + 3))).2) C.1 rfl rfl (by decide : 0 < 151) rfl rfl rfl (fun hj => ct_X9_seen g.2.1 (setAd v aX) hj _ _ _ _ _ (px_seen hX (fun σ' h => ⟨rfl, h⟩))) okL_X9_seen cwL_X9_seen (by rw [C.2.1]; exact Nat.le_of_ble_eq_true rfl) (by rw [C.2.1]; exact Nat.le_of_ble_eq_true rfl) (by rw [C.2.1]; exact Nat.le_of_ble_eq_true rfl) (by rw [C.2.1]; exact Nat.le_of_ble_eq_true rfl) rfl rfl (Nat.le_of_ble_eq_true rfl) dL_law_626 (fun r1 σ1 h1 => ?_)
  obtain ⟨rfl, h1⟩ := h1
  refine gw_perm List.perm_append_comm ?_
  refine gw_aload_n C.1 dL_law_629 1 rfl ?_
  refine lw_arg C hi hL 1 (by decide) (by decide) dL_law_630 dL_law_631 dL_law_632 dL_law_633 dL_law_634 ?_
  refine lw_arg C hi hL 2 (by decide) (by decide) dL_law_635 dL_law_636 dL_law_637 dL_law_638 dL_law_639 ?_
  refine lw_arg C hi hL 3 (by decide) (by decide) dL_law_640 dL_law_641 dL_law_642 dL_law_643 dL_law_644 ?_
  refine gw_callVi (w := tM_w (setAd v aM)) (σ := τ) (k := 0) (n := 3) (As := [.int (xs (i + 1)), .int (xs (i + 2)), .int (xs (i + 3))]) (st := [.int ((o_seen U (xs (i + 1)) (xs (i + 2)) (xs (i + 3))).1)]) (K := fun r τ' => r = (o_seen U (xs (i + 1)) (xs (i + 2)) (xs (i + 3))).1 ∧ rM τ' (o_seen U (xs (i + 1)) (xs (i + 2)) (xs (i + 3))).2) C.1 rfl rfl (by decide : 0 < 15) rfl rfl rfl (fun hj => ct_X10_seen g.2.1 (setAd v aM) hj _ _ _ _ _ (pm_seen hX.1 hM (fun τ' h => ⟨rfl, h⟩))) okL_X10_seen cwL_X10_seen (by rw [C.2.1]; exact Nat.le_of_ble_eq_true rfl) (by rw [C.2.1]; exact Nat.le_of_ble_eq_true rfl) (by rw [C.2.1]; exact Nat.le_of_ble_eq_true rfl) (by rw [C.2.1]; exact Nat.le_of_ble_eq_true rfl) rfl rfl (Nat.le_of_ble_eq_true rfl) dL_law_645 (fun r2 τ1 h2 => ?_)
  obtain ⟨rfl, h2⟩ := h2
  refine gw_icmp_eq 857 C.1 dL_law_648 (by decide) (fun _ => ?_) (fun c => absurd rfl c)
  refine gw_perm List.perm_append_comm ?_
  exact hn _ _ _ h1 h2
set_option maxRecDepth 100000 in
set_option maxHeartbeats 4000000 in
theorem lc_19 (C : lw_C g v b L xs) (hi : i + 3 < L) (hL : L ≤ 2048) (hX : rX σ U) (hM : rM τ U) (hn : lw_N g v aX aM b i) : gw_G g v.1 4 (ts_wd (tM_w (setAd v aM)) τ ++ ts_wd (tX_w (setAd v aX)) σ) 166 1667 653 [(3, .int (nI i)), (2, .ref (aM 0)), (1, .ref (aX 0)), (0, .ref b)] [] := by
  refine gw_aload_n C.1 dL_law_653 2 rfl ?_
  refine gw_callVi (w := tX_w (setAd v aX)) (σ := σ) (k := 0) (n := 2) (As := []) (st := []) (K := fun r σ' => r = (o_forget U).1 ∧ rX σ' (o_forget U).2) C.1 rfl rfl (by decide : 0 < 151) rfl rfl rfl (fun hj => ct_X9_forget g.2.1 (setAd v aX) hj _ _  (px_forget hX (fun σ' h => ⟨rfl, h⟩))) okL_X9_forget cwL_X9_forget (by rw [C.2.1]; exact Nat.le_of_ble_eq_true rfl) (by rw [C.2.1]; exact Nat.le_of_ble_eq_true rfl) (by rw [C.2.1]; exact Nat.le_of_ble_eq_true rfl) (by rw [C.2.1]; exact Nat.le_of_ble_eq_true rfl) rfl rfl (Nat.le_of_ble_eq_true rfl) dL_law_654 (fun r1 σ1 h1 => ?_)
  obtain ⟨rfl, h1⟩ := h1
  refine gw_perm List.perm_append_comm ?_
  refine gw_aload_n C.1 dL_law_657 1 rfl ?_
  refine gw_callVi (w := tM_w (setAd v aM)) (σ := τ) (k := 0) (n := 1) (As := []) (st := [.int ((o_forget U).1)]) (K := fun r τ' => r = (o_forget U).1 ∧ rM τ' (o_forget U).2) C.1 rfl rfl (by decide : 0 < 15) rfl rfl rfl (fun hj => ct_X10_forget g.2.1 (setAd v aM) hj _ _  (pm_forget hM (fun τ' h => ⟨rfl, h⟩))) okL_X10_forget cwL_X10_forget (by rw [C.2.1]; exact Nat.le_of_ble_eq_true rfl) (by rw [C.2.1]; exact Nat.le_of_ble_eq_true rfl) (by rw [C.2.1]; exact Nat.le_of_ble_eq_true rfl) (by rw [C.2.1]; exact Nat.le_of_ble_eq_true rfl) rfl rfl (Nat.le_of_ble_eq_true rfl) dL_law_658 (fun r2 τ1 h2 => ?_)
  obtain ⟨rfl, h2⟩ := h2
  refine gw_icmp_eq 857 C.1 dL_law_661 (by decide) (fun _ => ?_) (fun c => absurd rfl c)
  refine gw_perm List.perm_append_comm ?_
  exact hn _ _ _ h1 h2
set_option maxRecDepth 100000 in
set_option maxHeartbeats 4000000 in
theorem lc_20 (C : lw_C g v b L xs) (hi : i + 3 < L) (hL : L ≤ 2048) (hX : rX σ U) (hM : rM τ U) (hn : lw_N g v aX aM b i) : gw_G g v.1 4 (ts_wd (tM_w (setAd v aM)) τ ++ ts_wd (tX_w (setAd v aX)) σ) 166 1667 666 [(3, .int (nI i)), (2, .ref (aM 0)), (1, .ref (aX 0)), (0, .ref b)] [] := by
  refine gw_aload_n C.1 dL_law_666 2 rfl ?_
  refine lw_arg C hi hL 1 (by decide) (by decide) dL_law_667 dL_law_668 dL_law_669 dL_law_670 dL_law_671 ?_
  refine lw_arg C hi hL 2 (by decide) (by decide) dL_law_672 dL_law_673 dL_law_674 dL_law_675 dL_law_676 ?_
  refine gw_callVi (w := tX_w (setAd v aX)) (σ := σ) (k := 0) (n := 4) (As := [.int (xs (i + 1)), .int (xs (i + 2))]) (st := []) (K := fun r σ' => r = o_nerves U (xs (i + 1)) (xs (i + 2)) ∧ rX σ' U) C.1 rfl rfl (by decide : 0 < 151) rfl rfl rfl (fun hj => ct_X9_nerves g.2.1 (setAd v aX) hj _ _ _ _ (px_nerves hX ⟨rfl, hX⟩)) okL_X9_nerves cwL_X9_nerves (by rw [C.2.1]; exact Nat.le_of_ble_eq_true rfl) (by rw [C.2.1]; exact Nat.le_of_ble_eq_true rfl) (by rw [C.2.1]; exact Nat.le_of_ble_eq_true rfl) (by rw [C.2.1]; exact Nat.le_of_ble_eq_true rfl) rfl rfl (Nat.le_of_ble_eq_true rfl) dL_law_677 (fun r1 σ1 h1 => ?_)
  obtain ⟨rfl, h1⟩ := h1
  refine gw_perm List.perm_append_comm ?_
  refine gw_aload_n C.1 dL_law_680 1 rfl ?_
  refine lw_arg C hi hL 1 (by decide) (by decide) dL_law_681 dL_law_682 dL_law_683 dL_law_684 dL_law_685 ?_
  refine lw_arg C hi hL 2 (by decide) (by decide) dL_law_686 dL_law_687 dL_law_688 dL_law_689 dL_law_690 ?_
  refine gw_callVi (w := tM_w (setAd v aM)) (σ := τ) (k := 0) (n := 4) (As := [.int (xs (i + 1)), .int (xs (i + 2))]) (st := [.int (o_nerves U (xs (i + 1)) (xs (i + 2)))]) (K := fun r τ' => r = o_nerves U (xs (i + 1)) (xs (i + 2)) ∧ rM τ' U) C.1 rfl rfl (by decide : 0 < 15) rfl rfl rfl (fun hj => ct_X10_nerves g.2.1 (setAd v aM) hj _ _ _ _ (pm_nerves hX.1 hM (fun τ' h => ⟨rfl, h⟩))) okL_X10_nerves cwL_X10_nerves (by rw [C.2.1]; exact Nat.le_of_ble_eq_true rfl) (by rw [C.2.1]; exact Nat.le_of_ble_eq_true rfl) (by rw [C.2.1]; exact Nat.le_of_ble_eq_true rfl) (by rw [C.2.1]; exact Nat.le_of_ble_eq_true rfl) rfl rfl (Nat.le_of_ble_eq_true rfl) dL_law_691 (fun r2 τ1 h2 => ?_)
  obtain ⟨rfl, h2⟩ := h2
  refine gw_icmp_eq 857 C.1 dL_law_694 (by decide) (fun _ => ?_) (fun c => absurd rfl c)
  refine gw_perm List.perm_append_comm ?_
  exact hn _ _ _ h1 h2
set_option maxRecDepth 100000 in
set_option maxHeartbeats 4000000 in
theorem lc_21 (C : lw_C g v b L xs) (hi : i + 3 < L) (hL : L ≤ 2048) (hX : rX σ U) (hM : rM τ U) (hn : lw_N g v aX aM b i) : gw_G g v.1 4 (ts_wd (tM_w (setAd v aM)) τ ++ ts_wd (tX_w (setAd v aX)) σ) 166 1667 699 [(3, .int (nI i)), (2, .ref (aM 0)), (1, .ref (aX 0)), (0, .ref b)] [] := by
  refine gw_aload_n C.1 dL_law_699 2 rfl ?_
  refine lw_arg C hi hL 1 (by decide) (by decide) dL_law_700 dL_law_701 dL_law_702 dL_law_703 dL_law_704 ?_
  refine gw_callVi (w := tX_w (setAd v aX)) (σ := σ) (k := 0) (n := 4) (As := [.int (xs (i + 1))]) (st := []) (K := fun r σ' => r = o_kinds U (xs (i + 1)) ∧ rX σ' U) C.1 rfl rfl (by decide : 0 < 151) rfl rfl rfl (fun hj => ct_X9_kinds g.2.1 (setAd v aX) hj _ _ _ (px_kinds hX ⟨rfl, hX⟩)) okL_X9_kinds cwL_X9_kinds (by rw [C.2.1]; exact Nat.le_of_ble_eq_true rfl) (by rw [C.2.1]; exact Nat.le_of_ble_eq_true rfl) (by rw [C.2.1]; exact Nat.le_of_ble_eq_true rfl) (by rw [C.2.1]; exact Nat.le_of_ble_eq_true rfl) rfl rfl (Nat.le_of_ble_eq_true rfl) dL_law_705 (fun r1 σ1 h1 => ?_)
  obtain ⟨rfl, h1⟩ := h1
  refine gw_perm List.perm_append_comm ?_
  refine gw_aload_n C.1 dL_law_708 1 rfl ?_
  refine lw_arg C hi hL 1 (by decide) (by decide) dL_law_709 dL_law_710 dL_law_711 dL_law_712 dL_law_713 ?_
  refine gw_callVi (w := tM_w (setAd v aM)) (σ := τ) (k := 0) (n := 4) (As := [.int (xs (i + 1))]) (st := [.int (o_kinds U (xs (i + 1)))]) (K := fun r τ' => r = o_kinds U (xs (i + 1)) ∧ rM τ' U) C.1 rfl rfl (by decide : 0 < 15) rfl rfl rfl (fun hj => ct_X10_kinds g.2.1 (setAd v aM) hj _ _ _ (pm_kinds hX.1 hM (fun τ' h => ⟨rfl, h⟩))) okL_X10_kinds cwL_X10_kinds (by rw [C.2.1]; exact Nat.le_of_ble_eq_true rfl) (by rw [C.2.1]; exact Nat.le_of_ble_eq_true rfl) (by rw [C.2.1]; exact Nat.le_of_ble_eq_true rfl) (by rw [C.2.1]; exact Nat.le_of_ble_eq_true rfl) rfl rfl (Nat.le_of_ble_eq_true rfl) dL_law_714 (fun r2 τ1 h2 => ?_)
  obtain ⟨rfl, h2⟩ := h2
  refine gw_icmp_eq 857 C.1 dL_law_717 (by decide) (fun _ => ?_) (fun c => absurd rfl c)
  refine gw_perm List.perm_append_comm ?_
  exact hn _ _ _ h1 h2
set_option maxRecDepth 100000 in
set_option maxHeartbeats 4000000 in
theorem lc_22 (C : lw_C g v b L xs) (hi : i + 3 < L) (hL : L ≤ 2048) (hX : rX σ U) (hM : rM τ U) (hn : lw_N g v aX aM b i) : gw_G g v.1 4 (ts_wd (tM_w (setAd v aM)) τ ++ ts_wd (tX_w (setAd v aX)) σ) 166 1667 722 [(3, .int (nI i)), (2, .ref (aM 0)), (1, .ref (aX 0)), (0, .ref b)] [] := by
  refine gw_aload_n C.1 dL_law_722 2 rfl ?_
  refine lw_arg C hi hL 1 (by decide) (by decide) dL_law_723 dL_law_724 dL_law_725 dL_law_726 dL_law_727 ?_
  refine lw_arg C hi hL 2 (by decide) (by decide) dL_law_728 dL_law_729 dL_law_730 dL_law_731 dL_law_732 ?_
  refine lw_arg C hi hL 3 (by decide) (by decide) dL_law_733 dL_law_734 dL_law_735 dL_law_736 dL_law_737 ?_
  refine gw_callVi (w := tX_w (setAd v aX)) (σ := σ) (k := 0) (n := 7) (As := [.int (xs (i + 1)), .int (xs (i + 2)), .int (xs (i + 3))]) (st := []) (K := fun r σ' => r = o_likely U (xs (i + 1)) (xs (i + 2)) (xs (i + 3)) ∧ rX σ' U) C.1 rfl rfl (by decide : 0 < 151) rfl rfl rfl (fun hj => ct_X9_likely g.2.1 (setAd v aX) hj _ _ _ _ _ (px_likely hX (fun σ' h => ⟨rfl, h⟩))) okL_X9_likely cwL_X9_likely (by rw [C.2.1]; exact Nat.le_of_ble_eq_true rfl) (by rw [C.2.1]; exact Nat.le_of_ble_eq_true rfl) (by rw [C.2.1]; exact Nat.le_of_ble_eq_true rfl) (by rw [C.2.1]; exact Nat.le_of_ble_eq_true rfl) rfl rfl (Nat.le_of_ble_eq_true rfl) dL_law_738 (fun r1 σ1 h1 => ?_)
  obtain ⟨rfl, h1⟩ := h1
  refine gw_perm List.perm_append_comm ?_
  refine gw_aload_n C.1 dL_law_741 1 rfl ?_
  refine lw_arg C hi hL 1 (by decide) (by decide) dL_law_742 dL_law_743 dL_law_744 dL_law_745 dL_law_746 ?_
  refine lw_arg C hi hL 2 (by decide) (by decide) dL_law_747 dL_law_748 dL_law_749 dL_law_750 dL_law_751 ?_
  refine lw_arg C hi hL 3 (by decide) (by decide) dL_law_752 dL_law_753 dL_law_754 dL_law_755 dL_law_756 ?_
  refine gw_callVi (w := tM_w (setAd v aM)) (σ := τ) (k := 0) (n := 6) (As := [.int (xs (i + 1)), .int (xs (i + 2)), .int (xs (i + 3))]) (st := [.int (o_likely U (xs (i + 1)) (xs (i + 2)) (xs (i + 3)))]) (K := fun r τ' => r = o_likely U (xs (i + 1)) (xs (i + 2)) (xs (i + 3)) ∧ rM τ' U) C.1 rfl rfl (by decide : 0 < 15) rfl rfl rfl (fun hj => ct_X10_likely g.2.1 (setAd v aM) hj _ _ _ _ _ (pm_likely hX.1 hM (fun τ' h => ⟨rfl, h⟩))) okL_X10_likely cwL_X10_likely (by rw [C.2.1]; exact Nat.le_of_ble_eq_true rfl) (by rw [C.2.1]; exact Nat.le_of_ble_eq_true rfl) (by rw [C.2.1]; exact Nat.le_of_ble_eq_true rfl) (by rw [C.2.1]; exact Nat.le_of_ble_eq_true rfl) rfl rfl (Nat.le_of_ble_eq_true rfl) dL_law_757 (fun r2 τ1 h2 => ?_)
  obtain ⟨rfl, h2⟩ := h2
  refine gw_icmp_eq 857 C.1 dL_law_760 (by decide) (fun _ => ?_) (fun c => absurd rfl c)
  refine gw_perm List.perm_append_comm ?_
  exact hn _ _ _ h1 h2
set_option maxRecDepth 100000 in
set_option maxHeartbeats 4000000 in
theorem lc_23 (C : lw_C g v b L xs) (hi : i + 3 < L) (hL : L ≤ 2048) (hX : rX σ U) (hM : rM τ U) (hn : lw_N g v aX aM b i) : gw_G g v.1 4 (ts_wd (tM_w (setAd v aM)) τ ++ ts_wd (tX_w (setAd v aX)) σ) 166 1667 765 [(3, .int (nI i)), (2, .ref (aM 0)), (1, .ref (aX 0)), (0, .ref b)] [] := by
  refine gw_aload_n C.1 dL_law_765 2 rfl ?_
  refine lw_arg C hi hL 1 (by decide) (by decide) dL_law_766 dL_law_767 dL_law_768 dL_law_769 dL_law_770 ?_
  refine lw_arg C hi hL 2 (by decide) (by decide) dL_law_771 dL_law_772 dL_law_773 dL_law_774 dL_law_775 ?_
  refine lw_arg C hi hL 3 (by decide) (by decide) dL_law_776 dL_law_777 dL_law_778 dL_law_779 dL_law_780 ?_
  refine gw_callVi (w := tX_w (setAd v aX)) (σ := σ) (k := 0) (n := 6) (As := [.int (xs (i + 1)), .int (xs (i + 2)), .int (xs (i + 3))]) (st := []) (K := fun r σ' => r = o_decade U (xs (i + 1)) (xs (i + 2)) (xs (i + 3)) ∧ rX σ' U) C.1 rfl rfl (by decide : 0 < 151) rfl rfl rfl (fun hj => ct_X9_decade g.2.1 (setAd v aX) hj _ _ _ _ _ (px_decade hX (fun σ' h => ⟨rfl, h⟩))) okL_X9_decade cwL_X9_decade (by rw [C.2.1]; exact Nat.le_of_ble_eq_true rfl) (by rw [C.2.1]; exact Nat.le_of_ble_eq_true rfl) (by rw [C.2.1]; exact Nat.le_of_ble_eq_true rfl) (by rw [C.2.1]; exact Nat.le_of_ble_eq_true rfl) rfl rfl (Nat.le_of_ble_eq_true rfl) dL_law_781 (fun r1 σ1 h1 => ?_)
  obtain ⟨rfl, h1⟩ := h1
  refine gw_perm List.perm_append_comm ?_
  refine gw_aload_n C.1 dL_law_784 1 rfl ?_
  refine lw_arg C hi hL 1 (by decide) (by decide) dL_law_785 dL_law_786 dL_law_787 dL_law_788 dL_law_789 ?_
  refine lw_arg C hi hL 2 (by decide) (by decide) dL_law_790 dL_law_791 dL_law_792 dL_law_793 dL_law_794 ?_
  refine lw_arg C hi hL 3 (by decide) (by decide) dL_law_795 dL_law_796 dL_law_797 dL_law_798 dL_law_799 ?_
  refine gw_callVi (w := tM_w (setAd v aM)) (σ := τ) (k := 0) (n := 7) (As := [.int (xs (i + 1)), .int (xs (i + 2)), .int (xs (i + 3))]) (st := [.int (o_decade U (xs (i + 1)) (xs (i + 2)) (xs (i + 3)))]) (K := fun r τ' => r = o_decade U (xs (i + 1)) (xs (i + 2)) (xs (i + 3)) ∧ rM τ' U) C.1 rfl rfl (by decide : 0 < 15) rfl rfl rfl (fun hj => ct_X10_decade g.2.1 (setAd v aM) hj _ _ _ _ _ (pm_decade hX.1 hM (fun τ' h => ⟨rfl, h⟩))) okL_X10_decade cwL_X10_decade (by rw [C.2.1]; exact Nat.le_of_ble_eq_true rfl) (by rw [C.2.1]; exact Nat.le_of_ble_eq_true rfl) (by rw [C.2.1]; exact Nat.le_of_ble_eq_true rfl) (by rw [C.2.1]; exact Nat.le_of_ble_eq_true rfl) rfl rfl (Nat.le_of_ble_eq_true rfl) dL_law_800 (fun r2 τ1 h2 => ?_)
  obtain ⟨rfl, h2⟩ := h2
  refine gw_icmp_eq 857 C.1 dL_law_803 (by decide) (fun _ => ?_) (fun c => absurd rfl c)
  refine gw_perm List.perm_append_comm ?_
  exact hn _ _ _ h1 h2
set_option maxRecDepth 100000 in
set_option maxHeartbeats 4000000 in
theorem lc_24 (C : lw_C g v b L xs) (hi : i + 3 < L) (hL : L ≤ 2048) (hX : rX σ U) (hM : rM τ U) (hn : lw_N g v aX aM b i) : gw_G g v.1 4 (ts_wd (tM_w (setAd v aM)) τ ++ ts_wd (tX_w (setAd v aX)) σ) 166 1667 808 [(3, .int (nI i)), (2, .ref (aM 0)), (1, .ref (aX 0)), (0, .ref b)] [] := by
  refine gw_aload_n C.1 dL_law_808 2 rfl ?_
  refine gw_callVi (w := tX_w (setAd v aX)) (σ := σ) (k := 0) (n := 2) (As := []) (st := []) (K := fun r σ' => r = (o_keep U).1 ∧ rX σ' (o_keep U).2) C.1 rfl rfl (by decide : 0 < 151) rfl rfl rfl (fun hj => ct_X9_keep g.2.1 (setAd v aX) hj _ _  (px_keep hX (fun σ' h => ⟨rfl, h⟩))) okL_X9_keep cwL_X9_keep (by rw [C.2.1]; exact Nat.le_of_ble_eq_true rfl) (by rw [C.2.1]; exact Nat.le_of_ble_eq_true rfl) (by rw [C.2.1]; exact Nat.le_of_ble_eq_true rfl) (by rw [C.2.1]; exact Nat.le_of_ble_eq_true rfl) rfl rfl (Nat.le_of_ble_eq_true rfl) dL_law_809 (fun r1 σ1 h1 => ?_)
  obtain ⟨rfl, h1⟩ := h1
  refine gw_perm List.perm_append_comm ?_
  refine gw_aload_n C.1 dL_law_812 1 rfl ?_
  refine gw_callVi (w := tM_w (setAd v aM)) (σ := τ) (k := 0) (n := 2) (As := []) (st := [.int ((o_keep U).1)]) (K := fun r τ' => r = (o_keep U).1 ∧ rM τ' (o_keep U).2) C.1 rfl rfl (by decide : 0 < 15) rfl rfl rfl (fun hj => ct_X10_keep g.2.1 (setAd v aM) hj _ _  (pm_keep hX.1 hM (fun τ' h => ⟨rfl, h⟩))) okL_X10_keep cwL_X10_keep (by rw [C.2.1]; exact Nat.le_of_ble_eq_true rfl) (by rw [C.2.1]; exact Nat.le_of_ble_eq_true rfl) (by rw [C.2.1]; exact Nat.le_of_ble_eq_true rfl) (by rw [C.2.1]; exact Nat.le_of_ble_eq_true rfl) rfl rfl (Nat.le_of_ble_eq_true rfl) dL_law_813 (fun r2 τ1 h2 => ?_)
  obtain ⟨rfl, h2⟩ := h2
  refine gw_icmp_eq 857 C.1 dL_law_816 (by decide) (fun _ => ?_) (fun c => absurd rfl c)
  refine gw_perm List.perm_append_comm ?_
  exact hn _ _ _ h1 h2
set_option maxRecDepth 100000 in
set_option maxHeartbeats 4000000 in
theorem lc_25 (C : lw_C g v b L xs) (hi : i + 3 < L) (hL : L ≤ 2048) (hX : rX σ U) (hM : rM τ U) (hn : lw_N g v aX aM b i) : gw_G g v.1 4 (ts_wd (tM_w (setAd v aM)) τ ++ ts_wd (tX_w (setAd v aX)) σ) 166 1667 821 [(3, .int (nI i)), (2, .ref (aM 0)), (1, .ref (aX 0)), (0, .ref b)] [] := by
  refine gw_aload_n C.1 dL_law_821 2 rfl ?_
  refine gw_callVi (w := tX_w (setAd v aX)) (σ := σ) (k := 0) (n := 2) (As := []) (st := []) (K := fun r σ' => r = (o_back U).1 ∧ rX σ' (o_back U).2) C.1 rfl rfl (by decide : 0 < 151) rfl rfl rfl (fun hj => ct_X9_back g.2.1 (setAd v aX) hj _ _  (px_back hX (fun σ' h => ⟨rfl, h⟩))) okL_X9_back cwL_X9_back (by rw [C.2.1]; exact Nat.le_of_ble_eq_true rfl) (by rw [C.2.1]; exact Nat.le_of_ble_eq_true rfl) (by rw [C.2.1]; exact Nat.le_of_ble_eq_true rfl) (by rw [C.2.1]; exact Nat.le_of_ble_eq_true rfl) rfl rfl (Nat.le_of_ble_eq_true rfl) dL_law_822 (fun r1 σ1 h1 => ?_)
  obtain ⟨rfl, h1⟩ := h1
  refine gw_perm List.perm_append_comm ?_
  refine gw_aload_n C.1 dL_law_825 1 rfl ?_
  refine gw_callVi (w := tM_w (setAd v aM)) (σ := τ) (k := 0) (n := 2) (As := []) (st := [.int ((o_back U).1)]) (K := fun r τ' => r = (o_back U).1 ∧ rM τ' (o_back U).2) C.1 rfl rfl (by decide : 0 < 15) rfl rfl rfl (fun hj => ct_X10_back g.2.1 (setAd v aM) hj _ _  (pm_back hX.1 hM (fun τ' h => ⟨rfl, h⟩))) okL_X10_back cwL_X10_back (by rw [C.2.1]; exact Nat.le_of_ble_eq_true rfl) (by rw [C.2.1]; exact Nat.le_of_ble_eq_true rfl) (by rw [C.2.1]; exact Nat.le_of_ble_eq_true rfl) (by rw [C.2.1]; exact Nat.le_of_ble_eq_true rfl) rfl rfl (Nat.le_of_ble_eq_true rfl) dL_law_826 (fun r2 τ1 h2 => ?_)
  obtain ⟨rfl, h2⟩ := h2
  refine gw_icmp_eq 857 C.1 dL_law_829 (by decide) (fun _ => ?_) (fun c => absurd rfl c)
  refine gw_perm List.perm_append_comm ?_
  exact hn _ _ _ h1 h2
set_option maxRecDepth 100000 in
set_option maxHeartbeats 4000000 in
theorem lc_26 (C : lw_C g v b L xs) (hi : i + 3 < L) (hL : L ≤ 2048) (hX : rX σ U) (hM : rM τ U) (hn : lw_N g v aX aM b i) : gw_G g v.1 4 (ts_wd (tM_w (setAd v aM)) τ ++ ts_wd (tX_w (setAd v aX)) σ) 166 1667 834 [(3, .int (nI i)), (2, .ref (aM 0)), (1, .ref (aX 0)), (0, .ref b)] [] := by
  refine gw_aload_n C.1 dL_law_834 2 rfl ?_
  refine lw_arg C hi hL 1 (by decide) (by decide) dL_law_835 dL_law_836 dL_law_837 dL_law_838 dL_law_839 ?_
  refine gw_callVi (w := tX_w (setAd v aX)) (σ := σ) (k := 0) (n := 6) (As := [.int (xs (i + 1))]) (st := []) (K := fun r σ' => r = o_count U (xs (i + 1)) ∧ rX σ' U) C.1 rfl rfl (by decide : 0 < 151) rfl rfl rfl (fun hj => ct_X9_count g.2.1 (setAd v aX) hj _ _ _ (px_count hX ⟨rfl, hX⟩)) okL_X9_count cwL_X9_count (by rw [C.2.1]; exact Nat.le_of_ble_eq_true rfl) (by rw [C.2.1]; exact Nat.le_of_ble_eq_true rfl) (by rw [C.2.1]; exact Nat.le_of_ble_eq_true rfl) (by rw [C.2.1]; exact Nat.le_of_ble_eq_true rfl) rfl rfl (Nat.le_of_ble_eq_true rfl) dL_law_840 (fun r1 σ1 h1 => ?_)
  obtain ⟨rfl, h1⟩ := h1
  refine gw_perm List.perm_append_comm ?_
  refine gw_aload_n C.1 dL_law_843 1 rfl ?_
  refine lw_arg C hi hL 1 (by decide) (by decide) dL_law_844 dL_law_845 dL_law_846 dL_law_847 dL_law_848 ?_
  refine gw_callVi (w := tM_w (setAd v aM)) (σ := τ) (k := 0) (n := 6) (As := [.int (xs (i + 1))]) (st := [.int (o_count U (xs (i + 1)))]) (K := fun r τ' => r = o_count U (xs (i + 1)) ∧ rM τ' U) C.1 rfl rfl (by decide : 0 < 15) rfl rfl rfl (fun hj => ct_X10_count g.2.1 (setAd v aM) hj _ _ _ (pm_count hX.1 hM (fun τ' h => ⟨rfl, h⟩))) okL_X10_count cwL_X10_count (by rw [C.2.1]; exact Nat.le_of_ble_eq_true rfl) (by rw [C.2.1]; exact Nat.le_of_ble_eq_true rfl) (by rw [C.2.1]; exact Nat.le_of_ble_eq_true rfl) (by rw [C.2.1]; exact Nat.le_of_ble_eq_true rfl) rfl rfl (Nat.le_of_ble_eq_true rfl) dL_law_849 (fun r2 τ1 h2 => ?_)
  obtain ⟨rfl, h2⟩ := h2
  refine gw_icmp_eq 857 C.1 dL_law_852 (by decide) (fun _ => ?_) (fun c => absurd rfl c)
  refine gw_perm List.perm_append_comm ?_
  exact hn _ _ _ h1 h2
end LWC
