theorem tw_X0 : ∀ q ∈ u_ws RX0 TX0 3, q ∈ ts_TB := by
  intro q hq
  obtain ⟨k, hk, rfl⟩ := List.mem_map.mp hq
  have hk := List.mem_range.mp hk
  match k, hk with
  | 0, _ => exact kw_342
  | 1, _ => exact kw_344
  | 2, _ => exact kw_346
  | k + 3, hk => omega
theorem tw_X1 : ∀ q ∈ u_ws RX1 TX1 3, q ∈ ts_TB := by
  intro q hq
  obtain ⟨k, hk, rfl⟩ := List.mem_map.mp hq
  have hk := List.mem_range.mp hk
  match k, hk with
  | 0, _ => exact kw_230
  | 1, _ => exact kw_232
  | 2, _ => exact kw_234
  | k + 3, hk => omega
theorem tw_X2 : ∀ q ∈ u_ws RX2 TX2 6, q ∈ ts_TB := by
  intro q hq
  obtain ⟨k, hk, rfl⟩ := List.mem_map.mp hq
  have hk := List.mem_range.mp hk
  match k, hk with
  | 0, _ => exact kw_149
  | 1, _ => exact kw_151
  | 2, _ => exact kw_153
  | 3, _ => exact kw_155
  | 4, _ => exact kw_157
  | 5, _ => exact kw_159
  | k + 6, hk => omega
theorem tw_X3 : ∀ q ∈ u_ws RX3 TX3 7, q ∈ ts_TB := by
  intro q hq
  obtain ⟨k, hk, rfl⟩ := List.mem_map.mp hq
  have hk := List.mem_range.mp hk
  match k, hk with
  | 0, _ => exact kw_273
  | 1, _ => exact kw_275
  | 2, _ => exact kw_277
  | 3, _ => exact kw_279
  | 4, _ => exact kw_281
  | 5, _ => exact kw_283
  | 6, _ => exact kw_285
  | k + 7, hk => omega
theorem tw_X4 : ∀ q ∈ u_ws RX4 TX4 4, q ∈ ts_TB := by
  intro q hq
  obtain ⟨k, hk, rfl⟩ := List.mem_map.mp hq
  have hk := List.mem_range.mp hk
  match k, hk with
  | 0, _ => exact kw_249
  | 1, _ => exact kw_251
  | 2, _ => exact kw_253
  | 3, _ => exact kw_255
  | k + 4, hk => omega
theorem tw_X5 : ∀ q ∈ u_ws RX5 TX5 3, q ∈ ts_TB := by
  intro q hq
  obtain ⟨k, hk, rfl⟩ := List.mem_map.mp hq
  have hk := List.mem_range.mp hk
  match k, hk with
  | 0, _ => exact kw_324
  | 1, _ => exact kw_326
  | 2, _ => exact kw_328
  | k + 3, hk => omega
theorem tw_X6 : ∀ q ∈ u_ws RX6 TX6 4, q ∈ ts_TB := by
  intro q hq
  obtain ⟨k, hk, rfl⟩ := List.mem_map.mp hq
  have hk := List.mem_range.mp hk
  match k, hk with
  | 0, _ => exact kw_96
  | 1, _ => exact kw_98
  | 2, _ => exact kw_100
  | 3, _ => exact kw_102
  | k + 4, hk => omega
theorem tw_X7 : ∀ q ∈ u_ws RX7 TX7 5, q ∈ ts_TB := by
  intro q hq
  obtain ⟨k, hk, rfl⟩ := List.mem_map.mp hq
  have hk := List.mem_range.mp hk
  match k, hk with
  | 0, _ => exact kw_302
  | 1, _ => exact kw_304
  | 2, _ => exact kw_306
  | 3, _ => exact kw_308
  | 4, _ => exact kw_310
  | k + 5, hk => omega
theorem tw_X8 : ∀ q ∈ u_ws RX8 TX8 7, q ∈ ts_TB := by
  intro q hq
  obtain ⟨k, hk, rfl⟩ := List.mem_map.mp hq
  have hk := List.mem_range.mp hk
  match k, hk with
  | 0, _ => exact kw_197
  | 1, _ => exact kw_199
  | 2, _ => exact kw_201
  | 3, _ => exact kw_203
  | 4, _ => exact kw_205
  | 5, _ => exact kw_207
  | 6, _ => exact kw_209
  | k + 7, hk => omega
theorem tw_X9 : ∀ q ∈ u_ws RX9 TX9 12, q ∈ ts_TB := by
  intro q hq
  obtain ⟨k, hk, rfl⟩ := List.mem_map.mp hq
  have hk := List.mem_range.mp hk
  match k, hk with
  | 0, _ => exact kw_481
  | 1, _ => exact kw_483
  | 2, _ => exact kw_485
  | 3, _ => exact kw_487
  | 4, _ => exact kw_489
  | 5, _ => exact kw_491
  | 6, _ => exact kw_493
  | 7, _ => exact kw_495
  | 8, _ => exact kw_497
  | 9, _ => exact kw_499
  | 10, _ => exact kw_501
  | 11, _ => exact kw_503
  | k + 12, hk => omega
theorem tw_X10 : ∀ q ∈ u_ws RX10 TX10 25, q ∈ ts_TB := by
  intro q hq
  obtain ⟨k, hk, rfl⟩ := List.mem_map.mp hq
  have hk := List.mem_range.mp hk
  match k, hk with
  | 0, _ => exact kw_926
  | 1, _ => exact kw_928
  | 2, _ => exact kw_930
  | 3, _ => exact kw_932
  | 4, _ => exact kw_934
  | 5, _ => exact kw_936
  | 6, _ => exact kw_938
  | 7, _ => exact kw_940
  | 8, _ => exact kw_942
  | 9, _ => exact kw_944
  | 10, _ => exact kw_946
  | 11, _ => exact kw_948
  | 12, _ => exact kw_950
  | 13, _ => exact kw_952
  | 14, _ => exact kw_954
  | 15, _ => exact kw_956
  | 16, _ => exact kw_958
  | 17, _ => exact kw_960
  | 18, _ => exact kw_962
  | 19, _ => exact kw_964
  | 20, _ => exact kw_966
  | 21, _ => exact kw_968
  | 22, _ => exact kw_970
  | 23, _ => exact kw_972
  | 24, _ => exact kw_974
  | k + 25, hk => omega
/-! the world of the class: 151 cells; v: the classes, where the cells lie -/
abbrev tX_V : Type := va_G × ClassId × ClassId × ClassId × ClassId × (Nat → Nat)
abbrev tX_ad (v : tX_V) : Nat → Nat := v.2.2.2.2.2
def tX_pl (t : Nat) : Nat := if t = 37 then 27 else 23
def tX_E1 (v : tX_V) (k : Nat) (f : Nat → Int32) : va_E := match k with
  | 0 => .inr (9, [.ref (tX_ad v 1), .ref (tX_ad v 37), .ref (tX_ad v 31), .ref (tX_ad v 43), .ref (tX_ad v 4), .ref (tX_ad v 6), .int (f 6), .ref (tX_ad v 7), .ref (tX_ad v 11), .ref (tX_ad v 16), .ref (tX_ad v 20), .ref (tX_ad v 21)])
  | 1 => .inr (6, [.ref (tX_ad v 2), .int (f 1), .int (f 2), .ref (tX_ad v 3)])
  | 2 => .inl (v.2.2.2.1, 200, .inl f)
  | 3 => .inl (v.2.1, 4, .inl f)
  | 4 => .inr (1, [.ref (tX_ad v 5), .int (f 1), .int (f 2)])
  | 5 => .inl (v.2.2.2.2.1, 8, .inr (.inr (.inr (.inr (fun i => some (tX_ad v (73 + 6 * i)))))))
  | 6 => .inl (v.2.2.2.2.1, 2, .inr (.inr (.inr (.inr (fun i => some (tX_ad v (61 + 6 * i)))))))
  | 7 => .inr (4, [.ref (tX_ad v 8), .ref (tX_ad v 9), .ref (tX_ad v 10), .int (f 3)])
  | 8 => .inl (v.2.1, 6, .inl f)
  | 9 => .inl (v.2.1, 6, .inl f)
  | 10 => .inl (v.2.2.1, 6, .inl f)
  | 11 => .inr (3, [.ref (tX_ad v 49), .ref (tX_ad v 12), .ref (tX_ad v 13), .ref (tX_ad v 14), .int (f 4), .ref (tX_ad v 15), .int (f 6)])
  | 12 => .inl (v.2.1, 6, .inl f)
  | 13 => .inl (v.2.1, 5, .inl f)
  | 14 => .inl (v.2.1, 10, .inl f)
  | 15 => .inl (v.2.1, 6, .inl f)
  | 16 => .inr (7, [.ref (tX_ad v 17), .ref (tX_ad v 18), .int (f 2), .ref (tX_ad v 19), .int (f 4)])
  | 17 => .inl (v.2.2.2.2.1, 5, .inr (.inr (.inr (.inr (fun i => some (tX_ad v (121 + 6 * i)))))))
  | 18 => .inl (v.2.1, 4, .inl f)
  | 19 => .inl (v.2.1, 4, .inl f)
  | 20 => .inr (5, [.ref (tX_ad v 55), .int (f 1), .int (f 2)])
  | 21 => .inr (0, [.ref (tX_ad v 22), .int (f 1), .int (f 2)])
  | 22 => .inl (v.2.1, 6, .inl f)
  | 23 => .inr (2, [.int (f 0), .int (f 1), .int (f 2), .ref (tX_ad v 24), .ref (tX_ad v 25), .ref (tX_ad v 26)])
  | 24 => .inl (v.2.1, 6, .inl f)
  | 25 => .inl (v.2.1, 5, .inl f)
  | 26 => .inl (v.2.1, 5, .inl f)
  | 27 => .inr (2, [.int (f 0), .int (f 1), .int (f 2), .ref (tX_ad v 28), .ref (tX_ad v 29), .ref (tX_ad v 30)])
  | 28 => .inl (v.2.1, 6, .inl f)
  | 29 => .inl (v.2.1, 5, .inl f)
  | _ => .inl (v.2.1, 5, .inl f)
def tX_E2 (v : tX_V) (t j : Nat) (f : Nat → Int32) : va_E := match j with
  | 0 => .inr (8, [.ref (tX_ad v (tX_pl t)), .ref (tX_ad v (t + 1)), .ref (tX_ad v (t + 2)), .ref (tX_ad v (t + 3)), .ref (tX_ad v (t + 4)), .ref (tX_ad v (t + 5)), .int (f 6)])
  | 1 => .inl (v.2.1, 6, .inl f)
  | 2 => .inl (v.2.1, 6, .inl f)
  | 3 => .inl (v.2.1, 6, .inl f)
  | _ => .inl (v.2.2.1, 6, .inl f)
def tX_E (v : tX_V) (k : Nat) (f : Nat → Int32) : va_E := if k < 31 then tX_E1 v k f else tX_E2 v k ((k - 31) % 6) f
def tX_ty (v : tX_V) : List (ClassId × FieldType) := [(v.2.1, .int), (v.2.2.1, .boolean), (v.2.2.2.1, .char), (v.2.2.2.2.1, .object "TowerService$Tower")]
def tX_w (v : tX_V) : ts_Wd := (v.1, tX_ty v, 151, tX_E v, tX_ad v)
/-- a tower's cell, a plan's cell -/
def tX_T (t : Nat) : Prop := ∃ i, i < 20 ∧ t = 31 + 6 * i
def tX_L (k : Nat) : Prop := k = 23 ∨ k = 27
theorem tX_T.lt {t : Nat} (h : tX_T t) : t < 151 := by obtain ⟨i, h, rfl⟩ := h; omega
theorem tX_L.lt {t : Nat} (h : tX_L t) : t < 151 := by rcases h with rfl | rfl <;> omega
theorem tX_Lp (t : Nat) : tX_L (tX_pl t) := by unfold tX_pl; split; exact Or.inr rfl; exact Or.inl rfl
theorem tX_Tc (i : Nat) (h : i < 20) {t : Nat} (ht : 31 + 6 * i = t) : tX_T t := ⟨i, h, ht.symm⟩
theorem tX_Tr {i : Int32} {n b : Nat} (h : vp_in i n) (hb : ∃ j, b = 31 + 6 * j ∧ j + n ≤ 20) : tX_T (b + 6 * i.toNatClampNeg) := by
  obtain ⟨j, rfl, hj⟩ := hb
  have : i.toNatClampNeg < n := Nat.not_le.mp fun q => h (Or.inr q)
  exact ⟨j + i.toNatClampNeg, by omega, by omega⟩
theorem tX_eT {v : tX_V} {t : Nat} (h : tX_T t) (f : Nat → Int32) : tX_E v t f = .inr (8, [.ref (tX_ad v (tX_pl t)), .ref (tX_ad v (t + 1)), .ref (tX_ad v (t + 2)), .ref (tX_ad v (t + 3)), .ref (tX_ad v (t + 4)), .ref (tX_ad v (t + 5)), .int (f 6)]) := by
  obtain ⟨i, hi, rfl⟩ := h
  have h1 : ¬ 31 + 6 * i < 31 := by omega
  have h2 : (31 + 6 * i - 31) % 6 = 0 := by omega
  rw [tX_E, if_neg h1, h2]
  rfl
theorem tX_eL {v : tX_V} {k : Nat} (h : tX_L k) (f : Nat → Int32) : tX_E v k f = .inr (2, [.int (f 0), .int (f 1), .int (f 2), .ref (tX_ad v (k + 1)), .ref (tX_ad v (k + 2)), .ref (tX_ad v (k + 3))]) := by
  rcases h with rfl | rfl <;> rfl
/-- arrays by their cells: of numbers, of marks, of letters -/
def tX_A (q n z : Nat) (c : tX_V → ClassId) : Prop := q < 151 ∧ z = z ∧ ∀ (v : tX_V) (f : Nat → Int32), tX_E v q f = .inl (c v, n, .inl f)
abbrev tX_IA (q n : Nat) : Prop := tX_A q n 0 (fun v => v.2.1)
abbrev tX_ZA (q n : Nat) : Prop := tX_A q n 1 (fun v => v.2.2.1)
abbrev tX_CA (q n : Nat) : Prop := tX_A q n 2 (fun v => v.2.2.2.1)
theorem tX_a1 {t : Nat} (h : tX_T t) {q : Nat} (hq : t + 1 = q) : tX_IA q 6 := by
  subst hq
  obtain ⟨i, hi, rfl⟩ := h
  have h1 : ¬ 31 + 6 * i + 1 < 31 := by omega
  have h2 : (31 + 6 * i + 1 - 31) % 6 = 1 := by omega
  exact ⟨by omega, rfl, fun v f => by rw [tX_E, if_neg h1, h2]; rfl⟩
theorem tX_a2 {t : Nat} (h : tX_T t) {q : Nat} (hq : t + 2 = q) : tX_IA q 6 := by
  subst hq
  obtain ⟨i, hi, rfl⟩ := h
  have h1 : ¬ 31 + 6 * i + 2 < 31 := by omega
  have h2 : (31 + 6 * i + 2 - 31) % 6 = 2 := by omega
  exact ⟨by omega, rfl, fun v f => by rw [tX_E, if_neg h1, h2]; rfl⟩
theorem tX_a3 {t : Nat} (h : tX_T t) {q : Nat} (hq : t + 3 = q) : tX_IA q 6 := by
  subst hq
  obtain ⟨i, hi, rfl⟩ := h
  have h1 : ¬ 31 + 6 * i + 3 < 31 := by omega
  have h2 : (31 + 6 * i + 3 - 31) % 6 = 3 := by omega
  exact ⟨by omega, rfl, fun v f => by rw [tX_E, if_neg h1, h2]; rfl⟩
theorem tX_a4 {t : Nat} (h : tX_T t) {q : Nat} (hq : t + 4 = q) : tX_ZA q 6 := by
  subst hq
  obtain ⟨i, hi, rfl⟩ := h
  have h1 : ¬ 31 + 6 * i + 4 < 31 := by omega
  have h2 : (31 + 6 * i + 4 - 31) % 6 = 4 := by omega
  exact ⟨by omega, rfl, fun v f => by rw [tX_E, if_neg h1, h2]; rfl⟩
theorem tX_a5 {t : Nat} (h : tX_T t) {q : Nat} (hq : t + 5 = q) : tX_ZA q 6 := by
  subst hq
  obtain ⟨i, hi, rfl⟩ := h
  have h1 : ¬ 31 + 6 * i + 5 < 31 := by omega
  have h2 : (31 + 6 * i + 5 - 31) % 6 = 5 := by omega
  exact ⟨by omega, rfl, fun v f => by rw [tX_E, if_neg h1, h2]; rfl⟩
theorem tX_b1 {k : Nat} (h : tX_L k) {q : Nat} (hq : k + 1 = q) : tX_IA q 6 := by
  subst hq
  rcases h with rfl | rfl <;> exact ⟨by omega, rfl, fun v f => rfl⟩
theorem tX_b2 {k : Nat} (h : tX_L k) {q : Nat} (hq : k + 2 = q) : tX_IA q 5 := by
  subst hq
  rcases h with rfl | rfl <;> exact ⟨by omega, rfl, fun v f => rfl⟩
theorem tX_b3 {k : Nat} (h : tX_L k) {q : Nat} (hq : k + 3 = q) : tX_IA q 5 := by
  subst hq
  rcases h with rfl | rfl <;> exact ⟨by omega, rfl, fun v f => rfl⟩
theorem tX_c2 : tX_CA 2 200 := ⟨by omega, rfl, fun v f => rfl⟩
theorem tX_c3 : tX_IA 3 4 := ⟨by omega, rfl, fun v f => rfl⟩
theorem tX_c8 : tX_IA 8 6 := ⟨by omega, rfl, fun v f => rfl⟩
theorem tX_c9 : tX_IA 9 6 := ⟨by omega, rfl, fun v f => rfl⟩
theorem tX_c10 : tX_ZA 10 6 := ⟨by omega, rfl, fun v f => rfl⟩
theorem tX_c12 : tX_IA 12 6 := ⟨by omega, rfl, fun v f => rfl⟩
theorem tX_c13 : tX_IA 13 5 := ⟨by omega, rfl, fun v f => rfl⟩
theorem tX_c14 : tX_IA 14 10 := ⟨by omega, rfl, fun v f => rfl⟩
theorem tX_c15 : tX_IA 15 6 := ⟨by omega, rfl, fun v f => rfl⟩
theorem tX_c18 : tX_IA 18 4 := ⟨by omega, rfl, fun v f => rfl⟩
theorem tX_c19 : tX_IA 19 4 := ⟨by omega, rfl, fun v f => rfl⟩
theorem tX_c22 : tX_IA 22 6 := ⟨by omega, rfl, fun v f => rfl⟩
theorem tX_c24 : tX_IA 24 6 := ⟨by omega, rfl, fun v f => rfl⟩
theorem tX_c25 : tX_IA 25 5 := ⟨by omega, rfl, fun v f => rfl⟩
theorem tX_c26 : tX_IA 26 5 := ⟨by omega, rfl, fun v f => rfl⟩
theorem tX_c28 : tX_IA 28 6 := ⟨by omega, rfl, fun v f => rfl⟩
theorem tX_c29 : tX_IA 29 5 := ⟨by omega, rfl, fun v f => rfl⟩
theorem tX_c30 : tX_IA 30 5 := ⟨by omega, rfl, fun v f => rfl⟩
/-! the world of the reference: 15 cells -/
def tM_len (k : Nat) : Nat := match k with
  | 1 => 6
  | 2 => 10
  | 3 => 21
  | 4 => 168
  | 5 => 42
  | 6 => 18
  | 7 => 200
  | 8 => 4
  | 9 => 6
  | 10 => 21
  | 11 => 10
  | 12 => 21
  | 13 => 6
  | 14 => 6
  | _ => 0
def tM_E (v : tX_V) (k : Nat) (f : Nat → Int32) : va_E := match k with
  | 0 => .inr (10, [.int (f 0), .int (f 1), .ref (tX_ad v 1), .int (f 3), .ref (tX_ad v 2), .ref (tX_ad v 3), .int (f 6), .ref (tX_ad v 4), .int (f 8), .ref (tX_ad v 5), .int (f 10), .ref (tX_ad v 6), .ref (tX_ad v 7), .int (f 13), .int (f 14), .ref (tX_ad v 8), .int (f 16), .int (f 17), .ref (tX_ad v 9), .ref (tX_ad v 10), .int (f 20), .ref (tX_ad v 11), .ref (tX_ad v 12), .ref (tX_ad v 13), .ref (tX_ad v 14)])
  | k => .inl (v.2.1, tM_len k, .inl f)
def tM_w (v : tX_V) : ts_Wd := (v.1, tX_ty v, 15, tM_E v, tX_ad v)
def tM_A (k n : Nat) : Prop := k < 15 ∧ tM_len k = n ∧ ∀ (v : tX_V) (f : Nat → Int32), tM_E v k f = .inl (v.2.1, n, .inl f)
theorem tM_c1 : tM_A 1 6 := ⟨by omega, rfl, fun v f => rfl⟩
theorem tM_c2 : tM_A 2 10 := ⟨by omega, rfl, fun v f => rfl⟩
theorem tM_c3 : tM_A 3 21 := ⟨by omega, rfl, fun v f => rfl⟩
theorem tM_c4 : tM_A 4 168 := ⟨by omega, rfl, fun v f => rfl⟩
theorem tM_c5 : tM_A 5 42 := ⟨by omega, rfl, fun v f => rfl⟩
theorem tM_c6 : tM_A 6 18 := ⟨by omega, rfl, fun v f => rfl⟩
theorem tM_c7 : tM_A 7 200 := ⟨by omega, rfl, fun v f => rfl⟩
theorem tM_c8 : tM_A 8 4 := ⟨by omega, rfl, fun v f => rfl⟩
theorem tM_c9 : tM_A 9 6 := ⟨by omega, rfl, fun v f => rfl⟩
theorem tM_c10 : tM_A 10 21 := ⟨by omega, rfl, fun v f => rfl⟩
theorem tM_c11 : tM_A 11 10 := ⟨by omega, rfl, fun v f => rfl⟩
theorem tM_c12 : tM_A 12 21 := ⟨by omega, rfl, fun v f => rfl⟩
theorem tM_c13 : tM_A 13 6 := ⟨by omega, rfl, fun v f => rfl⟩
theorem tM_c14 : tM_A 14 6 := ⟨by omega, rfl, fun v f => rfl⟩
