/-! chances: how many a set has, powers, the common divisor; the class's likely and count -/
def pop (m : Nat) : Nat := cn (fun i => m.testBit i) 6
theorem cn_cut (f : Nat → Bool) {n : Nat} : ∀ k, n ≤ k → cn (fun i => decide (i < n) && f i) k = cn f n
  | 0, h => by have : n = 0 := by omega
               subst this; rfl
  | k + 1, h => by
    by_cases e : n = k + 1
    · subst e; exact cn_congr _ (fun i hi => by simp [hi])
    · show cn (fun i => decide (i < n) && f i) k + (if (decide (k < n) && f k) = true then 1 else 0) = cn f n
      rw [cn_cut f k (by omega)]
      have : ¬ k < n := by omega
      simp [this]
theorem pop_bs (f : Nat → Bool) {n : Nat} (h : n ≤ 6) : pop (bs f n) = cn f n := by
  unfold pop
  rw [cn_congr (g := fun i => decide (i < n) && f i) 6 (fun i _ => bs_bit f n i)]
  exact cn_cut f 6 h
theorem pop_le (m : Nat) : pop m ≤ 6 := cn_le _ _
theorem sx_bitCount {K : Int32 → ts_S → Prop} {σ : ts_S} {m : Nat} (hm : m < 64) (hk : K (nI (pop m)) σ) : wp_J6_bitCount_0f7a4 K σ (nI m) := by
  have key : ∀ m : Fin 64, wp_J6_bitCount_0f7a4 (fun r _ => r = nI (pop m.1)) (fun _ _ => 0) (nI m.1) := by
    unfold wp_J6_bitCount_0f7a4
    decide +kernel
  have e := key ⟨m, hm⟩
  unfold wp_J6_bitCount_0f7a4 at e ⊢
  rw [e]
  exact hk
theorem sx_power {K : Int32 → ts_S → Prop} {σ : ts_S} {a n : Nat} (hn : n < 1000) (hk : K (nI (a ^ n)) σ) : wp_X9_power K σ (nI a) (nI n) := by
  unfold wp_X9_power wp_X9_power_l4
  intro X hX
  refine ts_down (P := fun i => X σ (nI (a ^ i)) (nI i)) n ?_ ?_
  · apply hX; unfold wp_X9_power_b4
    rw [if_pos (nI_le (Nat.le_refl _) (by omega))]; exact hk
  · intro i hi ih
    apply hX; unfold wp_X9_power_b4
    rw [if_neg (nI_ge hi (by omega)), pk_mul, nI_1, ← Nat.pow_succ]; exact ih
theorem sx_commonDivisor {K : Int32 → ts_S → Prop} {σ : ts_S} {a b : Nat} (ha : a < 2 ^ 30) (hb : b < 2 ^ 20) (hk : K (nI (Nat.gcd a b)) σ) : wp_X9_commonDivisor K σ (nI a) (nI b) := by
  unfold wp_X9_commonDivisor wp_X9_commonDivisor_l2
  intro X hX
  have key : ∀ k, k ≤ 20 → ∀ a b i : Nat, a < 2 ^ 30 → b < 2 ^ k → i + 2 * k ≤ 90 → K (nI (Nat.gcd a b)) σ → X σ (nI a) (nI b) (nI i) := by
    intro k
    induction k with
    | zero =>
      intro _ a b i ha hb hi hk
      have : b = 0 := by simpa using hb
      subst this
      apply hX; unfold wp_X9_commonDivisor_b2
      rw [if_neg (by rw [k100]; exact nI_ge (by omega) (by omega)), if_pos (by rfl)]
      simpa using hk
    | succ k ih =>
      intro hk20 a b i ha hb hi hk
      have hb20 : b < 2 ^ 20 := Nat.lt_of_lt_of_le hb (Nat.pow_le_pow_right (by omega) hk20)
      apply hX; unfold wp_X9_commonDivisor_b2
      rw [if_neg (by rw [k100]; exact nI_ge (by omega) (by omega))]
      by_cases d : b = 0
      · rw [if_pos (by rw [d]; rfl)]; subst d; simpa using hk
      have hne : ¬ nI b = 0 := by rw [k0, nI_eq (by omega) (by omega)]; exact d
      rw [if_neg hne]
      refine ⟨hne, ?_⟩
      rw [pk_rem (by omega) (by omega) (by omega), nI_1]
      have hr : a % b < b := Nat.mod_lt _ (by omega)
      generalize hrr : a % b = r at hr
      have hg : Nat.gcd a b = Nat.gcd b r := by rw [Nat.gcd_comm a b, Nat.gcd_rec b a, hrr, Nat.gcd_comm]
      rw [hg] at hk
      apply hX; unfold wp_X9_commonDivisor_b2
      rw [if_neg (by rw [k100]; exact nI_ge (by omega) (by omega))]
      by_cases d2 : r = 0
      · rw [if_pos (by rw [d2]; rfl)]; subst d2; simpa using hk
      have hne2 : ¬ nI r = 0 := by rw [k0, nI_eq (by omega) (by omega)]; exact d2
      rw [if_neg hne2]
      refine ⟨hne2, ?_⟩
      rw [pk_rem (by omega) (by omega) (by omega), nI_1]
      refine ih (by omega) r (b % r) (i + 1 + 1) (by omega) ?_ (by omega) ?_
      · have h1 : b % r < r := Nat.mod_lt _ (by omega)
        have h2 : b % r + r ≤ b := by
          have h3 := Nat.div_add_mod b r
          have h4 : 1 ≤ b / r := Nat.div_pos (by omega) (by omega)
          have h5 : r * 1 ≤ r * (b / r) := Nat.mul_le_mul_left r h4
          omega
        have h3 : (2 : Nat) ^ (k + 1) = 2 * 2 ^ k := by rw [Nat.pow_succ]; omega
        omega
      · have hg2 : Nat.gcd b r = Nat.gcd r (b % r) := by rw [Nat.gcd_comm b r, Nat.gcd_rec r b, Nat.gcd_comm (b % r) r]
        rw [← hg2]; exact hk
  exact key 20 (by omega) a b 0 ha hb (by omega) hk
theorem bt_sub {j f : Nat} (hj : j < 64) (hf : f < 64) : (nI j &&& (nI f ^^^ (-1)) = 0) ↔ (j &&& f = j) := by
  have h : ∀ j : Fin 64, ∀ f : Fin 64, (nI j.1 &&& (nI f.1 ^^^ (-1)) = 0) ↔ (j.1 &&& f.1 = j.1) := by decide +kernel
  exact h ⟨j, hj⟩ ⟨f, hf⟩
theorem sub_bit {j f : Nat} (h : j &&& f = j) (i : Nat) (hi : j.testBit i = true) : f.testBit i = true := by
  have : (j &&& f).testBit i = j.testBit i := by rw [h]
  rw [Nat.testBit_and, hi] at this
  simpa using this
theorem pop_sub {j f : Nat} (h : j &&& f = j) : ∀ k, cn (fun i => j.testBit i) k + cn (fun i => f.testBit i && !j.testBit i) k = cn (fun i => f.testBit i) k
  | 0 => rfl
  | k + 1 => by
    unfold cn
    have ih := pop_sub h k
    have hb := sub_bit h k
    cases e : j.testBit k <;> cases e2 : f.testBit k <;> simp_all <;> omega
def gon (T : sT) (m : Nat) : sT := (uY T, uS T, uA T, uN T, fun p => uG T p || m.testBit p, uC T)
def lkw (fz x j : Nat) : Nat := x ^ pop j * (10 - x) ^ (pop fz - pop j)
def lkS (P : sP) (T : sT) (fz m x : Nat) : Nat → Nat
  | 0 => 0
  | j + 1 => lkS P T fz m x j + (if j &&& fz = j ∧ m ≤ dnm P (gon T j) then lkw fz x j else 0)
def o_likely (U : sU) (a b c : Int32) : Int32 :=
  if win a 0 5 && (win b 0 10 && win c 0 1) then
    (if c = 0 then nI (lkS (vP U) (vT U) (bs (frz (vP U) (vT U)) (qn (vP U))) (ix a) (ix b) 64 / Nat.gcd (lkS (vP U) (vT U) (bs (frz (vP U) (vT U)) (qn (vP U))) (ix a) (ix b) 64) (10 ^ pop (bs (frz (vP U) (vT U)) (qn (vP U)))))
     else nI (10 ^ pop (bs (frz (vP U) (vT U)) (qn (vP U))) / Nat.gcd (lkS (vP U) (vT U) (bs (frz (vP U) (vT U)) (qn (vP U))) (ix a) (ix b) 64) (10 ^ pop (bs (frz (vP U) (vT U)) (qn (vP U)))))) else -1
theorem lkw_le {fz x j : Nat} (hx : x ≤ 10) (h : j &&& fz = j) : lkw fz x j ≤ 1000000 := by
  have hs := pop_sub h 6
  have h6 := pop_le fz
  unfold lkw
  have h1 : x ^ pop j ≤ 10 ^ pop j := Nat.pow_le_pow_left hx _
  have h2 : (10 - x) ^ (pop fz - pop j) ≤ 10 ^ (pop fz - pop j) := Nat.pow_le_pow_left (by omega) _
  have h3 : x ^ pop j * (10 - x) ^ (pop fz - pop j) ≤ 10 ^ pop j * 10 ^ (pop fz - pop j) := Nat.mul_le_mul h1 h2
  rw [← Nat.pow_add] at h3
  have h4 : 10 ^ (pop j + (pop fz - pop j)) ≤ 10 ^ 6 := Nat.pow_le_pow_right (by omega) (by unfold pop at *; omega)
  omega
theorem lkS_le {P : sP} {T : sT} {fz m x : Nat} (hx : x ≤ 10) : ∀ k, lkS P T fz m x k ≤ k * 1000000
  | 0 => by unfold lkS; omega
  | k + 1 => by
    have := lkS_le (P := P) (T := T) (fz := fz) (m := m) hx k
    unfold lkS
    split
    · next h => have := lkw_le (x := x) hx h.1; rw [Nat.succ_mul]; exact Nat.add_le_add (by assumption) this
    · rw [Nat.succ_mul]; exact Nat.le_trans this (Nat.le_add_right _ _)
theorem dnm_le (P : sP) (T : sT) : dnm P T ≤ qW P := cn_le _ _
theorem sx_these {K : Int32 → ts_S → Prop} {σ : ts_S} {U : sU} {j : Nat} (h : rX σ U) (hj : j < 64) (hk : ∀ σ', rX σ' U → K (nI (dnm (vP U) (gon (vT U) j))) σ') : wp_X9_doneIfTheseFall K σ (nI j) := by
  unfold wp_X9_doneIfTheseFall
  refine sx_trial h (fun σ1 hX1 hc1 => ?_)
  have h6 := h.xc.n6
  unfold wp_X9_doneIfTheseFall_l13
  intro X hX
  have main : ∀ σ', rX σ' U → (fr σ1 σ' 43 ∧ (∀ k, k ≠ 47 → σ' k = σ1 k) ∧ (∀ p, p < 0 → σ' 47 p = nB (uG (vT U) p || j.testBit p)) ∧ ∀ p, 0 ≤ p → σ' 47 p = σ1 47 p) → X σ' (nI 0) := by
    refine ts_down (P := fun i => ∀ σ', rX σ' U → (fr σ1 σ' 43 ∧ (∀ k, k ≠ 47 → σ' k = σ1 k) ∧ (∀ p, p < i → σ' 47 p = nB (uG (vT U) p || j.testBit p)) ∧ ∀ p, i ≤ p → σ' 47 p = σ1 47 p) → X σ' (nI i)) (qn (vP U)) ?_ ?_
    · intro σ2 hX2 ⟨g1, g2, g3, g4⟩
      apply hX; unfold wp_X9_doneIfTheseFall_b13
      rw [show σ2 23 1 = _ from hX2.xc.n, if_pos (nI_le (Nat.le_refl _) (by omega))]
      have hc2 : cx σ2 43 (vP U) (gon (vT U) j) := by
        refine ⟨hX2.2.1, ⟨by rw [g2 43 (by omega)]; exact hc1.yr, fun p hp => ?_⟩, hc1.2.2.1, hc1.2.2.2⟩
        rw [g2 (43 + 1) (by omega), g2 (43 + 2) (by omega), g2 (43 + 3) (by omega), g2 (43 + 5) (by omega)]
        exact ⟨hc1.st hp, hc1.ag hp, hc1.ne hp, g3 p hp, hc1.ca hp⟩
      exact sx_doneMany hc2 (hk σ2 hX2)
    · intro i hi ih σ2 hX2 ⟨g1, g2, g3, g4⟩
      apply hX; unfold wp_X9_doneIfTheseFall_b13
      rw [show σ2 23 1 = _ from hX2.xc.n, if_neg (nI_ge hi (by omega))]
      refine sx_hasBit (by omega) (by omega) ?_
      cases e : j.testBit i
      · simp only [itB0, nI_1]
        refine ih σ2 hX2 ⟨g1, g2, fun p hp => ?_, fun p hp => g4 p (by omega)⟩
        by_cases ep : p = i
        · subst ep; rw [g4 p (Nat.le_refl p), show σ1 47 p = _ from hc1.go hi, e]; simp
        · exact g3 p (by omega)
      · simp only [itB1]
        refine ⟨in6 hi h6, ?_⟩
        rintro _ rfl
        rw [cl6 hi h6, narZ1, nI_1]
        have hf2 : fr σ2 (ts_u σ2 47 i 1) 43 := fun k hk => ts_u_c (by omega)
        have hb2 : bz (ts_u σ2 47 i 1) 43 := by
          intro p hp
          obtain ⟨b1, b2⟩ := hX2.bb.at T43 p hp
          refine ⟨?_, ?_⟩
          · rw [ts_u_app]; split
            · exact ⟨true, rfl⟩
            · exact b1
          · rw [ts_u_c (by omega)]; exact b2
        refine ih _ (hX2.keepT T43 (by omega) hf2 hb2) ⟨g1.tr hf2, fun k hk => by rw [ts_u_c hk]; exact g2 k hk, fun p hp => ?_, fun p hp => ?_⟩
        · rw [ts_u_app]
          by_cases ep : p = i
          · subst ep; simp [e]; rfl
          · simp [ep]; exact g3 p (by omega)
        · rw [ts_u_app]
          have : p ≠ i := by omega
          simp [this]; exact g4 p (by omega)
  exact main σ1 hX1 ⟨fr.rf, fun _ _ => rfl, fun p hp => absurd hp (Nat.not_lt_zero p), fun _ _ => rfl⟩
theorem sx_ways {K : Int32 → ts_S → Prop} {σ : ts_S} {fz j x : Nat} (hf : fz < 64) (hj : j < 64) (hx : x ≤ 10) (hs : j &&& fz = j) (hk : K (nI (lkw fz x j)) σ) : wp_X9_waysOfTen K σ (nI fz) (nI j) (nI x) := by
  unfold wp_X9_waysOfTen
  have h6 := pop_le fz
  have h7 := pop_le j
  have hp := pop_sub hs 6
  refine sx_bitCount hj (sx_bitCount hf (sx_power (by omega) ?_))
  rw [k10, pk_sub (by omega), pk_sub (by unfold pop at *; omega)]
  refine sx_power (by omega) ?_
  rw [pk_mul]; exact hk
theorem px_likely {K : Int32 → ts_S → Prop} {σ : ts_S} {U : sU} {a b c : Int32} (h : rX σ U) (hk : ∀ σ', rX σ' U → K (o_likely U a b c) σ') : wp_X9_likely K σ a b c := by
  unfold wp_X9_likely
  refine sx_within ?_
  rw [show decide ((0 : Int32) ≤ a ∧ a ≤ 5) = win a 0 5 from rfl]
  unfold o_likely at hk
  cases dw : win a 0 5 <;> rw [dw] at hk
  · simp only [itB0]; exact hk σ h
  simp only [itB1]
  refine sx_within ?_
  rw [show decide ((0 : Int32) ≤ b ∧ b ≤ 10) = win b 0 10 from rfl]
  cases db : win b 0 10 <;> rw [db] at hk
  · simp only [itB0]; exact hk σ h
  simp only [itB1]
  refine sx_within ?_
  rw [show decide ((0 : Int32) ≤ c ∧ c ≤ 1) = win c 0 1 from rfl]
  cases dc : win c 0 1 <;> rw [dc] at hk
  · simp only [itB0]; exact hk σ h
  simp only [itB1]
  obtain ⟨m, h1, h2, e1, e2⟩ := win_iff (lo := 0) (hi := 5) dw (by omega) (by omega)
  obtain ⟨x, h3, h4, e3, e4⟩ := win_iff (lo := 0) (hi := 10) db (by omega) (by omega)
  rw [e2, e4] at hk; rw [e1, e3]
  refine sx_frozenBits h.xc ?_
  have hfz := bs_64 (frz (vP U) (vT U)) h.xc.n6
  generalize bs (frz (vP U) (vT U)) (qn (vP U)) = fz at hk hfz ⊢
  have h5 := h.xc.W5
  unfold wp_X9_likely_l45
  intro X hX
  have main : ∀ σ', rX σ' U → X σ' (nI (lkS (vP U) (vT U) fz m x 0)) (nI 0) := by
    refine ts_down (P := fun i => ∀ σ', rX σ' U → X σ' (nI (lkS (vP U) (vT U) fz m x i)) (nI i)) 64 ?_ ?_
    · intro σ2 hX2
      apply hX; unfold wp_X9_likely_b45
      rw [if_pos (by decide)]
      refine sx_bitCount hfz ?_
      have h6 := pop_le fz
      rw [k10]
      refine sx_power (by omega) ?_
      have hL := lkS_le (P := vP U) (T := vT U) (fz := fz) (m := m) (x := x) h4 64
      have hP : 10 ^ pop fz ≤ 10 ^ 6 := Nat.pow_le_pow_right (by omega) h6
      have hP1 : 1 ≤ 10 ^ pop fz := Nat.pow_pos (by omega)
      refine sx_commonDivisor (by omega) (by omega) ?_
      have hg1 : 1 ≤ Nat.gcd (lkS (vP U) (vT U) fz m x 64) (10 ^ pop fz) := Nat.gcd_pos_of_pos_right _ (by omega)
      have hg2 : Nat.gcd (lkS (vP U) (vT U) fz m x 64) (10 ^ pop fz) ≤ 10 ^ pop fz := Nat.gcd_le_right _ (by omega)
      rw [if_pos (by rw [k1]; exact nI_le hg1 (by omega))]
      have hne : ¬ nI (Nat.gcd (lkS (vP U) (vT U) fz m x 64) (10 ^ pop fz)) = 0 := by rw [k0, nI_eq (by omega) (by omega)]; omega
      by_cases d0 : c = 0
      · rw [if_pos d0]; simp only [d0, Bool.and_self, ↓reduceIte] at hk
        refine ⟨hne, ?_⟩
        rw [pk_div (by omega) (by omega) (by omega)]; exact hk σ2 hX2
      · rw [if_neg d0]; simp only [d0, Bool.and_self, ↓reduceIte] at hk
        refine ⟨hne, ?_⟩
        rw [pk_div (by omega) (by omega) (by omega)]; exact hk σ2 hX2
    · intro j hj ih σ2 hX2
      apply hX; unfold wp_X9_likely_b45
      rw [if_neg (by rw [show (64 : Int32) = nI 64 from rfl]; exact nI_ge hj (by omega))]
      unfold lkS at ih
      by_cases ds : j &&& fz = j
      · rw [if_pos ((bt_sub hj hfz).mpr ds)]
        refine sx_these hX2 hj (fun σ3 hX3 => ?_)
        have hd := dnm_le (vP U) (gon (vT U) j)
        by_cases dm : m ≤ dnm (vP U) (gon (vT U) j)
        · rw [if_neg (nI_nlt dm (by omega))]
          refine sx_ways hfz hj h4 ds ?_
          rw [nI_add, nI_1]
          simp only [ds, dm, and_self, ↓reduceIte] at ih
          exact ih σ3 hX3
        · rw [if_pos (nI_lt (by omega) (by omega)), nI_1]
          simp only [ds, dm, and_false, ↓reduceIte] at ih
          exact ih σ3 hX3
      · rw [if_neg (fun q => ds ((bt_sub hj hfz).mp q)), nI_1]
        simp only [ds, false_and, ↓reduceIte] at ih
        exact ih σ2 hX2
  exact main σ h
theorem px_count {K : Int32 → ts_S → Prop} {σ : ts_S} {U : sU} {a : Int32} (h : rX σ U) (hk : K (o_count U a) σ) : wp_X9_count K σ a := by
  unfold wp_X9_count
  unfold o_count at hk
  by_cases d0 : a = 0
  · rw [if_pos d0] at hk ⊢; rw [show σ 23 0 = _ from h.xc.h]; exact hk
  rw [if_neg d0] at hk ⊢
  by_cases d1 : a = 1
  · rw [if_pos d1] at hk ⊢; rw [show σ 23 1 = _ from h.xc.n]; exact hk
  rw [if_neg d1] at hk ⊢
  by_cases d2 : a = 2
  · rw [if_pos d2] at hk ⊢; rw [show σ 23 2 = _ from h.xc.w]; exact hk
  rw [if_neg d2] at hk ⊢
  by_cases d3 : a = 3
  · rw [if_pos d3] at hk ⊢; rw [show σ 31 6 = _ from h.xc.yr]; exact hk
  rw [if_neg d3] at hk ⊢
  by_cases d4 : a = 4
  · rw [if_pos d4] at hk ⊢; exact sx_goneMany h.xc hk
  rw [if_neg d4] at hk ⊢
  by_cases d5 : a = 5
  · rw [if_pos d5] at hk ⊢
    refine sx_frozenBits h.xc (sx_bitCount (bs_64 _ h.xc.n6) ?_)
    rw [pop_bs _ h.xc.n6]; exact hk
  rw [if_neg d5] at hk ⊢
  by_cases d6 : a = 6
  · rw [if_pos d6] at hk ⊢; exact sx_doneMany h.xc hk
  rw [if_neg d6] at hk ⊢
  by_cases d7 : a = 7
  · rw [if_pos d7] at hk ⊢; rw [h.se.1]; exact hk
  rw [if_neg d7] at hk ⊢
  by_cases d8 : a = 8
  · rw [if_pos d8] at hk ⊢; rw [h.ac.1]; exact hk
  rw [if_neg d8] at hk ⊢
  by_cases d9 : a = 9
  · rw [if_pos d9] at hk ⊢; rw [h.ke.1]; exact hk
  rw [if_neg d9] at hk ⊢
  by_cases d10 : a = 10
  · rw [if_pos d10] at hk ⊢; rw [h.tx.1]; exact hk
  rw [if_neg d10] at hk ⊢
  exact hk
