/-! the reference: swap, likely -/
def x2S (b : Option (Nat × Nat)) : Int32 := match b with
  | none => -4
  | some q => nI q.2
def x3S (b : Option (Nat × Nat)) : Int32 := match b with
  | none => -4
  | some q => nI q.1
def okS (b : Option (Nat × Nat)) : Prop := ∀ q, b = some q → q.1 ≤ 5
theorem nI_m4 {n : Nat} (h : n < 1000000) : ¬ nI n ≤ -4 := by
  rw [i32_le, nI_toInt (by omega), show (-4 : Int32).toInt = -4 from rfl]; omega
theorem bet_ok {b : Option (Nat × Nat)} {n c : Nat} (h : okS b) (hn : n ≤ 5) : okS (bet b n c) := by
  intro q hq
  unfold bet at hq
  cases b with
  | none => simp at hq; rw [← hq]; exact hn
  | some r =>
    simp at hq
    split at hq
    · simp at hq; rw [← hq]; exact hn
    · simp at hq; rw [← hq]; exact h r rfl
theorem bet_x {b : Option (Nat × Nat)} {n c : Nat} (h : okS b) (hn : n < 1000) : (nI n ≤ x3S b ∧ bet b n c = b) ∨ (¬ nI n ≤ x3S b ∧ bet b n c = some (n, c)) := by
  cases b with
  | none => exact .inr ⟨nI_m4 (by omega), rfl⟩
  | some r =>
    have hr := h r rfl
    by_cases d : r.1 < n
    · refine .inr ⟨nI_ge d (by omega), ?_⟩
      show (if r.1 < n then some (n, c) else some r) = _
      rw [if_pos d]
    · refine .inl ⟨nI_le (by omega) (by omega), ?_⟩
      show (if r.1 < n then some (n, c) else some r) = _
      rw [if_neg d]
theorem swQ_ok {P : sP} {T : sT} {p q : Nat} {b : Option (Nat × Nat)} (h : okS b) (hW : qW P ≤ 5) : okS (swQ P T p q b) := by
  unfold swQ; split
  · exact bet_ok h (by have := dnm_le P (swT T p q); omega)
  · exact h
theorem swI_ok {P : sP} {T : sT} {p : Nat} {b : Option (Nat × Nat)} (h : okS b) (hW : qW P ≤ 5) : ∀ k, okS (swI P T p b k)
  | 0 => h
  | k + 1 => swQ_ok (swI_ok h hW k) hW
theorem swO_ok {P : sP} {T : sT} (hW : qW P ≤ 5) : ∀ k, okS (swO P T k)
  | 0 => by intro q hq; cases hq
  | k + 1 => swI_ok (swO_ok hW k) hW _
theorem pm_swap {K : Int32 → ts_S → Prop} {σ : ts_S} {U : sU} {a : Int32} (w : wfU U) (h : rM σ U) (hk : ∀ σ', rM σ' U → K (o_swap U a) σ') : wp_X10_swap K σ a := by
  unfold wp_X10_swap
  refine ym_in ?_
  unfold o_swap at hk
  cases dw : win a 0 1 <;> rw [dw] at hk
  · simp only [itB0]; exact hk σ h
  simp only [itB1]
  have h6 : qn (vP U) ≤ 6 := w.1.2.2.1
  have h5 : qW (vP U) ≤ 5 := w.1.2.2.2.2.1
  have hg64 := bs_64 (uG (vT U)) h6
  unfold wp_X10_swap_l20
  intro X hX
  have main : ∀ σ', rM σ' U → X σ' (x2S (swO (vP U) (vT U) 0)) (x3S (swO (vP U) (vT U) 0)) (nI 0) := by
    refine ts_down (P := fun i => ∀ σ', rM σ' U → X σ' (x2S (swO (vP U) (vT U) i)) (x3S (swO (vP U) (vT U) i)) (nI i)) (qn (vP U)) ?_ ?_
    · intro σ1 h1
      apply hX; unfold wp_X10_swap_b20
      rw [h1.cn, if_pos (nI_le (Nat.le_refl _) (by omega))]
      have hk := hk σ1 h1
      simp only [Bool.true_eq_false, ↓reduceIte] at hk
      cases e : swO (vP U) (vT U) (qn (vP U)) <;> rw [e] at hk
      · by_cases d0 : a = 0
        · rw [if_pos d0]; exact hk
        · rw [if_neg d0]; exact hk
      · by_cases d0 : a = 0
        · rw [if_pos d0]; simp only [d0, ↓reduceIte] at hk; exact hk
        · rw [if_neg d0]; simp only [d0, ↓reduceIte] at hk; exact hk
    · intro p hp ih σ1 h1
      apply hX; unfold wp_X10_swap_b20
      rw [h1.cn, if_neg (nI_ge hp (by omega)), nI_1]
      unfold wp_X10_swap_l35
      intro Y hY
      have ob := swO_ok (P := vP U) (T := vT U) h5 p
      have ih : ∀ σ', rM σ' U → X σ' (x2S (swI (vP U) (vT U) p (swO (vP U) (vT U) p) (qn (vP U) - (p + 1)))) (x3S (swI (vP U) (vT U) p (swO (vP U) (vT U) p) (qn (vP U) - (p + 1)))) (nI (p + 1)) := ih
      generalize swO (vP U) (vT U) p = b at ob ih ⊢
      have inner : ∀ σ', rM σ' U → Y σ' (x2S (swI (vP U) (vT U) p b 0)) (x3S (swI (vP U) (vT U) p b 0)) (nI (p + 1 + 0)) := by
        refine ts_down (P := fun k => ∀ σ', rM σ' U → Y σ' (x2S (swI (vP U) (vT U) p b k)) (x3S (swI (vP U) (vT U) p b k)) (nI (p + 1 + k))) (qn (vP U) - (p + 1)) ?_ ?_
        · intro σ2 h2
          apply hY; unfold wp_X10_swap_b35
          rw [h2.cn, if_pos (nI_le (by omega) (by omega)), nI_1]
          exact ih σ2 h2
        · intro k hk2 ih2 σ2 h2
          apply hY; unfold wp_X10_swap_b35
          have hq : p + 1 + k < qn (vP U) := by omega
          have okk := swI_ok (P := vP U) (T := vT U) (p := p) ob h5 k
          have ih2 : ∀ σ', rM σ' U → Y σ' (x2S (swQ (vP U) (vT U) p (p + 1 + k) (swI (vP U) (vT U) p b k))) (x3S (swQ (vP U) (vT U) p (p + 1 + k) (swI (vP U) (vT U) p b k))) (nI (p + 1 + k + 1)) := ih2
          generalize swI (vP U) (vT U) p b k = bb at okk ih2 ⊢
          generalize p + 1 + k = q at hq ih2 ⊢
          obtain ⟨r1, -, -⟩ := h2.r3 hp
          obtain ⟨r2, -, -⟩ := h2.r3 hq
          have s1 : uS (vT U) p < qH (vP U) := (w.2.2.1.1.2 p hp).1
          have s2 : uS (vT U) q < qH (vP U) := (w.2.2.1.1.2 q hq).1
          have h10 : qH (vP U) ≤ 10 := w.1.2.1
          unfold swQ at ih2
          rw [h2.cn, if_neg (nI_ge hq (by omega)), cl1, h2.g3, e3p, e3p, nI_clamp (n := 3 + p) (by omega), nI_clamp (n := 3 + q) (by omega)]
          refine ⟨i21 (i := 1) (by omega), ym_has (by omega) (by omega) ?_⟩
          rw [bs_bit, decide_eq_true hp, Bool.true_and]
          cases g1 : uG (vT U) p <;> rw [g1] at ih2
          · simp only [itB0]
            refine ⟨i21 (i := 1) (by omega), ?_⟩
            rw [h2.g3]
            refine ym_has (by omega) (by omega) ?_
            rw [bs_bit, decide_eq_true hq, Bool.true_and]
            cases g2 : uG (vT U) q <;> rw [g2] at ih2
            · simp only [itB0]
              rw [r1, r2]
              refine ⟨i21 (by omega), i21 (by omega), ?_⟩
              by_cases es : uS (vT U) p = uS (vT U) q
              · rw [if_pos (by rw [es]), nI_1]
                simp [es] at ih2
                exact ih2 σ2 h2
              · rw [if_neg (by rw [eqI (by omega) (by omega)]; exact es)]
                simp [es] at ih2
                refine ym_asItIs w h2 (fun σ3 f3 h3 c3 => ?_)
                rw [(h3.r3 hq).1]
                refine ⟨i21 (by omega), i21 (by omega), ?_⟩
                rintro _ rfl
                obtain ⟨f4, c4⟩ := cm_setS c3 hp s2
                have h4 := h3.fm f4
                rw [(h4.r3 hp).1]
                refine ⟨i21 (by omega), i21 (by omega), ?_⟩
                rintro _ rfl
                obtain ⟨f5, c5⟩ := cm_setS c4 hq s1
                have h5' := h4.fm f5
                have c5 : cm _ (vP U) (swT (vT U) p q) := c5
                refine ym_done c5 ?_
                have hd := dnm_le (vP U) (swT (vT U) p q)
                have ih2 := ih2 _ h5'
                rw [k10, pk_mul, nI_add]
                unfold wp_X10_swap_j157
                rw [nI_1]
                rcases bet_x (c := 10 * p + q) okk (show dnm (vP U) (swT (vT U) p q) < 1000 by omega) with ⟨l1, l2⟩ | ⟨l1, l2⟩
                · rw [if_pos l1, if_pos l1]; rw [l2] at ih2; exact ih2
                · rw [if_neg l1, if_neg l1]; rw [l2] at ih2; exact ih2
            · simp only [itB1, nI_1]
              simp at ih2
              exact ih2 σ2 h2
          · simp only [itB1, nI_1]
            simp at ih2
            exact ih2 σ2 h2
      exact inner σ1 h1
  exact main σ h
theorem lk_prod {fz x j : Nat} (hs : j &&& fz = j) : ∀ k, x ^ cn (fun i => j.testBit i) (k + 1) * (10 - x) ^ cn (fun i => fz.testBit i && !j.testBit i) (k + 1) = x ^ cn (fun i => j.testBit i) k * (10 - x) ^ cn (fun i => fz.testBit i && !j.testBit i) k * (if fz.testBit k then (if j.testBit k then x else 10 - x) else 1) := by
  intro k
  have hb := sub_bit hs k
  have u1 : cn (fun i => j.testBit i) (k + 1) = cn (fun i => j.testBit i) k + (if j.testBit k then 1 else 0) := rfl
  have u2 : cn (fun i => fz.testBit i && !j.testBit i) (k + 1) = cn (fun i => fz.testBit i && !j.testBit i) k + (if fz.testBit k && !j.testBit k then 1 else 0) := rfl
  rw [u1, u2]
  cases e : j.testBit k <;> cases e2 : fz.testBit k
  · simp
  · simp [Nat.pow_succ, Nat.mul_assoc]
  · rw [hb e] at e2; cases e2
  · simp [Nat.pow_succ, Nat.mul_comm, Nat.mul_left_comm, Nat.mul_assoc]
theorem cn_hi {j n : Nat} (f : Nat → Bool) (hj : ∀ i, n ≤ i → f i = false) (hn : n ≤ 6) : cn f n = cn f 6 := by
  rw [← cn_cut f 6 hn]
  apply cn_congr
  intro i hi
  by_cases d : i < n
  · simp [d]
  · simp [d, hj i (by omega)]
theorem tb_hi {j n i : Nat} (h : j < 2 ^ n) (hi : n ≤ i) : j.testBit i = false := Nat.testBit_lt_two_pow (Nat.lt_of_lt_of_le h (Nat.pow_le_pow_right (by omega) hi))
theorem lkS_hi {P : sP} {T : sT} {fz m x n : Nat} (hf : fz < 2 ^ n) : ∀ k, lkS P T fz m x (2 ^ n + k) = lkS P T fz m x (2 ^ n)
  | 0 => rfl
  | k + 1 => by
    show lkS P T fz m x (2 ^ n + k) + _ = _
    rw [lkS_hi hf k, if_neg]
    · rfl
    · rintro ⟨h1, -⟩
      have h1 : (2 ^ n + k) &&& fz = 2 ^ n + k := h1
      have : (2 ^ n + k) &&& fz ≤ fz := Nat.and_le_right
      omega
theorem sh_n {n : Nat} (h : n ≤ 6) : (1 : Int32) <<< (nI n &&& 31) = nI (2 ^ n) := by
  have : ∀ n : Fin 7, (1 : Int32) <<< (nI n.1 &&& 31) = nI (2 ^ n.1) := by decide +kernel
  exact this ⟨n, by omega⟩
theorem ym_least {K : Int32 → ts_S → Prop} {σ : ts_S} {a b : Nat} {c : Int32} (ha : a < 2 ^ 30) (hb : 0 < b) (hb2 : b < 2 ^ 30) (hk : K (if c = 0 then nI (a / Nat.gcd a b) else nI (b / Nat.gcd a b)) σ) : wp_X10_least K σ (nI a) (nI b) c := by
  unfold wp_X10_least wp_X10_least_l5
  intro X hX
  have hg0 : 0 < Nat.gcd a b := Nat.gcd_pos_of_pos_right _ hb
  have key : ∀ y x : Nat, x < 2 ^ 30 → y < 2 ^ 30 → Nat.gcd x y = Nat.gcd a b → X σ (nI x) (nI y) := by
    intro y
    induction y using Nat.strongRecOn with
    | ind y ih =>
      intro x hx hy hg
      apply hX; unfold wp_X10_least_b5
      by_cases d : y = 0
      · subst d
        rw [Nat.gcd_zero_right] at hg
        rw [if_pos (by decide), hg]
        have hgb : Nat.gcd a b < 2 ^ 30 := by omega
        have hne : ¬ nI (Nat.gcd a b) = 0 := by rw [k0, nI_eq (by omega) (by omega)]; omega
        rw [pk_div (by omega) (by omega) (by omega), pk_div (by omega) (by omega) (by omega)]
        by_cases dc : c = 0
        · rw [if_pos dc] at hk ⊢; exact ⟨hne, hk⟩
        · rw [if_neg dc] at hk ⊢; exact ⟨hne, hk⟩
      · rw [if_neg (by rw [k0]; exact nI_ge (by omega) (by omega))]
        refine ⟨by rw [k0, nI_eq (by omega) (by omega)]; exact d, ?_⟩
        rw [pk_rem (by omega) (by omega) (by omega)]
        have hr : x % y < y := Nat.mod_lt _ (by omega)
        refine ih (x % y) hr y hy (by omega) ?_
        rw [← hg, Nat.gcd_comm x y, Nat.gcd_rec y x, Nat.gcd_comm]
  exact key b a ha hb2 rfl
theorem pm_likely {K : Int32 → ts_S → Prop} {σ : ts_S} {U : sU} {a b c : Int32} (w : wfU U) (h : rM σ U) (hk : ∀ σ', rM σ' U → K (o_likely U a b c) σ') : wp_X10_likely K σ a b c := by
  unfold wp_X10_likely
  refine ym_in ?_
  unfold o_likely at hk
  cases dw : win a 0 5 <;> rw [dw] at hk
  · simp only [itB0]; exact hk σ h
  simp only [itB1]
  refine ym_in ?_
  cases db : win b 0 10 <;> rw [db] at hk
  · simp only [itB0]; exact hk σ h
  simp only [itB1]
  refine ym_in ?_
  cases dc : win c 0 1 <;> rw [dc] at hk
  · simp only [itB0]; exact hk σ h
  simp only [itB1]
  obtain ⟨m, h1, h2, e1, e2⟩ := win_iff (lo := 0) (hi := 5) dw (by omega) (by omega)
  obtain ⟨x, h3, h4, e3, e4⟩ := win_iff (lo := 0) (hi := 10) db (by omega) (by omega)
  rw [e2, e4] at hk; rw [e1, e3]
  simp only [Bool.and_self, ↓reduceIte] at hk
  refine ym_asItIs w h (fun σ1 f1 hM1 c1 => ?_)
  have h6 := c1.n6
  have h5 := c1.W5
  have hg64 := bs_64 (uG (vT U)) h6
  have hf64 := bs_64 (frz (vP U) (vT U)) h6
  have hfn : bs (frz (vP U) (vT U)) (qn (vP U)) < 2 ^ qn (vP U) := bs_lt _ _
  refine ym_frozen c1 ?_
  generalize bs (frz (vP U) (vT U)) (qn (vP U)) = fz at hk hf64 hfn
  have h2n : 2 ^ qn (vP U) ≤ 2 ^ 6 := Nat.pow_le_pow_right (by omega) h6
  have hp6 := pop_le fz
  have ht6 : 10 ^ pop fz ≤ 10 ^ 6 := Nat.pow_le_pow_right (by omega) hp6
  have ht0 : 0 < 10 ^ pop fz := Nat.pow_pos (by omega)
  have hS : lkS (vP U) (vT U) fz m x 64 = lkS (vP U) (vT U) fz m x (2 ^ qn (vP U)) := by
    have := lkS_hi (P := vP U) (T := vT U) (m := m) (x := x) hfn (64 - 2 ^ qn (vP U))
    rwa [show 2 ^ qn (vP U) + (64 - 2 ^ qn (vP U)) = 64 by omega] at this
  rw [hS] at hk
  have loop2 : wp_X10_likely_l88 K (nI m) (nI x) c σ1 (nI fz) 0 (nI (10 ^ pop fz)) 0 := by
    unfold wp_X10_likely_l88
    intro X hX
    have main : ∀ σ', fm σ1 σ' → (∀ j, j ≠ 1 → σ' 12 j = σ1 12 j) → X σ' (nI (lkS (vP U) (vT U) fz m x 0)) (nI 0) := by
      refine ts_down (P := fun j => ∀ σ', fm σ1 σ' → (∀ j, j ≠ 1 → σ' 12 j = σ1 12 j) → X σ' (nI (lkS (vP U) (vT U) fz m x j)) (nI j)) (2 ^ qn (vP U)) ?_ ?_
      · intro σ2 f2 r2
        have hM2 := hM1.fm f2
        apply hX; unfold wp_X10_likely_b88
        have hle := lkS_le (P := vP U) (T := vT U) (fz := fz) (m := m) h4 (2 ^ qn (vP U))
        rw [hM2.cn, sh_n h6, if_pos (nI_le (Nat.le_refl _) (by omega))]
        exact ym_least (by omega) ht0 (by omega) (hk σ2 hM2)
      · intro j hj ih σ2 f2 r2
        have hM2 := hM1.fm f2
        apply hX; unfold wp_X10_likely_b88
        rw [hM2.cn, sh_n h6, if_neg (nI_ge hj (by omega))]
        have hle := lkS_le (P := vP U) (T := vT U) (fz := fz) (m := m) h4 j
        unfold lkS at ih
        by_cases hs : j &&& fz = j
        · rw [if_pos ((bt_sub (by omega) hf64).mpr hs)]
          unfold wp_X10_likely_l115
          intro Y hY
          refine ts_down (P := fun i => Y σ2 (nI (x ^ cn (fun i => j.testBit i) i * (10 - x) ^ cn (fun i => fz.testBit i && !j.testBit i) i)) (nI i)) (qn (vP U)) ?_ ?_
          · apply hY; unfold wp_X10_likely_b115
            have hps := pop_sub hs 6
            have ep : x ^ cn (fun i => j.testBit i) (qn (vP U)) * (10 - x) ^ cn (fun i => fz.testBit i && !j.testBit i) (qn (vP U)) = lkw fz x j := by
              rw [cn_hi (j := j) (fun i => j.testBit i) (fun i hi => tb_hi hj hi) h6, cn_hi (j := j) (fun i => fz.testBit i && !j.testBit i) (fun i hi => by rw [tb_hi hfn hi]; rfl) h6]
              unfold lkw pop
              congr 2; omega
            rw [hM2.cn, if_pos (nI_le (Nat.le_refl _) (by omega)), ep, cl1, hM2.g3, bt_oo hg64 (by omega)]
            refine ⟨i21 (i := 1) (by omega), i21 (i := 1) (by omega), ?_⟩
            rintro _ rfl
            have f3 : fm σ1 (ts_u σ2 12 1 (nI (bs (uG (vT U)) (qn (vP U)) ||| j))) := fun k hk => by rw [ts_u_c hk]; exact f2 k hk
            have r3 : ∀ i, i ≠ 1 → ts_u σ2 12 1 (nI (bs (uG (vT U)) (qn (vP U)) ||| j)) 12 i = σ1 12 i := fun i hi => by rw [ts_u_app, if_neg (fun z => hi z.2)]; exact r2 i hi
            have c3 : cm (ts_u σ2 12 1 (nI (bs (uG (vT U)) (qn (vP U)) ||| j))) (vP U) (gon (vT U) j) := by
              refine ⟨(hM1.fm f3).1, ⟨?_, ?_, ?_, fun p hp => ⟨?_, ?_, ?_⟩⟩, c1.2.2.1, c1.2.2.2⟩
              · rw [r3 _ (by omega)]; exact c1.yr
              · rw [ts_u_app, if_pos ⟨rfl, rfl⟩]
                congr 1
                apply bs_eq
                intro i
                rw [Nat.testBit_or, bs_bit]
                show _ = (decide (i < qn (vP U)) && (uG (vT U) i || j.testBit i))
                by_cases d : i < qn (vP U)
                · simp [d]
                · simp [d, tb_hi hj (by omega : qn (vP U) ≤ i)]
              · rw [r3 _ (by omega)]; exact c1.ca
              · rw [Nat.zero_add, r3 _ (by omega)]; exact c1.st hp
              · rw [Nat.zero_add, r3 _ (by omega)]; exact c1.ag hp
              · rw [Nat.zero_add, r3 _ (by omega)]; exact c1.ne hp
            refine ym_done c3 ?_
            have hd := dnm_le (vP U) (gon (vT U) j)
            rw [k0, nI_add, Nat.add_zero, nI_add, nI_1]
            by_cases dd : m ≤ dnm (vP U) (gon (vT U) j)
            · rw [if_neg (nI_nlt dd (by omega))]
              rw [if_pos ⟨hs, dd⟩] at ih
              exact ih _ f3 r3
            · rw [if_pos (nI_lt (by omega) (by omega))]
              rw [if_neg (fun z => dd z.2)] at ih
              exact ih _ f3 r3
          · intro i hi ih2
            apply hY; unfold wp_X10_likely_b115
            rw [lk_prod hs] at ih2
            rw [hM2.cn, if_neg (nI_ge hi (by omega)), k1, k10, pk_sub h4, pk_mul, pk_mul, pk_mul, nI_add]
            refine ym_has (by omega) (by omega) ?_
            cases e5 : fz.testBit i <;> rw [e5] at ih2
            · simp only [itB0]; exact ih2
            · simp only [itB1]
              refine ym_has (by omega) (by omega) ?_
              cases e6 : j.testBit i <;> rw [e6] at ih2
              · simp only [itB0]; exact ih2
              · simp only [itB1]; exact ih2
        · rw [if_neg (fun z => hs ((bt_sub (by omega) hf64).mp z)), nI_1]
          rw [if_neg (fun z => hs z.1)] at ih
          exact ih σ2 f2 r2
    exact main σ1 fm.rf (fun _ _ => rfl)
  unfold wp_X10_likely_l49
  intro X hX
  refine ts_down (P := fun i => X σ1 (nI (10 ^ cn (fun i => fz.testBit i) i)) (nI i)) (qn (vP U)) ?_ ?_
  · apply hX; unfold wp_X10_likely_b49
    rw [hM1.cn, if_pos (nI_le (Nat.le_refl _) (by omega)), cn_hi (j := 0) (fun i => fz.testBit i) (fun i hi => tb_hi hfn hi) h6]
    exact loop2
  · intro i hi ih
    apply hX; unfold wp_X10_likely_b49
    rw [hM1.cn, if_neg (nI_ge hi (by omega)), k1, k10, pk_mul, pk_mul, nI_add]
    refine ym_has (by omega) (by omega) ?_
    unfold cn at ih
    cases e5 : fz.testBit i <;> rw [e5] at ih
    · simp only [itB0]; rw [Nat.mul_one]; exact ih
    · simp only [itB1]; rw [← Nat.pow_succ]; exact ih
