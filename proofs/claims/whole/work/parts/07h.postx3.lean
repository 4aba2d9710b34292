theorem cn_not (f : Nat → Bool) : ∀ n, cn f n + cn (fun q => !f q) n = n
  | 0 => rfl
  | n + 1 => by
    have := cn_not f n
    unfold cn
    cases e : f n <;> simp [e] <;> omega
theorem wt_0 {P : sP} {T : sT} : wt P T 0 = cn (fun q => !uG T q) (qn P) := cn_congr _ (fun q _ => by simp)
theorem tF_id (T : sT) : tF T (uS T) = T := rfl
theorem sx_placesOf {K : Int32 → ts_S → Prop} {σ : ts_S} {U : sU} {p : Nat} (hX : rX σ U) (hc : cx σ 49 (vP U) (vT U)) (h11 : σ 11 4 = nI (wt (vP U) (vT U) 0)) (hp : p < qn (vP U)) (hk : ∀ m, m < 1024 → (uG (vT U) p = false → m = bs (plb (vP U) (vT U) p) (qH (vP U))) → K (nI m) σ) : wp_X3_placesOf K σ (nI p) := by
  have h6 := hX.xc.n6
  have h5 := hX.xc.W5
  have h10 := hX.xc.h10
  have hsp := hX.xc.sH hp
  have hw6 : wt (vP U) (vT U) 0 ≤ 6 := Nat.le_trans (cn_le _ _) h6
  unfold wp_X3_placesOf
  refine ⟨in6 hp h6, ?_⟩
  rw [cl6 hp h6, show σ 50 p = nI (uS (vT U) p) from hc.st hp, bt_one (by omega)]
  have second : ∀ m, m < 1024 → (∀ j, m.testBit j = (decide (j = uS (vT U) p) || exb (fun w => decide (qs (vP U) w = j)) (qW (vP U)))) → wp_X3_placesOf_l53 K (nI p) σ (nI m) 0 := by
    intro m hm hb
    unfold wp_X3_placesOf_l53
    intro X hXx
    have main : ∀ m, m < 1024 → (uG (vT U) p = false → ∀ j, m.testBit j = ((decide (j = uS (vT U) p) || exb (fun w => decide (qs (vP U) w = j)) (qW (vP U))) && !(decide (j < 0) && decide (uN (vT U) p < fam (vP U) (wt (vP U) (vT U) 0 - 1) (qk (vP U) p) (uA (vT U) p) j)))) → X σ (nI m) (nI 0) := by
      refine ts_down (P := fun s => ∀ m, m < 1024 → (uG (vT U) p = false → ∀ j, m.testBit j = ((decide (j = uS (vT U) p) || exb (fun w => decide (qs (vP U) w = j)) (qW (vP U))) && !(decide (j < s) && decide (uN (vT U) p < fam (vP U) (wt (vP U) (vT U) 0 - 1) (qk (vP U) p) (uA (vT U) p) j)))) → X σ (nI m) (nI s)) (qH (vP U)) ?_ ?_
      · intro m hm hb
        apply hXx; unfold wp_X3_placesOf_b53
        rw [show σ 23 0 = _ from hX.xc.h, if_pos (nI_le (Nat.le_refl _) (by omega))]
        refine hk m hm (fun hg => bs_eq (fun j => ?_))
        rw [hb hg j]
        unfold plb al
        rw [hg]
        by_cases hj : j < qH (vP U)
        · have : decide (uN (vT U) p < fam (vP U) (wt (vP U) (vT U) 0 - 1) (qk (vP U) p) (uA (vT U) p) j) = !decide (fam (vP U) (wt (vP U) (vT U) 0 - 1) (qk (vP U) p) (uA (vT U) p) j ≤ uN (vT U) p) := by
            by_cases z : fam (vP U) (wt (vP U) (vT U) 0 - 1) (qk (vP U) p) (uA (vT U) p) j ≤ uN (vT U) p
            · simp [z, Nat.not_lt.mpr z]
            · simp [z, Nat.not_le.mp z]
          rw [this]; simp [hj]
        · have e1 : ¬ j = uS (vT U) p := by omega
          have e2 : exb (fun w => decide (qs (vP U) w = j)) (qW (vP U)) = false := by
            cases e : exb (fun w => decide (qs (vP U) w = j)) (qW (vP U))
            · rfl
            · obtain ⟨w, w1, w2⟩ := exb_iff.mp e
              have := hX.xc.wsH w1
              have := of_decide_eq_true w2
              omega
          rw [e2]; simp [e1, hj]
      · intro s hs ih m hm hb
        apply hXx; unfold wp_X3_placesOf_b53
        rw [show σ 23 0 = _ from hX.xc.h, if_neg (nI_ge hs (by omega)), h11, nI_1]
        refine sx_frozenAmong (g := uS (vT U)) hc hp hs (fun bb hbb => ?_)
        have act : uG (vT U) p = false → bb = decide (uN (vT U) p < fam (vP U) (wt (vP U) (vT U) 0 - 1) (qk (vP U) p) (uA (vT U) p) s) := by
          intro hg
          have h1 : 1 ≤ wt (vP U) (vT U) 0 := by
            rw [wt_0]
            have : cn (fun r => decide (r = p)) (qn (vP U)) ≤ cn (fun q => !uG (vT U) q) (qn (vP U)) := cn_le_cn _ (fun r _ h => by have := of_decide_eq_true h; subst this; simp [hg])
            have h2 : cn (fun r => decide (r = p)) (qn (vP U)) = 1 := by
              rw [cn_sm, sm_congr (g := fun r => if p = r then 1 else 0) _ (fun r _ => by
                by_cases z : r = p
                · simp [z]
                · have z2 : ¬ p = r := fun e => z e.symm
                  simp [z, z2]), sm_pick 1 _ hp]
            omega
          exact hbb (wt (vP U) (vT U) 0 - 1) (by rw [k1, pk_sub h1]) (by omega)
        cases bb
        · simp only [itB0]
          refine ih m hm (fun hg j => ?_)
          rw [hb hg j]
          by_cases e : j = s
          · subst e; simp [← act hg]
          · have : (j < s + 1) ↔ (j < s) := by omega
            simp [this]
        · simp only [itB1]
          rw [bt_one (by omega), bt_clr (by omega) hm]
          refine ih _ (Nat.lt_of_le_of_lt Nat.and_le_left hm) (fun hg j => ?_)
          rw [bt_clr_bit (by omega) hm, hb hg j]
          by_cases e : j = s
          · subst e; simp [← act hg]
          · have : (j < s + 1) ↔ (j < s) := by omega
            simp [this, e]
    exact main m hm (fun _ j => by rw [hb j]; simp)
  unfold wp_X3_placesOf_l14
  intro X hXx
  have main : ∀ m, m < 1024 → (∀ j, m.testBit j = (decide (j = uS (vT U) p) || exb (fun w => decide (qs (vP U) w = j)) 0)) → X σ (nI m) (nI 0) := by
    refine ts_down (P := fun i => ∀ m, m < 1024 → (∀ j, m.testBit j = (decide (j = uS (vT U) p) || exb (fun w => decide (qs (vP U) w = j)) i)) → X σ (nI m) (nI i)) (qW (vP U)) ?_ ?_
    · intro m hm hb
      apply hXx; unfold wp_X3_placesOf_b14
      rw [show σ 23 2 = _ from hX.xc.w, if_pos (nI_le (Nat.le_refl _) (by omega))]
      exact second m hm hb
    · intro w hw ih m hm hb
      apply hXx; unfold wp_X3_placesOf_b14
      have hsw := hX.xc.wsH hw
      rw [show σ 23 2 = _ from hX.xc.w, if_neg (nI_ge hw (by omega)), cl6 hw (by omega), show σ 25 w = _ from hX.xc.ws hw, bt_or _ (by omega) _ hm, nI_1]
      refine ⟨in5 hw h5, ih _ (Nat.or_lt_two_pow (n := 10) hm (Nat.pow_lt_pow_right (by omega) (by omega))) (fun j => ?_)⟩
      rw [Nat.testBit_or, hb j, Nat.testBit_two_pow]
      show _ = (decide (j = uS (vT U) p) || (exb (fun w => decide (qs (vP U) w = j)) w || decide (qs (vP U) w = j)))
      rw [Bool.or_assoc]
  refine main _ (Nat.pow_lt_pow_right (a := 2) (n := 10) (by omega) (by omega)) (fun j => ?_)
  rw [Nat.testBit_two_pow]
  by_cases e : uS (vT U) p = j
  · simp [e, exb]
  · have e2 : ¬ j = uS (vT U) p := fun z => e z.symm
    simp [e, e2, exb]
theorem sx_postSearch {K : ts_S → Prop} {σ : ts_S} {U : sU} (h : rX σ U) (hk : ∀ σ', rX σ' U → rPo σ' U (pst (vP U) (vT U) (qn (vP U)) 0 (uS (vT U)) none) → K σ') : wp_X3_search K σ 31 := by
  have h6 := h.xc.n6
  have h5 := h.xc.W5
  have h10 := h.xc.h10
  unfold wp_X3_search
  refine sx_standAs T49 T31 (by omega) h6 h.xc.2.1 (h.bb.at T31) (fun σ1 f1 r1 b1 => ?_)
  have X1 : rX σ1 U := h.keepT T49 (by omega) f1 b1
  have c1 : cx σ1 49 (vP U) (vT U) := ⟨X1.2.1, r1, h.xc.2.2⟩
  rintro _ rfl
  have X2 : rX (ts_u σ1 11 6 (-1)) U := X1.k11
  have c2 : cx (ts_u σ1 11 6 (-1)) 49 (vP U) (vT U) := c1.kS (by omega) (by omega)
  refine sx_goneMany c2 ?_
  rintro _ rfl
  have hcn := cn_not (uG (vT U)) (qn (vP U))
  have ew : nI (qn (vP U)) - nI (cn (uG (vT U)) (qn (vP U))) = nI (wt (vP U) (vT U) 0) := by rw [pk_sub (by omega), wt_0]; congr 1; omega
  rw [show ts_u σ1 11 6 (-1) 23 1 = _ from X2.xc.n, ew]
  have X3 : rX (ts_u (ts_u σ1 11 6 (-1)) 11 4 (nI (wt (vP U) (vT U) 0))) U := X2.k11
  have c3 : cx (ts_u (ts_u σ1 11 6 (-1)) 11 4 (nI (wt (vP U) (vT U) 0))) 49 (vP U) (vT U) := c2.kS (by omega) (by omega)
  have w3 : ts_u (ts_u σ1 11 6 (-1)) 11 4 (nI (wt (vP U) (vT U) 0)) 11 4 = nI (wt (vP U) (vT U) 0) := by simp [ts_u_app]
  have m3 : ts_u (ts_u σ1 11 6 (-1)) 11 4 (nI (wt (vP U) (vT U) 0)) 11 6 = -1 := by simp [ts_u_app]
  generalize ts_u (ts_u σ1 11 6 (-1)) 11 4 (nI (wt (vP U) (vT U) 0)) = σ3 at X3 c3 w3 m3
  have third : ∀ σ', rX σ' U → cx σ' 49 (vP U) (vT U) → σ' 11 4 = nI (wt (vP U) (vT U) 0) → σ' 11 6 = -1 → (∀ s, s < 10 → σ' 14 s = 0) → (∀ w, w < qW (vP U) → σ' 13 w = nI (ez (vP U) w)) → wp_X3_search_l93 K 31 σ' 1 0 := by
    intro σ4 X4 c4 w4 m4 z4 e4
    unfold wp_X3_search_l93
    intro X hXx
    have main : ∀ σ', rX σ' U → cx σ' 49 (vP U) (vT U) → σ' 11 4 = nI (wt (vP U) (vT U) 0) → σ' 11 6 = -1 → (∀ s, s < 10 → σ' 14 s = 0) → (∀ w, w < qW (vP U) → σ' 13 w = nI (ez (vP U) w)) → (∀ q, q < 0 → uG (vT U) q = false → σ' 12 q = nI (bs (plb (vP U) (vT U) q) (qH (vP U)))) → X σ' (nB (alb (fun q => uG (vT U) q || !decide (bs (plb (vP U) (vT U) q) (qH (vP U)) = 0)) 0)) (nI 0) := by
      refine ts_down (P := fun i => ∀ σ', rX σ' U → cx σ' 49 (vP U) (vT U) → σ' 11 4 = nI (wt (vP U) (vT U) 0) → σ' 11 6 = -1 → (∀ s, s < 10 → σ' 14 s = 0) → (∀ w, w < qW (vP U) → σ' 13 w = nI (ez (vP U) w)) → (∀ q, q < i → uG (vT U) q = false → σ' 12 q = nI (bs (plb (vP U) (vT U) q) (qH (vP U)))) → X σ' (nB (alb (fun q => uG (vT U) q || !decide (bs (plb (vP U) (vT U) q) (qH (vP U)) = 0)) i)) (nI i)) (qn (vP U)) ?_ ?_
      · intro σ5 X5 c5 w5 m5 z5 e5 p5
        apply hXx; unfold wp_X3_search_b93
        rw [show σ5 23 1 = _ from X5.xc.n, if_pos (nI_le (Nat.le_refl _) (by omega))]
        cases da : alb (fun q => uG (vT U) q || !decide (bs (plb (vP U) (vT U) q) (qH (vP U)) = 0)) (qn (vP U))
        · simp only [itB0]
          refine hk σ5 X5 ?_
          have : pst (vP U) (vT U) (qn (vP U)) 0 (uS (vT U)) none = none := by
            refine pst_id _ 0 _ _ (by omega) (fun g _ ga => lef_f ?_)
            have : ∃ q, q < qn (vP U) ∧ (uG (vT U) q || !decide (bs (plb (vP U) (vT U) q) (qH (vP U)) = 0)) = false := by
              cases ex : exb (fun q => !(uG (vT U) q || !decide (bs (plb (vP U) (vT U) q) (qH (vP U)) = 0))) (qn (vP U))
              · have : alb (fun q => uG (vT U) q || !decide (bs (plb (vP U) (vT U) q) (qH (vP U)) = 0)) (qn (vP U)) = true := alb_iff.mpr (fun q hq => by
                  cases e : (uG (vT U) q || !decide (bs (plb (vP U) (vT U) q) (qH (vP U)) = 0))
                  · have := (exb_iff (f := fun q => !(uG (vT U) q || !decide (bs (plb (vP U) (vT U) q) (qH (vP U)) = 0)))).mpr ⟨q, hq, by show (!(uG (vT U) q || !decide (bs (plb (vP U) (vT U) q) (qH (vP U)) = 0))) = true; rw [e]; rfl⟩
                    rw [ex] at this; cases this
                  · rfl)
                rw [da] at this; cases this
              · obtain ⟨q, q1, q2⟩ := exb_iff.mp ex
                exact ⟨q, q1, by simpa using q2⟩
            obtain ⟨q, q1, q2⟩ := this
            simp only [Bool.or_eq_false_iff, Bool.not_eq_false', decide_eq_true_eq] at q2
            refine plb_f q1 q2.1 (ga q (Nat.zero_le q) q1) ?_
            have hb := bs_bit (plb (vP U) (vT U) q) (qH (vP U)) (g q)
            rw [q2.2, Nat.zero_testBit] at hb
            have hlt : g q < qH (vP U) := by
              have := ga q (Nat.zero_le q) q1
              unfold al at this
              rw [Bool.or_eq_true] at this
              rcases this with z | z
              · rw [of_decide_eq_true z]; exact X5.xc.sH q1
              · rw [Bool.and_eq_true] at z
                obtain ⟨w, w1, w2⟩ := exb_iff.mp z.2
                rw [← of_decide_eq_true w2]; exact X5.xc.wsH w1
            rw [decide_eq_true hlt, Bool.true_and] at hb
            exact hb.symm
          rw [this]; exact m5
        · simp only [itB1]
          have hpo : po σ5 U 0 (wt (vP U) (vT U) 0) (uS (vT U)) := ⟨X5, c5, fun s hs => by rw [z5 s hs]; rfl, w5, p5, e5, fun _ _ _ => rfl⟩
          refine sx_putFrom 8 _ σ5 0 (uS (vT U)) (uS (vT U)) none (by omega) (by omega) hpo (fun q hq => absurd hq (Nat.not_lt_zero q)) m5 (fun σ6 g6 p6 a6 r6 => ?_)
          rw [Nat.sub_zero] at r6
          exact hk σ6 p6.1 r6
      · intro i hi ih σ5 X5 c5 w5 m5 z5 e5 p5
        apply hXx; unfold wp_X3_search_b93
        rw [show σ5 23 1 = _ from X5.xc.n, if_neg (nI_ge hi (by omega))]
        refine sx_placesOf X5 c5 w5 hi (fun m hm hmb => ?_)
        refine ⟨in6 hi h6, ?_⟩
        rintro _ rfl
        rw [cl6 hi h6, nI_1]
        have nxt := ih (ts_u σ5 12 i (nI m)) (X5.kS (by omega)) (c5.kS (by omega) (by omega)) (by rw [ts_u_c (by omega)]; exact w5) (by rw [ts_u_c (by omega)]; exact m5) (fun s hs => by rw [ts_u_c (by omega)]; exact z5 s hs) (fun w hw => by rw [ts_u_c (by omega)]; exact e5 w hw) (fun q hq hg => by
          rw [ts_u_app]
          by_cases e : q = i
          · subst e; rw [if_pos ⟨rfl, rfl⟩, hmb hg]
          · rw [if_neg (fun z => e z.2)]; exact p5 q (by omega) hg)
        have c6 : cx (ts_u σ5 12 i (nI m)) 49 (vP U) (vT U) := c5.kS (by omega) (by omega)
        unfold alb at nxt
        cases da : alb (fun q => uG (vT U) q || !decide (bs (plb (vP U) (vT U) q) (qH (vP U)) = 0)) i <;> rw [da] at nxt
        · simp only [itB0]; exact nxt
        · simp only [itB1]
          refine ⟨in6 hi h6, ?_⟩
          rw [show ts_u σ5 12 i (nI m) 53 i = nB (uG (vT U) i) from c6.go hi]
          cases dg : uG (vT U) i <;> simp only [dg] at nxt
          · simp only [itB0]
            refine ⟨in6 hi h6, ?_⟩
            have em := hmb dg
            have e12 : ts_u σ5 12 i (nI m) 12 i = nI m := by simp [ts_u_app]
            rw [e12]
            by_cases e0 : m = 0
            · rw [if_pos (by rw [e0]; rfl)]
              rw [← em] at nxt
              simp only [e0, decide_true, Bool.not_true, Bool.or_self, Bool.and_false] at nxt
              rw [e0]; exact nxt
            · rw [if_neg (by rw [k0, eqI (by omega) (by omega)]; exact e0)]
              rw [← em] at nxt
              simp only [e0, decide_false, Bool.not_false, Bool.or_true, Bool.and_self] at nxt
              exact nxt
          · simp only [itB1]; simp only [Bool.true_or, Bool.and_self] at nxt; exact nxt
    exact main σ4 X4 c4 w4 m4 z4 e4 (fun q hq => absurd hq (Nat.not_lt_zero q))
  have second : ∀ σ', rX σ' U → cx σ' 49 (vP U) (vT U) → σ' 11 4 = nI (wt (vP U) (vT U) 0) → σ' 11 6 = -1 → (∀ s, s < 10 → σ' 14 s = 0) → wp_X3_search_l58 K 31 σ' 0 := by
    intro σ4 X4 c4 w4 m4 z4
    unfold wp_X3_search_l58
    intro X hXx
    have main : ∀ σ', rX σ' U → cx σ' 49 (vP U) (vT U) → σ' 11 4 = nI (wt (vP U) (vT U) 0) → σ' 11 6 = -1 → (∀ s, s < 10 → σ' 14 s = 0) → (∀ w, w < 0 → σ' 13 w = nI (ez (vP U) w)) → X σ' (nI 0) := by
      refine ts_down (P := fun i => ∀ σ', rX σ' U → cx σ' 49 (vP U) (vT U) → σ' 11 4 = nI (wt (vP U) (vT U) 0) → σ' 11 6 = -1 → (∀ s, s < 10 → σ' 14 s = 0) → (∀ w, w < i → σ' 13 w = nI (ez (vP U) w)) → X σ' (nI i)) (qW (vP U)) ?_ ?_
      · intro σ5 X5 c5 w5 m5 z5 e5
        apply hXx; unfold wp_X3_search_b58
        rw [show σ5 23 2 = _ from X5.xc.w, if_pos (nI_le (Nat.le_refl _) (by omega))]
        exact third σ5 X5 c5 w5 m5 z5 e5
      · intro i hi ih σ5 X5 c5 w5 m5 z5 e5
        apply hXx; unfold wp_X3_search_b58
        rw [show σ5 23 2 = _ from X5.xc.w, if_neg (nI_ge hi (by omega))]
        refine sx_needOf X5 hi ?_
        refine ⟨in5 hi h5, ?_⟩
        rintro _ rfl
        rw [cl6 hi (by omega), nI_1]
        refine ih _ (X5.kS (by omega)) (c5.kS (by omega) (by omega)) (by rw [ts_u_c (by omega)]; exact w5) (by rw [ts_u_c (by omega)]; exact m5) (fun s hs => by rw [ts_u_c (by omega)]; exact z5 s hs) (fun w hw => ?_)
        rw [ts_u_app]
        by_cases e : w = i
        · subst e; rw [if_pos ⟨rfl, rfl⟩]
        · rw [if_neg (fun z => e z.2)]; exact e5 w (by omega)
    exact main σ4 X4 c4 w4 m4 z4 (fun w hw => absurd hw (Nat.not_lt_zero w))
  unfold wp_X3_search_l37
  intro X hXx
  have main : ∀ σ', rX σ' U → cx σ' 49 (vP U) (vT U) → σ' 11 4 = nI (wt (vP U) (vT U) 0) → σ' 11 6 = -1 → (∀ s, s < 0 → σ' 14 s = 0) → X σ' (nI 0) := by
    refine ts_down (P := fun i => ∀ σ', rX σ' U → cx σ' 49 (vP U) (vT U) → σ' 11 4 = nI (wt (vP U) (vT U) 0) → σ' 11 6 = -1 → (∀ s, s < i → σ' 14 s = 0) → X σ' (nI i)) 10 ?_ ?_
    · intro σ4 X4 c4 w4 m4 z4
      apply hXx; unfold wp_X3_search_b37
      rw [if_pos (by decide)]
      exact second σ4 X4 c4 w4 m4 z4
    · intro i hi ih σ4 X4 c4 w4 m4 z4
      apply hXx; unfold wp_X3_search_b37
      rw [if_neg (by rw [k10]; exact nI_ge hi (by omega))]
      refine ⟨vp_in_nI hi (by omega), ?_⟩
      rintro _ rfl
      rw [nI_clamp (by omega), nI_1]
      refine ih _ (X4.kS (by omega)) (c4.kS (by omega) (by omega)) (by rw [ts_u_c (by omega)]; exact w4) (by rw [ts_u_c (by omega)]; exact m4) (fun s hs => ?_)
      rw [ts_u_app]
      by_cases e : s = i
      · subst e; rw [if_pos ⟨rfl, rfl⟩]
      · rw [if_neg (fun z => e z.2)]; exact z4 s (by omega)
  exact main σ3 X3 c3 w3 m3 (fun s hs => absurd hs (Nat.not_lt_zero s))
theorem px_posting {K : Int32 → ts_S → Prop} {σ : ts_S} {U : sU} {a : Int32} (h : rX σ U) (hk : ∀ σ', rX σ' U → K (o_posting U a) σ') : wp_X9_posting K σ a := by
  unfold wp_X9_posting
  unfold o_posting at hk
  have j15 : (a = -1 ∨ isP U a = true) → wp_X9_posting_j15 K a σ := by
    intro hor
    have hc : (decide (a = -1) || isP U a) = true := by rcases hor with z | z <;> simp [z]
    rw [hc] at hk
    simp only [↓reduceIte] at hk
    unfold wp_X9_posting_j15
    refine sx_postSearch h (fun σ1 h1 r1 => ?_)
    cases e : pst (vP U) (vT U) (qn (vP U)) 0 (uS (vT U)) none with
    | none =>
      rw [e] at r1 hk
      rw [show σ1 11 6 = -1 from r1, if_neg (by decide)]
      exact hk σ1 h1
    | some q =>
      rw [e] at r1 hk
      obtain ⟨q1, q2, q3⟩ := r1
      rw [q1, if_pos (by rw [k0]; exact nI_le (by omega) (by omega))]
      by_cases d : a = -1
      · rw [if_pos d]; simp only [d, ↓reduceIte] at hk; exact hk σ1 h1
      · rw [if_neg d]; simp only [d, ↓reduceIte] at hk
        obtain ⟨p, hp, e1, e2⟩ := isP_get h.1 (by rcases hor with z | z; exact absurd z d; exact z)
        have h6 := h.xc.n6
        rw [e2] at hk; rw [e1, cl6 hp h6, q3 p hp]
        exact ⟨in6 hp h6, hk σ1 h1⟩
  by_cases d : a = -1
  · rw [if_pos d]; exact j15 (Or.inl d)
  · rw [if_neg d]
    refine sx_isPerson h ?_
    cases dp : isP U a
    · simp only [itB0]
      rw [dp] at hk
      simp only [d, decide_false, Bool.or_self, Bool.false_eq_true, ↓reduceIte] at hk
      exact hk σ h
    · simp only [itB1]; exact j15 (Or.inr dp)
