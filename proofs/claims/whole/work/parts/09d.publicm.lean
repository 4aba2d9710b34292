/-! the reference's calls, first group -/
theorem ym_isPerson {K : Int32 → ts_S → Prop} {σ : ts_S} {U : sU} {a : Int32} (h : rM σ U) (hk : K (nB (isP U a)) σ) : wp_X10_isPerson K σ a := by
  unfold wp_X10_isPerson
  rw [h.cn]
  exact ym_in ⟨zbB _, hk⟩
theorem ym_isStep {K : Int32 → ts_S → Prop} {σ : ts_S} {U : sU} {a : Int32} (h : rM σ U) (hk : K (nB (isS U a)) σ) : wp_X10_isStep K σ a := by
  unfold wp_X10_isStep
  rw [h.ch]
  exact ym_in ⟨zbB _, hk⟩
theorem pm_wipe {K : Int32 → ts_S → Prop} {σ : ts_S} {U : sU} (h : rM σ U) (hk : ∀ σ', rM σ' (o_wipe U).2 → K (o_wipe U).1 σ') : wp_X10_wipe K σ := by
  unfold wp_X10_wipe
  rintro _ rfl
  rw [h.tx.1]
  have e0 : ∀ j, j ≠ 13 → ts_u σ 0 13 0 0 j = σ 0 j := fun j hj => by rw [ts_u_app, if_neg (fun z => hj z.2)]
  exact hk _ ⟨h.1.to (fun j hj => e0 j (by omega)) (ts_u_c (by omega)) (ts_u_c (by omega)), h.ro.to (ts_u_c (by omega)), ⟨by rw [ts_u_app, if_pos ⟨rfl, rfl⟩]; rfl, fun i hi => absurd hi (Nat.not_lt_zero i)⟩, h.ac.to (e0 6 (by omega)) (ts_u_c (by omega)), h.ke.to (e0 8 (by omega)) (ts_u_c (by omega)), h.se.to (e0 10 (by omega)) (ts_u_c (by omega))⟩
theorem pm_write {K : Int32 → ts_S → Prop} {σ : ts_S} {U : sU} {a : Int32} (w : wfU U) (h : rM σ U) (hk : ∀ σ', rM σ' (o_write U a).2 → K (o_write U a).1 σ') : wp_X10_write K σ a := by
  unfold wp_X10_write
  refine ym_in ?_
  unfold o_write at hk
  have hl : vl U ≤ 200 := w.2.2.2.1.1
  cases dw : win a 32 126 <;> rw [dw] at hk
  · simp only [itB0]; exact hk σ h
  · simp only [itB1]
    obtain ⟨p, h1, h2, e1, e2⟩ := win_iff (lo := 32) (hi := 126) dw (by omega) (by omega)
    rw [e2] at hk
    rw [e1, h.tx.1]
    by_cases d : vl U < 200
    · simp only [d, ↓reduceIte] at hk
      rw [if_neg (by rw [k200, eqI (by omega) (by omega)]; omega)]
      refine ⟨vp_in_nI d (by omega), ?_⟩
      rw [nI_clamp (by omega)]
      rintro _ rfl _ rfl
      have e7 : ts_u σ 7 (vl U) (nI p) 0 13 = nI (vl U) := by rw [ts_u_c (by omega)]; exact h.tx.1
      rw [e7, nI_1]
      have ec : ∀ k, k ≠ 0 → k ≠ 7 → ts_u (ts_u σ 7 (vl U) (nI p)) 0 13 (nI (vl U + 1)) k = σ k := fun k a b => by rw [ts_u_c a, ts_u_c b]
      have e0 : ∀ j, j ≠ 13 → ts_u (ts_u σ 7 (vl U) (nI p)) 0 13 (nI (vl U + 1)) 0 j = σ 0 j := fun j hj => by rw [ts_u_app, if_neg (fun z => hj z.2), ts_u_c (by omega)]
      have e13 : ts_u (ts_u σ 7 (vl U) (nI p)) 0 13 (nI (vl U + 1)) 0 13 = nI (vl U + 1) := by rw [ts_u_app, if_pos ⟨rfl, rfl⟩]
      rw [e13]
      refine hk _ ⟨h.1.to (fun j hj => e0 j (by omega)) (ec 1 (by omega) (by omega)) (ec 2 (by omega) (by omega)), h.ro.to (ec 3 (by omega) (by omega)), ⟨e13, fun i hi => ?_⟩, h.ac.to (e0 6 (by omega)) (ec 4 (by omega) (by omega)), h.ke.to (e0 8 (by omega)) (ec 5 (by omega) (by omega)), h.se.to (e0 10 (by omega)) (ec 6 (by omega) (by omega))⟩
      show _ = nI (fu (vL U) (vl U) p i)
      have hi : i < vl U + 1 := hi
      rw [ts_u_c (by omega), ts_u_app]
      unfold fu
      by_cases e : i = vl U
      · simp [e]
      · simp [e]; exact h.tx.2 i (by omega)
    · simp only [d, ↓reduceIte] at hk
      rw [if_pos (by rw [show vl U = 200 by omega]; rfl)]
      exact hk σ h
theorem rM.k1 {σ : ts_S} {U : sU} (h : rM σ U) {p : Nat} (hp : p < qn (vP U)) : σ 1 p = nI (qk (vP U) p) := h.1.2.2.2.1 p hp
theorem nB01 {K : Int32 → ts_S → Prop} {σ : ts_S} {b : Bool} {h : Decidable (nB b = 0)} (hk : K (nB b) σ) : @ite Prop (nB b = 0) h (K 0 σ) (K 1 σ) := by
  cases b
  · rw [itB0]; exact hk
  · rw [itB1]; exact hk
theorem pm_person {K : Int32 → ts_S → Prop} {σ : ts_S} {U : sU} {a b : Int32} (w : wfU U) (h : rM σ U) (hk : ∀ σ', rM σ' U → K (o_person U a b) σ') : wp_X10_person K σ a b := by
  unfold wp_X10_person
  refine ym_isPerson h ?_
  unfold o_person at hk
  cases dp : isP U a <;> rw [dp] at hk
  · simp only [itB0]; exact hk σ h
  · simp only [itB1]
    refine ym_asItIs w h (fun σ1 f h1 c => ?_)
    have hk := hk σ1 h1
    obtain ⟨p, hp, e1, e2⟩ := isP_get w dp
    have h6 := c.n6
    have hg64 := bs_64 (uG (vT U)) h6
    have hf64 := bs_64 (frz (vP U) (vT U)) h6
    obtain ⟨r1, r2, r3⟩ := h1.r3 hp
    rw [e2] at hk; rw [e1]
    simp only [Bool.true_eq_false, ↓reduceIte] at hk
    rw [cl6 hp h6, e3p, e9p, e15p, nI_clamp (n := 3 + p) (by omega), nI_clamp (n := 9 + p) (by omega), nI_clamp (n := 15 + p) (by omega), r1, r2, r3]
    by_cases d0 : b = 0
    · rw [if_pos d0] at hk ⊢; exact ⟨in6 hp h6, by rw [h1.k1 hp]; exact hk⟩
    rw [if_neg d0] at hk ⊢
    by_cases d1 : b = 1
    · rw [if_pos d1] at hk ⊢; exact ⟨i21 (by omega), hk⟩
    rw [if_neg d1] at hk ⊢
    by_cases d2 : b = 2
    · rw [if_pos d2] at hk ⊢; exact ⟨i21 (by omega), hk⟩
    rw [if_neg d2] at hk ⊢
    by_cases d3 : b = 3
    · rw [if_pos d3] at hk ⊢; exact ⟨i21 (by omega), hk⟩
    rw [if_neg d3] at hk ⊢
    by_cases d4 : b = 4
    · rw [if_pos d4] at hk ⊢; exact ym_fearOf c hp hk
    rw [if_neg d4] at hk ⊢
    by_cases d5 : b = 5
    · rw [if_pos d5] at hk ⊢
      refine ym_frozen c (ym_has (by omega) (by omega) ?_)
      rw [bs_bit, decide_eq_true hp, Bool.true_and]; exact nB01 hk
    rw [if_neg d5] at hk ⊢
    by_cases d6 : b = 6
    · rw [if_pos d6] at hk ⊢; refine ⟨i21 (i := 1) (by omega), ?_⟩
      rw [cl1, h1.g3]
      refine ym_has (by omega) (by omega) ?_
      rw [bs_bit, decide_eq_true hp, Bool.true_and]; exact nB01 hk
    rw [if_neg d6] at hk ⊢
    by_cases d7 : b = 7
    · rw [if_pos d7] at hk ⊢; exact ym_canCall c hp (nB01 hk)
    rw [if_neg d7] at hk ⊢
    exact hk
theorem pm_fear {K : Int32 → ts_S → Prop} {σ : ts_S} {U : sU} {a b : Int32} (w : wfU U) (h : rM σ U) (hk : ∀ σ', rM σ' U → K (o_fear U a b) σ') : wp_X10_fear K σ a b := by
  unfold wp_X10_fear
  refine ym_isPerson h ?_
  unfold o_fear at hk
  cases dp : isP U a <;> rw [dp] at hk
  · simp only [itB0]; exact hk σ h
  · simp only [itB1]
    refine ym_isStep h ?_
    cases ds : isS U b <;> rw [ds] at hk
    · simp only [itB0]; exact hk σ h
    · simp only [itB1]
      obtain ⟨p, hp, e1, e2⟩ := isP_get w dp
      obtain ⟨s, hs, e3, e4⟩ := isS_get w ds
      rw [e2, e4] at hk; rw [e1, e3]
      refine ym_asItIs w h (fun σ1 f h1 c => ?_)
      rw [cl6 hp c.n6, c.kd hp]
      exact ⟨in6 hp c.n6, ym_fearAs c (c.k4 hp) hp hs (hk σ1 h1)⟩
theorem pm_work {K : Int32 → ts_S → Prop} {σ : ts_S} {U : sU} {a b : Int32} (w : wfU U) (h : rM σ U) (hk : ∀ σ', rM σ' U → K (o_work U a b) σ') : wp_X10_work K σ a b := by
  unfold wp_X10_work
  rw [h.cw]
  refine ym_in ?_
  unfold o_work at hk
  cases dp : win a 0 (nI (qW (vP U)) - 1) <;> rw [dp] at hk
  · simp only [itB0]; exact hk σ h
  · simp only [itB1]
    refine ym_in ?_
    have h5 : qW (vP U) ≤ 5 := w.1.2.2.2.2.1
    obtain ⟨i, hi, e1, e2⟩ := win_get (by omega) dp
    rw [e2] at hk; rw [e1]
    simp only [Bool.true_eq_false, ↓reduceIte] at hk
    cases db : win b 0 2
    · simp only [itB0]
      have n0 : ¬ b = 0 := by rintro rfl; exact absurd db (by decide)
      have n1 : ¬ b = 1 := by rintro rfl; exact absurd db (by decide)
      have n2 : ¬ b = 2 := by rintro rfl; exact absurd db (by decide)
      rw [if_neg n0, if_neg n1, if_neg n2] at hk
      exact hk σ h
    · simp only [itB1]
      obtain ⟨q, h1, h2, e3, e4⟩ := win_iff (lo := 0) (hi := 2) db (by omega) (by omega)
      refine ym_asItIs w h (fun σ1 f h1 c => ?_)
      have hk := hk σ1 h1
      rw [e3] at hk ⊢
      rw [e2w, nI_add, nI_clamp (by omega)]
      have hq : q = 0 ∨ q = 1 ∨ q = 2 := by omega
      rcases hq with rfl | rfl | rfl
      · rw [if_neg (by decide)]
        rw [if_pos (by decide)] at hk
        exact ⟨i10 (by omega), by rw [Nat.add_zero, c.ws hi]; exact hk⟩
      · rw [if_neg (by decide)]
        rw [if_neg (by decide), if_pos (by decide)] at hk
        exact ⟨i10 (by omega), by rw [c.wd hi]; exact hk⟩
      · rw [if_pos (by decide)]
        rw [if_neg (by decide), if_neg (by decide), if_pos (by decide)] at hk
        exact ym_frozen c (ym_isDone c hi (nB01 hk))
theorem ym_years {X : ts_S → Int32 → Prop} {P : sP} {T : sT} {n : Nat} (hy : uY T + n < 10000) (σ0 : ts_S) (hs : ∀ i σ, i < n → wp_X10_goesBy (fun s => X s (nI i + 1)) σ → X σ (nI i)) (hn : ∀ σ, fm σ0 σ → cm σ P (yrs P n T) → X σ (nI n)) (c : cm σ0 P T) : X σ0 (nI 0) := by
  have main : ∀ σ, fm σ0 σ → cm σ P (yrs P 0 T) → X σ (nI 0) := by
    refine ts_down (P := fun i => ∀ σ, fm σ0 σ → cm σ P (yrs P i T) → X σ (nI i)) n hn ?_
    intro i hi ih σ f c
    refine hs i σ hi (ym_goesBy c (by rw [yrs_Y]; omega) (fun σ' f' c' => ?_))
    rw [nI_1]
    exact ih σ' (f.tr f') c'
  exact main σ0 fm.rf c
theorem pm_pass {K : Int32 → ts_S → Prop} {σ : ts_S} {U : sU} {a : Int32} (w : wfU U) (h : rM σ U) (hk : ∀ σ', rM σ' (o_pass U a).2 → K (o_pass U a).1 σ') : wp_X10_pass K σ a := by
  unfold wp_X10_pass
  refine ym_in ?_
  unfold o_pass at hk
  cases dw : win a 1 40 <;> rw [dw] at hk
  · simp only [itB0]; exact hk σ h
  · simp only [itB1]
    obtain ⟨n, h1, h2, e1, e2⟩ := win_iff (lo := 1) (hi := 40) dw (by omega) (by omega)
    rw [e2] at hk; rw [e1]
    have hy : uY (vT U) ≤ 999 := w.2.2.1.2
    rw [cl0, h.y3, nI_add]
    refine ⟨i21 (i := 0) (by omega), ?_⟩
    by_cases d : uY (vT U) + n ≤ 999
    · rw [if_pos (by rw [k999]; exact nI_le d (by omega))]
      simp only [d, Bool.true_eq_false, ↓reduceIte] at hk
      refine ym_asItIs w h (fun σ1 f hM1 c => ?_)
      unfold wp_X10_pass_l35
      intro X hX
      refine ym_years (P := vP U) (T := vT U) (n := n) (by omega) σ1 (fun i s hi hg => ?_) (fun s f2 c2 => ?_) c
      · apply hX; unfold wp_X10_pass_b35
        rw [if_neg (nI_ge hi (by omega))]; exact hg
      · apply hX; unfold wp_X10_pass_b35
        rw [if_pos (nI_le (Nat.le_refl _) (by omega))]
        refine ym_becomes w (hM1.fm f2) c2.2.1 (fun σ' hM' => ?_)
        rw [cl0, hM'.y3]
        refine ⟨i21 (i := 0) (by omega), ?_⟩
        rw [show uY (vT (wNew U (yrs (vP U) n (vT U)))) = uY (vT U) + n from yrs_Y n]
        exact hk σ' hM'
    · rw [if_neg (by rw [k999]; exact nI_ge (by omega) (by omega))]
      simp only [d, Bool.true_eq_false, ↓reduceIte] at hk
      exact hk σ h
theorem pm_promote {K : Int32 → ts_S → Prop} {σ : ts_S} {U : sU} {a : Int32} (w : wfU U) (h : rM σ U) (hk : ∀ σ', rM σ' (o_promote U a).2 → K (o_promote U a).1 σ') : wp_X10_promote K σ a := by
  unfold wp_X10_promote
  refine ym_isPerson h ?_
  unfold o_promote at hk
  cases dp : isP U a <;> rw [dp] at hk
  · simp only [itB0]; exact hk σ h
  · simp only [itB1]
    obtain ⟨p, hp, e1, e2⟩ := isP_get w dp
    rw [e2] at hk; rw [e1]
    refine ym_asItIs w h (fun σ1 f h1 c => ?_)
    have h6 := c.n6
    have hs := c.sH hp
    refine ym_canPromote c hp ?_
    cases dd : (decide (0 < uS (vT U) p) && std (vP U) (vT U) p) <;> rw [dd] at hk
    · simp only [itB0]; exact hk σ1 h1
    · simp only [itB1]
      have h0 : 0 < uS (vT U) p := by simp at dd; exact dd.1
      rw [e3p, nI_clamp (by omega), c.st hp, k1, pk_sub (by omega)]
      refine ⟨i21 (by omega), i21 (by omega), ?_⟩
      rintro _ rfl
      obtain ⟨f2, c2⟩ := cm_setS c hp (show uS (vT U) p - 1 < qH (vP U) by omega)
      refine ym_becomes w (h1.fm f2) c2.2.1 (fun σ' hM' => ⟨i21 (by omega), ?_⟩)
      rw [(hM'.r3 hp).1, show uS (vT (wNew U (tS (vT U) p (uS (vT U) p - 1)))) p = uS (vT U) p - 1 by simp [wNew, wT, vT, tS, uS, fu]]
      exact hk σ' hM'
theorem pm_hoist {K : Int32 → ts_S → Prop} {σ : ts_S} {U : sU} {a : Int32} (w : wfU U) (h : rM σ U) (hk : ∀ σ', rM σ' (o_hoist U a).2 → K (o_hoist U a).1 σ') : wp_X10_hoist K σ a := by
  unfold wp_X10_hoist
  refine ym_isPerson h ?_
  unfold o_hoist at hk
  cases dp : isP U a <;> rw [dp] at hk
  · simp only [itB0]; exact hk σ h
  · simp only [itB1]
    obtain ⟨p, hp, e1, e2⟩ := isP_get w dp
    rw [e2] at hk; rw [e1]
    refine ym_asItIs w h (fun σ1 f h1 c => ?_)
    have h6 := c.n6
    have hs := c.sH hp
    refine ym_canHoist c hp ?_
    cases dd : (decide (uS (vT U) p + 1 < qH (vP U)) && !uG (vT U) p) <;> rw [dd] at hk
    · simp only [itB0]; exact hk σ1 h1
    · simp only [itB1]
      have h0 : uS (vT U) p + 1 < qH (vP U) := by simp at dd; exact dd.1
      rw [e3p, nI_clamp (by omega), c.st hp, nI_1]
      refine ⟨i21 (by omega), i21 (by omega), ?_⟩
      rintro _ rfl
      obtain ⟨f2, c2⟩ := cm_setS c hp h0
      refine ym_becomes w (h1.fm f2) c2.2.1 (fun σ' hM' => ⟨i21 (by omega), ?_⟩)
      rw [(hM'.r3 hp).1, show uS (vT (wNew U (tS (vT U) p (uS (vT U) p + 1)))) p = uS (vT U) p + 1 by simp [wNew, wT, vT, tS, uS, fu]]
      exact hk σ' hM'
theorem pm_call {K : Int32 → ts_S → Prop} {σ : ts_S} {U : sU} {a : Int32} (w : wfU U) (h : rM σ U) (hk : ∀ σ', rM σ' (o_call U a).2 → K (o_call U a).1 σ') : wp_X10_call K σ a := by
  unfold wp_X10_call
  refine ym_isPerson h ?_
  unfold o_call at hk
  cases dp : isP U a <;> rw [dp] at hk
  · simp only [itB0]; exact hk σ h
  · simp only [itB1]
    obtain ⟨p, hp, e1, e2⟩ := isP_get w dp
    rw [e2] at hk; rw [e1]
    refine ym_asItIs w h (fun σ1 f h1 c => ?_)
    have h6 := c.n6
    refine ym_canCall c hp ?_
    cases dd : (!uG (vT U) p && !uC (vT U) p) <;> rw [dd] at hk
    · simp only [itB0]; exact hk σ1 h1
    · simp only [itB1]
      refine ym_calls c hp (fun σ2 f2 c2 => ?_)
      refine ym_becomes w (h1.fm f2) c2.2.1 (fun σ' hM' => ?_)
      rw [e15p, nI_clamp (by omega), (hM'.r3 hp).2.2, show uN (vT (wNew U (tCl (vP U) (vT U) p))) p = min (uN (vT U) p + cls (vP U) (vT U) p) 30 by simp [wNew, wT, vT, tCl, uN, fu]]
      exact ⟨i21 (by omega), hk σ' hM'⟩
theorem pm_undo {K : Int32 → ts_S → Prop} {σ : ts_S} {U : sU} (w : wfU U) (h : rM σ U) (hk : ∀ σ', rM σ' (o_undo U).2 → K (o_undo U).1 σ') : wp_X10_undo K σ := by
  have hm : vm U ≤ 8 := w.2.2.2.2.1.1
  have h6 : qn (vP U) ≤ 6 := w.1.2.2.1
  unfold wp_X10_undo
  unfold o_undo at hk
  rw [h.ac.1]
  by_cases d : vm U = 0
  · rw [if_pos (by rw [d]; rfl)]; simp only [d, ↓reduceIte] at hk; exact hk σ h
  · rw [if_neg (by rw [k0, eqI (by omega) (by omega)]; exact d)]
    simp only [d, ↓reduceIte] at hk
    rw [k1, pk_sub (by omega)]
    rintro _ rfl
    have e06 : ts_u σ 0 6 (nI (vm U - 1)) 0 6 = nI (vm U - 1) := by rw [ts_u_app, if_pos ⟨rfl, rfl⟩]
    rw [e06, e21]
    refine ym_copies (a := 0) (b := 21 * (vm U - 1)) (n := 21) (by omega) (by decide) (by show 21 * (vm U - 1) + 21 ≤ 168; omega) (by decide) (by decide) (fun σ2 q1 q2 q3 => ?_)
    have ec : ∀ k, k ≠ 0 → k ≠ 3 → σ2 k = σ k := fun k a b => by rw [q1 k b, ts_u_c a]
    have e0 : ∀ j, j ≠ 6 → σ2 0 j = σ 0 j := fun j hj => by rw [q1 0 (by omega), ts_u_app, if_neg (fun z => hj z.2)]
    rw [q1 0 (by omega), e06]
    refine hk σ2 ⟨h.1.to (fun j hj => e0 j (by omega)) (ec 1 (by omega) (by omega)) (ec 2 (by omega) (by omega)), ?_, h.tx.to (e0 13 (by omega)) (ec 7 (by omega) (by omega)), ⟨by rw [q1 0 (by omega), e06]; rfl, fun k hk => ?_⟩, h.ke.to (e0 8 (by omega)) (ec 5 (by omega) (by omega)), h.se.to (e0 10 (by omega)) (ec 6 (by omega) (by omega))⟩
    · refine (h.ac.2 (vm U - 1) (by omega)).same h6 (fun j hj => ?_)
      rw [q2 j hj, ts_u_c (by omega)]
    · have hk : k < vm U - 1 := hk
      exact (h.ac.2 k (by omega)).to (ec 4 (by omega) (by omega))
theorem pm_behind {K : Int32 → ts_S → Prop} {σ : ts_S} {U : sU} {a b c : Int32} (w : wfU U) (h : rM σ U) (hk : ∀ σ', rM σ' U → K (o_behind U a b c) σ') : wp_X10_behind K σ a b c := by
  unfold wp_X10_behind
  refine ym_in ?_
  unfold o_behind at hk
  cases dw : win a 0 40 <;> rw [dw] at hk
  · simp only [itB0]; exact hk σ h
  simp only [itB1]
  refine ym_isPerson h ?_
  cases dp : isP U b <;> rw [dp] at hk
  · simp only [itB0]; exact hk σ h
  simp only [itB1]
  refine ym_in ?_
  cases dc : win c 0 1 <;> rw [dc] at hk
  · simp only [itB0]; exact hk σ h
  simp only [itB1]
  obtain ⟨n, h1, h2, e1, e2⟩ := win_iff (lo := 0) (hi := 40) dw (by omega) (by omega)
  obtain ⟨p, hp, e3, e4⟩ := isP_get w dp
  have hy : uY (vT U) ≤ 999 := w.2.2.1.2
  rw [e2, e4] at hk; rw [e1, e3]
  refine ym_asItIs w h (fun σ1 f hM1 c1 => ?_)
  unfold wp_X10_behind_l36
  intro X hX
  refine ym_years (P := vP U) (T := vT U) (n := n) (by omega) σ1 (fun i s hi hg => ?_) (fun s f2 c2 => ?_) c1
  · apply hX; unfold wp_X10_behind_b36
    rw [if_neg (nI_ge hi (by omega))]; exact hg
  · apply hX; unfold wp_X10_behind_b36
    have h6 := c2.n6
    have hg64 := bs_64 (uG (yrs (vP U) n (vT U))) h6
    have hk := hk s (hM1.fm f2)
    rw [if_pos (nI_le (Nat.le_refl _) (by omega))]
    by_cases d0 : c = 0
    · rw [if_pos d0]
      simp only [d0, Bool.and_self, ↓reduceIte] at hk
      refine ⟨i21 (i := 1) (by omega), ?_⟩
      rw [cl1, c2.go, bt_has p (by omega) _ (by omega), bs_bit, decide_eq_true hp, Bool.true_and]; exact hk
    · rw [if_neg d0]
      simp only [d0, Bool.and_self, ↓reduceIte] at hk
      rw [e15p, nI_clamp (by omega), c2.ne hp]
      exact ⟨i21 (by omega), hk⟩
theorem pm_lowest {K : Int32 → ts_S → Prop} {σ : ts_S} {U : sU} {a : Int32} (w : wfU U) (h : rM σ U) (hk : ∀ σ', rM σ' U → K (o_lowest U a) σ') : wp_X10_lowest K σ a := by
  unfold wp_X10_lowest
  refine ym_isPerson h ?_
  unfold o_lowest at hk
  cases dp : isP U a <;> rw [dp] at hk
  · simp only [itB0]; exact hk σ h
  simp only [itB1]
  obtain ⟨p, hp, e1, e2⟩ := isP_get w dp
  rw [e2] at hk; rw [e1]
  refine ym_asItIs w h (fun σ1 f hM1 c => ?_)
  have h6 := c.n6
  have hg64 := bs_64 (uG (vT U)) h6
  have hf64 := bs_64 (frz (vP U) (vT U)) h6
  refine ym_frozen c ?_
  refine ⟨i21 (i := 1) (by omega), ?_⟩
  rw [cl1, c.go, bt_oo hf64 hg64]
  refine ym_has (by have := or64 hf64 hg64; omega) (by omega) ?_
  rw [fg_bit hp]
  cases ds : std (vP U) (vT U) p <;> rw [ds] at hk
  · show if (1 : Int32) = 0 then _ else _
    rw [if_neg (by decide)]; exact hk σ1 hM1
  show if (0 : Int32) = 0 then _ else _
  rw [if_pos rfl, e3p, nI_clamp (by omega), c.st hp]
  refine ⟨i21 (by omega), ?_⟩
  have hk := hk σ1 hM1
  simp only [Bool.true_eq_false, ↓reduceIte] at hk
  unfold wp_X10_lowest_l44
  intro X hX
  have hn := c.n30 hp
  have h10 := c.h10
  have key : ∀ s, s < qH (vP U) → K (nI (low (vP U) (vT U) p s)) σ1 → X σ1 (nI s) := by
    intro s
    induction s with
    | zero =>
      intro _ hk
      apply hX; unfold wp_X10_lowest_b44
      rw [if_pos (by decide)]; exact hk
    | succ s ih =>
      intro hs hk
      apply hX; unfold wp_X10_lowest_b44
      rw [if_neg (by rw [k0]; exact nI_ge (by omega) (by omega)), nI_pred, cl6 hp h6, c.kd hp]
      have hf := fea_le c.2.2.1 c.2.2.2 (qk (vP U) p) p s hp
      refine ⟨in6 hp h6, ym_fearAs c (c.k4 hp) hp (by omega) ?_⟩
      rw [e15p, nI_clamp (by omega), c.ne hp]
      refine ⟨i21 (by omega), ?_⟩
      unfold low at hk
      by_cases d : fea (vP U) (vT U) (qk (vP U) p) p s ≤ uN (vT U) p
      · rw [if_neg (nI_nlt d (by omega)), pk_m1]
        rw [if_pos d] at hk
        exact ih (by omega) hk
      · rw [if_pos (nI_lt (by omega) (by omega))]
        rw [if_neg d] at hk
        exact hk
  exact key _ (c.sH hp) hk
