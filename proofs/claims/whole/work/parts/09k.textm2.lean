/-! the reference: items, fault, lay -/
theorem win_k {v lo n : Nat} (hv : v ≤ 99) (hn : 1 ≤ n) (hn2 : n < 100) : win (nI v) 0 (nI n - 1) = decide (v < n) := by
  rw [k1, pk_sub hn, k0, win_n (by omega) (by omega) (by omega), decide_eq_decide]; omega
theorem win_0 {v hi : Nat} (hv : v < 1000) (hh : hi < 1000) : win (nI v) 0 (nI hi) = decide (v ≤ hi) := by
  rw [k0, win_n hv (by omega) hh, decide_eq_decide]; omega
theorem nmK_none {K : Int32 → ts_S → Prop} {m : Nat} {σ : ts_S} (h : K 0 σ) : nmK K m none σ := h
theorem itK_none {K : Int32 → ts_S → Prop} {σ : ts_S} (h : K 0 σ) : itK K none σ := h
theorem ym_height {K : Int32 → ts_S → Prop} {σ : ts_S} {l a : Nat} {L : Nat → Nat} {P : sP} {T : sT} (t : tok l L) (h : rMt σ l L) (ha : a ≤ l) (d : rd σ a P T) (hk : ∀ σ', rk σ σ' → itK K (match nms L l 1 1 a (fun _ => 0) with
    | none => none
    | some q => if 2 ≤ q.1 0 ∧ q.1 0 ≤ 10 then some (q.2, aH P (q.1 0), T) else none) σ') : wp_X10_readHeightOf K σ := by
  unfold wp_X10_readHeightOf
  refine ym_readNumbers t h (m := 1) (by omega) ha d.1 (fun σ1 r1 => ?_)
  have fail : ∀ σ2, rn σ σ2 → (∀ σ', rk σ σ' → K 0 σ') → wp_X10_readHeightOf_j24 K σ2 0 := by
    intro σ2 r2 hk
    unfold wp_X10_readHeightOf_j24 wp_X10_readHeightOf_j43
    rw [if_pos rfl]
    rintro _ rfl
    exact ⟨zb0, hk _ (r2.rk.tr (rk.u0 (by omega)))⟩
  cases e : nms L l 1 1 a (fun _ => 0) with
  | none =>
    rw [e] at hk
    refine nmK_none ?_
    rw [if_pos rfl]
    exact fail σ1 r1 hk
  | some q =>
    rw [e] at hk
    intro h14 hv
    rw [if_neg (by decide)]
    obtain ⟨v1, v2⟩ := hv 0 (by omega)
    refine ym_isTold (i := 0) (by omega) ?_
    rw [v1, k2, k10, win_n (by omega) (by omega) (by omega)]
    by_cases c : 2 ≤ q.1 0 ∧ q.1 0 ≤ 10
    · have hk : ∀ σ', rk σ σ' → itK K (if 2 ≤ q.1 0 ∧ q.1 0 ≤ 10 then some (q.2, aH P (q.1 0), T) else none) σ' := hk
      rw [if_pos c] at hk
      rw [decide_eq_true c]; simp only [itB1]
      unfold wp_X10_readHeightOf_j24 wp_X10_readHeightOf_j43
      rw [if_neg (by decide), cl0, v1]
      refine ⟨vp_in_nI (n := 0) (N := 4) (by omega) (by omega), ?_⟩
      rintro _ rfl
      refine ⟨zb1, hk _ (r1.rk.tr (rk.u0 (by omega))) ?_⟩
      obtain ⟨-, ⟨d2, d3, d4⟩, d5, d6, d7, d8, d9⟩ := d.rn r1 h14
      have e0 : ∀ k, k ≠ 0 → ts_u σ1 0 16 (nI (q.1 0)) k = σ1 k := fun k hk => ts_u_c hk
      have ej : ∀ j, j ≠ 16 → ts_u σ1 0 16 (nI (q.1 0)) 0 j = σ1 0 j := fun j hj => by rw [ts_u_app, if_neg (fun z => hj z.2)]
      refine ⟨by rw [ej 14 (by omega)]; exact h14, ⟨by rw [ts_u_app, if_pos ⟨rfl, rfl⟩]; rfl, by rw [ej 17 (by omega)]; exact d3, by rw [ej 20 (by omega)]; exact d4⟩, ?_, ?_, ?_, ?_, d9⟩
      · rw [e0 9 (by omega)]; exact d5
      · rw [e0 11 (by omega)]; exact d6
      · rw [e0 10 (by omega)]; exact d7
      · rw [e0 10 (by omega)]; exact d8
    · have hk : ∀ σ', rk σ σ' → itK K (if 2 ≤ q.1 0 ∧ q.1 0 ≤ 10 then some (q.2, aH P (q.1 0), T) else none) σ' := hk
      rw [if_neg c] at hk
      rw [decide_eq_false c]; simp only [itB0]
      exact fail σ1 r1 hk
theorem ym_personItem {K : Int32 → ts_S → Prop} {σ : ts_S} {l a : Nat} {L : Nat → Nat} {P : sP} {T : sT} (t : tok l L) (h : rMt σ l L) (ha : a ≤ l) (d : rd σ a P T) (w : wfP P) (hk : ∀ σ', rk σ σ' → itK K (match nms L l 4 4 a (fun _ => 0) with
    | none => none
    | some q => if qn P < 6 ∧ q.1 0 < 4 ∧ q.1 1 < qH P ∧ (12 ≤ q.1 2 ∧ q.1 2 ≤ 60) ∧ q.1 3 ≤ 30 then some (q.2, aP P (q.1 0), aT T (qn P) (q.1 1) (q.1 2) (q.1 3)) else none) σ') : wp_X10_readPersonItem K σ := by
  have h2 := w.1
  have h10 := w.2.1
  have h6 := w.2.2.1
  unfold wp_X10_readPersonItem
  rw [d.2.1.2.1]
  by_cases d6 : qn P < 6
  · rw [if_neg (by rw [k6, eqI (by omega) (by omega)]; omega)]
    refine ym_readNumbers t h (m := 4) (by omega) ha d.1 (fun σ1 r1 => ?_)
    cases e : nms L l 4 4 a (fun _ => 0) with
    | none =>
      rw [e] at hk
      refine nmK_none ?_
      rw [if_pos rfl]
      exact ⟨zb0, hk σ1 r1.rk⟩
    | some q =>
      rw [e] at hk
      have hk : ∀ σ', rk σ σ' → itK K (if qn P < 6 ∧ q.1 0 < 4 ∧ q.1 1 < qH P ∧ (12 ≤ q.1 2 ∧ q.1 2 ≤ 60) ∧ q.1 3 ≤ 30 then some (q.2, aP P (q.1 0), aT T (qn P) (q.1 1) (q.1 2) (q.1 3)) else none) σ' := hk
      intro h14 hv
      have hd := d.rn r1 h14
      rw [if_neg (by decide)]
      obtain ⟨v0, b0⟩ := hv 0 (by omega)
      obtain ⟨v1, b1⟩ := hv 1 (by omega)
      obtain ⟨v2, b2⟩ := hv 2 (by omega)
      obtain ⟨v3, b3⟩ := hv 3 (by omega)
      refine ym_isTold (i := 0) (by omega) ?_
      rw [v0, k3, win_0 (by omega) (by omega)]
      by_cases c0 : q.1 0 < 4
      · rw [decide_eq_true (show q.1 0 ≤ 3 by omega)]; simp only [itB1]
        refine ym_isTold (i := 1) (by omega) ?_
        rw [v1, hd.2.1.1, win_k (lo := 0) b1 (by omega) (by omega)]
        by_cases c1 : q.1 1 < qH P
        · rw [decide_eq_true c1]; simp only [itB1]
          refine ym_isTold (i := 2) (by omega) ?_
          rw [v2, k12, k60, win_n (by omega) (by omega) (by omega)]
          by_cases c2 : 12 ≤ q.1 2 ∧ q.1 2 ≤ 60
          · rw [decide_eq_true c2]; simp only [itB1]
            refine ym_isTold (i := 3) (by omega) ?_
            rw [v3, k30, win_0 (by omega) (by omega)]
            by_cases c3 : q.1 3 ≤ 30
            · rw [decide_eq_true c3]; simp only [itB1]
              rw [if_pos ⟨d6, c0, c1, c2, c3⟩] at hk
              rw [cl0, cl1, cl2, show (nI 3).toNatClampNeg = 3 from rfl, v0, v1, v2, v3]
              refine ⟨vp_in_nI (n := 0) (N := 4) (by omega) (by omega), vp_in_nI (n := 1) (N := 4) (by omega) (by omega), vp_in_nI (n := 2) (N := 4) (by omega) (by omega), vp_in_nI (n := 3) (N := 4) (by omega) (by omega), ?_⟩
              exact ym_tellsPerson hd d6 (fun σ2 r2 d2 => ⟨zb1, hk σ2 (r1.rk.tr r2) d2⟩)
            · rw [decide_eq_false c3]; simp only [itB0]
              rw [if_neg (fun z => c3 z.2.2.2.2)] at hk
              exact ⟨zb0, hk σ1 r1.rk⟩
          · rw [decide_eq_false c2]; simp only [itB0]
            rw [if_neg (fun z => c2 z.2.2.2.1)] at hk
            exact ⟨zb0, hk σ1 r1.rk⟩
        · rw [decide_eq_false c1]; simp only [itB0]
          rw [if_neg (fun z => c1 z.2.2.1)] at hk
          exact ⟨zb0, hk σ1 r1.rk⟩
      · rw [decide_eq_false (show ¬ q.1 0 ≤ 3 by omega)]; simp only [itB0]
        rw [if_neg (fun z => c0 z.2.1)] at hk
        exact ⟨zb0, hk σ1 r1.rk⟩
  · rw [if_pos (by rw [show qn P = 6 by omega]; rfl)]
    have e : (match nms L l 4 4 a (fun _ => 0) with
    | none => (none : Option (Nat × sP × sT))
    | some q => if qn P < 6 ∧ q.1 0 < 4 ∧ q.1 1 < qH P ∧ (12 ≤ q.1 2 ∧ q.1 2 ≤ 60) ∧ q.1 3 ≤ 30 then some (q.2, aP P (q.1 0), aT T (qn P) (q.1 1) (q.1 2) (q.1 3)) else none) = none := by
      cases nms L l 4 4 a (fun _ => 0) with
      | none => rfl
      | some q => show (if _ then _ else _) = _; rw [if_neg (fun z => d6 z.1)]
    rw [e] at hk
    exact ⟨zb0, hk σ rk.rf⟩
theorem ym_workItem {K : Int32 → ts_S → Prop} {σ : ts_S} {l a : Nat} {L : Nat → Nat} {P : sP} {T : sT} (t : tok l L) (h : rMt σ l L) (ha : a ≤ l) (d : rd σ a P T) (w : wfP P) (hk : ∀ σ', rk σ σ' → itK K (match nms L l 2 2 a (fun _ => 0) with
    | none => none
    | some q => if qW P < 5 ∧ q.1 0 < qH P ∧ (1 ≤ q.1 1 ∧ q.1 1 ≤ 4) then some (q.2, aW P (q.1 0) (q.1 1), T) else none) σ') : wp_X10_readWorkItem K σ := by
  have h2 := w.1
  have h10 := w.2.1
  have h5 := w.2.2.2.2.1
  unfold wp_X10_readWorkItem
  rw [d.2.1.2.2]
  by_cases d6 : qW P < 5
  · rw [if_neg (by rw [k5, eqI (by omega) (by omega)]; omega)]
    refine ym_readNumbers t h (m := 2) (by omega) ha d.1 (fun σ1 r1 => ?_)
    cases e : nms L l 2 2 a (fun _ => 0) with
    | none =>
      rw [e] at hk
      refine nmK_none ?_
      rw [if_pos rfl]
      exact ⟨zb0, hk σ1 r1.rk⟩
    | some q =>
      rw [e] at hk
      have hk : ∀ σ', rk σ σ' → itK K (if qW P < 5 ∧ q.1 0 < qH P ∧ (1 ≤ q.1 1 ∧ q.1 1 ≤ 4) then some (q.2, aW P (q.1 0) (q.1 1), T) else none) σ' := hk
      intro h14 hv
      have hd := d.rn r1 h14
      rw [if_neg (by decide)]
      obtain ⟨v0, b0⟩ := hv 0 (by omega)
      obtain ⟨v1, b1⟩ := hv 1 (by omega)
      refine ym_isTold (i := 0) (by omega) ?_
      rw [v0, hd.2.1.1, win_k (lo := 0) b0 (by omega) (by omega)]
      by_cases c0 : q.1 0 < qH P
      · rw [decide_eq_true c0]; simp only [itB1]
        refine ym_isTold (i := 1) (by omega) ?_
        rw [v1, k1, k4, win_n (by omega) (by omega) (by omega)]
        by_cases c1 : 1 ≤ q.1 1 ∧ q.1 1 ≤ 4
        · rw [decide_eq_true c1]; simp only [itB1]
          rw [if_pos ⟨d6, c0, c1⟩] at hk
          rw [cl0, show (nI 1).toNatClampNeg = 1 from rfl, v0, v1]
          refine ⟨vp_in_nI (n := 0) (N := 4) (by omega) (by omega), vp_in_nI (n := 1) (N := 4) (by omega) (by omega), ?_⟩
          exact ym_tellsWork hd d6 (fun σ2 r2 d2 => ⟨zb1, hk σ2 (r1.rk.tr r2) d2⟩)
        · rw [decide_eq_false c1]; simp only [itB0]
          rw [if_neg (fun z => c1 z.2.2)] at hk
          exact ⟨zb0, hk σ1 r1.rk⟩
      · rw [decide_eq_false c0]; simp only [itB0]
        rw [if_neg (fun z => c0 z.2.1)] at hk
        exact ⟨zb0, hk σ1 r1.rk⟩
  · rw [if_pos (by rw [show qW P = 5 by omega]; rfl)]
    have e : (match nms L l 2 2 a (fun _ => 0) with
    | none => (none : Option (Nat × sP × sT))
    | some q => if qW P < 5 ∧ q.1 0 < qH P ∧ (1 ≤ q.1 1 ∧ q.1 1 ≤ 4) then some (q.2, aW P (q.1 0) (q.1 1), T) else none) = none := by
      cases nms L l 2 2 a (fun _ => 0) with
      | none => rfl
      | some q => show (if _ then _ else _) = _; rw [if_neg (fun z => d6 z.1)]
    rw [e] at hk
    exact ⟨zb0, hk σ rk.rf⟩
theorem itK.mono {K K' : Int32 → ts_S → Prop} {o : Option (Nat × sP × sT)} {σ : ts_S} (h : itK K o σ) (h0 : K 0 σ → K' 0 σ) (h1 : K 1 σ → K' 1 σ) : itK K' o σ := by
  cases o with
  | none => exact h0 h
  | some q => exact fun z => h1 (h z)
theorem ym_readItem {K : Int32 → ts_S → Prop} {σ : ts_S} {l a : Nat} {L : Nat → Nat} {P : sP} {T : sT} (t : tok l L) (h : rMt σ l L) (ha : a < l) (d : rd σ a P T) (w : wfP P) (hk : ∀ σ', rk σ σ' → itK K (itm L l a P T) σ') : wp_X10_readItem K σ := by
  have hl := t.1
  unfold wp_X10_readItem
  rw [d.1]
  refine ym_letterAt t h (by omega) ?_
  have j21 : ∀ y : Nat, y < 2 → (y = 0 ↔ a ≠ 0) → wp_X10_readItem_j21 K σ (lqI L l a) (nI y) := by
    intro y hy hya
    unfold wp_X10_readItem_j21
    rw [d.1, nI_1]
    rintro _ rfl
    have r2 : rn σ (ts_u σ 0 14 (nI (a + 1))) := rn.u14
    have d2 : rd (ts_u σ 0 14 (nI (a + 1))) (a + 1) P T := d.rn r2 (by rw [ts_u_app, if_pos ⟨rfl, rfl⟩])
    have T2 := h.rn r2
    generalize ts_u σ 0 14 (nI (a + 1)) = σ2 at r2 d2 T2 ⊢
    have hk : ∀ σ', rk σ2 σ' → itK K (itm L l a P T) σ' := fun σ' r => hk σ' (r2.rk.tr r)
    unfold itm at hk
    have q104 : lqI L l a = 104 ↔ lt1 L l a = 104 := lqI_eq t (x := 104) (by omega)
    have q112 : lqI L l a = 112 ↔ lt1 L l a = 112 := lqI_eq t (x := 112) (by omega)
    have q119 : lqI L l a = 119 ↔ lt1 L l a = 119 := lqI_eq t (x := 119) (by omega)
    by_cases c1 : lt1 L l a = 104
    · rw [if_pos (q104.mpr c1)]
      rw [if_pos c1] at hk
      by_cases y0 : a = 0
      · rw [if_neg (by rw [k0, eqI (by omega) (by omega)]; omega)]
        rw [if_pos y0] at hk
        refine ym_height t T2 (by omega) d2 (fun σ3 r3 => (hk σ3 r3).mono (fun z => ?_) (fun z => ?_))
        · rw [if_pos rfl]; exact ⟨zb0, z⟩
        · rw [if_neg (by decide)]; exact ⟨zb1, z⟩
      · rw [if_pos (by rw [hya.mpr y0]; rfl)]
        rw [if_neg y0] at hk
        exact ⟨zb0, hk σ2 rk.rf⟩
    · rw [if_neg (fun z => c1 (q104.mp z))]
      rw [if_neg c1] at hk
      by_cases c2 : lt1 L l a = 112
      · rw [if_pos (q112.mpr c2)]
        rw [if_pos c2] at hk
        exact ym_personItem t T2 (by omega) d2 w (fun σ3 r3 => (hk σ3 r3).mono (fun z => ⟨zb0, z⟩) (fun z => ⟨zb1, z⟩))
      · rw [if_neg (fun z => c2 (q112.mp z))]
        rw [if_neg c2] at hk
        by_cases c3 : lt1 L l a = 119
        · rw [if_pos (q119.mpr c3)]
          rw [if_pos c3] at hk
          exact ym_workItem t T2 (by omega) d2 w (fun σ3 r3 => (hk σ3 r3).mono (fun z => ⟨zb0, z⟩) (fun z => ⟨zb1, z⟩))
        · rw [if_neg (fun z => c3 (q119.mp z))]
          rw [if_neg c3] at hk
          exact ⟨zb0, hk σ2 rk.rf⟩
  rw [d.1]
  by_cases y0 : a = 0
  · rw [if_pos (by rw [y0]; rfl)]; exact j21 1 (by omega) (by omega)
  · rw [if_neg (by rw [k0, eqI (by omega) (by omega)]; exact y0)]; exact j21 0 (by omega) (by omega)
theorem ym_clearTold {K : ts_S → Prop} {σ : ts_S} {a : Nat} (h14 : σ 0 14 = nI a) (hk : ∀ σ', rk σ σ' → rd σ' a P0 T0 → K σ') : wp_X10_clearTold K σ := by
  unfold wp_X10_clearTold
  rintro _ rfl _ rfl _ rfl
  have rk0 : rk σ (ts_u (ts_u (ts_u σ 0 16 6) 0 17 0) 0 20 0) := ((rk.u0 (by omega)).tr (rk.u0 (by omega))).tr (rk.u0 (by omega))
  have q14 : ts_u (ts_u (ts_u σ 0 16 6) 0 17 0) 0 20 0 0 14 = nI a := by rw [ts_u_app, if_neg (by omega), ts_u_app, if_neg (by omega), ts_u_app, if_neg (by omega)]; exact h14
  have q16 : ts_u (ts_u (ts_u σ 0 16 6) 0 17 0) 0 20 0 0 16 = 6 := by rw [ts_u_app, if_neg (by omega), ts_u_app, if_neg (by omega), ts_u_app, if_pos ⟨rfl, rfl⟩]
  have q17 : ts_u (ts_u (ts_u σ 0 16 6) 0 17 0) 0 20 0 0 17 = 0 := by rw [ts_u_app, if_neg (by omega), ts_u_app, if_pos ⟨rfl, rfl⟩]
  have q20 : ts_u (ts_u (ts_u σ 0 16 6) 0 17 0) 0 20 0 0 20 = 0 := by rw [ts_u_app, if_pos ⟨rfl, rfl⟩]
  generalize ts_u (ts_u (ts_u σ 0 16 6) 0 17 0) 0 20 0 = σ0 at rk0 q14 q16 q17 q20 ⊢
  unfold wp_X10_clearTold_l18
  intro X hX
  have main : ∀ σ', rk σ σ' → σ' 0 = σ0 0 → (∀ j, j < 0 → σ' 10 j = 0) → X σ' (nI 0) := by
    refine ts_down (P := fun i => ∀ σ', rk σ σ' → σ' 0 = σ0 0 → (∀ j, j < i → σ' 10 j = 0) → X σ' (nI i)) 21 ?_ ?_
    · intro σ1 r1 e0 hz
      apply hX; unfold wp_X10_clearTold_b18
      rw [if_pos (by decide)]
      exact hk σ1 r1 ⟨by rw [e0]; exact q14, ⟨by rw [e0]; exact q16, by rw [e0]; exact q17, by rw [e0]; exact q20⟩, fun p hp => absurd hp (Nat.not_lt_zero p), fun p hp => absurd hp (Nat.not_lt_zero p), fun j hj => hz j (by omega), fun p hp => absurd hp (Nat.not_lt_zero p), fun _ => ⟨rfl, rfl⟩⟩
    · intro i hi ih σ1 r1 e0 hz
      apply hX; unfold wp_X10_clearTold_b18
      rw [if_neg (by rw [k21]; exact nI_ge hi (by omega)), nI_clamp (by omega), nI_1]
      refine ⟨i21 hi, ?_⟩
      rintro _ rfl
      refine ih _ (r1.tr (rk.uc (by omega))) (by rw [ts_u_c (by omega)]; exact e0) (fun j hj => ?_)
      rw [ts_u_app]; split
      · rfl
      · exact hz j (by omega)
  exact main σ0 rk0 rfl (fun j hj => absurd hj (Nat.not_lt_zero j))
def faK (K : Int32 → ts_S → Prop) (o : Nat ⊕ (sP × sT)) (σ' : ts_S) : Prop := match o with
  | .inl a => a ≤ 200 → K (nI a) σ'
  | .inr q => (∃ a, rd σ' a q.1 q.2) → wfD q.1 q.2 → K (-4) σ'
theorem itm_wf {L : Nat → Nat} {l a : Nat} {P : sP} {T : sT} {q : Nat × sP × sT} (h : wfD P T) (he : emp a P) (e : itm L l a P T = some q) : wfD q.2.1 q.2.2 := by
  unfold itm at e
  split at e
  · split at e
    · next ha =>
      cases e1 : nms L l 1 1 (a + 1) (fun _ => 0) with
      | none => rw [e1] at e; cases e
      | some r =>
        rw [e1] at e; dsimp only at e
        split at e
        · next c => cases e; exact wfD_H h (he ha).1 (he ha).2 c
        · cases e
    · cases e
  · split at e
    · cases e1 : nms L l 4 4 (a + 1) (fun _ => 0) with
      | none => rw [e1] at e; cases e
      | some r =>
        rw [e1] at e; dsimp only at e
        split at e
        · next c => cases e; exact wfD_P h c.1 c.2.1 c.2.2.1 c.2.2.2.1.2 c.2.2.2.2
        · cases e
    · split at e
      · cases e1 : nms L l 2 2 (a + 1) (fun _ => 0) with
        | none => rw [e1] at e; cases e
        | some r =>
          rw [e1] at e; dsimp only at e
          split at e
          · next c => cases e; exact wfD_W h c.1 c.2.1 c.2.2
          · cases e
      · cases e
theorem ym_fault {K : Int32 → ts_S → Prop} {σ : ts_S} {U : sU} (w : wfU U) (h : rM σ U) (hk : ∀ σ', rM σ' U → faK K (prs0 (vL U) (vl U)) σ') : wp_X10_fault K σ := by
  have t : tok (vl U) (vL U) := w.2.2.2.1
  have hl := t.1
  unfold wp_X10_fault
  rintro _ rfl
  refine ym_clearTold (a := 0) (by rw [ts_u_app, if_pos ⟨rfl, rfl⟩]; rfl) (fun σ1 r1 d1 => ?_)
  have r1 : rk σ σ1 := rk.tr (rk.u0 (by omega)) r1
  unfold wp_X10_fault_l9
  intro X hX
  have main : ∀ (f a : Nat) (P : sP) (T : sT) (σ2 : ts_S), a ≤ vl U → vl U - a ≤ f → rM σ2 U → rd σ2 a P T → wfD P T → emp a P → (∀ σ', rM σ' U → faK K (prs (vL U) (vl U) f a P T) σ') → X σ2 := by
    intro f
    induction f with
    | zero =>
      intro a P T σ2 ha hf hM d wd _ hk
      apply hX; unfold wp_X10_fault_b9
      rw [hM.tx.1, d.1, if_pos (nI_le (by omega) (by omega))]
      exact hk σ2 hM ⟨a, d⟩ wd
    | succ f ih =>
      intro a P T σ2 ha hf hM d wd em hk
      apply hX; unfold wp_X10_fault_b9
      rw [hM.tx.1, d.1]
      have hp : prs (vL U) (vl U) (f + 1) a P T = if a < vl U then (match itm (vL U) (vl U) a P T with
        | none => .inl a
        | some q => prs (vL U) (vl U) f q.1 q.2.1 q.2.2) else .inr (P, T) := rfl
      rw [hp] at hk
      by_cases c : a < vl U
      · rw [if_neg (nI_ge c (by omega))]
        rw [if_pos c] at hk
        refine ym_readItem t hM.tx c d wd.1 (fun σ3 r3 => ?_)
        have hM3 := hM.rk r3
        cases e : itm (vL U) (vl U) a P T with
        | none =>
          rw [e] at hk
          refine itK_none ?_
          rw [if_pos rfl]
          exact hk σ3 hM3 (by omega)
        | some q =>
          rw [e] at hk
          intro d3
          rw [if_neg (by decide)]
          obtain ⟨a1, a2⟩ := itm_adv c e
          exact ih q.1 q.2.1 q.2.2 σ3 a2 (by omega) hM3 d3 (itm_wf wd em e) (fun z => by omega) hk
      · rw [if_pos (nI_le (by omega) (by omega))]
        rw [if_neg c] at hk
        exact hk σ2 hM ⟨a, d⟩ wd
  exact main (vl U) 0 P0 T0 σ1 (by omega) (by omega) (h.rk r1) d1 wfD0 (fun _ => ⟨rfl, rfl⟩) hk
theorem pm_fault {K : Int32 → ts_S → Prop} {σ : ts_S} {U : sU} (w : wfU U) (h : rM σ U) (hk : ∀ σ', rM σ' U → K (o_fault U) σ') : wp_X10_fault K σ := by
  refine ym_fault w h (fun σ' h' => ?_)
  have hk := hk σ' h'
  unfold o_fault at hk
  cases e : prs0 (vL U) (vl U) with
  | inl a => rw [e] at hk; exact fun _ => hk
  | inr q => rw [e] at hk; exact fun _ _ => hk
theorem pm_lay {K : Int32 → ts_S → Prop} {σ : ts_S} {U : sU} (w : wfU U) (h : rM σ U) (hk : ∀ σ', rM σ' (o_lay U).2 → K (o_lay U).1 σ') : wp_X10_lay K σ := by
  unfold wp_X10_lay
  refine ym_fault w h (fun σ1 h1 => ?_)
  unfold o_lay at hk
  cases e : prs0 (vL U) (vl U) with
  | inl a =>
    rw [e] at hk
    intro ha
    rw [if_neg (by rw [← Int32.toInt_inj, nI_toInt (by omega), show (-4 : Int32).toInt = -4 from rfl]; omega)]
    exact hk σ1 h1
  | inr q =>
    rw [e] at hk
    obtain ⟨P, T⟩ := q
    rintro ⟨a, d⟩ wd
    obtain ⟨d1, ⟨d2, d3, d4⟩, d5, d6, d7, d8, d9⟩ := d
    dsimp only at d2 d3 d4 d5 d6 d7 d8 d9 wd hk
    have h6 := wd.1.2.2.1
    have h5 := wd.1.2.2.2.2.1
    rw [if_pos rfl, d3]
    by_cases c : qn P = 0
    · rw [if_pos (by rw [c]; rfl)]
      rw [if_pos c] at hk
      exact hk σ1 h1
    · rw [if_neg (by rw [k0, eqI (by omega) (by omega)]; exact c)]
      rw [if_neg c] at hk
      unfold wp_X10_settles
      rintro _ rfl _ rfl
      refine ym_copies (a := 0) (b := 0) (n := 6) (by omega) (by decide) (by decide) (by decide) (by decide) (fun σ2 m1 m2 m3 => ?_)
      rintro _ rfl
      refine ym_copies (a := 0) (b := 0) (n := 10) (by omega) (by decide) (by decide) (by decide) (by decide) (fun σ3 q1 q2 q3 => ?_)
      refine ym_copies (a := 0) (b := 0) (n := 21) (by omega) (by decide) (by decide) (by decide) (by decide) (fun σ4 s1 s2 s3 => ?_)
      rintro _ rfl _ rfl _ rfl
      generalize hs : ts_u (ts_u (ts_u σ4 0 6 0) 0 8 0) 0 10 0 = σ5
      have c5 : ∀ k, k ≠ 0 → σ5 k = σ4 k := fun k hk => by rw [← hs, ts_u_c hk, ts_u_c hk, ts_u_c hk]
      -- cell 0
      have b1 : ∀ j, ts_u (ts_u σ1 0 0 (σ1 0 16)) 0 1 (ts_u σ1 0 0 (σ1 0 16) 0 17) 0 j = if j = 1 then σ1 0 17 else if j = 0 then σ1 0 16 else σ1 0 j := by
        intro j
        rw [ts_u_app, ts_u_app, ts_u_app]
        by_cases z1 : j = 1
        · simp [z1]
        · by_cases z0 : j = 0
          · simp [z0]
          · simp [z1, z0]
      have b2 : ∀ j, σ4 0 j = if j = 3 then σ1 0 20 else if j = 1 then σ1 0 17 else if j = 0 then σ1 0 16 else σ1 0 j := by
        intro j
        rw [s1 0 (by omega), q1 0 (by omega), ts_u_app, m1 0 (by omega), b1, b1]
        by_cases z1 : j = 3
        · simp [z1]
        · simp [z1]
      have b5 : ∀ j, σ5 0 j = if j = 10 then 0 else if j = 8 then 0 else if j = 6 then 0 else σ4 0 j := by
        intro j
        rw [← hs, ts_u_app, ts_u_app, ts_u_app]
        simp
      have e01 : σ5 0 1 = nI (qn P) := by rw [b5, b2]; simp; exact d3
      rw [e01]
      refine hk σ5 ⟨⟨?_, e01, ?_, fun p hp => ?_, fun w hw => ?_⟩, ⟨?_, ?_, ?_, fun p hp => ?_⟩, ⟨?_, fun i hi => ?_⟩, ⟨?_, fun k hk => absurd hk (Nat.not_lt_zero k)⟩, ⟨?_, fun k hk => absurd hk (Nat.not_lt_zero k)⟩, ⟨?_, fun k hk => absurd hk (Nat.not_lt_zero k)⟩⟩
      · rw [b5, b2]; simp; exact d2
      · rw [b5, b2]; simp; exact d4
      · have hp : p < qn P := hp
        rw [c5 1 (by omega), s1 1 (by omega), q1 1 (by omega), ts_u_c (by omega)]
        have := m2 p (by omega)
        rw [Nat.zero_add] at this
        rw [this, ts_u_c (by omega), ts_u_c (by omega)]; exact d5 p hp
      · have hw : w < qW P := hw
        rw [c5 2 (by omega), s1 2 (by omega)]
        have u1 := q2 (2 * w) (by omega)
        have u2 := q2 (2 * w + 1) (by omega)
        rw [Nat.zero_add] at u1 u2
        rw [u1, u2, ts_u_c (by omega), m1 11 (by omega), ts_u_c (by omega), ts_u_c (by omega)]; exact d6 w hw
      · have := s2 0 (by omega)
        rw [Nat.zero_add] at this
        rw [c5 3 (by omega), this, q1 10 (by omega), ts_u_c (by omega), m1 10 (by omega), ts_u_c (by omega), ts_u_c (by omega), d7 0 (by omega)]
        show (0 : Int32) = nI (uY T)
        rw [wd.2.2]; rfl
      · have := s2 1 (by omega)
        rw [Nat.zero_add] at this
        rw [Nat.zero_add, c5 3 (by omega), this, q1 10 (by omega), ts_u_c (by omega), m1 10 (by omega), ts_u_c (by omega), ts_u_c (by omega), d7 1 (by omega)]
        show (0 : Int32) = nI (bs (uG T) (qn P))
        rw [show uG T = fun _ => false from funext (fun p => (d9 p).1), bs_0]; rfl
      · have := s2 2 (by omega)
        rw [Nat.zero_add] at this
        rw [Nat.zero_add, c5 3 (by omega), this, q1 10 (by omega), ts_u_c (by omega), m1 10 (by omega), ts_u_c (by omega), ts_u_c (by omega), d7 2 (by omega)]
        show (0 : Int32) = nI (bs (uC T) (qn P))
        rw [show uC T = fun _ => false from funext (fun p => (d9 p).2), bs_0]; rfl
      · have hp : p < qn P := hp
        have u1 := s2 (3 + p) (by omega)
        have u2 := s2 (9 + p) (by omega)
        have u3 := s2 (15 + p) (by omega)
        rw [Nat.zero_add] at u1 u2 u3
        rw [Nat.zero_add, Nat.zero_add, Nat.zero_add, c5 3 (by omega), u1, u2, u3, q1 10 (by omega), ts_u_c (by omega), m1 10 (by omega), ts_u_c (by omega), ts_u_c (by omega)]
        exact d8 p hp
      · rw [b5, b2]; simp; exact h1.tx.1
      · rw [c5 7 (by omega), s1 7 (by omega), q1 7 (by omega), ts_u_c (by omega), m1 7 (by omega), ts_u_c (by omega), ts_u_c (by omega)]
        exact h1.tx.2 i hi
      · rw [b5]; simp; rfl
      · rw [b5]; simp; rfl
      · rw [b5]; simp; rfl
