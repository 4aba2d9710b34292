def okp (P : sP) (k s a nv : Nat) : Prop := qn P < 6 ∧ k < 4 ∧ s < qH P ∧ (12 ≤ a ∧ a ≤ 60) ∧ nv ≤ 30
theorem okp_dec (P : sP) (k s a nv : Nat) : okp P k s a nv ∨ ¬ okp P k s a nv := Classical.em _
theorem sx_takePerson {K : Int32 → ts_S → Prop} {σ : ts_S} {P : sP} {T : sT} {x y z v : Nat} (d : dr σ P T) (wf : wfP P) (hx : σ 3 0 = nI x) (hy : σ 3 1 = nI y) (hz : σ 3 2 = nI z) (hv : σ 3 3 = nI v) (hx9 : x ≤ 99) (hy9 : y ≤ 99) (hz9 : z ≤ 99) (hv9 : v ≤ 99) (hg : okp P x y z v → ∀ σ', pfr σ σ' → σ' 1 2 = σ 1 2 → dr σ' (aP P x) (aT T (qn P) y z v) → K 1 σ') (hb : ¬ okp P x y z v → K 0 σ) : wp_X6_takePerson K σ 37 := by
  have pl : tX_pl 37 = 27 := rfl
  obtain ⟨⟨p1, p2, p3, p4, p5⟩, ⟨t1, t2⟩, b1⟩ := d
  have hn := wf.2.2.1
  have hH := wf.2.1
  unfold wp_X6_takePerson
  rw [pl, cl0, cl1, cl2, cl3, p2, p1, hx, hy, hz, k6, k4]
  have bad : ¬ okp P x y z v → ts_zb 0 ∧ K 0 σ := fun nc => ⟨zb0, hb nc⟩
  by_cases c1 : qn P < 6
  · rw [if_neg (nI_ge c1 (by omega))]
    refine ⟨in04 (i := 0) (by omega), ?_⟩
    by_cases c2 : x < 4
    · rw [if_neg (nI_ge c2 (by omega))]
      refine ⟨in04 (i := 1) (by omega), ?_⟩
      by_cases c3 : y < qH P
      · rw [if_neg (nI_ge c3 (by omega))]
        refine ⟨in04 (i := 2) (by omega), sx_within ?_⟩
        have e : decide ((12 : Int32) ≤ nI z ∧ nI z ≤ 60) = decide (12 ≤ z ∧ z ≤ 60) := winI (lo := 12) (hi := 60) (by omega) (by omega) (by omega)
        rw [e]
        by_cases c4 : 12 ≤ z ∧ z ≤ 60
        · rw [decide_eq_true c4]
          simp only [itB1]
          refine ⟨in04 (i := 3) (by omega), ?_⟩
          rw [hv]
          by_cases c5 : v ≤ 30
          · rw [if_pos (by rw [k30]; exact nI_le c5 (by omega))]
            have hin : vp_in (nI (qn P)) 6 := vp_in_nI c1 (by omega)
            refine ⟨in04 (i := 0) (by omega), hin, ?_⟩
            rintro _ rfl
            refine ⟨in04 (i := 1) (by omega), hin, ?_⟩
            rintro _ rfl
            refine ⟨in04 (i := 2) (by omega), hin, ?_⟩
            rintro _ rfl
            refine ⟨in04 (i := 3) (by omega), hin, ?_⟩
            rintro _ rfl
            refine ⟨hin, ?_⟩
            rintro _ rfl
            refine ⟨hin, ?_⟩
            rintro _ rfl _ rfl
            refine ⟨zb1, ?_⟩
            rw [nI_clamp (by omega), narZ0]
            rw [ts_u_c (a := 3) (k := 37 + 2) (by omega), ts_u_c (a := 3) (k := 37 + 1) (by omega), ts_u_c (a := 3) (k := 27 + 1) (by omega), hx, hy, hz, hv]
            rw [ts_u_c (a := 27) (k := 37 + 5) (by omega), ts_u_c (a := 27) (k := 37 + 4) (by omega), ts_u_c (a := 27) (k := 37 + 3) (by omega), ts_u_c (a := 27) (k := 37 + 2) (by omega), ts_u_c (a := 27) (k := 37 + 1) (by omega), ts_u_c (a := 27) (k := 27 + 1) (by omega), p2, nI_1]
            have hall : ∀ k, k ≠ 27 → k ≠ 28 → k ≠ 38 → k ≠ 39 → k ≠ 40 → k ≠ 41 → k ≠ 42 → (ts_u (ts_u (ts_u (ts_u (ts_u (ts_u (ts_u σ (27 + 1) (qn P) (nI x)) (37 + 1) (qn P) (nI y)) (37 + 2) (qn P) (nI z)) (37 + 3) (qn P) (nI v)) (37 + 4) (qn P) 0) (37 + 5) (qn P) 0) 27 1 (nI (qn P + 1))) k = σ k := fun k a1 a2 a3 a4 a5 a6 a7 => by rw [ts_u_c a1, ts_u_c a7, ts_u_c a6, ts_u_c a5, ts_u_c a4, ts_u_c a3, ts_u_c a2]
            refine hg ⟨c1, c2, c3, c4, c5⟩ _ ⟨fun k hk => hall k (by omega) (by omega) (by omega) (by omega) (by omega) (by omega) (by omega), by rw [hall 1 (by omega) (by omega) (by omega) (by omega) (by omega) (by omega) (by omega)]⟩ (by rw [hall 1 (by omega) (by omega) (by omega) (by omega) (by omega) (by omega) (by omega)]) ⟨⟨?_, ?_, ?_, fun p hp => ?_, fun w hw => ?_⟩, ⟨?_, fun p hp => ?_⟩, fun p hp => ?_⟩
            · simp [ts_u_app]; exact p1
            · simp [ts_u_app]; rfl
            · simp [ts_u_app]; exact p3
            · have hp : p < qn P + 1 := hp
              show _ = nI (fu (qk P) (qn P) x p)
              unfold fu
              by_cases ep : p = qn P
              · simp [ts_u_app, ep]
              · simp [ts_u_app, ep]; exact p4 p (by omega)
            · rw [hall (27 + 2) (by omega) (by omega) (by omega) (by omega) (by omega) (by omega) (by omega), hall (27 + 3) (by omega) (by omega) (by omega) (by omega) (by omega) (by omega) (by omega)]; exact p5 w hw
            · rw [hall 37 (by omega) (by omega) (by omega) (by omega) (by omega) (by omega) (by omega)]; exact t1
            · have hp : p < qn P + 1 := hp
              show _ = nI (fu (uS T) (qn P) y p) ∧ _ = nI (fu (uA T) (qn P) z p) ∧ _ = nI (fu (uN T) (qn P) v p) ∧ _ = nB (fu (uG T) (qn P) false p) ∧ _ = nB (fu (uC T) (qn P) false p)
              unfold fu
              by_cases ep : p = qn P
              · simp [ts_u_app, ep]; rfl
              · obtain ⟨q1, q2, q3, q4, q5⟩ := t2 p (by omega)
                simp [ts_u_app, ep]; exact ⟨q1, q2, q3, q4, q5⟩
            · obtain ⟨q1, q2⟩ := b1 p hp
              by_cases ep : p = qn P
              · simp only [ts_u_app, ep]; exact ⟨⟨false, by simp; rfl⟩, ⟨false, by simp; rfl⟩⟩
              · refine ⟨?_, ?_⟩
                · rw [ts_u_c (by omega), ts_u_c (by omega), ts_u_app, if_neg (fun z => ep z.2), ts_u_c (by omega), ts_u_c (by omega), ts_u_c (by omega), ts_u_c (by omega)]; exact q1
                · rw [ts_u_c (by omega), ts_u_app, if_neg (fun z => ep z.2), ts_u_c (by omega), ts_u_c (by omega), ts_u_c (by omega), ts_u_c (by omega), ts_u_c (by omega)]; exact q2
          · rw [if_neg (by rw [k30]; exact nI_ge (by omega) (by omega))]
            exact bad (fun q => c5 q.2.2.2.2)
        · rw [decide_eq_false c4]
          simp only [itB0]
          exact bad (fun q => c4 q.2.2.2.1)
      · rw [if_pos (nI_le (by omega) (by omega))]
        exact bad (fun q => c3 q.2.2.1)
    · rw [if_pos (nI_le (by omega) (by omega))]
      exact bad (fun q => c2 q.2.1)
  · rw [if_pos (nI_le (by omega) (by omega))]
    exact bad (fun q => c1 q.1)
/-- an item is read -/
theorem sx_readItem {K : Int32 → ts_S → Prop} {σ : ts_S} {l : Nat} {L : Nat → Nat} {a : Nat} {P : sP} {T : sT} (h : txo σ l L) (ha : σ 1 2 = nI a) (hal : a < l) (d : dr σ P T) (wf : wfD P T) (he : emp a P) (hk : match itm L l a P T with
    | none => ∀ σ', pfr σ σ' → bz σ' 37 → K 0 σ'
    | some q => ∀ σ', pfr σ σ' → σ' 1 2 = nI q.1 → dr σ' q.2.1 q.2.2 → wfD q.2.1 q.2.2 → K 1 σ') : wp_X6_readItem K σ 37 := by
  have hl := h.2.1
  have pl : tX_pl 37 = 27 := rfl
  have j12 : ∀ y : Bool, y = decide (a = 0) → wp_X6_readItem_j12 K 37 σ (nB y) := by
    intro y hy
    unfold wp_X6_readItem_j12
    rw [ha, pl, nI_clamp (by omega), h.1.2 a hal]
    refine ⟨vp_in_nI (by omega) (by omega), ?_⟩
    rintro _ rfl
    rw [nI_1]
    have f1 : nfr σ (ts_u σ 1 2 (nI (a + 1))) := nfr.at
    have t1 := h.nf f1
    have d1 := d.nf f1
    have e1 : ts_u σ 1 2 (nI (a + 1)) 1 2 = nI (a + 1) := by simp [ts_u_app]
    generalize ts_u σ 1 2 (nI (a + 1)) = σ1 at f1 t1 d1 e1
    have hL := h.2.2 a hal
    have el : lt1 L l a = L a := by unfold lt1; rw [if_pos hal]
    unfold itm at hk
    rw [el] at hk
    rw [show (104 : Int32) = nI 104 from rfl, show (112 : Int32) = nI 112 from rfl, show (119 : Int32) = nI 119 from rfl]
    have fail : (∀ σ', pfr σ σ' → bz σ' 37 → K 0 σ') → ∀ σ', nfr σ1 σ' → K 0 σ' := fun hf σ' f => hf σ' ((f1.tr f).p) (d1.nf f).2.2
    by_cases c1 : L a = 104
    · rw [if_pos (by rw [c1])]
      rw [if_pos c1] at hk
      by_cases c0 : a = 0
      · have hy : y = true := by rw [hy]; exact decide_eq_true c0
        subst hy
        simp only [itB1]
        rw [if_pos c0] at hk
        refine sx_readNumbers (m := 1) t1 e1 (by omega) (by omega) ?_
        cases en : nms L l 1 1 (a + 1) (fun _ => 0) with
        | none =>
          rw [en] at hk; dsimp only at hk ⊢
          intro σ2 f2
          simp only [if_pos]
          exact ⟨zb0, fail hk σ2 f2⟩
        | some q =>
          rw [en] at hk; dsimp only at hk ⊢
          intro σ2 f2 e2 n2
          rw [if_neg (by decide)]
          obtain ⟨q1, q2⟩ := n2 0 (by omega)
          obtain ⟨z1, z2⟩ := he c0
          refine sx_takeSteps (d1.nf f2) q1 q2 (fun σ3 f3 e3 d3 => ?_)
          by_cases c2 : 2 ≤ q.1 0 ∧ q.1 0 ≤ 10
          · rw [if_pos c2] at hk d3; rw [decide_eq_true c2]
            simp only [itB1]
            exact ⟨zb1, hk σ3 (((f1.tr f2).p).tr f3) (by rw [e3]; exact e2) d3 (wfD_H wf z1 z2 c2)⟩
          · rw [if_neg c2] at hk d3; rw [decide_eq_false c2]
            simp only [itB0]
            exact ⟨zb0, hk σ3 (((f1.tr f2).p).tr f3) d3⟩
      · have hy : y = false := by rw [hy]; exact decide_eq_false c0
        subst hy
        simp only [itB0]
        rw [if_neg c0] at hk
        exact ⟨zb0, fail hk σ1 nfr.rf⟩
    rw [if_neg (by rw [eqI (by omega) (by omega)]; exact c1)]
    rw [if_neg c1] at hk
    by_cases c2 : L a = 112
    · rw [if_pos (by rw [c2])]
      rw [if_pos c2] at hk
      refine sx_readNumbers (m := 4) t1 e1 (by omega) (by omega) ?_
      cases en : nms L l 4 4 (a + 1) (fun _ => 0) with
      | none =>
        rw [en] at hk; dsimp only at hk ⊢
        intro σ2 f2
        simp only [if_pos]
        exact ⟨zb0, fail hk σ2 f2⟩
      | some q =>
        rw [en] at hk; dsimp only at hk ⊢
        intro σ2 f2 e2 n2
        rw [if_neg (by decide)]
        have d2 := d1.nf f2
        refine sx_takePerson (x := q.1 0) (y := q.1 1) (z := q.1 2) (v := q.1 3) d2 wf.1 (n2 0 (by omega)).1 (n2 1 (by omega)).1 (n2 2 (by omega)).1 (n2 3 (by omega)).1 (n2 0 (by omega)).2 (n2 1 (by omega)).2 (n2 2 (by omega)).2 (n2 3 (by omega)).2 (fun ok σ3 f3 e3 d3 => ?_) (fun nok => ?_)
        · have ok' := ok
          unfold okp at ok'
          rw [if_pos ok'] at hk
          rw [if_neg (by decide)]
          exact ⟨zb1, hk σ3 (((f1.tr f2).p).tr f3) (by rw [e3]; exact e2) d3 (wfD_P wf ok.1 ok.2.1 ok.2.2.1 ok.2.2.2.1.2 ok.2.2.2.2)⟩
        · have nok' := nok
          unfold okp at nok'
          rw [if_neg nok'] at hk
          simp only [if_pos]
          exact ⟨zb0, fail hk σ2 f2⟩
    rw [if_neg (by rw [eqI (by omega) (by omega)]; exact c2)]
    rw [if_neg c2] at hk
    by_cases c3 : L a = 119
    · rw [if_pos (by rw [c3])]
      rw [if_pos c3] at hk
      refine sx_readNumbers (m := 2) t1 e1 (by omega) (by omega) ?_
      cases en : nms L l 2 2 (a + 1) (fun _ => 0) with
      | none =>
        rw [en] at hk; dsimp only at hk ⊢
        intro σ2 f2
        simp only [if_pos]
        exact ⟨zb0, fail hk σ2 f2⟩
      | some q =>
        rw [en] at hk; dsimp only at hk ⊢
        intro σ2 f2 e2 n2
        rw [if_neg (by decide)]
        have d2 := d1.nf f2
        refine sx_takeWork d2 wf.1 (n2 0 (by omega)).1 (n2 1 (by omega)).1 (n2 0 (by omega)).2 (n2 1 (by omega)).2 (fun σ3 f3 e3 d3 => ?_)
        by_cases c4 : qW P < 5 ∧ q.1 0 < qH P ∧ (1 ≤ q.1 1 ∧ q.1 1 ≤ 4)
        · rw [if_pos c4] at hk d3; rw [decide_eq_true c4]
          simp only [itB1]
          exact ⟨zb1, hk σ3 (((f1.tr f2).p).tr f3) (by rw [e3]; exact e2) d3 (wfD_W wf c4.1 c4.2.1 c4.2.2)⟩
        · rw [if_neg c4] at hk d3; rw [decide_eq_false c4]
          simp only [itB0]
          exact ⟨zb0, hk σ3 (((f1.tr f2).p).tr f3) d3⟩
    rw [if_neg (by rw [eqI (by omega) (by omega)]; exact c3)]
    rw [if_neg c3] at hk
    exact ⟨zb0, fail hk σ1 nfr.rf⟩
  unfold wp_X6_readItem
  rw [ha]
  by_cases c0 : a = 0
  · rw [if_pos (by rw [c0]; rfl)]; exact j12 true (by rw [decide_eq_true c0])
  · rw [if_neg (by rw [k0, eqI (by omega) (by omega)]; exact c0)]; exact j12 false (by rw [decide_eq_false c0])
theorem sx_readInto {K : Int32 → ts_S → Prop} {σ : ts_S} {l : Nat} {L : Nat → Nat} (h : txo σ l L) (hb : bz σ 37) (hk : match prs0 L l with
    | .inl a => ∀ σ', pfr σ σ' → bz σ' 37 → K (nI a) σ'
    | .inr q => ∀ σ', pfr σ σ' → dr σ' q.1 q.2 → wfD q.1 q.2 → K (-4) σ') : wp_X6_readInto K σ 37 := by
  have hl := h.2.1
  have pl : tX_pl 37 = 27 := rfl
  unfold wp_X6_readInto wp_X2_clear
  rw [pl]
  rintro _ rfl _ rfl _ rfl _ rfl _ rfl
  generalize hσ : ts_u (ts_u (ts_u (ts_u (ts_u σ 27 0 6) 27 1 0) 27 2 0) 37 6 0) 1 2 0 = σ1
  have ec : ∀ k, k ≠ 1 → k ≠ 27 → k ≠ 37 → σ1 k = σ k := fun k a b c => by rw [← hσ, ts_u_c a, ts_u_c c, ts_u_c b, ts_u_c b, ts_u_c b]
  have f1 : pfr σ σ1 := ⟨fun k hk => ec k (by omega) (by omega) (by omega), by rw [← hσ, ts_u_app]; simp; rw [ts_u_c (by omega), ts_u_c (by omega), ts_u_c (by omega), ts_u_c (by omega)]⟩
  have e1 : σ1 1 2 = nI 0 := by rw [← hσ]; simp [ts_u_app]; rfl
  have d1 : dr σ1 P0 T0 := by
    refine ⟨⟨?_, ?_, ?_, fun p hp => absurd hp (Nat.not_lt_zero p), fun w hw => absurd hw (Nat.not_lt_zero w)⟩, ⟨?_, fun p hp => absurd hp (Nat.not_lt_zero p)⟩, fun p hp => ?_⟩
    · rw [← hσ]; simp [ts_u_app]; rfl
    · rw [← hσ]; simp [ts_u_app]; rfl
    · rw [← hσ]; simp [ts_u_app]; rfl
    · rw [← hσ]; simp [ts_u_app]; rfl
    · rw [ec (37 + 4) (by omega) (by omega) (by omega), ec (37 + 5) (by omega) (by omega) (by omega)]; exact hb p hp
  unfold wp_X6_readInto_l19
  intro X hX
  generalize hR : prs0 L l = R at hk
  have key : ∀ f i a P T σ', f + i = l → i ≤ a → pfr σ σ' → σ' 1 2 = nI a → a ≤ l → dr σ' P T → wfD P T → emp a P → prs L l f a P T = R → X σ' (nI i) := by
    intro f
    induction f with
    | zero =>
      intro i a P T σ2 hfi hia f2 e2 hal d2 w2 em r2
      apply hX; unfold wp_X6_readInto_b19
      have r2 : .inr (P, T) = R := r2
      rw [← r2] at hk
      have fin := hk σ2 f2 d2 w2
      split
      · exact fin
      · rw [(h.pf f2).1.1, e2, if_pos (nI_le (by omega) (by omega))]; exact fin
    | succ f ih =>
      intro i a P T σ2 hfi hia f2 e2 hal d2 w2 em r2
      apply hX; unfold wp_X6_readInto_b19
      rw [if_neg (by rw [k200]; exact nI_ge (by omega) (by omega)), (h.pf f2).1.1, e2]
      unfold prs at r2
      by_cases c : a < l
      · rw [if_neg (nI_ge c (by omega))]
        rw [if_pos c] at r2
        refine sx_readItem (h.pf f2) e2 c d2 w2 em ?_
        cases ei : itm L l a P T with
        | none =>
          rw [ei] at r2; dsimp only at r2 ⊢
          rw [← r2] at hk
          intro σ3 f3 b3
          simp only [if_pos]
          exact hk σ3 (f2.tr f3) b3
        | some q =>
          rw [ei] at r2; dsimp only at r2 ⊢
          intro σ3 f3 e3 d3 w3
          rw [if_neg (by decide), nI_1]
          have adv := itm_adv c ei
          exact ih (i + 1) q.1 q.2.1 q.2.2 σ3 (by omega) (by omega) (f2.tr f3) e3 adv.2 d3 w3 (fun z => by omega) r2
      · rw [if_pos (nI_le (by omega) (by omega))]
        rw [if_neg c] at r2
        rw [← r2] at hk
        exact hk σ2 f2 d2 w2
  exact key l 0 0 P0 T0 σ1 (by omega) (Nat.le_refl 0) f1 e1 (Nat.zero_le l) d1 wfD0 (fun _ => ⟨rfl, rfl⟩) hR
theorem rX.pf {σ σ' : ts_S} {U : sU} (h : rX σ U) (f : pfr σ σ') (hb : bz σ' 37) : rX σ' U := by
  refine h.keep (fun k hk => f.1 k (by unfold mc at hk; omega)) f.2 (fun i hi => ?_)
  by_cases e : i = 1
  · subst e; exact hb
  · exact (h.bb i hi).same (fun k a b => f.1 k (by omega))
theorem rX.to {σ : ts_S} {U : sU} (h : rX σ U) : txo σ (vl U) (vL U) := ⟨h.tx, h.1.2.2.2.1.1, fun i hi => (h.1.2.2.2.1.2 i hi).2⟩
theorem px_fault {K : Int32 → ts_S → Prop} {σ : ts_S} {U : sU} (h : rX σ U) (hk : ∀ σ', rX σ' U → K (o_fault U) σ') : wp_X9_fault K σ := by
  unfold wp_X9_fault
  refine sx_readInto h.to (h.bb.at T37) ?_
  unfold o_fault at hk
  cases e : prs0 (vL U) (vl U) with
  | inl a =>
    rw [e] at hk; dsimp only at hk ⊢
    exact fun σ1 f1 b1 => hk σ1 (h.pf f1 b1)
  | inr q =>
    rw [e] at hk; dsimp only at hk ⊢
    exact fun σ1 f1 d1 w1 => hk σ1 (h.pf f1 d1.2.2)
/-- the draft becomes the tower; nothing is known of the elder one -/
theorem sx_takeDraft {K : ts_S → Prop} {σ : ts_S} {l : Nat} {L : Nat → Nat} {P : sP} {T : sT} {o : Nat} {A C : Nat → sT} {Z : Nat → Nat × Nat × Bool} (ht : txo σ l L) (h32 : ∀ i, i < l → 32 ≤ L i) (hb : bzA σ) (d : dr σ P T) (wf : wfD P T) (hn : 1 ≤ qn P) (ho : o < 8) (h4 : σ 4 1 = nI o) (hk : ∀ σ', rX σ' (P, T, (l, L), (0, A), (0, C), (0, Z)) → K σ') : wp_X9_takeDraft K σ := by
  have h6 := wf.1.2.2.1
  have hW := wf.1.2.2.2.2.1
  obtain ⟨⟨p1, p2, p3, p4, p5⟩, t1, b1⟩ := d
  unfold wp_X9_takeDraft wp_X2_copyFrom
  rintro _ rfl _ rfl _ rfl _ rfl _ rfl _ rfl
  generalize hσ : (va_up (va_up (va_up (ts_u (ts_u (ts_u σ 23 0 (σ 27 0)) 23 1 (ts_u σ 23 0 (σ 27 0) 27 1)) 23 2 (ts_u (ts_u σ 23 0 (σ 27 0)) 23 1 (ts_u σ 23 0 (σ 27 0) 27 1) 27 2)) (23 + 1) (va_cpy (ts_u (ts_u (ts_u σ 23 0 (σ 27 0)) 23 1 (ts_u σ 23 0 (σ 27 0) 27 1)) 23 2 (ts_u (ts_u σ 23 0 (σ 27 0)) 23 1 (ts_u σ 23 0 (σ 27 0) 27 1) 27 2) (27 + 1)) (ts_u (ts_u (ts_u σ 23 0 (σ 27 0)) 23 1 (ts_u σ 23 0 (σ 27 0) 27 1)) 23 2 (ts_u (ts_u σ 23 0 (σ 27 0)) 23 1 (ts_u σ 23 0 (σ 27 0) 27 1) 27 2) (23 + 1)) 0 0 6)) (23 + 2) _) (23 + 3) _) = σ1
  have ec : ∀ k, k ≠ 23 → k ≠ 24 → k ≠ 25 → k ≠ 26 → σ1 k = σ k := fun k a b c e => by rw [← hσ, ts_up_c (by omega), ts_up_c (by omega), ts_up_c (by omega), ts_u_c a, ts_u_c a, ts_u_c a]
  have r1 : rP σ1 23 P := by
    refine ⟨?_, ?_, ?_, fun p hp => ?_, fun w hw => ⟨?_, ?_⟩⟩
    · rw [← hσ, ts_up_c (by omega), ts_up_c (by omega), ts_up_c (by omega)]; simp [ts_u_app, p1]
    · rw [← hσ, ts_up_c (by omega), ts_up_c (by omega), ts_up_c (by omega)]; simp [ts_u_app, p2]
    · rw [← hσ, ts_up_c (by omega), ts_up_c (by omega), ts_up_c (by omega)]; simp [ts_u_app, p3]
    · rw [← hσ, ts_up_c (by omega), ts_up_c (by omega), ts_up_s, cpy6, if_pos (by omega)]; simp [ts_u_app]; exact p4 p hp
    · rw [← hσ, ts_up_c (by omega), ts_up_s, cpy6, if_pos (by omega)]; simp [ts_u_app, va_up]; exact (p5 w hw).1
    · rw [← hσ, ts_up_s, cpy6, if_pos (by omega)]; simp [ts_u_app, va_up]; exact (p5 w hw).2
  have hb1 : bzA σ1 := fun i hi => (hb i hi).same (fun k a b => ec k (by omega) (by omega) (by omega) (by omega))
  refine sx_standAs T31 T37 (by omega) h6 (t1.same (fun k a b => ec k (by omega) (by omega) (by omega) (by omega))) (hb1.at T37) (fun σ2 f2 rt2 b2 => ?_)
  have hb2 : bzA σ2 := hb1.fr T31 f2 b2
  unfold wp_X1_clear
  rintro _ rfl
  unfold wp_X4_clear
  rintro _ rfl _ rfl
  have e3 : ∀ k, k ≠ 0 → k ≠ 4 → k ≠ 7 → ts_u (ts_u (ts_u σ2 4 2 0) 7 3 0) 0 6 0 k = σ2 k := fun k a b c => by rw [ts_u_c a, ts_u_c c, ts_u_c b]
  have e4 : ∀ k, k ≠ 0 → k ≠ 4 → k ≠ 7 → ¬ (23 ≤ k ∧ k ≤ 26) → (k < 31 ∨ 36 < k) → ts_u (ts_u (ts_u σ2 4 2 0) 7 3 0) 0 6 0 k = σ k := fun k a b c d e => by rw [e3 k a b c, f2 k (by omega), ec k (by omega) (by omega) (by omega) (by omega)]
  refine hk _ ⟨⟨wf.1, hn, ⟨wf.2.1, by show uY T ≤ 999; rw [wf.2.2]; omega⟩, ⟨ht.2.1, fun i hi => ⟨h32 i hi, ht.2.2 i hi⟩⟩, ⟨by show 0 ≤ 8; omega, fun k hk => absurd hk (Nat.not_lt_zero k)⟩, ⟨by show 0 ≤ 2; omega, fun k hk => absurd hk (Nat.not_lt_zero k)⟩, ⟨by show 0 ≤ 6; omega, fun k hk => absurd hk (Nat.not_lt_zero k)⟩⟩, r1.same (fun j a b => by rw [e3 j (by omega) (by omega) (by omega)]; exact f2 j (by omega)), rt2.same (fun j a b => e3 j (by omega) (by omega) (by omega)), fun i hi => (hb2 i hi).same (fun k a b => e3 k (by omega) (by omega) (by omega)), ⟨by rw [e4 1 (by omega) (by omega) (by omega) (by omega) (by omega)]; exact ht.1.1, fun i hi => by rw [e4 2 (by omega) (by omega) (by omega) (by omega) (by omega)]; exact ht.1.2 i hi⟩, ⟨by rw [ts_u_c (by omega), ts_u_c (by omega)]; simp [ts_u_app]; rfl, o, ho, ?_, fun k hk => absurd hk (Nat.not_lt_zero k)⟩, ⟨by simp [ts_u_app]; rfl, fun k hk => absurd hk (Nat.not_lt_zero k)⟩, ⟨by rw [ts_u_c (by omega)]; simp [ts_u_app]; rfl, fun k hk => absurd hk (Nat.not_lt_zero k)⟩⟩
  rw [ts_u_c (by omega), ts_u_c (by omega), ts_u_app]; simp
  rw [f2 4 (by omega), ec 4 (by omega) (by omega) (by omega) (by omega)]; exact h4
theorem prs_lt {L : Nat → Nat} {l : Nat} : ∀ {f a : Nat} {P : sP} {T : sT} {k : Nat}, prs L l f a P T = .inl k → k < l
  | 0, a, P, T, k, h => by cases h
  | f + 1, a, P, T, k, h => by
    unfold prs at h
    by_cases c : a < l
    · rw [if_pos c] at h
      cases e : itm L l a P T with
      | none => rw [e] at h; cases h; exact c
      | some q => rw [e] at h; exact prs_lt h
    · rw [if_neg c] at h; cases h
theorem px_lay {K : Int32 → ts_S → Prop} {σ : ts_S} {U : sU} (h : rX σ U) (hk : ∀ σ', rX σ' (o_lay U).2 → K (o_lay U).1 σ') : wp_X9_lay K σ := by
  unfold wp_X9_lay
  refine sx_readInto h.to (h.bb.at T37) ?_
  unfold o_lay at hk
  cases e : prs0 (vL U) (vl U) with
  | inl a =>
    rw [e] at hk; dsimp only at hk ⊢
    intro σ1 f1 b1
    rw [if_neg (by
      intro z
      have h1 : (nI a).toInt = (-4 : Int32).toInt := by rw [z]
      have : a < 2 ^ 31 := by have := prs_lt e; have := h.1.2.2.2.1.1; omega
      rw [nI_toInt this] at h1
      have : (-4 : Int32).toInt = -4 := rfl
      omega)]
    exact hk σ1 (h.pf f1 b1)
  | inr q =>
    rw [e] at hk; dsimp only at hk ⊢
    intro σ1 f1 d1 w1
    rw [if_pos (by rfl)]
    have hn := w1.1.2.2.1
    rw [show σ1 27 1 = nI (qn q.1) from d1.1.2.1]
    by_cases c : qn q.1 = 0
    · rw [if_pos (by rw [c]; rfl)]
      rw [if_pos c] at hk
      exact hk σ1 (h.pf f1 d1.2.2)
    · rw [if_neg (by rw [k0, eqI (by omega) (by omega)]; exact c)]
      rw [if_neg c] at hk
      obtain ⟨-, o, ho, h2, -⟩ := h.ac
      have h1 := h.pf f1 d1.2.2
      refine sx_takeDraft (A := vA U) (C := vC U) (Z := vZ U) h1.to (fun i hi => (h.1.2.2.2.1.2 i hi).1) h1.bb d1 w1 (by omega) ho (by rw [f1.1 4 (by omega)]; exact h2) (fun σ2 h2 => ?_)
      rw [show σ2 23 1 = _ from h2.xc.n]
      exact hk σ2 h2
