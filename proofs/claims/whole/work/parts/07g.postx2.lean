theorem cr_t {T : sT} {g : Nat → Nat} {p s : Nat} (hg : uG T p = false) : cr T g (p + 1) s = cr T g p s + (if g p = s then 1 else 0) := by
  show cn _ p + (if (!uG T p && decide (g p = s)) then 1 else 0) = _
  rw [hg]
  by_cases e : g p = s <;> simp [e, cr]
theorem cr_f {T : sT} {g : Nat → Nat} {p s : Nat} (hg : uG T p = true) : cr T g (p + 1) s = cr T g p s := by
  show cn _ p + (if (!uG T p && decide (g p = s)) then 1 else 0) = _
  rw [hg]; simp [cr]
theorem sur_congr {P : sP} {T : sT} {g f : Nat → Nat} {p q : Nat} (h : ∀ q, q < p → g q = f q) (hq : q < p) : sur P T g p q = sur P T f p q := by
  unfold sur; rw [h q hq, cr_congr h]
theorem leaf_ok {P : sP} {T : sT} {f : Nat → Nat} (h : exb (sur P T f (qn P)) (qn P) = false) : vld P T f = true ∧ dnm P (tF T f) = cn (fun w => decide (qd P w ≤ cr T f (qn P) (qs P w))) (qW P) := by
  have hs : ∀ q, q < qn P → uG T q = false → fea P (tF T f) (qk P q) q (f q) ≤ uN T q := by
    intro q hq hg
    have h1 : sur P T f (qn P) q = false := by
      cases e : sur P T f (qn P) q
      · rfl
      · have := exb_iff.mpr ⟨q, hq, e⟩; rw [h] at this; cases this
    unfold sur at h1
    rw [hg, wt_n] at h1
    have h2 := of_decide_eq_false (by simpa using h1 : decide (uN T q < fam P (cr T f (qn P) (f q) - 1 + 0) (qk P q) (uA T q) (f q)) = false)
    have h3 := oth_cr (P := P) (g := f) hq hg
    show fam P (oth P (tF T f) q (f q)) (qk P q) (uA T q) (f q) ≤ uN T q
    have h4 : cr T f (qn P) (f q) - 1 + 0 = oth P (tF T f) q (f q) := by omega
    rw [h4] at h2; omega
  refine ⟨alb_iff.mpr (fun q hq => ?_), cn_congr _ (fun w _ => ?_)⟩
  · cases hg : uG T q
    · have := hs q hq hg
      have e : frz P (tF T f) q = false := by
        show (!uG T q && decide (uN T q < fea P (tF T f) (qk P q) q (f q))) = false
        rw [hg]; simp; omega
      rw [e]; rfl
    · have e : frz P (tF T f) q = false := by
        show (!uG T q && _) = false
        rw [hg]; rfl
      rw [e]; rfl
  · show decide (qd P w ≤ cn (fun p => std P (tF T f) p && decide (f p = qs P w)) (qn P)) = _
    have : cn (fun p => std P (tF T f) p && decide (f p = qs P w)) (qn P) = cr T f (qn P) (qs P w) := by
      refine cn_congr _ (fun q hq => ?_)
      cases hg : uG T q
      · have := hs q hq hg
        have e : std P (tF T f) q = true := by
          show (!uG T q && decide (fea P (tF T f) (qk P q) q (f q) ≤ uN T q)) = true
          rw [hg]; simp; omega
        rw [e]; rfl
      · have e : std P (tF T f) q = false := by
          show (!uG T q && _) = false
          rw [hg]; rfl
        rw [e]; rfl
    rw [this]
theorem po.mv {σ σ' : ts_S} {U : sU} {p wv p' wv' : Nat} {g : Nat → Nat} (h : po σ U p wv g) (hX : rX σ' U) (hc : cx σ' 49 (vP U) (tF (vT U) g)) (e12 : σ' 12 = σ 12) (e13 : σ' 13 = σ 13) (h14 : ∀ s, s < 10 → σ' 14 s = nI (cr (vT U) g p' s)) (h11 : σ' 11 4 = nI wv') : po σ' U p' wv' g :=
  ⟨hX, hc, h14, h11, fun q hq hg => by rw [e12]; exact h.2.2.2.2.1 q hq hg, fun w hw => by rw [e13]; exact h.2.2.2.2.2.1 w hw, h.2.2.2.2.2.2⟩
theorem sx_put {K : ts_S → Prop} {F : (ts_S → Prop) → ts_S → Int32 → Prop} {σ : ts_S} {U : sU} {p s k : Nat} {g f : Nat → Nat} {b : Option (Nat × (Nat → Nat))} (hpk : p + (k + 1) = qn (vP U))
    (hF : ∀ (K : ts_S → Prop) (σ : ts_S) (g f : Nat → Nat) (b : Option (Nat × (Nat → Nat))), po σ U (p + 1) (wt (vP U) (vT U) (p + 1)) g → (∀ q, q < p + 1 → g q = f q) → rPo σ U b → (∀ σ' g', po σ' U (p + 1) (wt (vP U) (vT U) (p + 1)) g' → (∀ q, q < p + 1 → g' q = f q) → rPo σ' U (pst (vP U) (vT U) k (p + 1) f b) → K σ') → F K σ (nI (p + 1)))
    (h : po σ U p (wt (vP U) (vT U) (p + 1)) g) (hfg : ∀ q, q < p → g q = f q) (hb : rPo σ U b) (hg0 : uG (vT U) p = false) (hs : s < qH (vP U)) (hk : ∀ σ' g', po σ' U p (wt (vP U) (vT U) (p + 1)) g' → (∀ q, q < p → g' q = f q) → rPo σ' U (pst (vP U) (vT U) k (p + 1) (fu f p s) b) → K σ') : wp_X3_put F K σ (nI p) (nI s) := by
  have hpo := h
  obtain ⟨hX, hc, h14, h11, h12, h13, hgo⟩ := h
  have h6 := hX.xc.n6
  have h10 := hX.xc.h10
  have hp : p < qn (vP U) := by omega
  unfold wp_X3_put
  refine ⟨in6 hp h6, ?_⟩
  rintro _ rfl
  have hin10 : vp_in (nI s) 10 := vp_in_nI (by omega) (by omega)
  refine ⟨hin10, hin10, ?_⟩
  rintro _ rfl
  rw [cl6 hp h6, nI_clamp (by omega), nI_1, ts_u_c (a := 14) (by omega), h14 s (by omega), nI_1]
  obtain ⟨f1, c1, b1⟩ := cx_setS T49 hc (hX.bb.at T49) hp hs
  have X1 : rX (ts_u σ 50 p (nI s)) U := hX.keepT T49 (by omega) f1 b1
  have c1 : cx (ts_u σ 50 p (nI s)) 49 (vP U) (tF (vT U) (fu g p s)) := c1
  have hcrp : ∀ s', cr (vT U) (fu g p s) p s' = cr (vT U) g p s' := fun s' => cr_congr (fun q hq => fu_ne (by omega)) s'
  refine hF _ _ (fu g p s) (fu f p s) b ⟨X1.kS (by omega), c1.kS (by omega) (by omega), fun s' hs' => ?_, by rw [ts_u_c (by omega), ts_u_c (by omega)]; exact h11, fun q hq hgq => by rw [ts_u_c (by omega), ts_u_c (by omega)]; exact h12 q hq hgq, fun w hw => by rw [ts_u_c (by omega), ts_u_c (by omega)]; exact h13 w hw, fun q hq hgq => ?_⟩ (fun q hq => ?_) ?_ (fun σ2 g2 p2 a2 r2 => ?_)
  · rw [cr_t hg0, hcrp, fu_same, ts_u_app]
    by_cases e : s' = s
    · subst e; simp
    · have e2 : ¬ s = s' := fun z => e z.symm
      rw [if_neg (fun z => e z.2), if_neg e2, ts_u_c (by omega), h14 s' hs', Nat.add_zero]
  · rw [fu_ne (by intro z; subst z; rw [hg0] at hgq; cases hgq)]; exact hgo q hq hgq
  · by_cases e : q = p
    · subst e; rw [fu_same, fu_same]
    · rw [fu_ne e, fu_ne e]; exact hfg q (by omega)
  · cases b with
    | none => show _ = _; rw [ts_u_c (by omega), ts_u_c (by omega)]; exact hb
    | some q => exact ⟨by rw [ts_u_c (by omega), ts_u_c (by omega)]; exact hb.1, hb.2.1, fun i hi => by rw [ts_u_c (by omega), ts_u_c (by omega)]; exact hb.2.2 i hi⟩
  · refine ⟨hin10, hin10, ?_⟩
    rintro _ rfl
    have hg2p : g2 p = s := by rw [a2 p (by omega), fu_same]
    have e14 : σ2 14 s = nI (cr (vT U) g2 p s + 1) := by rw [p2.2.2.1 s (by omega), cr_t hg0, if_pos hg2p]
    rw [e14, nI_pred]
    refine hk _ g2 (p2.mv (p2.1.kS (by omega)) (p2.2.1.kS (by omega) (by omega)) (ts_u_c (by omega)) (ts_u_c (by omega)) (fun s' hs' => ?_) (by rw [ts_u_c (by omega)]; exact p2.2.2.2.1)) (fun q hq => by rw [a2 q (by omega), fu_ne (by omega)]) ?_
    · rw [ts_u_app]
      by_cases e : s' = s
      · subst e; simp
      · rw [if_neg (fun z => e z.2), p2.2.2.1 s' hs', cr_t hg0, if_neg (by rw [hg2p]; exact fun z => e z.symm), Nat.add_zero]
    · generalize pst (vP U) (vT U) k (p + 1) (fu f p s) b = bb at r2 ⊢
      cases bb with
      | none => show _ = _; rw [ts_u_c (by omega)]; exact r2
      | some q => exact ⟨by rw [ts_u_c (by omega)]; exact r2.1, r2.2.1, fun i hi => by rw [ts_u_c (by omega)]; exact r2.2.2 i hi⟩
theorem sx_putFrom {U : sU} : ∀ (d : Nat) (K : ts_S → Prop) (σ : ts_S) (p : Nat) (g f : Nat → Nat) (b : Option (Nat × (Nat → Nat))), p ≤ qn (vP U) → qn (vP U) - p < d → po σ U p (wt (vP U) (vT U) p) g → (∀ q, q < p → g q = f q) → rPo σ U b → (∀ σ' g', po σ' U p (wt (vP U) (vT U) p) g' → (∀ q, q < p → g' q = f q) → rPo σ' U (pst (vP U) (vT U) (qn (vP U) - p) p f b) → K σ') → wp_X3_putFrom d K σ (nI p)
  | 0, _, _, _, _, _, _, _, hd, _, _, _, _ => absurd hd (Nat.not_lt_zero _)
  | d + 1, K, σ, p, g, f, b, hp, hd, h, hfg, hb, hk => by
    show wp_X3_putFrom_0 (wp_X3_putFrom d) K σ (nI p)
    have hX := h.1
    have h6 := hX.xc.n6
    have h5 := hX.xc.W5
    have h10 := hX.xc.h10
    have wf := hX.xc.2.2.1
    have hw6 : wt (vP U) (vT U) p ≤ 6 := Nat.le_trans (cn_le _ _) h6
    unfold wp_X3_putFrom_0
    refine sx_mostInReach h (by omega) hw6 ?_
    have hcr : cr (vT U) g p = cr (vT U) f p := funext (cr_congr hfg)
    rw [hcr, show (gO (prw (vP U) (cr (vT U) f p)) (qW (vP U)) (wt (vP U) (vT U) p) 5).2 = mir (vP U) (vT U) f p from rfl]
    have hm : mir (vP U) (vT U) f p ≤ 5 * qW (vP U) := (gO_le _ _ _ 5).2
    have stop : pst (vP U) (vT U) (qn (vP U) - p) p f b = b → K σ := fun e => hk σ g h hfg (by rw [e]; exact hb)
    have go : wp_X3_isSurelyFrozenBefore (fun r22 s23 => if (r22 : Int32) = 0 then (if (nI p : Int32) < (s23 23 1) then ((vp_in (nI p) 6) ∧ (if (s23 53 (nI p).toNatClampNeg : Int32) = 0 then (∀ s24 : ts_S, s24 = ts_u s23 11 4 ((s23 11 4) - 1) → (wp_X3_putFrom_0_l75 (wp_X3_putFrom d) K (nI p) s24 0)) else (wp_X3_putFrom d (fun s26 => K s26) s23 (nI p + 1)))) else (wp_X3_takeIfBetter (fun s28 => K s28) s23 )) else (K s23)) σ (nI p) := by
      refine sx_surely h hp ?_
      have hse : exb (sur (vP U) (vT U) g p) p = exb (sur (vP U) (vT U) f p) p := by
        apply Bool.eq_iff_iff.mpr
        rw [exb_iff, exb_iff]
        constructor
        · rintro ⟨q, a1, a2⟩; exact ⟨q, a1, by rw [← sur_congr hfg a1]; exact a2⟩
        · rintro ⟨q, a1, a2⟩; exact ⟨q, a1, by rw [sur_congr hfg a1]; exact a2⟩
      rw [hse]
      cases ds : exb (sur (vP U) (vT U) f p) p
      · simp only [itB0]
        by_cases e : p = qn (vP U)
        · subst e
          rw [show σ 23 1 = _ from hX.xc.n, if_neg (nI_nlt (Nat.le_refl _) (by omega))]
          obtain ⟨l1, l2⟩ := leaf_ok ds
          rw [wt_n] at h
          refine sx_takePost h hfg hb l1 (by rw [l2]; exact cn_congr _ (fun w _ => by rw [cr_congr hfg])) (fun σ2 p2 r2 => ?_)
          rw [Nat.sub_self] at hk
          exact hk σ2 g (by rw [wt_n]; exact p2) hfg r2
        · have hlt : p < qn (vP U) := by omega
          obtain ⟨k, hk1⟩ : ∃ k, qn (vP U) - p = k + 1 := ⟨qn (vP U) - p - 1, by omega⟩
          have hk2 : qn (vP U) - (p + 1) = k := by omega
          rw [hk1] at hk
          rw [show σ 23 1 = _ from hX.xc.n, if_pos (nI_lt hlt (by omega)), cl6 hlt h6]
          refine ⟨in6 hlt h6, ?_⟩
          rw [show σ 53 p = nB (uG (vT U) p) from h.2.1.go hlt]
          have hF : ∀ (K : ts_S → Prop) (σ : ts_S) (g f : Nat → Nat) (b : Option (Nat × (Nat → Nat))), po σ U (p + 1) (wt (vP U) (vT U) (p + 1)) g → (∀ q, q < p + 1 → g q = f q) → rPo σ U b → (∀ σ' g', po σ' U (p + 1) (wt (vP U) (vT U) (p + 1)) g' → (∀ q, q < p + 1 → g' q = f q) → rPo σ' U (pst (vP U) (vT U) k (p + 1) f b) → K σ') → wp_X3_putFrom d K σ (nI (p + 1)) := by
            intro K σ g f b y1 y2 y3 y4
            refine sx_putFrom d K σ (p + 1) g f b (by omega) (by omega) y1 y2 y3 ?_
            rw [hk2]; exact y4
          cases dg : uG (vT U) p
          · simp only [itB0]
            rintro _ rfl
            have hw1 := wt_t (P := vP U) hlt dg
            rw [h.2.2.2.1, hw1, nI_pred]
            generalize hf : (fun (s : Nat) (b : Option (Nat × (Nat → Nat))) => if al (vP U) (vT U) p s then pst (vP U) (vT U) k (p + 1) (fu f p s) b else b) = fn
            have hk : ∀ σ' g', po σ' U p (wt (vP U) (vT U) p) g' → (∀ q, q < p → g' q = f q) → rPo σ' U (fdl fn (qH (vP U)) b) → K σ' := by rw [← hf]; exact hk
            unfold wp_X3_putFrom_0_l75
            intro X hXx
            have main : ∀ σ' g', po σ' U p (wt (vP U) (vT U) (p + 1)) g' → (∀ q, q < p → g' q = f q) → rPo σ' U (fdl fn 0 b) → X σ' (nI 0) := by
              refine ts_down (P := fun s => ∀ σ' g', po σ' U p (wt (vP U) (vT U) (p + 1)) g' → (∀ q, q < p → g' q = f q) → rPo σ' U (fdl fn s b) → X σ' (nI s)) (qH (vP U)) ?_ ?_
              · intro σ2 g2 p2 a2 r2
                apply hXx; unfold wp_X3_putFrom_0_b75
                rw [show σ2 23 0 = _ from p2.1.xc.h, if_pos (nI_le (Nat.le_refl _) (by omega))]
                rintro _ rfl
                rw [p2.2.2.2.1, nI_1, ← hw1]
                refine hk _ g2 (p2.mv p2.1.k11 (p2.2.1.kS (by omega) (by omega)) (ts_u_c (by omega)) (ts_u_c (by omega)) (fun s hs => by rw [ts_u_c (by omega)]; exact p2.2.2.1 s hs) (by simp [ts_u_app])) a2 ?_
                generalize fdl fn (qH (vP U)) b = bb at r2 ⊢
                cases bb with
                | none => show _ = _; rw [ts_u_app]; simp; exact r2
                | some q => exact ⟨by rw [ts_u_app]; simp; exact r2.1, r2.2.1, fun i hi => by rw [ts_u_c (by omega)]; exact r2.2.2 i hi⟩
              · intro s hs ih σ2 g2 p2 a2 r2
                apply hXx; unfold wp_X3_putFrom_0_b75
                rw [show σ2 23 0 = _ from p2.1.xc.h, if_neg (nI_ge hs (by omega)), cl6 hlt h6, p2.2.2.2.2.1 p hlt dg]
                refine ⟨in6 hlt h6, ?_⟩
                have hbl := bs_lt (plb (vP U) (vT U) p) (qH (vP U))
                have hbl2 : bs (plb (vP U) (vT U) p) (qH (vP U)) < 1024 := Nat.lt_of_lt_of_le hbl (Nat.pow_le_pow_right (n := 2) (by omega) h10)
                refine sx_hasBit hbl2 (by omega) ?_
                rw [bs_bit, decide_eq_true hs, Bool.true_and]
                have hnext : fdl fn (s + 1) b = if al (vP U) (vT U) p s then pst (vP U) (vT U) k (p + 1) (fu f p s) (fdl fn s b) else fdl fn s b := by
                  show fn s (fdl fn s b) = _
                  rw [← hf]
                cases db : plb (vP U) (vT U) p s
                · simp only [itB0, nI_1]
                  refine ih σ2 g2 p2 a2 ?_
                  rw [hnext]
                  cases da : al (vP U) (vT U) p s
                  · exact r2
                  · simp only [↓reduceIte]
                    rw [pst_plb (by omega) dg da db]; exact r2
                · simp only [itB1, nI_1]
                  have da : al (vP U) (vT U) p s = true := by unfold plb at db; rw [Bool.and_eq_true] at db; exact db.1
                  refine sx_put (by omega) hF p2 a2 r2 dg hs (fun σ3 g3 p3 a3 r3 => ih σ3 g3 p3 a3 ?_)
                  rw [hnext, da]; exact r3
            refine main _ g (h.mv hX.k11 (h.2.1.kS (by omega) (by omega)) (ts_u_c (by omega)) (ts_u_c (by omega)) (fun s hs => by rw [ts_u_c (by omega)]; exact h.2.2.1 s hs) (by simp [ts_u_app])) hfg ?_
            cases b with
            | none => show ts_u σ 11 4 _ 11 6 = -1; rw [ts_u_app]; simp; exact hb
            | some q => exact ⟨by rw [ts_u_app]; simp; exact hb.1, hb.2.1, fun i hi => by rw [ts_u_c (by omega)]; exact hb.2.2 i hi⟩
          · simp only [itB1]
            rw [nI_1]
            have hw1 := wt_f (P := vP U) dg
            have hsp := hX.xc.sH hlt
            rw [pst_gone dg hsp] at hk
            refine hF _ σ g (fu f p (uS (vT U) p)) b (h.mv hX h.2.1 rfl rfl (fun s hs => by rw [cr_f dg]; exact h.2.2.1 s hs) (by rw [← hw1]; exact h.2.2.2.1)) (fun q hq => ?_) hb (fun σ2 g2 p2 a2 r2 => ?_)
            · by_cases e2 : q = p
              · subst e2; rw [fu_same]; exact h.2.2.2.2.2.2 q hlt dg
              · rw [fu_ne e2]; exact hfg q (by omega)
            · refine hk σ2 g2 (p2.mv p2.1 p2.2.1 rfl rfl (fun s hs => by rw [← cr_f dg]; exact p2.2.2.1 s hs) (by rw [hw1]; exact p2.2.2.2.1)) (fun q hq => by rw [a2 q (by omega), fu_ne (by omega)]) r2
      · simp only [itB1]
        obtain ⟨q, q1, q2⟩ := exb_iff.mp ds
        exact stop (pst_sur (by omega) q1 q2)
    cases b with
    | none =>
      rw [show σ 11 6 = -1 from hb, if_neg (nI_m1 (by omega))]; exact go
    | some q =>
      rw [hb.1]
      have hq5 := hb.2.1
      by_cases e : mir (vP U) (vT U) f p ≤ q.1
      · rw [if_pos (nI_le e (by omega))]
        exact stop (pst_mir wf (by omega) e)
      · rw [if_neg (nI_ge (by omega) (by omega))]; exact go
