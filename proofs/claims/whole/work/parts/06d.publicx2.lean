/-! the class's calls, second group: acts, what comes, seen, kept -/
theorem wfR.of {P : sP} {T : sT} (h : wfT P T) (hy : uY T ≤ 999) : wfR P T := ⟨h, hy⟩
theorem yrs_Y {P : sP} {T : sT} : ∀ i, uY (yrs P i T) = uY T + i
  | 0 => rfl
  | i + 1 => by show uY (yrs P i T) + 1 = _; rw [yrs_Y i]; omega
theorem rX.xc' {σ : ts_S} {U : sU} {a : Nat × (Nat → sT)} (h : rX σ (wAc U a)) : cx σ 31 (vP U) (vT U) := h.xc
theorem px_pass {K : Int32 → ts_S → Prop} {σ : ts_S} {U : sU} {a : Int32} (h : rX σ U) (hk : ∀ σ', rX σ' (o_pass U a).2 → K (o_pass U a).1 σ') : wp_X9_pass K σ a := by
  unfold wp_X9_pass
  refine sx_within ?_
  rw [show decide ((1 : Int32) ≤ a ∧ a ≤ 40) = win a 1 40 from rfl]
  unfold o_pass at hk
  cases dw : win a 1 40 <;> rw [dw] at hk
  · simp only [itB0]; exact hk σ h
  · simp only [itB1]
    obtain ⟨n, h1, h2, e1, e2⟩ := win_iff (lo := 1) (hi := 40) dw (by omega) (by omega)
    rw [e2] at hk; rw [e1]
    have hy : uY (vT U) ≤ 999 := h.1.2.2.1.2
    rw [show σ 31 6 = _ from h.xc.yr, nI_add]
    by_cases d : uY (vT U) + n ≤ 999
    · rw [if_pos (by rw [k999]; exact nI_le d (by omega))]
      simp only [d, Bool.true_eq_false, ↓reduceIte] at hk
      refine sx_add h (fun σ1 hX1 => ?_)
      refine sx_goYears T31 hX1.xc' (hX1.bb.at T31) n (by omega) (by omega) (fun σ2 hf hc hb => ?_)
      rw [show σ2 31 6 = _ from hc.yr, yrs_Y]
      exact hk σ2 (hX1.setT hf hc.2.1 ⟨hc.2.2.2, by rw [yrs_Y]; exact d⟩ hb)
    · rw [if_neg (by rw [k999]; exact nI_ge (by omega) (by omega))]
      simp only [d, Bool.true_eq_false, ↓reduceIte] at hk
      exact hk σ h
theorem px_promote {K : Int32 → ts_S → Prop} {σ : ts_S} {U : sU} {a : Int32} (h : rX σ U) (hk : ∀ σ', rX σ' (o_promote U a).2 → K (o_promote U a).1 σ') : wp_X9_promote K σ a := by
  unfold wp_X9_promote
  refine sx_isPerson h ?_
  unfold o_promote at hk
  cases dp : isP U a <;> rw [dp] at hk
  · simp only [itB0]; exact hk σ h
  · simp only [itB1]
    obtain ⟨p, hp, e1, e2⟩ := isP_get h.1 dp
    have h6 := h.xc.n6
    rw [e2] at hk; rw [e1]
    refine sx_mayGoDown h.xc hp ?_
    cases dd : (decide (0 < uS (vT U) p) && std (vP U) (vT U) p) <;> rw [dd] at hk
    · simp only [itB0]; exact hk σ h
    · simp only [itB1]
      refine sx_add h (fun σ1 hX1 => ?_)
      have h0 : 0 < uS (vT U) p := by simp at dd; exact dd.1
      refine sx_goDown T31 hX1.xc' (hX1.bb.at T31) hp h0 (fun σ2 hf hc hb => ?_)
      refine ⟨in6 hp h6, ?_⟩
      rw [cl6 hp h6, show σ2 32 p = _ from hc.st hp, show uS (tS (vT U) p (uS (vT U) p - 1)) p = uS (vT U) p - 1 by simp [tS, uS, fu]]
      exact hk σ2 (hX1.setT hf hc.2.1 ⟨hc.2.2.2, h.1.2.2.1.2⟩ hb)
theorem px_hoist {K : Int32 → ts_S → Prop} {σ : ts_S} {U : sU} {a : Int32} (h : rX σ U) (hk : ∀ σ', rX σ' (o_hoist U a).2 → K (o_hoist U a).1 σ') : wp_X9_hoist K σ a := by
  unfold wp_X9_hoist
  refine sx_isPerson h ?_
  unfold o_hoist at hk
  cases dp : isP U a <;> rw [dp] at hk
  · simp only [itB0]; exact hk σ h
  · simp only [itB1]
    obtain ⟨p, hp, e1, e2⟩ := isP_get h.1 dp
    have h6 := h.xc.n6
    rw [e2] at hk; rw [e1]
    refine sx_mayGoUp h.xc hp ?_
    cases dd : (decide (uS (vT U) p + 1 < qH (vP U)) && !uG (vT U) p) <;> rw [dd] at hk
    · simp only [itB0]; exact hk σ h
    · simp only [itB1]
      refine sx_add h (fun σ1 hX1 => ?_)
      have h0 : uS (vT U) p + 1 < qH (vP U) := by simp at dd; exact dd.1
      refine sx_goUp T31 hX1.xc' (hX1.bb.at T31) hp h0 (fun σ2 hf hc hb => ?_)
      refine ⟨in6 hp h6, ?_⟩
      rw [cl6 hp h6, show σ2 32 p = _ from hc.st hp, show uS (tS (vT U) p (uS (vT U) p + 1)) p = uS (vT U) p + 1 by simp [tS, uS, fu]]
      exact hk σ2 (hX1.setT hf hc.2.1 ⟨hc.2.2.2, h.1.2.2.1.2⟩ hb)
theorem px_call {K : Int32 → ts_S → Prop} {σ : ts_S} {U : sU} {a : Int32} (h : rX σ U) (hk : ∀ σ', rX σ' (o_call U a).2 → K (o_call U a).1 σ') : wp_X9_call K σ a := by
  unfold wp_X9_call
  refine sx_isPerson h ?_
  unfold o_call at hk
  cases dp : isP U a <;> rw [dp] at hk
  · simp only [itB0]; exact hk σ h
  · simp only [itB1]
    obtain ⟨p, hp, e1, e2⟩ := isP_get h.1 dp
    have h6 := h.xc.n6
    rw [e2] at hk; rw [e1]
    refine sx_mayBeCalled h.xc hp ?_
    cases dd : (!uG (vT U) p && !uC (vT U) p) <;> rw [dd] at hk
    · simp only [itB0]; exact hk σ h
    · simp only [itB1]
      refine sx_add h (fun σ1 hX1 => ?_)
      refine sx_hearCall T31 hX1.xc' (hX1.bb.at T31) hp (fun σ2 hf hc hb => ?_)
      refine ⟨in6 hp h6, ?_⟩
      rw [cl6 hp h6, show σ2 34 p = _ from hc.ne hp, show uN (tCl (vP U) (vT U) p) p = min (uN (vT U) p + cls (vP U) (vT U) p) 30 by simp [tCl, uN, fu]]
      exact hk σ2 (hX1.setT hf hc.2.1 ⟨hc.2.2.2, h.1.2.2.1.2⟩ hb)
theorem px_undo {K : Int32 → ts_S → Prop} {σ : ts_S} {U : sU} (h : rX σ U) (hk : ∀ σ', rX σ' (o_undo U).2 → K (o_undo U).1 σ') : wp_X9_undo K σ := by
  obtain ⟨h1, o, ho, h2, h3⟩ := h.ac
  have hm : vm U ≤ 8 := h.1.2.2.2.2.1.1
  have h6 := h.xc.n6
  unfold wp_X9_undo
  unfold o_undo at hk
  rw [h1]
  by_cases d : vm U = 0
  · rw [if_pos (by rw [d]; rfl)]; simp only [d, ↓reduceIte] at hk; exact hk σ h
  · rw [if_neg (by rw [k0, eqI (by omega) (by omega)]; exact d)]
    simp only [d, ↓reduceIte] at hk
    unfold wp_X1_takeLastInto
    rw [h1, if_neg (by rw [k0]; exact nI_ge (by omega) (by omega))]
    rintro _ rfl
    refine ⟨by decide, ?_⟩
    have e2 : ts_u σ 4 2 (nI (vm U) - 1) 4 1 = nI o := by rw [ts_u_app]; simp [h2]
    have e3 : ts_u σ 4 2 (nI (vm U) - 1) 4 2 = nI (vm U - 1) := by rw [ts_u_app, k1, pk_sub (by omega)]; simp
    rw [e2, e3, nI_add, mod8 (by omega), nI_clamp (by omega)]
    refine ⟨vp_in_nI (Nat.mod_lt _ (by omega)) (by omega), ?_⟩
    generalize hσ : ts_u σ 4 2 (nI (vm U) - 1) = σ1 at e2 e3
    have ec : ∀ k, k ≠ 4 → σ1 k = σ k := fun k hk => by rw [← hσ]; exact ts_u_c hk
    have hX1 : rX σ1 (wAc U (vm U - 1, vA U)) := by
      refine ⟨⟨h.1.1, h.1.2.1, h.1.2.2.1, h.1.2.2.2.1, ⟨by show vm U - 1 ≤ 8; omega, fun k hk => h.1.2.2.2.2.1.2 k (by have : k < vm U - 1 := hk; omega)⟩, h.1.2.2.2.2.2⟩, h.2.1.same (fun j a b => ec j (by omega)), h.2.2.1.same (fun j a b => ec j (by omega)), fun i hi => (h.bb i hi).same (fun k a b => ec k (by omega)), ⟨by rw [ec 1 (by omega)]; exact h.tx.1, fun i hi => by rw [ec 2 (by omega)]; exact h.tx.2 i hi⟩, ⟨e3, o, ho, e2, fun k hk => (h3 k (by have : k < vm U - 1 := hk; omega)).same (fun j a b => ec j (by omega))⟩, h.ke.same h.1.2.2.2.2.2.1.1 (by rw [ec 0 (by omega)]) (fun k a b => ec k (by omega)), h.se.same (fun k a b => ec k (by omega))⟩
    have hT : rT σ1 (73 + 6 * ((o + (vm U - 1)) % 8)) (qn (vP U)) (vA U (vm U - 1)) := (h3 (vm U - 1) (by omega)).same (fun j a b => ec j (by omega))
    refine sx_standAs T31 row8 (by omega) h6 hT (hX1.bb.at row8) (fun σ2 hf hT2 hb => ?_)
    show K (σ2 4 2) σ2
    rw [show σ2 4 = σ1 4 from hf 4 (by omega), e3]
    exact hk σ2 (hX1.setT hf hT2 (h.1.2.2.2.2.1.2 (vm U - 1) (by omega)) hb)
theorem sx_trial {K : ts_S → Prop} {σ : ts_S} {U : sU} (h : rX σ U) (hk : ∀ σ', rX σ' U → cx σ' 43 (vP U) (vT U) → K σ') : wp_X8_standAs K σ 43 31 := by
  refine sx_standAs T43 T31 (by omega) h.xc.n6 h.xc.2.1 (h.bb.at T31) (fun σ1 hf hT hb => ?_)
  exact hk σ1 (h.keepT T43 (by omega) hf hb) ⟨h.xc.1.fr (by omega) (by decide) hf, hT, h.xc.2.2.1, h.xc.2.2.2⟩
theorem px_behind {K : Int32 → ts_S → Prop} {σ : ts_S} {U : sU} {a b c : Int32} (h : rX σ U) (hk : ∀ σ', rX σ' U → K (o_behind U a b c) σ') : wp_X9_behind K σ a b c := by
  unfold wp_X9_behind
  refine sx_within ?_
  rw [show decide ((0 : Int32) ≤ a ∧ a ≤ 40) = win a 0 40 from rfl]
  unfold o_behind at hk
  cases dw : win a 0 40 <;> rw [dw] at hk
  · simp only [itB0]; exact hk σ h
  simp only [itB1]
  refine sx_isPerson h ?_
  cases dp : isP U b <;> rw [dp] at hk
  · simp only [itB0]; exact hk σ h
  simp only [itB1]
  refine sx_within ?_
  rw [show decide ((0 : Int32) ≤ c ∧ c ≤ 1) = win c 0 1 from rfl]
  cases dc : win c 0 1 <;> rw [dc] at hk
  · simp only [itB0]; exact hk σ h
  simp only [itB1]
  obtain ⟨n, h1, h2, e1, e2⟩ := win_iff (lo := 0) (hi := 40) dw (by omega) (by omega)
  obtain ⟨p, hp, e3, e4⟩ := isP_get h.1 dp
  have h6 := h.xc.n6
  have hy : uY (vT U) ≤ 999 := h.1.2.2.1.2
  rw [e2, e4] at hk; rw [e1, e3]
  refine sx_trial h (fun σ1 hX1 hc1 => ?_)
  refine sx_goYears T43 hc1 (hX1.bb.at T43) n (by omega) (by omega) (fun σ2 hf hc hb => ?_)
  have hX2 := hX1.keepT T43 (by omega) hf hb
  rw [cl6 hp h6]
  by_cases d0 : c = 0
  · rw [if_pos d0]
    simp only [d0, Bool.and_self, ↓reduceIte] at hk
    refine ⟨in6 hp h6, ?_⟩
    rw [show σ2 47 p = _ from hc.go hp]; exact sx_asNumber (hk σ2 hX2)
  · rw [if_neg d0]
    simp only [d0, Bool.and_self, ↓reduceIte] at hk
    refine ⟨in6 hp h6, ?_⟩
    rw [show σ2 46 p = _ from hc.ne hp]; exact hk σ2 hX2
theorem px_lowest {K : Int32 → ts_S → Prop} {σ : ts_S} {U : sU} {a : Int32} (h : rX σ U) (hk : K (o_lowest U a) σ) : wp_X9_lowest K σ a := by
  unfold wp_X9_lowest
  refine sx_isPerson h ?_
  unfold o_lowest at hk
  cases dp : isP U a <;> rw [dp] at hk
  · simp only [itB0]; exact hk
  simp only [itB1]
  obtain ⟨p, hp, e1, e2⟩ := isP_get h.1 dp
  have h6 := h.xc.n6
  rw [e2] at hk; rw [e1]
  refine sx_isSteady h.xc hp ?_
  cases ds : std (vP U) (vT U) p <;> rw [ds] at hk
  · simp only [itB0]; exact hk
  simp only [itB1]
  refine ⟨in6 hp h6, ?_⟩
  rw [cl6 hp h6, show σ 32 p = _ from h.xc.st hp]
  simp only [Bool.true_eq_false, ↓reduceIte] at hk
  unfold wp_X9_lowest_l34
  intro X hX
  have hn := h.xc.n30 hp
  have h10 := h.xc.h10
  have key : ∀ s, s < qH (vP U) → K (nI (low (vP U) (vT U) p s)) σ → X σ (nI s) := by
    intro s
    induction s with
    | zero =>
      intro _ hk
      apply hX; unfold wp_X9_lowest_b34
      rw [if_pos (by decide)]; exact hk
    | succ s ih =>
      intro hs hk
      apply hX; unfold wp_X9_lowest_b34
      rw [if_neg (by rw [k0]; exact nI_ge (by omega) (by omega)), nI_pred]
      have hf := fea_le h.xc.2.2.1 h.xc.2.2.2 (qk (vP U) p) p s hp
      refine sx_fearOn h.xc hp (by omega) ?_
      refine ⟨in6 hp h6, ?_⟩
      rw [cl6 hp h6, show σ 34 p = _ from h.xc.ne hp]
      unfold low at hk
      by_cases d : fea (vP U) (vT U) (qk (vP U) p) p s ≤ uN (vT U) p
      · rw [if_neg (nI_nlt d (by omega)), pk_m1]
        rw [if_pos d] at hk
        exact ih (by omega) hk
      · rw [if_pos (nI_lt (by omega) (by omega))]
        rw [if_neg d] at hk
        exact hk
  exact key _ (h.xc.sH hp) hk
theorem sx_seenAdd {K : Int32 → ts_S → Prop} {σ : ts_S} {U : sU} {p s : Nat} {b : Bool} (h : rX σ U) (hp : p < qn (vP U)) (hs : s < qH (vP U)) (hk : ∀ σ', (if vz U < 6 then rX σ' (wSe U (vz U + 1, fu (vZ U) (vz U) (p, s, b))) else σ' = σ) → K (nB (decide (vz U < 6))) σ') : wp_X4_add K σ (nI p) (nI s) (nB b) := by
  have hz : vz U ≤ 6 := h.1.2.2.2.2.2.2.1
  obtain ⟨s1, s2⟩ := h.se
  unfold wp_X4_add
  rw [s1]
  by_cases d : vz U < 6
  · rw [if_pos (by rw [k6]; exact nI_lt d (by omega))]
    simp only [d, ↓reduceIte, decide_true] at hk
    have hin : vp_in (nI (vz U)) 6 := vp_in_nI d (by omega)
    refine ⟨hin, ?_⟩
    rintro _ rfl
    rw [ts_u_c (a := 7) (by omega), s1]
    refine ⟨hin, ?_⟩
    rintro _ rfl
    rw [ts_u_c (a := 7) (by omega), ts_u_c (a := 7) (by omega), s1]
    refine ⟨hin, ?_⟩
    rintro _ rfl _ rfl
    rw [ts_u_c (a := 7) (by omega), ts_u_c (a := 7) (by omega), ts_u_c (a := 7) (by omega), s1, nI_1, nI_clamp (by omega), narZB]
    refine ⟨zb1, hk _ ?_⟩
    have ec : ∀ k, (k < 7 ∨ 10 < k) → ts_u (ts_u (ts_u (ts_u σ 8 (vz U) (nI p)) 9 (vz U) (nI s)) 10 (vz U) (nB b)) 7 3 (nI (vz U + 1)) k = σ k := fun k hk => by rw [ts_u_c (by omega), ts_u_c (by omega), ts_u_c (by omega), ts_u_c (by omega)]
    refine ⟨⟨h.1.1, h.1.2.1, h.1.2.2.1, h.1.2.2.2.1, h.1.2.2.2.2.1, h.1.2.2.2.2.2.1, ⟨by show vz U + 1 ≤ 6; omega, fun i hi => ?_⟩⟩, h.2.1.same (fun j a b => ec j (by omega)), h.2.2.1.same (fun j a b => ec j (by omega)), fun i hi => (h.bb i hi).same (fun k a b => ec k (by omega)), ⟨by rw [ec 1 (by omega)]; exact h.tx.1, fun i hi => by rw [ec 2 (by omega)]; exact h.tx.2 i hi⟩, h.ac.same (ec 4 (by omega)) (fun k a b => ec k (by omega)), h.ke.same h.1.2.2.2.2.2.1.1 (by rw [ec 0 (by omega)]) (fun k a b => ec k (by omega)), ⟨by simp [ts_u_app]; rfl, fun i hi => ?_⟩⟩
    · show (fu (vZ U) (vz U) (p, s, b) i).1 < _ ∧ (fu (vZ U) (vz U) (p, s, b) i).2.1 < _
      have hi : i < vz U + 1 := hi
      unfold fu; split
      · exact ⟨hp, hs⟩
      · exact h.1.2.2.2.2.2.2.2 i (by omega)
    · show _ = nI (fu (vZ U) (vz U) (p, s, b) i).1 ∧ _ = nI (fu (vZ U) (vz U) (p, s, b) i).2.1 ∧ _ = nB (fu (vZ U) (vz U) (p, s, b) i).2.2
      have hi : i < vz U + 1 := hi
      unfold fu
      by_cases e : i = vz U
      · simp [ts_u_app, e]
      · obtain ⟨q1, q2, q3⟩ := s2 i (by omega)
        simp [ts_u_app, e, q1, q2, q3]
  · rw [if_neg (by rw [k6]; exact nI_nlt (by omega) (by omega))]
    simp only [d, ↓reduceIte, decide_false] at hk
    exact ⟨zb0, hk _ rfl⟩
theorem px_seen {K : Int32 → ts_S → Prop} {σ : ts_S} {U : sU} {a b c : Int32} (h : rX σ U) (hk : ∀ σ', rX σ' (o_seen U a b c).2 → K (o_seen U a b c).1 σ') : wp_X9_seen K σ a b c := by
  unfold wp_X9_seen
  refine sx_isPerson h ?_
  unfold o_seen at hk
  cases dp : isP U a <;> rw [dp] at hk
  · simp only [itB0]; exact hk σ h
  simp only [itB1]
  refine sx_isStep h ?_
  cases ds : isS U b <;> rw [ds] at hk
  · simp only [itB0]; exact hk σ h
  simp only [itB1]
  refine sx_within ?_
  rw [show decide ((0 : Int32) ≤ c ∧ c ≤ 1) = win c 0 1 from rfl]
  cases dc : win c 0 1 <;> rw [dc] at hk
  · simp only [itB0]; exact hk σ h
  simp only [itB1]
  obtain ⟨p, hp, e1, e2⟩ := isP_get h.1 dp
  obtain ⟨s, hs, e3, e4⟩ := isS_get h.1 ds
  rw [e2, e4] at hk; rw [e1, e3]
  have key : ∀ bb : Bool, bb = decide (c = 1) → wp_X9_seen_j43 K (nI p) (nI s) c σ (nB bb) (nI s) (nI p) := by
    intro bb hb
    unfold wp_X9_seen_j43
    refine sx_seenAdd h hp hs (fun σ' h' => ?_)
    by_cases d : vz U < 6
    · simp only [d, ↓reduceIte, decide_true, itB1, Bool.and_self, ← hb] at h' hk ⊢
      rw [h'.se.1]; exact hk σ' h'
    · simp only [d, ↓reduceIte, decide_false, itB0, Bool.and_self] at h' hk ⊢
      rw [h']; exact hk σ h
  by_cases d1 : c = 1
  · rw [if_pos d1]; exact key true (by simp [d1])
  · rw [if_neg d1]; exact key false (by simp [d1])
theorem px_forget {K : Int32 → ts_S → Prop} {σ : ts_S} {U : sU} (h : rX σ U) (hk : ∀ σ', rX σ' (o_forget U).2 → K (o_forget U).1 σ') : wp_X9_forget K σ := by
  unfold wp_X9_forget wp_X4_clear
  rintro _ rfl
  rw [h.se.1]
  refine hk _ ⟨⟨h.1.1, h.1.2.1, h.1.2.2.1, h.1.2.2.2.1, h.1.2.2.2.2.1, h.1.2.2.2.2.2.1, ⟨by show 0 ≤ 6; omega, fun i hi => absurd hi (Nat.not_lt_zero i)⟩⟩, h.2.1.same (fun j a b => ts_u_c (by omega)), h.2.2.1.same (fun j a b => ts_u_c (by omega)), fun i hi => (h.bb i hi).same (fun k a b => ts_u_c (by omega)), ⟨by rw [ts_u_c (by omega)]; exact h.tx.1, fun i hi => by rw [ts_u_c (by omega)]; exact h.tx.2 i hi⟩, h.ac.same (ts_u_c (by omega)) (fun k a b => ts_u_c (by omega)), h.ke.same h.1.2.2.2.2.2.1.1 (by rw [ts_u_c (by omega)]) (fun k a b => ts_u_c (by omega)), ⟨by simp [ts_u_app]; rfl, fun i hi => absurd hi (Nat.not_lt_zero i)⟩⟩
