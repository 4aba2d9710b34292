/-! the class's calls, third group: nerves, kinds, decade, keep, back, count, likely -/
theorem alb_iff {f : Nat → Bool} : ∀ {n : Nat}, alb f n = true ↔ ∀ i, i < n → f i = true
  | 0 => by simp [alb]
  | n + 1 => by
    unfold alb
    rw [Bool.and_eq_true, alb_iff]
    constructor
    · rintro ⟨h1, h2⟩ i hi
      by_cases e : i = n
      · rw [e]; exact h2
      · exact h1 i (by omega)
    · intro h; exact ⟨fun i hi => h i (by omega), h n (by omega)⟩
theorem alb_false {f : Nat → Bool} {n i : Nat} (hi : i < n) (h : f i = false) : alb f n = false := by
  cases e : alb f n
  · rfl
  · have := alb_iff.mp e i hi; rw [h] at this; cases this
theorem sx_wouldHold {K : Int32 → ts_S → Prop} {σ : ts_S} {U : sU} {p kd nv : Nat} (h : rX σ U) (hp : p < qn (vP U)) (hkd : kd < 4) (hnv : nv ≤ 30) (hk : K (nB (hld U p kd nv)) σ) : wp_X4_wouldHold K σ 31 (nI p) (nI kd) (nI nv) := by
  have hz : vz U ≤ 6 := h.1.2.2.2.2.2.2.1
  have h6 := h.xc.n6
  obtain ⟨s1, s2⟩ := h.se
  unfold wp_X4_wouldHold wp_X4_wouldHold_l3
  intro X hX
  have main : alb (fun i => !decide ((vZ U i).1 = p) || (decide (nv < fea (vP U) (vT U) kd p (vZ U i).2.1) == (vZ U i).2.2)) 0 = true → X σ (nI 0) := by
    refine ts_down (P := fun i => alb (fun i => !decide ((vZ U i).1 = p) || (decide (nv < fea (vP U) (vT U) kd p (vZ U i).2.1) == (vZ U i).2.2)) i = true → X σ (nI i)) (vz U) ?_ ?_
    · intro ha
      apply hX; unfold wp_X4_wouldHold_b3
      rw [s1, if_pos (nI_le (Nat.le_refl _) (by omega))]
      rw [show hld U p kd nv = true from ha] at hk
      exact ⟨zb1, hk⟩
    · intro i hi ih ha
      apply hX; unfold wp_X4_wouldHold_b3
      obtain ⟨q1, q2, q3⟩ := s2 i hi
      obtain ⟨w1, w2⟩ := h.1.2.2.2.2.2.2.2 i hi
      rw [s1, if_neg (nI_ge hi (by omega)), nI_clamp (by omega), q1, q2]
      have hin : vp_in (nI i) 6 := vp_in_nI (by omega) (by omega)
      refine ⟨hin, ?_⟩
      by_cases d : (vZ U i).1 = p
      · rw [if_pos (by rw [d])]
        refine ⟨hin, sx_fearAs h.xc hkd hp w2 ?_⟩
        have hf := fea_le h.xc.2.2.1 h.xc.2.2.2 kd p (vZ U i).2.1 hp
        have j46 : ∀ b : Bool, b = decide (nv < fea (vP U) (vT U) kd p (vZ U i).2.1) → wp_X4_wouldHold_j46 K X 31 (nI p) (nI kd) (nI nv) σ (nI i) (nB b) := by
          intro b hb
          unfold wp_X4_wouldHold_j46
          refine ⟨hin, ?_⟩
          rw [nI_clamp (by omega), q3]
          by_cases e : b = (vZ U i).2.2
          · rw [if_pos (by rw [e]), nI_1]
            refine ih ?_
            unfold alb; rw [ha]; simp [d, ← hb, e]
          · rw [if_neg (by cases b <;> cases h3 : (vZ U i).2.2 <;> simp_all <;> decide)]
            have : hld U p kd nv = false := alb_false hi (by simp [d, ← hb, e])
            rw [this] at hk
            exact ⟨zb0, hk⟩
        by_cases dn : fea (vP U) (vT U) kd p (vZ U i).2.1 ≤ nv
        · rw [if_pos (nI_le dn (by omega))]; exact j46 false (by simp; omega)
        · rw [if_neg (nI_ge (by omega) (by omega))]; exact j46 true (by simp; omega)
      · have hb := h.1.2.2.2.2.2.2.2 i hi
        rw [if_neg (by rw [eqI (by omega) (by omega)]; exact d), nI_1]
        refine ih ?_
        unfold alb; rw [ha]; simp [d]
  exact main rfl
theorem px_nerves {K : Int32 → ts_S → Prop} {σ : ts_S} {U : sU} {a b : Int32} (h : rX σ U) (hk : K (o_nerves U a b) σ) : wp_X9_nerves K σ a b := by
  unfold wp_X9_nerves
  refine sx_isPerson h ?_
  unfold o_nerves at hk
  cases dp : isP U a <;> rw [dp] at hk
  · simp only [itB0]; exact hk
  simp only [itB1]
  refine sx_within ?_
  rw [show decide ((0 : Int32) ≤ b ∧ b ≤ 1) = win b 0 1 from rfl]
  cases dc : win b 0 1 <;> rw [dc] at hk
  · simp only [itB0]; exact hk
  simp only [itB1]
  obtain ⟨p, hp, e1, e2⟩ := isP_get h.1 dp
  have h6 := h.xc.n6
  rw [e2] at hk; rw [e1]
  unfold wp_X9_nerves_l29
  intro X hX
  refine ts_down (P := fun k => X σ (nI (nrv (fun v => hld U p (qk (vP U) p) v) k).1) (nrv (fun v => hld U p (qk (vP U) p) v) k).2 (nI 30 - nI k)) 31 ?_ ?_
  · apply hX; unfold wp_X9_nerves_b29
    rw [if_pos (by decide)]
    by_cases d0 : b = 0
    · rw [if_pos d0]; simp only [d0, Bool.and_self, ↓reduceIte] at hk; exact hk
    · rw [if_neg d0]; simp only [d0, Bool.and_self, ↓reduceIte] at hk; exact hk
  · intro k hk2 ih
    apply hX; unfold wp_X9_nerves_b29
    rw [pk_sub (by omega), if_neg (by rw [k0]; exact nI_nlt (by omega) (by omega))]
    refine ⟨in6 hp h6, ?_⟩
    rw [cl6 hp h6, show σ 24 p = _ from h.xc.kd hp]
    refine sx_wouldHold h hp (h.xc.k4 hp) (by omega) ?_
    have e3 : nI (30 - k) + (-1) = nI 30 - nI (k + 1) := by
      have : ∀ k : Fin 31, nI (30 - k.1) + (-1) = nI 30 - nI (k.1 + 1) := by decide +kernel
      exact this ⟨k, hk2⟩
    unfold nrv at ih
    cases d : hld U p (qk (vP U) p) (30 - k) <;> rw [d] at ih
    · simp only [itB0]; rw [e3]; exact ih
    · simp only [itB1]; rw [e3, nI_1]; exact ih
theorem px_kinds {K : Int32 → ts_S → Prop} {σ : ts_S} {U : sU} {a : Int32} (h : rX σ U) (hk : K (o_kinds U a) σ) : wp_X9_kinds K σ a := by
  unfold wp_X9_kinds
  refine sx_isPerson h ?_
  unfold o_kinds at hk
  cases dp : isP U a <;> rw [dp] at hk
  · simp only [itB0]; exact hk
  simp only [itB1]
  obtain ⟨p, hp, e1, e2⟩ := isP_get h.1 dp
  have h6 := h.xc.n6
  have hn := h.xc.n30 hp
  rw [e2] at hk; rw [e1]
  unfold wp_X9_kinds_l14
  intro X hX
  refine ts_down (P := fun i => X σ (nI (bs (fun kd => hld U p kd (uN (vT U) p)) i)) (nI i)) 4 ?_ ?_
  · apply hX; unfold wp_X9_kinds_b14
    rw [if_pos (by decide)]; exact hk
  · intro i hi ih
    apply hX; unfold wp_X9_kinds_b14
    rw [if_neg (by rw [k4]; exact nI_ge (by omega) (by omega))]
    refine ⟨in6 hp h6, ?_⟩
    rw [cl6 hp h6, show σ 34 p = _ from h.xc.ne hp]
    refine sx_wouldHold h hp (by omega) hn ?_
    have hb := bs_64 (fun kd => hld U p kd (uN (vT U) p)) (show i ≤ 6 by omega)
    cases d : hld U p i (uN (vT U) p)
    · rw [bs_f (f := fun kd => hld U p kd (uN (vT U) p)) d] at ih; simp only [itB0, nI_1]; exact ih
    · rw [bs_t (f := fun kd => hld U p kd (uN (vT U) p)) d] at ih; rw [bt_or i (by omega) _ (by omega)]; simp only [itB1, nI_1]; exact ih
theorem sx_drawOf {K : Int32 → ts_S → Prop} {σ : ts_S} {z i : Nat} (hz : z ≤ 9999) (hi : i ≤ 60) (hk : K (nI (drw z i)) σ) : wp_X9_drawOf K σ (nI z) (nI i) := by
  unfold wp_X9_drawOf
  refine ⟨by decide, by decide, ?_⟩
  have e1 : ((7919 * (nI z).toInt64) + (6151 * (nI i).toInt64)) + 1 = lN (7919 * z + 6151 * i + 1) := by
    rw [nI_l (by omega), nI_l (by omega), show (7919 : Int64) = lN 7919 from rfl, show (6151 : Int64) = lN 6151 from rfl, lN_mul, lN_mul, lN_add, lN_1]
  rw [e1, lN_mul]
  have hb : 7919 * z + 6151 * i + 1 < 80000000 := by omega
  generalize hw : 7919 * z + 6151 * i + 1 = w at hb
  have hww : w * w < 2 ^ 63 := by
    have : w * w < 80000000 * 80000000 := Nat.mul_lt_mul'' hb hb
    omega
  rw [show (65521 : Int64) = lN 65521 from rfl, show (2 : Int64) = lN 2 from rfl, pk_lRem hww (by omega) (by omega)]
  have hm : w * w % 65521 < 65521 := Nat.mod_lt _ (by omega)
  rw [pk_lDiv (by omega) (by omega) (by omega), lN_i]
  unfold drw at hk
  rw [hw] at hk
  exact hk
theorem drw_lt (z i : Nat) : drw z i < 32761 := by
  unfold drw
  have : (7919 * z + 6151 * i + 1) * (7919 * z + 6151 * i + 1) % 65521 < 65521 := Nat.mod_lt _ (by omega)
  omega
theorem tAct_Y (P : sP) (T : sT) (d : Nat) : uY (tAct P T d) = uY T := by
  unfold tAct tA4
  repeat' split
  all_goals rfl
theorem dcd_Y (P : sP) (T : sT) (z : Nat) : ∀ k, uY (dcd P T z k) = uY T + k
  | 0 => rfl
  | k + 1 => by show uY (tAct P (dcd P T z k) (drw z k)) + 1 = _; rw [tAct_Y, dcd_Y P T z k]; omega
theorem px_decade {K : Int32 → ts_S → Prop} {σ : ts_S} {U : sU} {a b c : Int32} (h : rX σ U) (hk : ∀ σ', rX σ' U → K (o_decade U a b c) σ') : wp_X9_decade K σ a b c := by
  unfold wp_X9_decade
  refine sx_within ?_
  rw [show decide ((0 : Int32) ≤ a ∧ a ≤ 9999) = win a 0 9999 from rfl]
  unfold o_decade at hk
  cases dw : win a 0 9999 <;> rw [dw] at hk
  · simp only [itB0]; exact hk σ h
  simp only [itB1]
  refine sx_within ?_
  rw [show decide ((1 : Int32) ≤ b ∧ b ≤ 60) = win b 1 60 from rfl]
  cases db : win b 1 60 <;> rw [db] at hk
  · simp only [itB0]; exact hk σ h
  simp only [itB1]
  refine sx_within ?_
  rw [show decide ((0 : Int32) ≤ c ∧ c ≤ 2) = win c 0 2 from rfl]
  cases dc : win c 0 2 <;> rw [dc] at hk
  · simp only [itB0]; exact hk σ h
  simp only [itB1]
  obtain ⟨z, h1, h2, e1, e2⟩ := win_iff (lo := 0) (hi := 9999) dw (by omega) (by omega)
  obtain ⟨n, h3, h4, e3, e4⟩ := win_iff (lo := 1) (hi := 60) db (by omega) (by omega)
  have hy : uY (vT U) ≤ 999 := h.1.2.2.1.2
  rw [e2, e4] at hk; rw [e1, e3]
  refine sx_trial h (fun σ1 hX1 hc1 => ?_)
  unfold wp_X9_decade_l46
  intro X hX
  have main : ∀ σ', rX σ' U → cx σ' 43 (vP U) (dcd (vP U) (vT U) z 0) → X σ' (nI 0) := by
    refine ts_down (P := fun i => ∀ σ', rX σ' U → cx σ' 43 (vP U) (dcd (vP U) (vT U) z i) → X σ' (nI i)) n ?_ ?_
    · intro σ2 hX2 hc
      apply hX; unfold wp_X9_decade_b46
      rw [if_pos (nI_le (Nat.le_refl _) (by omega))]
      simp only [Bool.and_self, ↓reduceIte] at hk
      by_cases d0 : c = 0
      · rw [if_pos d0]; simp only [d0, ↓reduceIte] at hk; exact sx_goneMany hc (hk σ2 hX2)
      rw [if_neg d0]; simp only [d0, ↓reduceIte] at hk
      by_cases d1 : c = 1
      · rw [if_pos d1]; simp only [d1, ↓reduceIte] at hk; exact sx_doneMany hc (hk σ2 hX2)
      rw [if_neg d1]; simp only [d1, ↓reduceIte] at hk; exact sx_stepsTogether hc (hk σ2 hX2)
    · intro i hi ih σ2 hX2 hc
      apply hX; unfold wp_X9_decade_b46
      rw [if_neg (nI_ge hi (by omega))]
      refine sx_drawOf h2 (by omega) ?_
      refine sx_actBy T43 hc (hX2.bb.at T43) h.1.2.1 (by have := drw_lt z i; omega) (fun σ3 hf hc3 hb3 => ?_)
      have hX3 := hX2.keepT T43 (by omega) hf hb3
      refine sx_goYear T43 hc3 hb3 (by rw [tAct_Y, dcd_Y]; omega) (fun σ4 hf4 hc4 hb4 => ?_)
      rw [nI_1]
      exact ih σ4 (hX3.keepT T43 (by omega) hf4 hb4) hc4
  exact main σ1 hX1 hc1
theorem keT {k : Nat} (h : k < 2) : tX_T (61 + 6 * k) := ⟨5 + k, by omega, by omega⟩
theorem px_keep {K : Int32 → ts_S → Prop} {σ : ts_S} {U : sU} (h : rX σ U) (hk : ∀ σ', rX σ' (o_keep U).2 → K (o_keep U).1 σ') : wp_X9_keep K σ := by
  obtain ⟨h1, h2⟩ := h.ke
  have hc2 : vc U ≤ 2 := h.1.2.2.2.2.2.1.1
  unfold wp_X9_keep
  unfold o_keep at hk
  rw [h1]
  by_cases d : vc U < 2
  · rw [if_pos (by rw [k2]; exact nI_lt d (by omega))]
    simp only [d, ↓reduceIte] at hk
    refine ⟨vp_in_nI d (by omega), ?_⟩
    rw [nI_clamp (by omega)]
    refine sx_standAs (keT d) T31 (by omega) h.xc.n6 h.xc.2.1 (h.bb.at T31) (fun σ1 hf hT hb => ?_)
    have ec : ∀ k, (k < 61 ∨ 72 < k) → σ1 k = σ k := fun k hk => hf k (by omega)
    rintro _ rfl
    rw [ec 0 (by omega), h1, nI_1, ts_u_app]
    simp only [and_self, ↓reduceIte]
    have hbA : bzA σ1 := h.bb.fr (keT d) hf hb
    have es : ∀ k, k ≠ 0 → ts_u σ1 0 6 (nI (vc U + 1)) k = σ1 k := fun k hk => ts_u_c hk
    refine hk _ ⟨⟨h.1.1, h.1.2.1, h.1.2.2.1, h.1.2.2.2.1, h.1.2.2.2.2.1, ⟨by show vc U + 1 ≤ 2; omega, fun k hk => ?_⟩, h.1.2.2.2.2.2.2⟩, h.2.1.same (fun j a b => by rw [es j (by omega), ec j (by omega)]), h.2.2.1.same (fun j a b => by rw [es j (by omega), ec j (by omega)]), fun i hi => (hbA i hi).same (fun k a b => es k (by omega)), ⟨by rw [es 1 (by omega), ec 1 (by omega)]; exact h.tx.1, fun i hi => by rw [es 2 (by omega), ec 2 (by omega)]; exact h.tx.2 i hi⟩, h.ac.same (by rw [es 4 (by omega), ec 4 (by omega)]) (fun k a b => by rw [es k (by omega), ec k (by omega)]), ⟨by rw [ts_u_app]; simp; rfl, fun k hk => ?_⟩, h.se.same (fun k a b => by rw [es k (by omega), ec k (by omega)])⟩
    · show wfR _ (fu (vC U) (vc U) (vT U) k)
      have hk : k < vc U + 1 := hk
      unfold fu; split
      · exact h.1.2.2.1
      · exact h.1.2.2.2.2.2.1.2 k (by omega)
    · show rT _ _ _ (fu (vC U) (vc U) (vT U) k)
      have hk : k < vc U + 1 := hk
      refine rT.same ?_ (fun j a b => es j (by omega))
      unfold fu
      by_cases e : k = vc U
      · rw [if_pos e, e]; exact hT
      · rw [if_neg e]; exact (h2 k (by omega)).same (fun j a b => hf j (by omega))
  · rw [if_neg (by rw [k2]; exact nI_nlt (by omega) (by omega))]
    simp only [d, ↓reduceIte] at hk
    exact hk σ h
theorem px_back {K : Int32 → ts_S → Prop} {σ : ts_S} {U : sU} (h : rX σ U) (hk : ∀ σ', rX σ' (o_back U).2 → K (o_back U).1 σ') : wp_X9_back K σ := by
  obtain ⟨h1, h2⟩ := h.ke
  have hc2 : vc U ≤ 2 := h.1.2.2.2.2.2.1.1
  unfold wp_X9_back
  unfold o_back at hk
  rw [h1]
  by_cases d : vc U = 0
  · rw [if_neg (by rw [d]; decide)]
    simp only [d, ↓reduceIte] at hk
    exact hk σ h
  · rw [if_pos (by rw [k0]; exact nI_lt (by omega) (by omega))]
    simp only [d, ↓reduceIte] at hk
    rintro _ rfl
    have e0 : ts_u σ 0 6 (nI (vc U) - 1) 0 6 = nI (vc U - 1) := by rw [ts_u_app, k1, pk_sub (by omega)]; simp
    rw [e0, nI_clamp (by omega)]
    refine ⟨vp_in_nI (by omega) (by omega), ?_⟩
    generalize hσ : ts_u σ 0 6 (nI (vc U) - 1) = σ1 at e0
    have ec : ∀ k, k ≠ 0 → σ1 k = σ k := fun k hk => by rw [← hσ]; exact ts_u_c hk
    have kt : tX_T (61 + 6 * (vc U - 1)) := keT (by omega)
    have hb1 : bzA σ1 := fun i hi => (h.bb i hi).same (fun k a b => ec k (by omega))
    have hT : rT σ1 (61 + 6 * (vc U - 1)) (qn (vP U)) (vC U (vc U - 1)) := (h2 (vc U - 1) (by omega)).same (fun j a b => ec j (by omega))
    refine sx_standAs T31 kt (by omega) h.xc.n6 hT (hb1.at kt) (fun σ2 hf hT2 hb => ?_)
    have e2 : ∀ k, k < 31 ∨ 36 < k → σ2 k = σ1 k := fun k hk => hf k (by omega)
    unfold wp_X1_clear
    rintro _ rfl
    rw [ts_u_c (a := 0) (by omega), e2 0 (by omega), e0]
    have hbA : bzA σ2 := hb1.fr T31 hf hb
    have es : ∀ k, k ≠ 4 → ts_u σ2 4 2 0 k = σ2 k := fun k hk => ts_u_c hk
    have et : ∀ k, k ≠ 0 → k ≠ 4 → (k < 31 ∨ 36 < k) → ts_u σ2 4 2 0 k = σ k := fun k a b c => by rw [es k b, e2 k c, ec k a]
    obtain ⟨a1, o, ho, a2, a3⟩ := h.ac
    refine hk _ ⟨⟨h.1.1, h.1.2.1, h.1.2.2.2.2.2.1.2 (vc U - 1) (by omega), h.1.2.2.2.1, ⟨by show 0 ≤ 8; omega, fun k hk => absurd hk (Nat.not_lt_zero k)⟩, ⟨by show vc U - 1 ≤ 2; omega, fun k hk => h.1.2.2.2.2.2.1.2 k (by have : k < vc U - 1 := hk; omega)⟩, h.1.2.2.2.2.2.2⟩, h.2.1.same (fun j a b => et j (by omega) (by omega) (by omega)), hT2.same (fun j a b => es j (by omega)), fun i hi => (hbA i hi).same (fun k a b => es k (by omega)), ⟨by rw [et 1 (by omega) (by omega) (by omega)]; exact h.tx.1, fun i hi => by rw [et 2 (by omega) (by omega) (by omega)]; exact h.tx.2 i hi⟩, ⟨by rw [ts_u_app]; simp; rfl, o, ho, by rw [ts_u_app]; simp [e2 4 (by omega), ec 4 (by omega), a2], fun k hk => absurd hk (Nat.not_lt_zero k)⟩, ⟨by rw [es 0 (by omega), e2 0 (by omega)]; exact e0, fun k hk => ?_⟩, h.se.same (fun k a b => et k (by omega) (by omega) (by omega))⟩
    have hk : k < vc U - 1 := hk
    exact (h2 k (by omega)).same (fun j a b => et j (by omega) (by omega) (by omega))
