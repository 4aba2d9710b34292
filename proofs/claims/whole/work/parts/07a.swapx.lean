/-! swap: every two are tried -/
def bet (b : Option (Nat × Nat)) (n c : Nat) : Option (Nat × Nat) := match b with
  | none => some (n, c)
  | some q => if q.1 < n then some (n, c) else some q
def swT (T : sT) (p q : Nat) : sT := (uY T, fu (fu (uS T) p (uS T q)) q (uS T p), uA T, uN T, uG T, uC T)
def swQ (P : sP) (T : sT) (p q : Nat) (b : Option (Nat × Nat)) : Option (Nat × Nat) := if !uG T p && (!uG T q && !decide (uS T p = uS T q)) then bet b (dnm P (swT T p q)) (10 * p + q) else b
def swI (P : sP) (T : sT) (p : Nat) (b : Option (Nat × Nat)) : Nat → Option (Nat × Nat)
  | 0 => b
  | k + 1 => swQ P T p (p + 1 + k) (swI P T p b k)
def swO (P : sP) (T : sT) : Nat → Option (Nat × Nat)
  | 0 => none
  | p + 1 => swI P T p (swO P T p) (qn P - (p + 1))
def o_swap (U : sU) (a : Int32) : Int32 := if win a 0 1 then (match swO (vP U) (vT U) (qn (vP U)) with
  | none => -4
  | some q => if a = 0 then nI q.2 else nI q.1) else -1
theorem swT_swT {T : sT} {p q : Nat} (h : p ≠ q) : swT (swT T p q) p q = T := by
  have : fu (fu (uS (swT T p q)) p (uS (swT T p q) q)) q (uS (swT T p q) p) = uS T := by
    funext i
    show fu (fu (fu (fu (uS T) p (uS T q)) q (uS T p)) p (fu (fu (uS T) p (uS T q)) q (uS T p) q)) q (fu (fu (uS T) p (uS T q)) q (uS T p) p) i = uS T i
    unfold fu
    by_cases h1 : i = q
    · simp [h1, h]
    · by_cases h2 : i = p
      · simp [h2, h]
      · simp [h1, h2]
  unfold swT at *
  rw [this]
  rfl
def rSw (σ : ts_S) (b : Option (Nat × Nat)) : Prop := match b with
  | none => σ 20 2 = -1
  | some q => σ 20 2 = nI q.1 ∧ σ 20 1 = nI q.2 ∧ q.1 ≤ 5 ∧ q.2 < 1000
theorem nI_m1 {n : Nat} (h : n < 1000000) : ¬ nI n ≤ -1 := by
  rw [i32_le, nI_toInt (by omega), show (-1 : Int32).toInt = -1 from rfl]; omega
theorem T55 : tX_T 55 := ⟨4, by omega, rfl⟩
theorem sx_changePlaces {K : ts_S → Prop} {σ : ts_S} {P : sP} {T : sT} {p q : Nat} (c : cx σ 55 P T) (hb : bz σ 55) (hp : p < qn P) (hq : q < qn P) (hne : p ≠ q) (hk : ∀ σ', fr σ σ' 55 → cx σ' 55 P (swT T p q) → bz σ' 55 → K σ') : wp_X5_changePlaces K σ (nI p) (nI q) := by
  have h6 := c.n6
  unfold wp_X5_changePlaces
  refine ⟨in6 hp h6, in6 hq h6, in6 hp h6, ?_⟩
  rintro _ rfl
  refine ⟨in6 hq h6, ?_⟩
  rintro _ rfl
  rw [cl6 hp h6, cl6 hq h6, show σ 56 p = _ from c.st hp, show σ 56 q = _ from c.st hq]
  obtain ⟨f1, c1, b1⟩ := cx_setS T55 c hb hp (c.sH hq)
  obtain ⟨f2, c2, b2⟩ := cx_setS T55 c1 b1 hq (c.sH hp)
  exact hk _ (f1.tr f2) c2 b2
theorem sx_takeSwap {K : ts_S → Prop} {σ : ts_S} {U : sU} {p q : Nat} {b : Option (Nat × Nat)} (h : rX σ U) (c : cx σ 55 (vP U) (vT U)) (hs : rSw σ b) (hp : p < qn (vP U)) (hq : q < qn (vP U)) (hne : p ≠ q) (hk : ∀ σ', rX σ' U → cx σ' 55 (vP U) (vT U) → rSw σ' (bet b (dnm (vP U) (swT (vT U) p q)) (10 * p + q)) → K σ') : wp_X5_takeIfBetter K σ (nI p) (nI q) := by
  unfold wp_X5_takeIfBetter
  refine sx_changePlaces c (h.bb.at T55) hp hq hne (fun σ1 f1 c1 b1 => ?_)
  refine sx_doneMany c1 ?_
  refine sx_changePlaces c1 b1 hp hq hne (fun σ2 f2 c2 b2 => ?_)
  rw [swT_swT hne] at c2
  have h2 : rX σ2 U := h.keepT T55 (by omega) (f1.tr f2) b2
  have e20 : σ2 20 = σ 20 := (f1.tr f2) 20 (by omega)
  have hd := dnm_le (vP U) (swT (vT U) p q)
  have h5 := h.xc.W5
  have h6 := h.xc.n6
  generalize hn : dnm (vP U) (swT (vT U) p q) = n at hk hd ⊢
  have step : ∀ σ', σ' = ts_u (ts_u σ2 20 2 (nI n)) 20 1 (nI (10 * p + q)) → rX σ' U ∧ cx σ' 55 (vP U) (vT U) ∧ rSw σ' (some (n, 10 * p + q)) := by
    rintro σ' rfl
    have ec : ∀ k, k ≠ 20 → ts_u (ts_u σ2 20 2 (nI n)) 20 1 (nI (10 * p + q)) k = σ2 k := fun k hk => by rw [ts_u_c hk, ts_u_c hk]
    refine ⟨h2.keep (fun k hk => ec k (by unfold mc at hk; omega)) (by rw [ec 1 (by omega)]) (fun i hi => (h2.bb i hi).same (fun k a b => ec k (by omega))), ⟨c2.1.same (fun j a b => ec j (by have : tX_pl 55 = 23 := rfl; omega)), c2.2.1.same (fun j a b => ec j (by omega)), c2.2.2⟩, ?_⟩
    refine ⟨by simp [ts_u_app], by simp [ts_u_app], by omega, by show 10 * p + q < 1000; omega⟩
  rw [e20]
  cases b with
  | none =>
    rw [show σ 20 2 = -1 from hs, if_neg (nI_m1 (by omega))]
    intro s1 e1 s2 e2
    subst e1
    obtain ⟨a1, a2, a3⟩ := step s2 (by rw [e2, k10, pk_mul, nI_add])
    exact hk s2 a1 a2 a3
  | some m =>
    obtain ⟨m1, m2, m3, m4⟩ := hs
    rw [m1]
    by_cases d : n ≤ m.1
    · rw [if_pos (nI_le d (by omega))]
      refine hk σ2 h2 c2 ?_
      have : ¬ m.1 < n := by omega
      simp only [bet, this, ↓reduceIte]
      exact ⟨by rw [e20]; exact m1, by rw [e20]; exact m2, m3, m4⟩
    · rw [if_neg (nI_ge (by omega) (by omega))]
      intro s1 e1 s2 e2
      subst e1
      obtain ⟨a1, a2, a3⟩ := step s2 (by rw [e2, k10, pk_mul, nI_add])
      have : m.1 < n := by omega
      refine hk s2 a1 a2 ?_
      simp only [bet, this, ↓reduceIte]
      exact a3
theorem sx_swapSearch {K : ts_S → Prop} {σ : ts_S} {U : sU} (h : rX σ U) (hk : ∀ σ', rX σ' U → rSw σ' (swO (vP U) (vT U) (qn (vP U))) → K σ') : wp_X5_search K σ 31 := by
  unfold wp_X5_search
  rintro _ rfl
  have h6 := h.xc.n6
  have ec : ∀ k, k ≠ 20 → ts_u σ 20 2 (-1) k = σ k := fun k hk => ts_u_c hk
  have h1 : rX (ts_u σ 20 2 (-1)) U := h.keep (fun k hk => ec k (by unfold mc at hk; omega)) (by rw [ec 1 (by omega)]) (fun i hi => (h.bb i hi).same (fun k a b => ec k (by omega)))
  refine sx_standAs T55 T31 (by omega) h6 h1.xc.2.1 (h1.bb.at T31) (fun σ1 hf hT hb => ?_)
  have h2 : rX σ1 U := h1.keepT T55 (by omega) hf hb
  have c2 : cx σ1 55 (vP U) (vT U) := ⟨h1.xc.1.fr (by omega) (by decide) hf, hT, h.xc.2.2.1, h.xc.2.2.2⟩
  have s2 : rSw σ1 none := by show σ1 20 2 = -1; rw [hf 20 (by omega)]; simp [ts_u_app]
  unfold wp_X5_search_l15
  intro X hX
  have main : ∀ σ', rX σ' U → cx σ' 55 (vP U) (vT U) → rSw σ' (swO (vP U) (vT U) 0) → X σ' (nI 0) := by
    refine ts_down (P := fun i => ∀ σ', rX σ' U → cx σ' 55 (vP U) (vT U) → rSw σ' (swO (vP U) (vT U) i) → X σ' (nI i)) (qn (vP U)) ?_ ?_
    · intro σ3 h3 c3 s3
      apply hX; unfold wp_X5_search_b15
      rw [show σ3 23 1 = _ from h3.xc.n, if_pos (nI_le (Nat.le_refl _) (by omega))]
      exact hk σ3 h3 s3
    · intro p hp ih σ3 h3 c3 s3
      apply hX; unfold wp_X5_search_b15
      rw [show σ3 23 1 = _ from h3.xc.n, if_neg (nI_ge hp (by omega)), nI_1]
      unfold wp_X5_search_l33
      intro X2 hX2
      have inner : ∀ σ', rX σ' U → cx σ' 55 (vP U) (vT U) → rSw σ' (swI (vP U) (vT U) p (swO (vP U) (vT U) p) 0) → X2 σ' (nI (p + 1 + 0)) := by
        refine ts_down (P := fun k => ∀ σ', rX σ' U → cx σ' 55 (vP U) (vT U) → rSw σ' (swI (vP U) (vT U) p (swO (vP U) (vT U) p) k) → X2 σ' (nI (p + 1 + k))) (qn (vP U) - (p + 1)) ?_ ?_
        · intro σ4 h4 c4 s4
          apply hX2; unfold wp_X5_search_b33
          rw [show σ4 23 1 = _ from h4.xc.n, if_pos (nI_le (by omega) (by omega)), nI_1]
          exact ih σ4 h4 c4 s4
        · intro k hk4 ih4 σ4 h4 c4 s4
          apply hX2; unfold wp_X5_search_b33
          have hq : p + 1 + k < qn (vP U) := by omega
          generalize hqq : p + 1 + k = q at hq
          rw [show σ4 23 1 = _ from h4.xc.n, if_neg (nI_ge hq (by omega)), cl6 hp h6, cl6 hq h6]
          refine ⟨in6 hp h6, ?_⟩
          rw [show σ4 59 p = _ from c4.go hp, show σ4 59 q = _ from c4.go hq, show σ4 56 p = _ from c4.st hp, show σ4 56 q = _ from c4.st hq, nI_1]
          have ih5 : ∀ σ', rX σ' U → cx σ' 55 (vP U) (vT U) → rSw σ' (swQ (vP U) (vT U) p q (swI (vP U) (vT U) p (swO (vP U) (vT U) p) k)) → X2 σ' (nI (q + 1)) := by
            rw [← hqq]; exact ih4
          unfold swQ at ih5
          cases g1 : uG (vT U) p <;> simp only [g1] at ih5
          · simp only [itB0]
            refine ⟨in6 hq h6, ?_⟩
            cases g2 : uG (vT U) q <;> simp only [g2] at ih5
            · simp only [itB0]
              refine ⟨in6 hp h6, in6 hq h6, ?_⟩
              have s10 := h4.xc.sH hp
              have s11 := h4.xc.sH hq
              have h10 := h4.xc.h10
              by_cases e : uS (vT U) p = uS (vT U) q
              · rw [if_pos (by rw [e])]
                simp only [e, decide_true, Bool.not_true, Bool.and_false, Bool.false_eq_true, ↓reduceIte] at ih5
                exact ih5 σ4 h4 c4 s4
              · rw [if_neg (by rw [eqI (by omega) (by omega)]; exact e)]
                simp only [e, decide_false, Bool.not_false, Bool.and_self, ↓reduceIte] at ih5
                exact sx_takeSwap h4 c4 s4 hp hq (by omega) ih5
            · simp only [itB1]
              simp only [Bool.not_true, Bool.false_and, Bool.and_false, Bool.false_eq_true, ↓reduceIte] at ih5
              exact ih5 σ4 h4 c4 s4
          · simp only [itB1]
            simp only [Bool.not_true, Bool.false_and, Bool.false_eq_true, ↓reduceIte] at ih5
            exact ih5 σ4 h4 c4 s4
      exact inner σ3 h3 c3 s3
  exact main σ1 h2 c2 s2
theorem px_swap {K : Int32 → ts_S → Prop} {σ : ts_S} {U : sU} {a : Int32} (h : rX σ U) (hk : ∀ σ', rX σ' U → K (o_swap U a) σ') : wp_X9_swap K σ a := by
  unfold wp_X9_swap
  refine sx_within ?_
  rw [show decide ((0 : Int32) ≤ a ∧ a ≤ 1) = win a 0 1 from rfl]
  unfold o_swap at hk
  cases dw : win a 0 1 <;> rw [dw] at hk
  · simp only [itB0]; exact hk σ h
  simp only [itB1]
  refine sx_swapSearch h (fun σ1 h1 s1 => ?_)
  cases e : swO (vP U) (vT U) (qn (vP U)) with
  | none =>
    rw [e] at s1 hk
    rw [show σ1 20 2 = -1 from s1, if_neg (by decide)]
    exact hk σ1 h1
  | some q =>
    rw [e] at s1 hk
    obtain ⟨q1, q2, q3, q4⟩ := s1
    rw [q1, q2, if_pos (by rw [k0]; exact nI_le (by omega) (by omega))]
    by_cases d : a = 0
    · rw [if_pos d]; simp only [d, ↓reduceIte] at hk; exact hk σ1 h1
    · rw [if_neg d]; simp only [d, ↓reduceIte] at hk; exact hk σ1 h1
