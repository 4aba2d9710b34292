def fm (σ σ' : ts_S) : Prop := ∀ k, k ≠ 12 → σ' k = σ k
theorem fm.rf {σ : ts_S} : fm σ σ := fun _ _ => rfl
theorem fm.tr {σ σ' σ'' : ts_S} (h : fm σ σ') (h2 : fm σ' σ'') : fm σ σ'' := fun k hk => (h2 k hk).trans (h k hk)
theorem rMP.fm {σ σ' : ts_S} {P : sP} (h : rMP σ P) (f : fm σ σ') : rMP σ' P := by
  unfold rMP; rw [f 0 (by omega), f 1 (by omega), f 2 (by omega)]; exact h
theorem bs_or (f g : Nat → Bool) : ∀ n, bs (fun p => f p || g p) n = bs f n ||| bs g n := by
  intro n
  symm
  apply bs_eq
  intro i
  rw [Nat.testBit_or, bs_bit, bs_bit]
  cases decide (i < n) <;> simp
theorem bs_0 : ∀ n, bs (fun _ => false) n = 0
  | 0 => rfl
  | n + 1 => by unfold bs; rw [bs_0 n]; simp
theorem fal_frz {P : sP} {T : sT} {p : Nat} (h : fal P T p = true) : frz P T p = true := by
  unfold fal at h; unfold frz
  rw [Bool.and_eq_true] at h
  rw [h.1]
  have := of_decide_eq_true h.2
  simp; omega
/-- the loop over ages and nerves, as far as i -/
def im (σ σ' : ts_S) (P : sP) (T : sT) (i : Nat) : Prop :=
  fm σ σ' ∧ (∀ j, j < 9 → σ' 12 j = σ 12 j) ∧ (∀ p, p < i → σ' 12 (9 + p) = nI (uA (yer P T) p) ∧ σ' 12 (15 + p) = nI (uN (yer P T) p)) ∧ ∀ p, i ≤ p → p < 6 → σ' 12 (9 + p) = σ 12 (9 + p) ∧ σ' 12 (15 + p) = σ 12 (15 + p)
theorem ym_goesBy {K : ts_S → Prop} {σ : ts_S} {P : sP} {T : sT} (c : cm σ P T) (hy : uY T + 1 < 10000) (hk : ∀ σ', fm σ σ' → cm σ' P (yer P T) → K σ') : wp_X10_goesBy K σ := by
  have h6 := c.n6
  have hg64 := bs_64 (uG T) h6
  have hf64 := bs_64 (frz P T) h6
  have hl64 := bs_64 (fal P T) h6
  have ho64 := or64 hg64 hl64
  have h40 := fun p hp => fea_le c.2.2.1 c.2.2.2 (qk P p) p (uS T p) hp
  unfold wp_X10_goesBy
  refine ym_frozen c ?_
  have loop2 : wp_X10_goesBy_l63 K σ (nI (bs (frz P T) (qn P))) (nI (bs (fal P T) (qn P))) 0 := by
    unfold wp_X10_goesBy_l63
    intro X hX
    have main : ∀ σ', im σ σ' P T 0 → X σ' (nI 0) := by
      refine ts_down (P := fun i => ∀ σ', im σ σ' P T i → X σ' (nI i)) (qn P) ?_ ?_
      · intro σ1 ⟨m1, m2, m3, m4⟩
        apply hX; unfold wp_X10_goesBy_b63
        rw [m1 0 (by omega), c.n, if_pos (nI_le (Nat.le_refl _) (by omega)), cl0, cl1, cl2, m2 1 (by omega), c.go, bt_oo hg64 hl64]
        refine ⟨i21 (i := 1) (by omega), i21 (i := 1) (by omega), ?_⟩
        rintro _ rfl
        refine ⟨i21 (i := 2) (by omega), ?_⟩
        rintro _ rfl
        refine ⟨i21 (i := 0) (by omega), i21 (i := 0) (by omega), ?_⟩
        rintro _ rfl
        have e0 : ts_u (ts_u σ1 12 1 (nI (bs (uG T) (qn P) ||| bs (fal P T) (qn P)))) 12 2 0 12 0 = nI (uY T) := by simp [ts_u_app]; rw [m2 0 (by omega)]; exact c.yr
        rw [e0, nI_1]
        have ff : fm σ (ts_u (ts_u (ts_u σ1 12 1 (nI (bs (uG T) (qn P) ||| bs (fal P T) (qn P)))) 12 2 0) 12 0 (nI (uY T + 1))) := fun k hk => by rw [ts_u_c hk, ts_u_c hk, ts_u_c hk]; exact m1 k hk
        refine hk _ ff ⟨c.1.fm ff, ⟨by simp [ts_u_app]; rfl, ?_, ?_, fun p hp => ?_⟩, c.2.2.1, yer_wf c.2.2.2 hy⟩
        · show _ = nI (bs (fun p => uG T p || fal P T p) (qn P))
          rw [bs_or]; simp [ts_u_app]
        · show _ = nI (bs (fun _ => false) (qn P))
          rw [bs_0]; simp [ts_u_app]; rfl
        · obtain ⟨q1, q2⟩ := m3 p hp
          have n1 : ¬ 3 + p = 0 := by omega
          have n2 : ¬ 3 + p = 1 := by omega
          have n3 : ¬ 3 + p = 2 := by omega
          have n4 : ¬ 9 + p = 0 := by omega
          have n5 : ¬ 9 + p = 1 := by omega
          have n6 : ¬ 9 + p = 2 := by omega
          have n7 : ¬ 15 + p = 0 := by omega
          have n8 : ¬ 15 + p = 1 := by omega
          have n9 : ¬ 15 + p = 2 := by omega
          simp only [Nat.zero_add, ts_u_app, n1, n2, n3, n4, n5, n6, n7, n8, n9, and_false, ↓reduceIte]
          refine ⟨?_, q1, q2⟩
          rw [m2 (3 + p) (by omega)]; exact c.st hp
      · intro i hi ih σ1 hm
        obtain ⟨m1, m2, m3, m4⟩ := hm
        apply hX; unfold wp_X10_goesBy_b63
        obtain ⟨o1, o2⟩ := m4 i (Nat.le_refl i) (by omega)
        have ag := c.ag hi
        have ne := c.ne hi
        have hn30 := c.n30 hi
        have h99 := c.a99 hi
        rw [m1 0 (by omega), c.n, if_neg (nI_ge hi (by omega)), cl1, m2 1 (by omega), c.go, bt_oo hg64 hl64]
        refine ⟨i21 (i := 1) (by omega), ym_has (by omega) (by omega) ?_⟩
        rw [Nat.testBit_or, bs_bit, bs_bit, decide_eq_true hi, Bool.true_and, Bool.true_and]
        have nvy : uN (yer P T) i = if uG T i || fal P T i then uN T i else if frz P T i then uN T i - 1 else min (uN T i + 1) 30 := rfl
        have agy : uA (yer P T) i = min (uA T i + 1) 99 := rfl
        have j153 : ∀ σ2 : ts_S, (∀ k, k ≠ 12 → σ2 k = σ1 k) → (∀ j, j ≠ 15 + i → σ2 12 j = σ1 12 j) → σ2 12 (15 + i) = nI (uN (yer P T) i) → wp_X10_goesBy_j153 K X σ2 (nI (bs (frz P T) (qn P))) (nI (bs (fal P T) (qn P))) (nI i) := by
          intro σ2 g1 g2 g3
          unfold wp_X10_goesBy_j153
          rw [e9p, nI_clamp (by omega), g2 (9 + i) (by omega), o1, ag]
          refine ⟨i21 (by omega), i21 (by omega), ?_⟩
          have j182 : ∀ x : Nat, uA T i + x = uA (yer P T) i → wp_X10_goesBy_j182 K X σ2 (nI (bs (frz P T) (qn P))) (nI (bs (fal P T) (qn P))) (nI i) (nI x) (nI (uA T i)) (nI (9 + i)) := by
            intro x hx
            unfold wp_X10_goesBy_j182
            refine ⟨i21 (by omega), ?_⟩
            rintro _ rfl
            rw [nI_clamp (by omega), nI_add, hx, nI_1]
            refine ih _ ⟨fun k hk => by rw [ts_u_c hk, g1 k hk]; exact m1 k hk, fun j hj => ?_, fun p hp => ?_, fun p hp1 hp2 => ?_⟩
            · rw [ts_u_app, if_neg (by omega), g2 j (by omega)]; exact m2 j hj
            · by_cases e : p = i
              · subst e
                rw [ts_u_app, if_pos ⟨rfl, rfl⟩, ts_u_app, if_neg (by omega)]
                exact ⟨rfl, g3⟩
              · rw [ts_u_app, if_neg (by omega), ts_u_app, if_neg (by omega), g2 _ (by omega), g2 _ (by omega)]
                exact m3 p (by omega)
            · rw [ts_u_app, if_neg (by omega), ts_u_app, if_neg (by omega), g2 _ (by omega), g2 _ (by omega)]
              exact m4 p (by omega) hp2
          by_cases d : 99 ≤ uA T i
          · rw [if_pos (by rw [k99]; exact nI_le d (by omega))]; exact j182 0 (by rw [agy]; omega)
          · rw [if_neg (by rw [k99]; exact nI_ge (by omega) (by omega))]; exact j182 1 (by rw [agy]; omega)
        have j152 : ∀ x : Nat, x = uN (yer P T) i → wp_X10_goesBy_j152 K X σ1 (nI (bs (frz P T) (qn P))) (nI (bs (fal P T) (qn P))) (nI i) (nI x) (nI (15 + i)) := by
          intro x hx
          unfold wp_X10_goesBy_j152
          refine ⟨i21 (by omega), ?_⟩
          rintro _ rfl
          rw [nI_clamp (by omega)]
          exact j153 _ (fun k hk => ts_u_c hk) (fun j hj => by rw [ts_u_app, if_neg (fun z => hj z.2)]) (by rw [ts_u_app, if_pos ⟨rfl, rfl⟩, hx])
        cases dg : (uG T i || fal P T i) <;> rw [dg] at nvy
        · simp only [itB0]
          refine ym_has (by omega) (by omega) ?_
          rw [bs_bit, decide_eq_true hi, Bool.true_and]
          cases dz : frz P T i <;> rw [dz] at nvy
          · simp only [itB0]
            rw [e15p, nI_clamp (by omega), o2, ne, nI_1]
            refine ⟨i21 (by omega), ?_⟩
            unfold wp_X10_goesBy_j119
            rw [e15p, if_pos (by rw [k0]; exact nI_le (by omega) (by omega))]
            have nvy : uN (yer P T) i = min (uN T i + 1) 30 := nvy
            by_cases d : uN T i + 1 ≤ 30
            · rw [if_pos (by rw [k30]; exact nI_le d (by omega))]; exact j152 _ (by rw [nvy]; omega)
            · rw [if_neg (by rw [k30]; exact nI_ge (by omega) (by omega))]; exact j152 30 (by rw [nvy]; omega)
          · simp only [itB1]
            rw [e15p, nI_clamp (by omega), o2, ne]
            refine ⟨i21 (by omega), ?_⟩
            unfold wp_X10_goesBy_j119
            have nvy : uN (yer P T) i = uN T i - 1 := nvy
            rw [e15p]
            by_cases d : uN T i = 0
            · rw [if_neg (by rw [k0, k1, le_subI (by omega) (by omega) (by omega)]; omega)]; exact j152 0 (by rw [nvy]; omega)
            · rw [k1, pk_sub (by omega), if_pos (by rw [k0]; exact nI_le (by omega) (by omega)), if_pos (by rw [k30]; exact nI_le (by omega) (by omega))]; exact j152 _ nvy.symm
        · simp only [itB1]
          have nvy : uN (yer P T) i = uN T i := nvy
          exact j153 σ1 (fun _ _ => rfl) (fun _ _ => rfl) (by rw [o2, ne, nvy])
    exact main σ ⟨fm.rf, fun _ _ => rfl, fun p hp => absurd hp (Nat.not_lt_zero p), fun _ _ _ => ⟨rfl, rfl⟩⟩
  unfold wp_X10_goesBy_l9
  intro X hX
  refine ts_down (P := fun i => X σ (nI (bs (fal P T) i)) (nI i)) (qn P) ?_ ?_
  · apply hX; unfold wp_X10_goesBy_b9
    rw [c.n, if_pos (nI_le (Nat.le_refl _) (by omega))]; exact loop2
  · intro i hi ih
    apply hX; unfold wp_X10_goesBy_b9
    have hz := bs_64 (fal P T) (show i ≤ 6 by omega)
    have hfe := h40 i hi
    have hn30 := c.n30 hi
    rw [c.n, if_neg (nI_ge hi (by omega))]
    refine ym_has (by omega) (by omega) ?_
    rw [bs_bit, decide_eq_true hi, Bool.true_and]
    cases dz : frz P T i
    · simp only [itB0]
      rw [bt_o0 hz, nI_1]
      rw [bs_f (by cases e : fal P T i; rfl; rw [fal_frz e] at dz; cases dz)] at ih; exact ih
    · simp only [itB1]
      have hg : uG T i = false := by unfold frz at dz; rw [Bool.and_eq_true] at dz; simpa using dz.1
      refine ym_fearOf c hi ?_
      rw [e15p, nI_clamp (by omega), c.ne hi, nI_1, bt_o0 hz]
      refine ⟨i21 (by omega), ?_⟩
      by_cases d8 : fea P T (qk P i) i (uS T i) < uN T i + 8
      · rw [if_pos (by rw [k8]; exact (sub_ltI (by omega) (by omega) (by omega)).mpr d8)]
        rw [bs_f (by simp [fal, hg]; omega)] at ih; exact ih
      · rw [if_neg (by rw [k8, sub_ltI (by omega) (by omega) (by omega)]; exact d8), bt_or i (by omega) _ (by omega)]
        rw [bs_t (by simp [fal, hg]; omega)] at ih; exact ih
theorem ym_canPromote {K : Int32 → ts_S → Prop} {σ : ts_S} {P : sP} {T : sT} (c : cm σ P T) {p : Nat} (hp : p < qn P) (hk : K (nB (decide (0 < uS T p) && std P T p)) σ) : wp_X10_canPromote K σ (nI p) := by
  have h6 := c.n6
  have h10 := c.h10
  have hs := c.sH hp
  have hg64 := bs_64 (uG T) h6
  have hf64 := bs_64 (frz P T) h6
  unfold wp_X10_canPromote
  refine ym_frozen c ?_
  refine ⟨i21 (i := 1) (by omega), ?_⟩
  rw [cl1, c.go, bt_oo hf64 hg64]
  refine ym_has (by have := or64 hf64 hg64; omega) (by omega) ?_
  rw [fg_bit hp]
  cases ds : std P T p <;> rw [ds] at hk
  · show if (1 : Int32) = 0 then _ else _
    rw [if_neg (by decide)]; rw [Bool.and_false] at hk; exact ⟨zb0, hk⟩
  · show if (0 : Int32) = 0 then _ else _
    rw [if_pos rfl, e3p, nI_clamp (by omega), c.st hp]
    refine ⟨i21 (by omega), ?_⟩
    rw [Bool.and_true] at hk
    by_cases d : uS T p = 0
    · rw [if_pos (by rw [d]; decide)]
      rw [decide_eq_false (by omega)] at hk; exact ⟨zb0, hk⟩
    · rw [if_neg (by rw [k0]; exact nI_ge (by omega) (by omega))]
      rw [decide_eq_true (by omega)] at hk; exact ⟨zb1, hk⟩
theorem ym_canHoist {K : Int32 → ts_S → Prop} {σ : ts_S} {P : sP} {T : sT} (c : cm σ P T) {p : Nat} (hp : p < qn P) (hk : K (nB (decide (uS T p + 1 < qH P) && !uG T p)) σ) : wp_X10_canHoist K σ (nI p) := by
  have h6 := c.n6
  have h10 := c.h10
  have h2 := c.h2
  have hs := c.sH hp
  have hg64 := bs_64 (uG T) h6
  unfold wp_X10_canHoist
  rw [cl1, c.go]
  refine ⟨i21 (i := 1) (by omega), ym_has (by omega) (by omega) ?_⟩
  rw [bs_bit, decide_eq_true hp, Bool.true_and]
  cases dg : uG T p <;> rw [dg] at hk
  · simp only [itB0]
    rw [e3p, nI_clamp (by omega), c.st hp, c.h, k1, pk_sub (by omega)]
    refine ⟨i21 (by omega), ?_⟩
    rw [Bool.not_false, Bool.and_true] at hk
    by_cases d : qH P - 1 ≤ uS T p
    · rw [if_pos (nI_le d (by omega))]
      rw [decide_eq_false (by omega)] at hk; exact ⟨zb0, hk⟩
    · rw [if_neg (nI_ge (by omega) (by omega))]
      rw [decide_eq_true (by omega)] at hk; exact ⟨zb1, hk⟩
  · simp only [itB1]
    rw [Bool.not_true, Bool.and_false] at hk; exact ⟨zb0, hk⟩
theorem ym_canCall {K : Int32 → ts_S → Prop} {σ : ts_S} {P : sP} {T : sT} (c : cm σ P T) {p : Nat} (hp : p < qn P) (hk : K (nB (!uG T p && !uC T p)) σ) : wp_X10_canCall K σ (nI p) := by
  have h6 := c.n6
  have hg64 := bs_64 (uG T) h6
  have hc64 := bs_64 (uC T) h6
  unfold wp_X10_canCall
  rw [cl1, cl2, c.go, c.ca, bt_oo hg64 hc64]
  refine ⟨i21 (i := 1) (by omega), i21 (i := 2) (by omega), ym_has (by have := or64 hg64 hc64; omega) (by omega) ?_⟩
  rw [Nat.testBit_or, bs_bit, bs_bit, decide_eq_true hp, Bool.true_and, Bool.true_and]
  cases dg : uG T p <;> cases dc : uC T p <;> rw [dg, dc] at hk
  · simp only [Bool.or_self, itB0]; exact ⟨zb1, hk⟩
  · simp only [Bool.false_or, itB1]; exact ⟨zb0, hk⟩
  · simp only [Bool.true_or, itB1]; exact ⟨zb0, hk⟩
  · simp only [Bool.true_or, itB1]; exact ⟨zb0, hk⟩
/-- the row of a standing with another step -/
theorem cm_setS {σ : ts_S} {P : sP} {T : sT} (c : cm σ P T) {p s : Nat} (hp : p < qn P) (hs : s < qH P) : fm σ (ts_u σ 12 (3 + p) (nI s)) ∧ cm (ts_u σ 12 (3 + p) (nI s)) P (tS T p s) := by
  have h6 := c.n6
  have ff : fm σ (ts_u σ 12 (3 + p) (nI s)) := fun k hk => ts_u_c hk
  refine ⟨ff, c.1.fm ff, ⟨?_, ?_, ?_, fun q hq => ⟨?_, ?_, ?_⟩⟩, c.2.2.1, ⟨c.2.2.2.1, fun q hq => ?_⟩⟩
  · rw [ts_u_app, if_neg (by omega)]; exact c.yr
  · rw [ts_u_app, if_neg (by omega)]; exact c.go
  · rw [ts_u_app, if_neg (by omega)]; exact c.ca
  · show _ = nI (fu (uS T) p s q)
    rw [Nat.zero_add, ts_u_app]
    by_cases e : q = p
    · subst e; rw [if_pos ⟨rfl, rfl⟩, fu_same]
    · rw [if_neg (by omega), fu_ne e]; exact c.st hq
  · rw [Nat.zero_add, ts_u_app, if_neg (by omega)]; exact c.ag hq
  · rw [Nat.zero_add, ts_u_app, if_neg (by omega)]; exact c.ne hq
  · refine ⟨?_, c.a99 hq, c.n30 hq⟩
    show fu (uS T) p s q < qH P
    unfold fu; split
    · exact hs
    · exact c.sH hq
theorem ym_calls {K : ts_S → Prop} {σ : ts_S} {P : sP} {T : sT} (c : cm σ P T) {p : Nat} (hp : p < qn P) (hk : ∀ σ', fm σ σ' → cm σ' P (tCl P T p) → K σ') : wp_X10_calls K σ (nI p) := by
  have h6 := c.n6
  have h10 := c.h10
  have hg64 := bs_64 (uG T) h6
  have hf64 := bs_64 (frz P T) h6
  have hc64 := bs_64 (uC T) h6
  have hn := c.n30 hp
  unfold wp_X10_calls
  refine ym_frozen c ?_
  unfold wp_X10_calls_l7
  intro X hX
  have main : ∀ σ', fm σ σ' → (∀ j, j ≠ 15 + p → σ' 12 j = σ 12 j) → σ' 12 (15 + p) = nI (min (uN T p + cn (fun q => decide (uS T p < uS T q) && std P T q) 0) 30) → X σ' (nI 0) := by
    refine ts_down (P := fun i => ∀ σ', fm σ σ' → (∀ j, j ≠ 15 + p → σ' 12 j = σ 12 j) → σ' 12 (15 + p) = nI (min (uN T p + cn (fun q => decide (uS T p < uS T q) && std P T q) i) 30) → X σ' (nI i)) (qn P) ?_ ?_
    · intro σ1 m1 m2 m3
      apply hX; unfold wp_X10_calls_b7
      rw [m1 0 (by omega), c.n, if_pos (nI_le (Nat.le_refl _) (by omega)), cl2, m2 2 (by omega), c.ca, bt_or p (by omega) _ (by omega)]
      refine ⟨i21 (i := 2) (by omega), i21 (i := 2) (by omega), ?_⟩
      rintro _ rfl
      have ff : fm σ (ts_u σ1 12 2 (nI (bs (uC T) (qn P) ||| 2 ^ p))) := fun k hk => by rw [ts_u_c hk]; exact m1 k hk
      refine hk _ ff ⟨c.1.fm ff, ⟨?_, ?_, ?_, fun q hq => ⟨?_, ?_, ?_⟩⟩, c.2.2.1, ⟨c.2.2.2.1, fun q hq => ⟨c.sH hq, c.a99 hq, ?_⟩⟩⟩
      · rw [ts_u_app, if_neg (by omega), m2 _ (by omega)]; exact c.yr
      · rw [ts_u_app, if_neg (by omega), m2 _ (by omega)]; exact c.go
      · show _ = nI (bs (fu (uC T) p true) (qn P))
        rw [ts_u_app, if_pos ⟨rfl, rfl⟩]
        congr 1
        apply bs_eq
        intro i
        rw [Nat.testBit_or, bs_bit, Nat.testBit_two_pow]
        unfold fu
        by_cases e : p = i
        · subst e; simp [hp]
        · have e2 : ¬ i = p := fun z => e z.symm
          simp [e, e2]
      · rw [Nat.zero_add, ts_u_app, if_neg (by omega), m2 _ (by omega)]; exact c.st hq
      · rw [Nat.zero_add, ts_u_app, if_neg (by omega), m2 _ (by omega)]; exact c.ag hq
      · show _ = nI (fu (uN T) p (min (uN T p + cls P T p) 30) q)
        rw [Nat.zero_add, ts_u_app, if_neg (by omega)]
        by_cases e : q = p
        · subst e; rw [fu_same]; exact m3
        · rw [fu_ne e, m2 _ (by omega)]; exact c.ne hq
      · show fu (uN T) p (min (uN T p + cls P T p) 30) q ≤ 30
        unfold fu; split
        · omega
        · exact c.n30 hq
    · intro i hi ih σ1 m1 m2 m3
      apply hX; unfold wp_X10_calls_b7
      have s1 := c.sH hi
      have s2 := c.sH hp
      rw [m1 0 (by omega), c.n, if_neg (nI_ge hi (by omega))]
      have hcl := cn_le (fun q => decide (uS T p < uS T q) && std P T q) i
      rw [e15p, e3p, e3p, nI_clamp (n := 3 + i) (by omega), nI_clamp (n := 3 + p) (by omega), nI_clamp (n := 15 + p) (by omega), m2 (3 + i) (by omega), m2 (3 + p) (by omega), c.st hi, c.st hp, m3]
      refine ⟨i21 (by omega), i21 (by omega), i21 (by omega), ?_⟩
      have j78 : ∀ x : Nat, min (uN T p + cn (fun q => decide (uS T p < uS T q) && std P T q) i) 30 + x = min (uN T p + cn (fun q => decide (uS T p < uS T q) && std P T q) (i + 1)) 30 → wp_X10_calls_j78 K X (nI p) σ1 (nI (bs (frz P T) (qn P))) (nI i) (nI x) (nI (min (uN T p + cn (fun q => decide (uS T p < uS T q) && std P T q) i) 30)) (nI (15 + p)) := by
        intro x hx
        unfold wp_X10_calls_j78
        refine ⟨i21 (by omega), ?_⟩
        rintro _ rfl
        rw [nI_clamp (by omega), nI_add, hx, nI_1]
        exact ih _ (fun k hk => by rw [ts_u_c hk]; exact m1 k hk) (fun j hj => by rw [ts_u_app, if_neg (fun z => hj z.2)]; exact m2 j hj) (by rw [ts_u_app, if_pos ⟨rfl, rfl⟩])
      by_cases d : uS T i ≤ uS T p
      · rw [if_pos (nI_le d (by omega))]
        exact j78 0 (by rw [cn_f (i := i) (by simp; omega)]; omega)
      · rw [if_neg (nI_ge (by omega) (by omega))]
        rw [cl1, m2 1 (by omega), c.go, bt_oo hf64 hg64]
        refine ⟨i21 (i := 1) (by omega), ym_has (by have := or64 hf64 hg64; omega) (by omega) ?_⟩
        rw [fg_bit hi]
        cases ds : std P T i
        · show if (1 : Int32) = 0 then _ else _
          rw [if_neg (by decide)]
          exact j78 0 (by rw [cn_f (i := i) (by simp [ds])]; omega)
        · show if (0 : Int32) = 0 then _ else _
          rw [if_pos rfl, m3]
          refine ⟨i21 (by omega), ?_⟩
          have ht := cn_t (f := fun q => decide (uS T p < uS T q) && std P T q) (i := i) (by simp [ds]; omega)
          by_cases d3 : 30 ≤ min (uN T p + cn (fun q => decide (uS T p < uS T q) && std P T q) i) 30
          · rw [if_pos (by rw [k30]; exact nI_le d3 (by omega))]; exact j78 0 (by rw [ht]; omega)
          · rw [if_neg (by rw [k30]; exact nI_ge (by omega) (by omega))]; exact j78 1 (by rw [ht]; omega)
  exact main σ fm.rf (fun _ _ => rfl) (by rw [c.ne hp]; congr 1; show _ = min (uN T p + 0) 30; omega)
theorem ym_bits {K : Int32 → ts_S → Prop} {σ : ts_S} {m : Nat} (hm : m < 64) (hk : K (nI (pop m)) σ) : wp_X10_bits K σ (nI m) := by
  unfold wp_X10_bits wp_X10_bits_l4
  intro X hX
  refine ts_down (P := fun i => X σ (nI (cn (fun i => m.testBit i) i)) (nI i)) 6 ?_ ?_
  · apply hX; unfold wp_X10_bits_b4
    rw [if_pos (by decide)]; exact hk
  · intro i hi ih
    apply hX; unfold wp_X10_bits_b4
    rw [if_neg (by rw [k6]; exact nI_ge hi (by omega)), bt_has i (by omega) m (by omega), nI_1]
    cases d : m.testBit i
    · rw [cn_f (f := fun i => m.testBit i) d] at ih; rw [show nB false = nI 0 from rfl, nI_add]; exact ih
    · rw [cn_t (f := fun i => m.testBit i) d] at ih; rw [show nB true = nI 1 from rfl, nI_add]; exact ih
