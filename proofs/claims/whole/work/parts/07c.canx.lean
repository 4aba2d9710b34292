/-! can: how many persons it takes from each one to the goal -/
def exb (f : Nat → Bool) : Nat → Bool
  | 0 => false
  | n + 1 => exb f n || f n
theorem exb_iff {f : Nat → Bool} : ∀ {n : Nat}, exb f n = true ↔ ∃ i, i < n ∧ f i = true
  | 0 => by simp [exb]
  | n + 1 => by
    unfold exb
    rw [Bool.or_eq_true, exb_iff]
    constructor
    · rintro (⟨i, h1, h2⟩ | h)
      · exact ⟨i, by omega, h2⟩
      · exact ⟨n, by omega, h⟩
    · rintro ⟨i, h1, h2⟩
      by_cases e : i = n
      · subst e; exact Or.inr h2
      · exact Or.inl ⟨i, by omega, h2⟩
def nea (T : sT) (p q : Nat) : Bool := decide (uS T p ≤ uS T q + 2 ∧ uS T q ≤ uS T p + 2)
def cnD (P : sP) (T : sT) (b : Nat) : Nat → Nat → Bool
  | 0, _ => false
  | k + 1, p => cnD P T b k p || (std P T p && (decide (uS T p = b) || exb (fun q => cnD P T b k q && nea T p q) (qn P)))
/-- the fewest, up to k; 0: none -/
def dv (P : sP) (T : sT) (b : Nat) : Nat → Nat → Nat
  | 0, _ => 0
  | k + 1, p => if dv P T b k p ≠ 0 then dv P T b k p else if cnD P T b (k + 1) p then k + 1 else 0
def cF (P : sP) (T : sT) (a b : Nat) : Nat → Option (Nat × Nat)
  | 0 => none
  | p + 1 => if dv P T b (qn P) p ≠ 0 ∧ uS T p = a then (match cF P T a b p with
      | none => some (p, dv P T b (qn P) p)
      | some q => if dv P T b (qn P) p < q.2 then some (p, dv P T b (qn P) p) else some q) else cF P T a b p
def o_can (U : sU) (a b c : Int32) : Int32 := if isS U a && (isS U b && win c 0 1) then (match cF (vP U) (vT U) (ix a) (ix b) (qn (vP U)) with
  | none => -4
  | some q => if c = 0 then nI q.2 else nI q.1) else -1
section CAN
variable {P : sP} {T : sT} {b : Nat}
theorem cnD_mono : ∀ {k j : Nat} {p : Nat}, k ≤ j → cnD P T b k p = true → cnD P T b j p = true
  | k, 0, p, h, hd => by have : k = 0 := by omega
                         subst this; exact hd
  | k, j + 1, p, h, hd => by
    by_cases e : k = j + 1
    · subst e; exact hd
    · unfold cnD; rw [cnD_mono (j := j) (by omega) hd]; rfl
theorem cnD_std : ∀ {k p : Nat}, cnD P T b k p = true → std P T p = true
  | 0, p, h => by cases h
  | k + 1, p, h => by
    unfold cnD at h
    rw [Bool.or_eq_true] at h
    rcases h with h | h
    · exact cnD_std h
    · rw [Bool.and_eq_true] at h; exact h.1
theorem dv_0 : ∀ {k p : Nat}, dv P T b k p = 0 ↔ cnD P T b k p = false
  | 0, p => by simp [dv, cnD]
  | k + 1, p => by
    unfold dv
    by_cases e : dv P T b k p = 0
    · rw [if_neg (by simpa using e)]
      cases e2 : cnD P T b (k + 1) p <;> simp
    · rw [if_pos e]
      have h1 : cnD P T b k p = true := by
        cases e3 : cnD P T b k p
        · exact absurd (dv_0.mpr e3) e
        · rfl
      rw [cnD_mono (j := k + 1) (by omega) h1]
      simp [e]
theorem dv_le : ∀ {k p : Nat}, dv P T b k p ≤ k
  | 0, p => Nat.le_refl _
  | k + 1, p => by
    have := @dv_le k p
    unfold dv; split
    · omega
    · split <;> omega
/-- a value that is there is one that holds, and none below holds -/
theorem dv_D : ∀ {k p : Nat}, dv P T b k p ≠ 0 → cnD P T b (dv P T b k p) p = true ∧ ∀ j, j < dv P T b k p → cnD P T b j p = false
  | 0, p, h => absurd rfl h
  | k + 1, p, h => by
    unfold dv at h ⊢
    by_cases e : dv P T b k p = 0
    · rw [if_neg (by simpa using e)] at h ⊢
      cases e2 : cnD P T b (k + 1) p
      · rw [e2] at h; simp at h
      · simp only [↓reduceIte]
        refine ⟨e2, fun j hj => ?_⟩
        cases e3 : cnD P T b j p
        · rfl
        · have := cnD_mono (j := k) (by omega) e3
          rw [dv_0.mp e] at this; cases this
    · rw [if_pos e]; exact dv_D e
theorem dv_next {k p : Nat} (hk : 1 ≤ k) (hp : dv P T b k p = 0) : cnD P T b (k + 1) p = (std P T p && exb (fun q => decide (dv P T b k q = k) && nea T p q) (qn P)) := by
  have hnd : ∀ j, j ≤ k → cnD P T b j p = false := by
    intro j hj
    cases e : cnD P T b j p
    · rfl
    · have := cnD_mono hj e; rw [dv_0.mp hp] at this; cases this
  apply Bool.eq_iff_iff.mpr
  constructor
  · intro h
    have hs := cnD_std h
    unfold cnD at h
    rw [hnd k (Nat.le_refl k), Bool.false_or, hs, Bool.true_and, Bool.or_eq_true] at h
    rw [hs, Bool.true_and]
    rcases h with h | h
    · have : cnD P T b 1 p = true := by unfold cnD; simp [hs, h]
      rw [hnd 1 hk] at this; cases this
    · obtain ⟨q, hq, h2⟩ := exb_iff.mp h
      rw [Bool.and_eq_true] at h2
      refine exb_iff.mpr ⟨q, hq, ?_⟩
      rw [Bool.and_eq_true]
      refine ⟨?_, h2.2⟩
      have hne : dv P T b k q ≠ 0 := fun z => by have := dv_0.mp z; rw [h2.1] at this; cases this
      obtain ⟨d1, -⟩ := dv_D hne
      have hle := @dv_le P T b k q
      apply decide_eq_true
      by_cases e : dv P T b k q = k
      · exact e
      · exfalso
        have : cnD P T b (dv P T b k q + 1) p = true := by
          unfold cnD
          rw [hs]
          have : exb (fun q' => cnD P T b (dv P T b k q) q' && nea T p q') (qn P) = true := exb_iff.mpr ⟨q, hq, by rw [Bool.and_eq_true]; exact ⟨d1, h2.2⟩⟩
          rw [this]; simp
        rw [hnd _ (by omega)] at this; cases this
  · intro h
    rw [Bool.and_eq_true] at h
    obtain ⟨q, hq, h2⟩ := exb_iff.mp h.2
    rw [Bool.and_eq_true] at h2
    have e := of_decide_eq_true h2.1
    have hne : dv P T b k q ≠ 0 := by omega
    obtain ⟨d1, -⟩ := dv_D hne
    rw [e] at d1
    unfold cnD
    rw [h.1, exb_iff.mpr ⟨q, hq, by rw [Bool.and_eq_true]; exact ⟨d1, h2.2⟩⟩]
    simp
end CAN
theorem abs2 {a b : Nat} (ha : a < 10) (hb : b < 10) : ((2 : Int32) < (if 0 ≤ (nI a - nI b) then nI a - nI b else 0 - (nI a - nI b))) ↔ ¬ (a ≤ b + 2 ∧ b ≤ a + 2) := by
  have h : ∀ a : Fin 10, ∀ b : Fin 10, ((2 : Int32) < (if 0 ≤ (nI a.1 - nI b.1) then nI a.1 - nI b.1 else 0 - (nI a.1 - nI b.1))) ↔ ¬ (a.1 ≤ b.1 + 2 ∧ b.1 ≤ a.1 + 2) := by decide +kernel
  exact h ⟨a, ha⟩ ⟨b, hb⟩
theorem sx_reaches {K : Int32 → ts_S → Prop} {σ : ts_S} {U : sU} {p k : Nat} {v : Nat → Nat} (h : rX σ U) (hp : p < qn (vP U)) (hk6 : k < 100) (hv : ∀ q, q < qn (vP U) → σ 22 q = nI (v q) ∧ v q < 100) (hk : K (nB (exb (fun q => decide (v q = k) && nea (vT U) p q) (qn (vP U)))) σ) : wp_X0_reaches K σ 31 (nI p) (nI k) := by
  have h6 := h.xc.n6
  have h10 := h.xc.h10
  unfold wp_X0_reaches wp_X0_reaches_l3
  intro X hX
  have main : exb (fun q => decide (v q = k) && nea (vT U) p q) 0 = false → X σ (nI 0) := by
    refine ts_down (P := fun i => exb (fun q => decide (v q = k) && nea (vT U) p q) i = false → X σ (nI i)) (qn (vP U)) ?_ ?_
    · intro he
      apply hX; unfold wp_X0_reaches_b3
      rw [pl31, show σ 23 1 = _ from h.xc.n, if_pos (nI_le (Nat.le_refl _) (by omega))]
      rw [he] at hk; exact ⟨zb0, hk⟩
    · intro i hi ih he
      apply hX; unfold wp_X0_reaches_b3
      obtain ⟨v1, v2⟩ := hv i hi
      have s1 := h.xc.sH hi
      have s2 := h.xc.sH hp
      rw [pl31, show σ 23 1 = _ from h.xc.n, if_neg (nI_ge hi (by omega)), cl6 hi h6, cl6 hp h6, v1, show σ (31 + 1) p = _ from h.xc.st hp, show σ (31 + 1) i = _ from h.xc.st hi, nI_1]
      refine ⟨in6 hi h6, ?_⟩
      by_cases e : v i = k
      · rw [if_pos (by rw [e])]
        refine ⟨in6 hp h6, in6 hi h6, ?_⟩
        by_cases n2 : uS (vT U) p ≤ uS (vT U) i + 2 ∧ uS (vT U) i ≤ uS (vT U) p + 2
        · rw [if_neg (fun q => (abs2 (by omega) (by omega)).mp q n2)]
          rw [show exb (fun q => decide (v q = k) && nea (vT U) p q) (qn (vP U)) = true from exb_iff.mpr ⟨i, hi, by simp [e, nea, n2]⟩] at hk
          exact ⟨zb1, hk⟩
        · rw [if_pos ((abs2 (by omega) (by omega)).mpr n2)]
          refine ih ?_
          unfold exb; rw [he]; simp [e, nea]; omega
      · rw [if_neg (by rw [eqI (by omega) (by omega)]; exact e)]
        refine ih ?_
        unfold exb; rw [he]; simp [e]
  exact main rfl
theorem rX.k22 {σ : ts_S} {U : sU} {i : Nat} {x : Int32} (h : rX σ U) : rX (ts_u σ 22 i x) U :=
  h.keep (fun k hk => ts_u_c (by unfold mc at hk; omega)) (by rw [ts_u_c (by omega)]) (fun j hj => (h.bb j hj).same (fun k a b => ts_u_c (by omega)))
theorem rX.k21 {σ : ts_S} {U : sU} {i : Nat} {x : Int32} (h : rX σ U) : rX (ts_u σ 21 i x) U :=
  h.keep (fun k hk => ts_u_c (by unfold mc at hk; omega)) (by rw [ts_u_c (by omega)]) (fun j hj => (h.bb j hj).same (fun k a b => ts_u_c (by omega)))
theorem sx_countFrom {K : ts_S → Prop} {σ : ts_S} {U : sU} {b : Nat} (h : rX σ U) (hb : b < qH (vP U)) (hk : ∀ σ', rX σ' U → (∀ q, q < qn (vP U) → σ' 22 q = nI (dv (vP U) (vT U) b (qn (vP U)) q)) → K σ') : wp_X0_countFrom K σ 31 (nI b) := by
  have h6 := h.xc.n6
  have h10 := h.xc.h10
  have h1n : 1 ≤ qn (vP U) := h.1.2.1
  unfold wp_X0_countFrom
  refine sx_steadyBits h.xc ?_
  have hst := bs_64 (std (vP U) (vT U)) h6
  have second : ∀ σ', rX σ' U → (∀ q, q < qn (vP U) → σ' 22 q = nI (dv (vP U) (vT U) b 1 q)) → wp_X0_countFrom_l61 K 31 (nI b) σ' (nI (bs (std (vP U) (vT U)) (qn (vP U)))) 1 := by
    intro σ1 h1 v1
    unfold wp_X0_countFrom_l61
    intro X hX
    have main : ∀ σ', rX σ' U → (∀ q, q < qn (vP U) → σ' 22 q = nI (dv (vP U) (vT U) b 1 q)) → X σ' (nI 1) := by
      refine ts_down' (P := fun k => ∀ σ', rX σ' U → (∀ q, q < qn (vP U) → σ' 22 q = nI (dv (vP U) (vT U) b k q)) → X σ' (nI k)) 1 (qn (vP U)) h1n ?_ ?_
      · intro σ2 h2 v2
        apply hX; unfold wp_X0_countFrom_b61
        rw [pl31, show σ2 23 1 = _ from h2.xc.n, if_pos (nI_le (Nat.le_refl _) (by omega))]
        exact hk σ2 h2 v2
      · intro k hk1 hkn ih σ2 h2 v2
        apply hX; unfold wp_X0_countFrom_b61
        rw [pl31, show σ2 23 1 = _ from h2.xc.n, if_neg (nI_ge hkn (by omega))]
        unfold wp_X0_countFrom_l76
        intro X2 hX2
        have inner : ∀ σ', rX σ' U → (∀ q, q < qn (vP U) → σ' 22 q = nI (if q < 0 then dv (vP U) (vT U) b (k + 1) q else dv (vP U) (vT U) b k q)) → X2 σ' (nI 0) := by
          refine ts_down (P := fun i => ∀ σ', rX σ' U → (∀ q, q < qn (vP U) → σ' 22 q = nI (if q < i then dv (vP U) (vT U) b (k + 1) q else dv (vP U) (vT U) b k q)) → X2 σ' (nI i)) (qn (vP U)) ?_ ?_
          · intro σ3 h3 v3
            apply hX2; unfold wp_X0_countFrom_b76
            rw [pl31, show σ3 23 1 = _ from h3.xc.n, if_pos (nI_le (Nat.le_refl _) (by omega)), nI_1]
            refine ih σ3 h3 (fun q hq => ?_)
            rw [v3 q hq, if_pos hq]
          · intro i hi ih3 σ3 h3 v3
            apply hX2; unfold wp_X0_countFrom_b76
            have hle := @dv_le (vP U) (vT U) b k i
            have vi := v3 i hi
            rw [if_neg (Nat.lt_irrefl i)] at vi
            have hin : vp_in (nI i) 6 := in6 hi h6
            rw [pl31, show σ3 23 1 = _ from h3.xc.n, if_neg (nI_ge hi (by omega)), cl6 hi h6, vi]
            refine ⟨hin, ?_⟩
            have keepI : ∀ x : Nat, dv (vP U) (vT U) b (k + 1) i = dv (vP U) (vT U) b k i → ∀ q, q < qn (vP U) → σ3 22 q = nI (if q < i + 1 then dv (vP U) (vT U) b (k + 1) q else dv (vP U) (vT U) b k q) := by
              intro _ he q hq
              rw [v3 q hq]
              by_cases e1 : q = i
              · subst e1; rw [if_neg (Nat.lt_irrefl q), if_pos (by omega), he]
              · by_cases e2 : q < i
                · rw [if_pos e2, if_pos (by omega)]
                · rw [if_neg e2, if_neg (by omega)]
            by_cases d0 : dv (vP U) (vT U) b k i = 0
            · rw [if_pos (by rw [d0]; rfl)]
              have hnx := dv_next hk1 d0
              have hdv : dv (vP U) (vT U) b (k + 1) i = if cnD (vP U) (vT U) b (k + 1) i then k + 1 else 0 := by
                show (if dv (vP U) (vT U) b k i ≠ 0 then _ else _) = _
                rw [if_neg (by simpa using d0)]
              refine sx_hasBit (by omega) (by omega) ?_
              rw [bs_bit, decide_eq_true hi, Bool.true_and]
              cases ds : std (vP U) (vT U) i
              · simp only [itB0, nI_1]
                refine ih3 σ3 h3 (keepI 0 ?_)
                rw [hdv, hnx, ds, d0]; rfl
              · simp only [itB1]
                have ex_eq : exb (fun q => decide ((if q < i then dv (vP U) (vT U) b (k + 1) q else dv (vP U) (vT U) b k q) = k) && nea (vT U) i q) (qn (vP U)) = exb (fun q => decide (dv (vP U) (vT U) b k q = k) && nea (vT U) i q) (qn (vP U)) := by
                  have pt : ∀ q, ((if q < i then dv (vP U) (vT U) b (k + 1) q else dv (vP U) (vT U) b k q) = k) ↔ dv (vP U) (vT U) b k q = k := by
                    intro q
                    split
                    · show (if dv (vP U) (vT U) b k q ≠ 0 then dv (vP U) (vT U) b k q else if cnD (vP U) (vT U) b (k + 1) q then k + 1 else 0) = k ↔ _
                      by_cases e3 : dv (vP U) (vT U) b k q = 0
                      · rw [if_neg (by simpa using e3), e3]
                        split <;> omega
                      · rw [if_pos e3]
                    · exact Iff.rfl
                  apply Bool.eq_iff_iff.mpr
                  rw [exb_iff, exb_iff]
                  constructor
                  · rintro ⟨q, a1, a2⟩; refine ⟨q, a1, ?_⟩; simp only [Bool.and_eq_true, decide_eq_true_eq] at a2 ⊢; exact ⟨(pt q).mp a2.1, a2.2⟩
                  · rintro ⟨q, a1, a2⟩; refine ⟨q, a1, ?_⟩; simp only [Bool.and_eq_true, decide_eq_true_eq] at a2 ⊢; exact ⟨(pt q).mpr a2.1, a2.2⟩
                refine sx_reaches (v := fun q => if q < i then dv (vP U) (vT U) b (k + 1) q else dv (vP U) (vT U) b k q) h3 hi (by omega) (fun q hq => ⟨v3 q hq, ?_⟩) ?_
                · have a1 := @dv_le (vP U) (vT U) b k q
                  have a2 := @dv_le (vP U) (vT U) b (k + 1) q
                  show (if q < i then _ else _) < 100
                  split <;> omega
                · rw [ex_eq]
                  rw [ds, Bool.true_and] at hnx
                  cases de : exb (fun q => decide (dv (vP U) (vT U) b k q = k) && nea (vT U) i q) (qn (vP U)) <;> rw [de] at hnx
                  · simp only [itB0, nI_1]
                    refine ih3 σ3 h3 (keepI 0 ?_)
                    rw [hdv, hnx, d0]; rfl
                  · simp only [itB1]
                    refine ⟨hin, ?_⟩
                    rintro _ rfl
                    rw [nI_1, nI_1]
                    refine ih3 _ h3.k22 (fun q hq => ?_)
                    rw [ts_u_app]
                    by_cases e1 : q = i
                    · subst e1; rw [if_pos ⟨rfl, rfl⟩, if_pos (by omega), hdv, hnx]; rfl
                    · rw [if_neg (by simpa using e1), v3 q hq]
                      by_cases e2 : q < i
                      · rw [if_pos e2, if_pos (by omega)]
                      · rw [if_neg e2, if_neg (by omega)]
            · rw [if_neg (by rw [k0, eqI (by omega) (by omega)]; exact d0), nI_1]
              refine ih3 σ3 h3 (keepI 0 ?_)
              show (if dv (vP U) (vT U) b k i ≠ 0 then _ else _) = _
              rw [if_pos d0]
        exact inner σ2 h2 (fun q hq => by rw [if_neg (Nat.not_lt_zero q)]; exact v2 q hq)
    exact main σ1 h1 v1
  unfold wp_X0_countFrom_l8
  intro X hX
  have main : ∀ σ', rX σ' U → (∀ q, q < 0 → σ' 22 q = nI (dv (vP U) (vT U) b 1 q)) → X σ' (nI 0) := by
    refine ts_down (P := fun i => ∀ σ', rX σ' U → (∀ q, q < i → σ' 22 q = nI (dv (vP U) (vT U) b 1 q)) → X σ' (nI i)) (qn (vP U)) ?_ ?_
    · intro σ1 h1 v1
      apply hX; unfold wp_X0_countFrom_b8
      rw [pl31, show σ1 23 1 = _ from h1.xc.n, if_pos (nI_le (Nat.le_refl _) (by omega))]
      exact second σ1 h1 v1
    · intro i hi ih σ1 h1 v1
      apply hX; unfold wp_X0_countFrom_b8
      have hin : vp_in (nI i) 6 := in6 hi h6
      have hs := h1.xc.sH hi
      rw [pl31, show σ1 23 1 = _ from h1.xc.n, if_neg (nI_ge hi (by omega))]
      have j51 : ∀ x : Nat, x = dv (vP U) (vT U) b 1 i → wp_X0_countFrom_j51 K X 31 (nI b) σ1 (nI (bs (std (vP U) (vT U)) (qn (vP U)))) (nI i) (nI x) (nI i) := by
        intro x hx
        unfold wp_X0_countFrom_j51
        refine ⟨hin, ?_⟩
        rintro _ rfl
        rw [cl6 hi h6, nI_1]
        refine ih _ h1.k22 (fun q hq => ?_)
        rw [ts_u_app]
        by_cases e : q = i
        · subst e; simp [hx]
        · simp [e]; exact v1 q (by omega)
      have hd1 : dv (vP U) (vT U) b 1 i = if std (vP U) (vT U) i && decide (uS (vT U) i = b) then 1 else 0 := by
        show (if dv (vP U) (vT U) b 0 i ≠ 0 then _ else if cnD (vP U) (vT U) b 1 i then 1 else 0) = _
        rw [if_neg (by simp [dv])]
        have : cnD (vP U) (vT U) b 1 i = (std (vP U) (vT U) i && decide (uS (vT U) i = b)) := by
          unfold cnD
          have : exb (fun q => cnD (vP U) (vT U) b 0 q && nea (vT U) i q) (qn (vP U)) = false := by
            cases e : exb (fun q => cnD (vP U) (vT U) b 0 q && nea (vT U) i q) (qn (vP U))
            · rfl
            · obtain ⟨q, -, h2⟩ := exb_iff.mp e; simp [cnD] at h2
          rw [this]; simp [cnD]
        rw [this]
      refine sx_hasBit (by omega) (by omega) ?_
      rw [bs_bit, decide_eq_true hi, Bool.true_and]
      cases ds : std (vP U) (vT U) i <;> rw [ds] at hd1
      · simp only [itB0]
        exact j51 0 (by rw [hd1]; rfl)
      · simp only [itB1]
        refine ⟨hin, ?_⟩
        rw [cl6 hi h6, show σ1 (31 + 1) i = _ from h1.xc.st hi]
        by_cases e : uS (vT U) i = b
        · rw [if_pos (by rw [e])]; exact j51 1 (by rw [hd1]; simp [e])
        · rw [if_neg (by rw [eqI (by omega) (by omega)]; exact e)]; exact j51 0 (by rw [hd1]; simp [e])
  exact main σ h (fun q hq => absurd hq (Nat.not_lt_zero q))
def rCa (σ : ts_S) (b : Option (Nat × Nat)) : Prop := match b with
  | none => σ 21 2 = -1
  | some q => σ 21 2 = nI q.1 ∧ σ 21 1 = nI q.2 ∧ q.1 < 100 ∧ q.2 < 100
theorem sx_chain {K : ts_S → Prop} {σ : ts_S} {U : sU} {a b : Nat} (h : rX σ U) (ha : a < qH (vP U)) (hb : b < qH (vP U)) (hk : ∀ σ', rX σ' U → rCa σ' (cF (vP U) (vT U) a b (qn (vP U))) → K σ') : wp_X0_search K σ 31 (nI a) (nI b) := by
  have h6 := h.xc.n6
  have h10 := h.xc.h10
  unfold wp_X0_search
  refine sx_countFrom h hb (fun σ1 h1 v1 => ?_)
  rintro _ rfl _ rfl
  unfold wp_X0_search_l19
  intro X hX
  have main : ∀ σ', rX σ' U → (∀ q, q < qn (vP U) → σ' 22 q = nI (dv (vP U) (vT U) b (qn (vP U)) q)) → rCa σ' (cF (vP U) (vT U) a b 0) → X σ' (nI 0) := by
    refine ts_down (P := fun i => ∀ σ', rX σ' U → (∀ q, q < qn (vP U) → σ' 22 q = nI (dv (vP U) (vT U) b (qn (vP U)) q)) → rCa σ' (cF (vP U) (vT U) a b i) → X σ' (nI i)) (qn (vP U)) ?_ ?_
    · intro σ2 h2 v2 r2
      apply hX; unfold wp_X0_search_b19
      rw [pl31, show σ2 23 1 = _ from h2.xc.n, if_pos (nI_le (Nat.le_refl _) (by omega))]
      exact hk σ2 h2 r2
    · intro i hi ih σ2 h2 v2 r2
      apply hX; unfold wp_X0_search_b19
      have hin : vp_in (nI i) 6 := in6 hi h6
      have hs := h2.xc.sH hi
      have hle := @dv_le (vP U) (vT U) b (qn (vP U)) i
      rw [pl31, show σ2 23 1 = _ from h2.xc.n, if_neg (nI_ge hi (by omega)), cl6 hi h6, v2 i hi, show σ2 (31 + 1) i = _ from h2.xc.st hi]
      refine ⟨hin, ?_⟩
      have skip : cF (vP U) (vT U) a b (i + 1) = cF (vP U) (vT U) a b i → X σ2 (nI i + 1) := by
        intro e; rw [nI_1]; refine ih σ2 h2 v2 ?_; rw [e]; exact r2
      have take : cF (vP U) (vT U) a b (i + 1) = some (i, dv (vP U) (vT U) b (qn (vP U)) i) → wp_X0_search_j73 K X 31 (nI a) (nI b) σ2 (nI i) := by
        intro e
        unfold wp_X0_search_j73
        rintro _ rfl
        refine ⟨hin, ?_⟩
        rintro _ rfl
        rw [cl6 hi h6, ts_u_c (a := 22) (by omega), v2 i hi, nI_1]
        refine ih _ h2.k21.k21 (fun q hq => by rw [ts_u_c (by omega), ts_u_c (by omega)]; exact v2 q hq) ?_
        rw [e]
        exact ⟨by simp [ts_u_app], by simp [ts_u_app], by show i < 100; omega, by show dv _ _ _ _ _ < 100; omega⟩
      by_cases d0 : dv (vP U) (vT U) b (qn (vP U)) i = 0
      · rw [if_pos (by rw [d0]; decide)]
        exact skip (by show (if _ then _ else _) = _; rw [if_neg (fun q => q.1 d0)])
      rw [if_neg (by rw [k0]; exact nI_ge (by omega) (by omega))]
      refine ⟨hin, ?_⟩
      by_cases e : uS (vT U) i = a
      · rw [if_pos (by rw [e])]
        have hcf : cF (vP U) (vT U) a b (i + 1) = (match cF (vP U) (vT U) a b i with
          | none => some (i, dv (vP U) (vT U) b (qn (vP U)) i)
          | some q => if dv (vP U) (vT U) b (qn (vP U)) i < q.2 then some (i, dv (vP U) (vT U) b (qn (vP U)) i) else some q) := by
          show (if _ then _ else _) = _
          rw [if_pos ⟨d0, e⟩]
        cases er : cF (vP U) (vT U) a b i with
        | none =>
          rw [er] at r2 hcf
          rw [show σ2 21 2 = -1 from r2, if_pos (by decide)]
          exact take hcf
        | some q =>
          rw [er] at r2 hcf
          obtain ⟨q1, q2, q3, q4⟩ := r2
          rw [q1, q2, if_neg (by rw [k0]; exact nI_nlt (by omega) (by omega))]
          refine ⟨hin, ?_⟩
          by_cases dl : dv (vP U) (vT U) b (qn (vP U)) i < q.2
          · rw [if_neg (nI_ge dl (by omega))]
            exact take (by rw [hcf]; simp only [dl, ↓reduceIte])
          · rw [if_pos (nI_le (by omega) (by omega))]
            exact skip (by rw [hcf, er]; simp only [dl, ↓reduceIte])
      · rw [if_neg (by rw [eqI (by omega) (by omega)]; exact e)]
        exact skip (by show (if _ then _ else _) = _; rw [if_neg (fun q => e q.2)])
  exact main _ h1.k21.k21 (fun q hq => by rw [ts_u_c (by omega), ts_u_c (by omega)]; exact v1 q hq) (by show ts_u (ts_u σ1 21 2 (-1)) 21 1 0 21 2 = -1; simp [ts_u_app])
theorem px_can {K : Int32 → ts_S → Prop} {σ : ts_S} {U : sU} {a b c : Int32} (h : rX σ U) (hk : ∀ σ', rX σ' U → K (o_can U a b c) σ') : wp_X9_can K σ a b c := by
  unfold wp_X9_can
  refine sx_isStep h ?_
  unfold o_can at hk
  cases da : isS U a <;> rw [da] at hk
  · simp only [itB0]; exact hk σ h
  simp only [itB1]
  refine sx_isStep h ?_
  cases db : isS U b <;> rw [db] at hk
  · simp only [itB0]; exact hk σ h
  simp only [itB1]
  refine sx_within ?_
  rw [show decide ((0 : Int32) ≤ c ∧ c ≤ 1) = win c 0 1 from rfl]
  cases dc : win c 0 1 <;> rw [dc] at hk
  · simp only [itB0]; exact hk σ h
  simp only [itB1]
  obtain ⟨s, hs, e1, e2⟩ := isS_get h.1 da
  obtain ⟨s', hs', e3, e4⟩ := isS_get h.1 db
  rw [e2, e4] at hk; rw [e1, e3]
  refine sx_chain h hs hs' (fun σ1 h1 r1 => ?_)
  cases e : cF (vP U) (vT U) s s' (qn (vP U)) with
  | none =>
    rw [e] at r1 hk
    rw [show σ1 21 2 = -1 from r1, if_neg (by decide)]
    exact hk σ1 h1
  | some q =>
    rw [e] at r1 hk
    obtain ⟨q1, q2, q3, q4⟩ := r1
    rw [q1, q2, if_pos (by rw [k0]; exact nI_le (by omega) (by omega))]
    by_cases d : c = 0
    · rw [if_pos d]; simp only [d, Bool.and_self, ↓reduceIte] at hk; exact hk σ1 h1
    · rw [if_neg d]; simp only [d, Bool.and_self, ↓reduceIte] at hk; exact hk σ1 h1
