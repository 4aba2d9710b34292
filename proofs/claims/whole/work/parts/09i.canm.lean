/-! the reference's chain: as many rounds as there are persons are enough -/
section CANM
variable {P : sP} {T : sT} {b : Nat}
theorem cnD_s (k p : Nat) : cnD P T b (k + 1) p = (cnD P T b k p || (std P T p && (decide (uS T p = b) || exb (fun q => cnD P T b k q && nea T p q) (qn P)))) := rfl
theorem exb_congr {f g : Nat → Bool} : ∀ n, (∀ i, i < n → f i = g i) → exb f n = exb g n
  | 0, _ => rfl
  | n + 1, h => by unfold exb; rw [exb_congr n (fun i hi => h i (by omega)), h n (by omega)]
theorem cnD_stop {j : Nat} (h : ∀ p, p < qn P → cnD P T b (j + 1) p = cnD P T b j p) : ∀ m p, p < qn P → cnD P T b (j + m) p = cnD P T b j p
  | 0, _, _ => rfl
  | m + 1, p, hp => by
    show cnD P T b ((j + m) + 1) p = _
    rw [cnD_s, cnD_stop h m p hp, exb_congr (g := fun q => cnD P T b j q && nea T p q) _ (fun q hq => by rw [cnD_stop h m q hq]), ← cnD_s]
    exact h p hp
theorem cn_lt_cn {f g : Nat → Bool} : ∀ n, (∀ i, i < n → f i = true → g i = true) → (∃ i, i < n ∧ f i = false ∧ g i = true) → cn f n < cn g n
  | 0, _, h => by obtain ⟨i, hi, -⟩ := h; omega
  | n + 1, h1, h2 => by
    obtain ⟨i, hi, e1, e2⟩ := h2
    show cn f n + (if f n then 1 else 0) < cn g n + (if g n then 1 else 0)
    by_cases e : i = n
    · subst e
      have := cn_le_cn i (fun j hj => h1 j (by omega))
      rw [e1, e2]; simp; omega
    · have := cn_lt_cn n (fun j hj => h1 j (by omega)) ⟨i, by omega, e1, e2⟩
      have h3 := h1 n (by omega)
      cases e3 : f n
      · simp; omega
      · rw [h3 e3]; simp; omega
theorem cnD_grow : ∀ k, (∃ j, j < k ∧ ∀ p, p < qn P → cnD P T b (j + 1) p = cnD P T b j p) ∨ k ≤ cn (cnD P T b k) (qn P)
  | 0 => .inr (Nat.zero_le _)
  | k + 1 => by
    rcases cnD_grow k with ⟨j, h1, h2⟩ | h
    · exact .inl ⟨j, by omega, h2⟩
    · by_cases e : ∃ p, p < qn P ∧ cnD P T b k p = false ∧ cnD P T b (k + 1) p = true
      · exact .inr (Nat.lt_of_le_of_lt h (cn_lt_cn _ (fun p _ hp => cnD_mono (by omega) hp) e))
      · refine .inl ⟨k, by omega, fun p hp => ?_⟩
        cases e1 : cnD P T b k p
        · cases e2 : cnD P T b (k + 1) p
          · rfl
          · exact absurd ⟨p, hp, e1, e2⟩ e
        · exact cnD_mono (by omega) e1
theorem cn_full {f : Nat → Bool} : ∀ n, n ≤ cn f n → ∀ i, i < n → f i = true
  | 0, _, i, hi => by omega
  | n + 1, h, i, hi => by
    have h1 := cn_le f n
    have h : n + 1 ≤ cn f n + (if f n then 1 else 0) := h
    have h2 : f n = true := by
      cases e : f n
      · rw [e] at h; simp at h; omega
      · rfl
    rw [h2] at h
    simp at h
    by_cases e : i = n
    · rw [e]; exact h2
    · exact cn_full n h i (by omega)
/-- whoever is reached is reached by as many as there are -/
theorem cnD_all {v p : Nat} (hp : p < qn P) (h : cnD P T b v p = true) : cnD P T b (qn P) p = true := by
  rcases cnD_grow (P := P) (T := T) (b := b) (qn P) with ⟨j, h1, h2⟩ | h1
  · have h3 := cnD_stop h2 v p hp
    rw [cnD_mono (by omega : v ≤ j + v) h] at h3
    exact cnD_mono (by omega) h3.symm
  · exact cn_full _ h1 p hp
def Sd (P : sP) (T : sT) (b : Nat) (vb : Nat → Nat) : Prop := ∀ p, p < qn P → vb p ≤ 100 ∧ (vb p < 100 → cnD P T b (vb p) p = true)
def Up (P : sP) (T : sT) (b r : Nat) (vb : Nat → Nat) (p : Nat) : Prop := ∀ k, k ≤ r → cnD P T b k p = true → vb p ≤ k
theorem vb_end {vb : Nat → Nat} {r p : Nat} (h6 : qn P ≤ 6) (hp : p < qn P) (hs : Sd P T b vb) (hu : Up P T b r vb p) (hr : qn P ≤ r) : vb p = if dv P T b (qn P) p = 0 then 100 else dv P T b (qn P) p := by
  obtain ⟨s1, s2⟩ := hs p hp
  by_cases d : dv P T b (qn P) p = 0
  · rw [if_pos d]
    have h1 := dv_0.mp d
    by_cases e : vb p < 100
    · rw [cnD_all hp (s2 e)] at h1; cases h1
    · omega
  · rw [if_neg d]
    obtain ⟨h1, h2⟩ := dv_D d
    have h3 := dv_le (P := P) (T := T) (b := b) (k := qn P) (p := p)
    have h4 := hu _ (by omega) h1
    have h5 := s2 (by omega)
    by_cases e : vb p < dv P T b (qn P) p
    · rw [h2 _ e] at h5; cases h5
    · omega
theorem Sd.relax {vb : Nat → Nat} {p q : Nat} (hs : Sd P T b vb) (hp : p < qn P) (hq : q < qn P) (sp : std P T p = true) (hn : nea T p q = true) (hv : vb q + 1 < vb p) : Sd P T b (fu vb p (vb q + 1)) := by
  intro i hi
  obtain ⟨s1, s2⟩ := hs p hp
  obtain ⟨s3, s4⟩ := hs q hq
  by_cases e : i = p
  · subst e
    rw [fu_same]
    refine ⟨by omega, fun _ => ?_⟩
    rw [cnD_s, sp]
    have : exb (fun r => cnD P T b (vb q) r && nea T i r) (qn P) = true := exb_iff.mpr ⟨q, hq, by rw [s4 (by omega), hn]; rfl⟩
    rw [this]; simp
  · rw [fu_ne e]; exact hs i hi
theorem Up.relax {vb : Nat → Nat} {p r i v : Nat} (h : Up P T b r vb i) (hv : v ≤ vb p) : Up P T b r (fu vb p v) i := by
  intro k hk hc
  have := h k hk hc
  unfold fu; split
  · next e => rw [e] at this; omega
  · exact this
end CANM
def cs (σ : ts_S) (U : sU) (vb : Nat → Nat) : Prop := rM σ U ∧ cm σ (vP U) (vT U) ∧ ∀ p, p < qn (vP U) → σ 14 p = nI (vb p)
theorem cs.set {σ : ts_S} {U : sU} {vb : Nat → Nat} (h : cs σ U vb) {p v : Nat} : cs (ts_u σ 14 p (nI v)) U (fu vb p v) := by
  have e : ∀ k, k ≠ 14 → ts_u σ 14 p (nI v) k = σ k := fun k hk => ts_u_c hk
  refine ⟨h.1.to (fun j _ => by rw [e 0 (by omega)]) (fun k a b => e k (by omega)), ⟨h.2.1.1.to (fun j _ => by rw [e 0 (by omega)]) (e 1 (by omega)) (e 2 (by omega)), h.2.1.2.1.to (e 12 (by omega)), h.2.1.2.2⟩, fun i hi => ?_⟩
  rw [ts_u_app]
  unfold fu
  by_cases z : i = p
  · simp [z]
  · simp [z]; exact h.2.2 i hi
theorem win_nea {a b : Nat} (ha : a < 10) (hb : b < 10) : win (nI a - nI b) (-2) 2 = decide (a ≤ b + 2 ∧ b ≤ a + 2) := by
  have h : ∀ a : Fin 10, ∀ b : Fin 10, win (nI a.1 - nI b.1) (-2) 2 = decide (a.1 ≤ b.1 + 2 ∧ b.1 ≤ a.1 + 2) := by decide +kernel
  exact h ⟨a, ha⟩ ⟨b, hb⟩
def x5C (b : Option (Nat × Nat)) : Int32 := match b with
  | none => -4
  | some q => nI q.1
def x6C (b : Option (Nat × Nat)) : Int32 := match b with
  | none => nI 100
  | some q => nI q.2
def okC (b : Option (Nat × Nat)) : Prop := ∀ q, b = some q → q.1 < 6 ∧ q.2 < 100
theorem cF_ok {P : sP} {T : sT} {a b : Nat} (h6 : qn P ≤ 6) : ∀ p, p ≤ qn P → okC (cF P T a b p)
  | 0, _ => by intro q hq; cases hq
  | p + 1, hp => by
    intro q hq
    have hd := dv_le (P := P) (T := T) (b := b) (k := qn P) (p := p)
    unfold cF at hq
    split at hq
    · cases e : cF P T a b p with
      | none => rw [e] at hq; simp at hq; rw [← hq]; exact ⟨by show p < 6; omega, by show dv P T b (qn P) p < 100; omega⟩
      | some r =>
        rw [e] at hq
        simp at hq
        split at hq
        · simp at hq; rw [← hq]; exact ⟨by show p < 6; omega, by show dv P T b (qn P) p < 100; omega⟩
        · simp at hq; rw [← hq]; exact cF_ok h6 p (by omega) r e
    · exact cF_ok h6 p (by omega) q hq
theorem pm_can {K : Int32 → ts_S → Prop} {σ : ts_S} {U : sU} {a b c : Int32} (w : wfU U) (h : rM σ U) (hk : ∀ σ', rM σ' U → K (o_can U a b c) σ') : wp_X10_can K σ a b c := by
  unfold wp_X10_can
  refine ym_isStep h ?_
  unfold o_can at hk
  cases da : isS U a <;> rw [da] at hk
  · simp only [itB0]; exact hk σ h
  simp only [itB1]
  refine ym_isStep h ?_
  cases db : isS U b <;> rw [db] at hk
  · simp only [itB0]; exact hk σ h
  simp only [itB1]
  refine ym_in ?_
  cases dc : win c 0 1 <;> rw [dc] at hk
  · simp only [itB0]; exact hk σ h
  simp only [itB1]
  simp only [Bool.and_self, ↓reduceIte] at hk
  obtain ⟨sa, ha, e1, e2⟩ := isS_get w da
  obtain ⟨sb, hb, e3, e4⟩ := isS_get w db
  obtain ⟨x, hx1, hx2, e5, -⟩ := win_iff (lo := 0) (hi := 1) dc (by omega) (by omega)
  rw [e2, e4] at hk; rw [e1, e3]
  refine ym_asItIs w h (fun σ1 f1 h1 c1 => ?_)
  have h6 := c1.n6
  have h10 := c1.h10
  have hg64 := bs_64 (uG (vT U)) h6
  have hf64 := bs_64 (frz (vP U) (vT U)) h6
  have ho64 := or64 hf64 hg64
  refine ym_frozen c1 ⟨i21 (i := 1) (by omega), ?_⟩
  rw [cl1, c1.go, bt_oo hf64 hg64]
  have hbit : ∀ p, p < qn (vP U) → (bs (frz (vP U) (vT U)) (qn (vP U)) ||| bs (uG (vT U)) (qn (vP U))).testBit p = !std (vP U) (vT U) p := fun p hp => fg_bit hp
  generalize bs (frz (vP U) (vT U)) (qn (vP U)) ||| bs (uG (vT U)) (qn (vP U)) = m at ho64 hbit ⊢
  -- the search at the end
  have search : ∀ σ2 vb, cs σ2 U vb → (∀ p, p < qn (vP U) → vb p = if dv (vP U) (vT U) sb (qn (vP U)) p = 0 then 100 else dv (vP U) (vT U) sb (qn (vP U)) p) → wp_X10_can_l272 K (nI sa) (nI sb) c σ2 (-4) 100 0 := by
    intro σ2 vb hc hv
    have hk := hk σ2 hc.1
    unfold wp_X10_can_l272
    intro X hX
    refine ts_down (P := fun p => X σ2 (x5C (cF (vP U) (vT U) sa sb p)) (x6C (cF (vP U) (vT U) sa sb p)) (nI p)) (qn (vP U)) ?_ ?_
    · apply hX; unfold wp_X10_can_b272
      rw [hc.1.cn, if_pos (nI_le (Nat.le_refl _) (by omega))]
      have ok := cF_ok (P := vP U) (T := vT U) (a := sa) (b := sb) h6 (qn (vP U)) (Nat.le_refl _)
      cases e : cF (vP U) (vT U) sa sb (qn (vP U)) with
      | none => rw [e] at hk; rw [if_pos (by decide)]; exact hk
      | some q =>
        rw [e] at hk
        obtain ⟨o1, o2⟩ := ok q e
        have l : ¬ x5C (some q) < 0 := by rw [k0]; exact nI_nlt (by omega) (by omega)
        rw [if_neg l]
        have : x = 0 ∨ x = 1 := by omega
        rcases this with rfl | rfl
        · rw [if_neg (by rw [e5]; decide)]
          simp only [e5] at hk
          rw [if_pos (by decide)] at hk; exact hk
        · rw [if_pos (by rw [e5]; decide)]
          simp only [e5] at hk
          rw [if_neg (by decide)] at hk; exact hk
    · intro p hp ih
      apply hX; unfold wp_X10_can_b272
      have ok := cF_ok (P := vP U) (T := vT U) (a := sa) (b := sb) h6 p (by omega)
      have hs := hc.2.1.sH hp
      have hd := dv_le (P := vP U) (T := vT U) (b := sb) (k := qn (vP U)) (p := p)
      have hvp := hv p hp
      rw [hc.1.cn, if_neg (nI_ge hp (by omega)), e3p, nI_clamp (by omega), hc.2.1.st hp, cl6 hp h6, hc.2.2 p hp]
      refine ⟨i21 (by omega), ?_⟩
      unfold wp_X10_can_j311 wp_X10_can_j325
      rw [nI_1, cl6 hp h6, hc.2.2 p hp]
      unfold cF at ih
      have skip : X σ2 (x5C (cF (vP U) (vT U) sa sb p)) (x6C (cF (vP U) (vT U) sa sb p)) (nI (p + 1)) → (if (0 : Int32) = 0 then (if (0 : Int32) = 0 then X σ2 (x5C (cF (vP U) (vT U) sa sb p)) (x6C (cF (vP U) (vT U) sa sb p)) (nI (p + 1)) else vp_in (nI p) 6 ∧ X σ2 (x5C (cF (vP U) (vT U) sa sb p)) (nI (vb p)) (nI (p + 1))) else (if (0 : Int32) = 0 then X σ2 (nI p) (x6C (cF (vP U) (vT U) sa sb p)) (nI (p + 1)) else vp_in (nI p) 6 ∧ X σ2 (nI p) (nI (vb p)) (nI (p + 1)))) := by
        intro z; rw [if_pos rfl, if_pos rfl]; exact z
      by_cases es : uS (vT U) p = sa
      · rw [if_pos (by rw [es])]
        refine ⟨in6 hp h6, ?_⟩
        by_cases d0 : dv (vP U) (vT U) sb (qn (vP U)) p = 0
        · rw [if_pos d0] at hvp
          rw [if_neg (fun z => z.1 d0)] at ih
          have l : x6C (cF (vP U) (vT U) sa sb p) ≤ nI (vb p) := by
            rw [hvp]
            cases e : cF (vP U) (vT U) sa sb p with
            | none => exact nI_le (Nat.le_refl _) (by omega)
            | some q => exact nI_le (by have := ok q e; omega) (by omega)
          rw [if_pos l]; exact skip ih
        · rw [if_neg d0] at hvp
          rw [if_pos ⟨d0, es⟩] at ih
          have take : X σ2 (nI p) (nI (vb p)) (nI (p + 1)) → (if (1 : Int32) = 0 then (if (1 : Int32) = 0 then X σ2 (x5C (cF (vP U) (vT U) sa sb p)) (x6C (cF (vP U) (vT U) sa sb p)) (nI (p + 1)) else vp_in (nI p) 6 ∧ X σ2 (x5C (cF (vP U) (vT U) sa sb p)) (nI (vb p)) (nI (p + 1))) else (if (1 : Int32) = 0 then X σ2 (nI p) (x6C (cF (vP U) (vT U) sa sb p)) (nI (p + 1)) else vp_in (nI p) 6 ∧ X σ2 (nI p) (nI (vb p)) (nI (p + 1)))) := by
            intro z; rw [if_neg (by decide), if_neg (by decide)]; exact ⟨in6 hp h6, z⟩
          cases e : cF (vP U) (vT U) sa sb p with
          | none =>
            rw [e] at ih skip take
            have l : ¬ x6C none ≤ nI (vb p) := nI_ge (by omega) (by omega)
            rw [if_neg l]
            refine take ?_
            rw [hvp]; exact ih
          | some q =>
            rw [e] at ih skip take
            have oq := ok q e
            by_cases dl : dv (vP U) (vT U) sb (qn (vP U)) p < q.2
            · have l : ¬ x6C (some q) ≤ nI (vb p) := nI_ge (by omega) (by omega)
              rw [if_neg l]
              refine take ?_
              simp only [dl, ↓reduceIte] at ih
              rw [hvp]; exact ih
            · have l : x6C (some q) ≤ nI (vb p) := nI_le (by omega) (by omega)
              rw [if_pos l]
              refine skip ?_
              simp only [dl, ↓reduceIte] at ih
              exact ih
      · rw [if_neg (by rw [eqI (by omega) (by omega)]; exact es)]
        rw [if_neg (fun z => es z.2)] at ih
        exact skip ih
  -- the rounds
  have rounds : ∀ σ2 vb, cs σ2 U vb → Sd (vP U) (vT U) sb vb → (∀ p, p < qn (vP U) → Up (vP U) (vT U) sb 1 vb p) → wp_X10_can_l101 K (nI sa) (nI sb) c σ2 (nI m) 0 := by
    intro σ2 vb hc hsd hup
    unfold wp_X10_can_l101
    intro X hX
    have main : ∀ σ2 vb, cs σ2 U vb → Sd (vP U) (vT U) sb vb → (∀ p, p < qn (vP U) → Up (vP U) (vT U) sb (0 + 1) vb p) → X σ2 (nI 0) := by
      refine ts_down (P := fun r => ∀ σ2 vb, cs σ2 U vb → Sd (vP U) (vT U) sb vb → (∀ p, p < qn (vP U) → Up (vP U) (vT U) sb (r + 1) vb p) → X σ2 (nI r)) (qn (vP U)) ?_ ?_
      · intro σ3 vb hc hsd hup
        apply hX; unfold wp_X10_can_b101
        rw [hc.1.cn, if_pos (nI_le (Nat.le_refl _) (by omega))]
        exact search σ3 vb hc (fun p hp => vb_end h6 hp hsd (hup p hp) (by omega))
      · intro r hr ih σ3 vb hc hsd hup
        apply hX; unfold wp_X10_can_b101
        rw [hc.1.cn, if_neg (nI_ge hr (by omega))]
        unfold wp_X10_can_l113
        intro Y hY
        have mp : ∀ σ2 vb, cs σ2 U vb → Sd (vP U) (vT U) sb vb → (∀ p, p < qn (vP U) → Up (vP U) (vT U) sb (r + 1) vb p) → (∀ p, p < 0 → Up (vP U) (vT U) sb (r + 2) vb p) → Y σ2 (nI 0) := by
          refine ts_down (P := fun p => ∀ σ2 vb, cs σ2 U vb → Sd (vP U) (vT U) sb vb → (∀ p, p < qn (vP U) → Up (vP U) (vT U) sb (r + 1) vb p) → (∀ i, i < p → Up (vP U) (vT U) sb (r + 2) vb i) → Y σ2 (nI p)) (qn (vP U)) ?_ ?_
          · intro σ4 vb hc hsd _ hup
            apply hY; unfold wp_X10_can_b113
            rw [hc.1.cn, if_pos (nI_le (Nat.le_refl _) (by omega)), nI_1]
            exact ih σ4 vb hc hsd (fun p hp => hup p hp)
          · intro p hp ihp σ4 vb hc hsd hup1 hup2
            apply hY; unfold wp_X10_can_b113
            rw [hc.1.cn, if_neg (nI_ge hp (by omega))]
            unfold wp_X10_can_l125
            intro Z hZ
            have mq : ∀ σ2 vb, cs σ2 U vb → Sd (vP U) (vT U) sb vb → (∀ p, p < qn (vP U) → Up (vP U) (vT U) sb (r + 1) vb p) → (∀ i, i < p → Up (vP U) (vT U) sb (r + 2) vb i) → (∀ q, q < 0 → std (vP U) (vT U) p = true → std (vP U) (vT U) q = true → nea (vT U) p q = true → vb p ≤ vb q + 1) → Z σ2 (nI 0) := by
              refine ts_down (P := fun q => ∀ σ2 vb, cs σ2 U vb → Sd (vP U) (vT U) sb vb → (∀ p, p < qn (vP U) → Up (vP U) (vT U) sb (r + 1) vb p) → (∀ i, i < p → Up (vP U) (vT U) sb (r + 2) vb i) → (∀ i, i < q → std (vP U) (vT U) p = true → std (vP U) (vT U) i = true → nea (vT U) p i = true → vb p ≤ vb i + 1) → Z σ2 (nI q)) (qn (vP U)) ?_ ?_
              · intro σ5 vb hc hsd hup1 hup2 hre
                apply hZ; unfold wp_X10_can_b125
                rw [hc.1.cn, if_pos (nI_le (Nat.le_refl _) (by omega)), nI_1]
                refine ihp σ5 vb hc hsd hup1 (fun i hi => ?_)
                by_cases e : i = p
                · subst e
                  intro k hk2 hck
                  by_cases ek : k ≤ r + 1
                  · exact hup1 i hp k ek hck
                  · have ek : k = (r + 1) + 1 := by omega
                    rw [ek, cnD_s, Bool.or_eq_true, Bool.and_eq_true, Bool.or_eq_true] at hck
                    rcases hck with z | ⟨z1, z2 | z2⟩
                    · have := hup1 i hp (r + 1) (Nat.le_refl _) z; omega
                    · have := hup1 i hp 1 (by omega) (by rw [show (1 : Nat) = 0 + 1 from rfl, cnD_s, z1, z2]; simp)
                      omega
                    · obtain ⟨q, hq, z3⟩ := exb_iff.mp z2
                      rw [Bool.and_eq_true] at z3
                      have u1 := hup1 q hq (r + 1) (Nat.le_refl _) z3.1
                      have u2 := hre q hq z1 (cnD_std z3.1) z3.2
                      omega
                · exact hup2 i (by omega)
              · intro q hq ihq σ5 vb hc hsd hup1 hup2 hre
                apply hZ; unfold wp_X10_can_b125
                have s1 := hc.2.1.sH hp
                have s2 := hc.2.1.sH hq
                have b1 := (hsd p hp).1
                have b2 := (hsd q hq).1
                rw [hc.1.cn, if_neg (nI_ge hq (by omega)), e3p, e3p, nI_clamp (n := 3 + p) (by omega), nI_clamp (n := 3 + q) (by omega), hc.2.1.st hp, hc.2.1.st hq]
                refine ⟨i21 (by omega), i21 (by omega), ym_has (by omega) (by omega) ?_⟩
                rw [hbit p hp]
                have keep : (std (vP U) (vT U) p = true → std (vP U) (vT U) q = true → nea (vT U) p q = true → vb p ≤ vb q + 1) → wp_X10_can_j210 K X Y Z (nI sa) (nI sb) c σ5 (nI m) (nI r) (nI p) (nI q) 0 := by
                  intro hno
                  unfold wp_X10_can_j210 wp_X10_can_j242
                  rw [if_pos rfl, cl6 hp h6, hc.2.2 p hp, nI_1]
                  refine ⟨in6 hp h6, in6 hp h6, ?_⟩
                  rintro _ rfl
                  have hc2 := hc.set (p := p) (v := vb p)
                  rw [fu_self rfl] at hc2
                  refine ihq _ vb hc2 hsd hup1 hup2 (fun i hi z1 z2 z3 => ?_)
                  by_cases e : i = q
                  · subst e; exact hno z1 z2 z3
                  · exact hre i (by omega) z1 z2 z3
                cases sp : std (vP U) (vT U) p
                · show if (1 : Int32) = 0 then _ else _
                  rw [if_neg (by decide)]
                  exact keep (fun z => by rw [sp] at z; cases z)
                · show if (0 : Int32) = 0 then _ else _
                  rw [if_pos rfl]
                  refine ym_has (by omega) (by omega) ?_
                  rw [hbit q hq]
                  cases sq : std (vP U) (vT U) q
                  · show if (1 : Int32) = 0 then _ else _
                    rw [if_neg (by decide)]
                    exact keep (fun _ z => by rw [sq] at z; cases z)
                  · show if (0 : Int32) = 0 then _ else _
                    rw [if_pos rfl]
                    refine ym_in ?_
                    rw [win_nea (by omega) (by omega)]
                    have en : decide (uS (vT U) p ≤ uS (vT U) q + 2 ∧ uS (vT U) q ≤ uS (vT U) p + 2) = nea (vT U) p q := rfl
                    rw [en]
                    cases hn : nea (vT U) p q
                    · simp only [itB0]
                      exact keep (fun _ _ z => by rw [hn] at z; cases z)
                    · simp only [itB1]
                      rw [cl6 hp h6, cl6 hq h6, hc.2.2 p hp, hc.2.2 q hq, nI_1]
                      refine ⟨in6 hq h6, in6 hp h6, ?_⟩
                      by_cases dl : vb p ≤ vb q + 1
                      · rw [if_pos (nI_le dl (by omega))]
                        exact keep (fun _ _ _ => dl)
                      · rw [if_neg (nI_ge (by omega) (by omega))]
                        unfold wp_X10_can_j210 wp_X10_can_j242
                        rw [if_neg (by decide), cl6 hq h6, cl6 hp h6, hc.2.2 q hq, nI_1, nI_1]
                        refine ⟨in6 hq h6, in6 hp h6, ?_⟩
                        rintro _ rfl
                        refine ihq _ _ hc.set (hsd.relax hp hq sp hn (by omega)) (fun i hi => (hup1 i hi).relax (by omega)) (fun i hi => (hup2 i hi).relax (by omega)) (fun i hi z1 z2 z3 => ?_)
                        rw [fu_same]
                        unfold fu
                        by_cases e : i = q
                        · subst e
                          split
                          · omega
                          · omega
                        · have := hre i (by omega) z1 z2 z3
                          split
                          · omega
                          · omega
            exact mq σ4 vb hc hsd hup1 hup2 (fun q hq => absurd hq (Nat.not_lt_zero q))
        exact mp σ3 vb hc hsd hup (fun p hp => absurd hp (Nat.not_lt_zero p))
    exact main σ2 vb hc hsd hup
  -- the beginning
  unfold wp_X10_can_l47
  intro X hX
  have main : ∀ σ2, rM σ2 U → cm σ2 (vP U) (vT U) → (∀ p, p < 0 → σ2 14 p = nI (if std (vP U) (vT U) p && decide (uS (vT U) p = sb) then 1 else 100)) → X σ2 (nI 0) := by
    refine ts_down (P := fun i => ∀ σ2, rM σ2 U → cm σ2 (vP U) (vT U) → (∀ p, p < i → σ2 14 p = nI (if std (vP U) (vT U) p && decide (uS (vT U) p = sb) then 1 else 100)) → X σ2 (nI i)) (qn (vP U)) ?_ ?_
    · intro σ2 hM2 c2 hv
      apply hX; unfold wp_X10_can_b47
      rw [hM2.cn, if_pos (nI_le (Nat.le_refl _) (by omega))]
      refine rounds σ2 (fun p => if std (vP U) (vT U) p && decide (uS (vT U) p = sb) then 1 else 100) ⟨hM2, c2, hv⟩ (fun p hp => ?_) (fun p hp k hk2 hc => ?_)
      · show (if std (vP U) (vT U) p && decide (uS (vT U) p = sb) then 1 else 100) ≤ 100 ∧ ((if std (vP U) (vT U) p && decide (uS (vT U) p = sb) then 1 else 100) < 100 → _)
        cases e : (std (vP U) (vT U) p && decide (uS (vT U) p = sb))
        · simp
        · refine ⟨by simp, fun _ => ?_⟩
          show cnD (vP U) (vT U) sb (if std (vP U) (vT U) p && decide (uS (vT U) p = sb) then 1 else 100) p = true
          rw [e, if_pos rfl, show (1 : Nat) = 0 + 1 from rfl, cnD_s]
          rw [Bool.and_eq_true] at e
          rw [e.1, e.2]; simp
      · have hk : k = 0 ∨ k = 1 := by omega
        rcases hk with rfl | rfl
        · cases hc
        · rw [show (1 : Nat) = 0 + 1 from rfl, cnD_s] at hc
          have e0 : exb (fun q => cnD (vP U) (vT U) sb 0 q && nea (vT U) p q) (qn (vP U)) = false := by
            cases e : exb (fun q => cnD (vP U) (vT U) sb 0 q && nea (vT U) p q) (qn (vP U))
            · rfl
            · obtain ⟨q, hq, z⟩ := exb_iff.mp e
              rw [show cnD (vP U) (vT U) sb 0 q = false from rfl] at z; cases z
          rw [e0, Bool.or_false, show cnD (vP U) (vT U) sb 0 p = false from rfl, Bool.false_or] at hc
          show (if std (vP U) (vT U) p && decide (uS (vT U) p = sb) then 1 else 100) ≤ 1
          rw [hc]; simp
    · intro i hi ih σ2 hM2 c2 hv
      apply hX; unfold wp_X10_can_b47
      have hs := c2.sH hi
      rw [hM2.cn, if_neg (nI_ge hi (by omega))]
      refine ym_has (by omega) (by omega) ?_
      rw [hbit i hi]
      have j91 : ∀ v : Nat, v = (if std (vP U) (vT U) i && decide (uS (vT U) i = sb) then 1 else 100) → wp_X10_can_j91 K X (nI sa) (nI sb) c σ2 (nI m) (nI i) (nI v) (nI i) := by
        intro v hvv
        unfold wp_X10_can_j91
        refine ⟨in6 hi h6, ?_⟩
        rintro _ rfl
        rw [cl6 hi h6, nI_1]
        have e : ∀ k, k ≠ 14 → ts_u σ2 14 i (nI v) k = σ2 k := fun k hk => ts_u_c hk
        refine ih _ (hM2.to (fun j _ => by rw [e 0 (by omega)]) (fun k a b => e k (by omega))) ⟨c2.1.to (fun j _ => by rw [e 0 (by omega)]) (e 1 (by omega)) (e 2 (by omega)), c2.2.1.to (e 12 (by omega)), c2.2.2⟩ (fun p hp => ?_)
        rw [ts_u_app]
        by_cases z : p = i
        · subst z; rw [if_pos ⟨rfl, rfl⟩, hvv]
        · rw [if_neg (fun y => z y.2)]; exact hv p (by omega)
      cases sp : std (vP U) (vT U) i <;> rw [sp] at j91
      · show if (1 : Int32) = 0 then _ else _
        rw [if_neg (by decide)]
        exact j91 100 (by simp)
      · show if (0 : Int32) = 0 then _ else _
        rw [if_pos rfl, e3p, nI_clamp (by omega), c2.st hi]
        refine ⟨i21 (by omega), ?_⟩
        by_cases d : uS (vT U) i = sb
        · rw [if_pos (by rw [d])]; exact j91 1 (by simp [d])
        · rw [if_neg (by rw [eqI (by omega) (by omega)]; exact d)]; exact j91 100 (by simp [d])
  exact main σ1 h1 c1 (fun p hp => absurd hp (Nat.not_lt_zero p))
