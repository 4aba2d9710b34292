/-! the reference's store: plan, rows of a standing -/
def rMP (σ : ts_S) (P : sP) : Prop := σ 0 0 = nI (qH P) ∧ σ 0 1 = nI (qn P) ∧ σ 0 3 = nI (qW P) ∧ (∀ p, p < qn P → σ 1 p = nI (qk P p)) ∧ ∀ w, w < qW P → σ 2 (2 * w) = nI (qs P w) ∧ σ 2 (2 * w + 1) = nI (qd P w)
def rR (σ : ts_S) (c o n : Nat) (T : sT) : Prop := σ c o = nI (uY T) ∧ σ c (o + 1) = nI (bs (uG T) n) ∧ σ c (o + 2) = nI (bs (uC T) n) ∧ ∀ p, p < n → σ c (o + (3 + p)) = nI (uS T p) ∧ σ c (o + (9 + p)) = nI (uA T p) ∧ σ c (o + (15 + p)) = nI (uN T p)
def cm (σ : ts_S) (P : sP) (T : sT) : Prop := rMP σ P ∧ rR σ 12 0 (qn P) T ∧ wfP P ∧ wfT P T
section CM
variable {σ : ts_S} {P : sP} {T : sT}
theorem cm.h (c : cm σ P T) : σ 0 0 = nI (qH P) := c.1.1
theorem cm.n (c : cm σ P T) : σ 0 1 = nI (qn P) := c.1.2.1
theorem cm.w (c : cm σ P T) : σ 0 3 = nI (qW P) := c.1.2.2.1
theorem cm.kd (c : cm σ P T) {p : Nat} (hp : p < qn P) : σ 1 p = nI (qk P p) := c.1.2.2.2.1 p hp
theorem cm.ws (c : cm σ P T) {w : Nat} (hp : w < qW P) : σ 2 (2 * w) = nI (qs P w) := (c.1.2.2.2.2 w hp).1
theorem cm.wd (c : cm σ P T) {w : Nat} (hp : w < qW P) : σ 2 (2 * w + 1) = nI (qd P w) := (c.1.2.2.2.2 w hp).2
theorem cm.yr (c : cm σ P T) : σ 12 0 = nI (uY T) := c.2.1.1
theorem cm.go (c : cm σ P T) : σ 12 1 = nI (bs (uG T) (qn P)) := c.2.1.2.1
theorem cm.ca (c : cm σ P T) : σ 12 2 = nI (bs (uC T) (qn P)) := c.2.1.2.2.1
theorem cm.st (c : cm σ P T) {p : Nat} (hp : p < qn P) : σ 12 (3 + p) = nI (uS T p) := by have := (c.2.1.2.2.2 p hp).1; rwa [Nat.zero_add] at this
theorem cm.ag (c : cm σ P T) {p : Nat} (hp : p < qn P) : σ 12 (9 + p) = nI (uA T p) := by have := (c.2.1.2.2.2 p hp).2.1; rwa [Nat.zero_add] at this
theorem cm.ne (c : cm σ P T) {p : Nat} (hp : p < qn P) : σ 12 (15 + p) = nI (uN T p) := by have := (c.2.1.2.2.2 p hp).2.2; rwa [Nat.zero_add] at this
theorem cm.n6 (c : cm σ P T) : qn P ≤ 6 := c.2.2.1.2.2.1
theorem cm.W5 (c : cm σ P T) : qW P ≤ 5 := c.2.2.1.2.2.2.2.1
theorem cm.h2 (c : cm σ P T) : 2 ≤ qH P := c.2.2.1.1
theorem cm.h10 (c : cm σ P T) : qH P ≤ 10 := c.2.2.1.2.1
theorem cm.k4 (c : cm σ P T) {p : Nat} (hp : p < qn P) : qk P p < 4 := c.2.2.1.2.2.2.1 p hp
theorem cm.wsH (c : cm σ P T) {w : Nat} (hp : w < qW P) : qs P w < qH P := (c.2.2.1.2.2.2.2.2 w hp).1
theorem cm.wd4 (c : cm σ P T) {w : Nat} (hp : w < qW P) : 1 ≤ qd P w ∧ qd P w ≤ 4 := (c.2.2.1.2.2.2.2.2 w hp).2
theorem cm.sH (c : cm σ P T) {p : Nat} (hp : p < qn P) : uS T p < qH P := (c.2.2.2.2 p hp).1
theorem cm.a99 (c : cm σ P T) {p : Nat} (hp : p < qn P) : uA T p ≤ 99 := (c.2.2.2.2 p hp).2.1
theorem cm.n30 (c : cm σ P T) {p : Nat} (hp : p < qn P) : uN T p ≤ 30 := (c.2.2.2.2 p hp).2.2
end CM
theorem e3p (p : Nat) : (3 : Int32) + nI p = nI (3 + p) := by rw [k3, nI_add]
theorem e9p (p : Nat) : (9 : Int32) + nI p = nI (9 + p) := by rw [k9, nI_add]
theorem e15p (p : Nat) : (15 : Int32) + nI p = nI (15 + p) := by rw [k15, nI_add]
theorem e2w (w : Nat) : (2 : Int32) * nI w = nI (2 * w) := by rw [k2, pk_mul]
theorem i21 {i : Nat} (h : i < 21) : vp_in (nI i) 21 := vp_in_nI h (by omega)
theorem i10 {i : Nat} (h : i < 10) : vp_in (nI i) 10 := vp_in_nI h (by omega)
theorem bt_oo {a b : Nat} (ha : a < 64) (hb : b < 64) : nI a ||| nI b = nI (a ||| b) := by
  have h : ∀ a : Fin 64, ∀ b : Fin 64, nI a.1 ||| nI b.1 = nI (a.1 ||| b.1) := by decide +kernel
  exact h ⟨a, ha⟩ ⟨b, hb⟩
theorem bt_o0 {a : Nat} (ha : a < 64) : nI a ||| 0 = nI a := by
  have := bt_oo ha (show 0 < 64 by omega)
  rw [Nat.or_zero] at this
  exact this
theorem or64 {a b : Nat} (ha : a < 64) (hb : b < 64) : a ||| b < 64 := Nat.or_lt_two_pow (n := 6) ha hb
theorem ym_in {K : Int32 → ts_S → Prop} {σ : ts_S} {a lo hi : Int32} (hk : K (nB (win a lo hi)) σ) : wp_X10_in K σ a lo hi := by
  unfold wp_X10_in
  unfold win at hk
  by_cases h1 : a < lo
  · rw [if_pos h1]
    have : ¬ (lo ≤ a ∧ a ≤ hi) := fun h => absurd h.1 (Int32.not_le.mpr h1)
    rw [decide_eq_false this] at hk
    exact ⟨zb0, hk⟩
  · rw [if_neg h1]
    by_cases h2 : hi < a
    · rw [if_pos h2]
      have : ¬ (lo ≤ a ∧ a ≤ hi) := fun h => absurd h.2 (Int32.not_le.mpr h2)
      rw [decide_eq_false this] at hk
      exact ⟨zb0, hk⟩
    · rw [if_neg h2]
      rw [decide_eq_true ⟨Int32.not_lt.mp h1, Int32.not_lt.mp h2⟩] at hk
      exact ⟨zb1, hk⟩
theorem ym_has {K : Int32 → ts_S → Prop} {σ : ts_S} {m i : Nat} (hm : m < 1024) (hi : i < 10) (hk : K (nB (m.testBit i)) σ) : wp_X10_has K σ (nI m) (nI i) := by
  unfold wp_X10_has
  rw [bt_has i hi m hm]
  cases h : m.testBit i <;> rw [h] at hk
  · exact ⟨zb0, hk⟩
  · exact ⟨zb1, hk⟩
theorem sub2 {a c : Nat} (ha : a < 20) (hc : c < 7) : nI a - nI (2 * c) - 2 = nI a - nI (2 * (c + 1)) ∧ nI a - nI (2 * c) - 0 = nI a - nI (2 * c) := by
  have h : ∀ a : Fin 20, ∀ c : Fin 7, nI a.1 - nI (2 * c.1) - 2 = nI a.1 - nI (2 * (c.1 + 1)) ∧ nI a.1 - nI (2 * c.1) - 0 = nI a.1 - nI (2 * c.1) := by decide +kernel
  exact h ⟨a, ha⟩ ⟨c, hc⟩
theorem ym_fearAs {K : Int32 → ts_S → Prop} {σ : ts_S} {P : sP} {T : sT} (c : cm σ P T) {kd p s : Nat} (hkd : kd < 4) (hp : p < qn P) (hs : s < qH P) (hk : K (nI (fea P T kd p s)) σ) : wp_X10_fearAs K σ (nI p) (nI s) (nI kd) := by
  have h6 := c.n6
  have h10 := c.h10
  have ha := c.a99 hp
  have hg64 := bs_64 (uG T) h6
  unfold wp_X10_fearAs
  have e : (nI (qH P) - 1) - nI s = nI (qH P - 1 - s) := by rw [k1, pk_sub (by omega), pk_sub (by omega)]
  rw [c.h, e, e2w, e9p, nI_clamp (by omega), c.ag hp]
  unfold fea fam at hk
  by_cases c1 : kd = 1
  · rw [if_pos (by rw [c1]; rfl)]
    rw [if_pos c1] at hk
    refine ⟨by decide, ?_⟩
    rw [k2, pk_div (by omega) (by omega) (by omega), Nat.mul_div_cancel_left _ (by omega)]
    exact hk
  rw [if_neg (by rw [k1, eqI (by omega) (by omega)]; exact c1)]
  rw [if_neg c1] at hk
  by_cases c2 : kd = 2
  · rw [if_pos (by rw [c2]; rfl)]
    rw [if_pos c2] at hk
    refine ⟨i21 (by omega), ?_⟩
    by_cases c3 : 20 ≤ uA T p
    · rw [if_pos (by rw [k20]; exact nI_le c3 (by omega))]
      refine ⟨i21 (by omega), by decide, ?_⟩
      rw [k20, k5, pk_sub c3, pk_div (by omega) (by omega) (by omega), nI_add]; exact hk
    · rw [if_neg (by rw [k20]; exact nI_ge (by omega) (by omega))]
      rw [show (uA T p - 20) / 5 = 0 by omega, Nat.add_zero] at hk; exact hk
  rw [if_neg (by rw [k2, eqI (by omega) (by omega)]; exact c2)]
  rw [if_neg c2] at hk
  unfold wp_X10_fearAs_l67
  intro X hX
  have j130 : ∀ cc, cc < 7 → K (nI (2 * (qH P - 1 - s) - 2 * cc)) σ → wp_X10_fearAs_j130 K (nI p) (nI s) (nI kd) σ (nI (2 * (qH P - 1 - s)) - nI (2 * cc)) := by
    intro cc hcc hk
    unfold wp_X10_fearAs_j130
    by_cases d : 2 * cc ≤ 2 * (qH P - 1 - s)
    · rw [pk_sub d, if_pos (by rw [k0]; exact nI_le (by omega) (by omega))]; exact hk
    · rw [if_neg (by rw [k0, le_subI (by omega) (by omega) (by omega)]; omega)]
      rw [show 2 * (qH P - 1 - s) - 2 * cc = 0 by omega] at hk; exact hk
  have z0 : nI (2 * (qH P - 1 - s)) = nI (2 * (qH P - 1 - s)) - nI (2 * 0) := by rw [pk_sub (by omega)]; rfl
  by_cases c3 : kd = 3
  · subst c3
    rw [if_pos rfl] at hk
    rw [z0]
    refine ts_down (P := fun i => X σ (nI (2 * (qH P - 1 - s)) - nI (2 * cn (fun q => decide (q ≠ p) && (!uG T q && decide (uS T q = s))) i)) (nI i)) (qn P) ?_ ?_
    · apply hX; unfold wp_X10_fearAs_b67
      rw [c.n, if_pos (nI_le (Nat.le_refl _) (by omega))]
      have hl := oth_le P T p s
      refine j130 (oth P T p s) (by omega) ?_
      rw [← Nat.mul_sub]; exact hk
    · intro i hi ih
      apply hX; unfold wp_X10_fearAs_b67
      have hcl := cn_le (fun q => decide (q ≠ p) && (!uG T q && decide (uS T q = s))) i
      have hsi := c.sH hi
      obtain ⟨u1, u2⟩ := sub2 (a := 2 * (qH P - 1 - s)) (c := cn (fun q => decide (q ≠ p) && (!uG T q && decide (uS T q = s))) i) (by omega) (by omega)
      rw [c.n, if_neg (nI_ge hi (by omega)), if_pos (by rfl), nI_1, u1, u2, e3p, nI_clamp (by omega), c.st hi, cl1, c.go]
      by_cases d1 : i = p
      · rw [if_pos (by rw [d1])]
        rw [cn_f (by simp [d1])] at ih; exact ih
      · rw [if_neg (by rw [eqI (by omega) (by omega)]; exact d1)]
        refine ⟨i21 (by omega), ?_⟩
        by_cases d3 : uS T i = s
        · rw [if_pos (by rw [d3])]
          refine ⟨i21 (i := 1) (by omega), ym_has (by omega) (by omega) ?_⟩
          rw [bs_bit, decide_eq_true hi, Bool.true_and]
          cases d2 : uG T i
          · simp only [itB0]; rw [cn_t (by simp [d1, d2, d3])] at ih; exact ih
          · simp only [itB1]; rw [cn_f (by simp [d2])] at ih; exact ih
        · rw [if_neg (by rw [eqI (by omega) (by omega)]; exact d3)]
          rw [cn_f (by simp [d3])] at ih; exact ih
  · rw [if_neg c3] at hk
    apply hX; unfold wp_X10_fearAs_b67
    have h1 : ¬ qn P ≤ 0 := by omega
    rw [c.n, if_neg (by rw [k0]; exact nI_ge (by omega) (by omega)), if_neg (by rw [k3, eqI (by omega) (by omega)]; exact c3), z0]
    exact j130 0 (by omega) (by rw [Nat.mul_zero, Nat.sub_zero]; exact hk)
theorem ym_fearOf {K : Int32 → ts_S → Prop} {σ : ts_S} {P : sP} {T : sT} (c : cm σ P T) {p : Nat} (hp : p < qn P) (hk : K (nI (fea P T (qk P p) p (uS T p))) σ) : wp_X10_fearOf K σ (nI p) := by
  have h6 := c.n6
  unfold wp_X10_fearOf
  rw [e3p, nI_clamp (by omega), c.st hp, cl6 hp h6, c.kd hp]
  exact ⟨i21 (by omega), in6 hp h6, ym_fearAs c (c.k4 hp) hp (c.sH hp) hk⟩
theorem ym_frozen {K : Int32 → ts_S → Prop} {σ : ts_S} {P : sP} {T : sT} (c : cm σ P T) (hk : K (nI (bs (frz P T) (qn P))) σ) : wp_X10_frozen K σ := by
  have h6 := c.n6
  have hg64 := bs_64 (uG T) h6
  unfold wp_X10_frozen wp_X10_frozen_l4
  intro X hX
  refine ts_down (P := fun i => X σ (nI (bs (frz P T) i)) (nI i)) (qn P) ?_ ?_
  · apply hX; unfold wp_X10_frozen_b4
    rw [c.n, if_pos (nI_le (Nat.le_refl _) (by omega))]; exact hk
  · intro i hi ih
    apply hX; unfold wp_X10_frozen_b4
    have hf := fea_le c.2.2.1 c.2.2.2 (qk P i) i (uS T i) hi
    have hn := c.n30 hi
    have hz := bs_64 (frz P T) (show i ≤ 6 by omega)
    rw [c.n, if_neg (nI_ge hi (by omega)), cl1, c.go]
    refine ⟨i21 (i := 1) (by omega), ym_has (by omega) (by omega) ?_⟩
    rw [bs_bit, decide_eq_true hi, Bool.true_and]
    cases dg : uG T i
    · simp only [itB0]
      refine ym_fearOf c hi ?_
      rw [e15p, nI_clamp (by omega), c.ne hi, nI_1, bt_o0 hz]
      refine ⟨i21 (by omega), ?_⟩
      by_cases d : fea P T (qk P i) i (uS T i) ≤ uN T i
      · rw [if_pos (nI_le d (by omega))]
        rw [bs_f (by simp [frz, dg]; omega)] at ih; exact ih
      · rw [if_neg (nI_ge (by omega) (by omega)), bt_or i (by omega) _ (by omega)]
        rw [bs_t (by simp [frz, dg]; omega)] at ih; exact ih
    · simp only [itB1]
      rw [bt_o0 hz, nI_1]
      rw [bs_f (by simp [frz, dg])] at ih; exact ih
theorem frz_std {P : sP} {T : sT} (p : Nat) : std P T p = (!frz P T p && !uG T p) := by
  unfold std frz
  cases uG T p
  · by_cases d : fea P T (qk P p) p (uS T p) ≤ uN T p
    · simp [d, Nat.not_lt.mpr d]
    · simp [d, Nat.not_le.mp d]
  · simp
theorem fg_bit {P : sP} {T : sT} {p : Nat} (hp : p < qn P) : (bs (frz P T) (qn P) ||| bs (uG T) (qn P)).testBit p = !std P T p := by
  rw [Nat.testBit_or, bs_bit, bs_bit, decide_eq_true hp, Bool.true_and, Bool.true_and, frz_std]
  simp
theorem ym_isDone {K : Int32 → ts_S → Prop} {σ : ts_S} {P : sP} {T : sT} (c : cm σ P T) {w : Nat} (hw : w < qW P) (hk : K (nB (don P T w)) σ) : wp_X10_isDone K σ (nI w) (nI (bs (frz P T) (qn P))) := by
  have h6 := c.n6
  have h5 := c.W5
  have hd := c.wd4 hw
  have hh := c.wsH hw
  have h10 := c.h10
  have hg64 := bs_64 (uG T) h6
  have hf64 := bs_64 (frz P T) h6
  unfold wp_X10_isDone wp_X10_isDone_l5
  intro X hX
  refine ts_down (P := fun i => X σ (nI (cn (fun p => std P T p && decide (uS T p = qs P w)) i)) (nI i)) (qn P) ?_ ?_
  · apply hX; unfold wp_X10_isDone_b5
    rw [c.n, if_pos (nI_le (Nat.le_refl _) (by omega)), e2w, nI_1, nI_clamp (by omega), c.wd hw]
    refine ⟨i10 (by omega), ?_⟩
    have hcn := cn_le (fun p => std P T p && decide (uS T p = qs P w)) (qn P)
    by_cases d : cn (fun p => std P T p && decide (uS T p = qs P w)) (qn P) < qd P w
    · rw [if_pos (nI_lt d (by omega))]
      rw [show don P T w = false by simp [don]; omega] at hk; exact ⟨zb0, hk⟩
    · rw [if_neg (nI_nlt (Nat.not_lt.mp d) (by omega))]
      rw [show don P T w = true by simp [don]; omega] at hk; exact ⟨zb1, hk⟩
  · intro i hi ih
    apply hX; unfold wp_X10_isDone_b5
    have hs := c.sH hi
    rw [c.n, if_neg (nI_ge hi (by omega)), e3p, nI_clamp (by omega), c.st hi, e2w, nI_clamp (by omega), c.ws hw, k0, nI_add, Nat.add_zero, cl1, c.go, bt_oo hf64 hg64]
    simp only [nI_1]
    refine ⟨i21 (by omega), i10 (by omega), ?_⟩
    by_cases d2 : uS T i = qs P w
    · rw [if_pos (by rw [d2])]
      refine ⟨i21 (i := 1) (by omega), ym_has (by have := or64 hf64 hg64; omega) (by omega) ?_⟩
      rw [fg_bit hi]
      cases d : std P T i
      · rw [cn_f (by simp [d])] at ih
        show if (1 : Int32) = 0 then _ else _
        rw [if_neg (by decide)]; exact ih
      · rw [cn_t (by simp [d, d2])] at ih
        show if (0 : Int32) = 0 then _ else _
        rw [if_pos rfl]; exact ih
    · rw [if_neg (by rw [eqI (by omega) (by omega)]; exact d2)]
      rw [cn_f (by simp [d2])] at ih; exact ih
theorem ym_done {K : Int32 → ts_S → Prop} {σ : ts_S} {P : sP} {T : sT} (c : cm σ P T) (hk : K (nI (dnm P T)) σ) : wp_X10_done K σ := by
  have h5 := c.W5
  unfold wp_X10_done
  refine ym_frozen c ?_
  unfold wp_X10_done_l9
  intro X hX
  refine ts_down (P := fun i => X σ (nI (cn (don P T) i)) (nI i)) (qW P) ?_ ?_
  · apply hX; unfold wp_X10_done_b9
    rw [c.w, if_pos (nI_le (Nat.le_refl _) (by omega))]; exact hk
  · intro i hi ih
    apply hX; unfold wp_X10_done_b9
    rw [c.w, if_neg (nI_ge hi (by omega))]
    refine ym_isDone c hi ?_
    cases d : don P T i
    · rw [cn_f d] at ih; simp only [itB0, nI_1]; rw [k0, nI_add, Nat.add_zero]; exact ih
    · rw [cn_t d] at ih; simp only [itB1, nI_1]; exact ih
