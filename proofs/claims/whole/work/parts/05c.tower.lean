section CX
variable {σ : ts_S} {t : Nat} {P : sP} {T : sT}
theorem cx.h (c : cx σ t P T) : σ (tX_pl t) 0 = nI (qH P) := c.1.1
theorem cx.n (c : cx σ t P T) : σ (tX_pl t) 1 = nI (qn P) := c.1.2.1
theorem cx.w (c : cx σ t P T) : σ (tX_pl t) 2 = nI (qW P) := c.1.2.2.1
theorem cx.kd (c : cx σ t P T) {p : Nat} (hp : p < qn P) : σ (tX_pl t + 1) p = nI (qk P p) := c.1.2.2.2.1 p hp
theorem cx.ws (c : cx σ t P T) {w : Nat} (hp : w < qW P) : σ (tX_pl t + 2) w = nI (qs P w) := (c.1.2.2.2.2 w hp).1
theorem cx.wd (c : cx σ t P T) {w : Nat} (hp : w < qW P) : σ (tX_pl t + 3) w = nI (qd P w) := (c.1.2.2.2.2 w hp).2
theorem cx.yr (c : cx σ t P T) : σ t 6 = nI (uY T) := c.2.1.1
theorem cx.st (c : cx σ t P T) {p : Nat} (hp : p < qn P) : σ (t + 1) p = nI (uS T p) := (c.2.1.2 p hp).1
theorem cx.ag (c : cx σ t P T) {p : Nat} (hp : p < qn P) : σ (t + 2) p = nI (uA T p) := (c.2.1.2 p hp).2.1
theorem cx.ne (c : cx σ t P T) {p : Nat} (hp : p < qn P) : σ (t + 3) p = nI (uN T p) := (c.2.1.2 p hp).2.2.1
theorem cx.go (c : cx σ t P T) {p : Nat} (hp : p < qn P) : σ (t + 4) p = nB (uG T p) := (c.2.1.2 p hp).2.2.2.1
theorem cx.ca (c : cx σ t P T) {p : Nat} (hp : p < qn P) : σ (t + 5) p = nB (uC T p) := (c.2.1.2 p hp).2.2.2.2
theorem cx.n6 (c : cx σ t P T) : qn P ≤ 6 := c.2.2.1.2.2.1
theorem cx.W5 (c : cx σ t P T) : qW P ≤ 5 := c.2.2.1.2.2.2.2.1
theorem cx.h2 (c : cx σ t P T) : 2 ≤ qH P := c.2.2.1.1
theorem cx.h10 (c : cx σ t P T) : qH P ≤ 10 := c.2.2.1.2.1
theorem cx.k4 (c : cx σ t P T) {p : Nat} (hp : p < qn P) : qk P p < 4 := c.2.2.1.2.2.2.1 p hp
theorem cx.wsH (c : cx σ t P T) {w : Nat} (hp : w < qW P) : qs P w < qH P := (c.2.2.1.2.2.2.2.2 w hp).1
theorem cx.wd4 (c : cx σ t P T) {w : Nat} (hp : w < qW P) : 1 ≤ qd P w ∧ qd P w ≤ 4 := (c.2.2.1.2.2.2.2.2 w hp).2
theorem cx.sH (c : cx σ t P T) {p : Nat} (hp : p < qn P) : uS T p < qH P := (c.2.2.2.2 p hp).1
theorem cx.a99 (c : cx σ t P T) {p : Nat} (hp : p < qn P) : uA T p ≤ 99 := (c.2.2.2.2 p hp).2.1
theorem cx.n30 (c : cx σ t P T) {p : Nat} (hp : p < qn P) : uN T p ≤ 30 := (c.2.2.2.2 p hp).2.2
theorem cx.y4 (c : cx σ t P T) : uY T < 10000 := c.2.2.2.1
end CX
theorem in6 {i n : Nat} (h : i < n) (hn : n ≤ 6) : vp_in (nI i) 6 := vp_in_nI (by omega) (by omega)
theorem in5 {i n : Nat} (h : i < n) (hn : n ≤ 5) : vp_in (nI i) 5 := vp_in_nI (by omega) (by omega)
theorem cl6 {i n : Nat} (h : i < n) (hn : n ≤ 6) : (nI i).toNatClampNeg = i := nI_clamp (by omega)
theorem eqI {a b : Nat} (ha : a < 1000000) (hb : b < 1000000) : (nI a = nI b) = (a = b) := propext (nI_eq (by omega) (by omega))
theorem leI {a b : Nat} (ha : a < 1000000) (hb : b < 1000000) : (nI a ≤ nI b) = (a ≤ b) := propext (nI_leI (by omega) (by omega))
theorem ltI {a b : Nat} (ha : a < 1000000) (hb : b < 1000000) : (nI a < nI b) = (a < b) := propext (nI_ltI (by omega) (by omega))
theorem sx_within {K : Int32 → ts_S → Prop} {σ : ts_S} {a lo hi : Int32} (hk : K (nB (decide (lo ≤ a ∧ a ≤ hi))) σ) : wp_X9_within K σ a lo hi := by
  unfold wp_X9_within
  by_cases h1 : a < lo
  · rw [if_pos h1]
    have : ¬ (lo ≤ a ∧ a ≤ hi) := fun h => absurd h.1 (Int32.not_le.mpr h1)
    rw [decide_eq_false this] at hk
    exact ⟨zb0, hk⟩
  · rw [if_neg h1]
    by_cases h2 : hi < a
    · rw [if_pos h2]
      have : ¬ (lo ≤ a ∧ a ≤ hi) := fun h => absurd h.2 (Int32.not_le.mpr h2)
      rw [decide_eq_false this] at hk
      exact ⟨zb0, hk⟩
    · rw [if_neg h2]
      rw [decide_eq_true ⟨Int32.not_lt.mp h1, Int32.not_lt.mp h2⟩] at hk
      exact ⟨zb1, hk⟩
theorem sx_asNumber {K : Int32 → ts_S → Prop} {σ : ts_S} {b : Bool} (hk : K (nB b) σ) : wp_X9_asNumber K σ (nB b) := by
  unfold wp_X9_asNumber
  cases b
  · exact hk
  · exact hk
theorem sx_hasBit {K : Int32 → ts_S → Prop} {σ : ts_S} {m i : Nat} (hm : m < 1024) (hi : i < 10) (hk : K (nB (m.testBit i)) σ) : wp_X9_hasBit K σ (nI m) (nI i) := by
  unfold wp_X9_hasBit
  rw [bt_has i hi m hm]
  cases h : m.testBit i <;> rw [h] at hk
  · exact ⟨zb0, hk⟩
  · exact ⟨zb1, hk⟩
theorem sx_fearAmong {K : Int32 → ts_S → Prop} {σ : ts_S} {t : Nat} {P : sP} (hP : σ (tX_pl t) 0 = nI (qH P)) (wf : wfP P) {o : Int32} {kd a s : Nat} (hkd : kd < 4) (ha : a ≤ 99) (hs : s < qH P) (hk : ∀ r : Int32, (∀ o' : Nat, o = nI o' → o' < 100 → r = nI (fam P o' kd a s)) → K r σ) : wp_X8_fearAmong K σ t o (nI kd) (nI a) (nI s) := by
  unfold wp_X8_fearAmong
  have h10 := wf.2.1
  simp (disch := omega) only [k0, k1, k2, k3, k4, k5, k6, k7, k8, k9, k10, k12, k15, k20, k21, k30, k40, k60, k99, k100, k147, k200, k999, nI_clamp, vp_in_nI, pk_sub, pk_mul, nI_add, pk_div, eqI, leI, ltI, nB_e0, nB_e1, true_and, and_true, ↓reduceIte, hP]
  by_cases c1 : kd = 1
  · rw [if_pos c1]; exact hk _ (fun o' _ _ => by simp [fam, c1])
  rw [if_neg c1]
  by_cases c2 : kd = 2
  · rw [if_pos c2]
    by_cases c3 : a ≤ 20
    · rw [if_pos c3]
      refine hk _ (fun o' _ _ => ?_)
      have h0 : (a - 20) / 5 = 0 := by omega
      simp [fam, c2, h0]
    · rw [if_neg c3]
      refine ⟨by decide, hk _ (fun o' _ _ => ?_)⟩
      simp [fam, c2]
  rw [if_neg c2]
  by_cases c3 : kd = 3
  · rw [if_pos c3]
    by_cases c4 : nI (qH P - 1 - s) ≤ o
    · rw [if_pos c4]
      refine hk _ (fun o' ho hl => ?_)
      rw [ho, leI (by omega) (by omega)] at c4
      have : qH P - 1 - s - o' = 0 := by omega
      simp [fam, c3, this, nI_0]
    · rw [if_neg c4]
      refine hk _ (fun o' ho hl => ?_)
      rw [ho, leI (by omega) (by omega)] at c4
      rw [ho]; simp (disch := omega) only [k0, k1, k2, k3, k4, k5, k6, k7, k8, k9, k10, k12, k15, k20, k21, k30, k40, k60, k99, k100, k147, k200, k999, nI_clamp, vp_in_nI, pk_sub, pk_mul, nI_add, pk_div, eqI, leI, ltI, nB_e0, nB_e1, true_and, and_true, ↓reduceIte]; simp [fam, c3]
  · rw [if_neg c3]
    refine hk _ (fun o' _ _ => ?_)
    simp [fam, c1, c2, c3]
theorem sx_fearAs {K : Int32 → ts_S → Prop} {σ : ts_S} {t : Nat} {P : sP} {T : sT} (c : cx σ t P T) {kd p s : Nat} (hkd : kd < 4) (hp : p < qn P) (hs : s < qH P) (hk : K (nI (fea P T kd p s)) σ) : wp_X8_fearAs K σ t (nI kd) (nI p) (nI s) := by
  have h6 := c.n6
  have h10 := c.h10
  have ha := c.a99 hp
  have key : ∀ o : Nat, o < 100 → (kd = 3 → o = oth P T p s) → wp_X8_fearAs_j59 K t (nI kd) (nI p) (nI s) σ (nI o) := by
    intro o ho h3
    unfold wp_X8_fearAs_j59
    simp (disch := omega) only [k0, k1, k2, k3, k4, k5, k6, k7, k8, k9, k10, k12, k15, k20, k21, k30, k40, k60, k99, k100, k147, k200, k999, nI_clamp, vp_in_nI, pk_sub, pk_mul, nI_add, pk_div, eqI, leI, ltI, nB_e0, nB_e1, true_and, and_true, ↓reduceIte, c.ag hp]
    refine sx_fearAmong c.h c.2.2.1 hkd ha hs (fun r hr => ?_)
    rw [hr o rfl ho]
    have e : fam P o kd (uA T p) s = fea P T kd p s := by
      unfold fea
      by_cases c3 : kd = 3
      · rw [h3 c3]
      · exact fam_3 c3
    rw [e]; exact hk
  unfold wp_X8_fearAs wp_X8_fearAs_l6
  intro X hX
  by_cases c3 : kd = 3
  · subst c3
    refine ts_down (P := fun i => X σ (nI (cn (fun q => decide (q ≠ p) && (!uG T q && decide (uS T q = s))) i)) (nI i)) (qn P) ?_ ?_
    · apply hX; unfold wp_X8_fearAs_b6
      have hl := oth_le P T p s
      simp (disch := omega) only [k0, k1, k2, k3, k4, k5, k6, k7, k8, k9, k10, k12, k15, k20, k21, k30, k40, k60, k99, k100, k147, k200, k999, nI_clamp, vp_in_nI, pk_sub, pk_mul, nI_add, pk_div, eqI, leI, ltI, nB_e0, nB_e1, true_and, and_true, ↓reduceIte, c.n, Nat.le_refl]
      exact key (oth P T p s) (by omega) (fun _ => rfl)
    · intro i hi ih
      apply hX; unfold wp_X8_fearAs_b6
      have hsi := c.sH hi
      have hni : ¬ qn P ≤ i := by omega
      simp (disch := omega) only [k0, k1, k2, k3, k4, k5, k6, k7, k8, k9, k10, k12, k15, k20, k21, k30, k40, k60, k99, k100, k147, k200, k999, nI_clamp, vp_in_nI, pk_sub, pk_mul, nI_add, pk_div, eqI, leI, ltI, nB_e0, nB_e1, true_and, and_true, ↓reduceIte, c.n, c.go hi, c.st hi, hni]
      by_cases d1 : i = p
      · rw [if_pos d1]; simpa [cn, d1] using ih
      rw [if_neg d1]
      cases d2 : uG T i
      · by_cases d3 : uS T i = s
        · simp only [d3, ↓reduceIte]; simpa [cn, d1, d2, d3] using ih
        · simp only [d3, ↓reduceIte]; simpa [cn, d1, d2, d3] using ih
      · simp only [reduceCtorEq, ↓reduceIte]; simpa [cn, d1, d2] using ih
  · apply hX; unfold wp_X8_fearAs_b6
    simp (disch := omega) only [k0, k1, k2, k3, k4, k5, k6, k7, k8, k9, k10, k12, k15, k20, k21, k30, k40, k60, k99, k100, k147, k200, k999, nI_clamp, vp_in_nI, pk_sub, pk_mul, nI_add, pk_div, eqI, leI, ltI, nB_e0, nB_e1, true_and, and_true, ↓reduceIte, c3]
    exact key 0 (by omega) (fun h => absurd h c3)
theorem sx_fearOn {K : Int32 → ts_S → Prop} {σ : ts_S} {t : Nat} {P : sP} {T : sT} (c : cx σ t P T) {p s : Nat} (hp : p < qn P) (hs : s < qH P) (hk : K (nI (fea P T (qk P p) p s)) σ) : wp_X8_fearOn K σ t (nI p) (nI s) := by
  have h6 := c.n6
  unfold wp_X8_fearOn
  simp (disch := omega) only [k0, k1, k2, k3, k4, k5, k6, k7, k8, k9, k10, k12, k15, k20, k21, k30, k40, k60, k99, k100, k147, k200, k999, nI_clamp, vp_in_nI, pk_sub, pk_mul, nI_add, pk_div, eqI, leI, ltI, nB_e0, nB_e1, true_and, and_true, ↓reduceIte, c.kd hp]
  exact sx_fearAs c (c.k4 hp) hp hs hk
theorem sx_isFrozen {K : Int32 → ts_S → Prop} {σ : ts_S} {t : Nat} {P : sP} {T : sT} (c : cx σ t P T) {p : Nat} (hp : p < qn P) (hk : K (nB (frz P T p)) σ) : wp_X8_isFrozen K σ t (nI p) := by
  have h6 := c.n6
  unfold wp_X8_isFrozen
  have hf := fea_le c.2.2.1 c.2.2.2 (qk P p) p (uS T p) hp
  have hn := c.n30 hp
  simp (disch := omega) only [k0, k1, k2, k3, k4, k5, k6, k7, k8, k9, k10, k12, k15, k20, k21, k30, k40, k60, k99, k100, k147, k200, k999, nI_clamp, vp_in_nI, pk_sub, pk_mul, nI_add, pk_div, eqI, leI, ltI, nB_e0, nB_e1, true_and, and_true, ↓reduceIte, c.kd hp, c.go hp, c.st hp, c.ne hp]
  cases d2 : uG T p
  · simp only [↓reduceIte]
    refine sx_fearAs c (c.k4 hp) hp (c.sH hp) ?_
    rw [c.ne hp]
    by_cases d : fea P T (qk P p) p (uS T p) ≤ uN T p
    · rw [if_pos (nI_le d (by omega))]
      rw [show frz P T p = false by simp [frz, d2]; omega] at hk; exact ⟨zb0, hk⟩
    · rw [if_neg (nI_ge (Nat.not_le.mp d) (by omega))]
      rw [show frz P T p = true by simp [frz, d2]; omega] at hk; exact ⟨zb1, hk⟩
  · simp only [reduceCtorEq, ↓reduceIte]
    rw [show frz P T p = false by simp [frz, d2]] at hk; exact ⟨zb0, hk⟩
theorem sx_isSteady {K : Int32 → ts_S → Prop} {σ : ts_S} {t : Nat} {P : sP} {T : sT} (c : cx σ t P T) {p : Nat} (hp : p < qn P) (hk : K (nB (std P T p)) σ) : wp_X8_isSteady K σ t (nI p) := by
  have h6 := c.n6
  unfold wp_X8_isSteady
  have hf := fea_le c.2.2.1 c.2.2.2 (qk P p) p (uS T p) hp
  have hn := c.n30 hp
  simp (disch := omega) only [k0, k1, k2, k3, k4, k5, k6, k7, k8, k9, k10, k12, k15, k20, k21, k30, k40, k60, k99, k100, k147, k200, k999, nI_clamp, vp_in_nI, pk_sub, pk_mul, nI_add, pk_div, eqI, leI, ltI, nB_e0, nB_e1, true_and, and_true, ↓reduceIte, c.kd hp, c.go hp, c.st hp, c.ne hp]
  cases d2 : uG T p
  · simp only [↓reduceIte]
    refine sx_fearAs c (c.k4 hp) hp (c.sH hp) ?_
    rw [c.ne hp]
    by_cases d : uN T p < fea P T (qk P p) p (uS T p)
    · rw [if_pos (nI_lt d (by omega))]
      rw [show std P T p = false by simp [std, d2]; omega] at hk; exact ⟨zb0, hk⟩
    · rw [if_neg (nI_nlt (Nat.not_lt.mp d) (by omega))]
      rw [show std P T p = true by simp [std, d2]; omega] at hk; exact ⟨zb1, hk⟩
  · simp only [reduceCtorEq, ↓reduceIte]
    rw [show std P T p = false by simp [std, d2]] at hk; exact ⟨zb0, hk⟩
theorem bs_t {f : Nat → Bool} {i : Nat} (h : f i = true) : bs f (i + 1) = bs f i ||| 2 ^ i := by simp [bs, h]
theorem bs_f {f : Nat → Bool} {i : Nat} (h : f i = false) : bs f (i + 1) = bs f i := by simp [bs, h]
theorem cn_t {f : Nat → Bool} {i : Nat} (h : f i = true) : cn f (i + 1) = cn f i + 1 := by simp [cn, h]
theorem cn_f {f : Nat → Bool} {i : Nat} (h : f i = false) : cn f (i + 1) = cn f i := by simp [cn, h]
theorem bs_64 (f : Nat → Bool) {n : Nat} (h : n ≤ 6) : bs f n < 64 := Nat.lt_of_lt_of_le (bs_lt f n) (Nat.pow_le_pow_right (by decide) h)
theorem sx_frozenBits {K : Int32 → ts_S → Prop} {σ : ts_S} {t : Nat} {P : sP} {T : sT} (c : cx σ t P T) (hk : K (nI (bs (frz P T) (qn P))) σ) : wp_X8_frozenBits K σ t := by
  have h6 := c.n6
  unfold wp_X8_frozenBits wp_X8_frozenBits_l4
  intro X hX
  refine ts_down (P := fun i => X σ (nI (bs (frz P T) i)) (nI i)) (qn P) ?_ ?_
  · apply hX; unfold wp_X8_frozenBits_b4
    rw [c.n, if_pos (nI_le (Nat.le_refl _) (by omega))]; exact hk
  · intro i hi ih
    apply hX; unfold wp_X8_frozenBits_b4
    rw [c.n, if_neg (nI_ge hi (by omega))]
    refine sx_isFrozen c hi ?_
    cases d : frz P T i
    · rw [bs_f d] at ih; simp only [itB0, nI_1]; exact ih
    · rw [bs_t d] at ih
      rw [bt_or i (by omega) _ (by have := bs_64 (frz P T) (show i ≤ 6 by omega); omega)]; simp only [itB1, nI_1]; exact ih
theorem sx_steadyBits {K : Int32 → ts_S → Prop} {σ : ts_S} {t : Nat} {P : sP} {T : sT} (c : cx σ t P T) (hk : K (nI (bs (std P T) (qn P))) σ) : wp_X8_steadyBits K σ t := by
  have h6 := c.n6
  unfold wp_X8_steadyBits wp_X8_steadyBits_l4
  intro X hX
  refine ts_down (P := fun i => X σ (nI (bs (std P T) i)) (nI i)) (qn P) ?_ ?_
  · apply hX; unfold wp_X8_steadyBits_b4
    rw [c.n, if_pos (nI_le (Nat.le_refl _) (by omega))]; exact hk
  · intro i hi ih
    apply hX; unfold wp_X8_steadyBits_b4
    rw [c.n, if_neg (nI_ge hi (by omega))]
    refine sx_isSteady c hi ?_
    cases d : std P T i
    · rw [bs_f d] at ih; simp only [itB0, nI_1]; exact ih
    · rw [bs_t d] at ih
      rw [bt_or i (by omega) _ (by have := bs_64 (std P T) (show i ≤ 6 by omega); omega)]; simp only [itB1, nI_1]; exact ih
theorem sx_isDone {K : Int32 → ts_S → Prop} {σ : ts_S} {t : Nat} {P : sP} {T : sT} (c : cx σ t P T) {w : Nat} (hw : w < qW P) (hk : K (nB (don P T w)) σ) : wp_X8_isDone K σ t (nI w) (nI (bs (std P T) (qn P))) := by
  have h6 := c.n6
  have h5 := c.W5
  have hd := c.wd4 hw
  have hh := c.wsH hw
  have h10 := c.h10
  unfold wp_X8_isDone wp_X8_isDone_l5
  intro X hX
  refine ts_down (P := fun i => X σ (nI (cn (fun p => std P T p && decide (uS T p = qs P w)) i)) (nI i)) (qn P) ?_ ?_
  · apply hX; unfold wp_X8_isDone_b5
    rw [c.n, if_pos (nI_le (Nat.le_refl _) (by omega))]
    refine ⟨in5 hw h5, ?_⟩
    rw [cl6 hw (by omega), c.wd hw]
    have hcn := cn_le (fun p => std P T p && decide (uS T p = qs P w)) (qn P)
    by_cases d : cn (fun p => std P T p && decide (uS T p = qs P w)) (qn P) < qd P w
    · rw [if_pos (nI_lt d (by omega))]
      rw [show don P T w = false by simp [don]; omega] at hk; exact ⟨zb0, hk⟩
    · rw [if_neg (nI_nlt (Nat.not_lt.mp d) (by omega))]
      rw [show don P T w = true by simp [don]; omega] at hk; exact ⟨zb1, hk⟩
  · intro i hi ih
    apply hX; unfold wp_X8_isDone_b5
    rw [c.n, if_neg (nI_ge hi (by omega))]
    have hs := c.sH hi
    refine sx_hasBit (by have := bs_64 (std P T) h6; omega) (by omega) ?_
    rw [bs_bit, decide_eq_true hi, Bool.true_and]
    cases d : std P T i
    · rw [cn_f (by simp [d])] at ih; simp only [itB0, nI_1]; exact ih
    · simp only [itB1, nI_1]; refine ⟨in6 hi h6, in5 hw h5, ?_⟩
      rw [cl6 hi h6, cl6 hw (by omega), c.st hi, c.ws hw]
      by_cases d2 : uS T i = qs P w
      · rw [if_pos (by rw [d2])]; rw [cn_t (by simp [d, d2])] at ih; exact ih
      · rw [if_neg (by rw [eqI (by omega) (by omega)]; exact d2)]; rw [cn_f (by simp [d, d2])] at ih; exact ih
theorem sx_doneMany {K : Int32 → ts_S → Prop} {σ : ts_S} {t : Nat} {P : sP} {T : sT} (c : cx σ t P T) (hk : K (nI (dnm P T)) σ) : wp_X8_doneMany K σ t := by
  have h5 := c.W5
  unfold wp_X8_doneMany
  refine sx_steadyBits c ?_
  unfold wp_X8_doneMany_l9
  intro X hX
  refine ts_down (P := fun i => X σ (nI (cn (don P T) i)) (nI i)) (qW P) ?_ ?_
  · apply hX; unfold wp_X8_doneMany_b9
    rw [c.w, if_pos (nI_le (Nat.le_refl _) (by omega))]; exact hk
  · intro i hi ih
    apply hX; unfold wp_X8_doneMany_b9
    rw [c.w, if_neg (nI_ge hi (by omega))]
    refine sx_isDone c hi ?_
    cases d : don P T i
    · rw [cn_f d] at ih; simp only [itB0, nI_1]; exact ih
    · rw [cn_t d] at ih; simp only [itB1, nI_1]; exact ih
theorem sx_goneMany {K : Int32 → ts_S → Prop} {σ : ts_S} {t : Nat} {P : sP} {T : sT} (c : cx σ t P T) (hk : K (nI (cn (uG T) (qn P))) σ) : wp_X8_goneMany K σ t := by
  have h6 := c.n6
  unfold wp_X8_goneMany wp_X8_goneMany_l4
  intro X hX
  refine ts_down (P := fun i => X σ (nI (cn (uG T) i)) (nI i)) (qn P) ?_ ?_
  · apply hX; unfold wp_X8_goneMany_b4
    rw [c.n, if_pos (nI_le (Nat.le_refl _) (by omega))]; exact hk
  · intro i hi ih
    apply hX; unfold wp_X8_goneMany_b4
    rw [c.n, if_neg (nI_ge hi (by omega)), cl6 hi h6, c.go hi]
    refine ⟨in6 hi h6, sx_asNumber ?_⟩
    cases d : uG T i
    · rw [cn_f d] at ih; rw [show nB false = nI 0 from rfl, nI_add, nI_1]; exact ih
    · rw [cn_t d] at ih; rw [show nB true = nI 1 from rfl, nI_add, nI_1]; exact ih
/-- sum below n -/
def sm (f : Nat → Nat) : Nat → Nat
  | 0 => 0
  | n + 1 => sm f n + f n
def stp (P : sP) (T : sT) : Nat := sm (fun p => if uG T p then 0 else uS T p) (qn P)
theorem sx_stepsTogether {K : Int32 → ts_S → Prop} {σ : ts_S} {t : Nat} {P : sP} {T : sT} (c : cx σ t P T) (hk : K (nI (stp P T)) σ) : wp_X8_stepsTogether K σ t := by
  have h6 := c.n6
  unfold wp_X8_stepsTogether wp_X8_stepsTogether_l4
  intro X hX
  refine ts_down (P := fun i => X σ (nI (sm (fun p => if uG T p then 0 else uS T p) i)) (nI i)) (qn P) ?_ ?_
  · apply hX; unfold wp_X8_stepsTogether_b4
    rw [c.n, if_pos (nI_le (Nat.le_refl _) (by omega))]; exact hk
  · intro i hi ih
    apply hX; unfold wp_X8_stepsTogether_b4
    rw [c.n, if_neg (nI_ge hi (by omega)), cl6 hi h6, c.go hi, c.st hi]
    refine ⟨in6 hi h6, ?_⟩
    cases d : uG T i
    · simp only [itB0]; refine ⟨in6 hi h6, ?_⟩; rw [nI_add, nI_1]; simpa [sm, d] using ih
    · simp only [itB1]; rw [k0, nI_add, nI_1]; simpa [sm, d] using ih
