/-! the reference's posting: one way behind the other -/
def fdr {α : Type} (f : Nat → α → α) : Nat → Nat → α → α
  | 0, _, b => b
  | m + 1, s, b => fdr f m (s + 1) (f s b)
theorem fdr_end {α : Type} (f : Nat → α → α) : ∀ (m s : Nat) (b : α), fdr f (m + 1) s b = f (s + m) (fdr f m s b)
  | 0, _, _ => rfl
  | m + 1, s, b => by
    show fdr f (m + 1) (s + 1) (f s b) = f (s + (m + 1)) (fdr f m (s + 1) (f s b))
    rw [fdr_end f m (s + 1) (f s b), show s + 1 + m = s + (m + 1) by omega]
theorem fdl_fdr {α : Type} (f : Nat → α → α) (b : α) : ∀ m, fdl f m b = fdr f m 0 b
  | 0 => rfl
  | m + 1 => by rw [fdr_end, Nat.zero_add, ← fdl_fdr f b m]; rfl
theorem fdr_skip {α : Type} {f : Nat → α → α} : ∀ (j m s : Nat) (b : α), (∀ i, s ≤ i → i < s + j → ∀ b, f i b = b) → fdr f (j + m) s b = fdr f m (s + j) b
  | 0, m, s, b, _ => by rw [Nat.zero_add]; rfl
  | j + 1, m, s, b, h => by
    rw [show j + 1 + m = (j + m) + 1 by omega]
    show fdr f (j + m) (s + 1) (f s b) = _
    rw [h s (by omega) (by omega), fdr_skip j m (s + 1) b (fun i a c => h i (by omega) (by omega)), show s + 1 + j = s + (j + 1) by omega]
/-- the first from s on -/
def fi (f : Nat → Bool) : Nat → Nat → Nat
  | 0, s => s
  | m + 1, s => if f s then s else fi f m (s + 1)
theorem fi_ge (f : Nat → Bool) : ∀ m s, s ≤ fi f m s ∧ fi f m s ≤ s + m
  | 0, s => ⟨Nat.le_refl s, Nat.le_refl s⟩
  | m + 1, s => by
    unfold fi; split
    · omega
    · have := fi_ge f m (s + 1); omega
theorem fi_t (f : Nat → Bool) : ∀ m s, fi f m s < s + m → f (fi f m s) = true
  | 0, s => by unfold fi; omega
  | m + 1, s => by
    unfold fi; split
    · next h => intro _; exact h
    · intro h; exact fi_t f m (s + 1) (by omega)
theorem fi_f (f : Nat → Bool) : ∀ m s i, s ≤ i → i < fi f m s → f i = false
  | 0, s, i => by unfold fi; omega
  | m + 1, s, i => by
    unfold fi; split
    · omega
    · next h =>
      intro h1 h2
      by_cases e : i = s
      · subst e; simpa using h
      · exact fi_f f m (s + 1) i (by omega) h2
theorem al_lt {P : sP} {T : sT} (w : wfP P) (wt : wfT P T) {p s : Nat} (hp : p < qn P) (h : al P T p s = true) : s < qH P := by
  unfold al at h
  rw [Bool.or_eq_true, Bool.and_eq_true] at h
  rcases h with h | ⟨-, h⟩
  · rw [of_decide_eq_true h]; exact (wt.2 p hp).1
  · obtain ⟨i, hi, e⟩ := exb_iff.mp h
    rw [← of_decide_eq_true e]; exact (w.2.2.2.2.2 i hi).1
def ls (P : sP) (T : sT) (p : Nat) : Nat := fi (al P T p) (qH P) 0
theorem ls_ok {P : sP} {T : sT} (wt : wfT P T) {p : Nat} (hp : p < qn P) : ls P T p < qH P ∧ al P T p (ls P T p) = true ∧ ∀ i, i < ls P T p → al P T p i = false := by
  have h1 : al P T p (uS T p) = true := by unfold al; simp
  have h2 := (wt.2 p hp).1
  have h3 := fi_ge (al P T p) (qH P) 0
  have h4 : ls P T p < qH P := by
    by_cases d : ls P T p < qH P
    · exact d
    · have := fi_f (al P T p) (qH P) 0 (uS T p) (by omega) (by unfold ls at d; omega)
      rw [h1] at this; cases this
  exact ⟨h4, fi_t _ _ _ (by unfold ls at h4; omega), fun i hi => fi_f (al P T p) (qH P) 0 i (by omega) hi⟩
theorem ym_leastOf {K : Int32 → ts_S → Prop} {σ : ts_S} {m s : Nat} (hm : m < 1024) (hs : s < 10) (h1 : m.testBit s = true) (h2 : ∀ i, i < s → m.testBit i = false) (hk : K (nI s) σ) : wp_X10_leastOf K σ (nI m) := by
  unfold wp_X10_leastOf wp_X10_leastOf_l2
  intro X hX
  refine ts_down (P := fun i => X σ (nI i)) s ?_ ?_
  · apply hX; unfold wp_X10_leastOf_b2
    refine ym_has hm hs ?_
    rw [h1]; simp only [itB1]; exact hk
  · intro i hi ih
    apply hX; unfold wp_X10_leastOf_b2
    refine ym_has hm (by omega) ?_
    rw [h2 i hi]; simp only [itB0, nI_1]; exact ih
def mb (P : sP) (T : sT) (p : Nat) : Nat := bs (al P T p) (qH P)
theorem mb_bit {P : sP} {T : sT} (w : wfP P) (wt : wfT P T) {p : Nat} (hp : p < qn P) (s : Nat) : (mb P T p).testBit s = al P T p s := by
  unfold mb; rw [bs_bit]
  cases e : al P T p s
  · simp
  · rw [decide_eq_true (al_lt w wt hp e)]; rfl
theorem mb_lt {P : sP} {T : sT} (w : wfP P) {p : Nat} : mb P T p < 1024 := Nat.lt_of_lt_of_le (bs_lt _ _) (Nat.pow_le_pow_right (n := 2) (by omega) w.2.1)
theorem exb_s (f : Nat → Bool) (n : Nat) : exb f (n + 1) = (exb f n || f n) := rfl
theorem ym_mayBe {K : Int32 → ts_S → Prop} {σ : ts_S} {U : sU} {p : Nat} (w : wfU U) (h : rM σ U) (hp : p < qn (vP U)) (hk : K (nI (mb (vP U) (vT U) p)) σ) : wp_X10_mayBe K σ (nI p) := by
  have h6 : qn (vP U) ≤ 6 := w.1.2.2.1
  have h5 : qW (vP U) ≤ 5 := w.1.2.2.2.2.1
  have h10 : qH (vP U) ≤ 10 := w.1.2.1
  have hs : uS (vT U) p < qH (vP U) := (w.2.2.1.1.2 p hp).1
  have hg64 := bs_64 (uG (vT U)) h6
  unfold wp_X10_mayBe
  rw [e3p, nI_clamp (by omega), (h.r3 hp).1, bt_one (by omega)]
  refine ⟨i21 (by omega), ?_⟩
  unfold wp_X10_mayBe_l13
  intro X hX
  have p10 : ∀ s, s < 10 → 2 ^ s < 1024 := fun s hs => Nat.pow_lt_pow_right (a := 2) (by omega) hs
  have main : ∀ m, m < 1024 → (∀ s, m.testBit s = (decide (s = uS (vT U) p) || (!uG (vT U) p && exb (fun w => decide (qs (vP U) w = s)) 0))) → X σ (nI m) (nI 0) := by
    refine ts_down (P := fun i => ∀ m, m < 1024 → (∀ s, m.testBit s = (decide (s = uS (vT U) p) || (!uG (vT U) p && exb (fun w => decide (qs (vP U) w = s)) i))) → X σ (nI m) (nI i)) (qW (vP U)) ?_ ?_
    · intro m hm hb
      apply hX; unfold wp_X10_mayBe_b13
      rw [h.cw, if_pos (nI_le (Nat.le_refl _) (by omega))]
      have : m = mb (vP U) (vT U) p := by
        apply Nat.eq_of_testBit_eq
        intro s
        rw [hb, mb_bit w.1 w.2.2.1.1 hp]
        rfl
      rw [this]; exact hk
    · intro i hi ih m hm hb
      apply hX; unfold wp_X10_mayBe_b13
      have hwi := (w.1.2.2.2.2.2 i hi).1
      rw [h.cw, if_neg (nI_ge hi (by omega)), cl1, h.g3, e2w, nI_clamp (by omega), nI_1]
      refine ⟨i21 (i := 1) (by omega), ym_has (by omega) (by omega) ?_⟩
      rw [bs_bit, decide_eq_true hp, Bool.true_and]
      cases g : uG (vT U) p
      · simp only [itB0]
        refine ⟨i10 (by omega), ?_⟩
        rw [(h.1.2.2.2.2 i hi).1, bt_or (qs (vP U) i) (by omega) m hm]
        refine ih _ (Nat.or_lt_two_pow (n := 10) hm (p10 _ (by omega))) (fun s => ?_)
        rw [Nat.testBit_or, hb, Nat.testBit_two_pow, exb_s, g]
        simp [Bool.or_assoc]
      · simp only [itB1]
        rw [show nI m ||| 0 = nI m from by rw [Int32.or_zero]]
        refine ih m hm (fun s => ?_)
        rw [hb, g]; simp
  refine main _ (p10 _ (by omega)) (fun s => ?_)
  rw [Nat.testBit_two_pow]
  show _ = (decide (s = uS (vT U) p) || (!uG (vT U) p && false))
  rw [Bool.and_false, Bool.or_false]
  rw [decide_eq_decide]; exact eq_comm
theorem pst_congr {P : sP} {T : sT} : ∀ (k p : Nat) (f g : Nat → Nat) (b : Option (Nat × (Nat → Nat))), (∀ q, q < p ∨ p + k ≤ q → f q = g q) → pst P T k p f b = pst P T k p g b
  | 0, p, f, g, b, h => by
    have : f = g := funext (fun q => h q (by omega))
    rw [this]
  | k + 1, p, f, g, b, h => by
    unfold pst
    have : (fun s b => if al P T p s then pst P T k (p + 1) (fu f p s) b else b) = (fun s b => if al P T p s then pst P T k (p + 1) (fu g p s) b else b) := by
      funext s b
      split
      · refine pst_congr k (p + 1) _ _ b (fun q hq => ?_)
        unfold fu
        by_cases e : q = p
        · simp [e]
        · simp [e]; exact h q (by omega)
      · rfl
    rw [this]
def xB (b : Option (Nat × (Nat → Nat))) : Int32 := match b with
  | none => -4
  | some q => nI q.1
def rB (σ : ts_S) (n : Nat) (b : Option (Nat × (Nat → Nat))) : Prop := match b with
  | none => True
  | some q => q.1 ≤ 5 ∧ ∀ p, p < n → σ 13 p = nI (q.2 p)
def pz (σ : ts_S) (U : sU) (g : Nat → Nat) (b : Option (Nat × (Nat → Nat))) : Prop := rM σ U ∧ cm σ (vP U) (tF (vT U) g) ∧ rB σ (qn (vP U)) b
theorem rB.to {σ σ' : ts_S} {n : Nat} {b : Option (Nat × (Nat → Nat))} (h : rB σ n b) (e : σ' 13 = σ 13) : rB σ' n b := by
  cases b with
  | none => trivial
  | some q => exact ⟨h.1, fun p hp => by rw [e]; exact h.2 p hp⟩
theorem pz.set {σ : ts_S} {U : sU} {g : Nat → Nat} {b : Option (Nat × (Nat → Nat))} (h : pz σ U g b) {p s : Nat} (hp : p < qn (vP U)) (hs : s < qH (vP U)) : pz (ts_u σ 12 (3 + p) (nI s)) U (fu g p s) b := by
  obtain ⟨f, c⟩ := cm_setS h.2.1 hp hs
  exact ⟨h.1.fm f, c, h.2.2.to (ts_u_c (by omega))⟩
theorem vld_bs {P : sP} {T : sT} {g : Nat → Nat} (h6 : qn P ≤ 6) : (nI (bs (frz P (tF T g)) (qn P)) = 0) ↔ vld P T g = true := by
  have h64 := bs_64 (frz P (tF T g)) h6
  rw [k0, nI_eq (by omega) (by omega)]
  unfold vld
  rw [alb_iff]
  constructor
  · intro h i hi
    have := bs_bit (frz P (tF T g)) (qn P) i
    rw [h, Nat.zero_testBit, decide_eq_true hi, Bool.true_and] at this
    rw [← this]; rfl
  · intro h
    apply Nat.eq_of_testBit_eq
    intro i
    rw [bs_bit, Nat.zero_testBit]
    by_cases d : i < qn P
    · have := h i d
      simp at this; simp [this]
    · simp [d]
theorem ym_leaf {K : Int32 → ts_S → Prop} {X : ts_S → Int32 → Int32 → Prop} {a : Int32} {σ : ts_S} {U : sU} {g : Nat → Nat} {b : Option (Nat × (Nat → Nat))} (w : wfU U) (h : pz σ U g b) (hk : ∀ σ', pz σ' U g (lef (vP U) (vT U) g b) → wp_X10_putsNext (fun r s => X s (xB (lef (vP U) (vT U) g b)) r) σ') : wp_X10_posting_b57 K X a σ (xB b) 1 := by
  obtain ⟨hM, c, hB⟩ := h
  have h6 := c.n6
  have h5 := c.W5
  unfold wp_X10_posting_b57
  rw [if_neg (by decide)]
  refine ym_frozen c ?_
  unfold lef at hk
  cases hv : vld (vP U) (vT U) g <;> rw [hv] at hk
  · rw [if_neg (fun z => by rw [vld_bs h6, hv] at z; cases z)]
    unfold wp_X10_posting_j77 wp_X10_posting_j103
    have : (-4 : Int32) ≤ xB b := by
      cases b with
      | none => decide
      | some q =>
        have := hB.1
        show (-4 : Int32) ≤ nI q.1
        rw [i32_le, nI_toInt (by omega), show (-4 : Int32).toInt = -4 from rfl]; omega
    rw [if_pos this]
    exact hk σ ⟨hM, c, hB⟩
  · rw [if_pos ((vld_bs h6).mpr hv)]
    simp only [↓reduceIte] at hk
    refine ym_done c ?_
    have hd := dnm_le (vP U) (tF (vT U) g)
    unfold wp_X10_posting_j77 wp_X10_posting_j103
    have better : betF b (dnm (vP U) (tF (vT U) g)) g = some (dnm (vP U) (tF (vT U) g), g) → wp_X10_copies (fun s23 => wp_X10_putsNext (fun r20 s21 => X s21 (nI (dnm (vP U) (tF (vT U) g))) r20) s23) σ 13 0 12 3 6 := by
      intro e
      rw [e] at hk
      refine ym_copies (a := 0) (b := 3) (n := 6) (by omega) (by decide) (by decide) (by decide) (by decide) (fun σ1 m1 m2 m3 => ?_)
      have h12 : σ1 12 = σ 12 := m1 12 (by omega)
      refine hk σ1 ⟨hM.to (fun j _ => by rw [m1 0 (by omega)]) (fun k a b => m1 k (by omega)), ⟨c.1.to (fun j _ => by rw [m1 0 (by omega)]) (m1 1 (by omega)) (m1 2 (by omega)), c.2.1.to h12, c.2.2⟩, ⟨by show dnm _ _ ≤ 5; omega, fun p hp => ?_⟩⟩
      have := m2 p (by omega)
      rw [Nat.zero_add] at this
      rw [this]
      exact c.st hp
    cases b with
    | none =>
      have l : ¬ nI (dnm (vP U) (tF (vT U) g)) ≤ xB none := nI_m4 (by omega)
      rw [if_neg l]
      exact better rfl
    | some q =>
      have hq := hB.1
      by_cases d : q.1 < dnm (vP U) (tF (vT U) g)
      · have l : ¬ nI (dnm (vP U) (tF (vT U) g)) ≤ xB (some q) := nI_ge d (by omega)
        rw [if_neg l]
        exact better (by show (if q.1 < _ then _ else _) = _; rw [if_pos d])
      · have l : nI (dnm (vP U) (tF (vT U) g)) ≤ xB (some q) := nI_le (by omega) (by omega)
        rw [if_pos l]
        have e : betF (some q) (dnm (vP U) (tF (vT U) g)) g = some q := by show (if q.1 < _ then _ else _) = _; rw [if_neg d]
        rw [e] at hk
        exact hk σ ⟨hM, c, hB⟩
theorem fu_fu {g : Nat → Nat} {p s t : Nat} : fu (fu g p s) p t = fu g p t := by
  funext q; unfold fu; split <;> rfl
theorem fu_self {g : Nat → Nat} {p s : Nat} (h : g p = s) : fu g p s = g := by
  funext q; unfold fu; split
  · next e => rw [e, h]
  · rfl
theorem ym_post {X : ts_S → Int32 → Int32 → Prop} {U : sU} (w : wfU U) (hX : ∀ σ g b, pz σ U g b → (∀ σ', pz σ' U g (lef (vP U) (vT U) g b) → wp_X10_putsNext (fun r s => X s (xB (lef (vP U) (vT U) g b)) r) σ') → X σ (xB b) 1) :
    ∀ (k p : Nat) (σ : ts_S) (g : Nat → Nat) (b : Option (Nat × (Nat → Nat))), p + k = qn (vP U) → pz σ U g b → (∀ q, p ≤ q → q < qn (vP U) → g q = ls (vP U) (vT U) q) → (∀ σ', pz σ' U g (pst (vP U) (vT U) k p g b) → wp_X10_putsNext_l7 (fun r s => X s (xB (pst (vP U) (vT U) k p g b)) r) σ' (nI p + (-1))) → X σ (xB b) 1 := by
  intro k
  induction k with
  | zero =>
    intro p σ g b hp hz hl hk
    refine hX σ g b hz (fun σ' hz' => ?_)
    unfold wp_X10_putsNext
    have h6 := hz'.2.1.n6
    have e : σ' 0 1 - 1 = nI p + (-1) := by rw [hz'.1.cn, show qn (vP U) = p by omega, Int32.sub_eq_add_neg]
    rw [e]
    exact hk σ' hz'
  | succ k ih =>
    intro p σ g b hp hz hl hk
    have hpn : p < qn (vP U) := by omega
    have h6 := hz.2.1.n6
    have h10 := hz.2.1.h10
    obtain ⟨l1, l2, l3⟩ := ls_ok (P := vP U) (T := vT U) w.2.2.1.1 hpn
    have hgp : g p = ls (vP U) (vT U) p := hl p (Nat.le_refl p) hpn
    have hmb := mb_lt (P := vP U) (T := vT U) w.1 (p := p)
    have hbit := mb_bit (T := vT U) w.1 w.2.2.1.1 hpn
    have inner : ∀ (m s : Nat) (σ : ts_S) (b' : Option (Nat × (Nat → Nat))), s + m = qH (vP U) → s < qH (vP U) → al (vP U) (vT U) p s = true → pz σ U (fu g p s) b' → pst (vP U) (vT U) (k + 1) p g b = fdr (fun s b => if al (vP U) (vT U) p s then pst (vP U) (vT U) k (p + 1) (fu g p s) b else b) m s b' → X σ (xB b') 1 := by
      intro m
      induction m using Nat.strongRecOn with
      | ind m ihm =>
        intro s σ b' hm hs ha hz' hr
        refine ih (p + 1) σ (fu g p s) b' (by omega) hz' (fun q a c => by rw [fu_ne (by omega)]; exact hl q (by omega) c) (fun σ1 hz1 => ?_)
        obtain ⟨m', rfl⟩ : ∃ m', m = m' + 1 := ⟨m - 1, by omega⟩
        have hr : pst (vP U) (vT U) (k + 1) p g b = fdr (fun s b => if al (vP U) (vT U) p s then pst (vP U) (vT U) k (p + 1) (fu g p s) b else b) m' (s + 1) (pst (vP U) (vT U) k (p + 1) (fu g p s) b') := by
          rw [hr]
          show fdr _ m' (s + 1) (if al (vP U) (vT U) p s then _ else _) = _
          rw [ha]; rfl
        generalize pst (vP U) (vT U) k (p + 1) (fu g p s) b' = b1 at hz1 hr ⊢
        rw [pk_m1]
        intro X7 hX7
        apply hX7
        unfold wp_X10_putsNext_b7
        rw [if_neg (by rw [k0]; exact nI_nlt (by omega) (by omega))]
        refine ym_mayBe w hz1.1 hpn ?_
        have e1 : σ1 12 (3 + p) = nI s := by
          have := hz1.2.1.st hpn
          rw [this]; show nI (fu g p s p) = _; rw [fu_same]
        rw [e3p, nI_clamp (by omega), e1, nI_1]
        refine ⟨i21 (by omega), ?_⟩
        unfold wp_X10_putsNext_l28
        intro Y hY
        -- where the next lies
        have g1 := fi_ge (al (vP U) (vT U) p) m' (s + 1)
        have g2 := fi_t (al (vP U) (vT U) p) m' (s + 1)
        have g3 := fi_f (al (vP U) (vT U) p) m' (s + 1)
        generalize fi (al (vP U) (vT U) p) m' (s + 1) = s2 at g1 g2 g3
        have hr2 : pst (vP U) (vT U) (k + 1) p g b = fdr (fun s b => if al (vP U) (vT U) p s then pst (vP U) (vT U) k (p + 1) (fu g p s) b else b) (qH (vP U) - s2) s2 b1 := by
          rw [hr]
          have := fdr_skip (f := fun s b => if al (vP U) (vT U) p s then pst (vP U) (vT U) k (p + 1) (fu g p s) b else b) (s2 - (s + 1)) (qH (vP U) - s2) (s + 1) b1 (fun i a c bb => by show (if al (vP U) (vT U) p i then _ else _) = _; rw [g3 i a (by omega)]; rfl)
          rw [show s2 - (s + 1) + (qH (vP U) - s2) = m' by omega, show s + 1 + (s2 - (s + 1)) = s2 by omega] at this
          exact this
        have j50 : wp_X10_putsNext_j50 (fun r s => X s (xB b1) r) X7 σ1 (nI p) (nI (mb (vP U) (vT U) p)) (nI s2) := by
          unfold wp_X10_putsNext_j50
          rw [hz1.1.ch]
          by_cases d : qH (vP U) ≤ s2
          · rw [if_pos (nI_le d (by omega))]
            refine ym_leastOf hmb (show ls (vP U) (vT U) p < 10 by omega) (by rw [hbit]; exact l2) (fun i hi => by rw [hbit]; exact l3 i hi) ?_
            rw [e3p, nI_clamp (by omega)]
            refine ⟨i21 (by omega), ?_⟩
            rintro _ rfl
            have hz2 := hz1.set hpn l1
            rw [fu_fu, fu_self hgp] at hz2
            have e : pst (vP U) (vT U) (k + 1) p g b = b1 := by rw [hr2, show qH (vP U) - s2 = 0 by omega]; rfl
            rw [e] at hk
            exact hk _ hz2 X7 hX7
          · rw [if_neg (nI_ge (by omega) (by omega)), e3p, nI_clamp (by omega)]
            refine ⟨i21 (by omega), ?_⟩
            rintro _ rfl
            refine ⟨zb1, ?_⟩
            have hz2 := hz1.set hpn (show s2 < qH (vP U) by omega)
            rw [fu_fu] at hz2
            exact ihm (qH (vP U) - s2) (by omega) s2 _ b1 (by omega) (by omega) (g2 (by omega)) hz2 hr2
        refine ts_down' (P := fun i => Y σ1 (nI i)) (s + 1) s2 g1.1 ?_ ?_
        · apply hY; unfold wp_X10_putsNext_b28
          rw [hz1.1.ch]
          by_cases d : qH (vP U) ≤ s2
          · rw [if_pos (nI_le d (by omega))]; exact j50
          · rw [if_neg (nI_ge (by omega) (by omega))]
            refine ym_has hmb (by omega) ?_
            rw [hbit, g2 (by omega)]; simp only [itB1]; exact j50
        · intro i hi1 hi2 ihi
          apply hY; unfold wp_X10_putsNext_b28
          rw [hz1.1.ch, if_neg (nI_ge (by omega) (by omega))]
          refine ym_has hmb (by omega) ?_
          rw [hbit, g3 i hi1 hi2]; simp only [itB0, nI_1]; exact ihi
    refine inner (qH (vP U) - ls (vP U) (vT U) p) (ls (vP U) (vT U) p) σ b (by omega) l1 l2 (by rw [fu_self hgp]; exact hz) ?_
    show fdl _ (qH (vP U)) b = _
    rw [fdl_fdr]
    have := fdr_skip (f := fun s b => if al (vP U) (vT U) p s then pst (vP U) (vT U) k (p + 1) (fu g p s) b else b) (ls (vP U) (vT U) p) (qH (vP U) - ls (vP U) (vT U) p) 0 b (fun i a c bb => by show (if al (vP U) (vT U) p i then _ else _) = _; rw [l3 i (by omega)]; rfl)
    rw [show ls (vP U) (vT U) p + (qH (vP U) - ls (vP U) (vT U) p) = qH (vP U) by omega, Nat.zero_add] at this
    exact this
theorem win_m1 {U : sU} {a : Int32} (w : wfU U) : win a (-1) (nI (qn (vP U)) - 1) = (decide (a = -1) || isP U a) := by
  have h6 : qn (vP U) ≤ 6 := w.1.2.2.1
  unfold isP win
  rw [Bool.eq_iff_iff]
  simp only [Bool.or_eq_true, decide_eq_true_eq]
  rw [i32_le, i32_le, i32_le, ← Int32.toInt_inj, nIm1 _ (by omega), show (-1 : Int32).toInt = -1 from rfl, show (0 : Int32).toInt = 0 from rfl]
  omega
theorem pm_posting {K : Int32 → ts_S → Prop} {σ : ts_S} {U : sU} {a : Int32} (w : wfU U) (h : rM σ U) (hk : ∀ σ', rM σ' U → K (o_posting U a) σ') : wp_X10_posting K σ a := by
  unfold wp_X10_posting
  rw [h.cn]
  refine ym_in ?_
  rw [win_m1 w]
  unfold o_posting at hk
  cases dc : (decide (a = -1) || isP U a) <;> rw [dc] at hk
  · simp only [itB0]; exact hk σ h
  simp only [itB1]
  simp only [↓reduceIte] at hk
  have h6 : qn (vP U) ≤ 6 := w.1.2.2.1
  have h10 : qH (vP U) ≤ 10 := w.1.2.1
  refine ym_asItIs w h (fun σ1 f1 h1 c1 => ?_)
  have loop : ∀ σ', pz σ' U (fun q => if q < qn (vP U) then ls (vP U) (vT U) q else uS (vT U) q) none → wp_X10_posting_l57 K a σ' (-4) 1 := by
    intro σ2 z2
    unfold wp_X10_posting_l57
    intro X hX
    refine ym_post w (fun σ g b hz hn => hX _ _ _ (ym_leaf w hz hn)) (qn (vP U)) 0 σ2 _ none (by omega) z2 (fun q _ hq => by show (if q < _ then _ else _) = _; rw [if_pos hq]) (fun σ3 z3 => ?_)
    intro X7 hX7
    apply hX7; unfold wp_X10_putsNext_b7
    rw [if_pos (by decide)]
    refine ⟨zb0, ?_⟩
    apply hX; unfold wp_X10_posting_b57
    rw [if_pos rfl]
    have e : pst (vP U) (vT U) (qn (vP U)) 0 (fun q => if q < qn (vP U) then ls (vP U) (vT U) q else uS (vT U) q) none = pst (vP U) (vT U) (qn (vP U)) 0 (uS (vT U)) none := pst_congr _ _ _ _ _ (fun q hq => by rw [if_neg (by omega)])
    rw [e] at z3 ⊢
    have hk := hk σ3 z3.1
    generalize pst (vP U) (vT U) (qn (vP U)) 0 (uS (vT U)) none = b at z3 hk ⊢
    cases b with
    | none =>
      by_cases d : a < 0
      · rw [if_pos d]; exact hk
      · rw [if_neg d, if_neg (by decide)]; exact hk
    | some q =>
      obtain ⟨hM, c, hB⟩ := z3
      simp only at hk
      by_cases d : a = -1
      · rw [if_pos (by rw [d]; decide)]; simp only [d, ↓reduceIte] at hk; exact hk
      · simp only [d, ↓reduceIte] at hk
        rw [decide_eq_false d, Bool.false_or] at dc
        obtain ⟨p, hp, e1, e2⟩ := isP_get w dc
        have hg64 := bs_64 (uG (vT U)) h6
        rw [e2] at hk; rw [e1]
        rw [if_neg (by rw [k0]; exact nI_nlt (by omega) (by omega)), if_pos (by show (0 : Int32) ≤ nI q.1; rw [k0]; exact nI_le (by omega) (by have := hB.1; omega)), cl1, hM.g3]
        refine ⟨i21 (i := 1) (by omega), ym_has (by omega) (by omega) ?_⟩
        rw [bs_bit, decide_eq_true hp, Bool.true_and]
        cases g : uG (vT U) p <;> rw [g] at hk
        · simp only [itB0]
          rw [cl6 hp h6, hB.2 p hp]
          exact ⟨in6 hp h6, hk⟩
        · simp only [itB1]; exact hk
  unfold wp_X10_posting_l22
  intro X hX
  have main : ∀ σ' g, rM σ' U → cm σ' (vP U) (tF (vT U) g) → (∀ q, q < 0 → g q = ls (vP U) (vT U) q) → (∀ q, 0 ≤ q → g q = uS (vT U) q) → X σ' (nI 0) := by
    refine ts_down (P := fun i => ∀ σ' g, rM σ' U → cm σ' (vP U) (tF (vT U) g) → (∀ q, q < i → g q = ls (vP U) (vT U) q) → (∀ q, i ≤ q → g q = uS (vT U) q) → X σ' (nI i)) (qn (vP U)) ?_ ?_
    · intro σ2 g h2 c2 g1 g2
      apply hX; unfold wp_X10_posting_b22
      rw [h2.cn, if_pos (nI_le (Nat.le_refl _) (by omega))]
      have : g = fun q => if q < qn (vP U) then ls (vP U) (vT U) q else uS (vT U) q := by
        funext q
        by_cases d : q < qn (vP U)
        · rw [if_pos d]; exact g1 q d
        · rw [if_neg d]; exact g2 q (by omega)
      rw [this] at c2
      exact loop σ2 ⟨h2, c2, trivial⟩
    · intro p hp ih σ2 g h2 c2 g1 g2
      apply hX; unfold wp_X10_posting_b22
      obtain ⟨l1, l2, l3⟩ := ls_ok (P := vP U) (T := vT U) w.2.2.1.1 hp
      have hmb := mb_lt (P := vP U) (T := vT U) w.1 (p := p)
      have hbit := mb_bit (T := vT U) w.1 w.2.2.1.1 hp
      rw [h2.cn, if_neg (nI_ge hp (by omega))]
      refine ym_mayBe w h2 hp (ym_leastOf hmb (show ls (vP U) (vT U) p < 10 by omega) (by rw [hbit]; exact l2) (fun i hi => by rw [hbit]; exact l3 i hi) ?_)
      rw [e3p, nI_clamp (by omega), nI_1]
      refine ⟨i21 (by omega), ?_⟩
      rintro _ rfl
      obtain ⟨f3, c3⟩ := cm_setS c2 hp l1
      refine ih _ (fu g p (ls (vP U) (vT U) p)) (h2.fm f3) c3 (fun q hq => ?_) (fun q hq => ?_)
      · by_cases e : q = p
        · rw [e, fu_same]
        · rw [fu_ne e]; exact g1 q (by omega)
      · rw [fu_ne (by omega)]; exact g2 q (by omega)
  exact main σ1 (uS (vT U)) h1 c1 (fun q hq => absurd hq (Nat.not_lt_zero q)) (fun _ _ => rfl)
