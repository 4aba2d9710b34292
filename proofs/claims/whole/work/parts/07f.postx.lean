/-! the class's search for postings -/
theorem bt_one {i : Nat} (hi : i < 10) : (1 : Int32) <<< (nI i &&& 31) = nI (2 ^ i) := by
  have h : ∀ i : Fin 10, (1 : Int32) <<< (nI i.1 &&& 31) = nI (2 ^ i.1) := by decide +kernel
  exact h ⟨i, hi⟩
theorem bt_clr {i m : Nat} (hi : i < 10) (hm : m < 1024) : nI m &&& (nI (2 ^ i) ^^^ (-1)) = nI (m &&& (1023 ^^^ 2 ^ i)) := by
  have h : ∀ i : Fin 10, ∀ m : Fin 1024, nI m.1 &&& (nI (2 ^ i.1) ^^^ (-1)) = nI (m.1 &&& (1023 ^^^ 2 ^ i.1)) := by decide +kernel
  exact h ⟨i, hi⟩ ⟨m, hm⟩
theorem bt_clr_bit {i m j : Nat} (hi : i < 10) (hm : m < 1024) : (m &&& (1023 ^^^ 2 ^ i)).testBit j = (m.testBit j && !decide (j = i)) := by
  rw [Nat.testBit_and, Nat.testBit_xor, Nat.testBit_two_pow]
  by_cases hj : j < 10
  · have : Nat.testBit 1023 j = true := by
      have h : ∀ j : Fin 10, Nat.testBit 1023 j.1 = true := by decide +kernel
      exact h ⟨j, hj⟩
    rw [this]
    by_cases e : i = j
    · simp [e]
    · have e2 : ¬ j = i := fun z => e z.symm
      simp [e, e2]
  · have : m.testBit j = false := Nat.testBit_lt_two_pow (Nat.lt_of_lt_of_le hm (Nat.pow_le_pow_right (n := 2) (by omega) (by omega : 10 ≤ j)))
    rw [this]; simp
theorem T49 : tX_T 49 := ⟨3, by omega, rfl⟩
theorem pl49 : tX_pl 49 = 23 := rfl
/-- the state of the search: who is put as far as p, who waits -/
def po (σ : ts_S) (U : sU) (p wv : Nat) (g : Nat → Nat) : Prop := rX σ U ∧ cx σ 49 (vP U) (tF (vT U) g) ∧ (∀ s, s < 10 → σ 14 s = nI (cr (vT U) g p s)) ∧ σ 11 4 = nI wv ∧ (∀ q, q < qn (vP U) → uG (vT U) q = false → σ 12 q = nI (bs (plb (vP U) (vT U) q) (qH (vP U)))) ∧ (∀ w, w < qW (vP U) → σ 13 w = nI (ez (vP U) w)) ∧ ∀ q, q < qn (vP U) → uG (vT U) q = true → g q = uS (vT U) q
def rPo (σ : ts_S) (U : sU) (b : Option (Nat × (Nat → Nat))) : Prop := match b with
  | none => σ 11 6 = -1
  | some q => σ 11 6 = nI q.1 ∧ q.1 ≤ 5 ∧ ∀ p, p < qn (vP U) → σ 15 p = if uG (vT U) p then -4 else nI (q.2 p)
theorem sx_frozenAmong {K : Int32 → ts_S → Prop} {σ : ts_S} {U : sU} {g : Nat → Nat} {p s : Nat} {o : Int32} (c : cx σ 49 (vP U) (tF (vT U) g)) (hp : p < qn (vP U)) (hs : s < qH (vP U)) (hk : ∀ bb : Bool, (∀ o' : Nat, o = nI o' → o' < 100 → bb = decide (uN (vT U) p < fam (vP U) o' (qk (vP U) p) (uA (vT U) p) s)) → K (nB bb) σ) : wp_X3_isFrozenAmong K σ (nI p) (nI s) o := by
  have h6 := c.n6
  unfold wp_X3_isFrozenAmong
  refine ⟨in6 hp h6, in6 hp h6, ?_⟩
  rw [cl6 hp h6, show σ 24 p = _ from c.kd hp, show σ 51 p = _ from c.ag hp]
  refine sx_fearAmong c.h c.2.2.1 (c.k4 hp) (c.a99 hp) hs (fun r hr => ?_)
  refine ⟨in6 hp h6, ?_⟩
  rw [show σ 52 p = _ from c.ne hp]
  have hn := c.n30 hp
  have c99 := c.a99 hp
  by_cases d : r ≤ nI (uN (tF (vT U) g) p)
  · rw [if_pos d]
    refine ⟨zb0, hk false (fun o' e1 e2 => ?_)⟩
    have hf := fam_le c.2.2.1 o' (qk (vP U) p) (uA (tF (vT U) g) p) s c99
    rw [hr o' e1 e2, leI (by omega) (by omega)] at d
    symm; apply decide_eq_false
    have d' : fam (vP U) o' (qk (vP U) p) (uA (vT U) p) s ≤ uN (vT U) p := d
    omega
  · rw [if_neg d]
    refine ⟨zb1, hk true (fun o' e1 e2 => ?_)⟩
    have hf := fam_le c.2.2.1 o' (qk (vP U) p) (uA (tF (vT U) g) p) s c99
    rw [hr o' e1 e2, leI (by omega) (by omega)] at d
    symm; apply decide_eq_true
    have d' : ¬ fam (vP U) o' (qk (vP U) p) (uA (vT U) p) s ≤ uN (vT U) p := d
    omega
theorem sx_isEasier {K : Int32 → ts_S → Prop} {σ : ts_S} {U : sU} {v w : Nat} (h : rX σ U) (hv : v < qW (vP U)) (hw : w < qW (vP U)) (hk : K (nB (eas (vP U) v w)) σ) : wp_X3_isEasier K σ (nI v) (nI w) := by
  have h5 := h.xc.W5
  have d1 := h.xc.wd4 hv
  have d2 := h.xc.wd4 hw
  unfold wp_X3_isEasier
  refine ⟨in5 hw h5, in5 hv h5, ?_⟩
  rw [cl6 hv (by omega), cl6 hw (by omega), show σ 26 v = _ from h.xc.wd hv, show σ 26 w = _ from h.xc.wd hw]
  unfold eas at hk
  by_cases e1 : qd (vP U) v < qd (vP U) w
  · rw [if_pos (by rw [k0, lt_subI (by omega) (by omega) (by omega)]; omega)]
    simp only [e1, decide_true, Bool.true_or] at hk
    exact ⟨zb1, hk⟩
  · rw [if_neg (by rw [k0, lt_subI (by omega) (by omega) (by omega)]; omega)]
    by_cases e2 : qd (vP U) v = qd (vP U) w
    · rw [if_pos (by rw [e2, pk_sub (by omega), Nat.sub_self]; rfl)]
      by_cases e3 : v < w
      · rw [if_neg (nI_ge e3 (by omega))]
        simp only [e2, e3, decide_true, Bool.and_self, Bool.or_true] at hk
        exact ⟨zb1, hk⟩
      · rw [if_pos (nI_le (by omega) (by omega))]
        simp only [e1, e3, decide_false, Bool.and_false, Bool.or_self] at hk
        exact ⟨zb0, hk⟩
    · rw [if_neg (fun q => by
        have : (nI (qd (vP U) w) - nI (qd (vP U) v)).toInt = 0 := by rw [q]; rfl
        rw [pk_sub_toInt (by omega) (by omega)] at this
        omega)]
      simp only [e1, e2, decide_false, Bool.false_and, Bool.or_self] at hk
      exact ⟨zb0, hk⟩
theorem sx_needOf {K : Int32 → ts_S → Prop} {σ : ts_S} {U : sU} {w : Nat} (h : rX σ U) (hw : w < qW (vP U)) (hk : K (nI (ez (vP U) w)) σ) : wp_X3_needOfNextEasier K σ (nI w) := by
  have h5 := h.xc.W5
  have h10 := h.xc.h10
  unfold wp_X3_needOfNextEasier wp_X3_needOfNextEasier_l4
  intro X hX
  refine ts_down (P := fun i => X σ (nI (ezr (vP U) w i)) (nI i)) (qW (vP U)) ?_ ?_
  · apply hX; unfold wp_X3_needOfNextEasier_b4
    rw [show σ 23 2 = _ from h.xc.w, if_pos (nI_le (Nat.le_refl _) (by omega))]; exact hk
  · intro v hv ih
    apply hX; unfold wp_X3_needOfNextEasier_b4
    have s1 := h.xc.wsH hv
    have s2 := h.xc.wsH hw
    have d1 := h.xc.wd4 hv
    have d2 := h.xc.wd4 hw
    have hz := @ezr_le (vP U) w v
    rw [show σ 23 2 = _ from h.xc.w, if_neg (nI_ge hv (by omega)), cl6 hv (by omega), cl6 hw (by omega), show σ 25 v = _ from h.xc.ws hv, show σ 25 w = _ from h.xc.ws hw]
    refine ⟨in5 hv h5, in5 hw h5, ?_⟩
    unfold ezr at ih
    by_cases e : qs (vP U) v = qs (vP U) w
    · rw [if_pos (by rw [e])]
      refine sx_isEasier h hv hw ?_
      cases e2 : eas (vP U) v w
      · simp only [itB0, nI_1]; simp only [e2, Bool.and_false, Bool.false_eq_true, ↓reduceIte] at ih; exact ih
      · simp only [itB1, nI_1]
        refine ⟨in5 hv h5, ?_⟩
        rw [show σ 26 v = _ from h.xc.wd hv, maxI _ _ (by omega) (by omega)]
        simp only [e, e2, decide_true, Bool.and_self, ↓reduceIte] at ih
        exact ih
    · rw [if_neg (by rw [eqI (by omega) (by omega)]; exact e), nI_1]
      simp only [e, decide_false, Bool.false_and, Bool.false_eq_true, ↓reduceIte] at ih
      exact ih
theorem max0 {a b : Nat} (ha : a < 1000) (hb : b < 1000) : (if nI a - nI b < 0 then (0 : Int32) else nI a - nI b) = nI (a - b) := by
  by_cases d : a < b
  · rw [if_pos (pk_sneg (by omega) d), show a - b = 0 by omega]; rfl
  · rw [pk_sub (by omega), if_neg (by rw [k0]; exact nI_nlt (by omega) (by omega))]
theorem sx_priceOf {K : Int32 → ts_S → Prop} {σ : ts_S} {U : sU} {p wv : Nat} {g : Nat → Nat} {w : Nat} (h : po σ U p wv g) (hp : p ≤ 6) (hw : w < qW (vP U)) (hk : K (nI (prw (vP U) (cr (vT U) g p) w)) σ) : wp_X3_priceOf K σ (nI w) := by
  obtain ⟨hX, hc, h14, h11, h12, h13, hg⟩ := h
  have h5 := hX.xc.W5
  have h10 := hX.xc.h10
  have s1 := hX.xc.wsH hw
  have d1 := hX.xc.wd4 hw
  have hz : ez (vP U) w ≤ qd (vP U) w := ezr_le _
  have hc6 := cr_le (vT U) g p (qs (vP U) w)
  unfold wp_X3_priceOf
  rw [cl6 hw (by omega), show σ 25 w = _ from hX.xc.ws hw, nI_clamp (by omega), h14 _ (by omega), show σ 26 w = _ from hX.xc.wd hw, h13 w hw]
  refine ⟨in5 hw h5, vp_in_nI (by omega) (by omega), in5 hw h5, in5 hw h5, ?_⟩
  rw [max0 (by omega) (by omega), max0 (by omega) (by omega), pk_sub (by omega)]
  exact hk
theorem gO_le (pr : Nat → Nat) (W L : Nat) : ∀ c, (gO pr W L c).1 ≤ L ∧ (gO pr W L c).2 ≤ c * W := by
  have hI : ∀ c st w, (gI pr c st w).1 ≤ st.1 ∧ (gI pr c st w).2 ≤ st.2 + w := by
    intro c st w
    induction w with
    | zero => exact ⟨Nat.le_refl _, Nat.le_refl _⟩
    | succ w ih =>
      unfold gI; split
      · show (gI pr c st w).1 - c ≤ st.1 ∧ (gI pr c st w).2 + 1 ≤ _; omega
      · omega
  intro c
  induction c with
  | zero => exact ⟨Nat.le_refl _, Nat.zero_le _⟩
  | succ c ih =>
    have := hI c (gO pr W L c) W
    have h3 : (c + 1) * W = c * W + W := Nat.succ_mul c W
    exact ⟨Nat.le_trans this.1 ih.1, by show (gI pr c (gO pr W L c) W).2 ≤ _; omega⟩
theorem gI_le1 (pr : Nat → Nat) (c : Nat) (st : Nat × Nat) : ∀ w, (gI pr c st w).1 ≤ st.1 ∧ (gI pr c st w).2 ≤ st.2 + w
  | 0 => ⟨Nat.le_refl _, Nat.le_refl _⟩
  | w + 1 => by
    have ih := gI_le1 pr c st w
    unfold gI; split
    · show (gI pr c st w).1 - c ≤ st.1 ∧ (gI pr c st w).2 + 1 ≤ _; omega
    · omega
theorem sx_mostInReach {K : Int32 → ts_S → Prop} {σ : ts_S} {U : sU} {p wv : Nat} {g : Nat → Nat} (h : po σ U p wv g) (hp : p ≤ 6) (hwv : wv ≤ 6) (hk : K (nI (gO (prw (vP U) (cr (vT U) g p)) (qW (vP U)) wv 5).2) σ) : wp_X3_mostInReach K σ := by
  have hX := h.1
  have h5 := hX.xc.W5
  unfold wp_X3_mostInReach wp_X3_mostInReach_l9
  rw [h.2.2.2.1]
  intro X hXx
  refine ts_down (P := fun c => X σ (nI (gO (prw (vP U) (cr (vT U) g p)) (qW (vP U)) wv c).1) (nI (gO (prw (vP U) (cr (vT U) g p)) (qW (vP U)) wv c).2) (nI c)) 5 ?_ ?_
  · apply hXx; unfold wp_X3_mostInReach_b9
    rw [if_pos (by decide)]; exact hk
  · intro c hc ih
    apply hXx; unfold wp_X3_mostInReach_b9
    rw [if_neg (by rw [k4]; exact nI_nlt (by omega) (by omega))]
    unfold wp_X3_mostInReach_l17
    intro X2 hX2
    have hgo := gO_le (prw (vP U) (cr (vT U) g p)) (qW (vP U)) wv c
    unfold gO at ih
    generalize gO (prw (vP U) (cr (vT U) g p)) (qW (vP U)) wv c = st at ih hgo ⊢
    refine ts_down (P := fun w => X2 σ (nI (gI (prw (vP U) (cr (vT U) g p)) c st w).1) (nI (gI (prw (vP U) (cr (vT U) g p)) c st w).2) (nI w)) (qW (vP U)) ?_ ?_
    · apply hX2; unfold wp_X3_mostInReach_b17
      rw [show σ 23 2 = _ from hX.xc.w, if_pos (nI_le (Nat.le_refl _) (by omega)), nI_1]; exact ih
    · intro w hw ih2
      apply hX2; unfold wp_X3_mostInReach_b17
      rw [show σ 23 2 = _ from hX.xc.w, if_neg (nI_ge hw (by omega)), nI_1]
      have hgi := gI_le1 (prw (vP U) (cr (vT U) g p)) c st w
      have hpr := prw_le hX.xc.2.2.1 (c := cr (vT U) g p) hw
      unfold gI at ih2
      generalize gI (prw (vP U) (cr (vT U) g p)) c st w = s2 at ih2 hgi ⊢
      by_cases e : c ≤ s2.1
      · rw [if_neg (nI_nlt e (by omega))]
        refine sx_priceOf h hp hw ?_
        by_cases e2 : prw (vP U) (cr (vT U) g p) w = c
        · rw [if_pos (by rw [e2]), pk_sub e, nI_1]
          simp only [e, e2, and_self, ↓reduceIte] at ih2; exact ih2
        · rw [if_neg (by rw [eqI (by omega) (by omega)]; exact e2)]
          simp only [e2, and_false, ↓reduceIte] at ih2; exact ih2
      · rw [if_pos (nI_lt (by omega) (by omega))]
        simp only [e, false_and, ↓reduceIte] at ih2; exact ih2
theorem sx_surely {K : Int32 → ts_S → Prop} {σ : ts_S} {U : sU} {p : Nat} {g : Nat → Nat} (h : po σ U p (wt (vP U) (vT U) p) g) (hp : p ≤ qn (vP U)) (hk : K (nB (exb (sur (vP U) (vT U) g p) p)) σ) : wp_X3_isSurelyFrozenBefore K σ (nI p) := by
  obtain ⟨hX, hc, h14, h11, h12, h13, hg⟩ := h
  have h6 := hX.xc.n6
  have h10 := hX.xc.h10
  have hw6 : wt (vP U) (vT U) p ≤ 6 := Nat.le_trans (cn_le _ _) h6
  unfold wp_X3_isSurelyFrozenBefore wp_X3_isSurelyFrozenBefore_l2
  intro X hXx
  have main : exb (sur (vP U) (vT U) g p) 0 = false → X σ (nI 0) := by
    refine ts_down (P := fun i => exb (sur (vP U) (vT U) g p) i = false → X σ (nI i)) p ?_ ?_
    · intro he
      apply hXx; unfold wp_X3_isSurelyFrozenBefore_b2
      rw [if_pos (nI_le (Nat.le_refl _) (by omega))]
      rw [he] at hk; exact ⟨zb0, hk⟩
    · intro i hi ih he
      apply hXx; unfold wp_X3_isSurelyFrozenBefore_b2
      have hin : vp_in (nI i) 6 := vp_in_nI (by omega) (by omega)
      have hin' : i < qn (vP U) := by omega
      have hs : g i < qH (vP U) := hc.sH hin'
      rw [if_neg (nI_ge hi (by omega)), nI_clamp (by omega)]
      refine ⟨hin, hin, ?_⟩
      rw [show σ 53 i = nB (uG (vT U) i) from hc.go hin', show σ 50 i = nI (g i) from hc.st hin', nI_1]
      cases dg : uG (vT U) i
      · simp only [itB0]
        refine ⟨vp_in_nI (by omega) (by omega), ?_⟩
        have hcp := cr_pos (f := g) hi dg
        have hcl := cr_le (vT U) g p (g i)
        rw [nI_clamp (by omega), h14 _ (by omega), h11, k1, pk_sub hcp, nI_add]
        refine sx_frozenAmong hc hin' hs (fun bb hbb => ?_)
        have e1 := hbb (cr (vT U) g p (g i) - 1 + wt (vP U) (vT U) p) rfl (by omega)
        have e2 : sur (vP U) (vT U) g p i = bb := by unfold sur; rw [dg, e1]; rfl
        cases bb
        · simp only [itB0, nI_1]
          refine ih ?_
          unfold exb; rw [he, e2]; rfl
        · simp only [itB1]
          rw [show exb (sur (vP U) (vT U) g p) p = true from exb_iff.mpr ⟨i, hi, e2⟩] at hk
          exact ⟨zb1, hk⟩
      · simp only [itB1]
        refine ih ?_
        unfold exb; rw [he]; simp [sur, dg]
  exact main rfl
theorem rX.k11 {σ : ts_S} {U : sU} {i : Nat} {x : Int32} (h : rX σ U) : rX (ts_u σ 11 i x) U :=
  h.keep (fun k hk => ts_u_c (by unfold mc at hk; omega)) (by rw [ts_u_c (by omega)]) (fun j hj => (h.bb j hj).same (fun k a b => ts_u_c (by omega)))
theorem rX.kS {σ : ts_S} {U : sU} {c i : Nat} {x : Int32} (h : rX σ U) (hc : 11 ≤ c ∧ c ≤ 22) : rX (ts_u σ c i x) U :=
  h.keep (fun k hk => ts_u_c (by unfold mc at hk; omega)) (by rw [ts_u_c (by omega)]) (fun j hj => (h.bb j hj).same (fun k a b => ts_u_c (by omega)))
theorem cx.kS {σ : ts_S} {P : sP} {T : sT} {c i t : Nat} {x : Int32} (h : cx σ t P T) (ht : 31 ≤ t) (hc : 11 ≤ c ∧ c ≤ 22) : cx (ts_u σ c i x) t P T :=
  ⟨h.1.same (fun j a b => ts_u_c (by rcases tX_Lp t with z | z <;> omega)), h.2.1.same (fun j a b => ts_u_c (by omega)), h.2.2⟩
theorem sx_takePost {K : ts_S → Prop} {σ : ts_S} {U : sU} {g f : Nat → Nat} {b : Option (Nat × (Nat → Nat))} (h : po σ U (qn (vP U)) 0 g) (hfg : ∀ q, q < qn (vP U) → g q = f q) (hb : rPo σ U b) (hv : vld (vP U) (vT U) f = true) (hd : dnm (vP U) (tF (vT U) f) = cn (fun w => decide (qd (vP U) w ≤ cr (vT U) g (qn (vP U)) (qs (vP U) w))) (qW (vP U))) (hk : ∀ σ', po σ' U (qn (vP U)) 0 g → rPo σ' U (lef (vP U) (vT U) f b) → K σ') : wp_X3_takeIfBetter K σ := by
  have hpo := h
  obtain ⟨hX, hc, h14, h11, h12, h13, hg⟩ := h
  have h6 := hX.xc.n6
  have h5 := hX.xc.W5
  have h10 := hX.xc.h10
  have hd5 : dnm (vP U) (tF (vT U) f) ≤ qW (vP U) := dnm_le _ _
  have hlef : lef (vP U) (vT U) f b = betF b (dnm (vP U) (tF (vT U) f)) f := by unfold lef; rw [hv]; rfl
  rw [hlef] at hk
  unfold wp_X3_takeIfBetter wp_X3_takeIfBetter_l4
  intro X hXx
  refine ts_down (P := fun i => X σ (nI (cn (fun w => decide (qd (vP U) w ≤ cr (vT U) g (qn (vP U)) (qs (vP U) w))) i)) (nI i)) (qW (vP U)) ?_ ?_
  · apply hXx; unfold wp_X3_takeIfBetter_b4
    rw [show σ 23 2 = _ from hX.xc.w, if_pos (nI_le (Nat.le_refl _) (by omega)), ← hd]
    generalize hm : dnm (vP U) (tF (vT U) f) = m at hd5 hk
    have wr : ∀ s8 : ts_S, s8 = ts_u σ 11 6 (nI m) → betF b m f = some (m, f) → wp_X3_takeIfBetter_l82 K s8 0 := by
      rintro _ rfl hbet
      rw [hbet] at hk
      unfold wp_X3_takeIfBetter_l82
      intro X2 hX2
      have main : ∀ σ', po σ' U (qn (vP U)) 0 g → σ' 11 6 = nI m → (∀ q, q < 0 → σ' 15 q = if uG (vT U) q then -4 else nI (f q)) → X2 σ' (nI 0) := by
        refine ts_down (P := fun i => ∀ σ', po σ' U (qn (vP U)) 0 g → σ' 11 6 = nI m → (∀ q, q < i → σ' 15 q = if uG (vT U) q then -4 else nI (f q)) → X2 σ' (nI i)) (qn (vP U)) ?_ ?_
        · intro σ2 p2 m2 v2
          apply hX2; unfold wp_X3_takeIfBetter_b82
          rw [show σ2 23 1 = _ from p2.1.xc.n, if_pos (nI_le (Nat.le_refl _) (by omega))]
          exact hk σ2 p2 ⟨m2, by omega, v2⟩
        · intro i hi ih σ2 p2 m2 v2
          apply hX2; unfold wp_X3_takeIfBetter_b82
          have hin : vp_in (nI i) 6 := in6 hi h6
          rw [show σ2 23 1 = _ from p2.1.xc.n, if_neg (nI_ge hi (by omega)), cl6 hi h6]
          refine ⟨hin, ?_⟩
          rw [show σ2 53 i = nB (uG (vT U) i) from p2.2.1.go hi]
          have j127 : ∀ x : Int32, x = (if uG (vT U) i then -4 else nI (f i)) → wp_X3_takeIfBetter_j127 K X2 σ2 (nI i) x (nI i) := by
            intro x hx
            unfold wp_X3_takeIfBetter_j127
            refine ⟨hin, ?_⟩
            rintro _ rfl
            rw [cl6 hi h6, nI_1]
            obtain ⟨q1, q2, q3, q4, q5, q6, q7⟩ := p2
            refine ih _ ⟨q1.kS (by omega), q2.kS (by omega) (by omega), fun s hs => by rw [ts_u_c (by omega)]; exact q3 s hs, by rw [ts_u_c (by omega)]; exact q4, fun q hq hgq => by rw [ts_u_c (by omega)]; exact q5 q hq hgq, fun w hw => by rw [ts_u_c (by omega)]; exact q6 w hw, q7⟩ (by rw [ts_u_c (by omega)]; exact m2) (fun q hq => ?_)
            rw [ts_u_app]
            by_cases e : q = i
            · subst e; rw [if_pos ⟨rfl, rfl⟩]; exact hx
            · rw [if_neg (fun z => e z.2)]; exact v2 q (by omega)
          cases dg : uG (vT U) i
          · simp only [itB0]
            refine ⟨hin, j127 _ ?_⟩
            rw [show σ2 50 i = nI (g i) from p2.2.1.st hi, dg, hfg i hi]; rfl
          · simp only [itB1]
            exact j127 _ (by rw [dg]; rfl)
      exact main _ ⟨hX.k11, hc.kS (by omega) (by omega), fun s hs => by rw [ts_u_c (by omega)]; exact h14 s hs, by rw [ts_u_app]; simp; exact h11, fun q hq hgq => by rw [ts_u_c (by omega)]; exact h12 q hq hgq, fun w hw => by rw [ts_u_c (by omega)]; exact h13 w hw, hg⟩ (by simp [ts_u_app]) (fun q hq => absurd hq (Nat.not_lt_zero q))
    cases b with
    | none =>
      rw [show σ 11 6 = -1 from hb, if_neg (nI_m1 (by omega))]
      exact fun s8 e => wr s8 e rfl
    | some q =>
      rw [hb.1]
      have hq5 := hb.2.1
      by_cases e : m ≤ q.1
      · rw [if_pos (nI_le e (by omega))]
        refine hk σ hpo ?_
        have : ¬ q.1 < m := by omega
        simp only [betF, this, ↓reduceIte]; exact hb
      · rw [if_neg (nI_ge (by omega) (by omega))]
        have : q.1 < m := by omega
        exact fun s8 e2 => wr s8 e2 (by simp only [betF, this, ↓reduceIte])
  · intro i hi ih
    apply hXx; unfold wp_X3_takeIfBetter_b4
    have s1 := hX.xc.wsH hi
    have d1 := hX.xc.wd4 hi
    have hcl := cr_le (vT U) g (qn (vP U)) (qs (vP U) i)
    rw [show σ 23 2 = _ from hX.xc.w, if_neg (nI_ge hi (by omega)), cl6 hi (by omega), show σ 25 i = _ from hX.xc.ws hi, nI_clamp (by omega), h14 _ (by omega), show σ 26 i = _ from hX.xc.wd hi]
    refine ⟨in5 hi h5, vp_in_nI (by omega) (by omega), in5 hi h5, ?_⟩
    have j56 : ∀ bb : Bool, bb = decide (qd (vP U) i ≤ cr (vT U) g (qn (vP U)) (qs (vP U) i)) → wp_X3_takeIfBetter_j56 K X σ (nI i) (nB bb) (nI (cn (fun w => decide (qd (vP U) w ≤ cr (vT U) g (qn (vP U)) (qs (vP U) w))) i)) := by
      intro bb hbb
      unfold wp_X3_takeIfBetter_j56
      refine sx_asNumber ?_
      rw [nI_1]
      cases bb
      · rw [cn_f (f := fun w => decide (qd (vP U) w ≤ cr (vT U) g (qn (vP U)) (qs (vP U) w))) hbb.symm] at ih; rw [show nB false = nI 0 from rfl, nI_add]; exact ih
      · rw [cn_t (f := fun w => decide (qd (vP U) w ≤ cr (vT U) g (qn (vP U)) (qs (vP U) w))) hbb.symm] at ih; rw [show nB true = nI 1 from rfl, nI_add]; exact ih
    by_cases e : cr (vT U) g (qn (vP U)) (qs (vP U) i) < qd (vP U) i
    · rw [if_pos (nI_lt e (by omega))]; exact j56 false (by symm; apply decide_eq_false; omega)
    · rw [if_neg (nI_nlt (by omega) (by omega))]; exact j56 true (by symm; apply decide_eq_true; omega)
