/-! a tower's methods that change it -/
def fr (σ σ' : ts_S) (t : Nat) : Prop := ∀ k, (k < t ∨ t + 5 < k) → σ' k = σ k
theorem fr.rf {σ : ts_S} {t : Nat} : fr σ σ t := fun _ _ => rfl
theorem fr.tr {σ σ' σ'' : ts_S} {t : Nat} (h : fr σ σ' t) (h2 : fr σ' σ'' t) : fr σ σ'' t := fun k hk => (h2 k hk).trans (h k hk)
theorem tX_T.ge {t : Nat} (h : tX_T t) : 31 ≤ t := by obtain ⟨i, -, rfl⟩ := h; omega
theorem pl_lt (t : Nat) : tX_pl t + 3 < 31 := by rcases tX_Lp t with h | h <;> omega
theorem rP.fr {σ σ' : ts_S} {t k : Nat} {P : sP} (h : rP σ k P) (ht : 31 ≤ t) (hk : k + 3 < 31) (hf : fr σ σ' t) : rP σ' k P := by
  obtain ⟨h1, h2, h3, h4, h5⟩ := h
  have e : ∀ j, j ≤ 3 → σ' (k + j) = σ (k + j) := fun j hj => hf _ (Or.inl (by omega))
  have e0 : σ' k = σ k := e 0 (by omega)
  exact ⟨by rw [e0]; exact h1, by rw [e0]; exact h2, by rw [e0]; exact h3, fun p hp => by rw [e 1 (by omega)]; exact h4 p hp, fun w hw => by rw [e 2 (by omega), e 3 (by omega)]; exact h5 w hw⟩
def fzn (P : sP) (T : sT) (p : Nat) : Bool := frz P T p && !fal P T p
/-- person i's cells are written, all else stays -/
def up4 (σ σ' : ts_S) (t i : Nat) (a nv : Int32) (g : Int32) : Prop :=
  (∀ k, (k < t + 2 ∨ t + 5 < k) → σ' k = σ k) ∧ (σ' (t + 2) i = a ∧ σ' (t + 3) i = nv ∧ σ' (t + 4) i = g ∧ σ' (t + 5) i = 0) ∧ ∀ p, p ≠ i → σ' (t + 2) p = σ (t + 2) p ∧ σ' (t + 3) p = σ (t + 3) p ∧ σ' (t + 4) p = σ (t + 4) p ∧ σ' (t + 5) p = σ (t + 5) p
theorem minI (a b : Nat) (ha : a < 1000000) (hb : b < 1000000) : (if nI b < nI a then nI b else nI a) = nI (min a b) := by
  by_cases h : b < a
  · rw [if_pos (nI_lt h (by omega)), Nat.min_eq_right (by omega)]
  · rw [if_neg (nI_nlt (by omega) (by omega)), Nat.min_eq_left (by omega)]
theorem maxI (a b : Nat) (ha : a < 1000000) (hb : b < 1000000) : (if nI a < nI b then nI b else nI a) = nI (max a b) := by
  by_cases h : a < b
  · rw [if_pos (nI_lt h (by omega)), Nat.max_eq_right (by omega)]
  · rw [if_neg (nI_nlt (by omega) (by omega)), Nat.max_eq_left (by omega)]
theorem sx_goYear_170 {K : ts_S → Prop} {X : ts_S → Int32 → Prop} {σ : ts_S} {t i : Nat} {x1 x2 : Int32} {a : Nat} {nv g : Int32} (hi : i < 6) (ha : σ (t + 2) i = nI a) (h99 : a ≤ 99) (hn : σ (t + 3) i = nv) (hg : σ (t + 4) i = g) (hk : ∀ σ', up4 σ σ' t i (nI (min (a + 1) 99)) nv g → X σ' (nI (i + 1))) : wp_X8_goYear_j170 K X t σ x1 x2 (nI i) := by
  unfold wp_X8_goYear_j170
  have hin : vp_in (nI i) 6 := vp_in_nI hi (by omega)
  refine ⟨hin, hin, ?_⟩
  rintro _ rfl
  refine ⟨hin, ?_⟩
  rintro _ rfl
  rw [nI_clamp (by omega), nI_1, ha]
  refine hk _ ?_
  rw [narZ0, k99, k1, nI_add, minI _ _ (by omega) (by omega)]
  refine ⟨fun k hk => ?_, ⟨?_, ?_, ?_, ?_⟩, fun p hp => ⟨?_, ?_, ?_, ?_⟩⟩
  · rw [ts_u_c (by omega), ts_u_c (by omega)]
  · simp [ts_u_app]
  · simp [ts_u_app, hn]
  · simp [ts_u_app, hg]
  · simp [ts_u_app]
  · simp [ts_u_app, hp]
  · simp [ts_u_app]
  · simp [ts_u_app]
  · simp [ts_u_app, hp]
/-- the years' loop, as far as i -/
def iy (σ σ' : ts_S) (t : Nat) (P : sP) (T : sT) (i : Nat) : Prop :=
  (∀ k, (k < t + 2 ∨ t + 5 < k) → σ' k = σ k) ∧ (∀ p, p < i → σ' (t + 2) p = nI (uA (yer P T) p) ∧ σ' (t + 3) p = nI (uN (yer P T) p) ∧ σ' (t + 4) p = nB (uG (yer P T) p) ∧ σ' (t + 5) p = nB false) ∧ ∀ p, i ≤ p → σ' (t + 2) p = σ (t + 2) p ∧ σ' (t + 3) p = σ (t + 3) p ∧ σ' (t + 4) p = σ (t + 4) p ∧ σ' (t + 5) p = σ (t + 5) p
theorem iy.step {σ σ' σ'' : ts_S} {t : Nat} {P : sP} {T : sT} {i : Nat} {a nv g : Int32} (h : iy σ σ' t P T i) (u : up4 σ' σ'' t i a nv g) (ha : a = nI (uA (yer P T) i)) (hn : nv = nI (uN (yer P T) i)) (hg : g = nB (uG (yer P T) i)) : iy σ σ'' t P T (i + 1) := by
  refine ⟨fun k hk => (u.1 k hk).trans (h.1 k hk), fun p hp => ?_, fun p hp => ?_⟩
  · by_cases e : p = i
    · subst e; obtain ⟨u1, u2, u3, u4⟩ := u.2.1; exact ⟨u1.trans ha, u2.trans hn, u3.trans hg, u4⟩
    · obtain ⟨u1, u2, u3, u4⟩ := u.2.2 p e
      obtain ⟨v1, v2, v3, v4⟩ := h.2.1 p (by omega)
      exact ⟨u1.trans v1, u2.trans v2, u3.trans v3, u4.trans v4⟩
  · obtain ⟨u1, u2, u3, u4⟩ := u.2.2 p (by omega)
    obtain ⟨v1, v2, v3, v4⟩ := h.2.2 p (by omega)
    exact ⟨u1.trans v1, u2.trans v2, u3.trans v3, u4.trans v4⟩
theorem yer_wf {P : sP} {T : sT} (h : wfT P T) (hy : uY T + 1 < 10000) : wfT P (yer P T) := by
  refine ⟨hy, fun p hp => ?_⟩
  obtain ⟨h1, h2, h3⟩ := h.2 p hp
  refine ⟨h1, ?_, ?_⟩
  · show min (uA T p + 1) 99 ≤ 99; omega
  · show (if uG T p || fal P T p then uN T p else if frz P T p then uN T p - 1 else min (uN T p + 1) 30) ≤ 30
    split
    · omega
    · split <;> omega
theorem iy.done {σ σ' σ'' : ts_S} {t : Nat} {P : sP} {T : sT} (ht : tX_T t) (c : cx σ t P T) (hb : bz σ t) (hy : uY T + 1 < 10000) (h : iy σ σ' t P T (qn P)) (h2 : σ'' = ts_u σ' t 6 (nI (uY T + 1))) : fr σ σ'' t ∧ cx σ'' t P (yer P T) ∧ bz σ'' t := by
  have hf : fr σ σ'' t := fun k hk => by rw [h2, ts_u_c (by omega)]; exact h.1 k (by omega)
  have e : ∀ k, k ≠ t → σ'' k = σ' k := fun k hk => by rw [h2, ts_u_c hk]
  refine ⟨hf, ⟨c.1.fr ht.ge (pl_lt t) hf, ⟨by rw [h2, ts_u_app]; simp; rfl, fun p hp => ?_⟩, c.2.2.1, yer_wf c.2.2.2 hy⟩, fun p hp => ?_⟩
  · obtain ⟨v1, v2, v3, v4⟩ := h.2.1 p hp
    rw [e (t + 1) (by omega), e (t + 2) (by omega), e (t + 3) (by omega), e (t + 4) (by omega), e (t + 5) (by omega), h.1 (t + 1) (by omega)]
    exact ⟨c.st hp, v1, v2, v3, v4⟩
  · rw [e (t + 4) (by omega), e (t + 5) (by omega)]
    by_cases hpn : p < qn P
    · obtain ⟨v1, v2, v3, v4⟩ := h.2.1 p hpn
      exact ⟨⟨_, v3⟩, ⟨_, v4⟩⟩
    · obtain ⟨v1, v2, v3, v4⟩ := h.2.2 p (by omega)
      rw [v3, v4]; exact hb p hp
theorem sx_goYear {K : ts_S → Prop} {σ : ts_S} {t : Nat} {P : sP} {T : sT} (ht : tX_T t) (c : cx σ t P T) (hb : bz σ t) (hy : uY T + 1 < 10000) (hk : ∀ σ', fr σ σ' t → cx σ' t P (yer P T) → bz σ' t → K σ') : wp_X8_goYear K σ t := by
  have h6 := c.n6
  have h40 := fun p hp => fea_le c.2.2.1 c.2.2.2 (qk P p) p (uS T p) hp
  have loop2 : wp_X8_goYear_l90 K t σ (nI (bs (fzn P T) (qn P))) (nI (bs (fal P T) (qn P))) 0 := by
    unfold wp_X8_goYear_l90
    intro X hX
    have main : ∀ σ', iy σ σ' t P T 0 → X σ' (nI 0) := by
      refine ts_down (P := fun i => ∀ σ', iy σ σ' t P T i → X σ' (nI i)) (qn P) ?_ ?_
      · intro σ' h
        apply hX; unfold wp_X8_goYear_b90
        have en : σ' (tX_pl t) = σ (tX_pl t) := h.1 _ (Or.inl (by have := pl_lt t; have := ht.ge; omega))
        rw [en, c.n, if_pos (nI_le (Nat.le_refl _) (by omega))]
        rintro _ rfl
        obtain ⟨a1, a2, a3⟩ := iy.done (σ'' := ts_u σ' t 6 (nI (uY T + 1))) ht c hb hy h rfl
        rw [show σ' t = σ t from h.1 t (by omega), c.yr, nI_1]
        exact hk _ a1 a2 a3
      · intro i hi ih σ' h
        apply hX; unfold wp_X8_goYear_b90
        have en : σ' (tX_pl t) = σ (tX_pl t) := h.1 _ (Or.inl (by have := pl_lt t; have := ht.ge; omega))
        rw [en, c.n, if_neg (nI_ge hi (by omega))]
        obtain ⟨o2, o3, o4, o5⟩ := h.2.2 i (Nat.le_refl i)
        have hn30 := c.n30 hi
        have h99 := c.a99 hi
        refine sx_hasBit (by have := bs_64 (fal P T) h6; omega) (by omega) ?_
        rw [bs_bit, decide_eq_true hi, Bool.true_and]
        have hin : vp_in (nI i) 6 := in6 hi h6
        cases df : fal P T i
        · simp only [itB0]
          refine ⟨hin, ?_⟩
          rw [cl6 hi h6, o4, c.go hi]
          cases dg : uG T i
          · simp only [itB0]
            refine sx_hasBit (by have := bs_64 (fzn P T) h6; omega) (by omega) ?_
            rw [bs_bit, decide_eq_true hi, Bool.true_and]
            cases dz : fzn P T i
            · simp only [itB0]
              have dfz : frz P T i = false := by simpa [fzn, df] using dz
              refine ⟨hin, ?_⟩
              unfold wp_X8_goYear_j169
              refine ⟨hin, ?_⟩
              rintro _ rfl
              rw [o3, c.ne hi, nI_1, k30, minI _ _ (by omega) (by omega), cl6 hi h6]
              refine sx_goYear_170 (a := uA T i) (nv := nI (min (uN T i + 1) 30)) (g := nB false) (by omega) (by rw [ts_u_c (by omega), o2, c.ag hi]) h99 (by simp [ts_u_app]) (by rw [ts_u_c (by omega), o4, c.go hi, dg]) (fun σ'' u => ih σ'' ?_)
              refine iy.step (i := i) (a := nI (min (uA T i + 1) 99)) (nv := nI (min (uN T i + 1) 30)) (g := nB false) h ?_ rfl ?_ ?_
              · refine ⟨fun k hk => (u.1 k hk).trans (ts_u_c (by omega)), u.2.1, fun p hp => ?_⟩
                obtain ⟨u1, u2, u3, u4⟩ := u.2.2 p hp
                exact ⟨u1.trans (by rw [ts_u_c (by omega)]), u2.trans (by simp [ts_u_app, hp]), u3.trans (by rw [ts_u_c (by omega)]), u4.trans (by rw [ts_u_c (by omega)])⟩
              · show _ = nI (if uG T i || fal P T i then uN T i else if frz P T i then uN T i - 1 else min (uN T i + 1) 30); simp [dg, df, dfz]
              · show _ = nB (uG T i || fal P T i); simp [dg, df]
            · simp only [itB1]
              have dfz : frz P T i = true := by simp [fzn] at dz; exact dz.1
              refine ⟨hin, ?_⟩
              unfold wp_X8_goYear_j169
              refine ⟨hin, ?_⟩
              rintro _ rfl
              rw [o3, c.ne hi, cl6 hi h6]
              have en1 : (if nI (uN T i) - 1 < 0 then (0 : Int32) else nI (uN T i) - 1) = nI (uN T i - 1) := by
                rw [k1, k0]
                by_cases z : uN T i = 0
                · rw [z, if_pos ((sub_ltI (by omega) (by omega) (by omega)).mpr (by omega))]
                · rw [pk_sub (by omega), if_neg (nI_nlt (by omega) (by omega))]
              rw [en1]
              refine sx_goYear_170 (a := uA T i) (nv := nI (uN T i - 1)) (g := nB false) (by omega) (by rw [ts_u_c (by omega), o2, c.ag hi]) h99 (by simp [ts_u_app]) (by rw [ts_u_c (by omega), o4, c.go hi, dg]) (fun σ'' u => ih σ'' ?_)
              refine iy.step (i := i) (a := nI (min (uA T i + 1) 99)) (nv := nI (uN T i - 1)) (g := nB false) h ?_ rfl ?_ ?_
              · refine ⟨fun k hk => (u.1 k hk).trans (ts_u_c (by omega)), u.2.1, fun p hp => ?_⟩
                obtain ⟨u1, u2, u3, u4⟩ := u.2.2 p hp
                exact ⟨u1.trans (by rw [ts_u_c (by omega)]), u2.trans (by simp [ts_u_app, hp]), u3.trans (by rw [ts_u_c (by omega)]), u4.trans (by rw [ts_u_c (by omega)])⟩
              · show _ = nI (if uG T i || fal P T i then uN T i else if frz P T i then uN T i - 1 else min (uN T i + 1) 30); simp [dg, df, dfz]
              · show _ = nB (uG T i || fal P T i); simp [dg, df]
          · simp only [itB1]
            refine sx_goYear_170 (a := uA T i) (nv := nI (uN T i)) (g := nB true) (by omega) (by rw [o2, c.ag hi]) h99 (by rw [o3, c.ne hi]) (by rw [o4, c.go hi, dg]) (fun σ'' u => ih σ'' (iy.step h u rfl ?_ ?_))
            · show _ = nI (if uG T i || fal P T i then uN T i else if frz P T i then uN T i - 1 else min (uN T i + 1) 30); simp [dg]
            · show _ = nB (uG T i || fal P T i); simp [dg]
        · simp only [itB1]
          refine ⟨hin, ?_⟩
          rintro _ rfl
          rw [cl6 hi h6, narZ1]
          refine sx_goYear_170 (a := uA T i) (nv := nI (uN T i)) (g := nB true) (by omega) (by rw [ts_u_c (by omega), o2, c.ag hi]) h99 (by rw [ts_u_c (by omega), o3, c.ne hi]) (by simp [ts_u_app]; rfl) (fun σ'' u => ih σ'' ?_)
          refine iy.step (i := i) (a := nI (min (uA T i + 1) 99)) (nv := nI (uN T i)) (g := nB true) h ?_ rfl ?_ ?_
          · refine ⟨fun k hk => (u.1 k hk).trans (ts_u_c (by omega)), u.2.1, fun p hp => ?_⟩
            obtain ⟨u1, u2, u3, u4⟩ := u.2.2 p hp
            exact ⟨u1.trans (by rw [ts_u_c (by omega)]), u2.trans (by rw [ts_u_c (by omega)]), u3.trans (by simp [ts_u_app, hp]), u4.trans (by rw [ts_u_c (by omega)])⟩
          · show _ = nI (if uG T i || fal P T i then uN T i else if frz P T i then uN T i - 1 else min (uN T i + 1) 30); simp [df]
          · show _ = nB (uG T i || fal P T i); simp [df]
    exact main σ ⟨fun _ _ => rfl, fun p hp => absurd hp (Nat.not_lt_zero p), fun p _ => ⟨rfl, rfl, rfl, rfl⟩⟩
  unfold wp_X8_goYear wp_X8_goYear_l6
  intro X hX
  refine ts_down (P := fun i => X σ (nI (bs (fzn P T) i)) (nI (bs (fal P T) i)) (nI i)) (qn P) ?_ ?_
  · apply hX; unfold wp_X8_goYear_b6
    rw [c.n, if_pos (nI_le (Nat.le_refl _) (by omega))]; exact loop2
  · intro i hi ih
    apply hX; unfold wp_X8_goYear_b6
    rw [c.n, if_neg (nI_ge hi (by omega)), cl6 hi h6, c.st hi]
    have hin : vp_in (nI i) 6 := in6 hi h6
    have hn30 := c.n30 hi
    have hfe := h40 i hi
    refine ⟨hin, sx_fearOn c hi (c.sH hi) ?_⟩
    refine ⟨hin, hin, ?_⟩
    rw [c.go hi, c.ne hi]
    have hz1 := bs_64 (fzn P T) (show i ≤ 6 by omega)
    have hz2 := bs_64 (fal P T) (show i ≤ 6 by omega)
    cases dg : uG T i
    · simp only [itB0]
      by_cases d8 : fea P T (qk P i) i (uS T i) < uN T i + 8
      · rw [if_pos (by rw [k8]; exact (sub_ltI (by omega) (by omega) (by omega)).mpr d8)]
        unfold wp_X8_goYear_j62
        refine ⟨hin, ?_⟩
        rw [cl6 hi h6, c.go hi, dg]
        simp only [itB0]
        have df : fal P T i = false := by simp [fal, dg]; omega
        rw [bs_f df] at ih
        by_cases d0 : fea P T (qk P i) i (uS T i) ≤ uN T i
        · rw [if_pos (by rw [k0]; exact (sub_leI (by omega) (by omega) (by omega)).mpr (by omega))]
          rw [bs_f (by simp [fzn, frz, dg]; omega)] at ih; rw [nI_1]; exact ih
        · rw [if_neg (by rw [k0, sub_leI (by omega) (by omega) (by omega)]; omega)]
          rw [bs_t (by simp [fzn, frz, dg, df]; omega)] at ih; rw [bt_or i (by omega) _ (by omega), nI_1]; exact ih
      · rw [if_neg (by rw [k8, sub_ltI (by omega) (by omega) (by omega)]; exact d8)]
        have df : fal P T i = true := by simp [fal, dg]; omega
        rw [bs_t df, bs_f (show fzn P T i = false by simp [fzn, df])] at ih
        rw [bt_or i (by omega) _ (by omega), nI_1]; exact ih
    · simp only [itB1]
      unfold wp_X8_goYear_j62
      refine ⟨hin, ?_⟩
      rw [cl6 hi h6, c.go hi, dg]
      simp only [itB1]
      rw [bs_f (show fal P T i = false by simp [fal, dg]), bs_f (show fzn P T i = false by simp [fzn, frz, dg])] at ih
      rw [nI_1]; exact ih
theorem sx_goYears {K : ts_S → Prop} {σ : ts_S} {t : Nat} {P : sP} {T : sT} (ht : tX_T t) (c : cx σ t P T) (hb : bz σ t) (n : Nat) (hn : n ≤ 100) (hy : uY T + n < 10000) (hk : ∀ σ', fr σ σ' t → cx σ' t P (yrs P n T) → bz σ' t → K σ') : wp_X8_goYears K σ t (nI n) := by
  unfold wp_X8_goYears wp_X8_goYears_l2
  intro X hX
  have hY : ∀ i, uY (yrs P i T) = uY T + i := by
    intro i
    induction i with
    | zero => rfl
    | succ i ih => show uY (yrs P i T) + 1 = _; omega
  have main : ∀ σ', fr σ σ' t → cx σ' t P (yrs P 0 T) → bz σ' t → X σ' (nI 0) := by
    refine ts_down (P := fun i => ∀ σ', fr σ σ' t → cx σ' t P (yrs P i T) → bz σ' t → X σ' (nI i)) n ?_ ?_
    · intro σ' h1 h2 h3
      apply hX; unfold wp_X8_goYears_b2
      rw [if_pos (nI_le (Nat.le_refl _) (by omega))]; exact hk σ' h1 h2 h3
    · intro i hi ih σ' h1 h2 h3
      apply hX; unfold wp_X8_goYears_b2
      rw [if_neg (nI_ge hi (by omega))]
      refine sx_goYear ht h2 h3 (by rw [hY]; omega) (fun σ'' a1 a2 a3 => ?_)
      rw [nI_1]; exact ih σ'' (h1.tr a1) a2 a3
  exact main σ fr.rf c hb
theorem sx_mayGoDown {K : Int32 → ts_S → Prop} {σ : ts_S} {t : Nat} {P : sP} {T : sT} (c : cx σ t P T) {p : Nat} (hp : p < qn P) (hk : K (nB (decide (0 < uS T p) && std P T p)) σ) : wp_X8_mayGoDown K σ t (nI p) := by
  have h6 := c.n6
  have h10 := c.h10
  have hs := c.sH hp
  unfold wp_X8_mayGoDown
  refine ⟨in6 hp h6, ?_⟩
  rw [cl6 hp h6, c.st hp]
  by_cases d : uS T p = 0
  · rw [if_pos (by rw [d]; decide)]
    rw [show (decide (0 < uS T p) && std P T p) = false by simp [d]] at hk; exact ⟨zb0, hk⟩
  · rw [if_neg (by rw [k0]; exact nI_ge (by omega) (by omega))]
    refine sx_isSteady c hp ?_
    rw [show (decide (0 < uS T p) && std P T p) = std P T p by simp; omega] at hk
    cases ds : std P T p <;> rw [ds] at hk
    · simp only [itB0]; exact ⟨zb0, hk⟩
    · simp only [itB1]; exact ⟨zb1, hk⟩
theorem sx_mayGoUp {K : Int32 → ts_S → Prop} {σ : ts_S} {t : Nat} {P : sP} {T : sT} (c : cx σ t P T) {p : Nat} (hp : p < qn P) (hk : K (nB (decide (uS T p + 1 < qH P) && !uG T p)) σ) : wp_X8_mayGoUp K σ t (nI p) := by
  have h6 := c.n6
  have h10 := c.h10
  have hs := c.sH hp
  unfold wp_X8_mayGoUp
  refine ⟨in6 hp h6, ?_⟩
  rw [cl6 hp h6, c.st hp, c.h, k1, pk_sub (by omega), c.go hp]
  by_cases d : qH P - 1 ≤ uS T p
  · rw [if_pos (nI_le d (by omega))]
    rw [show (decide (uS T p + 1 < qH P) && !uG T p) = false by simp; omega] at hk; exact ⟨zb0, hk⟩
  · rw [if_neg (nI_ge (by omega) (by omega))]
    refine ⟨in6 hp h6, ?_⟩
    rw [show (decide (uS T p + 1 < qH P) && !uG T p) = !uG T p by simp; omega] at hk
    cases ds : uG T p <;> rw [ds] at hk
    · simp only [itB0]; exact ⟨zb1, hk⟩
    · simp only [itB1]; exact ⟨zb0, hk⟩
theorem sx_mayBeCalled {K : Int32 → ts_S → Prop} {σ : ts_S} {t : Nat} {P : sP} {T : sT} (c : cx σ t P T) {p : Nat} (hp : p < qn P) (hk : K (nB (!uG T p && !uC T p)) σ) : wp_X8_mayBeCalled K σ t (nI p) := by
  have h6 := c.n6
  unfold wp_X8_mayBeCalled
  refine ⟨in6 hp h6, ?_⟩
  rw [cl6 hp h6, c.go hp, c.ca hp]
  cases ds : uG T p <;> rw [ds] at hk
  · simp only [itB0]
    refine ⟨in6 hp h6, ?_⟩
    cases dc : uC T p <;> rw [dc] at hk
    · simp only [itB0]; exact ⟨zb1, hk⟩
    · simp only [itB1]; exact ⟨zb0, hk⟩
  · simp only [itB1]; exact ⟨zb0, hk⟩
/-- one number of a function is another -/
def fu {α : Type} (f : Nat → α) (i : Nat) (x : α) : Nat → α := fun p => if p = i then x else f p
def tS (T : sT) (p s : Nat) : sT := (uY T, fu (uS T) p s, uA T, uN T, uG T, uC T)
def cls (P : sP) (T : sT) (p : Nat) : Nat := cn (fun q => decide (uS T p < uS T q) && std P T q) (qn P)
def tCl (P : sP) (T : sT) (p : Nat) : sT := (uY T, uS T, uA T, fu (uN T) p (min (uN T p + cls P T p) 30), uG T, fu (uC T) p true)
theorem cx_setS {σ : ts_S} {t : Nat} {P : sP} {T : sT} (ht : tX_T t) (c : cx σ t P T) (hb : bz σ t) {p s : Nat} (hp : p < qn P) (hs : s < qH P) : fr σ (ts_u σ (t + 1) p (nI s)) t ∧ cx (ts_u σ (t + 1) p (nI s)) t P (tS T p s) ∧ bz (ts_u σ (t + 1) p (nI s)) t := by
  have hf : fr σ (ts_u σ (t + 1) p (nI s)) t := fun k hk => ts_u_c (by omega)
  refine ⟨hf, ⟨c.1.fr ht.ge (pl_lt t) hf, ⟨by rw [ts_u_c (by omega)]; exact c.yr, fun q hq => ?_⟩, c.2.2.1, ⟨c.y4, fun q hq => ?_⟩⟩, fun q hq => by rw [ts_u_c (by omega), ts_u_c (by omega)]; exact hb q hq⟩
  · rw [ts_u_c (a := t + 2) (by omega), ts_u_c (a := t + 3) (by omega), ts_u_c (a := t + 4) (by omega), ts_u_c (a := t + 5) (by omega)]
    refine ⟨?_, c.ag hq, c.ne hq, c.go hq, c.ca hq⟩
    rw [ts_u_app]
    show _ = nI (fu (uS T) p s q)
    by_cases e : q = p
    · simp [e, fu]
    · simp [e, fu]; exact c.st hq
  · refine ⟨?_, c.a99 hq, c.n30 hq⟩
    show fu (uS T) p s q < qH P
    unfold fu; split
    · exact hs
    · exact c.sH hq
theorem sx_goDown {K : ts_S → Prop} {σ : ts_S} {t : Nat} {P : sP} {T : sT} (ht : tX_T t) (c : cx σ t P T) (hb : bz σ t) {p : Nat} (hp : p < qn P) (h0 : 0 < uS T p) (hk : ∀ σ', fr σ σ' t → cx σ' t P (tS T p (uS T p - 1)) → bz σ' t → K σ') : wp_X8_goDown K σ t (nI p) := by
  have h6 := c.n6
  have hs := c.sH hp
  unfold wp_X8_goDown
  refine ⟨in6 hp h6, in6 hp h6, ?_⟩
  rintro _ rfl
  rw [cl6 hp h6, c.st hp, k1, pk_sub (by omega)]
  obtain ⟨a1, a2, a3⟩ := cx_setS ht c hb hp (show uS T p - 1 < qH P by omega)
  exact hk _ a1 a2 a3
theorem sx_goUp {K : ts_S → Prop} {σ : ts_S} {t : Nat} {P : sP} {T : sT} (ht : tX_T t) (c : cx σ t P T) (hb : bz σ t) {p : Nat} (hp : p < qn P) (h0 : uS T p + 1 < qH P) (hk : ∀ σ', fr σ σ' t → cx σ' t P (tS T p (uS T p + 1)) → bz σ' t → K σ') : wp_X8_goUp K σ t (nI p) := by
  have h6 := c.n6
  unfold wp_X8_goUp
  refine ⟨in6 hp h6, in6 hp h6, ?_⟩
  rintro _ rfl
  rw [cl6 hp h6, c.st hp, nI_1]
  obtain ⟨a1, a2, a3⟩ := cx_setS ht c hb hp h0
  exact hk _ a1 a2 a3
theorem sx_hearCall {K : ts_S → Prop} {σ : ts_S} {t : Nat} {P : sP} {T : sT} (ht : tX_T t) (c : cx σ t P T) (hb : bz σ t) {p : Nat} (hp : p < qn P) (hk : ∀ σ', fr σ σ' t → cx σ' t P (tCl P T p) → bz σ' t → K σ') : wp_X8_hearCall K σ t (nI p) := by
  have h6 := c.n6
  have h10 := c.h10
  have hn := c.n30 hp
  unfold wp_X8_hearCall wp_X8_hearCall_l4
  intro X hX
  refine ts_down (P := fun i => X σ (nI (cn (fun q => decide (uS T p < uS T q) && std P T q) i)) (nI i)) (qn P) ?_ ?_
  · apply hX; unfold wp_X8_hearCall_b4
    rw [c.n, if_pos (nI_le (Nat.le_refl _) (by omega))]
    refine ⟨in6 hp h6, in6 hp h6, ?_⟩
    rintro _ rfl
    refine ⟨in6 hp h6, ?_⟩
    rintro _ rfl
    have hc : cls P T p ≤ 6 := Nat.le_trans (cn_le _ _) h6
    unfold cls at hc
    rw [cl6 hp h6, c.ne hp, nI_add, k30, minI _ _ (by omega) (by omega), narZ1]
    have hf : fr σ (ts_u (ts_u σ (t + 3) p (nI (min (uN T p + cls P T p) 30))) (t + 5) p 1) t := fun k hk => by rw [ts_u_c (by omega), ts_u_c (by omega)]
    refine hk _ hf ⟨c.1.fr ht.ge (pl_lt t) hf, ⟨by rw [ts_u_c (by omega), ts_u_c (by omega)]; exact c.yr, fun q hq => ?_⟩, c.2.2.1, ⟨c.y4, fun q hq => ⟨c.sH hq, c.a99 hq, ?_⟩⟩⟩ (fun q hq => ?_)
    · rw [ts_u_c (a := t + 1) (by omega), ts_u_c (a := t + 1) (by omega), ts_u_c (a := t + 2) (by omega), ts_u_c (a := t + 2) (by omega), ts_u_c (a := t + 3) (by omega), ts_u_c (a := t + 4) (by omega), ts_u_c (a := t + 4) (by omega), ts_u_app, ts_u_app]
      refine ⟨c.st hq, c.ag hq, ?_, c.go hq, ?_⟩
      · show _ = nI (fu (uN T) p (min (uN T p + cls P T p) 30) q)
        by_cases e : q = p
        · simp [e, fu]; rfl
        · simp [e, fu]; exact c.ne hq
      · show _ = nB (fu (uC T) p true q)
        by_cases e : q = p
        · simp [e, fu]; rfl
        · simp [e, fu]; rw [ts_u_c (by omega)]; exact c.ca hq
    · show fu (uN T) p (min (uN T p + cls P T p) 30) q ≤ 30
      unfold fu; split
      · omega
      · exact c.n30 hq
    · rw [ts_u_c (a := t + 4) (by omega), ts_u_c (a := t + 4) (by omega)]
      refine ⟨(hb q hq).1, ?_⟩
      rw [ts_u_app]
      split
      · exact ⟨true, rfl⟩
      · rw [ts_u_c (by omega)]; exact (hb q hq).2
  · intro i hi ih
    apply hX; unfold wp_X8_hearCall_b4
    have hsi := c.sH hi
    have hsp := c.sH hp
    rw [c.n, if_neg (nI_ge hi (by omega)), cl6 hi h6, cl6 hp h6, c.st hi, c.st hp]
    refine ⟨in6 hi h6, in6 hp h6, ?_⟩
    by_cases d : uS T i ≤ uS T p
    · rw [if_pos (nI_le d (by omega))]
      rw [cn_f (by simp; omega)] at ih; rw [nI_1]; exact ih
    · rw [if_neg (nI_ge (by omega) (by omega))]
      refine sx_isSteady c hi ?_
      cases ds : std P T i
      · rw [cn_f (by simp [ds])] at ih; simp only [itB0, nI_1]; exact ih
      · rw [cn_t (by simp [ds]; omega)] at ih; simp only [itB1, nI_1]; exact ih
theorem tX_T.apart {t t1 : Nat} (h : tX_T t) (h1 : tX_T t1) (hne : t ≠ t1) : t + 5 < t1 ∨ t1 + 5 < t := by
  obtain ⟨i, hi, rfl⟩ := h
  obtain ⟨j, hj, rfl⟩ := h1
  omega
theorem fz_of {σ : ts_S} {t : Nat} (hb : bz σ t) : ts_fz (σ (t + 4)) 6 ∧ ts_fz (σ (t + 5)) 6 := by
  refine ⟨fun i hi => ?_, fun i hi => ?_⟩
  · obtain ⟨⟨b, h⟩, -⟩ := hb i hi; rw [h]; exact fitB b
  · obtain ⟨-, ⟨b, h⟩⟩ := hb i hi; rw [h]; exact fitB b
theorem sx_standAs {K : ts_S → Prop} {σ : ts_S} {t t1 : Nat} {n : Nat} {T : sT} (ht : tX_T t) (ht1 : tX_T t1) (hne : t ≠ t1) (hn : n ≤ 6) (hT : rT σ t1 n T) (hb : bz σ t1) (hk : ∀ σ', fr σ σ' t → rT σ' t n T → bz σ' t → K σ') : wp_X8_standAs K σ t t1 := by
  have ap := ht.apart ht1 hne
  have fz := fz_of hb
  have e0 : ∀ (σ : ts_S) (k : Nat) (f : Nat → Int32) (j : Nat), t ≤ k → k ≤ t + 5 → j ≤ 5 → va_up σ k f (t1 + j) = σ (t1 + j) := fun σ k f j h1 h2 h3 => ts_up_c (by omega)
  unfold wp_X8_standAs
  rintro s1 rfl s2 rfl s3 rfl
  refine ⟨?_, ?_⟩
  · rw [e0 _ _ _ 4 (by omega) (by omega) (by omega), e0 _ _ _ 4 (by omega) (by omega) (by omega), e0 _ _ _ 4 (by omega) (by omega) (by omega)]; exact fz.1
  rintro s4 rfl
  refine ⟨?_, ?_⟩
  · rw [e0 _ _ _ 5 (by omega) (by omega) (by omega), e0 _ _ _ 5 (by omega) (by omega) (by omega), e0 _ _ _ 5 (by omega) (by omega) (by omega), e0 _ _ _ 5 (by omega) (by omega) (by omega)]; exact fz.2
  rintro s5 rfl s6 rfl
  obtain ⟨hy, hp⟩ := hT
  refine hk _ (fun k hk => ?_) ⟨?_, fun p hpn => ?_⟩ (fun p hp6 => ?_)
  · rw [ts_u_c (by omega), ts_up_c (by omega), ts_up_c (by omega), ts_up_c (by omega), ts_up_c (by omega), ts_up_c (by omega)]
  · rw [ts_u_app, if_pos ⟨rfl, rfl⟩]
    rw [ts_up_c (by omega), ts_up_c (by omega), ts_up_c (by omega), ts_up_c (by omega), ts_up_c (by omega)]
    exact hy
  · obtain ⟨h1, h2, h3, h4, h5⟩ := hp p hpn
    have hp6 : p < 6 := by omega
    refine ⟨?_, ?_, ?_, ?_, ?_⟩
    · rw [ts_u_c (by omega), ts_up_c (by omega), ts_up_c (by omega), ts_up_c (by omega), ts_up_c (by omega), ts_up_s, cpy6, if_pos hp6]; exact h1
    · rw [ts_u_c (by omega), ts_up_c (by omega), ts_up_c (by omega), ts_up_c (by omega), ts_up_s, cpy6, if_pos hp6, ts_up_c (by omega)]; exact h2
    · rw [ts_u_c (by omega), ts_up_c (by omega), ts_up_c (by omega), ts_up_s, cpy6, if_pos hp6, ts_up_c (by omega), ts_up_c (by omega)]; exact h3
    · rw [ts_u_c (by omega), ts_up_c (by omega), ts_up_s, cpy6, if_pos hp6, ts_up_c (by omega), ts_up_c (by omega), ts_up_c (by omega)]; exact h4
    · rw [ts_u_c (by omega), ts_up_s, cpy6, if_pos hp6, ts_up_c (by omega), ts_up_c (by omega), ts_up_c (by omega), ts_up_c (by omega)]; exact h5
  · obtain ⟨h4, h5⟩ := hb p hp6
    refine ⟨?_, ?_⟩
    · rw [ts_u_c (by omega), ts_up_c (by omega), ts_up_s, cpy6, if_pos hp6, ts_up_c (by omega), ts_up_c (by omega), ts_up_c (by omega)]; exact h4
    · rw [ts_u_c (by omega), ts_up_s, cpy6, if_pos hp6, ts_up_c (by omega), ts_up_c (by omega), ts_up_c (by omega), ts_up_c (by omega)]; exact h5
def tA4 (P : sP) (T : sT) (p a : Nat) : sT :=
  if a ≤ 1 then (if decide (0 < uS T p) && std P T p then tS T p (uS T p - 1) else T)
  else if a = 2 then (if decide (uS T p + 1 < qH P) && !uG T p then tS T p (uS T p + 1) else T)
  else if a = 3 then (if !uG T p && !uC T p then tCl P T p else T) else T
def tAct (P : sP) (T : sT) (d : Nat) : sT := tA4 P T (d % qn P) (d / 8 % 6)
theorem sx_actBy4 {K : ts_S → Prop} {σ : ts_S} {t : Nat} {P : sP} {T : sT} (ht : tX_T t) (c : cx σ t P T) (hb : bz σ t) {p a : Nat} {x : Int32} (hp : p < qn P) (ha : a < 6) (hk : ∀ σ', fr σ σ' t → cx σ' t P (tA4 P T p a) → bz σ' t → K σ') : if (1 : Int32) < nI a then wp_X8_actBy_j51 K t x σ (nI p) (nI a) else wp_X8_mayGoDown (fun r s => if r = 0 then wp_X8_actBy_j51 K t x s (nI p) (nI a) else wp_X8_goDown (fun s => K s) s t (nI p)) σ t (nI p) := by
  have j72 : ∀ h : tA4 P T p a = (if a = 3 then (if !uG T p && !uC T p then tCl P T p else T) else T), wp_X8_actBy_j72 K t x σ (nI p) (nI a) := by
    intro h
    unfold wp_X8_actBy_j72
    by_cases d3 : a = 3
    · rw [if_pos (by rw [d3]; rfl)]
      refine sx_mayBeCalled c hp ?_
      rw [if_pos d3] at h
      cases dc : (!uG T p && !uC T p) <;> rw [dc] at h
      · simp only [itB0]; exact hk σ fr.rf (by rw [h]; exact c) hb
      · simp only [itB1]; exact sx_hearCall ht c hb hp (fun σ' a1 a2 a3 => hk σ' a1 (by rw [h]; exact a2) a3)
    · rw [if_neg (by rw [k3, eqI (by omega) (by omega)]; exact d3)]
      rw [if_neg d3] at h
      exact hk σ fr.rf (by rw [h]; exact c) hb
  have j51 : ∀ h : tA4 P T p a = (if a = 2 then (if decide (uS T p + 1 < qH P) && !uG T p then tS T p (uS T p + 1) else T) else if a = 3 then (if !uG T p && !uC T p then tCl P T p else T) else T), wp_X8_actBy_j51 K t x σ (nI p) (nI a) := by
    intro h
    unfold wp_X8_actBy_j51
    by_cases d2 : a = 2
    · rw [if_pos (by rw [d2]; rfl)]
      refine sx_mayGoUp c hp ?_
      rw [if_pos d2] at h
      cases dc : (decide (uS T p + 1 < qH P) && !uG T p) <;> rw [dc] at h
      · simp only [itB0]
        exact j72 (by simp only [h, Bool.false_eq_true, ↓reduceIte, show ¬ a = 3 by omega])
      · simp only [itB1]
        have hup : uS T p + 1 < qH P := by simp at dc; exact dc.1
        exact sx_goUp ht c hb hp hup (fun σ' a1 a2 a3 => hk σ' a1 (by rw [h]; exact a2) a3)
    · rw [if_neg (by rw [k2, eqI (by omega) (by omega)]; exact d2)]
      rw [if_neg d2] at h
      exact j72 h
  by_cases d1 : a ≤ 1
  · rw [if_neg (by rw [k1]; exact nI_nlt d1 (by omega))]
    refine sx_mayGoDown c hp ?_
    have h : tA4 P T p a = (if decide (0 < uS T p) && std P T p then tS T p (uS T p - 1) else T) := by unfold tA4; rw [if_pos d1]
    cases dc : (decide (0 < uS T p) && std P T p) <;> rw [dc] at h
    · simp only [itB0]
      exact j51 (by simp only [h, Bool.false_eq_true, ↓reduceIte, show ¬ a = 3 by omega, show ¬ a = 2 by omega])
    · simp only [itB1]
      have h0 : 0 < uS T p := by simp at dc; exact dc.1
      exact sx_goDown ht c hb hp h0 (fun σ' a1 a2 a3 => hk σ' a1 (by rw [h]; exact a2) a3)
  · rw [if_pos (by rw [k1]; exact nI_lt (by omega) (by omega))]
    exact j51 (by unfold tA4; rw [if_neg d1])
theorem sx_actBy {K : ts_S → Prop} {σ : ts_S} {t : Nat} {P : sP} {T : sT} (ht : tX_T t) (c : cx σ t P T) (hb : bz σ t) (h1 : 1 ≤ qn P) {d : Nat} (hd : d < 1000000) (hk : ∀ σ', fr σ σ' t → cx σ' t P (tAct P T d) → bz σ' t → K σ') : wp_X8_actBy K σ t (nI d) := by
  have h6 := c.n6
  unfold wp_X8_actBy
  rw [c.n, if_pos (by rw [k1]; exact nI_le h1 (by omega))]
  refine ⟨by rw [k0, nI_eq (by omega) (by omega)]; omega, by decide, by decide, ?_⟩
  have e1 : nI d - nI d / nI (qn P) * nI (qn P) = nI (d % qn P) := pk_rem (by omega) (by omega) (by omega)
  have e2 : nI d / 8 = nI (d / 8) := by rw [k8, pk_div (by omega) (by omega) (by omega)]
  have e3 : nI (d / 8) - nI (d / 8) / 6 * 6 = nI (d / 8 % 6) := by rw [k6]; exact pk_rem (by omega) (by omega) (by omega)
  rw [e1, e2, e3]
  exact sx_actBy4 ht c hb (Nat.mod_lt _ (by omega)) (Nat.mod_lt _ (by omega)) hk
