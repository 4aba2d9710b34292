/-! timetable: whom to promote ahead of each year, as the figures of a number to the base of seven -/
def ttD (P : sP) (T : sT) (d : Nat) : Option sT := if d = 0 then some (yer P T) else if d ≤ qn P ∧ (decide (0 < uS T (d - 1)) && std P T (d - 1)) = true then some (yer P (tS T (d - 1) (uS T (d - 1) - 1))) else none
def fdl {α : Type} (f : Nat → α → α) : Nat → α → α
  | 0, b => b
  | m + 1, b => f m (fdl f m b)
def ttS (P : sP) : Nat → sT → Nat → Option (Nat × Nat) → Option (Nat × Nat)
  | 0, T, c, b => bet b (dnm P T) c
  | k + 1, T, c, b => fdl (fun d b => match ttD P T d with
      | none => b
      | some T' => ttS P k T' (c * 7 + d) b) (qn P + 1) b
def dgt (d : Nat) : Int32 := if d = 0 then -4 else nI (d - 1)
def o_timetable (U : sU) (a b : Int32) : Int32 := if win a 1 4 && win b (-1) 3 then
    (if b = -1 then nI ((ttS (vP U) (ix a) (vT U) 0 none).getD (0, 0)).1 else if ix b < ix a then dgt (((ttS (vP U) (ix a) (vT U) 0 none).getD (0, 0)).2 / 7 ^ (ix a - 1 - ix b) % 7) else -4) else -1
theorem fdl_id {α : Type} {f : Nat → α → α} {b : α} (h : ∀ d, f d b = b) : ∀ m, fdl f m b = b
  | 0 => rfl
  | m + 1 => by unfold fdl; rw [fdl_id h m, h]
theorem bet_top {P : sP} {T : sT} {q : Nat × Nat} {c : Nat} (h : qW P ≤ q.1) : bet (some q) (dnm P T) c = some q := by
  have := dnm_le P T
  have : ¬ q.1 < dnm P T := by omega
  simp [bet, this]
theorem ttS_top {P : sP} {q : Nat × Nat} (h : qW P ≤ q.1) : ∀ (k : Nat) (T : sT) (c : Nat), ttS P k T c (some q) = some q
  | 0, T, c => bet_top h
  | k + 1, T, c => by
    unfold ttS
    refine fdl_id (fun d => ?_) _
    cases e : ttD P T d with
    | none => rfl
    | some T' => exact ttS_top h k T' _
theorem fdl_top {α : Type} {f : Nat → α → α} {b : α} {i : Nat} (h : ∀ d, f d (fdl f i b) = fdl f i b) : ∀ m, i ≤ m → fdl f m b = fdl f i b
  | 0, hm => by have : i = 0 := by omega
                subst this; rfl
  | m + 1, hm => by
    by_cases e : i = m + 1
    · rw [e]
    · show f m (fdl f m b) = fdl f i b
      rw [fdl_top h m (by omega), h]
theorem bet_some (b : Option (Nat × Nat)) (n c : Nat) : ∃ q, bet b n c = some q := by
  cases b with
  | none => exact ⟨_, rfl⟩
  | some q => unfold bet; dsimp only; split <;> exact ⟨_, rfl⟩
theorem fdl_some {f : Nat → Option (Nat × Nat) → Option (Nat × Nat)} {b : Option (Nat × Nat)} (h0 : ∀ b, ∃ q, f 0 b = some q) (h : ∀ d q, ∃ q', f d (some q) = some q') : ∀ m, ∃ q, fdl f (m + 1) b = some q
  | 0 => h0 b
  | m + 1 => by
    obtain ⟨q, e⟩ := fdl_some (b := b) h0 h m
    show ∃ q, f (m + 1) (fdl f (m + 1) b) = some q
    rw [e]; exact h _ _
theorem ttS_some {P : sP} : ∀ (k : Nat) (T : sT) (c : Nat) (b : Option (Nat × Nat)), ∃ q, ttS P k T c b = some q
  | 0, T, c, b => bet_some _ _ _
  | k + 1, T, c, b => by
    unfold ttS
    refine fdl_some ?_ (fun d q => ?_) _
    · intro b; exact ttS_some k (yer P T) (c * 7 + 0) b
    cases e : ttD P T d with
    | none => exact ⟨q, rfl⟩
    | some T' => exact ttS_some k _ _ _
theorem dg_step (c d m : Nat) (hd : d < 7) : (c * 7 + d) / 7 ^ (m + 1) = c / 7 ^ m := by
  rw [Nat.pow_succ, Nat.mul_comm (7 ^ m) 7, ← Nat.div_div_eq_div_mul]
  congr 1
  omega
def rCh (σ : ts_S) (j c : Nat) : Prop := ∀ i, i < j → σ 18 i = dgt (c / 7 ^ (j - 1 - i) % 7)
def rTt (σ : ts_S) (N : Nat) (P : sP) (b : Option (Nat × Nat)) : Prop := match b with
  | none => σ 16 4 = -1
  | some q => σ 16 4 = nI q.1 ∧ q.1 ≤ qW P ∧ ∀ i, i < N → σ 19 i = dgt (q.2 / 7 ^ (N - 1 - i) % 7)
def tf (σ σ' : ts_S) (j : Nat) : Prop := (∀ k, 121 ≤ k → k < 121 + 6 * (j + 1) → σ' k = σ k) ∧ σ' 16 2 = σ 16 2 ∧ ∀ i, i < j → σ' 18 i = σ 18 i
theorem tf.tr {σ σ' σ'' : ts_S} {j : Nat} (h : tf σ σ' j) (h2 : tf σ' σ'' j) : tf σ σ'' j := ⟨fun k a b => (h2.1 k a b).trans (h.1 k a b), h2.2.1.trans h.2.1, fun i hi => (h2.2.2 i hi).trans (h.2.2 i hi)⟩
theorem tf.dn {σ σ' : ts_S} {j : Nat} (h : tf σ σ' (j + 1)) : tf σ σ' j := ⟨fun k a b => h.1 k a (by omega), h.2.1, fun i hi => h.2.2 i (by omega)⟩
theorem ahT {j : Nat} (h : j < 5) : tX_T (121 + 6 * j) := ⟨15 + j, by omega, by omega⟩
theorem ah_pl {j : Nat} : tX_pl (121 + 6 * j) = 23 := by unfold tX_pl; rw [if_neg (by omega)]
theorem cx.same {σ σ' : ts_S} {t : Nat} {P : sP} {T : sT} (c : cx σ t P T) (hp : rP σ' (tX_pl t) P) (e : ∀ k, t ≤ k → k ≤ t + 5 → σ' k = σ k) : cx σ' t P T := ⟨hp, c.2.1.same e, c.2.2⟩
theorem rX.pl {σ : ts_S} {U : sU} (h : rX σ U) {j : Nat} : rP σ (tX_pl (121 + 6 * j)) (vP U) := by rw [ah_pl]; exact h.2.1
theorem tS_Y (T : sT) (p s : Nat) : uY (tS T p s) = uY T := rfl
/-- one choice: what 'chooseFrom' must do for the next year is hF -/
theorem sx_choose {K : ts_S → Prop} {F : (ts_S → Prop) → ts_S → Int32 → Prop} {U : sU} {j N c : Nat} {T : sT} {b : Option (Nat × Nat)} {R : sT → Nat → Option (Nat × Nat) → Option (Nat × Nat)} (hN : N ≤ 4) (hj : j < N) (hy : uY T + 1 < 10000)
    (hF : ∀ (K : ts_S → Prop) (σ : ts_S) (T' : sT) (c' : Nat) (b' : Option (Nat × Nat)), uY T' = uY T + 1 → rX σ U → cx σ (121 + 6 * (j + 1)) (vP U) T' → σ 16 2 = nI N → rCh σ (j + 1) c' → rTt σ N (vP U) b' → (∀ σ', rX σ' U → tf σ σ' (j + 1) → rTt σ' N (vP U) (R T' c' b') → K σ') → F K σ (nI (j + 1)))
    {σ : ts_S} (h : rX σ U) (hc : cx σ (121 + 6 * j) (vP U) T) (hn : σ 16 2 = nI N) (hch : rCh σ j c) (hb : rTt σ N (vP U) b) {d : Nat} {T' : sT} (hd : ttD (vP U) T d = some T') (hd7 : d < 7) (hk : ∀ σ', rX σ' U → tf σ σ' j → rTt σ' N (vP U) (R T' (c * 7 + d) b) → K σ') : wp_X7_choose F K σ (nI j) (dgt d) := by
  unfold wp_X7_choose
  have h6 := h.xc.n6
  rw [nI_1, nI_clamp (by omega), nI_clamp (by omega)]
  refine ⟨vp_in_nI (by omega) (by omega), vp_in_nI (by omega) (by omega), ?_⟩
  refine sx_standAs (ahT (by omega)) (ahT (by omega)) (by omega) h6 hc.2.1 (h.bb.at (ahT (by omega))) (fun σ1 f1 r1 b1 => ?_)
  have h1 : rX σ1 U := h.keepT (ahT (by omega)) (by omega) f1 b1
  have c1 : cx σ1 (121 + 6 * (j + 1)) (vP U) T := ⟨h1.pl, r1, hc.2.2⟩
  have j28 : ∀ (σ2 : ts_S) (T2 : sT), fr σ1 σ2 (121 + 6 * (j + 1)) → cx σ2 (121 + 6 * (j + 1)) (vP U) T2 → bz σ2 (121 + 6 * (j + 1)) → uY T2 = uY T → yer (vP U) T2 = T' → wp_X7_choose_j28 F K (nI j) (dgt d) σ2 := by
    intro σ2 T2 f2 c2 b2 hy2 hT2
    unfold wp_X7_choose_j28
    rw [nI_1, nI_clamp (n := j + 1) (by omega)]
    refine sx_goYear (ahT (by omega)) c2 b2 (by omega) (fun σ3 f3 c3 b3 => ?_)
    refine ⟨vp_in_nI (by omega) (by omega), ?_⟩
    rintro _ rfl
    rw [nI_clamp (by omega)]
    have fa : fr σ σ3 (121 + 6 * (j + 1)) := f1.tr (f2.tr f3)
    have h3 : rX σ3 U := h.keepT (ahT (by omega)) (by omega) fa b3
    have ec : ∀ k, k ≠ 18 → ts_u σ3 18 j (dgt d) k = σ3 k := fun k hk => ts_u_c hk
    have h4 : rX (ts_u σ3 18 j (dgt d)) U := h3.keep (fun k hk => ec k (by unfold mc at hk; omega)) (by rw [ec 1 (by omega)]) (fun i hi => (h3.bb i hi).same (fun k a b => ec k (by omega)))
    rw [hT2] at c3
    have hfrm : tf σ (ts_u σ3 18 j (dgt d)) j := ⟨fun k a b => by rw [ec k (by omega)]; exact fa k (by omega), by rw [ec 16 (by omega), fa 16 (by omega)], fun i hi => by rw [ts_u_app, if_neg (by omega), fa 18 (by omega)]⟩
    refine hF _ _ T' (c * 7 + d) b (by rw [← hT2]; show uY T2 + 1 = _; omega) h4 (c3.same h4.pl (fun k a b => ec k (by omega))) (by rw [hfrm.2.1]; exact hn) ?_ ?_ (fun σ5 h5 t5 r5 => hk σ5 h5 (hfrm.tr t5.dn) r5)
    · intro i hi
      by_cases e : i = j
      · subst e
        rw [ts_u_app, if_pos ⟨rfl, rfl⟩]
        have : i + 1 - 1 - i = 0 := by omega
        rw [this]
        have : (c * 7 + d) / 7 ^ 0 % 7 = d := by simp; omega
        rw [this]
      · rw [hfrm.2.2 i (by omega), hch i (by omega)]
        have : j + 1 - 1 - i = (j - 1 - i) + 1 := by omega
        rw [this, dg_step c d _ hd7]
    · cases b with
      | none => show _ = _; rw [ec 16 (by omega), fa 16 (by omega)]; exact hb
      | some q => exact ⟨by rw [ec 16 (by omega), fa 16 (by omega)]; exact hb.1, hb.2.1, fun i hi => by rw [ec 19 (by omega), fa 19 (by omega)]; exact hb.2.2 i hi⟩
  unfold ttD at hd
  by_cases d0 : d = 0
  · rw [if_pos d0] at hd
    rw [if_pos (by rw [d0]; decide)]
    exact j28 σ1 T fr.rf c1 b1 rfl (Option.some.inj hd)
  · rw [if_neg d0] at hd
    have hn6 : dgt d = nI (d - 1) := by unfold dgt; rw [if_neg d0]
    rw [hn6, if_neg (by rw [k0]; exact nI_nlt (by omega) (by omega))]
    by_cases d1 : d ≤ qn (vP U) ∧ (decide (0 < uS T (d - 1)) && std (vP U) T (d - 1)) = true
    · rw [if_pos d1] at hd
      have h0 : 0 < uS T (d - 1) := by have := d1.2; simp at this; exact this.1
      refine sx_goDown (ahT (by omega)) c1 b1 (by omega) h0 (fun σ2 f2 c2 b2 => ?_)
      rw [← hn6]
      exact j28 σ2 _ f2 c2 b2 rfl (Option.some.inj hd)
    · rw [if_neg d1] at hd; cases hd
theorem sx_chooseFrom {U : sU} {N : Nat} (hN : N ≤ 4) : ∀ (d : Nat) (K : ts_S → Prop) (σ : ts_S) (j : Nat) (T : sT) (c : Nat) (b : Option (Nat × Nat)), j ≤ N → N - j < d → uY T ≤ 999 + j → rX σ U → cx σ (121 + 6 * j) (vP U) T → σ 16 2 = nI N → rCh σ j c → rTt σ N (vP U) b → (∀ σ', rX σ' U → tf σ σ' j → rTt σ' N (vP U) (ttS (vP U) (N - j) T c b) → K σ') → wp_X7_chooseFrom d K σ (nI j)
  | 0, _, _, _, _, _, _, _, hd, _, _, _, _, _, _, _ => absurd hd (Nat.not_lt_zero _)
  | d + 1, K, σ, j, T, c, b, hj, hd, hy, h, hc, hn, hch, hb, hk => by
    show wp_X7_chooseFrom_0 (wp_X7_chooseFrom d) K σ (nI j)
    unfold wp_X7_chooseFrom_0
    have h6 := h.xc.n6
    have h5 := h.xc.W5
    refine ⟨vp_in_nI (by omega) (by omega), ?_⟩
    rw [hn]
    by_cases e : j = N
    · rw [if_neg (nI_nlt (by omega) (by omega)), nI_clamp (by omega)]
      refine sx_doneMany hc ?_
      unfold wp_X7_takeIfBetter
      have hd := dnm_le (vP U) T
      have e0 : N - j = 0 := by omega
      rw [e0] at hk
      have hk : ∀ σ', rX σ' U → tf σ σ' j → rTt σ' N (vP U) (bet b (dnm (vP U) T) c) → K σ' := hk
      generalize dnm (vP U) T = m at hd hk ⊢
      have step : ∀ s1 s2 : ts_S, s1 = ts_u σ 16 4 (nI m) → s2 = va_up s1 19 (va_cpy (s1 18) (s1 19) 0 0 4) → rX s2 U ∧ tf σ s2 j ∧ rTt s2 N (vP U) (some (m, c)) := by
        rintro s1 s2 rfl rfl
        have ec : ∀ k, k ≠ 16 → k ≠ 19 → va_up (ts_u σ 16 4 (nI m)) 19 (va_cpy (ts_u σ 16 4 (nI m) 18) (ts_u σ 16 4 (nI m) 19) 0 0 4) k = σ k := fun k a b => by rw [ts_up_c b, ts_u_c a]
        refine ⟨h.keep (fun k hk => ec k (by unfold mc at hk; omega) (by unfold mc at hk; omega)) (by rw [ec 1 (by omega) (by omega)]) (fun i hi => (h.bb i hi).same (fun k a b => ec k (by omega) (by omega))), ⟨fun k a b => ec k (by omega) (by omega), by rw [ts_up_c (by omega), ts_u_app]; simp, fun i hi => by rw [ec 18 (by omega) (by omega)]⟩, by rw [ts_up_c (by omega), ts_u_app]; simp, hd, fun i hi => ?_⟩
        rw [ts_up_s, cpy6, if_pos (by omega), ts_u_c (by omega)]
        have := hch i (by omega)
        rw [e] at this; exact this
      cases b with
      | none =>
        rw [show σ 16 4 = -1 from hb, if_neg (nI_m1 (by omega))]
        intro s1 e1 s2 e2
        obtain ⟨a1, a2, a3⟩ := step s1 s2 e1 e2
        exact hk s2 a1 a2 a3
      | some q =>
        have hq := hb.2.1
        rw [hb.1]
        by_cases dq : m ≤ q.1
        · rw [if_pos (nI_le dq (by omega))]
          have : ¬ q.1 < m := by omega
          refine hk σ h ⟨fun _ _ _ => rfl, rfl, fun _ _ => rfl⟩ ?_
          simp only [bet, this, ↓reduceIte]; exact hb
        · rw [if_neg (nI_ge (by omega) (by omega))]
          intro s1 e1 s2 e2
          obtain ⟨a1, a2, a3⟩ := step s1 s2 e1 e2
          have : q.1 < m := by omega
          refine hk s2 a1 a2 ?_
          simp only [bet, this, ↓reduceIte]; exact a3
    · rw [if_pos (nI_lt (by omega) (by omega))]
      obtain ⟨r, hr⟩ : ∃ r, N - j = r + 1 := ⟨N - j - 1, by omega⟩
      have hr1 : N - (j + 1) = r := by omega
      rw [hr] at hk
      have hF : ∀ (K : ts_S → Prop) (σ : ts_S) (T' : sT) (c' : Nat) (b' : Option (Nat × Nat)), uY T' = uY T + 1 → rX σ U → cx σ (121 + 6 * (j + 1)) (vP U) T' → σ 16 2 = nI N → rCh σ (j + 1) c' → rTt σ N (vP U) b' → (∀ σ', rX σ' U → tf σ σ' (j + 1) → rTt σ' N (vP U) (ttS (vP U) r T' c' b') → K σ') → wp_X7_chooseFrom d K σ (nI (j + 1)) := by
        intro K σ T' c' b' y1 y2 y3 y4 y5 y6 y7
        refine sx_chooseFrom hN d K σ (j + 1) T' c' b' (by omega) (by omega) (by omega) y2 y3 y4 y5 y6 ?_
        rw [hr1]; exact y7
      rw [show (-4 : Int32) = dgt 0 from rfl]
      refine sx_choose hN (by omega) (by omega) hF h hc hn hch hb (d := 0) (T' := yer (vP U) T) rfl (by omega) (fun σ1 h1 t1 r1 => ?_)
      unfold wp_X7_chooseFrom_0_l33
      intro X hX
      generalize hf : (fun (d : Nat) (b : Option (Nat × Nat)) => match ttD (vP U) T d with
        | none => b
        | some T' => ttS (vP U) r T' (c * 7 + d) b) = f
      have hk : ∀ σ', rX σ' U → tf σ σ' j → rTt σ' N (vP U) (fdl f (qn (vP U) + 1) b) → K σ' := by rw [← hf]; exact hk
      have r1 : rTt σ1 N (vP U) (fdl f 1 b) := by rw [← hf]; exact r1
      have ftop : ∀ (q : Nat × Nat), qW (vP U) ≤ q.1 → ∀ d, f d (some q) = some q := by
        intro q hq d
        rw [← hf]
        show (match ttD (vP U) T d with | none => some q | some T' => ttS (vP U) r T' (c * 7 + d) (some q)) = some q
        cases ttD (vP U) T d with
        | none => rfl
        | some T' => exact ttS_top hq _ _ _
      have main : ∀ σ', rX σ' U → tf σ σ' j → rTt σ' N (vP U) (fdl f (0 + 1) b) → X σ' (nI 0) := by
        refine ts_down (P := fun p => ∀ σ', rX σ' U → tf σ σ' j → rTt σ' N (vP U) (fdl f (p + 1) b) → X σ' (nI p)) (qn (vP U)) ?_ ?_
        · intro σ2 h2 t2 r2
          apply hX; unfold wp_X7_chooseFrom_0_b33
          rw [nI_clamp (by omega), ah_pl, show σ2 23 1 = _ from h2.xc.n, if_pos (nI_le (Nat.le_refl _) (by omega))]
          exact hk σ2 h2 t2 r2
        · intro p hp ih σ2 h2 t2 r2
          apply hX; unfold wp_X7_chooseFrom_0_b33
          rw [nI_clamp (by omega), ah_pl, show σ2 23 1 = _ from h2.xc.n, if_neg (nI_ge hp (by omega)), show σ2 23 2 = _ from h2.xc.w]
          obtain ⟨q, eq⟩ : ∃ q, fdl f (p + 1) b = some q := by
            rw [← hf]
            refine fdl_some ?_ (fun d q => ?_) _
            · intro b; exact ttS_some r (yer (vP U) T) (c * 7 + 0) b
            cases ttD (vP U) T d with
            | none => exact ⟨q, rfl⟩
            | some T' => exact ttS_some r _ _ _
          have r2' := r2
          rw [eq] at r2'
          rw [r2'.1]
          have c2 : cx σ2 (121 + 6 * j) (vP U) T := hc.same h2.pl (fun k a b => t2.1 k (by omega) (by omega))
          by_cases dt : qW (vP U) ≤ q.1
          · rw [if_pos (nI_le dt (by have := r2'.2.1; omega))]
            refine hk σ2 h2 t2 ?_
            rw [fdl_top (i := p + 1) (fun d => by rw [eq]; exact ftop q dt d) (qn (vP U) + 1) (by omega)]
            exact r2
          · rw [if_neg (nI_ge (by omega) (by omega))]
            refine sx_mayGoDown c2 hp ?_
            cases dm : (decide (0 < uS T p) && std (vP U) T p)
            · simp only [itB0, nI_1]
              refine ih σ2 h2 t2 ?_
              show rTt σ2 N (vP U) (f (p + 1) (fdl f (p + 1) b))
              have : ttD (vP U) T (p + 1) = none := by unfold ttD; rw [if_neg (by omega), if_neg (by simp only [Nat.add_sub_cancel]; rw [dm]; simp)]
              rw [← hf]; simp only [this]; rw [hf]; exact r2
            · simp only [itB1, nI_1]
              have hd' : ttD (vP U) T (p + 1) = some (yer (vP U) (tS T p (uS T p - 1))) := by unfold ttD; rw [if_neg (by omega), if_pos (by simp only [Nat.add_sub_cancel]; exact ⟨by omega, dm⟩)]; rfl
              rw [show nI p = dgt (p + 1) by unfold dgt; rw [if_neg (by omega)]; rfl]
              refine sx_choose hN (by omega) (by omega) hF h2 c2 (by rw [t2.2.1]; exact hn) (fun i hi => by rw [t2.2.2 i hi]; exact hch i hi) r2 hd' (by omega) (fun σ3 h3 t3 r3 => ?_)
              refine ih σ3 h3 (t2.tr t3) ?_
              show rTt σ3 N (vP U) (f (p + 1) (fdl f (p + 1) b))
              rw [← hf]; simp only [hd']; rw [hf]; exact r3
      exact main σ1 h1 t1 r1
theorem px_timetable {K : Int32 → ts_S → Prop} {σ : ts_S} {U : sU} {a b : Int32} (h : rX σ U) (hk : ∀ σ', rX σ' U → K (o_timetable U a b) σ') : wp_X9_timetable K σ a b := by
  unfold wp_X9_timetable
  refine sx_within ?_
  rw [show decide ((1 : Int32) ≤ a ∧ a ≤ 4) = win a 1 4 from rfl]
  unfold o_timetable at hk
  cases dw : win a 1 4 <;> rw [dw] at hk
  · simp only [itB0]; exact hk σ h
  simp only [itB1]
  refine sx_within ?_
  rw [show decide ((-1 : Int32) ≤ b ∧ b ≤ 3) = win b (-1) 3 from rfl]
  cases db : win b (-1) 3 <;> rw [db] at hk
  · simp only [itB0]; exact hk σ h
  simp only [itB1]
  obtain ⟨N, h1, h2, e1, e2⟩ := win_iff (lo := 1) (hi := 4) dw (by omega) (by omega)
  rw [e2] at hk; rw [e1]
  simp only [Bool.and_self, ↓reduceIte] at hk
  unfold wp_X7_search
  rintro _ rfl _ rfl
  refine ⟨vp_in_nI (n := 0) (by omega) (by omega), ?_⟩
  rw [show (if (4 : Int32) < nI N then 4 else nI N) = nI N by rw [if_neg (by rw [k4]; exact nI_nlt (by omega) (by omega))]]
  rw [cl0]
  have h6 := h.xc.n6
  have ec : ∀ k, k ≠ 16 → ts_u (ts_u σ 16 2 (nI N)) 16 4 (-1) k = σ k := fun k hk => by rw [ts_u_c hk, ts_u_c hk]
  have hA : rX (ts_u (ts_u σ 16 2 (nI N)) 16 4 (-1)) U := h.keep (fun k hk => ec k (by unfold mc at hk; omega)) (by rw [ec 1 (by omega)]) (fun i hi => (h.bb i hi).same (fun k a b => ec k (by omega)))
  have ahT0 : tX_T (121 + 6 * 0) := ahT (by omega)
  refine sx_standAs ahT0 T31 (by omega) h6 hA.xc.2.1 (hA.bb.at T31) (fun σ1 f1 r1 b1 => ?_)
  have hB : rX σ1 U := hA.keepT ahT0 (by omega) f1 b1
  have e16 : σ1 16 = ts_u (ts_u σ 16 2 (nI N)) 16 4 (-1) 16 := f1 16 (by omega)
  refine sx_chooseFrom (N := N) (by omega) 8 _ σ1 0 (vT U) 0 none (by omega) (by omega) (by have := h.1.2.2.1.2; omega) hB ⟨hB.pl, r1, h.xc.2.2⟩ (by rw [e16]; simp [ts_u_app]) (fun i hi => absurd hi (Nat.not_lt_zero i)) (by show σ1 16 4 = -1; rw [e16]; simp [ts_u_app]) (fun σ2 hC t2 r2 => ?_)
  obtain ⟨q, eq⟩ := ttS_some (P := vP U) N (vT U) 0 none
  rw [Nat.sub_zero, eq] at r2
  rw [eq] at hk
  simp only [Option.getD_some] at hk
  by_cases d1 : b = -1
  · rw [if_pos d1]; simp only [d1, ↓reduceIte] at hk; rw [r2.1]; exact hk σ2 hC
  · rw [if_neg d1]; simp only [d1, ↓reduceIte] at hk
    have hb0 : win b (nI 0) (nI 3) = true := by
      have := of_decide_eq_true db
      refine decide_eq_true ⟨?_, this.2⟩
      have h3 := i32_le.mp this.1
      have h4 : b.toInt ≠ (-1 : Int32).toInt := fun q => d1 (Int32.toInt_inj.mp q)
      rw [i32_le]
      rw [show (-1 : Int32).toInt = -1 from rfl] at h3 h4
      rw [show (nI 0).toInt = 0 from rfl]
      omega
    obtain ⟨k, h7, h8, e3, e4⟩ := win_iff hb0 (by omega) (by omega)
    rw [e4] at hk; rw [e3]
    by_cases d2 : k < N
    · rw [if_neg (nI_ge d2 (by omega))]
      simp only [d2, ↓reduceIte] at hk
      refine ⟨vp_in_nI (by omega) (by omega), ?_⟩
      rw [nI_clamp (by omega), r2.2.2 k d2]
      exact hk σ2 hC
    · rw [if_pos (nI_le (by omega) (by omega))]
      simp only [d2, ↓reduceIte] at hk
      exact hk σ2 hC
