/-! the reference's calls, second group -/
theorem e3m (m : Nat) : (3 : Int32) * nI m = nI (3 * m) := by rw [k3, pk_mul]
theorem pm_seen {K : Int32 → ts_S → Prop} {σ : ts_S} {U : sU} {a b c : Int32} (w : wfU U) (h : rM σ U) (hk : ∀ σ', rM σ' (o_seen U a b c).2 → K (o_seen U a b c).1 σ') : wp_X10_seen K σ a b c := by
  unfold wp_X10_seen
  refine ym_isPerson h ?_
  unfold o_seen at hk
  cases dp : isP U a <;> rw [dp] at hk
  · simp only [itB0]; exact hk σ h
  simp only [itB1]
  refine ym_isStep h ?_
  cases ds : isS U b <;> rw [ds] at hk
  · simp only [itB0]; exact hk σ h
  simp only [itB1]
  refine ym_in ?_
  cases dc : win c 0 1 <;> rw [dc] at hk
  · simp only [itB0]; exact hk σ h
  simp only [itB1]
  obtain ⟨p, hp, e1, e2⟩ := isP_get w dp
  obtain ⟨s, hs, e3, e4⟩ := isS_get w ds
  obtain ⟨x, hx1, hx2, e5, e6⟩ := win_iff (lo := 0) (hi := 1) dc (by omega) (by omega)
  have ex : c = nB (decide (c = 1)) := by
    have : x = 0 ∨ x = 1 := by omega
    rcases this with rfl | rfl
    · rw [e5]; decide
    · rw [e5]; decide
  rw [e2, e4] at hk; rw [e1, e3]
  have hz : vz U ≤ 6 := w.2.2.2.2.2.2.1
  rw [h.se.1]
  by_cases d : vz U < 6
  · simp only [d, Bool.and_self, ↓reduceIte] at hk
    rw [if_neg (by rw [k6, eqI (by omega) (by omega)]; omega), e3m, nI_clamp (by omega)]
    refine ⟨vp_in_nI (by omega) (by omega), ?_⟩
    rintro _ rfl
    rw [ts_u_c (a := 0) (by omega), h.se.1, e3m, nI_1, nI_clamp (by omega)]
    refine ⟨vp_in_nI (by omega) (by omega), ?_⟩
    rintro _ rfl
    rw [ts_u_c (a := 0) (by omega), ts_u_c (a := 0) (by omega), h.se.1, e3m, k2, nI_add, nI_clamp (by omega)]
    refine ⟨vp_in_nI (by omega) (by omega), ?_⟩
    rintro _ rfl _ rfl
    rw [ts_u_c (k := 6) (a := 0) (by omega), ts_u_c (k := 6) (a := 0) (by omega), ts_u_c (k := 6) (a := 0) (by omega), h.se.1, nI_1]
    generalize hσ : ts_u (ts_u (ts_u σ 6 (3 * vz U) (nI p)) 6 (3 * vz U + 1) (nI s)) 6 (3 * vz U + 2) c = σ1
    have m1 : ∀ k, k ≠ 6 → σ1 k = σ k := fun k hk => by rw [← hσ, ts_u_c hk, ts_u_c hk, ts_u_c hk]
    have e10 : ts_u σ1 0 10 (nI (vz U + 1)) 0 10 = nI (vz U + 1) := by rw [ts_u_app, if_pos ⟨rfl, rfl⟩]
    have ec : ∀ k, k ≠ 0 → k ≠ 6 → ts_u σ1 0 10 (nI (vz U + 1)) k = σ k := fun k a b => by rw [ts_u_c a, m1 k b]
    have e0 : ∀ j, j ≠ 10 → ts_u σ1 0 10 (nI (vz U + 1)) 0 j = σ 0 j := fun j hj => by rw [ts_u_app, if_neg (fun z => hj z.2), m1 0 (by omega)]
    rw [e10]
    refine hk _ ⟨h.1.to (fun j hj => e0 j (by omega)) (ec 1 (by omega) (by omega)) (ec 2 (by omega) (by omega)), h.ro.to (ec 3 (by omega) (by omega)), h.tx.to (e0 13 (by omega)) (ec 7 (by omega) (by omega)), h.ac.to (e0 6 (by omega)) (ec 4 (by omega) (by omega)), h.ke.to (e0 8 (by omega)) (ec 5 (by omega) (by omega)), ⟨e10, fun i hi => ?_⟩⟩
    show _ = nI (fu (vZ U) (vz U) (p, s, decide (c = 1)) i).1 ∧ _ = nI (fu (vZ U) (vz U) (p, s, decide (c = 1)) i).2.1 ∧ _ = nB (fu (vZ U) (vz U) (p, s, decide (c = 1)) i).2.2
    have hi : i < vz U + 1 := hi
    rw [ts_u_c (by omega), ← hσ]
    simp only [ts_u_app, true_and]
    unfold fu
    by_cases e : i = vz U
    · rw [if_pos e]
      rw [if_neg (by omega), if_neg (by omega), if_pos (by omega), if_neg (by omega), if_pos (by omega), if_pos (by omega)]
      exact ⟨rfl, rfl, ex⟩
    · rw [if_neg e]
      rw [if_neg (by omega), if_neg (by omega), if_neg (by omega), if_neg (by omega), if_neg (by omega), if_neg (by omega), if_neg (by omega), if_neg (by omega), if_neg (by omega)]
      exact h.se.2 i (by omega)
  · simp only [d, Bool.and_self, ↓reduceIte] at hk
    rw [if_pos (by rw [show vz U = 6 by omega]; rfl)]
    exact hk σ h
theorem pm_forget {K : Int32 → ts_S → Prop} {σ : ts_S} {U : sU} (h : rM σ U) (hk : ∀ σ', rM σ' (o_forget U).2 → K (o_forget U).1 σ') : wp_X10_forget K σ := by
  unfold wp_X10_forget
  rintro _ rfl
  rw [h.se.1]
  have e0 : ∀ j, j ≠ 10 → ts_u σ 0 10 0 0 j = σ 0 j := fun j hj => by rw [ts_u_app, if_neg (fun z => hj z.2)]
  exact hk _ ⟨h.1.to (fun j hj => e0 j (by omega)) (ts_u_c (by omega)) (ts_u_c (by omega)), h.ro.to (ts_u_c (by omega)), h.tx.to (e0 13 (by omega)) (ts_u_c (by omega)), h.ac.to (e0 6 (by omega)) (ts_u_c (by omega)), h.ke.to (e0 8 (by omega)) (ts_u_c (by omega)), ⟨by rw [ts_u_app, if_pos ⟨rfl, rfl⟩]; rfl, fun i hi => absurd hi (Nat.not_lt_zero i)⟩⟩
def hl1 (U : sU) (p kd nv i : Nat) : Bool := !decide ((vZ U i).1 = p) || (decide (nv < fea (vP U) (vT U) kd p (vZ U i).2.1) == (vZ U i).2.2)
theorem ym_isSo {K : Int32 → ts_S → Prop} {σ : ts_S} {U : sU} {p kd nv : Nat} (w : wfU U) (h : rM σ U) (c : cm σ (vP U) (vT U)) (hp : p < qn (vP U)) (hkd : kd < 4) (hnv : nv ≤ 30) (hk : K (nB (hld U p kd nv)) σ) : wp_X10_isSo K σ (nI p) (nI kd) (nI nv) := by
  have hz : vz U ≤ 6 := w.2.2.2.2.2.2.1
  have h6 := c.n6
  unfold wp_X10_isSo wp_X10_isSo_l6
  intro X hX
  refine ts_down (P := fun i => X σ (nB (alb (hl1 U p kd nv) i)) (nI i)) (vz U) ?_ ?_
  · apply hX; unfold wp_X10_isSo_b6
    rw [h.se.1, if_pos (nI_le (Nat.le_refl _) (by omega))]
    exact ⟨zbB _, hk⟩
  · intro i hi ih
    apply hX; unfold wp_X10_isSo_b6
    obtain ⟨q1, q2, q3⟩ := h.se.2 i hi
    obtain ⟨w1, w2⟩ := w.2.2.2.2.2.2.2 i hi
    rw [h.se.1, if_neg (nI_ge hi (by omega)), e3m, nI_1, nI_clamp (by omega), q2]
    refine ⟨vp_in_nI (by omega) (by omega), ym_fearAs c hkd hp w2 ?_⟩
    have hf := fea_le c.2.2.1 c.2.2.2 kd p (vZ U i).2.1 hp
    have j41 : ∀ b : Bool, b = decide (nv < fea (vP U) (vT U) kd p (vZ U i).2.1) → wp_X10_isSo_j41 K X (nI p) (nI kd) (nI nv) σ (nB (alb (hl1 U p kd nv) i)) (nI i) (nB b) := by
      intro b hb
      unfold wp_X10_isSo_j41
      unfold alb at ih
      cases da : alb (hl1 U p kd nv) i <;> rw [da] at ih
      · simp only [itB0, nI_1]; exact ih
      · simp only [itB1]
        rw [e3m, k2, nI_add, nI_clamp (n := 3 * i) (by omega), nI_clamp (n := 3 * i + 2) (by omega), q1, q3]
        refine ⟨vp_in_nI (by omega) (by omega), ?_⟩
        rw [Bool.true_and] at ih
        by_cases d : (vZ U i).1 = p
        · rw [if_pos (by rw [d])]
          refine ⟨vp_in_nI (by omega) (by omega), ?_⟩
          unfold wp_X10_isSo_j83
          have e : hl1 U p kd nv i = (b == (vZ U i).2.2) := by unfold hl1; rw [← hb]; simp [d]
          rw [e] at ih
          cases d2 : (vZ U i).2.2 <;> rw [d2] at ih
          · rw [if_neg (by decide)]
            cases b
            · rw [if_pos (by decide), nI_1]; exact ih
            · rw [if_neg (by decide), nI_1]; exact ih
          · rw [if_pos (by decide)]
            cases b
            · rw [if_neg (by decide), nI_1]; exact ih
            · rw [if_pos (by decide), nI_1]; exact ih
        · rw [if_neg (by rw [eqI (by omega) (by omega)]; exact d), nI_1]
          have e : hl1 U p kd nv i = true := by unfold hl1; simp [d]
          rw [e] at ih; exact ih
    by_cases dn : fea (vP U) (vT U) kd p (vZ U i).2.1 ≤ nv
    · rw [if_pos (nI_le dn (by omega))]; exact j41 false (by simp; omega)
    · rw [if_neg (nI_ge (by omega) (by omega))]; exact j41 true (by simp; omega)
theorem pm_nerves {K : Int32 → ts_S → Prop} {σ : ts_S} {U : sU} {a b : Int32} (w : wfU U) (h : rM σ U) (hk : ∀ σ', rM σ' U → K (o_nerves U a b) σ') : wp_X10_nerves K σ a b := by
  unfold wp_X10_nerves
  refine ym_isPerson h ?_
  unfold o_nerves at hk
  cases dp : isP U a <;> rw [dp] at hk
  · simp only [itB0]; exact hk σ h
  simp only [itB1]
  refine ym_in ?_
  cases dc : win b 0 1 <;> rw [dc] at hk
  · simp only [itB0]; exact hk σ h
  simp only [itB1]
  obtain ⟨p, hp, e1, e2⟩ := isP_get w dp
  rw [e2] at hk; rw [e1]
  refine ym_asItIs w h (fun σ1 f hM c => ?_)
  have hk := hk σ1 hM
  have h6 := c.n6
  unfold wp_X10_nerves_l33
  intro X hX
  refine ts_down (P := fun k => X σ1 (nI (nrv (fun v => hld U p (qk (vP U) p) v) k).1) (nrv (fun v => hld U p (qk (vP U) p) v) k).2 (nI 30 - nI k)) 31 ?_ ?_
  · apply hX; unfold wp_X10_nerves_b33
    rw [if_pos (by decide)]
    by_cases d0 : b = 0
    · rw [if_pos d0]; simp only [d0, Bool.and_self, ↓reduceIte] at hk; exact hk
    · rw [if_neg d0]; simp only [d0, Bool.and_self, ↓reduceIte] at hk; exact hk
  · intro k hk2 ih
    apply hX; unfold wp_X10_nerves_b33
    rw [pk_sub (by omega), if_neg (by rw [k0]; exact nI_nlt (by omega) (by omega))]
    refine ⟨in6 hp h6, ?_⟩
    rw [cl6 hp h6, c.kd hp]
    refine ym_isSo w hM c hp (c.k4 hp) (by omega) ?_
    have e3 : nI (30 - k) + (-1) = nI 30 - nI (k + 1) := by
      have : ∀ k : Fin 31, nI (30 - k.1) + (-1) = nI 30 - nI (k.1 + 1) := by decide +kernel
      exact this ⟨k, hk2⟩
    unfold nrv at ih
    unfold wp_X10_nerves_j64
    cases d : hld U p (qk (vP U) p) (30 - k) <;> rw [d] at ih
    · simp only [itB0]; rw [e3, k0, nI_add, Nat.add_zero]; exact ih
    · simp only [itB1]; rw [e3, nI_1]; exact ih
theorem pm_kinds {K : Int32 → ts_S → Prop} {σ : ts_S} {U : sU} {a : Int32} (w : wfU U) (h : rM σ U) (hk : ∀ σ', rM σ' U → K (o_kinds U a) σ') : wp_X10_kinds K σ a := by
  unfold wp_X10_kinds
  refine ym_isPerson h ?_
  unfold o_kinds at hk
  cases dp : isP U a <;> rw [dp] at hk
  · simp only [itB0]; exact hk σ h
  simp only [itB1]
  obtain ⟨p, hp, e1, e2⟩ := isP_get w dp
  rw [e2] at hk; rw [e1]
  refine ym_asItIs w h (fun σ1 f hM c => ?_)
  have hk := hk σ1 hM
  have h6 := c.n6
  have hn := c.n30 hp
  unfold wp_X10_kinds_l18
  intro X hX
  refine ts_down (P := fun i => X σ1 (nI (bs (fun kd => hld U p kd (uN (vT U) p)) i)) (nI i)) 4 ?_ ?_
  · apply hX; unfold wp_X10_kinds_b18
    rw [if_pos (by decide)]; exact hk
  · intro i hi ih
    apply hX; unfold wp_X10_kinds_b18
    rw [if_neg (by rw [k3]; exact nI_nlt (by omega) (by omega)), e15p, nI_clamp (by omega), c.ne hp]
    refine ⟨i21 (by omega), ym_isSo w hM c hp (by omega) hn ?_⟩
    have hb := bs_64 (fun kd => hld U p kd (uN (vT U) p)) (show i ≤ 6 by omega)
    cases d : hld U p i (uN (vT U) p)
    · rw [bs_f (f := fun kd => hld U p kd (uN (vT U) p)) d] at ih; simp only [itB0, nI_1]; rw [bt_o0 hb]; exact ih
    · rw [bs_t (f := fun kd => hld U p kd (uN (vT U) p)) d] at ih; rw [bt_or i (by omega) _ (by omega)]; simp only [itB1, nI_1]; exact ih
theorem ym_turns {K : ts_S → Prop} {σ : ts_S} {P : sP} {T : sT} (c : cm σ P T) (h1 : 1 ≤ qn P) {d : Nat} (hd : d < 1000000) (hy : uY T + 1 < 10000) (hk : ∀ σ', fm σ σ' → cm σ' P (yer P (tAct P T d)) → K σ') : wp_X10_turns K σ (nI d) := by
  have h6 := c.n6
  have h10 := c.h10
  unfold wp_X10_turns
  have hp : d % qn P < qn P := Nat.mod_lt _ (by omega)
  have ha : d / 8 % 6 < 6 := Nat.mod_lt _ (by omega)
  have e8 : nI d / 8 - nI d / 8 / 6 * 6 = nI (d / 8 % 6) := by
    rw [k8, k6, pk_div (by omega) (by omega) (by omega), pk_rem (by omega) (by omega) (by omega)]
  rw [c.n, pk_rem (by omega) (by omega) (by omega), e8, e3p]
  refine ⟨by rw [k0, nI_eq (by omega) (by omega)]; omega, by decide, by decide, ?_⟩
  have j97 : ∀ σ', fm σ σ' → cm σ' P (tAct P T d) → wp_X10_turns_j97 K (nI d) σ' := by
    intro σ' f c'
    unfold wp_X10_turns_j97
    exact ym_goesBy c' (by rw [tAct_Y]; exact hy) (fun σ'' f' c'' => hk σ'' (f.tr f') c'')
  unfold tAct at j97
  generalize d % qn P = p at hp j97 ⊢
  generalize d / 8 % 6 = a at ha j97 ⊢
  have hs := c.sH hp
  rw [nI_clamp (by omega), c.st hp]
  unfold tA4 at j97
  by_cases d1 : a ≤ 1
  · rw [if_neg (by rw [k2]; exact nI_ge (by omega) (by omega))]
    simp only [if_pos d1] at j97
    refine ⟨i21 (by omega), ym_canPromote c hp ?_⟩
    unfold wp_X10_turns_j42
    rw [nI_clamp (by omega)]
    cases dd : (decide (0 < uS T p) && std P T p) <;> rw [dd] at j97
    · simp only [itB0]
      refine ⟨i21 (by omega), ?_⟩
      rintro _ rfl
      rw [k0, pk_sub (by omega), Nat.sub_zero]
      have e : ts_u σ 12 (3 + p) (nI (uS T p)) = σ := by
        funext x y; rw [ts_u_app]; split
        · next hh => rw [hh.1, hh.2, c.st hp]
        · rfl
      rw [e]; exact j97 σ fm.rf c
    · simp only [itB1]
      refine ⟨i21 (by omega), ?_⟩
      rintro _ rfl
      have h0 : 0 < uS T p := by simp at dd; exact dd.1
      rw [k1, pk_sub (by omega)]
      obtain ⟨f2, c2⟩ := cm_setS c hp (show uS T p - 1 < qH P by omega)
      exact j97 _ f2 c2
  · rw [if_pos (by rw [k2]; exact nI_le (by omega) (by omega))]
    simp only [if_neg d1] at j97
    by_cases d2 : a = 2
    · rw [if_pos (by rw [d2]; rfl)]
      simp only [if_pos d2] at j97
      refine ⟨i21 (by omega), ym_canHoist c hp ?_⟩
      unfold wp_X10_turns_j74
      rw [nI_clamp (by omega)]
      cases dd : (decide (uS T p + 1 < qH P) && !uG T p) <;> rw [dd] at j97
      · simp only [itB0]
        refine ⟨i21 (by omega), ?_⟩
        rintro _ rfl
        rw [k0, nI_add, Nat.add_zero]
        have e : ts_u σ 12 (3 + p) (nI (uS T p)) = σ := by
          funext x y; rw [ts_u_app]; split
          · next hh => rw [hh.1, hh.2, c.st hp]
          · rfl
        rw [e]; exact j97 σ fm.rf c
      · simp only [itB1]
        refine ⟨i21 (by omega), ?_⟩
        rintro _ rfl
        have h0 : uS T p + 1 < qH P := by simp at dd; exact dd.1
        rw [nI_1]
        obtain ⟨f2, c2⟩ := cm_setS c hp h0
        exact j97 _ f2 c2
    · rw [if_neg (by rw [k2, eqI (by omega) (by omega)]; exact d2)]
      simp only [if_neg d2] at j97
      by_cases d3 : a = 3
      · rw [if_pos (by rw [d3]; rfl)]
        simp only [if_pos d3] at j97
        refine ym_canCall c hp ?_
        cases dd : (!uG T p && !uC T p) <;> rw [dd] at j97
        · simp only [itB0]; exact j97 σ fm.rf c
        · simp only [itB1]
          exact ym_calls c hp (fun σ2 f2 c2 => j97 σ2 f2 c2)
      · rw [if_neg (by rw [k3, eqI (by omega) (by omega)]; exact d3)]
        simp only [if_neg d3] at j97
        exact j97 σ fm.rf c
theorem ym_draw {z i : Nat} (hz : z ≤ 9999) (hi : i ≤ 60) : (((((((7919 * (nI z).toInt64) + (6151 * (nI i).toInt64)) + 1) * (((7919 * (nI z).toInt64) + (6151 * (nI i).toInt64)) + 1)) - ((((7919 * (nI z).toInt64) + (6151 * (nI i).toInt64)) + 1) * (((7919 * (nI z).toInt64) + (6151 * (nI i).toInt64)) + 1)) / 65521 * 65521) / 2).toInt32) = nI (drw z i) := by
  have e1 : ((7919 * (nI z).toInt64) + (6151 * (nI i).toInt64)) + 1 = lN (7919 * z + 6151 * i + 1) := by
    rw [nI_l (by omega), nI_l (by omega), show (7919 : Int64) = lN 7919 from rfl, show (6151 : Int64) = lN 6151 from rfl, lN_mul, lN_mul, lN_add, lN_1]
  rw [e1, lN_mul]
  have hb : 7919 * z + 6151 * i + 1 < 80000000 := by omega
  unfold drw
  generalize 7919 * z + 6151 * i + 1 = w at hb
  have hww : w * w < 2 ^ 63 := by
    have : w * w < 80000000 * 80000000 := Nat.mul_lt_mul'' hb hb
    omega
  rw [show (65521 : Int64) = lN 65521 from rfl, show (2 : Int64) = lN 2 from rfl, pk_lRem hww (by omega) (by omega)]
  have hm : w * w % 65521 < 65521 := Nat.mod_lt _ (by omega)
  rw [pk_lDiv (by omega) (by omega) (by omega), lN_i]
theorem pm_decade {K : Int32 → ts_S → Prop} {σ : ts_S} {U : sU} {a b c : Int32} (w : wfU U) (h : rM σ U) (hk : ∀ σ', rM σ' U → K (o_decade U a b c) σ') : wp_X10_decade K σ a b c := by
  unfold wp_X10_decade
  refine ym_in ?_
  unfold o_decade at hk
  cases dw : win a 0 9999 <;> rw [dw] at hk
  · simp only [itB0]; exact hk σ h
  simp only [itB1]
  refine ym_in ?_
  cases db : win b 1 60 <;> rw [db] at hk
  · simp only [itB0]; exact hk σ h
  simp only [itB1]
  refine ym_in ?_
  cases dc : win c 0 2 <;> rw [dc] at hk
  · simp only [itB0]; exact hk σ h
  simp only [itB1]
  obtain ⟨z, h1, h2, e1, e2⟩ := win_iff (lo := 0) (hi := 9999) dw (by omega) (by omega)
  obtain ⟨n, h3, h4, e3, e4⟩ := win_iff (lo := 1) (hi := 60) db (by omega) (by omega)
  have hy : uY (vT U) ≤ 999 := w.2.2.1.2
  rw [e2, e4] at hk; rw [e1, e3]
  refine ym_asItIs w h (fun σ1 f hM1 c1 => ?_)
  unfold wp_X10_decade_l39
  intro X hX
  have main : ∀ σ', fm σ1 σ' → cm σ' (vP U) (dcd (vP U) (vT U) z 0) → X σ' (nI 0) := by
    refine ts_down (P := fun i => ∀ σ', fm σ1 σ' → cm σ' (vP U) (dcd (vP U) (vT U) z i) → X σ' (nI i)) n ?_ ?_
    · intro σ2 f2 c2
      apply hX; unfold wp_X10_decade_b39
      rw [if_pos (nI_le (Nat.le_refl _) (by omega))]
      have hk := hk σ2 (hM1.fm f2)
      simp only [Bool.and_self, ↓reduceIte] at hk
      have h6 := c2.n6
      generalize dcd (vP U) (vT U) z n = T at c2 hk
      have hg64 := bs_64 (uG T) h6
      unfold wp_X10_decade_l93
      intro Y hY
      refine ts_down (P := fun i => Y σ2 (nI (sm (fun p => if uG T p then 0 else uS T p) i)) (nI i)) (qn (vP U)) ?_ ?_
      · apply hY; unfold wp_X10_decade_b93
        rw [c2.n, if_pos (nI_le (Nat.le_refl _) (by omega))]
        by_cases d0 : c = 0
        · rw [if_pos d0]; simp only [d0, ↓reduceIte] at hk
          rw [cl1, c2.go]
          refine ⟨i21 (i := 1) (by omega), ym_bits hg64 ?_⟩
          rw [pop_bs _ h6]; exact hk
        rw [if_neg d0]; simp only [d0, ↓reduceIte] at hk
        by_cases d1 : c = 1
        · rw [if_pos d1]; simp only [d1, ↓reduceIte] at hk; exact ym_done c2 hk
        rw [if_neg d1]; simp only [d1, ↓reduceIte] at hk; exact hk
      · intro i hi ih
        apply hY; unfold wp_X10_decade_b93
        rw [c2.n, if_neg (nI_ge hi (by omega)), cl1, c2.go]
        refine ⟨i21 (i := 1) (by omega), ym_has (by omega) (by omega) ?_⟩
        rw [bs_bit, decide_eq_true hi, Bool.true_and, e3p, nI_clamp (by omega), c2.st hi]
        unfold sm at ih
        cases d : uG T i <;> rw [d] at ih
        · simp only [itB0, nI_1]; rw [nI_add]; exact ⟨i21 (by omega), ih⟩
        · simp only [itB1, nI_1]; rw [k0, nI_add]; exact ih
    · intro i hi ih σ2 f2 c2
      apply hX; unfold wp_X10_decade_b39
      rw [if_neg (nI_ge hi (by omega)), ym_draw h2 (by omega)]
      refine ⟨by decide, by decide, ?_⟩
      refine ym_turns c2 w.2.1 (by have := drw_lt z i; omega) (by rw [dcd_Y]; omega) (fun σ3 f3 c3 => ?_)
      rw [nI_1]
      exact ih σ3 (f2.tr f3) c3
  exact main σ1 fm.rf c1
theorem pm_keep {K : Int32 → ts_S → Prop} {σ : ts_S} {U : sU} (w : wfU U) (h : rM σ U) (hk : ∀ σ', rM σ' (o_keep U).2 → K (o_keep U).1 σ') : wp_X10_keep K σ := by
  have hc2 : vc U ≤ 2 := w.2.2.2.2.2.1.1
  have h6 : qn (vP U) ≤ 6 := w.1.2.2.1
  unfold wp_X10_keep
  unfold o_keep at hk
  rw [h.ke.1]
  by_cases d : vc U < 2
  · rw [if_neg (by rw [k2, eqI (by omega) (by omega)]; omega), e21]
    simp only [d, ↓reduceIte] at hk
    refine ym_copies (a := 21 * vc U) (b := 0) (n := 21) (by omega) (by show 21 * vc U + 21 ≤ 42; omega) (by decide) (by decide) (by decide) (fun σ1 m1 m2 m3 => ?_)
    rintro _ rfl
    rw [m1 0 (by omega), h.ke.1, nI_1]
    have e8 : ts_u σ1 0 8 (nI (vc U + 1)) 0 8 = nI (vc U + 1) := by rw [ts_u_app, if_pos ⟨rfl, rfl⟩]
    have ec : ∀ k, k ≠ 0 → k ≠ 5 → ts_u σ1 0 8 (nI (vc U + 1)) k = σ k := fun k a b => by rw [ts_u_c a, m1 k b]
    have e0 : ∀ j, j ≠ 8 → ts_u σ1 0 8 (nI (vc U + 1)) 0 j = σ 0 j := fun j hj => by rw [ts_u_app, if_neg (fun z => hj z.2), m1 0 (by omega)]
    rw [e8]
    refine hk _ ⟨h.1.to (fun j hj => e0 j (by omega)) (ec 1 (by omega) (by omega)) (ec 2 (by omega) (by omega)), h.ro.to (ec 3 (by omega) (by omega)), h.tx.to (e0 13 (by omega)) (ec 7 (by omega) (by omega)), h.ac.to (e0 6 (by omega)) (ec 4 (by omega) (by omega)), ⟨e8, fun k hk => ?_⟩, h.se.to (e0 10 (by omega)) (ec 6 (by omega) (by omega))⟩
    have hk : k < vc U + 1 := hk
    show rR _ 5 (21 * k) _ (fu (vC U) (vc U) (vT U) k)
    unfold fu
    by_cases e : k = vc U
    · rw [if_pos e]
      refine h.ro.same h6 (fun j hj => ?_)
      rw [ts_u_c (by omega), e, m2 j hj]
    · rw [if_neg e]
      refine (h.ke.2 k (by omega)).same h6 (fun j hj => ?_)
      rw [ts_u_c (by omega), m3 _ (by omega)]
  · rw [if_pos (by rw [show vc U = 2 by omega]; rfl)]
    simp only [d, ↓reduceIte] at hk
    exact hk σ h
theorem pm_back {K : Int32 → ts_S → Prop} {σ : ts_S} {U : sU} (w : wfU U) (h : rM σ U) (hk : ∀ σ', rM σ' (o_back U).2 → K (o_back U).1 σ') : wp_X10_back K σ := by
  have hc2 : vc U ≤ 2 := w.2.2.2.2.2.1.1
  have h6 : qn (vP U) ≤ 6 := w.1.2.2.1
  unfold wp_X10_back
  unfold o_back at hk
  rw [h.ke.1]
  by_cases d : vc U = 0
  · rw [if_pos (by rw [d]; rfl)]
    simp only [d, ↓reduceIte] at hk
    exact hk σ h
  · rw [if_neg (by rw [k0, eqI (by omega) (by omega)]; exact d)]
    simp only [d, ↓reduceIte] at hk
    rw [k1, pk_sub (by omega)]
    rintro _ rfl
    have e08 : ts_u σ 0 8 (nI (vc U - 1)) 0 8 = nI (vc U - 1) := by rw [ts_u_app, if_pos ⟨rfl, rfl⟩]
    rw [e08, e21]
    refine ym_copies (a := 0) (b := 21 * (vc U - 1)) (n := 21) (by omega) (by decide) (by show 21 * (vc U - 1) + 21 ≤ 42; omega) (by decide) (by decide) (fun σ2 q1 q2 q3 => ?_)
    rintro _ rfl
    have e8 : ts_u σ2 0 6 0 0 8 = nI (vc U - 1) := by rw [ts_u_app, if_neg (by omega), q1 0 (by omega), e08]
    have ec : ∀ k, k ≠ 0 → k ≠ 3 → ts_u σ2 0 6 0 k = σ k := fun k a b => by rw [ts_u_c a, q1 k b, ts_u_c a]
    have e0 : ∀ j, j ≠ 6 → j ≠ 8 → ts_u σ2 0 6 0 0 j = σ 0 j := fun j h1 h2 => by rw [ts_u_app, if_neg (fun z => h1 z.2), q1 0 (by omega), ts_u_app, if_neg (fun z => h2 z.2)]
    rw [e8]
    refine hk _ ⟨h.1.to (fun j hj => e0 j (by omega) (by omega)) (ec 1 (by omega) (by omega)) (ec 2 (by omega) (by omega)), ?_, h.tx.to (e0 13 (by omega) (by omega)) (ec 7 (by omega) (by omega)), ⟨by rw [ts_u_app, if_pos ⟨rfl, rfl⟩]; rfl, fun k hk => absurd hk (Nat.not_lt_zero k)⟩, ⟨e8, fun k hk => ?_⟩, h.se.to (e0 10 (by omega) (by omega)) (ec 6 (by omega) (by omega))⟩
    · refine (h.ke.2 (vc U - 1) (by omega)).same h6 (fun j hj => ?_)
      rw [ts_u_c (by omega), q2 j hj, ts_u_c (by omega)]
    · have hk : k < vc U - 1 := hk
      exact (h.ke.2 k (by omega)).to (ec 5 (by omega) (by omega))
theorem pm_count {K : Int32 → ts_S → Prop} {σ : ts_S} {U : sU} {a : Int32} (w : wfU U) (h : rM σ U) (hk : ∀ σ', rM σ' U → K (o_count U a) σ') : wp_X10_count K σ a := by
  unfold wp_X10_count
  refine ym_asItIs w h (fun σ1 f hM c => ?_)
  have hk := hk σ1 hM
  unfold o_count at hk
  have h6 := c.n6
  have hg64 := bs_64 (uG (vT U)) h6
  have hf64 := bs_64 (frz (vP U) (vT U)) h6
  by_cases d0 : a = 0
  · rw [if_pos d0] at hk ⊢; rw [hM.ch]; exact hk
  rw [if_neg d0] at hk ⊢
  by_cases d1 : a = 1
  · rw [if_pos d1] at hk ⊢; rw [hM.cn]; exact hk
  rw [if_neg d1] at hk ⊢
  by_cases d2 : a = 2
  · rw [if_pos d2] at hk ⊢; rw [hM.cw]; exact hk
  rw [if_neg d2] at hk ⊢
  by_cases d3 : a = 3
  · rw [if_pos d3] at hk ⊢; rw [cl0, hM.y3]; exact ⟨i21 (i := 0) (by omega), hk⟩
  rw [if_neg d3] at hk ⊢
  by_cases d4 : a = 4
  · rw [if_pos d4] at hk ⊢; rw [cl1, hM.g3]
    refine ⟨i21 (i := 1) (by omega), ym_bits hg64 ?_⟩
    rw [pop_bs _ h6]; exact hk
  rw [if_neg d4] at hk ⊢
  by_cases d5 : a = 5
  · rw [if_pos d5] at hk ⊢
    refine ym_frozen c (ym_bits hf64 ?_)
    rw [pop_bs _ h6]; exact hk
  rw [if_neg d5] at hk ⊢
  by_cases d6 : a = 6
  · rw [if_pos d6] at hk ⊢; exact ym_done c hk
  rw [if_neg d6] at hk ⊢
  by_cases d7 : a = 7
  · rw [if_pos d7] at hk ⊢; rw [hM.se.1]; exact hk
  rw [if_neg d7] at hk ⊢
  by_cases d8 : a = 8
  · rw [if_pos d8] at hk ⊢; rw [hM.ac.1]; exact hk
  rw [if_neg d8] at hk ⊢
  by_cases d9 : a = 9
  · rw [if_pos d9] at hk ⊢; rw [hM.ke.1]; exact hk
  rw [if_neg d9] at hk ⊢
  by_cases d10 : a = 10
  · rw [if_pos d10] at hk ⊢; rw [hM.tx.1]; exact hk
  rw [if_neg d10] at hk ⊢
  exact hk
