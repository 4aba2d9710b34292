/-! the reference reads a text -/
def lqI (L : Nat → Nat) (l a : Nat) : Int32 := if a < l then nI (L a) else -1
def tok (l : Nat) (L : Nat → Nat) : Prop := l ≤ 200 ∧ ∀ i, i < l → 32 ≤ L i ∧ L i ≤ 126
theorem lqI_win {l a : Nat} {L : Nat → Nat} (t : tok l L) : win (lqI L l a) 48 57 = dig (lt1 L l a) := by
  unfold lqI lt1 dig win
  by_cases d : a < l
  · rw [if_pos d, if_pos d]
    have := t.2 a d
    rw [decide_eq_decide, show (48 : Int32) = nI 48 from rfl, show (57 : Int32) = nI 57 from rfl, nI_leI (by omega) (by omega), nI_leI (by omega) (by omega)]
  · rw [if_neg d, if_neg d]; decide
theorem lqI_eq {l a x : Nat} {L : Nat → Nat} (t : tok l L) (hx : x < 1000) : (lqI L l a = nI x) ↔ lt1 L l a = x := by
  unfold lqI lt1
  by_cases d : a < l
  · rw [if_pos d, if_pos d]
    have := t.2 a d
    rw [nI_eq (by omega) (by omega)]
  · rw [if_neg d, if_neg d, ← Int32.toInt_inj, nI_toInt (by omega), show (-1 : Int32).toInt = -1 from rfl]; omega
theorem ym_letterAt {K : Int32 → ts_S → Prop} {σ : ts_S} {l a : Nat} {L : Nat → Nat} (t : tok l L) (h : rMt σ l L) (ha : a < 1000) (hk : K (lqI L l a) σ) : wp_X10_letterAt K σ (nI a) := by
  have := t.1
  unfold wp_X10_letterAt
  unfold lqI at hk
  rw [h.1]
  by_cases d : a < l
  · rw [if_neg (nI_ge d (by omega)), nI_clamp (by omega), h.2 a d]
    rw [if_pos d] at hk
    exact ⟨vp_in_nI (by omega) (by omega), hk⟩
  · rw [if_pos (nI_le (by omega) (by omega))]
    rw [if_neg d] at hk; exact hk
theorem ym_isFigure {K : Int32 → ts_S → Prop} {σ : ts_S} {l a : Nat} {L : Nat → Nat} (t : tok l L) (hk : K (nB (dig (lt1 L l a))) σ) : wp_X10_isFigure K σ (lqI L l a) := by
  unfold wp_X10_isFigure
  refine ym_in ⟨zbB _, ?_⟩
  rw [lqI_win t]; exact hk
/-- what reading numbers leaves alone -/
def rn (σ σ' : ts_S) : Prop := (∀ k, k ≠ 0 → k ≠ 8 → σ' k = σ k) ∧ ∀ j, j ≠ 14 → σ' 0 j = σ 0 j
theorem rn.rf {σ : ts_S} : rn σ σ := ⟨fun _ _ _ => rfl, fun _ _ => rfl⟩
theorem rn.tr {σ σ' σ'' : ts_S} (h : rn σ σ') (h2 : rn σ' σ'') : rn σ σ'' := ⟨fun k a b => (h2.1 k a b).trans (h.1 k a b), fun j a => (h2.2 j a).trans (h.2 j a)⟩
theorem rn.u14 {σ : ts_S} {x : Int32} : rn σ (ts_u σ 0 14 x) := ⟨fun k a _ => ts_u_c a, fun j a => by rw [ts_u_app, if_neg (fun z => a z.2)]⟩
theorem rn.u8 {σ : ts_S} {i : Nat} {x : Int32} : rn σ (ts_u σ 8 i x) := ⟨fun k _ a => ts_u_c a, fun j _ => by rw [ts_u_c (by omega)]⟩
theorem rMt.rn {σ σ' : ts_S} {l : Nat} {L : Nat → Nat} (h : rMt σ l L) (r : rn σ σ') : rMt σ' l L := h.to (r.2 13 (by omega)) (r.1 7 (by omega) (by omega))
theorem rM.rn {σ σ' : ts_S} {U : sU} (h : rM σ U) (r : rn σ σ') : rM σ' U := h.to (fun j hj => r.2 j (by omega)) (fun k a b => r.1 k (by omega) (by omega))
def nmK (K : Int32 → ts_S → Prop) (m : Nat) (o : Option ((Nat → Nat) × Nat)) (σ' : ts_S) : Prop := match o with
  | none => K 0 σ'
  | some q => σ' 0 14 = nI q.2 → (∀ j, j < m → σ' 8 j = nI (q.1 j) ∧ q.1 j ≤ 99) → K 1 σ'
theorem num_val {L : Nat → Nat} {l a : Nat} (t : tok l L) (d : dig (lt1 L l a) = true) : a < l ∧ lt1 L l a = L a ∧ 48 ≤ L a ∧ L a ≤ 57 := by
  unfold dig at d
  have h := of_decide_eq_true d
  unfold lt1 at h ⊢
  by_cases z : a < l
  · rw [if_pos z] at h ⊢; exact ⟨z, rfl, h⟩
  · rw [if_neg z] at h; omega
theorem ym_readNumbers {K : Int32 → ts_S → Prop} {σ : ts_S} {l a m : Nat} {L : Nat → Nat} (t : tok l L) (h : rMt σ l L) (hm : m ≤ 4) (ha : a ≤ l) (h14 : σ 0 14 = nI a) (hk : ∀ σ', rn σ σ' → nmK K m (nms L l m m a (fun _ => 0)) σ') : wp_X10_readNumbers K σ (nI m) := by
  have hl := t.1
  unfold wp_X10_readNumbers wp_X10_readNumbers_l2
  intro X hX
  have main : ∀ (k a : Nat) (v : Nat → Nat) (σ1 : ts_S), k ≤ m → rn σ σ1 → a ≤ l → σ1 0 14 = nI a → (∀ j, j < m - k → σ1 8 j = nI (v j) ∧ v j ≤ 99) → (∀ σ', rn σ σ' → nmK K m (nms L l m k a v) σ') → X σ1 (nI (m - k)) := by
    intro k
    induction k with
    | zero =>
      intro a v σ1 _ r1 ha h14 hv hk
      apply hX; unfold wp_X10_readNumbers_b2
      rw [if_pos (nI_le (by omega) (by omega))]
      exact ⟨zb1, hk σ1 r1 h14 (fun j hj => hv j (by omega))⟩
    | succ k ih =>
      intro a v σ1 hkm r1 ha h14 hv hk
      apply hX; unfold wp_X10_readNumbers_b2
      have T1 := h.rn r1
      rw [if_neg (nI_ge (by omega) (by omega)), h14]
      have hnms : nms L l m (k + 1) a v = match num L l a with
        | none => none
        | some q => if lt1 L l q.2 = (if k = 0 then 59 else 44) then nms L l m k (q.2 + 1) (fu v (m - (k + 1)) q.1) else none := rfl
      rw [hnms] at hk
      have hin : vp_in (nI (m - (k + 1))) 4 := vp_in_nI (by omega) (by omega)
      -- behind a number
      have j101 : ∀ (q : Nat × Nat) (σ2 : ts_S), num L l a = some q → rn σ σ2 → σ2 0 14 = nI q.2 → (∀ j, j < m - (k + 1) → σ2 8 j = nI (v j)) → σ2 8 (m - (k + 1)) = nI q.1 → wp_X10_readNumbers_j101 K X (nI m) σ2 (nI (m - (k + 1))) := by
        intro q σ2 hq r2 e14 hv2 hv3
        obtain ⟨a1, a2, a3, a4⟩ := num_adv hq
        unfold wp_X10_readNumbers_j101
        rw [e14]
        refine ym_letterAt t (h.rn r2) (by omega) ?_
        rw [hq] at hk
        have hk : ∀ σ', rn σ σ' → nmK K m (if lt1 L l q.2 = (if k = 0 then 59 else 44) then nms L l m k (q.2 + 1) (fu v (m - (k + 1)) q.1) else none) σ' := hk
        have j123 : ∀ x : Nat, x < 1000 → x = (if k = 0 then 59 else 44) → wp_X10_readNumbers_j123 K X (nI m) σ2 (nI (m - (k + 1))) (nI x) (lqI L l q.2) := by
          intro x hx ex
          unfold wp_X10_readNumbers_j123
          rw [← ex] at hk
          by_cases d : lt1 L l q.2 = x
          · rw [if_pos ((lqI_eq t hx).mpr d)]
            rw [if_pos d] at hk
            rintro _ rfl
            rw [e14, nI_1, nI_1, show m - (k + 1) + 1 = m - k by omega]
            have hql : q.2 < l := by
              unfold lt1 at d
              by_cases z : q.2 < l
              · exact z
              · rw [if_neg z] at d; omega
            refine ih (q.2 + 1) (fu v (m - (k + 1)) q.1) _ (by omega) (r2.tr rn.u14) (by omega) (by rw [ts_u_app, if_pos ⟨rfl, rfl⟩]) (fun j hj => ?_) hk
            rw [ts_u_c (by omega)]
            unfold fu
            by_cases e : j = m - (k + 1)
            · rw [if_pos e, e]; exact ⟨hv3, a3⟩
            · rw [if_neg e]; exact ⟨hv2 j (by omega), (hv j (by omega)).2⟩
          · rw [if_neg (fun z => d ((lqI_eq t hx).mp z))]
            rw [if_neg d] at hk
            exact ⟨zb0, hk σ2 r2⟩
        rw [k1, pk_sub (by omega)]
        by_cases d : k = 0
        · rw [if_pos (nI_le (by omega) (by omega))]; exact j123 59 (by omega) (by rw [if_pos d])
        · rw [if_neg (nI_ge (by omega) (by omega))]; exact j123 44 (by omega) (by rw [if_neg d])
      refine ym_letterAt t T1 (by omega) (ym_isFigure t ?_)
      cases d1 : dig (lt1 L l a)
      · simp only [itB0]
        have : num L l a = none := by unfold num; rw [d1]; rfl
        rw [this] at hk
        exact ⟨zb0, hk σ1 r1⟩
      · simp only [itB1]
        obtain ⟨v1, v2, v3, v4⟩ := num_val t d1
        rw [h14]
        refine ym_letterAt t T1 (by omega) ⟨hin, ?_⟩
        rintro _ rfl _ rfl
        rw [nI_clamp (by omega), ts_u_c (a := 0) (by omega), h14, nI_1]
        have e1 : lqI L l a - 48 = nI (L a - 48) := by unfold lqI; rw [if_pos v1, show (48 : Int32) = nI 48 from rfl, pk_sub v3]
        rw [e1]
        have r2 : rn σ (ts_u (ts_u σ1 8 (m - (k + 1)) (nI (L a - 48))) 0 14 (nI (a + 1))) := (r1.tr rn.u8).tr rn.u14
        have f14 : ts_u (ts_u σ1 8 (m - (k + 1)) (nI (L a - 48))) 0 14 (nI (a + 1)) 0 14 = nI (a + 1) := by rw [ts_u_app, if_pos ⟨rfl, rfl⟩]
        have f8 : ts_u (ts_u σ1 8 (m - (k + 1)) (nI (L a - 48))) 0 14 (nI (a + 1)) 8 (m - (k + 1)) = nI (L a - 48) := by rw [ts_u_c (by omega), ts_u_app, if_pos ⟨rfl, rfl⟩]
        have fo : ∀ j, j < m - (k + 1) → ts_u (ts_u σ1 8 (m - (k + 1)) (nI (L a - 48))) 0 14 (nI (a + 1)) 8 j = nI (v j) := fun j hj => by rw [ts_u_c (by omega), ts_u_app, if_neg (by omega)]; exact (hv j hj).1
        generalize ts_u (ts_u σ1 8 (m - (k + 1)) (nI (L a - 48))) 0 14 (nI (a + 1)) = σ2 at r2 f14 f8 fo ⊢
        rw [f14]
        refine ym_letterAt t (h.rn r2) (by omega) (ym_isFigure t ?_)
        cases d2 : dig (lt1 L l (a + 1))
        · simp only [itB0]
          have hq : num L l a = some (L a - 48, a + 1) := by unfold num; rw [d1, d2, v2]; rfl
          exact j101 _ σ2 hq r2 f14 fo f8
        · simp only [itB1]
          obtain ⟨u1, u2, u3, u4⟩ := num_val t d2
          have hq : num L l a = some ((L a - 48) * 10 + (L (a + 1) - 48), a + 2) := by unfold num; rw [d1, d2, v2, u2]; rfl
          refine ⟨hin, ?_⟩
          rw [f14]
          refine ym_letterAt t (h.rn r2) (by omega) ⟨hin, ?_⟩
          rintro _ rfl _ rfl
          have e2 : (10 * (σ2 8 (m - (k + 1))) + lqI L l (a + 1)) - 48 = nI ((L a - 48) * 10 + (L (a + 1) - 48)) := by
            rw [f8]; unfold lqI; rw [if_pos u1, show (48 : Int32) = nI 48 from rfl, k10, pk_mul, nI_add, pk_sub (by omega)]
            congr 1; omega
          rw [e2, ts_u_c (a := 0) (by omega), f14, nI_1]
          refine j101 _ _ hq ((r2.tr rn.u8).tr rn.u14) (by rw [ts_u_app, if_pos ⟨rfl, rfl⟩]) (fun j hj => ?_) ?_
          · rw [ts_u_c (by omega), ts_u_app, if_neg (by omega)]; exact fo j hj
          · rw [ts_u_c (by omega), ts_u_app, if_pos ⟨rfl, rfl⟩]
  have := main m a (fun _ => 0) σ (Nat.le_refl _) rn.rf ha h14 (fun j hj => by omega) hk
  rwa [show m - m = 0 by omega] at this
/-- what is told so far -/
def rd (σ : ts_S) (a : Nat) (P : sP) (T : sT) : Prop := σ 0 14 = nI a ∧ (σ 0 16 = nI (qH P) ∧ σ 0 17 = nI (qn P) ∧ σ 0 20 = nI (qW P)) ∧ (∀ p, p < qn P → σ 9 p = nI (qk P p)) ∧ (∀ w, w < qW P → σ 11 (2 * w) = nI (qs P w) ∧ σ 11 (2 * w + 1) = nI (qd P w)) ∧ (∀ j, j < 3 → σ 10 j = 0) ∧ (∀ p, p < qn P → σ 10 (3 + p) = nI (uS T p) ∧ σ 10 (9 + p) = nI (uA T p) ∧ σ 10 (15 + p) = nI (uN T p)) ∧ ∀ p, uG T p = false ∧ uC T p = false
theorem rd.rn {σ σ' : ts_S} {a a' : Nat} {P : sP} {T : sT} (h : rd σ a P T) (r : rn σ σ') (e : σ' 0 14 = nI a') : rd σ' a' P T := by
  obtain ⟨-, h2, h3, h4, h5, h6, h7⟩ := h
  refine ⟨e, ?_, ?_, ?_, ?_, ?_, h7⟩
  · rw [r.2 16 (by omega), r.2 17 (by omega), r.2 20 (by omega)]; exact h2
  · rw [r.1 9 (by omega) (by omega)]; exact h3
  · rw [r.1 11 (by omega) (by omega)]; exact h4
  · rw [r.1 10 (by omega) (by omega)]; exact h5
  · rw [r.1 10 (by omega) (by omega)]; exact h6
theorem ym_isTold {K : Int32 → ts_S → Prop} {σ : ts_S} {i : Nat} {lo hi : Int32} (hi4 : i < 4) (hk : K (nB (win (σ 8 i) lo hi)) σ) : wp_X10_isTold K σ (nI i) lo hi := by
  unfold wp_X10_isTold
  rw [nI_clamp (by omega)]
  exact ⟨vp_in_nI hi4 (by omega), ym_in ⟨zbB _, hk⟩⟩
theorem win_n {v lo hi : Nat} (hv : v < 1000) (hl : lo < 1000) (hh : hi < 1000) : win (nI v) (nI lo) (nI hi) = decide (lo ≤ v ∧ v ≤ hi) := by
  unfold win
  rw [decide_eq_decide, nI_leI (by omega) (by omega), nI_leI (by omega) (by omega)]
/-- what reading an item leaves alone -/
def rk (σ σ' : ts_S) : Prop := (∀ k, 1 ≤ k → k ≤ 7 → σ' k = σ k) ∧ ∀ j, j ≠ 14 → j ≠ 16 → j ≠ 17 → j ≠ 20 → σ' 0 j = σ 0 j
theorem rk.rf {σ : ts_S} : rk σ σ := ⟨fun _ _ _ => rfl, fun _ _ _ _ _ => rfl⟩
theorem rk.tr {σ σ' σ'' : ts_S} (h : rk σ σ') (h2 : rk σ' σ'') : rk σ σ'' := ⟨fun k a b => (h2.1 k a b).trans (h.1 k a b), fun j a b c d => (h2.2 j a b c d).trans (h.2 j a b c d)⟩
theorem rn.rk {σ σ' : ts_S} (h : rn σ σ') : rk σ σ' := ⟨fun k a b => h.1 k (by omega) (by omega), fun j a _ _ _ => h.2 j a⟩
theorem rM.rk {σ σ' : ts_S} {U : sU} (h : rM σ U) (r : rk σ σ') : rM σ' U := h.to (fun j hj => r.2 j (by omega) (by omega) (by omega) (by omega)) (fun k a b => r.1 k a b)
theorem rMt.rk {σ σ' : ts_S} {l : Nat} {L : Nat → Nat} (h : rMt σ l L) (r : rk σ σ') : rMt σ' l L := h.to (r.2 13 (by omega) (by omega) (by omega) (by omega)) (r.1 7 (by omega) (by omega))
theorem rk.u0 {σ : ts_S} {i : Nat} {x : Int32} (h : i = 14 ∨ i = 16 ∨ i = 17 ∨ i = 20) : rk σ (ts_u σ 0 i x) := ⟨fun k a _ => ts_u_c (by omega), fun j a b c d => by rw [ts_u_app, if_neg (by omega)]⟩
theorem rk.uc {σ : ts_S} {c i : Nat} {x : Int32} (h : 8 ≤ c) : rk σ (ts_u σ c i x) := ⟨fun k a b => ts_u_c (by omega), fun j _ _ _ _ => by rw [ts_u_c (by omega)]⟩
def itK (K : Int32 → ts_S → Prop) (o : Option (Nat × sP × sT)) (σ' : ts_S) : Prop := match o with
  | none => K 0 σ'
  | some q => rd σ' q.1 q.2.1 q.2.2 → K 1 σ'
theorem ym_tellsPerson {K : ts_S → Prop} {σ : ts_S} {a k s ag nv : Nat} {P : sP} {T : sT} (h : rd σ a P T) (hn : qn P < 6) (hk : ∀ σ', rk σ σ' → rd σ' a (aP P k) (aT T (qn P) s ag nv) → K σ') : wp_X10_tellsPerson K σ (nI k) (nI s) (nI ag) (nI nv) := by
  obtain ⟨h1, ⟨h2, h3, h4⟩, h5, h6, h7, h8, h9⟩ := h
  unfold wp_X10_tellsPerson
  rw [h3, nI_clamp (by omega)]
  refine ⟨vp_in_nI hn (by omega), ?_⟩
  rintro _ rfl
  rw [ts_u_c (a := 0) (by omega), h3, e3p, nI_clamp (by omega)]
  refine ⟨i21 (by omega), ?_⟩
  rintro _ rfl
  rw [ts_u_c (a := 0) (by omega), ts_u_c (a := 0) (by omega), h3, e9p, nI_clamp (by omega)]
  refine ⟨i21 (by omega), ?_⟩
  rintro _ rfl
  rw [ts_u_c (k := 10) (a := 0) (by omega), ts_u_c (k := 10) (a := 0) (by omega), ts_u_c (k := 9) (a := 0) (by omega), h3, e15p, nI_clamp (by omega)]
  refine ⟨i21 (by omega), ?_⟩
  rintro _ rfl
  rw [ts_u_c (k := 10) (a := 0) (by omega), ts_u_c (k := 10) (a := 0) (by omega), ts_u_c (k := 10) (a := 0) (by omega), ts_u_c (k := 9) (a := 0) (by omega), h3, nI_1]
  rintro _ rfl
  refine hk _ (((((rk.uc (by omega)).tr (rk.uc (by omega))).tr (rk.uc (by omega))).tr (rk.uc (by omega))).tr (rk.u0 (by omega))) ?_
  refine ⟨?_, ⟨?_, ?_, ?_⟩, fun p hp => ?_, fun w hw => ?_, fun j hj => ?_, fun p hp => ?_, fun p => ?_⟩
  · rw [ts_u_app, if_neg (by omega), ts_u_c (by omega), ts_u_c (by omega), ts_u_c (by omega), ts_u_c (by omega)]; exact h1
  · rw [ts_u_app, if_neg (by omega), ts_u_c (by omega), ts_u_c (by omega), ts_u_c (by omega), ts_u_c (by omega)]; exact h2
  · rw [ts_u_app, if_pos ⟨rfl, rfl⟩]; rfl
  · rw [ts_u_app, if_neg (by omega), ts_u_c (by omega), ts_u_c (by omega), ts_u_c (by omega), ts_u_c (by omega)]; exact h4
  · show _ = nI (fu (qk P) (qn P) k p)
    have hp : p < qn P + 1 := hp
    rw [ts_u_c (by omega), ts_u_c (by omega), ts_u_c (by omega), ts_u_c (by omega), ts_u_app]
    unfold fu
    by_cases e : p = qn P
    · simp [e]
    · simp [e]; exact h5 p (by omega)
  · rw [ts_u_c (by omega), ts_u_c (by omega), ts_u_c (by omega), ts_u_c (by omega), ts_u_c (by omega)]; exact h6 w hw
  · rw [ts_u_c (by omega)]
    simp only [ts_u_app]
    rw [if_neg (by omega), if_neg (by omega), if_neg (by omega), if_neg (by omega)]; exact h7 j hj
  · show _ = nI (fu (uS T) (qn P) s p) ∧ _ = nI (fu (uA T) (qn P) ag p) ∧ _ = nI (fu (uN T) (qn P) nv p)
    have hp : p < qn P + 1 := hp
    rw [ts_u_c (by omega)]
    simp only [ts_u_app]
    unfold fu
    by_cases e : p = qn P
    · rw [if_pos e, if_pos e, if_pos e]
      refine ⟨?_, ?_, ?_⟩
      · rw [if_neg (by omega), if_neg (by omega), if_pos ⟨trivial, by omega⟩]
      · rw [if_neg (by omega), if_pos ⟨trivial, by omega⟩]
      · rw [if_pos ⟨trivial, by omega⟩]
    · rw [if_neg e, if_neg e, if_neg e]
      obtain ⟨z1, z2, z3⟩ := h8 p (by omega)
      refine ⟨?_, ?_, ?_⟩
      · rw [if_neg (by omega), if_neg (by omega), if_neg (by omega), if_neg (by omega)]; exact z1
      · rw [if_neg (by omega), if_neg (by omega), if_neg (by omega), if_neg (by omega)]; exact z2
      · rw [if_neg (by omega), if_neg (by omega), if_neg (by omega), if_neg (by omega)]; exact z3
  · show fu (uG T) (qn P) false p = false ∧ fu (uC T) (qn P) false p = false
    unfold fu
    split
    · exact ⟨rfl, rfl⟩
    · exact h9 p
theorem ym_tellsWork {K : ts_S → Prop} {σ : ts_S} {a s d : Nat} {P : sP} {T : sT} (h : rd σ a P T) (hn : qW P < 5) (hk : ∀ σ', rk σ σ' → rd σ' a (aW P s d) T → K σ') : wp_X10_tellsWork K σ (nI s) (nI d) := by
  obtain ⟨h1, ⟨h2, h3, h4⟩, h5, h6, h7, h8, h9⟩ := h
  unfold wp_X10_tellsWork
  rw [h4, e2w, nI_clamp (by omega)]
  refine ⟨i10 (by omega), ?_⟩
  rintro _ rfl
  rw [ts_u_c (a := 0) (by omega), h4, e2w, nI_1, nI_clamp (by omega)]
  refine ⟨i10 (by omega), ?_⟩
  rintro _ rfl
  rw [ts_u_c (k := 11) (a := 0) (by omega), ts_u_c (k := 11) (a := 0) (by omega), h4, nI_1]
  rintro _ rfl
  refine hk _ (((rk.uc (by omega)).tr (rk.uc (by omega))).tr (rk.u0 (by omega))) ?_
  refine ⟨?_, ⟨?_, ?_, ?_⟩, fun p hp => ?_, fun w hw => ?_, fun j hj => ?_, fun p hp => ?_, h9⟩
  · rw [ts_u_app, if_neg (by omega), ts_u_c (by omega), ts_u_c (by omega)]; exact h1
  · rw [ts_u_app, if_neg (by omega), ts_u_c (by omega), ts_u_c (by omega)]; exact h2
  · rw [ts_u_app, if_neg (by omega), ts_u_c (by omega), ts_u_c (by omega)]; exact h3
  · rw [ts_u_app, if_pos ⟨rfl, rfl⟩]; rfl
  · rw [ts_u_c (by omega), ts_u_c (by omega), ts_u_c (by omega)]; exact h5 p hp
  · show _ = nI (fu (qs P) (qW P) s w) ∧ _ = nI (fu (qd P) (qW P) d w)
    have hw : w < qW P + 1 := hw
    rw [ts_u_c (by omega)]
    simp only [ts_u_app]
    unfold fu
    by_cases e : w = qW P
    · rw [if_pos e, if_pos e]
      refine ⟨?_, ?_⟩
      · rw [if_neg (by omega), if_pos ⟨trivial, by omega⟩]
      · rw [if_pos ⟨trivial, by omega⟩]
    · rw [if_neg e, if_neg e]
      obtain ⟨z1, z2⟩ := h6 w (by omega)
      refine ⟨?_, ?_⟩
      · rw [if_neg (by omega), if_neg (by omega)]; exact z1
      · rw [if_neg (by omega), if_neg (by omega)]; exact z2
  · rw [ts_u_c (by omega), ts_u_c (by omega), ts_u_c (by omega)]; exact h7 j hj
  · rw [ts_u_c (by omega), ts_u_c (by omega), ts_u_c (by omega)]; exact h8 p hp
