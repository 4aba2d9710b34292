/-! the class reads a text -/
def nfr (σ σ' : ts_S) : Prop := (∀ k, k ≠ 1 → k ≠ 3 → σ' k = σ k) ∧ σ' 1 1 = σ 1 1
theorem nfr.rf {σ : ts_S} : nfr σ σ := ⟨fun _ _ _ => rfl, rfl⟩
theorem nfr.tr {σ σ' σ'' : ts_S} (h : nfr σ σ') (h2 : nfr σ' σ'') : nfr σ σ'' := ⟨fun k a b => (h2.1 k a b).trans (h.1 k a b), h2.2.trans h.2⟩
theorem nfr.at {σ : ts_S} {x : Int32} : nfr σ (ts_u σ 1 2 x) := ⟨fun k a b => ts_u_c a, by simp [ts_u_app]⟩
theorem nfr.nu {σ : ts_S} {i : Nat} {x : Int32} : nfr σ (ts_u σ 3 i x) := ⟨fun k a b => ts_u_c b, by rw [ts_u_c (by omega)]⟩
/-- the text as it lies in the store -/
def txo (σ : ts_S) (l : Nat) (L : Nat → Nat) : Prop := rTx σ l L ∧ l ≤ 200 ∧ ∀ i, i < l → L i ≤ 126
theorem txo.nf {σ σ' : ts_S} {l : Nat} {L : Nat → Nat} (h : txo σ l L) (f : nfr σ σ') : txo σ' l L := ⟨⟨by rw [f.2]; exact h.1.1, fun i hi => by rw [f.1 2 (by omega) (by omega)]; exact h.1.2 i hi⟩, h.2⟩
theorem sx_figureAt {K : Int32 → ts_S → Prop} {σ : ts_S} {l : Nat} {L : Nat → Nat} {i : Nat} (h : txo σ l L) (hi : i < 1000) (hk : K (if dig (lt1 L l i) then nI (lt1 L l i - 48) else -1) σ) : wp_X6_figureAt K σ (nI i) := by
  unfold wp_X6_figureAt
  obtain ⟨⟨h1, h2⟩, h3, h4⟩ := h
  rw [h1]
  by_cases d : i < l
  · rw [if_neg (nI_ge d (by omega)), nI_clamp (by omega), h2 i d]
    have hin : vp_in (nI i) 200 := vp_in_nI (by omega) (by omega)
    refine ⟨hin, ?_⟩
    have hL := h4 i d
    have e : lt1 L l i = L i := by unfold lt1; rw [if_pos d]
    rw [e] at hk
    rw [show (48 : Int32) = nI 48 from rfl, show (57 : Int32) = nI 57 from rfl]
    by_cases d1 : L i < 48
    · rw [if_pos (nI_lt d1 (by omega))]
      rw [if_neg (by simp [dig]; omega)] at hk; exact hk
    · rw [if_neg (nI_nlt (by omega) (by omega))]
      refine ⟨hin, ?_⟩
      by_cases d2 : L i ≤ 57
      · rw [if_pos (nI_le d2 (by omega)), pk_sub (by omega)]
        rw [if_pos (by simp [dig]; omega)] at hk; exact ⟨hin, hk⟩
      · rw [if_neg (nI_ge (by omega) (by omega))]
        rw [if_neg (by simp [dig]; omega)] at hk; exact hk
  · rw [if_pos (nI_le (by omega) (by omega))]
    have e : lt1 L l i = 1000 := by unfold lt1; rw [if_neg d]
    rw [e] at hk
    exact hk
theorem dig_b {c : Nat} (h : dig c = true) : c - 48 ≤ 9 ∧ 48 ≤ c := by have := of_decide_eq_true h; omega
theorem sx_readNumber {K : Int32 → ts_S → Prop} {σ : ts_S} {l : Nat} {L : Nat → Nat} {a : Nat} (h : txo σ l L) (ha : σ 1 2 = nI a) (hal : a ≤ l) (hk : match num L l a with
    | none => K (-1) σ
    | some q => K (nI q.1) (ts_u σ 1 2 (nI q.2))) : wp_X6_readNumber K σ := by
  have hl := h.2.1
  unfold wp_X6_readNumber
  rw [ha]
  refine sx_figureAt h (by omega) ?_
  unfold num at hk
  cases d : dig (lt1 L l a) <;> rw [d] at hk
  · simp only [Bool.false_eq_true, ↓reduceIte]; rw [if_neg (by decide)]; exact hk
  · have b1 := dig_b d
    rw [if_pos rfl, if_pos (by rw [k0]; exact nI_le (by omega) (by omega))]
    rintro _ rfl
    rw [ha, nI_1]
    have e1 : ts_u σ 1 2 (nI (a + 1)) 1 2 = nI (a + 1) := by simp [ts_u_app]
    rw [e1]
    refine sx_figureAt (h.nf nfr.at) (by omega) ?_
    cases d2 : dig (lt1 L l (a + 1)) <;> rw [d2] at hk
    · simp only [Bool.false_eq_true, ↓reduceIte]; rw [if_neg (by decide)]; exact hk
    · have b2 := dig_b d2
      rw [if_pos rfl, if_pos (by rw [k0]; exact nI_le (by omega) (by omega))]
      rintro _ rfl
      rw [e1, nI_1, ts_u_u, k10, pk_mul, nI_add]
      exact hk
theorem sx_readNumbers {K : Int32 → ts_S → Prop} {σ : ts_S} {l : Nat} {L : Nat → Nat} {a m : Nat} (h : txo σ l L) (ha : σ 1 2 = nI a) (hal : a ≤ l) (hm : m ≤ 4) (hk : match nms L l m m a (fun _ => 0) with
    | none => ∀ σ', nfr σ σ' → K 0 σ'
    | some q => ∀ σ', nfr σ σ' → σ' 1 2 = nI q.2 → (∀ i, i < m → σ' 3 i = nI (q.1 i) ∧ q.1 i ≤ 99) → K 1 σ') : wp_X6_readNumbers K σ (nI m) := by
  unfold wp_X6_readNumbers wp_X6_readNumbers_l2
  intro X hX
  have hl := h.2.1
  generalize hR : nms L l m m a (fun _ => 0) = R at hk
  have main : ∀ σ' a' v', nfr σ σ' → σ' 1 2 = nI a' → a' ≤ l → (∀ j, j < 0 → σ' 3 j = nI (v' j) ∧ v' j ≤ 99) → nms L l m (m - 0) a' v' = R → X σ' (nI 0) := by
    refine ts_down (P := fun i => ∀ σ' a' v', nfr σ σ' → σ' 1 2 = nI a' → a' ≤ l → (∀ j, j < i → σ' 3 j = nI (v' j) ∧ v' j ≤ 99) → nms L l m (m - i) a' v' = R → X σ' (nI i)) m ?_ ?_
    · intro σ1 a1 v1 f1 e1 l1 n1 r1
      apply hX; unfold wp_X6_readNumbers_b2
      rw [if_pos (nI_le (Nat.le_refl _) (by omega))]
      rw [Nat.sub_self] at r1
      rw [← r1] at hk
      exact ⟨zb1, hk σ1 f1 e1 n1⟩
    · intro i hi ih σ1 a1 v1 f1 e1 l1 n1 r1
      apply hX; unfold wp_X6_readNumbers_b2
      rw [if_neg (nI_ge hi (by omega)), nI_1]
      obtain ⟨k, hk1⟩ : ∃ k, m - i = k + 1 := ⟨m - i - 1, by omega⟩
      have hk2 : m - (i + 1) = k := by omega
      have hk3 : m - (k + 1) = i := by omega
      rw [hk1] at r1
      unfold nms at r1
      rw [hk3] at r1
      refine sx_readNumber (h.nf f1) e1 l1 ?_
      cases en : num L l a1 with
      | none =>
        rw [en] at r1
        dsimp only at r1 ⊢
        rw [← r1] at hk
        have fin : ∀ y, wp_X6_readNumbers_j26 K X (nI m) σ1 (nI i) (-1) y := by
          intro y; unfold wp_X6_readNumbers_j26; rw [if_pos (by decide)]; exact ⟨zb0, hk σ1 f1⟩
        split <;> exact fin _
      | some q =>
        rw [en] at r1
        dsimp only at r1 ⊢
        have hq := num_adv en
        have fin : ∀ y : Nat, y < 1000 → y = (if k = 0 then 59 else 44) → wp_X6_readNumbers_j26 K X (nI m) (ts_u σ1 1 2 (nI q.2)) (nI i) (nI q.1) (nI y) := by
          intro y hy1 hy
          unfold wp_X6_readNumbers_j26
          have f2 : nfr σ (ts_u σ1 1 2 (nI q.2)) := f1.tr nfr.at
          have t2 := h.nf f2
          have e2 : ts_u σ1 1 2 (nI q.2) 1 2 = nI q.2 := by simp [ts_u_app]
          rw [if_neg (by rw [k0]; exact nI_nlt (by omega) (by omega)), e2, t2.1.1]
          by_cases dl : q.2 < l
          · rw [if_neg (nI_ge dl (by omega)), nI_clamp (by omega), t2.1.2 _ dl]
            refine ⟨vp_in_nI (by omega) (by omega), ?_⟩
            have hL := h.2.2 _ dl
            have el : lt1 L l q.2 = L q.2 := by unfold lt1; rw [if_pos dl]
            rw [el, ← hy] at r1
            by_cases dy : L q.2 = y
            · rw [if_pos (by rw [dy])]
              rw [if_pos dy] at r1
              refine ⟨vp_in_nI (by omega) (by omega), ?_⟩
              rintro _ rfl _ rfl
              rw [nI_clamp (by omega), nI_1, ts_u_c (a := 1) (by omega), e2, nI_1]
              refine ih _ (q.2 + 1) (fu v1 i q.1) ((f2.tr nfr.nu).tr nfr.at) (by simp [ts_u_app]) (by omega) (fun j hj => ?_) (by rw [hk2]; exact r1)
              rw [ts_u_c (by omega), ts_u_app]
              by_cases ej : j = i
              · subst ej; rw [if_pos ⟨rfl, rfl⟩, fu_same]; exact ⟨rfl, hq.2.2.1⟩
              · rw [if_neg (fun z => ej z.2), fu_ne ej, ts_u_c (by omega)]; exact n1 j (by omega)
            · rw [if_neg (by rw [eqI (by omega) (by omega)]; exact dy)]
              rw [if_neg dy] at r1
              rw [← r1] at hk
              exact ⟨zb0, hk _ f2⟩
          · rw [if_pos (nI_le (by omega) (by omega))]
            have el : lt1 L l q.2 = 1000 := by unfold lt1; rw [if_neg dl]
            rw [el, if_neg (by rw [← hy]; omega)] at r1
            rw [← r1] at hk
            exact ⟨zb0, hk _ f2⟩
        by_cases dk : k = 0
        · rw [if_pos (nI_le (by omega) (by omega))]; exact fin 59 (by omega) (by rw [if_pos dk])
        · rw [if_neg (nI_ge (by omega) (by omega))]; exact fin 44 (by omega) (by rw [if_neg dk])
  exact main σ a (fun _ => 0) nfr.rf ha hal (fun j hj => absurd hj (Nat.not_lt_zero j)) hR
/-- what reading may change -/
def pfr (σ σ' : ts_S) : Prop := (∀ k, ¬ (k = 1 ∨ k = 3 ∨ (27 ≤ k ∧ k ≤ 30) ∨ (37 ≤ k ∧ k ≤ 42)) → σ' k = σ k) ∧ σ' 1 1 = σ 1 1
theorem pfr.rf {σ : ts_S} : pfr σ σ := ⟨fun _ _ => rfl, rfl⟩
theorem pfr.tr {σ σ' σ'' : ts_S} (h : pfr σ σ') (h2 : pfr σ' σ'') : pfr σ σ'' := ⟨fun k a => (h2.1 k a).trans (h.1 k a), h2.2.trans h.2⟩
theorem nfr.p {σ σ' : ts_S} (h : nfr σ σ') : pfr σ σ' := ⟨fun k a => h.1 k (by omega) (by omega), h.2⟩
theorem txo.pf {σ σ' : ts_S} {l : Nat} {L : Nat → Nat} (h : txo σ l L) (f : pfr σ σ') : txo σ' l L := ⟨⟨by rw [f.2]; exact h.1.1, fun i hi => by rw [f.1 2 (by omega)]; exact h.1.2 i hi⟩, h.2⟩
def dr (σ : ts_S) (P : sP) (T : sT) : Prop := rP σ 27 P ∧ rT σ 37 (qn P) T ∧ bz σ 37
theorem dr.nf {σ σ' : ts_S} {P : sP} {T : sT} (h : dr σ P T) (f : nfr σ σ') : dr σ' P T := ⟨h.1.same (fun j a b => f.1 j (by omega) (by omega)), h.2.1.same (fun j a b => f.1 j (by omega) (by omega)), h.2.2.same (fun j a b => f.1 j (by omega) (by omega))⟩
theorem winI {lo x hi : Nat} (h1 : lo < 1000000) (h2 : x < 1000000) (h3 : hi < 1000000) : decide (nI lo ≤ nI x ∧ nI x ≤ nI hi) = decide (lo ≤ x ∧ x ≤ hi) := decide_eq_decide.mpr (by rw [leI h1 h2, leI h2 h3])
theorem in04 {i : Nat} (h : i < 4) : vp_in (nI i) 4 := vp_in_nI h (by omega)
theorem sx_takeSteps {K : Int32 → ts_S → Prop} {σ : ts_S} {P : sP} {T : sT} {x : Nat} (d : dr σ P T) (hx : σ 3 0 = nI x) (hx9 : x ≤ 99) (hk : ∀ σ', pfr σ σ' → σ' 1 2 = σ 1 2 → (if 2 ≤ x ∧ x ≤ 10 then dr σ' (aH P x) T else bz σ' 37) → K (nB (decide (2 ≤ x ∧ x ≤ 10))) σ') : wp_X6_takeSteps K σ 27 := by
  unfold wp_X6_takeSteps
  refine ⟨in04 (i := 0) (by omega), ?_⟩
  rintro _ rfl
  refine ⟨in04 (i := 0) (by omega), ?_⟩
  rw [cl0, hx, ts_u_c (a := 3) (by omega), hx]
  refine sx_within ?_
  have e : decide ((2 : Int32) ≤ nI x ∧ nI x ≤ 10) = decide (2 ≤ x ∧ x ≤ 10) := winI (lo := 2) (hi := 10) (by omega) (by omega) (by omega)
  rw [e]
  refine ⟨zbB _, hk _ ⟨fun k hk => ts_u_c (by omega), by rw [ts_u_c (by omega)]⟩ (by rw [ts_u_c (by omega)]) ?_⟩
  have hb : bz (ts_u σ 27 0 (nI x)) 37 := d.2.2.same (fun j a b => ts_u_c (by omega))
  split
  · obtain ⟨⟨p1, p2, p3, p4, p5⟩, t1, -⟩ := d
    refine ⟨⟨by simp [ts_u_app]; rfl, by rw [ts_u_app]; simp; exact p2, by rw [ts_u_app]; simp; exact p3, fun p hp => by rw [ts_u_c (by omega)]; exact p4 p hp, fun w hw => by rw [ts_u_c (by omega), ts_u_c (by omega)]; exact p5 w hw⟩, t1.same (fun j a b => ts_u_c (by omega)), hb⟩
  · exact hb
theorem sx_takeWork {K : Int32 → ts_S → Prop} {σ : ts_S} {P : sP} {T : sT} {x y : Nat} (d : dr σ P T) (wf : wfP P) (hx : σ 3 0 = nI x) (hy : σ 3 1 = nI y) (hx9 : x ≤ 99) (hy9 : y ≤ 99) (hk : ∀ σ', pfr σ σ' → σ' 1 2 = σ 1 2 → (if qW P < 5 ∧ x < qH P ∧ (1 ≤ y ∧ y ≤ 4) then dr σ' (aW P x y) T else bz σ' 37) → K (nB (decide (qW P < 5 ∧ x < qH P ∧ (1 ≤ y ∧ y ≤ 4)))) σ') : wp_X6_takeWork K σ 27 := by
  obtain ⟨⟨p1, p2, p3, p4, p5⟩, t1, b1⟩ := d
  have hW := wf.2.2.2.2.1
  have hH := wf.2.1
  unfold wp_X6_takeWork
  rw [cl0, cl1, p3, p1, hx, hy, k5]
  have bad : ¬ (qW P < 5 ∧ x < qH P ∧ (1 ≤ y ∧ y ≤ 4)) → ts_zb 0 ∧ K 0 σ := by
    intro nc
    have := hk σ pfr.rf rfl (by rw [if_neg nc]; exact b1)
    rw [decide_eq_false nc] at this
    exact ⟨zb0, this⟩
  by_cases c1 : qW P < 5
  · rw [if_neg (nI_ge c1 (by omega))]
    refine ⟨in04 (i := 0) (by omega), ?_⟩
    by_cases c2 : x < qH P
    · rw [if_neg (nI_ge c2 (by omega))]
      refine ⟨in04 (i := 1) (by omega), sx_within ?_⟩
      have e : decide ((1 : Int32) ≤ nI y ∧ nI y ≤ 4) = decide (1 ≤ y ∧ y ≤ 4) := winI (lo := 1) (hi := 4) (by omega) (by omega) (by omega)
      rw [e]
      by_cases c3 : 1 ≤ y ∧ y ≤ 4
      · rw [decide_eq_true c3]
        simp only [itB1]
        refine ⟨in04 (i := 0) (by omega), vp_in_nI c1 (by omega), ?_⟩
        rintro _ rfl
        refine ⟨in04 (i := 1) (by omega), vp_in_nI c1 (by omega), ?_⟩
        rintro _ rfl _ rfl
        refine ⟨zb1, ?_⟩
        have hc : qW P < 5 ∧ x < qH P ∧ (1 ≤ y ∧ y ≤ 4) := ⟨c1, c2, c3⟩
        have := hk (ts_u (ts_u (ts_u σ (27 + 2) (qW P) (nI x)) (27 + 3) (qW P) (nI y)) 27 2 (nI (qW P + 1))) ⟨fun k hk => by rw [ts_u_c (by omega), ts_u_c (by omega), ts_u_c (by omega)], by rw [ts_u_c (by omega), ts_u_c (by omega), ts_u_c (by omega)]⟩ (by rw [ts_u_c (by omega), ts_u_c (by omega), ts_u_c (by omega)]) ?_
        · rw [decide_eq_true hc] at this
          rw [nI_clamp (by omega), ts_u_c (a := 3) (by omega), hy, hx, ts_u_c (a := 27) (by omega), ts_u_c (a := 27) (by omega), p3, nI_1]
          exact this
        · rw [if_pos hc]
          refine ⟨⟨by rw [ts_u_app]; simp; rw [ts_u_c (by omega), ts_u_c (by omega)]; exact p1, by rw [ts_u_app]; simp; rw [ts_u_c (by omega), ts_u_c (by omega)]; exact p2, by simp [ts_u_app]; rfl, fun p hp => by rw [ts_u_c (by omega), ts_u_c (by omega), ts_u_c (by omega)]; exact p4 p hp, fun w hw => ?_⟩, t1.same (fun j a b => by rw [ts_u_c (by omega), ts_u_c (by omega), ts_u_c (by omega)]), b1.same (fun j a b => by rw [ts_u_c (by omega), ts_u_c (by omega), ts_u_c (by omega)])⟩
          have hw : w < qW P + 1 := hw
          show _ = nI (fu (qs P) (qW P) x w) ∧ _ = nI (fu (qd P) (qW P) y w)
          rw [ts_u_c (a := 27 + 2) (by omega), ts_u_c (a := 27 + 2) (by omega), ts_u_c (a := 27 + 3) (by omega), ts_u_app, ts_u_app]
          unfold fu
          by_cases ew : w = qW P
          · simp [ew]
          · obtain ⟨q1, q2⟩ := p5 w (by omega)
            simp [ew, q1]; rw [ts_u_c (by omega)]; exact q2
      · rw [decide_eq_false c3]
        simp only [itB0]
        exact bad (fun z => c3 z.2.2)
    · rw [if_pos (nI_le (by omega) (by omega))]
      exact bad (fun z => c2 z.2.1)
  · rw [if_pos (nI_le (by omega) (by omega))]
    exact bad (fun z => c1 z.1)
