/-! the reference's whole store -/
def rMt (σ : ts_S) (l : Nat) (L : Nat → Nat) : Prop := σ 0 13 = nI l ∧ ∀ i, i < l → σ 7 i = nI (L i)
def rMa (σ : ts_S) (n m : Nat) (A : Nat → sT) : Prop := σ 0 6 = nI m ∧ ∀ k, k < m → rR σ 4 (21 * k) n (A k)
def rMk (σ : ts_S) (n m : Nat) (C : Nat → sT) : Prop := σ 0 8 = nI m ∧ ∀ k, k < m → rR σ 5 (21 * k) n (C k)
def rMs (σ : ts_S) (m : Nat) (Z : Nat → Nat × Nat × Bool) : Prop := σ 0 10 = nI m ∧ ∀ i, i < m → σ 6 (3 * i) = nI (Z i).1 ∧ σ 6 (3 * i + 1) = nI (Z i).2.1 ∧ σ 6 (3 * i + 2) = nB (Z i).2.2
def rM (σ : ts_S) (U : sU) : Prop := rMP σ (vP U) ∧ rR σ 3 0 (qn (vP U)) (vT U) ∧ rMt σ (vl U) (vL U) ∧ rMa σ (qn (vP U)) (vm U) (vA U) ∧ rMk σ (qn (vP U)) (vc U) (vC U) ∧ rMs σ (vz U) (vZ U)
section RM
variable {σ : ts_S} {U : sU}
theorem rM.pl (h : rM σ U) : rMP σ (vP U) := h.1
theorem rM.ro (h : rM σ U) : rR σ 3 0 (qn (vP U)) (vT U) := h.2.1
theorem rM.tx (h : rM σ U) : rMt σ (vl U) (vL U) := h.2.2.1
theorem rM.ac (h : rM σ U) : rMa σ (qn (vP U)) (vm U) (vA U) := h.2.2.2.1
theorem rM.ke (h : rM σ U) : rMk σ (qn (vP U)) (vc U) (vC U) := h.2.2.2.2.1
theorem rM.se (h : rM σ U) : rMs σ (vz U) (vZ U) := h.2.2.2.2.2
end RM
theorem rR.same {σ σ' : ts_S} {c o c' o' n : Nat} {T : sT} (h : rR σ c o n T) (hn : n ≤ 6) (e : ∀ j, j < 21 → σ' c' (o' + j) = σ c (o + j)) : rR σ' c' o' n T := by
  refine ⟨?_, ?_, ?_, fun p hp => ?_⟩
  · have := e 0 (by omega); rw [Nat.add_zero, Nat.add_zero] at this; rw [this]; exact h.1
  · rw [e 1 (by omega)]; exact h.2.1
  · rw [e 2 (by omega)]; exact h.2.2.1
  · rw [e (3 + p) (by omega), e (9 + p) (by omega), e (15 + p) (by omega)]; exact h.2.2.2 p hp
theorem rR.to {σ σ' : ts_S} {c o n : Nat} {T : sT} (h : rR σ c o n T) (e : σ' c = σ c) : rR σ' c o n T := by
  unfold rR; rw [e]; exact h
theorem rMP.to {σ σ' : ts_S} {P : sP} (h : rMP σ P) (e0 : ∀ j, j = 0 ∨ j = 1 ∨ j = 3 → σ' 0 j = σ 0 j) (e1 : σ' 1 = σ 1) (e2 : σ' 2 = σ 2) : rMP σ' P := by
  unfold rMP; rw [e0 0 (by omega), e0 1 (by omega), e0 3 (by omega), e1, e2]; exact h
theorem rMt.to {σ σ' : ts_S} {l : Nat} {L : Nat → Nat} (h : rMt σ l L) (e0 : σ' 0 13 = σ 0 13) (e : σ' 7 = σ 7) : rMt σ' l L := by
  unfold rMt; rw [e0, e]; exact h
theorem rMa.to {σ σ' : ts_S} {n m : Nat} {A : Nat → sT} (h : rMa σ n m A) (e0 : σ' 0 6 = σ 0 6) (e : σ' 4 = σ 4) : rMa σ' n m A := ⟨by rw [e0]; exact h.1, fun k hk => (h.2 k hk).to e⟩
theorem rMk.to {σ σ' : ts_S} {n m : Nat} {A : Nat → sT} (h : rMk σ n m A) (e0 : σ' 0 8 = σ 0 8) (e : σ' 5 = σ 5) : rMk σ' n m A := ⟨by rw [e0]; exact h.1, fun k hk => (h.2 k hk).to e⟩
theorem rMs.to {σ σ' : ts_S} {m : Nat} {Z : Nat → Nat × Nat × Bool} (h : rMs σ m Z) (e0 : σ' 0 10 = σ 0 10) (e : σ' 6 = σ 6) : rMs σ' m Z := by
  unfold rMs; rw [e0, e]; exact h
theorem rM.to {σ σ' : ts_S} {U : sU} (h : rM σ U) (e0 : ∀ j, j = 0 ∨ j = 1 ∨ j = 3 ∨ j = 6 ∨ j = 8 ∨ j = 10 ∨ j = 13 → σ' 0 j = σ 0 j) (e : ∀ k, 1 ≤ k → k ≤ 7 → σ' k = σ k) : rM σ' U :=
  ⟨h.1.to (fun j hj => e0 j (by omega)) (e 1 (by omega) (by omega)) (e 2 (by omega) (by omega)), h.ro.to (e 3 (by omega) (by omega)), h.tx.to (e0 13 (by omega)) (e 7 (by omega) (by omega)), h.ac.to (e0 6 (by omega)) (e 4 (by omega) (by omega)), h.ke.to (e0 8 (by omega)) (e 5 (by omega) (by omega)), h.se.to (e0 10 (by omega)) (e 6 (by omega) (by omega))⟩
theorem rM.fm {σ σ' : ts_S} {U : sU} (h : rM σ U) (f : fm σ σ') : rM σ' U := h.to (fun j _ => by rw [f 0 (by omega)]) (fun k a b => f k (by omega))
theorem rM.cn {σ : ts_S} {U : sU} (h : rM σ U) : σ 0 1 = nI (qn (vP U)) := h.1.2.1
theorem rM.ch {σ : ts_S} {U : sU} (h : rM σ U) : σ 0 0 = nI (qH (vP U)) := h.1.1
theorem rM.cw {σ : ts_S} {U : sU} (h : rM σ U) : σ 0 3 = nI (qW (vP U)) := h.1.2.2.1
theorem rM.r3 {σ : ts_S} {U : sU} (h : rM σ U) {p : Nat} (hp : p < qn (vP U)) : σ 3 (3 + p) = nI (uS (vT U) p) ∧ σ 3 (9 + p) = nI (uA (vT U) p) ∧ σ 3 (15 + p) = nI (uN (vT U) p) := by
  have := h.ro.2.2.2 p hp
  rwa [Nat.zero_add, Nat.zero_add, Nat.zero_add] at this
theorem rM.g3 {σ : ts_S} {U : sU} (h : rM σ U) : σ 3 1 = nI (bs (uG (vT U)) (qn (vP U))) := h.ro.2.1
theorem rM.y3 {σ : ts_S} {U : sU} (h : rM σ U) : σ 3 0 = nI (uY (vT U)) := h.ro.1
theorem ym_copies {K : ts_S → Prop} {σ : ts_S} {t0 a t2 b n : Nat} (hne : t0 ≠ t2) (ha : a + n ≤ tM_len t0) (hb : b + n ≤ tM_len t2) (h0 : tM_len t0 ≤ 200) (h2 : tM_len t2 ≤ 200) (hk : ∀ σ', (∀ k, k ≠ t0 → σ' k = σ k) → (∀ j, j < n → σ' t0 (a + j) = σ t2 (b + j)) → (∀ j, (j < a ∨ a + n ≤ j) → σ' t0 j = σ t0 j) → K σ') : wp_X10_copies K σ t0 (nI a) t2 (nI b) (nI n) := by
  unfold wp_X10_copies wp_X10_copies_l3
  intro X hX
  have main : ∀ σ', (∀ k, k ≠ t0 → σ' k = σ k) → (∀ j, j < 0 → σ' t0 (a + j) = σ t2 (b + j)) → (∀ j, (j < a ∨ a + 0 ≤ j) → σ' t0 j = σ t0 j) → X σ' (nI 0) := by
    refine ts_down (P := fun i => ∀ σ', (∀ k, k ≠ t0 → σ' k = σ k) → (∀ j, j < i → σ' t0 (a + j) = σ t2 (b + j)) → (∀ j, (j < a ∨ a + i ≤ j) → σ' t0 j = σ t0 j) → X σ' (nI i)) n ?_ ?_
    · intro σ1 m1 m2 m3
      apply hX; unfold wp_X10_copies_b3
      rw [if_pos (nI_le (Nat.le_refl _) (by omega))]
      exact hk σ1 m1 m2 m3
    · intro i hi ih σ1 m1 m2 m3
      apply hX; unfold wp_X10_copies_b3
      rw [if_neg (nI_ge hi (by omega)), nI_add, nI_add, nI_clamp (n := b + i) (by omega), nI_clamp (n := a + i) (by omega), nI_1]
      refine ⟨vp_in_nI (by omega) (by omega), vp_in_nI (by omega) (by omega), ?_⟩
      rintro _ rfl
      rw [m1 t2 (fun z => hne z.symm)]
      refine ih _ (fun k hk => by rw [ts_u_c hk]; exact m1 k hk) (fun j hj => ?_) (fun j hj => ?_)
      · rw [ts_u_app]
        by_cases e : j = i
        · rw [if_pos ⟨rfl, by omega⟩, e]
        · rw [if_neg (by omega)]; exact m2 j (by omega)
      · rw [ts_u_app, if_neg (by omega)]; exact m3 j (by omega)
  exact main σ (fun _ _ => rfl) (fun j hj => absurd hj (Nat.not_lt_zero j)) (fun _ _ => rfl)
theorem ym_asItIs {K : ts_S → Prop} {σ : ts_S} {U : sU} (w : wfU U) (h : rM σ U) (hk : ∀ σ', fm σ σ' → rM σ' U → cm σ' (vP U) (vT U) → K σ') : wp_X10_asItIs K σ := by
  unfold wp_X10_asItIs
  refine ym_copies (a := 0) (b := 0) (n := 21) (by omega) (by decide) (by decide) (by decide) (by decide) (fun σ1 m1 m2 m3 => ?_)
  have f : fm σ σ1 := m1
  exact hk σ1 f (h.fm f) ⟨h.1.fm f, h.ro.same w.1.2.2.1 m2, w.1, w.2.2.1.1⟩
theorem e21 (m : Nat) : (21 : Int32) * nI m = nI (21 * m) := by rw [k21, pk_mul]
/-- one more that can be undone, where there is room -/
theorem ym_becomes49 {K : ts_S → Prop} {σ : ts_S} {U : sU} {T : sT} (h6 : qn (vP U) ≤ 6) (h : rM σ U) (hr : rR σ 12 0 (qn (vP U)) T) (hm : vm U < 8) (hk : ∀ σ', rM σ' (wT (wAc U (vm U + 1, fu (vA U) (vm U) (vT U))) T) → K σ') : wp_X10_becomes_j49 K σ := by
  unfold wp_X10_becomes_j49
  rw [h.ac.1, e21]
  refine ym_copies (a := 21 * vm U) (b := 0) (n := 21) (by omega) (by show 21 * vm U + 21 ≤ 168; omega) (by decide) (by decide) (by decide) (fun σ1 m1 m2 m3 => ?_)
  rintro _ rfl
  rw [m1 0 (by omega), h.ac.1, nI_1]
  refine ym_copies (a := 0) (b := 0) (n := 21) (by omega) (by decide) (by decide) (by decide) (by decide) (fun σ2 q1 q2 q3 => ?_)
  have ec : ∀ k, k ≠ 0 → k ≠ 3 → k ≠ 4 → σ2 k = σ k := fun k a b c => by rw [q1 k b, ts_u_c a, m1 k c]
  have e4 : σ2 4 = σ1 4 := by rw [q1 4 (by omega), ts_u_c (by omega)]
  have e0 : ∀ j, j ≠ 6 → σ2 0 j = σ 0 j := fun j hj => by rw [q1 0 (by omega), ts_u_app, if_neg (fun z => hj z.2), m1 0 (by omega)]
  refine hk σ2 ⟨h.1.to (fun j hj => e0 j (by omega)) (ec 1 (by omega) (by omega) (by omega)) (ec 2 (by omega) (by omega) (by omega)), ?_, h.tx.to (e0 13 (by omega)) (ec 7 (by omega) (by omega) (by omega)), ⟨?_, fun k hk => ?_⟩, h.ke.to (e0 8 (by omega)) (ec 5 (by omega) (by omega) (by omega)), h.se.to (e0 10 (by omega)) (ec 6 (by omega) (by omega) (by omega))⟩
  · refine hr.same h6 (fun j hj => ?_)
    rw [q2 j hj, ts_u_c (by omega), m1 12 (by omega)]
  · rw [q1 0 (by omega), ts_u_app, if_pos ⟨rfl, rfl⟩]; rfl
  · have hk : k < vm U + 1 := hk
    show rR σ2 4 (21 * k) _ (fu (vA U) (vm U) (vT U) k)
    unfold fu
    by_cases e : k = vm U
    · rw [if_pos e]
      refine h.ro.same h6 (fun j hj => ?_)
      rw [e4, e, m2 j hj]
    · rw [if_neg e]
      refine (h.ac.2 k (by omega)).same h6 (fun j hj => ?_)
      rw [e4, m3 _ (by omega)]
theorem ym_becomes {K : ts_S → Prop} {σ : ts_S} {U : sU} {T : sT} (w : wfU U) (h : rM σ U) (hr : rR σ 12 0 (qn (vP U)) T) (hk : ∀ σ', rM σ' (wNew U T) → K σ') : wp_X10_becomes K σ := by
  have h6 : qn (vP U) ≤ 6 := w.1.2.2.1
  have hm : vm U ≤ 8 := w.2.2.2.2.1.1
  unfold wp_X10_becomes
  rw [h.ac.1]
  unfold wNew psh at hk
  by_cases d : vm U < 8
  · rw [if_neg (by rw [k8, eqI (by omega) (by omega)]; omega)]
    rw [if_pos d] at hk
    exact ym_becomes49 h6 h hr d hk
  · have e8 : vm U = 8 := by omega
    rw [if_pos (by rw [e8]; rfl)]
    rw [if_neg d] at hk
    unfold wp_X10_becomes_l11
    intro X hX
    have main : ∀ σ', (∀ k, k ≠ 4 → σ' k = σ k) → (∀ j, j < 0 → σ' 4 j = σ 4 (j + 21)) → (∀ j, 0 ≤ j → σ' 4 j = σ 4 j) → X σ' (nI 0) := by
      refine ts_down (P := fun i => ∀ σ', (∀ k, k ≠ 4 → σ' k = σ k) → (∀ j, j < i → σ' 4 j = σ 4 (j + 21)) → (∀ j, i ≤ j → σ' 4 j = σ 4 j) → X σ' (nI i)) 147 ?_ ?_
      · intro σ1 m1 m2 m3
        apply hX; unfold wp_X10_becomes_b11
        rw [if_pos (by decide)]
        rintro _ rfl
        rw [m1 0 (by omega), h.ac.1, e8, show nI 8 - 1 = nI 7 from rfl]
        have ec : ∀ k, k ≠ 0 → k ≠ 4 → ts_u σ1 0 6 (nI 7) k = σ k := fun k a b => by rw [ts_u_c a, m1 k b]
        have e0 : ∀ j, j ≠ 6 → ts_u σ1 0 6 (nI 7) 0 j = σ 0 j := fun j hj => by rw [ts_u_app, if_neg (fun z => hj z.2), m1 0 (by omega)]
        refine ym_becomes49 (U := wAc U (7, fun k => vA U (k + 1))) (T := T) h6 ?_ (hr.to (ec 12 (by omega) (by omega))) (by show 7 < 8; omega) (fun σ2 hM => hk σ2 ?_)
        · refine ⟨h.1.to (fun j hj => e0 j (by omega)) (ec 1 (by omega) (by omega)) (ec 2 (by omega) (by omega)), h.ro.to (ec 3 (by omega) (by omega)), h.tx.to (e0 13 (by omega)) (ec 7 (by omega) (by omega)), ⟨by rw [ts_u_app, if_pos ⟨rfl, rfl⟩]; rfl, fun k hk => ?_⟩, h.ke.to (e0 8 (by omega)) (ec 5 (by omega) (by omega)), h.se.to (e0 10 (by omega)) (ec 6 (by omega) (by omega))⟩
          have hk : k < 7 := hk
          show rR _ 4 (21 * k) _ (vA U (k + 1))
          refine (h.ac.2 (k + 1) (by omega)).same h6 (fun j hj => ?_)
          rw [ts_u_c (by omega), m2 _ (by omega)]
          congr 1; omega
        · refine ⟨hM.1, hM.2.1, hM.2.2.1, ⟨hM.ac.1, fun k hk => ?_⟩, hM.ke, hM.se⟩
          have hk : k < 8 := hk
          have := hM.ac.2 k hk
          have e : (if k < 7 then vA U (k + 1) else vT U) = fu (fun k => vA U (k + 1)) 7 (vT U) k := by
            unfold fu
            by_cases e : k = 7
            · rw [if_neg (by omega), if_pos e]
            · rw [if_pos (by omega), if_neg e]
          show rR σ2 4 (21 * k) _ (if k < 7 then vA U (k + 1) else vT U)
          rw [e]; exact this
      · intro i hi ih σ1 m1 m2 m3
        apply hX; unfold wp_X10_becomes_b11
        rw [if_neg (by rw [k147]; exact nI_ge hi (by omega)), k21, nI_add, nI_clamp (n := i + 21) (by omega), nI_clamp (n := i) (by omega), nI_1]
        refine ⟨vp_in_nI (by omega) (by omega), vp_in_nI (by omega) (by omega), ?_⟩
        rintro _ rfl
        rw [m3 (i + 21) (by omega)]
        refine ih _ (fun k hk => by rw [ts_u_c hk]; exact m1 k hk) (fun j hj => ?_) (fun j hj => ?_)
        · rw [ts_u_app]
          by_cases e : j = i
          · rw [if_pos ⟨rfl, e⟩, e]
          · rw [if_neg (by omega)]; exact m2 j (by omega)
        · rw [ts_u_app, if_neg (by omega)]; exact m3 j (by omega)
    exact main σ (fun _ _ => rfl) (fun j hj => absurd hj (Nat.not_lt_zero j)) (fun _ _ => rfl)
