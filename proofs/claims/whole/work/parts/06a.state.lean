/-! the whole state as mathematics: plan, standing, text, what can be undone, what is kept, what was seen -/
abbrev sU : Type := sP × sT × (Nat × (Nat → Nat)) × (Nat × (Nat → sT)) × (Nat × (Nat → sT)) × (Nat × (Nat → Nat × Nat × Bool))
def vP (U : sU) : sP := U.1
def vT (U : sU) : sT := U.2.1
def vl (U : sU) : Nat := U.2.2.1.1
def vL (U : sU) : Nat → Nat := U.2.2.1.2
def vm (U : sU) : Nat := U.2.2.2.1.1
def vA (U : sU) : Nat → sT := U.2.2.2.1.2
def vc (U : sU) : Nat := U.2.2.2.2.1.1
def vC (U : sU) : Nat → sT := U.2.2.2.2.1.2
def vz (U : sU) : Nat := U.2.2.2.2.2.1
def vZ (U : sU) : Nat → Nat × Nat × Bool := U.2.2.2.2.2.2
/-- a standing that may be at rest -/
def wfR (P : sP) (T : sT) : Prop := wfT P T ∧ uY T ≤ 999
def wfU (U : sU) : Prop := wfP (vP U) ∧ 1 ≤ qn (vP U) ∧ wfR (vP U) (vT U) ∧ (vl U ≤ 200 ∧ ∀ i, i < vl U → 32 ≤ vL U i ∧ vL U i ≤ 126) ∧ (vm U ≤ 8 ∧ ∀ k, k < vm U → wfR (vP U) (vA U k)) ∧ (vc U ≤ 2 ∧ ∀ k, k < vc U → wfR (vP U) (vC U k)) ∧ (vz U ≤ 6 ∧ ∀ i, i < vz U → (vZ U i).1 < qn (vP U) ∧ (vZ U i).2.1 < qH (vP U))
def bzA (σ : ts_S) : Prop := ∀ i, i < 20 → bz σ (31 + 6 * i)
def rTx (σ : ts_S) (l : Nat) (L : Nat → Nat) : Prop := σ 1 1 = nI l ∧ ∀ i, i < l → σ 2 i = nI (L i)
def rAc (σ : ts_S) (n m : Nat) (A : Nat → sT) : Prop := σ 4 2 = nI m ∧ ∃ o, o < 8 ∧ σ 4 1 = nI o ∧ ∀ k, k < m → rT σ (73 + 6 * ((o + k) % 8)) n (A k)
def rKe (σ : ts_S) (n m : Nat) (C : Nat → sT) : Prop := σ 0 6 = nI m ∧ ∀ k, k < m → rT σ (61 + 6 * k) n (C k)
def rSe (σ : ts_S) (m : Nat) (Z : Nat → Nat × Nat × Bool) : Prop := σ 7 3 = nI m ∧ ∀ i, i < m → σ 8 i = nI (Z i).1 ∧ σ 9 i = nI (Z i).2.1 ∧ σ 10 i = nB (Z i).2.2
/-- the class's store holds the state -/
def rX (σ : ts_S) (U : sU) : Prop := wfU U ∧ rP σ 23 (vP U) ∧ rT σ 31 (qn (vP U)) (vT U) ∧ bzA σ ∧ rTx σ (vl U) (vL U) ∧ rAc σ (qn (vP U)) (vm U) (vA U) ∧ rKe σ (qn (vP U)) (vc U) (vC U) ∧ rSe σ (vz U) (vZ U)
section RX
variable {σ : ts_S} {U : sU}
theorem rX.wf (h : rX σ U) : wfU U := h.1
theorem rX.xc (h : rX σ U) : cx σ 31 (vP U) (vT U) := ⟨h.2.1, h.2.2.1, h.1.1, h.1.2.2.1.1⟩
theorem rX.bb (h : rX σ U) : bzA σ := h.2.2.2.1
theorem rX.tx (h : rX σ U) : rTx σ (vl U) (vL U) := h.2.2.2.2.1
theorem rX.ac (h : rX σ U) : rAc σ (qn (vP U)) (vm U) (vA U) := h.2.2.2.2.2.1
theorem rX.ke (h : rX σ U) : rKe σ (qn (vP U)) (vc U) (vC U) := h.2.2.2.2.2.2.1
theorem rX.se (h : rX σ U) : rSe σ (vz U) (vZ U) := h.2.2.2.2.2.2.2
end RX
theorem rT.same {σ σ' : ts_S} {t n : Nat} {T : sT} (h : rT σ t n T) (e : ∀ k, t ≤ k → k ≤ t + 5 → σ' k = σ k) : rT σ' t n T := by
  refine ⟨by rw [e t (by omega) (by omega)]; exact h.1, fun p hp => ?_⟩
  rw [e (t + 1) (by omega) (by omega), e (t + 2) (by omega) (by omega), e (t + 3) (by omega) (by omega), e (t + 4) (by omega) (by omega), e (t + 5) (by omega) (by omega)]
  exact h.2 p hp
theorem bz.same {σ σ' : ts_S} {t : Nat} (h : bz σ t) (e : ∀ k, t ≤ k → k ≤ t + 5 → σ' k = σ k) : bz σ' t := by
  intro p hp
  rw [e (t + 4) (by omega) (by omega), e (t + 5) (by omega) (by omega)]
  exact h p hp
theorem rP.same {σ σ' : ts_S} {k : Nat} {P : sP} (h : rP σ k P) (e : ∀ j, k ≤ j → j ≤ k + 3 → σ' j = σ j) : rP σ' k P := by
  obtain ⟨h1, h2, h3, h4, h5⟩ := h
  have e0 := e k (by omega) (by omega)
  exact ⟨by rw [e0]; exact h1, by rw [e0]; exact h2, by rw [e0]; exact h3, fun p hp => by rw [e (k + 1) (by omega) (by omega)]; exact h4 p hp, fun w hw => by rw [e (k + 2) (by omega) (by omega), e (k + 3) (by omega) (by omega)]; exact h5 w hw⟩
theorem bzA.fr {σ σ' : ts_S} {t : Nat} (ht : tX_T t) (h : bzA σ) (hf : fr σ σ' t) (hb : bz σ' t) : bzA σ' := by
  intro i hi
  by_cases e : t = 31 + 6 * i
  · rw [← e]; exact hb
  · have := ht.apart (t1 := 31 + 6 * i) ⟨i, hi, rfl⟩ e
    exact (h i hi).same (fun k h1 h2 => hf k (by omega))
theorem bzA.at {σ : ts_S} {t : Nat} (h : bzA σ) (ht : tX_T t) : bz σ t := by
  obtain ⟨i, hi, rfl⟩ := ht
  exact h i hi
/-- cells that hold the state -/
def mc (k : Nat) : Prop := k = 0 ∨ k = 2 ∨ k = 4 ∨ (7 ≤ k ∧ k ≤ 10) ∨ (23 ≤ k ∧ k ≤ 26) ∨ (31 ≤ k ∧ k ≤ 36) ∨ (61 ≤ k ∧ k ≤ 120)
theorem rAc.same {σ σ' : ts_S} {n m : Nat} {A : Nat → sT} (h : rAc σ n m A) (e4 : σ' 4 = σ 4) (e : ∀ k, 73 ≤ k → k ≤ 120 → σ' k = σ k) : rAc σ' n m A := by
  obtain ⟨h1, o, ho, h2, h3⟩ := h
  refine ⟨by rw [e4]; exact h1, o, ho, by rw [e4]; exact h2, fun k hk => (h3 k hk).same (fun j a b => e j (by omega) (by have : (o + k) % 8 < 8 := Nat.mod_lt _ (by omega); omega))⟩
theorem rKe.same {σ σ' : ts_S} {n m : Nat} {C : Nat → sT} (hm : m ≤ 2) (h : rKe σ n m C) (e0 : σ' 0 6 = σ 0 6) (e : ∀ k, 61 ≤ k → k ≤ 72 → σ' k = σ k) : rKe σ' n m C :=
  ⟨by rw [e0]; exact h.1, fun k hk => (h.2 k hk).same (fun j a b => e j (by omega) (by omega))⟩
theorem rSe.same {σ σ' : ts_S} {m : Nat} {Z : Nat → Nat × Nat × Bool} (h : rSe σ m Z) (e : ∀ k, 7 ≤ k → k ≤ 10 → σ' k = σ k) : rSe σ' m Z :=
  ⟨by rw [e 7 (by omega) (by omega)]; exact h.1, fun i hi => by rw [e 8 (by omega) (by omega), e 9 (by omega) (by omega), e 10 (by omega) (by omega)]; exact h.2 i hi⟩
theorem rX.keep {σ σ' : ts_S} {U : sU} (h : rX σ U) (e : ∀ k, mc k → σ' k = σ k) (e1 : σ' 1 1 = σ 1 1) (hb : bzA σ') : rX σ' U := by
  refine ⟨h.1, h.2.1.same (fun j a b => e j (by unfold mc; omega)), h.2.2.1.same (fun j a b => e j (by unfold mc; omega)), hb, ?_, h.ac.same (e 4 (by unfold mc; omega)) (fun k a b => e k (by unfold mc; omega)), h.ke.same h.1.2.2.2.2.2.1.1 (by rw [e 0 (by unfold mc; omega)]) (fun k a b => e k (by unfold mc; omega)), h.se.same (fun k a b => e k (by unfold mc; omega))⟩
  exact ⟨by rw [e1]; exact h.tx.1, fun i hi => by rw [e 2 (by unfold mc; omega)]; exact h.tx.2 i hi⟩
/-- only a tower that is no part of the state has changed -/
theorem rX.keepT {σ σ' : ts_S} {U : sU} {t : Nat} (h : rX σ U) (ht : tX_T t) (hs : (37 ≤ t ∧ t ≤ 55) ∨ 121 ≤ t) (hf : fr σ σ' t) (hb : bz σ' t) : rX σ' U :=
  h.keep (fun k hk => hf k (by unfold mc at hk; omega)) (by rw [hf 1 (by omega)]) (h.bb.fr ht hf hb)
def wT (U : sU) (T : sT) : sU := (U.1, T, U.2.2)
def wAc (U : sU) (a : Nat × (Nat → sT)) : sU := (U.1, U.2.1, U.2.2.1, a, U.2.2.2.2)
def wKe (U : sU) (a : Nat × (Nat → sT)) : sU := (U.1, U.2.1, U.2.2.1, U.2.2.2.1, a, U.2.2.2.2.2)
def wSe (U : sU) (a : Nat × (Nat → Nat × Nat × Bool)) : sU := (U.1, U.2.1, U.2.2.1, U.2.2.2.1, U.2.2.2.2.1, a)
def wTx (U : sU) (a : Nat × (Nat → Nat)) : sU := (U.1, U.2.1, a, U.2.2.2)
theorem rX.setT {σ σ' : ts_S} {U : sU} {T : sT} (h : rX σ U) (hf : fr σ σ' 31) (hT : rT σ' 31 (qn (vP U)) T) (hw : wfR (vP U) T) (hb : bz σ' 31) : rX σ' (wT U T) := by
  have e : ∀ k, k < 31 ∨ 36 < k → σ' k = σ k := fun k hk => hf k (by omega)
  refine ⟨⟨h.1.1, h.1.2.1, hw, h.1.2.2.2⟩, h.2.1.same (fun j a b => e j (by omega)), hT, h.bb.fr ⟨0, by omega, rfl⟩ hf hb, ⟨by rw [e 1 (by omega)]; exact h.tx.1, fun i hi => by rw [e 2 (by omega)]; exact h.tx.2 i hi⟩, h.ac.same (e 4 (by omega)) (fun k a b => e k (by omega)), h.ke.same h.1.2.2.2.2.2.1.1 (by rw [e 0 (by omega)]) (fun k a b => e k (by omega)), h.se.same (fun k a b => e k (by omega))⟩
/-- one more that can be undone; of more than eight the oldest goes -/
def psh (m : Nat) (A : Nat → sT) (T : sT) : Nat × (Nat → sT) := if m < 8 then (m + 1, fu A m T) else (8, fun k => if k < 7 then A (k + 1) else T)
theorem mod8 {a : Nat} (h : a < 100) : nI a - nI a / 8 * 8 = nI (a % 8) := by rw [k8]; exact pk_rem (by omega) (by omega) (by omega)
theorem row8 {o k : Nat} : tX_T (73 + 6 * ((o + k) % 8)) := ⟨7 + (o + k) % 8, by have : (o + k) % 8 < 8 := Nat.mod_lt _ (by omega); omega, by omega⟩
theorem sx_add {K : ts_S → Prop} {σ : ts_S} {U : sU} (h : rX σ U) (hk : ∀ σ', rX σ' (wAc U (psh (vm U) (vA U) (vT U))) → K σ') : wp_X1_add K σ 31 := by
  obtain ⟨h1, o, ho, h2, h3⟩ := h.ac
  have hm : vm U ≤ 8 := h.1.2.2.2.2.1.1
  have h6 := h.xc.n6
  unfold wp_X1_add
  refine ⟨by decide, ?_⟩
  rw [h1, h2, nI_add, mod8 (by omega), nI_clamp (by omega)]
  have hr : (o + vm U) % 8 < 8 := Nat.mod_lt _ (by omega)
  refine ⟨vp_in_nI hr (by omega), ?_⟩
  have T31 : tX_T 31 := ⟨0, by omega, rfl⟩
  refine sx_standAs row8 T31 (by omega) h6 h.xc.2.1 (h.bb.at T31) (fun σ1 hf hT hb => ?_)
  have e4 : σ1 4 = σ 4 := hf 4 (by omega)
  have ee : ∀ k, (k < 73 ∨ 120 < k) → σ1 k = σ k := fun k hk => hf k (by omega)
  have hbA : bzA σ1 := h.bb.fr row8 hf hb
  have base : ∀ (σ' : ts_S) (m' : Nat) (A' : Nat → sT), (∀ k, k ≠ 4 → σ' k = σ1 k) → m' ≤ 8 → (∀ k, k < m' → wfR (vP U) (A' k)) → rAc σ' (qn (vP U)) m' A' → rX σ' (wAc U (m', A')) := by
    intro σ' m' A' e hm' hw' ha
    have e' : ∀ k, (k < 73 ∨ 120 < k) → k ≠ 4 → σ' k = σ k := fun k hk h4 => (e k h4).trans (ee k hk)
    refine ⟨⟨h.1.1, h.1.2.1, h.1.2.2.1, h.1.2.2.2.1, ⟨hm', hw'⟩, h.1.2.2.2.2.2⟩, h.2.1.same (fun j a b => e' j (by omega) (by omega)), h.2.2.1.same (fun j a b => e' j (by omega) (by omega)), fun i hi => (hbA i hi).same (fun k a b => e k (by omega)), ⟨by rw [e' 1 (by omega) (by omega)]; exact h.tx.1, fun i hi => by rw [e' 2 (by omega) (by omega)]; exact h.tx.2 i hi⟩, ha, h.ke.same h.1.2.2.2.2.2.1.1 (by rw [e' 0 (by omega) (by omega)]) (fun k a b => e' k (by omega) (by omega)), h.se.same (fun k a b => e' k (by omega) (by omega))⟩
  have rows : ∀ k, k < vm U → (o + k) % 8 ≠ (o + vm U) % 8 → rT σ1 (73 + 6 * ((o + k) % 8)) (qn (vP U)) (vA U k) := by
    intro k hk hne
    refine (h3 k hk).same (fun j a b => hf j ?_)
    have : (o + k) % 8 < 8 := Nat.mod_lt _ (by omega)
    omega
  rw [e4, h1, h2]
  by_cases d : vm U < 8
  · rw [if_neg (by rw [k8]; exact nI_ge d (by omega))]
    rintro _ rfl
    rw [nI_1]
    refine hk _ ?_
    unfold psh; rw [if_pos d]
    refine base _ _ _ (fun k hk => ts_u_c hk) (by omega) ?_ ?_
    · intro k hk
      unfold fu; split
      · exact h.1.2.2.1
      · exact h.1.2.2.2.2.1.2 k (by omega)
    · refine ⟨by simp [ts_u_app], o, ho, by rw [ts_u_app]; simp [e4, h2], fun k hk => ?_⟩
      have hs : ∀ j, 73 + 6 * ((o + k) % 8) ≤ j → j ≤ 73 + 6 * ((o + k) % 8) + 5 → ts_u σ1 4 2 (nI (vm U + 1)) j = σ1 j := fun j a b => ts_u_c (by omega)
      refine rT.same ?_ hs
      unfold fu
      by_cases e : k = vm U
      · rw [if_pos e, e]; exact hT
      · rw [if_neg e]; exact rows k (by omega) (by omega)
  · rw [if_pos (by rw [k8]; exact nI_le (by omega) (by omega))]
    refine ⟨by decide, ?_⟩
    rintro _ rfl
    rw [nI_1, mod8 (by omega)]
    refine hk _ ?_
    have e8 : vm U = 8 := by omega
    unfold psh; rw [if_neg d]
    refine base _ _ _ (fun k hk => ts_u_c hk) (by omega) ?_ ?_
    · intro k hk
      show wfR (vP U) (if k < 7 then vA U (k + 1) else vT U)
      split
      · exact h.1.2.2.2.2.1.2 (k + 1) (by omega)
      · exact h.1.2.2.1
    · refine ⟨by rw [ts_u_app]; simp [e4, h1, e8], (o + 1) % 8, Nat.mod_lt _ (by omega), by simp [ts_u_app], fun k hk => ?_⟩
      have hlt : ((o + 1) % 8 + k) % 8 < 8 := Nat.mod_lt _ (by omega)
      have hs : ∀ j, 73 + 6 * (((o + 1) % 8 + k) % 8) ≤ j → j ≤ 73 + 6 * (((o + 1) % 8 + k) % 8) + 5 → ts_u σ1 4 1 (nI ((o + 1) % 8)) j = σ1 j := fun j a b => ts_u_c (by omega)
      refine rT.same ?_ hs
      have e1 : ((o + 1) % 8 + k) % 8 = (o + (k + 1)) % 8 := by omega
      rw [e1]
      show rT σ1 _ _ (if k < 7 then vA U (k + 1) else vT U)
      by_cases e : k < 7
      · rw [if_pos e]; exact rows (k + 1) (by omega) (by omega)
      · rw [if_neg e, show (o + (k + 1)) % 8 = (o + vm U) % 8 by omega]; exact hT
