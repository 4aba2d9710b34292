/-! how many works can be done at most: sums, the greedy choice, prices -/
theorem sm_le {f g : Nat → Nat} : ∀ n, (∀ i, i < n → f i ≤ g i) → sm f n ≤ sm g n
  | 0, _ => Nat.le_refl _
  | n + 1, h => by unfold sm; exact Nat.add_le_add (sm_le n (fun i hi => h i (by omega))) (h n (by omega))
theorem sm_congr {f g : Nat → Nat} : ∀ n, (∀ i, i < n → f i = g i) → sm f n = sm g n
  | 0, _ => rfl
  | n + 1, h => by unfold sm; rw [sm_congr n (fun i hi => h i (by omega)), h n (by omega)]
theorem sm_add (f g : Nat → Nat) : ∀ n, sm (fun i => f i + g i) n = sm f n + sm g n
  | 0 => rfl
  | n + 1 => by unfold sm; rw [sm_add f g n]; omega
theorem sm_mul (c : Nat) (f : Nat → Nat) : ∀ n, sm (fun i => c * f i) n = c * sm f n
  | 0 => rfl
  | n + 1 => by unfold sm; rw [sm_mul c f n, Nat.mul_add]
theorem sm_0 : ∀ n, sm (fun _ => 0) n = 0
  | 0 => rfl
  | n + 1 => by unfold sm; rw [sm_0 n]
theorem cn_sm (f : Nat → Bool) : ∀ n, cn f n = sm (fun i => if f i then 1 else 0) n
  | 0 => rfl
  | n + 1 => by unfold cn sm; rw [cn_sm f n]
theorem sm_swap (f : Nat → Nat → Nat) (m : Nat) : ∀ n, sm (fun i => sm (fun j => f i j) m) n = sm (fun j => sm (fun i => f i j) n) m
  | 0 => by simp only [sm]; rw [sm_0]
  | n + 1 => by
    simp only [sm]
    rw [sm_swap f m n, ← sm_add]
theorem sm_one {f : Nat → Nat} : ∀ n, (∀ i, i < n → f i ≤ 1) → (∀ i j, i < n → j < n → f i ≠ 0 → f j ≠ 0 → i = j) → sm f n ≤ 1
  | 0, _, _ => by unfold sm; omega
  | n + 1, h1, h2 => by
    unfold sm
    by_cases e : f n = 0
    · rw [e]; exact sm_one n (fun i hi => h1 i (by omega)) (fun i j hi hj => h2 i j (by omega) (by omega))
    · have : sm f n = 0 := by
        have h3 : sm f n ≤ sm (fun _ => 0) n := sm_le n (fun i hi => by
          by_cases z : f i = 0
          · omega
          · have := h2 i n (by omega) (by omega) z e; omega)
        rw [sm_0] at h3; omega
      have := h1 n (by omega)
      omega
theorem sm_pick {s : Nat} (x : Nat) : ∀ n, s < n → sm (fun i => if s = i then x else 0) n = x
  | 0, h => absurd h (Nat.not_lt_zero _)
  | n + 1, h => by
    unfold sm
    by_cases e : s = n
    · subst e
      have : sm (fun i => if s = i then x else 0) s = 0 := by
        rw [sm_congr (g := fun _ => 0) s (fun i hi => by rw [if_neg (by omega)]), sm_0]
      rw [this]; simp
    · rw [sm_pick x n (by omega), if_neg e, Nat.add_zero]
/-- the cheapest first -/
def gI (pr : Nat → Nat) (c : Nat) (st : Nat × Nat) : Nat → Nat × Nat
  | 0 => st
  | w + 1 => if c ≤ (gI pr c st w).1 ∧ pr w = c then ((gI pr c st w).1 - c, (gI pr c st w).2 + 1) else gI pr c st w
def gO (pr : Nat → Nat) (W L : Nat) : Nat → Nat × Nat
  | 0 => (L, 0)
  | c + 1 => gI pr c (gO pr W L c) W
def prc1 (pr : Nat → Nat) (c w0 w : Nat) : Bool := decide (pr w < c ∨ (pr w = c ∧ w < w0))
def gInv (pr : Nat → Nat) (W L : Nat) (D : Nat → Bool) (c w0 : Nat) (st : Nat × Nat) : Prop :=
  (st.2 = cn (prc1 pr c w0) W ∧ st.1 + sm (fun w => if prc1 pr c w0 w then pr w else 0) W = L) ∨ cn D W ≤ st.2
theorem gI_inv {pr : Nat → Nat} {W L : Nat} {D : Nat → Bool} (hD : sm (fun w => if D w then pr w else 0) W ≤ L) {c : Nat} {st : Nat × Nat} (h : gInv pr W L D c 0 st) : ∀ w, w ≤ W → gInv pr W L D c w (gI pr c st w)
  | 0, _ => h
  | w + 1, hw => by
    have ih := gI_inv hD h w (by omega)
    unfold gI
    generalize gI pr c st w = s at ih ⊢
    by_cases e : pr w = c
    · by_cases e2 : c ≤ s.1
      · rw [if_pos ⟨e2, e⟩]
        rcases ih with ⟨a1, a2⟩ | a
        · left
          have k1 : ∀ v, v < W → (if prc1 pr c (w + 1) v then 1 else 0) = (if prc1 pr c w v then 1 else 0) + (if w = v then 1 else 0) := by
            intro v hv
            unfold prc1
            by_cases e3 : w = v
            · subst e3; simp [e]
            · have : (pr v < c ∨ (pr v = c ∧ v < w + 1)) ↔ (pr v < c ∨ (pr v = c ∧ v < w)) := by omega
              simp [this, e3]
          have k2 : ∀ v, v < W → (if prc1 pr c (w + 1) v then pr v else 0) = (if prc1 pr c w v then pr v else 0) + (if w = v then c else 0) := by
            intro v hv
            unfold prc1
            by_cases e3 : w = v
            · subst e3; simp [e]
            · have : (pr v < c ∨ (pr v = c ∧ v < w + 1)) ↔ (pr v < c ∨ (pr v = c ∧ v < w)) := by omega
              simp [this, e3]
          refine ⟨?_, ?_⟩
          · rw [cn_sm, sm_congr W k1, sm_add, sm_pick 1 W (by omega), ← cn_sm, ← a1]
          · rw [sm_congr W k2, sm_add, sm_pick c W (by omega)]
            show s.1 - c + _ = L
            omega
        · right; show cn D W ≤ s.2 + 1; omega
      · rw [if_neg (fun q => e2 q.1)]
        right
        rcases ih with ⟨a1, a2⟩ | a
        · have hpt : sm (fun v => (if prc1 pr c w v then pr v else 0) + c * (if D v then 1 else 0)) W ≤ sm (fun v => (if D v then pr v else 0) + c * (if prc1 pr c w v then 1 else 0)) W := by
            refine sm_le W (fun v hv => ?_)
            by_cases hp : prc1 pr c w v = true
            · have hp' := of_decide_eq_true hp
              have : pr v ≤ c := by omega
              cases hd : D v <;> simp [hp] <;> omega
            · have hp' : ¬ (pr v < c ∨ (pr v = c ∧ v < w)) := fun q => hp (decide_eq_true q)
              have : c ≤ pr v := by omega
              cases hd : D v <;> simp [hp] <;> omega
          rw [sm_add, sm_add, sm_mul, sm_mul, ← cn_sm, ← cn_sm, ← a1] at hpt
          rcases Nat.lt_or_ge s.2 (cn D W) with g | g
          · exfalso
            have h1 : c * (s.2 + 1) ≤ c * cn D W := Nat.mul_le_mul_left c g
            rw [Nat.mul_add] at h1
            omega
          · exact g
        · exact a
    · rw [if_neg (fun q => e q.2)]
      rcases ih with ⟨a1, a2⟩ | a
      · left
        have : ∀ v, prc1 pr c (w + 1) v = prc1 pr c w v := by
          intro v
          unfold prc1
          have : (pr v < c ∨ (pr v = c ∧ v < w + 1)) ↔ (pr v < c ∨ (pr v = c ∧ v < w)) := by
            constructor
            · rintro (q | q)
              · exact Or.inl q
              · by_cases z : v = w
                · subst z; exact absurd q.1 e
                · exact Or.inr ⟨q.1, by omega⟩
            · rintro (q | q)
              · exact Or.inl q
              · exact Or.inr ⟨q.1, by omega⟩
          simp [this]
        refine ⟨?_, ?_⟩
        · rw [a1]; exact cn_congr W (fun i _ => (this i).symm)
        · rw [← a2]; congr 1; exact sm_congr W (fun i _ => by rw [this i])
      · exact Or.inr a
theorem gO_inv {pr : Nat → Nat} {W L : Nat} {D : Nat → Bool} (hD : sm (fun w => if D w then pr w else 0) W ≤ L) : ∀ c, gInv pr W L D c 0 (gO pr W L c)
  | 0 => by
    left
    have : ∀ v, prc1 pr 0 0 v = false := fun v => by simp [prc1]
    refine ⟨?_, ?_⟩
    · show 0 = _
      rw [cn_congr (g := fun _ => false) W (fun i _ => this i), cn_sm]; simp [sm_0]
    · show L + _ = L
      rw [sm_congr (g := fun _ => 0) W (fun i _ => by rw [this i]; rfl), sm_0]; omega
  | c + 1 => by
    have h := gI_inv hD (gO_inv hD c) W (Nat.le_refl W)
    show gInv pr W L D (c + 1) 0 (gI pr c (gO pr W L c) W)
    have hs : ∀ v, v < W → prc1 pr (c + 1) 0 v = prc1 pr c W v := by
      intro v hv
      unfold prc1
      have : (pr v < c + 1 ∨ (pr v = c + 1 ∧ v < 0)) ↔ (pr v < c ∨ (pr v = c ∧ v < W)) := by omega
      exact decide_eq_decide.mpr this
    rcases h with ⟨a1, a2⟩ | a
    · left
      refine ⟨by rw [a1]; exact cn_congr W (fun i hi => (hs i hi).symm), ?_⟩
      rw [sm_congr (g := fun w => if prc1 pr c W w then pr w else 0) W (fun i hi => by rw [hs i hi])]; exact a2
    · exact Or.inr a
theorem greedy {pr : Nat → Nat} {W L : Nat} {D : Nat → Bool} (hD : sm (fun w => if D w then pr w else 0) W ≤ L) (hp : ∀ w, w < W → pr w ≤ 4) : cn D W ≤ (gO pr W L 5).2 := by
  rcases gO_inv hD 5 with ⟨a1, -⟩ | a
  · rw [a1, cn_congr (f := prc1 pr 5 0) (g := fun _ => true) W (fun i hi => decide_eq_true (Or.inl (by have := hp i hi; omega)))]
    rw [cn_sm, cn_sm]
    exact sm_le W (fun i _ => by simp; split <;> omega)
  · exact a
/-- the next easier work on the same step, what a work costs beyond it -/
def eas (P : sP) (v w : Nat) : Bool := decide (qd P v < qd P w) || (decide (qd P v = qd P w) && decide (v < w))
def ezr (P : sP) (w : Nat) : Nat → Nat
  | 0 => 0
  | v + 1 => if decide (qs P v = qs P w) && eas P v w then max (ezr P w v) (qd P v) else ezr P w v
def ez (P : sP) (w : Nat) : Nat := ezr P w (qW P)
theorem ezr_le {P : sP} {w : Nat} : ∀ v, ezr P w v ≤ qd P w
  | 0 => Nat.zero_le _
  | v + 1 => by
    have := @ezr_le P w v
    unfold ezr; split
    · next h =>
      simp only [eas, Bool.and_eq_true, Bool.or_eq_true, decide_eq_true_eq] at h
      omega
    · exact this
theorem ezr_ge {P : sP} {w u : Nat} : ∀ v, u < v → qs P u = qs P w → eas P u w = true → qd P u ≤ ezr P w v
  | 0, h, _, _ => absurd h (Nat.not_lt_zero _)
  | v + 1, h, h1, h2 => by
    unfold ezr
    by_cases e : u = v
    · subst e; rw [if_pos (by simp [h1, h2])]; omega
    · have := ezr_ge v (by omega) h1 h2
      split <;> omega
def prw (P : sP) (c : Nat → Nat) (w : Nat) : Nat := (qd P w - c (qs P w)) - (ez P w - c (qs P w))
theorem prw_le {P : sP} (h : wfP P) {c : Nat → Nat} {w : Nat} (hw : w < qW P) : prw P c w ≤ 4 := by
  have := (h.2.2.2.2.2 w hw).2.2
  unfold prw; omega
theorem prw_cn {P : sP} (h : wfP P) {c : Nat → Nat} {w : Nat} (hw : w < qW P) : prw P c w = sm (fun u => if c (qs P w) ≤ u ∧ ez P w ≤ u ∧ u < qd P w then 1 else 0) 4 := by
  have h4 := (h.2.2.2.2.2 w hw).2.2
  have h1 : ez P w ≤ qd P w := ezr_le _
  unfold prw
  generalize c (qs P w) = x
  generalize ez P w = y at h1 ⊢
  generalize qd P w = z at h1 h4 ⊢
  simp only [sm]
  split <;> split <;> split <;> split <;> omega
/-- works that are done with so many more on each step cost no more than these -/
theorem cost_le {P : sP} (h : wfP P) (c a : Nat → Nat) : sm (fun w => if decide (qd P w ≤ c (qs P w) + a (qs P w)) then prw P c w else 0) (qW P) ≤ sm a 10 := by
  have e1 : sm (fun w => if decide (qd P w ≤ c (qs P w) + a (qs P w)) then prw P c w else 0) (qW P) = sm (fun w => sm (fun s => sm (fun u => if qs P w = s ∧ qd P w ≤ c s + a s ∧ c s ≤ u ∧ ez P w ≤ u ∧ u < qd P w then 1 else 0) 4) 10) (qW P) := by
    refine sm_congr _ (fun w hw => ?_)
    have hs : qs P w < 10 := by have := (h.2.2.2.2.2 w hw).1; have := h.2.1; omega
    have e2 : ∀ s, s < 10 → sm (fun u => if qs P w = s ∧ qd P w ≤ c s + a s ∧ c s ≤ u ∧ ez P w ≤ u ∧ u < qd P w then 1 else 0) 4 = if qs P w = s then (if decide (qd P w ≤ c (qs P w) + a (qs P w)) then prw P c w else 0) else 0 := by
      intro s _
      by_cases e : qs P w = s
      · subst e
        rw [if_pos rfl]
        by_cases e3 : qd P w ≤ c (qs P w) + a (qs P w)
        · rw [if_pos (decide_eq_true e3), prw_cn h hw]
          exact sm_congr 4 (fun u _ => by simp [e3])
        · rw [if_neg (by simpa using e3), sm_congr (g := fun _ => 0) 4 (fun u _ => by simp [e3]), sm_0]
      · rw [if_neg e, sm_congr (g := fun _ => 0) 4 (fun u _ => by simp [e]), sm_0]
    rw [sm_congr 10 e2, sm_pick _ 10 hs]
  rw [e1, sm_swap]
  refine sm_le 10 (fun s _ => ?_)
  rw [sm_swap]
  have e4 : ∀ u, u < 4 → sm (fun w => if qs P w = s ∧ qd P w ≤ c s + a s ∧ c s ≤ u ∧ ez P w ≤ u ∧ u < qd P w then 1 else 0) (qW P) ≤ if c s ≤ u ∧ u < c s + a s then 1 else 0 := by
    intro u _
    by_cases e : c s ≤ u ∧ u < c s + a s
    · rw [if_pos e]
      refine sm_one _ (fun w _ => by split <;> omega) (fun w v hw hv g1 g2 => ?_)
      have p1 : qs P w = s ∧ qd P w ≤ c s + a s ∧ c s ≤ u ∧ ez P w ≤ u ∧ u < qd P w := by
        by_cases z : qs P w = s ∧ qd P w ≤ c s + a s ∧ c s ≤ u ∧ ez P w ≤ u ∧ u < qd P w
        · exact z
        · simp [z] at g1
      have p2 : qs P v = s ∧ qd P v ≤ c s + a s ∧ c s ≤ u ∧ ez P v ≤ u ∧ u < qd P v := by
        by_cases z : qs P v = s ∧ qd P v ≤ c s + a s ∧ c s ≤ u ∧ ez P v ≤ u ∧ u < qd P v
        · exact z
        · simp [z] at g2
      rcases Nat.lt_trichotomy w v with q | q | q
      · exfalso
        by_cases o : eas P w v = true
        · have := ezr_ge (P := P) (w := v) (u := w) (qW P) hw (by rw [p1.1, p2.1]) o
          unfold ez at p2; omega
        · have o2 : eas P v w = true := by simp only [eas, Bool.or_eq_true, Bool.and_eq_true, decide_eq_true_eq] at o ⊢; omega
          have := ezr_ge (P := P) (w := w) (u := v) (qW P) hv (by rw [p1.1, p2.1]) o2
          unfold ez at p1; omega
      · exact q
      · exfalso
        by_cases o : eas P w v = true
        · have := ezr_ge (P := P) (w := v) (u := w) (qW P) hw (by rw [p1.1, p2.1]) o
          unfold ez at p2; omega
        · have o2 : eas P v w = true := by simp only [eas, Bool.or_eq_true, Bool.and_eq_true, decide_eq_true_eq] at o ⊢; omega
          have := ezr_ge (P := P) (w := w) (u := v) (qW P) hv (by rw [p1.1, p2.1]) o2
          unfold ez at p1; omega
    · rw [if_neg e, sm_congr (g := fun _ => 0) (qW P) (fun w _ => by rw [if_neg]; intro z; exact e ⟨z.2.2.1, by omega⟩), sm_0]; omega
  refine Nat.le_trans (sm_le 4 e4) ?_
  simp only [sm]
  split <;> split <;> split <;> split <;> omega
