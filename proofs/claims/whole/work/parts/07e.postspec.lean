/-! posting as mathematics: all ways, one behind the other; ways that can be left out -/
def tF (T : sT) (g : Nat → Nat) : sT := (uY T, g, uA T, uN T, uG T, uC T)
def al (P : sP) (T : sT) (p s : Nat) : Bool := decide (s = uS T p) || (!uG T p && exb (fun w => decide (qs P w = s)) (qW P))
def vld (P : sP) (T : sT) (g : Nat → Nat) : Bool := alb (fun q => !frz P (tF T g) q) (qn P)
def betF (b : Option (Nat × (Nat → Nat))) (n : Nat) (g : Nat → Nat) : Option (Nat × (Nat → Nat)) := match b with
  | none => some (n, g)
  | some q => if q.1 < n then some (n, g) else some q
def lef (P : sP) (T : sT) (g : Nat → Nat) (b : Option (Nat × (Nat → Nat))) : Option (Nat × (Nat → Nat)) := if vld P T g then betF b (dnm P (tF T g)) g else b
def pst (P : sP) (T : sT) : Nat → Nat → (Nat → Nat) → Option (Nat × (Nat → Nat)) → Option (Nat × (Nat → Nat))
  | 0, _, f, b => lef P T f b
  | k + 1, p, f, b => fdl (fun s b => if al P T p s then pst P T k (p + 1) (fu f p s) b else b) (qH P) b
def o_posting (U : sU) (a : Int32) : Int32 := if decide (a = -1) || isP U a then (match pst (vP U) (vT U) (qn (vP U)) 0 (uS (vT U)) none with
  | none => -4
  | some q => if a = -1 then nI q.1 else if uG (vT U) (ix a) then -4 else nI (q.2 (ix a))) else -1
theorem fu_same {α : Type} {f : Nat → α} {p : Nat} {x : α} : fu f p x p = x := by simp [fu]
theorem fu_ne {α : Type} {f : Nat → α} {p q : Nat} {x : α} (h : q ≠ p) : fu f p x q = f q := by simp [fu, h]
/-- nothing comes of ways that can't be better -/
theorem pst_id {P : sP} {T : sT} : ∀ (k p : Nat) (f : Nat → Nat) (b : Option (Nat × (Nat → Nat))), p + k = qn P → (∀ g : Nat → Nat, (∀ q, q < p → g q = f q) → (∀ q, p ≤ q → q < qn P → al P T q (g q) = true) → lef P T g b = b) → pst P T k p f b = b
  | 0, p, f, b, hp, h => h f (fun _ _ => rfl) (fun q a c => by omega)
  | k + 1, p, f, b, hp, h => by
    unfold pst
    refine fdl_id (fun s => ?_) _
    cases e : al P T p s
    · rfl
    · simp only [↓reduceIte]
      refine pst_id k (p + 1) (fu f p s) b (by omega) (fun g h1 h2 => h g (fun q hq => ?_) (fun q a c => ?_))
      · rw [h1 q (by omega), fu_ne (by omega)]
      · by_cases z : q = p
        · subst z; rw [h1 q (by omega), fu_same]; exact e
        · exact h2 q (by omega) c
/-- who is put, as far as p, on each step; who waits -/
def cr (T : sT) (g : Nat → Nat) (p s : Nat) : Nat := cn (fun q => !uG T q && decide (g q = s)) p
def wt (P : sP) (T : sT) (p : Nat) : Nat := cn (fun q => decide (p ≤ q) && !uG T q) (qn P)
def adn (P : sP) (T : sT) (g : Nat → Nat) (p s : Nat) : Nat := cn (fun q => decide (p ≤ q) && (!uG T q && decide (g q = s))) (qn P)
theorem cr_le (T : sT) (g : Nat → Nat) (p s : Nat) : cr T g p s ≤ p := cn_le _ _
theorem cr_congr {T : sT} {g f : Nat → Nat} {p : Nat} (h : ∀ q, q < p → g q = f q) (s : Nat) : cr T g p s = cr T f p s := cn_congr p (fun q hq => by rw [h q hq])
theorem cn_split (f : Nat → Bool) {p : Nat} : ∀ n, p ≤ n → cn f n = cn f p + cn (fun q => decide (p ≤ q) && f q) n
  | 0, h => by have : p = 0 := by omega
               subst this; rfl
  | n + 1, h => by
    by_cases e : p = n + 1
    · subst e
      have : cn (fun q => decide (n + 1 ≤ q) && f q) (n + 1) = 0 := by
        rw [cn_congr (g := fun _ => false) (n + 1) (fun q hq => by simp; omega), cn_sm]; simp [sm_0]
      omega
    · have ih := cn_split f (p := p) n (by omega)
      show cn f n + (if f n then 1 else 0) = cn f p + (cn (fun q => decide (p ≤ q) && f q) n + (if (decide (p ≤ n) && f n) = true then 1 else 0))
      have : decide (p ≤ n) = true := decide_eq_true (by omega)
      rw [ih, this, Bool.true_and]; omega
theorem cr_split {P : sP} {T : sT} {g : Nat → Nat} {p : Nat} (hp : p ≤ qn P) (s : Nat) : cr T g (qn P) s = cr T g p s + adn P T g p s := cn_split _ _ hp
theorem cn_le_cn {f g : Nat → Bool} (n : Nat) (h : ∀ i, i < n → f i = true → g i = true) : cn f n ≤ cn g n := by
  rw [cn_sm, cn_sm]
  refine sm_le n (fun i hi => ?_)
  cases e : f i
  · simp
  · rw [h i hi e]; simp
theorem adn_le {P : sP} {T : sT} {g : Nat → Nat} {p s : Nat} : adn P T g p s ≤ wt P T p := cn_le_cn _ (fun i _ h => by simp only [Bool.and_eq_true] at h ⊢; exact ⟨h.1, h.2.1⟩)
theorem adn_sum {P : sP} {T : sT} {g : Nat → Nat} {p : Nat} : sm (adn P T g p) 10 ≤ wt P T p := by
  unfold adn wt
  rw [sm_congr (g := fun s => sm (fun q => if (decide (p ≤ q) && (!uG T q && decide (g q = s))) then 1 else 0) (qn P)) 10 (fun s _ => cn_sm _ _), sm_swap, cn_sm]
  refine sm_le _ (fun q _ => ?_)
  cases e : (decide (p ≤ q) && !uG T q)
  · rw [sm_congr (g := fun _ => 0) 10 (fun s _ => ?_), sm_0]
    · omega
    · rw [← Bool.and_assoc, e]; simp
  · refine Nat.le_trans (sm_one 10 (fun s _ => by split <;> omega) (fun s s' _ _ h1 h2 => ?_)) (by simp)
    rw [← Bool.and_assoc, e, Bool.true_and] at h1 h2
    simp at h1 h2
    omega
/-- fear falls as others come -/
theorem fam_anti {P : sP} {o o' kd a s : Nat} (h : o ≤ o') : fam P o' kd a s ≤ fam P o kd a s := by
  unfold fam; split
  · omega
  split
  · omega
  split <;> omega
theorem oth_cr {P : sP} {T : sT} {g : Nat → Nat} {q : Nat} (hq : q < qn P) (hg : uG T q = false) : oth P (tF T g) q (g q) + 1 = cr T g (qn P) (g q) := by
  have h1 : ∀ r, (if (!uG T r && decide (g r = g q)) then 1 else 0) = (if (decide (r ≠ q) && (!uG T r && decide (g r = g q))) then 1 else 0) + (if q = r then 1 else 0) := by
    intro r
    by_cases e : r = q
    · subst e; simp [hg]
    · have e2 : ¬ q = r := fun z => e z.symm
      simp [e, e2]
  unfold cr
  rw [cn_sm, sm_congr (qn P) (fun r _ => h1 r), sm_add, sm_pick 1 _ hq, ← cn_sm]
  rfl
theorem frz_of {P : sP} {T : sT} {g : Nat → Nat} {q o : Nat} (hq : q < qn P) (hg : uG T q = false) (ho : cr T g (qn P) (g q) ≤ o + 1) (hf : uN T q < fam P o (qk P q) (uA T q) (g q)) : frz P (tF T g) q = true := by
  have h1 := oth_cr (P := P) (g := g) hq hg
  have h2 : fam P o (qk P q) (uA T q) (g q) ≤ fam P (oth P (tF T g) q (g q)) (qk P q) (uA T q) (g q) := fam_anti (by omega)
  show (!uG T q && decide (uN T q < fam P (oth P (tF T g) q (g q)) (qk P q) (uA T q) (g q))) = true
  rw [hg]
  simp
  omega
theorem vld_f {P : sP} {T : sT} {g : Nat → Nat} {q : Nat} (hq : q < qn P) (h : frz P (tF T g) q = true) : vld P T g = false := alb_false hq (by simp [h])
theorem lef_f {P : sP} {T : sT} {g : Nat → Nat} {b : Option (Nat × (Nat → Nat))} (h : vld P T g = false) : lef P T g b = b := by unfold lef; rw [h]; rfl
/-- at most so many works can be done behind a beginning -/
def mir (P : sP) (T : sT) (f : Nat → Nat) (p : Nat) : Nat := (gO (prw P (cr T f p)) (qW P) (wt P T p) 5).2
theorem dnm_cr {P : sP} {T : sT} (g : Nat → Nat) : dnm P (tF T g) ≤ cn (fun w => decide (qd P w ≤ cr T g (qn P) (qs P w))) (qW P) := by
  refine cn_le_cn _ (fun w _ h => ?_)
  have h1 := of_decide_eq_true h
  refine decide_eq_true (Nat.le_trans h1 (cn_le_cn _ (fun q _ h2 => ?_)))
  simp only [Bool.and_eq_true] at h2 ⊢
  have h3 : (!uG T q && _) = true := h2.1
  rw [Bool.and_eq_true] at h3
  exact ⟨h3.1, h2.2⟩
theorem mir_le {P : sP} {T : sT} (wf : wfP P) {f g : Nat → Nat} {p : Nat} (hp : p ≤ qn P) (h : ∀ q, q < p → g q = f q) : dnm P (tF T g) ≤ mir P T f p := by
  refine Nat.le_trans (dnm_cr g) ?_
  have e : ∀ w, w < qW P → decide (qd P w ≤ cr T g (qn P) (qs P w)) = decide (qd P w ≤ cr T f p (qs P w) + adn P T g p (qs P w)) := by
    intro w _
    rw [cr_split hp, cr_congr h]
  rw [cn_congr _ e]
  exact greedy (Nat.le_trans (cost_le wf (cr T f p) (adn P T g p)) adn_sum) (fun w hw => prw_le wf hw)
theorem pst_mir {P : sP} {T : sT} (wf : wfP P) {k p : Nat} {f : Nat → Nat} {q : Nat × (Nat → Nat)} (hp : p + k = qn P) (h : mir P T f p ≤ q.1) : pst P T k p f (some q) = some q := by
  refine pst_id k p f _ hp (fun g h1 _ => ?_)
  have h2 := mir_le (T := T) wf (show p ≤ qn P by omega) h1
  unfold lef
  split
  · have : ¬ q.1 < dnm P (tF T g) := by omega
    simp [betF, this]
  · rfl
/-- somebody who is put is frozen whoever else comes -/
def sur (P : sP) (T : sT) (f : Nat → Nat) (p q : Nat) : Bool := !uG T q && decide (uN T q < fam P (cr T f p (f q) - 1 + wt P T p) (qk P q) (uA T q) (f q))
theorem cr_pos {T : sT} {f : Nat → Nat} {p q : Nat} (hq : q < p) (hg : uG T q = false) : 1 ≤ cr T f p (f q) := by
  have : cn (fun r => decide (r = q)) p ≤ cr T f p (f q) := cn_le_cn p (fun r _ h => by have := of_decide_eq_true h; subst this; simp [hg])
  have h1 : cn (fun r => decide (r = q)) p = 1 := by
    rw [cn_sm, sm_congr (g := fun r => if q = r then 1 else 0) p (fun r _ => by
      by_cases z : r = q
      · simp [z]
      · have z2 : ¬ q = r := fun e => z e.symm
        simp [z, z2]), sm_pick 1 p hq]
  omega
theorem pst_sur {P : sP} {T : sT} {k p q : Nat} {f : Nat → Nat} {b : Option (Nat × (Nat → Nat))} (hp : p + k = qn P) (hq : q < p) (h : sur P T f p q = true) : pst P T k p f b = b := by
  unfold sur at h
  rw [Bool.and_eq_true] at h
  have hg : uG T q = false := by simpa using h.1
  refine pst_id k p f b hp (fun g h1 _ => lef_f (vld_f (q := q) (by omega) (frz_of (o := cr T f p (f q) - 1 + wt P T p) (by omega) hg ?_ ?_)))
  · rw [cr_split (show p ≤ qn P by omega), cr_congr h1, h1 q hq]
    have := cr_pos (f := f) hq hg
    have := adn_le (P := P) (T := T) (g := g) (p := p) (s := f q)
    omega
  · rw [h1 q hq]; exact of_decide_eq_true h.2
/-- steps where one would not be frozen if all others came along -/
def plb (P : sP) (T : sT) (p s : Nat) : Bool := al P T p s && decide (fam P (wt P T 0 - 1) (qk P p) (uA T p) s ≤ uN T p)
theorem cr_wt {P : sP} {T : sT} (g : Nat → Nat) (s : Nat) : cr T g (qn P) s ≤ wt P T 0 := cn_le_cn _ (fun q _ h => by simp only [Bool.and_eq_true] at h ⊢; exact ⟨by simp, h.1⟩)
theorem plb_f {P : sP} {T : sT} {g : Nat → Nat} {q : Nat} (hq : q < qn P) (hg : uG T q = false) (ha : al P T q (g q) = true) (h : plb P T q (g q) = false) : vld P T g = false := by
  refine vld_f hq (frz_of (o := wt P T 0 - 1) hq hg ?_ ?_)
  · have := cr_wt (P := P) (T := T) g (g q); omega
  · unfold plb at h
    rw [ha, Bool.true_and] at h
    have := of_decide_eq_false h
    omega
theorem pst_plb {P : sP} {T : sT} {k p s : Nat} {f : Nat → Nat} {b : Option (Nat × (Nat → Nat))} (hp : p + (k + 1) = qn P) (hg : uG T p = false) (ha : al P T p s = true) (h : plb P T p s = false) : pst P T k (p + 1) (fu f p s) b = b := by
  refine pst_id k (p + 1) (fu f p s) b (by omega) (fun g h1 _ => lef_f (plb_f (q := p) (by omega) hg ?_ ?_))
  · rw [h1 p (by omega), fu_same]; exact ha
  · rw [h1 p (by omega), fu_same]; exact h
theorem wt_t {P : sP} {T : sT} {p : Nat} (hp : p < qn P) (hg : uG T p = false) : wt P T p = wt P T (p + 1) + 1 := by
  unfold wt
  have h1 : ∀ q, (if (decide (p ≤ q) && !uG T q) then 1 else 0) = (if (decide (p + 1 ≤ q) && !uG T q) then 1 else 0) + (if p = q then 1 else 0) := by
    intro q
    by_cases e : p = q
    · subst e; simp [hg]
    · have : (p ≤ q) ↔ (p + 1 ≤ q) := by omega
      simp [this, e]
  rw [cn_sm, sm_congr (qn P) (fun q _ => h1 q), sm_add, sm_pick 1 _ hp, ← cn_sm]
theorem wt_f {P : sP} {T : sT} {p : Nat} (hg : uG T p = true) : wt P T p = wt P T (p + 1) := by
  refine cn_congr _ (fun q _ => ?_)
  by_cases e : p = q
  · subst e; simp [hg]
  · have : (p ≤ q) ↔ (p + 1 ≤ q) := by omega
    simp [this]
theorem fdl_pick {α : Type} {f : Nat → α → α} {b : α} {s : Nat} (h : ∀ i b, i ≠ s → f i b = b) : ∀ n, fdl f n b = if s < n then f s b else b
  | 0 => by simp [fdl]
  | n + 1 => by
    show f n (fdl f n b) = _
    rw [fdl_pick h n]
    by_cases e : n = s
    · subst e; simp
    · rw [h n _ e]
      by_cases e2 : s < n
      · rw [if_pos e2, if_pos (by omega)]
      · rw [if_neg e2, if_neg (by omega)]
theorem pst_gone {P : sP} {T : sT} {k p : Nat} {f : Nat → Nat} {b : Option (Nat × (Nat → Nat))} (hg : uG T p = true) (hs : uS T p < qH P) : pst P T (k + 1) p f b = pst P T k (p + 1) (fu f p (uS T p)) b := by
  show fdl (fun s b => if al P T p s then pst P T k (p + 1) (fu f p s) b else b) (qH P) b = _
  have hal : ∀ s, al P T p s = decide (s = uS T p) := fun s => by simp [al, hg]
  rw [fdl_pick (s := uS T p) (fun i b hi => by rw [hal]; simp [hi]), if_pos hs]
  simp [hal]
theorem wt_n {P : sP} {T : sT} : wt P T (qn P) = 0 := by
  unfold wt
  rw [cn_congr (g := fun _ => false) _ (fun q hq => by simp; omega), cn_sm]; simp [sm_0]
