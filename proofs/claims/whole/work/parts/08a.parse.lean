/-! a text and how it is read, as mathematics -/
def lt1 (L : Nat → Nat) (l i : Nat) : Nat := if i < l then L i else 1000
def dig (c : Nat) : Bool := decide (48 ≤ c ∧ c ≤ 57)
def num (L : Nat → Nat) (l a : Nat) : Option (Nat × Nat) := if dig (lt1 L l a) then (if dig (lt1 L l (a + 1)) then some ((lt1 L l a - 48) * 10 + (lt1 L l (a + 1) - 48), a + 2) else some (lt1 L l a - 48, a + 1)) else none
def nms (L : Nat → Nat) (l m : Nat) : Nat → Nat → (Nat → Nat) → Option ((Nat → Nat) × Nat)
  | 0, a, v => some (v, a)
  | k + 1, a, v => match num L l a with
    | none => none
    | some q => if lt1 L l q.2 = (if k = 0 then 59 else 44) then nms L l m k (q.2 + 1) (fu v (m - (k + 1)) q.1) else none
def aH (P : sP) (h : Nat) : sP := (h, P.2)
def aP (P : sP) (k : Nat) : sP := (qH P, qn P + 1, fu (qk P) (qn P) k, qW P, qs P, qd P)
def aW (P : sP) (s d : Nat) : sP := (qH P, qn P, qk P, qW P + 1, fu (qs P) (qW P) s, fu (qd P) (qW P) d)
def aT (T : sT) (n s a nv : Nat) : sT := (uY T, fu (uS T) n s, fu (uA T) n a, fu (uN T) n nv, fu (uG T) n false, fu (uC T) n false)
def itm (L : Nat → Nat) (l a : Nat) (P : sP) (T : sT) : Option (Nat × sP × sT) :=
  if lt1 L l a = 104 then (if a = 0 then (match nms L l 1 1 (a + 1) (fun _ => 0) with
    | none => none
    | some q => if 2 ≤ q.1 0 ∧ q.1 0 ≤ 10 then some (q.2, aH P (q.1 0), T) else none) else none)
  else if lt1 L l a = 112 then (match nms L l 4 4 (a + 1) (fun _ => 0) with
    | none => none
    | some q => if qn P < 6 ∧ q.1 0 < 4 ∧ q.1 1 < qH P ∧ (12 ≤ q.1 2 ∧ q.1 2 ≤ 60) ∧ q.1 3 ≤ 30 then some (q.2, aP P (q.1 0), aT T (qn P) (q.1 1) (q.1 2) (q.1 3)) else none)
  else if lt1 L l a = 119 then (match nms L l 2 2 (a + 1) (fun _ => 0) with
    | none => none
    | some q => if qW P < 5 ∧ q.1 0 < qH P ∧ (1 ≤ q.1 1 ∧ q.1 1 ≤ 4) then some (q.2, aW P (q.1 0) (q.1 1), T) else none)
  else none
def prs (L : Nat → Nat) (l : Nat) : Nat → Nat → sP → sT → Nat ⊕ (sP × sT)
  | 0, _, P, T => .inr (P, T)
  | f + 1, a, P, T => if a < l then (match itm L l a P T with
    | none => .inl a
    | some q => prs L l f q.1 q.2.1 q.2.2) else .inr (P, T)
def P0 : sP := (6, 0, fun _ => 0, 0, fun _ => 0, fun _ => 0)
def T0 : sT := (0, fun _ => 0, fun _ => 0, fun _ => 0, fun _ => false, fun _ => false)
def prs0 (L : Nat → Nat) (l : Nat) : Nat ⊕ (sP × sT) := prs L l l 0 P0 T0
def o_fault (U : sU) : Int32 := match prs0 (vL U) (vl U) with
  | .inl a => nI a
  | .inr _ => -4
def wLay (U : sU) (P : sP) (T : sT) : sU := (P, T, U.2.2.1, (0, vA U), (0, vC U), (0, vZ U))
def o_lay (U : sU) : Int32 × sU := match prs0 (vL U) (vl U) with
  | .inl _ => (-2, U)
  | .inr q => if qn q.1 = 0 then (-2, U) else (nI (qn q.1), wLay U q.1 q.2)
theorem num_adv {L : Nat → Nat} {l a : Nat} {q : Nat × Nat} (h : num L l a = some q) : a < q.2 ∧ q.2 ≤ a + 2 ∧ q.1 ≤ 99 ∧ q.2 ≤ l := by
  unfold num at h
  by_cases d : dig (lt1 L l a) = true
  · rw [if_pos d] at h
    have d1 := of_decide_eq_true d
    have hl : a < l := by unfold lt1 at d1; by_cases z : a < l; exact z; rw [if_neg z] at d1; omega
    by_cases d2 : dig (lt1 L l (a + 1)) = true
    · rw [if_pos d2] at h
      have d3 := of_decide_eq_true d2
      have hl2 : a + 1 < l := by unfold lt1 at d3; by_cases z : a + 1 < l; exact z; rw [if_neg z] at d3; omega
      cases h; exact ⟨by show a < a + 2; omega, Nat.le_refl _, by show (lt1 L l a - 48) * 10 + (lt1 L l (a + 1) - 48) ≤ 99; omega, by show a + 2 ≤ l; omega⟩
    · rw [if_neg d2] at h; cases h; exact ⟨by show a < a + 1; omega, by show a + 1 ≤ a + 2; omega, by show lt1 L l a - 48 ≤ 99; omega, by show a + 1 ≤ l; omega⟩
  · rw [if_neg d] at h; cases h
theorem nms_adv {L : Nat → Nat} {l m : Nat} : ∀ {k a : Nat} {v : Nat → Nat} {q : (Nat → Nat) × Nat}, a ≤ l → nms L l m k a v = some q → a ≤ q.2 ∧ q.2 ≤ l
  | 0, a, v, q, ha, h => by cases h; exact ⟨Nat.le_refl _, ha⟩
  | k + 1, a, v, q, ha, h => by
    unfold nms at h
    cases e : num L l a with
    | none => rw [e] at h; cases h
    | some r =>
      rw [e] at h
      dsimp only at h
      have h1 := num_adv e
      by_cases d : lt1 L l r.2 = (if k = 0 then 59 else 44)
      · rw [if_pos d] at h
        have hl : r.2 < l := by
          unfold lt1 at d
          by_cases z : r.2 < l
          · exact z
          · rw [if_neg z] at d; split at d <;> omega
        have := nms_adv (show r.2 + 1 ≤ l by omega) h
        omega
      · rw [if_neg d] at h; cases h
theorem itm_adv {L : Nat → Nat} {l a : Nat} {P : sP} {T : sT} {q : Nat × sP × sT} (ha : a < l) (h : itm L l a P T = some q) : a < q.1 ∧ q.1 ≤ l := by
  unfold itm at h
  split at h
  · split at h
    · cases e : nms L l 1 1 (a + 1) (fun _ => 0) with
      | none => rw [e] at h; cases h
      | some r =>
        rw [e] at h; dsimp only at h
        have := nms_adv (by omega) e
        split at h
        · cases h; show a < r.2 ∧ r.2 ≤ l; omega
        · cases h
    · cases h
  · split at h
    · cases e : nms L l 4 4 (a + 1) (fun _ => 0) with
      | none => rw [e] at h; cases h
      | some r =>
        rw [e] at h; dsimp only at h
        have := nms_adv (by omega) e
        split at h
        · cases h; show a < r.2 ∧ r.2 ≤ l; omega
        · cases h
    · split at h
      · cases e : nms L l 2 2 (a + 1) (fun _ => 0) with
        | none => rw [e] at h; cases h
        | some r =>
          rw [e] at h; dsimp only at h
          have := nms_adv (by omega) e
          split at h
          · cases h; show a < r.2 ∧ r.2 ≤ l; omega
          · cases h
      · cases h
/-- what has been read so far is well formed -/
def wfD (P : sP) (T : sT) : Prop := wfP P ∧ wfT P T ∧ uY T = 0
theorem wfD0 : wfD P0 T0 := ⟨⟨by show 2 ≤ 6; omega, by show 6 ≤ 10; omega, by show 0 ≤ 6; omega, fun p hp => absurd hp (Nat.not_lt_zero p), by show 0 ≤ 5; omega, fun w hw => absurd hw (Nat.not_lt_zero w)⟩, ⟨by show 0 < 10000; omega, fun p hp => absurd hp (Nat.not_lt_zero p)⟩, rfl⟩
theorem wfD_P {P : sP} {T : sT} {k s a nv : Nat} (h : wfD P T) (h1 : qn P < 6) (h2 : k < 4) (h3 : s < qH P) (h4 : a ≤ 60) (h5 : nv ≤ 30) : wfD (aP P k) (aT T (qn P) s a nv) := by
  refine ⟨⟨h.1.1, h.1.2.1, by show qn P + 1 ≤ 6; omega, fun p hp => ?_, h.1.2.2.2.2⟩, ⟨h.2.1.1, fun p hp => ?_⟩, h.2.2⟩
  · show fu (qk P) (qn P) k p < 4
    have hp : p < qn P + 1 := hp
    unfold fu; split
    · exact h2
    · exact h.1.2.2.2.1 p (by omega)
  · show fu (uS T) (qn P) s p < qH P ∧ fu (uA T) (qn P) a p ≤ 99 ∧ fu (uN T) (qn P) nv p ≤ 30
    have hp : p < qn P + 1 := hp
    unfold fu; split
    · omega
    · exact h.2.1.2 p (by omega)
theorem wfD_W {P : sP} {T : sT} {s d : Nat} (h : wfD P T) (h1 : qW P < 5) (h2 : s < qH P) (h3 : 1 ≤ d ∧ d ≤ 4) : wfD (aW P s d) T := by
  refine ⟨⟨h.1.1, h.1.2.1, h.1.2.2.1, h.1.2.2.2.1, by show qW P + 1 ≤ 5; omega, fun w hw => ?_⟩, h.2⟩
  show fu (qs P) (qW P) s w < qH P ∧ 1 ≤ fu (qd P) (qW P) d w ∧ fu (qd P) (qW P) d w ≤ 4
  have hw : w < qW P + 1 := hw
  unfold fu; split
  · omega
  · exact h.1.2.2.2.2.2 w (by omega)
/-- only the first item may be the steps: nobody is told yet -/
def emp (a : Nat) (P : sP) : Prop := a = 0 → qn P = 0 ∧ qW P = 0
theorem wfD_H {P : sP} {T : sT} {x : Nat} (h : wfD P T) (h1 : qn P = 0) (h2 : qW P = 0) (h3 : 2 ≤ x ∧ x ≤ 10) : wfD (aH P x) T :=
  ⟨⟨h3.1, h3.2, h.1.2.2.1, h.1.2.2.2.1, h.1.2.2.2.2.1, fun w hw => by have hw : w < qW P := hw; omega⟩, ⟨h.2.1.1, fun p hp => by have hp : p < qn P := hp; omega⟩, h.2.2⟩
theorem ts_u_u {σ : ts_S} {k j : Nat} {x y : Int32} : ts_u (ts_u σ k j x) k j y = ts_u σ k j y := by
  funext a b
  rw [ts_u_app, ts_u_app, ts_u_app]
  split <;> rfl
