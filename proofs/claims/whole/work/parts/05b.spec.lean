/-! the towers as mathematics: a plan (steps, persons, kinds, works, their steps, their needs), a standing (year, steps, ages, nerves, gone, called) -/
abbrev sP : Type := Nat × Nat × (Nat → Nat) × Nat × (Nat → Nat) × (Nat → Nat)
abbrev sT : Type := Nat × (Nat → Nat) × (Nat → Nat) × (Nat → Nat) × (Nat → Bool) × (Nat → Bool)
def qH (P : sP) : Nat := P.1
def qn (P : sP) : Nat := P.2.1
def qk (P : sP) : Nat → Nat := P.2.2.1
def qW (P : sP) : Nat := P.2.2.2.1
def qs (P : sP) : Nat → Nat := P.2.2.2.2.1
def qd (P : sP) : Nat → Nat := P.2.2.2.2.2
def uY (T : sT) : Nat := T.1
def uS (T : sT) : Nat → Nat := T.2.1
def uA (T : sT) : Nat → Nat := T.2.2.1
def uN (T : sT) : Nat → Nat := T.2.2.2.1
def uG (T : sT) : Nat → Bool := T.2.2.2.2.1
def uC (T : sT) : Nat → Bool := T.2.2.2.2.2
def wfP (P : sP) : Prop := 2 ≤ qH P ∧ qH P ≤ 10 ∧ qn P ≤ 6 ∧ (∀ p, p < qn P → qk P p < 4) ∧ qW P ≤ 5 ∧ ∀ w, w < qW P → qs P w < qH P ∧ 1 ≤ qd P w ∧ qd P w ≤ 4
def wfT (P : sP) (T : sT) : Prop := uY T < 10000 ∧ ∀ p, p < qn P → uS T p < qH P ∧ uA T p ≤ 99 ∧ uN T p ≤ 30
def fam (P : sP) (o kd a s : Nat) : Nat := if kd = 1 then qH P - 1 - s else if kd = 2 then 2 * (qH P - 1 - s) + (a - 20) / 5 else if kd = 3 then 2 * (qH P - 1 - s - o) else 2 * (qH P - 1 - s)
def oth (P : sP) (T : sT) (p s : Nat) : Nat := cn (fun q => decide (q ≠ p) && (!uG T q && decide (uS T q = s))) (qn P)
def fea (P : sP) (T : sT) (kd p s : Nat) : Nat := fam P (oth P T p s) kd (uA T p) s
def frz (P : sP) (T : sT) (p : Nat) : Bool := !uG T p && decide (uN T p < fea P T (qk P p) p (uS T p))
def std (P : sP) (T : sT) (p : Nat) : Bool := !uG T p && decide (fea P T (qk P p) p (uS T p) ≤ uN T p)
def fal (P : sP) (T : sT) (p : Nat) : Bool := !uG T p && decide (uN T p + 8 ≤ fea P T (qk P p) p (uS T p))
def don (P : sP) (T : sT) (w : Nat) : Bool := decide (qd P w ≤ cn (fun p => std P T p && decide (uS T p = qs P w)) (qn P))
def dnm (P : sP) (T : sT) : Nat := cn (don P T) (qW P)
def yer (P : sP) (T : sT) : sT := (uY T + 1, uS T, fun p => min (uA T p + 1) 99, fun p => if uG T p || fal P T p then uN T p else if frz P T p then uN T p - 1 else min (uN T p + 1) 30, fun p => uG T p || fal P T p, fun _ => false)
def yrs (P : sP) : Nat → sT → sT
  | 0, T => T
  | n + 1, T => yer P (yrs P n T)
theorem fam_le {P : sP} (h : wfP P) (o kd a s : Nat) (ha : a ≤ 99) : fam P o kd a s ≤ 40 := by
  obtain ⟨h1, h2, -⟩ := h
  unfold fam; split
  · omega
  split
  · have : (a - 20) / 5 ≤ 15 := by omega
    omega
  split <;> omega
theorem fam_3 {P : sP} {o o' kd a s : Nat} (h : kd ≠ 3) : fam P o kd a s = fam P o' kd a s := by
  unfold fam; split; rfl; split; rfl; rfl
theorem oth_le (P : sP) (T : sT) (p s : Nat) : oth P T p s ≤ qn P := cn_le _ _
theorem fea_le {P : sP} {T : sT} (h : wfP P) (hT : wfT P T) (kd p s : Nat) (hp : p < qn P) : fea P T kd p s ≤ 40 := fam_le h _ _ _ _ (hT.2 p hp).2.1
/-- the class's store: a plan at cell k, a standing at cell t -/
def rP (σ : ts_S) (k : Nat) (P : sP) : Prop := σ k 0 = nI (qH P) ∧ σ k 1 = nI (qn P) ∧ σ k 2 = nI (qW P) ∧ (∀ p, p < qn P → σ (k + 1) p = nI (qk P p)) ∧ ∀ w, w < qW P → σ (k + 2) w = nI (qs P w) ∧ σ (k + 3) w = nI (qd P w)
def rT (σ : ts_S) (t n : Nat) (T : sT) : Prop := σ t 6 = nI (uY T) ∧ ∀ p, p < n → σ (t + 1) p = nI (uS T p) ∧ σ (t + 2) p = nI (uA T p) ∧ σ (t + 3) p = nI (uN T p) ∧ σ (t + 4) p = nB (uG T p) ∧ σ (t + 5) p = nB (uC T p)
/-- marks are 0 or 1 in all towers -/
def bz (σ : ts_S) (t : Nat) : Prop := ∀ p, p < 6 → (∃ b, σ (t + 4) p = nB b) ∧ ∃ b, σ (t + 5) p = nB b
/-- plan and standing as a tower's methods find them -/
def cx (σ : ts_S) (t : Nat) (P : sP) (T : sT) : Prop := rP σ (tX_pl t) P ∧ rT σ t (qn P) T ∧ wfP P ∧ wfT P T
theorem ts_u_app (σ : ts_S) (k j : Nat) (x : Int32) (a b : Nat) : ts_u σ k j x a b = if a = k ∧ b = j then x else σ a b := by
  unfold ts_u va_up upd
  by_cases h : a = k
  · subst h; by_cases h2 : b = j <;> simp [h2]
  · simp [h]
theorem ts_u_c {σ : ts_S} {k j : Nat} {x : Int32} {a : Nat} (h : a ≠ k) : ts_u σ k j x a = σ a := by
  unfold ts_u va_up; simp [h]
theorem ts_up_c {σ : ts_S} {k : Nat} {f : Nat → Int32} {a : Nat} (h : a ≠ k) : va_up σ k f a = σ a := by
  unfold va_up; simp [h]
theorem ts_up_s {σ : ts_S} {k : Nat} {f : Nat → Int32} : va_up σ k f k = f := by
  unfold va_up; simp
theorem cpy6 {f h : Nat → Int32} {n j : Nat} : va_cpy f h 0 0 n j = if j < n then f j else h j := by
  unfold va_cpy; simp
