/-! pure rows: small numbers, marks, sets as bits, counting, loops -/
theorem ts_down {P : Nat → Prop} (n : Nat) (hn : P n) (hs : ∀ i, i < n → P (i + 1) → P i) : P 0 := by
  have h : ∀ k, k ≤ n → P (n - k) := by
    intro k
    induction k with
    | zero => intro _; simpa using hn
    | succ k ih =>
      intro hk
      have h1 := ih (by omega)
      have h2 : n - k = (n - (k + 1)) + 1 := by omega
      rw [h2] at h1
      exact hs _ (by omega) h1
  simpa using h n (Nat.le_refl n)
/-- down from n to a -/
theorem ts_down' {P : Nat → Prop} (a n : Nat) (han : a ≤ n) (hn : P n) (hs : ∀ i, a ≤ i → i < n → P (i + 1) → P i) : P a := by
  have := ts_down (P := fun i => P (a + i)) (n - a) (by rw [show a + (n - a) = n by omega]; exact hn) (fun i hi h => hs (a + i) (by omega) (by omega) h)
  simpa using this
def nB : Bool → Int32
  | true => 1
  | false => 0
theorem nB_t : nB true = 1 := rfl
theorem nB_f : nB false = 0 := rfl
theorem nB_eq0 (b : Bool) : (nB b = 0) ↔ b = false := by cases b <;> decide
theorem nB_eq1 (b : Bool) : (nB b = 1) ↔ b = true := by cases b <;> decide
theorem nB_e0 (b : Bool) : (nB b = nI 0) = (b = false) := propext (nB_eq0 b)
theorem nB_e1 (b : Bool) : (nB b = nI 1) = (b = true) := propext (nB_eq1 b)
theorem itB0 {A B : Prop} {h : Decidable (nB false = 0)} : @ite Prop (nB false = 0) h A B = A := if_pos rfl
theorem itB1 {A B : Prop} {h : Decidable (nB true = 0)} : @ite Prop (nB true = 0) h A B = B := if_neg (fun e => by cases (nB_eq0 true).mp e)
theorem zb0 : ts_zb 0 := rfl
theorem zb1 : ts_zb 1 := rfl
theorem zbB (b : Bool) : ts_zb (nB b) := by cases b <;> rfl
theorem narZ0 : vp_nar .boolean 0 = 0 := rfl
theorem narZ1 : vp_nar .boolean 1 = 1 := rfl
theorem narZB (b : Bool) : vp_nar .boolean (nB b) = nB b := by cases b <;> rfl
theorem fitB (b : Bool) : fits .boolean (.int (nB b)) = true := by cases b <;> rfl
theorem nIm1 (n : Nat) (h : n < 2 ^ 30) : (nI n - 1).toInt = (n : Int) - 1 := by
  show (nI n - nI 1).toInt = (n : Int) - 1
  rw [pk_sub_toInt h (by omega)]; rfl
theorem i32_lt {a b : Int32} : a < b ↔ a.toInt < b.toInt := Int32.lt_iff_toInt_lt
theorem i32_le {a b : Int32} : a ≤ b ↔ a.toInt ≤ b.toInt := Int32.le_iff_toInt_le
theorem in_iff {a : Int32} {n : Nat} : vp_in a n ↔ 0 ≤ a.toInt ∧ a.toInt < n := vp_in_iff
theorem in_get {a : Int32} {n : Nat} (h : vp_in a n) (hn : n < 2 ^ 31) : ∃ j : Nat, j < n ∧ a = nI j ∧ a.toNatClampNeg = j := by
  obtain ⟨j, h1, rfl⟩ := vp_in_of h hn
  exact ⟨j, h1, rfl, nI_clamp (by omega)⟩
/-- differences that may be below zero -/
theorem sub_ltI {a b c : Nat} (ha : a < 2 ^ 29) (hb : b < 2 ^ 29) (hc : c < 2 ^ 29) : (nI a - nI b < nI c) ↔ a < b + c := by
  rw [i32_lt, pk_sub_toInt (by omega) (by omega), nI_toInt (by omega)]; omega
theorem sub_leI {a b c : Nat} (ha : a < 2 ^ 29) (hb : b < 2 ^ 29) (hc : c < 2 ^ 29) : (nI a - nI b ≤ nI c) ↔ a ≤ b + c := by
  rw [i32_le, pk_sub_toInt (by omega) (by omega), nI_toInt (by omega)]; omega
theorem le_subI {a b c : Nat} (ha : a < 2 ^ 29) (hb : b < 2 ^ 29) (hc : c < 2 ^ 29) : (nI c ≤ nI a - nI b) ↔ b + c ≤ a := by
  rw [i32_le, pk_sub_toInt (by omega) (by omega), nI_toInt (by omega)]; omega
theorem lt_subI {a b c : Nat} (ha : a < 2 ^ 29) (hb : b < 2 ^ 29) (hc : c < 2 ^ 29) : (nI c < nI a - nI b) ↔ b + c < a := by
  rw [i32_lt, pk_sub_toInt (by omega) (by omega), nI_toInt (by omega)]; omega
/-- numerals -/
theorem k0 : (0 : Int32) = nI 0 := rfl
theorem k1 : (1 : Int32) = nI 1 := rfl
theorem k2 : (2 : Int32) = nI 2 := rfl
theorem k3 : (3 : Int32) = nI 3 := rfl
theorem k4 : (4 : Int32) = nI 4 := rfl
theorem k5 : (5 : Int32) = nI 5 := rfl
theorem k6 : (6 : Int32) = nI 6 := rfl
theorem k7 : (7 : Int32) = nI 7 := rfl
theorem k8 : (8 : Int32) = nI 8 := rfl
theorem k9 : (9 : Int32) = nI 9 := rfl
theorem k10 : (10 : Int32) = nI 10 := rfl
theorem k12 : (12 : Int32) = nI 12 := rfl
theorem k15 : (15 : Int32) = nI 15 := rfl
theorem k20 : (20 : Int32) = nI 20 := rfl
theorem k21 : (21 : Int32) = nI 21 := rfl
theorem k30 : (30 : Int32) = nI 30 := rfl
theorem k40 : (40 : Int32) = nI 40 := rfl
theorem k60 : (60 : Int32) = nI 60 := rfl
theorem k99 : (99 : Int32) = nI 99 := rfl
theorem k100 : (100 : Int32) = nI 100 := rfl
theorem k147 : (147 : Int32) = nI 147 := rfl
theorem k200 : (200 : Int32) = nI 200 := rfl
theorem k999 : (999 : Int32) = nI 999 := rfl
theorem cl0 : (0 : Int32).toNatClampNeg = 0 := rfl
theorem cl1 : (1 : Int32).toNatClampNeg = 1 := rfl
theorem cl2 : (2 : Int32).toNatClampNeg = 2 := rfl
theorem cl3 : (3 : Int32).toNatClampNeg = 3 := rfl
/-- sets of up to ten as bits -/
theorem bt_or : ∀ i : Nat, i < 10 → ∀ m : Nat, m < 1024 → nI m ||| (1 <<< (nI i &&& 31)) = nI (m ||| 2 ^ i) := by
  intro i hi m hm
  have h : ∀ i : Fin 10, ∀ m : Fin 1024, nI m.1 ||| (1 <<< (nI i.1 &&& 31)) = nI (m.1 ||| 2 ^ i.1) := by decide +kernel
  exact h ⟨i, hi⟩ ⟨m, hm⟩
theorem bt_has : ∀ i : Nat, i < 10 → ∀ m : Nat, m < 1024 → ((nI m >>> (nI i &&& 31)) &&& 1) = nB (m.testBit i) := by
  intro i hi m hm
  have h : ∀ i : Fin 10, ∀ m : Fin 1024, ((nI m.1 >>> (nI i.1 &&& 31)) &&& 1) = nB (m.1.testBit i.1) := by decide +kernel
  exact h ⟨i, hi⟩ ⟨m, hm⟩
/-- how many below n -/
def cn (f : Nat → Bool) : Nat → Nat
  | 0 => 0
  | n + 1 => cn f n + (if f n then 1 else 0)
theorem cn_le (f : Nat → Bool) : ∀ n, cn f n ≤ n
  | 0 => Nat.le_refl 0
  | n + 1 => by have := cn_le f n; unfold cn; split <;> omega
theorem cn_congr {f g : Nat → Bool} : ∀ n, (∀ i, i < n → f i = g i) → cn f n = cn g n
  | 0, _ => rfl
  | n + 1, h => by unfold cn; rw [cn_congr n (fun i hi => h i (by omega)), h n (by omega)]
/-- the set of those below n as a number -/
def bs (f : Nat → Bool) : Nat → Nat
  | 0 => 0
  | n + 1 => bs f n ||| (if f n then 2 ^ n else 0)
theorem bs_lt (f : Nat → Bool) : ∀ n, bs f n < 2 ^ n
  | 0 => by show 0 < 1; omega
  | n + 1 => by
    have h := bs_lt f n
    have h2 : (2 : Nat) ^ (n + 1) = 2 ^ n + 2 ^ n := by rw [Nat.pow_succ]; omega
    unfold bs
    refine Nat.or_lt_two_pow (by omega) ?_
    split
    · rw [h2]; have := Nat.two_pow_pos n; omega
    · exact Nat.two_pow_pos _
theorem bs_bit (f : Nat → Bool) : ∀ n i, (bs f n).testBit i = (decide (i < n) && f i)
  | 0, i => by simp [bs]
  | n + 1, i => by
    unfold bs
    rw [Nat.testBit_or, bs_bit f n i]
    by_cases h : i = n
    · subst h
      cases hf : f i <;> simp [hf]
    · by_cases h2 : i < n
      · have h3 : i < n + 1 := by omega
        have : (if f n then 2 ^ n else 0).testBit i = false := by
          split
          · rw [Nat.testBit_two_pow]; simp; omega
          · simp
        simp [h2, h3, this]
      · have h3 : ¬ i < n + 1 := by omega
        have : (if f n then 2 ^ n else 0).testBit i = false := by
          split
          · rw [Nat.testBit_two_pow]; simp; omega
          · simp
        simp [h2, h3, this]
theorem bs_eq {f : Nat → Bool} {n m : Nat} (h : ∀ i, m.testBit i = (decide (i < n) && f i)) : m = bs f n := by
  apply Nat.eq_of_testBit_eq
  intro i
  rw [h, bs_bit]
