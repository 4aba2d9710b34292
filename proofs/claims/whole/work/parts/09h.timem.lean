/-! the reference's timetable: all numbers to the base of seven -/
def evD (P : sP) : Nat → sT → Nat → Option Nat
  | 0, T, _ => some (dnm P T)
  | k + 1, T, c => match ttD P T (c / 7 ^ k % 7) with
    | none => none
    | some T' => evD P k T' c
def eO (o : Option Nat) : Int32 := match o with
  | none => -1
  | some v => nI v
def evB (P : sP) (k : Nat) (T : sT) (x : Nat) (b : Option (Nat × Nat)) : Option (Nat × Nat) := match evD P k T x with
  | none => b
  | some v => bet b v x
theorem fdr_add {α : Type} (f : Nat → α → α) : ∀ (a m s : Nat) (b : α), fdr f (a + m) s b = fdr f m (s + a) (fdr f a s b)
  | 0, m, s, b => by rw [Nat.zero_add]; rfl
  | a + 1, m, s, b => by
    rw [show a + 1 + m = (a + m) + 1 by omega]
    show fdr f (a + m) (s + 1) (f s b) = fdr f m (s + (a + 1)) (fdr f a (s + 1) (f s b))
    rw [fdr_add f a m (s + 1) (f s b), show s + 1 + a = s + (a + 1) by omega]
theorem fdr_blocks {α : Type} (f : Nat → α → α) (B s : Nat) (b : α) : ∀ m, fdr f (m * B) s b = fdr (fun d b => fdr f B (s + d * B) b) m 0 b
  | 0 => by rw [Nat.zero_mul]; rfl
  | m + 1 => by rw [Nat.succ_mul, fdr_add, fdr_blocks f B s b m, fdr_end, Nat.zero_add]
theorem fdr_congr {α : Type} {f g : Nat → α → α} : ∀ (m s : Nat) (b : α), (∀ i, s ≤ i → i < s + m → ∀ b, f i b = g i b) → fdr f m s b = fdr g m s b
  | 0, _, _, _ => rfl
  | m + 1, s, b, h => by
    show fdr f m (s + 1) (f s b) = fdr g m (s + 1) (g s b)
    rw [h s (by omega) (by omega), fdr_congr m (s + 1) _ (fun i a c => h i (by omega) (by omega))]
theorem fdr_cut {α : Type} {f : Nat → α → α} {a m : Nat} {b : α} (h : a ≤ m) (hf : ∀ d, a ≤ d → ∀ b, f d b = b) : fdr f m 0 b = fdr f a 0 b := by
  have e : m = a + (m - a) := by omega
  rw [e, fdr_add, Nat.zero_add]
  have := fdr_skip (f := f) (m - a) 0 a (fdr f a 0 b) (fun i h1 _ b => hf i h1 b)
  exact this
theorem ttS_fdr {P : sP} (h6 : qn P ≤ 6) : ∀ (k : Nat) (T : sT) (c : Nat) (b : Option (Nat × Nat)), ttS P k T c b = fdr (evB P k T) (7 ^ k) (c * 7 ^ k) b
  | 0, T, c, b => by
    rw [Nat.pow_zero, Nat.mul_one]
    show _ = evB P 0 T c b
    rfl
  | k + 1, T, c, b => by
    have e7 : (7 : Nat) ^ (k + 1) = 7 * 7 ^ k := by rw [Nat.pow_succ]; omega
    have hpos : 0 < 7 ^ k := Nat.pow_pos (by omega)
    rw [e7, fdr_blocks]
    show fdl (fun d b => match ttD P T d with
      | none => b
      | some T' => ttS P k T' (c * 7 + d) b) (qn P + 1) b = _
    rw [fdl_fdr]
    have hx : ∀ d, (c * (7 * 7 ^ k) + d * 7 ^ k) = (c * 7 + d) * 7 ^ k := by intro d; rw [Nat.add_mul, Nat.mul_assoc]
    have blk : ∀ d, d < 7 → ∀ b, fdr (evB P (k + 1) T) (7 ^ k) (c * (7 * 7 ^ k) + d * 7 ^ k) b = (match ttD P T d with
      | none => b
      | some T' => ttS P k T' (c * 7 + d) b) := by
      intro d hd b
      rw [hx d]
      have hdig : ∀ x, (c * 7 + d) * 7 ^ k ≤ x → x < (c * 7 + d) * 7 ^ k + 7 ^ k → x / 7 ^ k % 7 = d := by
        intro x h1 h2
        have : x / 7 ^ k = c * 7 + d := by
          rw [Nat.div_eq_iff hpos]
          constructor
          · rw [Nat.mul_comm] at h1; rw [Nat.mul_comm]; omega
          · omega
        rw [this]; omega
      cases e : ttD P T d with
      | none =>
        show _ = b
        have := fdr_congr (f := evB P (k + 1) T) (g := fun _ b => b) (7 ^ k) ((c * 7 + d) * 7 ^ k) b (fun x h1 h2 b => by
          unfold evB
          have : evD P (k + 1) T x = none := by unfold evD; rw [hdig x h1 h2, e]
          rw [this])
        rw [this]
        have := fdr_skip (f := fun (_ : Nat) (b : Option (Nat × Nat)) => b) (7 ^ k) 0 ((c * 7 + d) * 7 ^ k) b (fun _ _ _ _ => rfl)
        exact this
      | some T' =>
        show _ = ttS P k T' (c * 7 + d) b
        rw [ttS_fdr h6 k T' (c * 7 + d) b]
        refine fdr_congr _ _ _ (fun x h1 h2 b => ?_)
        unfold evB
        have : evD P (k + 1) T x = evD P k T' x := by conv => lhs; unfold evD; rw [hdig x h1 h2, e]
        rw [this]
    rw [fdr_congr (f := fun d b => fdr (evB P (k + 1) T) (7 ^ k) (c * (7 * 7 ^ k) + d * 7 ^ k) b) 7 0 b (fun d _ hd b => blk d (by omega) b)]
    symm
    refine fdr_cut (by omega) (fun d h1 b => ?_)
    have : ttD P T d = none := by
      unfold ttD
      rw [if_neg (by omega), if_neg (by omega)]
    rw [this]
theorem ym_sevens {K : Int32 → ts_S → Prop} {σ : ts_S} {n : Nat} (hn : n < 1000) (hk : K (nI (7 ^ n)) σ) : wp_X10_sevens K σ (nI n) := by
  unfold wp_X10_sevens wp_X10_sevens_l4
  intro X hX
  refine ts_down (P := fun i => X σ (nI (7 ^ i)) (nI i)) n ?_ ?_
  · apply hX; unfold wp_X10_sevens_b4
    rw [if_pos (nI_le (Nat.le_refl _) (by omega))]; exact hk
  · intro i hi ih
    apply hX; unfold wp_X10_sevens_b4
    rw [if_neg (nI_ge hi (by omega)), k7, pk_mul, nI_1, ← Nat.pow_succ]; exact ih
theorem pw7 {k : Nat} (h : k ≤ 4) : 7 ^ k ≤ 2401 ∧ 0 < 7 ^ k := ⟨Nat.pow_le_pow_right (n := 7) (by omega) h, Nat.pow_pos (by omega)⟩
theorem dig7 {c k : Nat} (hc : c < 10000) (hk : k ≤ 4) : nI c / nI (7 ^ k) - nI c / nI (7 ^ k) / 7 * 7 = nI (c / 7 ^ k % 7) := by
  obtain ⟨h1, h2⟩ := pw7 hk
  have h3 : c / 7 ^ k ≤ c := Nat.div_le_self _ _
  rw [pk_div (by omega) (by omega) (by omega), k7, pk_rem (by omega) (by omega) (by omega)]
theorem ym_doneBy {K : Int32 → ts_S → Prop} {σ : ts_S} {U : sU} {c N : Nat} (w : wfU U) (h : rM σ U) (hc : c < 10000) (hN : N ≤ 4) (hk : ∀ σ', rM σ' U → K (eO (evD (vP U) N (vT U) c)) σ') : wp_X10_doneBy K σ (nI c) (nI N) := by
  unfold wp_X10_doneBy
  refine ym_asItIs w h (fun σ1 f1 h1 c1 => ?_)
  have hy : uY (vT U) ≤ 999 := w.2.2.1.2
  unfold wp_X10_doneBy_l8
  intro X hX
  have key : ∀ (k : Nat) (T : sT) (σ : ts_S), k ≤ 4 → rM σ U → cm σ (vP U) T → uY T + k < 10000 → (∀ σ', rM σ' U → K (eO (evD (vP U) k T c)) σ') → X σ (nI k + (-1)) := by
    intro k
    induction k with
    | zero =>
      intro T σ _ hM cc _ hk
      apply hX; unfold wp_X10_doneBy_b8
      rw [if_pos (by decide)]
      exact ym_done cc (hk σ hM)
    | succ k ih =>
      intro T σ hk4 hM cc hyT hk
      apply hX; unfold wp_X10_doneBy_b8
      have h6 := cc.n6
      have hp7 := pw7 (show k ≤ 4 by omega)
      rw [pk_m1, if_neg (by rw [k0]; exact nI_nlt (by omega) (by omega))]
      refine ym_sevens (by omega) ?_
      rw [dig7 hc (by omega)]
      refine ⟨by rw [k0, nI_eq (by omega) (by omega)]; omega, by decide, ?_⟩
      have hd7 : c / 7 ^ k % 7 < 7 := Nat.mod_lt _ (by omega)
      have hev : evD (vP U) (k + 1) T c = match ttD (vP U) T (c / 7 ^ k % 7) with
        | none => none
        | some T' => evD (vP U) k T' c := rfl
      rw [hev] at hk
      generalize c / 7 ^ k % 7 = d at hd7 hk ⊢
      have j68 : ∀ (T' : sT) (σ' : ts_S), uY T' = uY T → rM σ' U → cm σ' (vP U) T' → ttD (vP U) T d = some (yer (vP U) T') → wp_X10_doneBy_j68 K X (nI c) (nI N) σ' (nI k) := by
        intro T' σ' hY hM' c' hT
        unfold wp_X10_doneBy_j68
        refine ym_goesBy c' (by omega) (fun σ2 f2 c2 => ?_)
        rw [hT] at hk
        exact ih _ σ2 (by omega) (hM'.fm f2) c2 (by show uY T' + 1 + k < 10000; omega) hk
      rw [hM.cn, k1]
      by_cases dn : qn (vP U) + 1 ≤ d
      · rw [if_pos ((le_subI (by omega) (by omega) (by omega)).mpr (by omega))]
        have : ttD (vP U) T d = none := by unfold ttD; rw [if_neg (by omega), if_neg (by omega)]
        rw [this] at hk
        exact hk σ hM
      · rw [if_neg (by rw [le_subI (by omega) (by omega) (by omega)]; omega)]
        by_cases d0 : d = 0
        · have l : nI d - nI 1 < 0 := by rw [k0, sub_ltI (by omega) (by omega) (by omega)]; omega
          rw [if_pos l]
          unfold wp_X10_doneBy_j50
          rw [if_pos l]
          exact j68 T σ rfl hM cc (by unfold ttD; rw [if_pos d0])
        · rw [pk_sub (by omega)]
          have l : ¬ nI (d - 1) < 0 := by rw [k0]; exact nI_nlt (by omega) (by omega)
          rw [if_neg l]
          have hp : d - 1 < qn (vP U) := by omega
          have hs := cc.sH hp
          have h10 := cc.h10
          refine ym_canPromote cc hp ?_
          cases dd : (decide (0 < uS T (d - 1)) && std (vP U) T (d - 1))
          · simp only [itB0]
            have : ttD (vP U) T d = none := by unfold ttD; rw [if_neg d0, if_neg (by rw [dd]; simp)]
            rw [this] at hk
            exact hk σ hM
          · simp only [itB1]
            unfold wp_X10_doneBy_j50
            have h0 : 0 < uS T (d - 1) := by simp at dd; exact dd.1
            rw [if_neg l, e3p, nI_clamp (by omega), cc.st hp, k1, pk_sub (by omega)]
            refine ⟨i21 (by omega), i21 (by omega), ?_⟩
            rintro _ rfl
            obtain ⟨f2, c2⟩ := cm_setS cc hp (show uS T (d - 1) - 1 < qH (vP U) by omega)
            exact j68 _ _ (tS_Y _ _ _) (hM.fm f2) c2 (by unfold ttD; rw [if_neg d0, if_pos ⟨by omega, dd⟩])
  rw [show nI N - 1 = nI N + (-1) from Int32.sub_eq_add_neg _ _]
  exact key N (vT U) σ1 hN h1 c1 (by omega) hk
def x3T (b : Option (Nat × Nat)) : Int32 := match b with
  | none => -1
  | some q => nI q.1
def x4T (b : Option (Nat × Nat)) : Int32 := match b with
  | none => 0
  | some q => nI q.2
theorem evB_x {P : sP} {k : Nat} {T : sT} {x : Nat} {b : Option (Nat × Nat)} (h : okS b) (hW : qW P ≤ 5) : (eO (evD P k T x) ≤ x3T b ∧ evB P k T x b = b) ∨ (¬ eO (evD P k T x) ≤ x3T b ∧ x3T (evB P k T x b) = eO (evD P k T x) ∧ x4T (evB P k T x b) = nI x) := by
  have hv : ∀ v, evD P k T x = some v → v ≤ 5 := by
    induction k generalizing T with
    | zero => intro v hv; unfold evD at hv; cases hv; have := dnm_le P T; omega
    | succ k ih =>
      intro v hv
      unfold evD at hv
      cases e : ttD P T (x / 7 ^ k % 7) with
      | none => rw [e] at hv; cases hv
      | some T' => rw [e] at hv; exact ih v hv
  unfold evB
  cases e : evD P k T x with
  | none =>
    refine .inl ⟨?_, rfl⟩
    cases b with
    | none => decide
    | some q =>
      have := h q rfl
      show (-1 : Int32) ≤ nI q.1
      rw [i32_le, nI_toInt (by omega), show (-1 : Int32).toInt = -1 from rfl]; omega
  | some v =>
    have hv := hv v e
    cases b with
    | none => exact .inr ⟨nI_m1 (by omega), rfl, rfl⟩
    | some q =>
      have hq := h q rfl
      by_cases d : q.1 < v
      · have e : bet (some q) v x = some (v, x) := by show (if q.1 < v then _ else _) = _; rw [if_pos d]
        show _ ∨ (¬ nI v ≤ nI q.1 ∧ x3T (bet (some q) v x) = nI v ∧ x4T (bet (some q) v x) = nI x)
        rw [e]
        exact .inr ⟨nI_ge d (by omega), rfl, rfl⟩
      · have e : bet (some q) v x = some q := by show (if q.1 < v then _ else _) = _; rw [if_neg d]
        show (nI v ≤ nI q.1 ∧ bet (some q) v x = some q) ∨ _
        exact .inl ⟨nI_le (by omega) (by omega), e⟩
theorem evB_ok {P : sP} {k : Nat} {T : sT} {x : Nat} {b : Option (Nat × Nat)} (h : okS b) (hW : qW P ≤ 5) : okS (evB P k T x b) := by
  have hv : ∀ v, evD P k T x = some v → v ≤ 5 := by
    induction k generalizing T with
    | zero => intro v hv; unfold evD at hv; cases hv; have := dnm_le P T; omega
    | succ k ih =>
      intro v hv
      unfold evD at hv
      cases e : ttD P T (x / 7 ^ k % 7) with
      | none => rw [e] at hv; cases hv
      | some T' => rw [e] at hv; exact ih v hv
  unfold evB
  cases e : evD P k T x with
  | none => exact h
  | some v => exact bet_ok h (hv v e)
theorem win_m1' {b : Int32} (h : win b (-1) 3 = true) : b = -1 ∨ ∃ q, q ≤ 3 ∧ b = nI q ∧ ix b = q := by
  by_cases d : b = -1
  · exact .inl d
  · have h1 := of_decide_eq_true h
    have h2 := i32_le.mp h1.1
    have h3 := i32_le.mp h1.2
    rw [show (-1 : Int32).toInt = -1 from rfl] at h2
    rw [show (3 : Int32).toInt = 3 from rfl] at h3
    have h4 : b.toInt ≠ -1 := fun z => d (Int32.toInt_inj.mp (by rw [z]; rfl))
    obtain ⟨p, hp, e1, e2⟩ := in_get (a := b) (n := 4) (in_iff.mpr ⟨by omega, by omega⟩) (by omega)
    exact .inr ⟨p, by omega, e1, e2⟩
theorem pm_timetable {K : Int32 → ts_S → Prop} {σ : ts_S} {U : sU} {a b : Int32} (w : wfU U) (h : rM σ U) (hk : ∀ σ', rM σ' U → K (o_timetable U a b) σ') : wp_X10_timetable K σ a b := by
  unfold wp_X10_timetable
  refine ym_in ?_
  unfold o_timetable at hk
  cases dw : win a 1 4 <;> rw [dw] at hk
  · simp only [itB0]; exact hk σ h
  simp only [itB1]
  refine ym_in ?_
  cases db : win b (-1) 3 <;> rw [db] at hk
  · simp only [itB0]; exact hk σ h
  simp only [itB1]
  simp only [Bool.and_self, ↓reduceIte] at hk
  obtain ⟨N, h1, h2, e1, e2⟩ := win_iff (lo := 1) (hi := 4) dw (by omega) (by omega)
  rw [e2] at hk; rw [e1]
  have h6 : qn (vP U) ≤ 6 := w.1.2.2.1
  have h5 : qW (vP U) ≤ 5 := w.1.2.2.2.2.1
  obtain ⟨hp1, hp2⟩ := pw7 h2
  obtain ⟨q, hq⟩ := ttS_some (P := vP U) N (vT U) 0 none
  have hfd := ttS_fdr (P := vP U) h6 N (vT U) 0 none
  rw [Nat.zero_mul] at hfd
  rw [hq] at hk hfd
  unfold wp_X10_timetable_l28
  intro X hX
  have main : ∀ (m s : Nat) (b' : Option (Nat × Nat)) (σ : ts_S), s + m = 7 ^ N → rM σ U → okS b' → (∀ r, b' = some r → r.2 < 2401) → some q = fdr (evB (vP U) N (vT U)) m s b' → X σ (x3T b') (x4T b') (nI s) := by
    intro m
    induction m with
    | zero =>
      intro s b' σ hs hM hok hlt hfd
      apply hX; unfold wp_X10_timetable_b28
      refine ym_sevens (by omega) ?_
      rw [if_pos (nI_le (by omega) (by omega))]
      have hb : b' = some q := hfd.symm
      subst hb
      have hq2 := hlt q rfl
      have hk := hk σ hM
      simp only [Option.getD_some] at hk
      rcases win_m1' db with rfl | ⟨r, hr, e3, e4⟩
      · rw [if_neg (by decide)]
        simp only [↓reduceIte] at hk; exact hk
      · have nb : ¬ b = -1 := by
          rw [e3, ← Int32.toInt_inj, nI_toInt (by omega), show (-1 : Int32).toInt = -1 from rfl]; omega
        rw [if_neg nb, e4] at hk
        rw [e3, if_pos (by rw [k0]; exact nI_le (by omega) (by omega))]
        by_cases d : N ≤ r
        · rw [if_pos (nI_le d (by omega))]
          unfold wp_X10_timetable_j111
          rw [if_neg (by decide)]
          rw [if_neg (by omega)] at hk
          exact hk
        · rw [if_neg (nI_ge (by omega) (by omega)), k1, pk_sub (by omega), pk_sub (by omega)]
          rw [if_pos (by omega)] at hk
          refine ym_sevens (by omega) ?_
          have hp7 := pw7 (show N - 1 - r ≤ 4 by omega)
          have ex : x4T (some q) = nI q.2 := rfl
          rw [ex, dig7 (by omega) (by omega)]
          refine ⟨by rw [k0, nI_eq (by omega) (by omega)]; omega, by decide, ?_⟩
          have hd7 : q.2 / 7 ^ (N - 1 - r) % 7 < 7 := Nat.mod_lt _ (by omega)
          generalize q.2 / 7 ^ (N - 1 - r) % 7 = dg at hd7 hk ⊢
          unfold wp_X10_timetable_j111
          unfold dgt at hk
          by_cases d0 : dg = 0
          · rw [if_neg (by rw [k0, le_subI (by omega) (by omega) (by omega)]; omega)]
            rw [if_pos d0] at hk; exact hk
          · rw [if_pos (by rw [k0, le_subI (by omega) (by omega) (by omega)]; omega), pk_sub (by omega)]
            rw [if_neg d0] at hk; exact hk
    | succ m ih =>
      intro s b' σ hs hM hok hlt hfd
      apply hX; unfold wp_X10_timetable_b28
      refine ym_sevens (by omega) ?_
      rw [if_neg (nI_ge (by omega) (by omega))]
      refine ym_doneBy w hM (by omega) h2 (fun σ2 hM2 => ?_)
      have ih := ih (s + 1) (evB (vP U) N (vT U) s b') σ2 (by omega) hM2 (evB_ok hok h5) ?_ hfd
      · unfold wp_X10_timetable_j59
        rw [nI_1]
        rcases evB_x (k := N) (T := vT U) (x := s) hok h5 with ⟨l1, l2⟩ | ⟨l1, l2, l3⟩
        · rw [if_pos l1, if_pos l1]; rw [l2] at ih; exact ih
        · rw [if_neg l1, if_neg l1]; rw [l2, l3] at ih; exact ih
      · intro r hr
        unfold evB at hr
        cases e : evD (vP U) N (vT U) s with
        | none => rw [e] at hr; exact hlt r hr
        | some v =>
          rw [e] at hr
          have hr : bet b' v s = some r := hr
          unfold bet at hr
          cases b' with
          | none => simp at hr; rw [← hr]; show s < 2401; omega
          | some t =>
            simp at hr
            split at hr
            · simp at hr; rw [← hr]; show s < 2401; omega
            · simp at hr; rw [← hr]; exact hlt t rfl
  exact main (7 ^ N) 0 none σ (by omega) h (by intro q hq; cases hq) (by intro q hq; cases hq) hfd
