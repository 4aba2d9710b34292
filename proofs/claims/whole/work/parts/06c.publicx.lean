/-! the class's calls, first group -/
theorem T31 : tX_T 31 := ⟨0, by omega, rfl⟩
theorem T43 : tX_T 43 := ⟨2, by omega, rfl⟩
theorem T37 : tX_T 37 := ⟨1, by omega, rfl⟩
theorem pl31 : tX_pl 31 = 23 := rfl
theorem pl43 : tX_pl 43 = 23 := rfl
theorem sx_isPerson {K : Int32 → ts_S → Prop} {σ : ts_S} {U : sU} {a : Int32} (h : rX σ U) (hk : K (nB (isP U a)) σ) : wp_X9_isPerson K σ a := by
  unfold wp_X9_isPerson
  rw [show σ 23 1 = nI (qn (vP U)) from h.xc.n]
  exact sx_within ⟨zbB _, hk⟩
theorem sx_isStep {K : Int32 → ts_S → Prop} {σ : ts_S} {U : sU} {a : Int32} (h : rX σ U) (hk : K (nB (isS U a)) σ) : wp_X9_isStep K σ a := by
  unfold wp_X9_isStep
  rw [show σ 23 0 = nI (qH (vP U)) from h.xc.h]
  exact sx_within ⟨zbB _, hk⟩
theorem isP_get {U : sU} {a : Int32} (w : wfU U) (h : isP U a = true) : ∃ p, p < qn (vP U) ∧ a = nI p ∧ ix a = p := win_get (by have := w.1.2.2.1; omega) h
theorem isS_get {U : sU} {a : Int32} (w : wfU U) (h : isS U a = true) : ∃ p, p < qH (vP U) ∧ a = nI p ∧ ix a = p := win_get (by have := w.1.2.1; omega) h
theorem px_wipe {K : Int32 → ts_S → Prop} {σ : ts_S} {U : sU} (h : rX σ U) (hk : ∀ σ', rX σ' (o_wipe U).2 → K (o_wipe U).1 σ') : wp_X9_wipe K σ := by
  unfold wp_X9_wipe wp_X6_clear
  rintro _ rfl
  rw [h.tx.1]
  refine hk _ ⟨⟨h.1.1, h.1.2.1, h.1.2.2.1, ⟨by show 0 ≤ 200; omega, fun i hi => absurd hi (Nat.not_lt_zero i)⟩, h.1.2.2.2.2⟩, h.2.1.same (fun j a b => ts_u_c (by omega)), h.2.2.1.same (fun j a b => ts_u_c (by omega)), fun i hi => (h.bb i hi).same (fun k a b => ts_u_c (by omega)), ⟨by simp [ts_u_app]; rfl, fun i hi => absurd hi (Nat.not_lt_zero i)⟩, h.ac.same (ts_u_c (by omega)) (fun k a b => ts_u_c (by omega)), h.ke.same h.1.2.2.2.2.2.1.1 (by rw [ts_u_c (by omega)]) (fun k a b => ts_u_c (by omega)), h.se.same (fun k a b => ts_u_c (by omega))⟩
theorem char_nI {p : Nat} (h : p < 65536) : ((nI p).toUInt32 % 65536).toInt32 = nI p := by
  rw [pk_char, pk_tn (by omega), Nat.mod_eq_of_lt h]
theorem narC {p : Nat} (h : p < 65536) : vp_nar .char (nI p) = nI p := by
  have := pk_vc (nI p)
  rw [char_nI h] at this
  exact this
theorem sx_addC {K : Int32 → ts_S → Prop} {σ : ts_S} {U : sU} {p : Nat} (h : rX σ U) (h1 : 32 ≤ p) (h2 : p ≤ 126) (hk : ∀ σ', (if vl U < 200 then rX σ' (wTx U (vl U + 1, fu (vL U) (vl U) p)) else σ' = σ) → K (nB (decide (vl U < 200))) σ') : wp_X6_add K σ (nI p) := by
  have hl : vl U ≤ 200 := h.1.2.2.2.1.1
  unfold wp_X6_add
  rw [h.tx.1]
  by_cases d : vl U < 200
  · rw [if_pos (by rw [k200]; exact nI_lt d (by omega))]
    refine ⟨vp_in_nI d (by omega), ?_⟩
    rintro _ rfl _ rfl
    refine ⟨zb1, ?_⟩
    simp only [d, ↓reduceIte, decide_true] at hk
    refine hk _ ?_
    rw [nI_clamp (by omega), narC (by omega), ts_u_c (a := 1) (by omega), h.tx.1, nI_1]
    refine ⟨⟨h.1.1, h.1.2.1, h.1.2.2.1, ⟨by show vl U + 1 ≤ 200; omega, fun i hi => ?_⟩, h.1.2.2.2.2⟩, h.2.1.same (fun j a b => by rw [ts_u_c (by omega), ts_u_c (by omega)]), h.2.2.1.same (fun j a b => by rw [ts_u_c (by omega), ts_u_c (by omega)]), fun i hi => (h.bb i hi).same (fun k a b => by rw [ts_u_c (by omega), ts_u_c (by omega)]), ⟨by simp [ts_u_app]; rfl, fun i hi => ?_⟩, h.ac.same (by rw [ts_u_c (by omega), ts_u_c (by omega)]) (fun k a b => by rw [ts_u_c (by omega), ts_u_c (by omega)]), h.ke.same h.1.2.2.2.2.2.1.1 (by rw [ts_u_c (by omega), ts_u_c (by omega)]) (fun k a b => by rw [ts_u_c (by omega), ts_u_c (by omega)]), h.se.same (fun k a b => by rw [ts_u_c (by omega), ts_u_c (by omega)])⟩
    · show 32 ≤ fu (vL U) (vl U) p i ∧ fu (vL U) (vl U) p i ≤ 126
      have hi : i < vl U + 1 := hi
      unfold fu; split
      · exact ⟨h1, h2⟩
      · exact h.1.2.2.2.1.2 i (by omega)
    · show _ = nI (fu (vL U) (vl U) p i)
      have hi : i < vl U + 1 := hi
      rw [ts_u_c (by omega), ts_u_app]
      unfold fu
      by_cases e : i = vl U
      · simp [e]
      · simp [e]; exact h.tx.2 i (by omega)
  · rw [if_neg (by rw [k200]; exact nI_nlt (by omega) (by omega))]
    simp only [d, ↓reduceIte, decide_false] at hk
    exact ⟨zb0, hk _ rfl⟩
theorem px_write {K : Int32 → ts_S → Prop} {σ : ts_S} {U : sU} {a : Int32} (h : rX σ U) (hk : ∀ σ', rX σ' (o_write U a).2 → K (o_write U a).1 σ') : wp_X9_write K σ a := by
  unfold wp_X9_write
  refine sx_within ?_
  rw [show decide ((32 : Int32) ≤ a ∧ a ≤ 126) = win a 32 126 from rfl]
  unfold o_write at hk
  cases dw : win a 32 126 <;> rw [dw] at hk
  · simp only [itB0]; exact hk σ h
  · simp only [itB1]
    obtain ⟨p, h1, h2, e1, e2⟩ := win_iff (lo := 32) (hi := 126) dw (by omega) (by omega)
    rw [e2] at hk
    rw [e1, char_nI (by omega)]
    refine sx_addC h h1 h2 (fun σ' h' => ?_)
    by_cases d : vl U < 200
    · simp only [d, ↓reduceIte, decide_true, itB1] at h' hk ⊢
      rw [h'.tx.1]
      exact hk σ' h'
    · simp only [d, ↓reduceIte, decide_false, itB0] at h' hk ⊢
      rw [h']; exact hk σ h
theorem px_person {K : Int32 → ts_S → Prop} {σ : ts_S} {U : sU} {a b : Int32} (h : rX σ U) (hk : K (o_person U a b) σ) : wp_X9_person K σ a b := by
  unfold wp_X9_person
  refine sx_isPerson h ?_
  unfold o_person at hk
  cases dp : isP U a <;> rw [dp] at hk
  · simp only [itB0]; exact hk
  · simp only [itB1]
    obtain ⟨p, hp, e1, e2⟩ := isP_get h.1 dp
    have h6 := h.xc.n6
    rw [e2] at hk; rw [e1]
    simp only [Bool.true_eq_false, ↓reduceIte] at hk
    have hin : vp_in (nI p) 6 := in6 hp h6
    rw [cl6 hp h6]
    by_cases d0 : b = 0
    · rw [if_pos d0] at hk ⊢; exact ⟨hin, by rw [show σ 24 p = _ from h.xc.kd hp]; exact hk⟩
    rw [if_neg d0] at hk ⊢
    by_cases d1 : b = 1
    · rw [if_pos d1] at hk ⊢; exact ⟨hin, by rw [show σ 32 p = _ from h.xc.st hp]; exact hk⟩
    rw [if_neg d1] at hk ⊢
    by_cases d2 : b = 2
    · rw [if_pos d2] at hk ⊢; exact ⟨hin, by rw [show σ 33 p = _ from h.xc.ag hp]; exact hk⟩
    rw [if_neg d2] at hk ⊢
    by_cases d3 : b = 3
    · rw [if_pos d3] at hk ⊢; exact ⟨hin, by rw [show σ 34 p = _ from h.xc.ne hp]; exact hk⟩
    rw [if_neg d3] at hk ⊢
    by_cases d4 : b = 4
    · rw [if_pos d4] at hk ⊢; refine ⟨hin, ?_⟩; rw [show σ 32 p = _ from h.xc.st hp]; exact sx_fearOn h.xc hp (h.xc.sH hp) hk
    rw [if_neg d4] at hk ⊢
    by_cases d5 : b = 5
    · rw [if_pos d5] at hk ⊢; exact sx_isFrozen h.xc hp (sx_asNumber hk)
    rw [if_neg d5] at hk ⊢
    by_cases d6 : b = 6
    · rw [if_pos d6] at hk ⊢; refine ⟨hin, ?_⟩; rw [show σ 35 p = _ from h.xc.go hp]; exact sx_asNumber hk
    rw [if_neg d6] at hk ⊢
    by_cases d7 : b = 7
    · rw [if_pos d7] at hk ⊢; exact sx_mayBeCalled h.xc hp (sx_asNumber hk)
    rw [if_neg d7] at hk ⊢
    exact hk
theorem px_fear {K : Int32 → ts_S → Prop} {σ : ts_S} {U : sU} {a b : Int32} (h : rX σ U) (hk : K (o_fear U a b) σ) : wp_X9_fear K σ a b := by
  unfold wp_X9_fear
  refine sx_isPerson h ?_
  unfold o_fear at hk
  cases dp : isP U a <;> rw [dp] at hk
  · simp only [itB0]; exact hk
  · simp only [itB1]
    refine sx_isStep h ?_
    cases ds : isS U b <;> rw [ds] at hk
    · simp only [itB0]; exact hk
    · simp only [itB1]
      obtain ⟨p, hp, e1, e2⟩ := isP_get h.1 dp
      obtain ⟨s, hs, e3, e4⟩ := isS_get h.1 ds
      rw [e2, e4] at hk; rw [e1, e3]
      exact sx_fearOn h.xc hp hs hk
theorem px_work {K : Int32 → ts_S → Prop} {σ : ts_S} {U : sU} {a b : Int32} (h : rX σ U) (hk : K (o_work U a b) σ) : wp_X9_work K σ a b := by
  unfold wp_X9_work
  refine sx_within ?_
  unfold o_work at hk
  rw [show σ 23 2 = nI (qW (vP U)) from h.xc.w, show decide ((0 : Int32) ≤ a ∧ a ≤ nI (qW (vP U)) - 1) = win a 0 (nI (qW (vP U)) - 1) from rfl]
  cases dp : win a 0 (nI (qW (vP U)) - 1) <;> rw [dp] at hk
  · simp only [itB0]; exact hk
  · simp only [itB1]
    have h5 := h.xc.W5
    obtain ⟨w, hw, e1, e2⟩ := win_get (by omega) dp
    rw [e2] at hk; rw [e1]
    simp only [Bool.true_eq_false, ↓reduceIte] at hk
    rw [nI_clamp (by omega)]
    by_cases d0 : b = 0
    · rw [if_pos d0] at hk ⊢; exact ⟨in5 hw h5, by rw [show σ 25 w = _ from h.xc.ws hw]; exact hk⟩
    rw [if_neg d0] at hk ⊢
    by_cases d1 : b = 1
    · rw [if_pos d1] at hk ⊢; exact ⟨in5 hw h5, by rw [show σ 26 w = _ from h.xc.wd hw]; exact hk⟩
    rw [if_neg d1] at hk ⊢
    by_cases d2 : b = 2
    · rw [if_pos d2] at hk ⊢; exact sx_steadyBits h.xc (sx_isDone h.xc hw (sx_asNumber hk))
    rw [if_neg d2] at hk ⊢
    exact hk
