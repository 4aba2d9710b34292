/-! the first tower: what the first text says, and what the reference tells itself -/
def Lf : Nat → Nat := fun i => [104, 54, 59, 112, 48, 44, 53, 44, 49, 50, 44, 56, 59, 112, 49, 44, 51, 44, 51, 48, 44, 53, 59, 112, 50, 44, 52, 44, 50, 53, 44, 54, 59, 112, 51, 44, 53, 44, 49, 52, 44, 50, 59, 112, 51, 44, 53, 44, 49, 51, 44, 51, 59, 112, 48, 44, 49, 44, 54, 48, 44, 57, 59, 119, 53, 44, 50, 59, 119, 52, 44, 49, 59, 119, 51, 44, 49, 59, 119, 49, 44, 49, 59, 119, 48, 44, 49, 59].getD i 0
theorem Lf_by : ∀ i, i < 88 → st_by.getD i 0 = nI (Lf i) ∧ 32 ≤ Lf i ∧ Lf i ≤ 126 := by decide +kernel
def Pf0 : sP := P0
def Tf0 : sT := T0
def Pf1 : sP := aP Pf0 0
def Tf1 : sT := aT Tf0 (qn Pf0) 5 12 8
def Pf2 : sP := aP Pf1 1
def Tf2 : sT := aT Tf1 (qn Pf1) 3 30 5
def Pf3 : sP := aP Pf2 2
def Tf3 : sT := aT Tf2 (qn Pf2) 4 25 6
def Pf4 : sP := aP Pf3 3
def Tf4 : sT := aT Tf3 (qn Pf3) 5 14 2
def Pf5 : sP := aP Pf4 3
def Tf5 : sT := aT Tf4 (qn Pf4) 5 13 3
def Pf6 : sP := aP Pf5 0
def Tf6 : sT := aT Tf5 (qn Pf5) 1 60 9
def Pf7 : sP := aW Pf6 5 2
def Pf8 : sP := aW Pf7 4 1
def Pf9 : sP := aW Pf8 3 1
def Pf10 : sP := aW Pf9 1 1
def Pf11 : sP := aW Pf10 0 1
theorem wf0 : wfD Pf0 Tf0 := wfD0
theorem wf1 : wfD Pf1 Tf1 := wfD_P wf0 (by decide) (by decide) (by decide) (by decide) (by decide)
theorem wf2 : wfD Pf2 Tf2 := wfD_P wf1 (by decide) (by decide) (by decide) (by decide) (by decide)
theorem wf3 : wfD Pf3 Tf3 := wfD_P wf2 (by decide) (by decide) (by decide) (by decide) (by decide)
theorem wf4 : wfD Pf4 Tf4 := wfD_P wf3 (by decide) (by decide) (by decide) (by decide) (by decide)
theorem wf5 : wfD Pf5 Tf5 := wfD_P wf4 (by decide) (by decide) (by decide) (by decide) (by decide)
theorem wf6 : wfD Pf6 Tf6 := wfD_P wf5 (by decide) (by decide) (by decide) (by decide) (by decide)
theorem wf7 : wfD Pf7 Tf6 := wfD_W wf6 (by decide) (by decide) (by decide)
theorem wf8 : wfD Pf8 Tf6 := wfD_W wf7 (by decide) (by decide) (by decide)
theorem wf9 : wfD Pf9 Tf6 := wfD_W wf8 (by decide) (by decide) (by decide)
theorem wf10 : wfD Pf10 Tf6 := wfD_W wf9 (by decide) (by decide) (by decide)
theorem wf11 : wfD Pf11 Tf6 := wfD_W wf10 (by decide) (by decide) (by decide)
theorem it0 : itm Lf 88 0 P0 T0 = some (3, Pf0, Tf0) := rfl
theorem it1 : itm Lf 88 3 Pf0 Tf0 = some (13, Pf1, Tf1) := rfl
theorem it2 : itm Lf 88 13 Pf1 Tf1 = some (23, Pf2, Tf2) := rfl
theorem it3 : itm Lf 88 23 Pf2 Tf2 = some (33, Pf3, Tf3) := rfl
theorem it4 : itm Lf 88 33 Pf3 Tf3 = some (43, Pf4, Tf4) := rfl
theorem it5 : itm Lf 88 43 Pf4 Tf4 = some (53, Pf5, Tf5) := rfl
theorem it6 : itm Lf 88 53 Pf5 Tf5 = some (63, Pf6, Tf6) := rfl
theorem it7 : itm Lf 88 63 Pf6 Tf6 = some (68, Pf7, Tf6) := rfl
theorem it8 : itm Lf 88 68 Pf7 Tf6 = some (73, Pf8, Tf6) := rfl
theorem it9 : itm Lf 88 73 Pf8 Tf6 = some (78, Pf9, Tf6) := rfl
theorem it10 : itm Lf 88 78 Pf9 Tf6 = some (83, Pf10, Tf6) := rfl
theorem it11 : itm Lf 88 83 Pf10 Tf6 = some (88, Pf11, Tf6) := rfl
theorem prs_s {L : Nat → Nat} {l f a : Nat} {P : sP} {T : sT} {q : Nat × sP × sT} (h : a < l) (e : itm L l a P T = some q) : prs L l (f + 1) a P T = prs L l f q.1 q.2.1 q.2.2 := by
  rw [prs, if_pos h, e]
theorem prs_f : prs0 Lf 88 = .inr (Pf11, Tf6) := by
  unfold prs0
  rw [prs_s (f := 87) (by decide) it0]
  rw [prs_s (f := 86) (by decide) it1]
  rw [prs_s (f := 85) (by decide) it2]
  rw [prs_s (f := 84) (by decide) it3]
  rw [prs_s (f := 83) (by decide) it4]
  rw [prs_s (f := 82) (by decide) it5]
  rw [prs_s (f := 81) (by decide) it6]
  rw [prs_s (f := 80) (by decide) it7]
  rw [prs_s (f := 79) (by decide) it8]
  rw [prs_s (f := 78) (by decide) it9]
  rw [prs_s (f := 77) (by decide) it10]
  rw [prs_s (f := 76) (by decide) it11]
  rfl
def Uf : sU := (Pf11, Tf6, (0, Lf), (0, fun _ => T0), (0, fun _ => T0), (0, fun _ => (0, 0, false)))
/-- while the letters are written -/
def wrt (i : Nat) (σ : ts_S) : Prop := rTx σ i Lf ∧ bzA σ ∧ σ 4 1 = nI 0
theorem ix_add {K : Int32 → ts_S → Prop} {σ : ts_S} {i : Nat} (h : wrt i σ) (hi : i < 88) (hk : ∀ σ', wrt (i + 1) σ' → K 1 σ') : wp_X6_add K σ (nI (Lf i)) := by
  obtain ⟨⟨h1, h2⟩, h3, h4⟩ := h
  have hL := (Lf_by i hi).2
  unfold wp_X6_add
  rw [h1, if_pos (by rw [k200]; exact nI_lt (by omega) (by omega))]
  refine ⟨vp_in_nI (by omega) (by omega), ?_⟩
  rintro _ rfl _ rfl
  refine ⟨zb1, hk _ ?_⟩
  rw [nI_clamp (by omega), narC (by omega), ts_u_c (a := 1) (by omega), h1, nI_1]
  refine ⟨⟨by simp [ts_u_app], fun j hj => ?_⟩, fun k hk => (h3 k hk).same (fun j a b => by rw [ts_u_c (by omega), ts_u_c (by omega)]), by rw [ts_u_c (by omega), ts_u_c (by omega)]; exact h4⟩
  rw [ts_u_c (by omega), ts_u_app]
  by_cases e : j = i
  · simp [e]
  · simp [e]; exact h2 j (by omega)
theorem ix_read {K : Int32 → ts_S → Prop} {σ : ts_S} (h : wrt 88 σ) (hk : ∀ σ', txo σ' 88 Lf → bzA σ' → dr σ' Pf11 Tf6 → σ' 4 1 = nI 0 → K (-4) σ') : wp_X6_readInto K σ 37 := by
  obtain ⟨h1, h3, h4⟩ := h
  have ht : txo σ 88 Lf := ⟨h1, by omega, fun i hi => (Lf_by i hi).2.2⟩
  refine sx_readInto ht (h3.at T37) ?_
  rw [prs_f]
  dsimp only
  intro σ1 f1 d1 w1
  refine hk σ1 (ht.pf f1) (fun i hi => ?_) d1 (by rw [f1.1 4 (by omega)]; exact h4)
  by_cases e : i = 1
  · subst e; exact d1.2.2
  · exact (h3 i hi).same (fun k a b => f1.1 k (by omega))
theorem ix_take {K : ts_S → Prop} {σ : ts_S} (h1 : txo σ 88 Lf) (h2 : bzA σ) (h3 : dr σ Pf11 Tf6) (h4 : σ 4 1 = nI 0) (hk : ∀ σ', rX σ' (Pf11, Tf6, (88, Lf), (0, fun _ => T0), (0, fun _ => T0), (0, fun _ => (0, 0, false))) → K σ') : wp_X9_takeDraft K σ :=
  sx_takeDraft h1 (fun i hi => (Lf_by i hi).2.1) h2 h3 wf11 (by decide) (by omega) h4 hk
theorem ix_clear {K : ts_S → Prop} {σ : ts_S} (h : rX σ (Pf11, Tf6, (88, Lf), (0, fun _ => T0), (0, fun _ => T0), (0, fun _ => (0, 0, false)))) (hk : ∀ σ', rX σ' Uf → K σ') : wp_X6_clear K σ :=
  px_wipe (K := fun _ σ' => K σ') h (fun σ' h' => hk σ' h')
theorem ym_settles {K : ts_S → Prop} {σ1 : ts_S} {a l : Nat} {L : Nat → Nat} {P : sP} {T : sT} {A C : Nat → sT} {Z : Nat → Nat × Nat × Bool} (d : rd σ1 a P T) (wd : wfD P T) (ht : rMt σ1 l L) (hk : ∀ σ', rM σ' (P, T, (l, L), (0, A), (0, C), (0, Z)) → K σ') : wp_X10_settles K σ1 := by
  obtain ⟨d1, ⟨d2, d3, d4⟩, d5, d6, d7, d8, d9⟩ := d
  have h6 := wd.1.2.2.1
  have h5 := wd.1.2.2.2.2.1
  unfold wp_X10_settles
  rintro _ rfl _ rfl
  refine ym_copies (a := 0) (b := 0) (n := 6) (by omega) (by decide) (by decide) (by decide) (by decide) (fun σ2 m1 m2 m3 => ?_)
  rintro _ rfl
  refine ym_copies (a := 0) (b := 0) (n := 10) (by omega) (by decide) (by decide) (by decide) (by decide) (fun σ3 q1 q2 q3 => ?_)
  refine ym_copies (a := 0) (b := 0) (n := 21) (by omega) (by decide) (by decide) (by decide) (by decide) (fun σ4 s1 s2 s3 => ?_)
  rintro _ rfl _ rfl _ rfl
  generalize hs : ts_u (ts_u (ts_u σ4 0 6 0) 0 8 0) 0 10 0 = σ5
  have c5 : ∀ k, k ≠ 0 → σ5 k = σ4 k := fun k hk => by rw [← hs, ts_u_c hk, ts_u_c hk, ts_u_c hk]
  -- cell 0
  have b1 : ∀ j, ts_u (ts_u σ1 0 0 (σ1 0 16)) 0 1 (ts_u σ1 0 0 (σ1 0 16) 0 17) 0 j = if j = 1 then σ1 0 17 else if j = 0 then σ1 0 16 else σ1 0 j := by
    intro j
    rw [ts_u_app, ts_u_app, ts_u_app]
    by_cases z1 : j = 1
    · simp [z1]
    · by_cases z0 : j = 0
      · simp [z0]
      · simp [z1, z0]
  have b2 : ∀ j, σ4 0 j = if j = 3 then σ1 0 20 else if j = 1 then σ1 0 17 else if j = 0 then σ1 0 16 else σ1 0 j := by
    intro j
    rw [s1 0 (by omega), q1 0 (by omega), ts_u_app, m1 0 (by omega), b1, b1]
    by_cases z1 : j = 3
    · simp [z1]
    · simp [z1]
  have b5 : ∀ j, σ5 0 j = if j = 10 then 0 else if j = 8 then 0 else if j = 6 then 0 else σ4 0 j := by
    intro j
    rw [← hs, ts_u_app, ts_u_app, ts_u_app]
    simp
  have e01 : σ5 0 1 = nI (qn P) := by rw [b5, b2]; simp; exact d3
  refine hk σ5 ⟨⟨?_, e01, ?_, fun p hp => ?_, fun w hw => ?_⟩, ⟨?_, ?_, ?_, fun p hp => ?_⟩, ⟨?_, fun i hi => ?_⟩, ⟨?_, fun k hk => absurd hk (Nat.not_lt_zero k)⟩, ⟨?_, fun k hk => absurd hk (Nat.not_lt_zero k)⟩, ⟨?_, fun k hk => absurd hk (Nat.not_lt_zero k)⟩⟩
  · rw [b5, b2]; simp; exact d2
  · rw [b5, b2]; simp; exact d4
  · have hp : p < qn P := hp
    rw [c5 1 (by omega), s1 1 (by omega), q1 1 (by omega), ts_u_c (by omega)]
    have := m2 p (by omega)
    rw [Nat.zero_add] at this
    rw [this, ts_u_c (by omega), ts_u_c (by omega)]; exact d5 p hp
  · have hw : w < qW P := hw
    rw [c5 2 (by omega), s1 2 (by omega)]
    have u1 := q2 (2 * w) (by omega)
    have u2 := q2 (2 * w + 1) (by omega)
    rw [Nat.zero_add] at u1 u2
    rw [u1, u2, ts_u_c (by omega), m1 11 (by omega), ts_u_c (by omega), ts_u_c (by omega)]; exact d6 w hw
  · have := s2 0 (by omega)
    rw [Nat.zero_add] at this
    rw [c5 3 (by omega), this, q1 10 (by omega), ts_u_c (by omega), m1 10 (by omega), ts_u_c (by omega), ts_u_c (by omega), d7 0 (by omega)]
    show (0 : Int32) = nI (uY T)
    rw [wd.2.2]; rfl
  · have := s2 1 (by omega)
    rw [Nat.zero_add] at this
    rw [Nat.zero_add, c5 3 (by omega), this, q1 10 (by omega), ts_u_c (by omega), m1 10 (by omega), ts_u_c (by omega), ts_u_c (by omega), d7 1 (by omega)]
    show (0 : Int32) = nI (bs (uG T) (qn P))
    rw [show uG T = fun _ => false from funext (fun p => (d9 p).1), bs_0]; rfl
  · have := s2 2 (by omega)
    rw [Nat.zero_add] at this
    rw [Nat.zero_add, c5 3 (by omega), this, q1 10 (by omega), ts_u_c (by omega), m1 10 (by omega), ts_u_c (by omega), ts_u_c (by omega), d7 2 (by omega)]
    show (0 : Int32) = nI (bs (uC T) (qn P))
    rw [show uC T = fun _ => false from funext (fun p => (d9 p).2), bs_0]; rfl
  · have hp : p < qn P := hp
    have u1 := s2 (3 + p) (by omega)
    have u2 := s2 (9 + p) (by omega)
    have u3 := s2 (15 + p) (by omega)
    rw [Nat.zero_add] at u1 u2 u3
    rw [Nat.zero_add, Nat.zero_add, Nat.zero_add, c5 3 (by omega), u1, u2, u3, q1 10 (by omega), ts_u_c (by omega), m1 10 (by omega), ts_u_c (by omega), ts_u_c (by omega)]
    exact d8 p hp
  · rw [b5, b2]; simp; exact ht.1
  · rw [c5 7 (by omega), s1 7 (by omega), q1 7 (by omega), ts_u_c (by omega), m1 7 (by omega), ts_u_c (by omega), ts_u_c (by omega)]
    exact ht.2 i hi
  · rw [b5]; simp; rfl
  · rw [b5]; simp; rfl
  · rw [b5]; simp; rfl
