def wp_X1_clear (K : ts_S → Prop) (σ : ts_S)  : Prop :=
  ∀ s2 : ts_S, s2 = ts_u σ 4 2 0 → (K s2)
def wp_X4_clear (K : ts_S → Prop) (σ : ts_S)  : Prop :=
  ∀ s2 : ts_S, s2 = ts_u σ 7 3 0 → (K s2)
def wp_X1_add (K : ts_S → Prop) (σ : ts_S) (t1 : Nat) : Prop :=
  (¬ (8 : Int32) = 0) ∧ ((vp_in (((σ 4 1) + (σ 4 2)) - ((σ 4 1) + (σ 4 2)) / 8 * 8) 8) ∧ (wp_X8_standAs (fun s8 => if (8 : Int32) ≤ (s8 4 2) then ((¬ (8 : Int32) = 0) ∧ (∀ s9 : ts_S, s9 = ts_u s8 4 1 (((s8 4 1) + 1) - ((s8 4 1) + 1) / 8 * 8) → (K s9))) else (∀ s10 : ts_S, s10 = ts_u s8 4 2 ((s8 4 2) + 1) → (K s10))) σ (73 + 6 * (((σ 4 1) + (σ 4 2)) - ((σ 4 1) + (σ 4 2)) / 8 * 8).toNatClampNeg) t1))
def wp_X1_takeLastInto (K : ts_S → Prop) (σ : ts_S) (t1 : Nat) : Prop :=
  if (σ 4 2 : Int32) ≤ 0 then (K σ) else (∀ s5 : ts_S, s5 = ts_u σ 4 2 ((σ 4 2) - 1) → ((¬ (8 : Int32) = 0) ∧ ((vp_in (((s5 4 1) + (s5 4 2)) - ((s5 4 1) + (s5 4 2)) / 8 * 8) 8) ∧ (wp_X8_standAs (fun s8 => K s8) s5 t1 (73 + 6 * (((s5 4 1) + (s5 4 2)) - ((s5 4 1) + (s5 4 2)) / 8 * 8).toNatClampNeg)))))
def wp_X7_takeIfBetter (K : ts_S → Prop) (σ : ts_S) (a1 : Int32) : Prop :=
  if (a1 : Int32) ≤ (σ 16 4) then (K σ) else (∀ s3 : ts_S, s3 = ts_u σ 16 4 a1 → (∀ s4 : ts_S, s4 = va_up s3 19 (va_cpy (s3 18) (s3 19) 0 0 4) → (K s4)))
def wp_X7_choose_j28 (F : (ts_S → Prop) → ts_S → Int32 → Prop) (K : ts_S → Prop) (a1 : Int32) (a2 : Int32) (σ : ts_S) : Prop :=
  wp_X8_goYear (fun s13 => (vp_in a1 4) ∧ ∀ s14 : ts_S, s14 = ts_u s13 18 a1.toNatClampNeg a2 → (F (fun s16 => K s16) s14 (a1 + 1))) σ (121 + 6 * (a1 + 1).toNatClampNeg)
def wp_X7_choose (F : (ts_S → Prop) → ts_S → Int32 → Prop) (K : ts_S → Prop) (σ : ts_S) (a1 : Int32) (a2 : Int32) : Prop :=
  (vp_in (a1 + 1) 5) ∧ ((vp_in a1 5) ∧ (wp_X8_standAs (fun s20 => if (a2 : Int32) < 0 then (wp_X7_choose_j28 F K a1 a2 s20) else (wp_X8_goDown (fun s22 => wp_X7_choose_j28 F K a1 a2 s22) s20 (121 + 6 * (a1 + 1).toNatClampNeg) a2)) σ (121 + 6 * (a1 + 1).toNatClampNeg) (121 + 6 * a1.toNatClampNeg)))
def wp_X7_chooseFrom_0_b33 (F : (ts_S → Prop) → ts_S → Int32 → Prop) (K : ts_S → Prop) (X33 : ts_S → Int32 → Prop) (a1 : Int32) (σ : ts_S) (x3 : Int32) : Prop :=
  if (σ (tX_pl (121 + 6 * a1.toNatClampNeg)) 1 : Int32) ≤ x3 then (K σ) else (if (σ (tX_pl (121 + 6 * a1.toNatClampNeg)) 2 : Int32) ≤ (σ 16 4) then (K σ) else (wp_X8_mayGoDown (fun r12 s13 => if (r12 : Int32) = 0 then (X33 s13 (x3 + 1)) else (wp_X7_choose F (fun s15 => X33 s15 (x3 + 1)) s13 a1 x3)) σ (121 + 6 * a1.toNatClampNeg) x3))
def wp_X7_chooseFrom_0_l33 (F : (ts_S → Prop) → ts_S → Int32 → Prop) (K : ts_S → Prop) (a1 : Int32) (σ : ts_S) (x3 : Int32) : Prop :=
  ∀ X33 : ts_S → Int32 → Prop, (∀ (σ : ts_S) (x3 : Int32), wp_X7_chooseFrom_0_b33 F K X33 a1  σ x3 → X33 σ x3) → X33 σ x3
def wp_X7_chooseFrom_0 (F : (ts_S → Prop) → ts_S → Int32 → Prop) (K : ts_S → Prop) (σ : ts_S) (a1 : Int32) : Prop :=
  (vp_in a1 5) ∧ (if (a1 : Int32) < (σ 16 2) then (wp_X7_choose F (fun s18 => wp_X7_chooseFrom_0_l33 F K a1 s18 0) σ a1 (-4)) else (wp_X8_doneMany (fun r19 s20 => wp_X7_takeIfBetter (fun s22 => K s22) s20 r19) σ (121 + 6 * a1.toNatClampNeg)))
def wp_X7_chooseFrom : Nat → (ts_S → Prop) → ts_S → Int32 → Prop
  | 0, _, _, _ => False
  | d + 1, K, σ, a1 => wp_X7_chooseFrom_0 (wp_X7_chooseFrom d) K σ a1
def wp_X7_search (K : ts_S → Prop) (σ : ts_S) (t1 : Nat) (a2 : Int32) : Prop :=
  ∀ s8 : ts_S, s8 = ts_u σ 16 2 (if 4 < a2 then 4 else a2) → (∀ s9 : ts_S, s9 = ts_u s8 16 4 (-1) → ((vp_in 0 5) ∧ (wp_X8_standAs (fun s12 => wp_X7_chooseFrom 8 (fun s14 => K s14) s12 0) s9 (121 + 6 * (0 : Int32).toNatClampNeg) t1)))
def wp_X5_changePlaces (K : ts_S → Prop) (σ : ts_S) (a1 : Int32) (a2 : Int32) : Prop :=
  (vp_in a1 6) ∧ ((vp_in a2 6) ∧ ((vp_in a1 6) ∧ ∀ s3 : ts_S, s3 = ts_u σ 56 a1.toNatClampNeg (σ 56 a2.toNatClampNeg) → ((vp_in a2 6) ∧ ∀ s4 : ts_S, s4 = ts_u s3 56 a2.toNatClampNeg (σ 56 a1.toNatClampNeg) → (K s4))))
def wp_X5_takeIfBetter (K : ts_S → Prop) (σ : ts_S) (a1 : Int32) (a2 : Int32) : Prop :=
  wp_X5_changePlaces (fun s10 => wp_X8_doneMany (fun r11 s12 => wp_X5_changePlaces (fun s14 => if (r11 : Int32) ≤ (s14 20 2) then (K s14) else (∀ s15 : ts_S, s15 = ts_u s14 20 2 r11 → (∀ s16 : ts_S, s16 = ts_u s15 20 1 ((10 * a1) + a2) → (K s16)))) s12 a1 a2) s10 55) σ a1 a2
def wp_X5_search_b33 (K : ts_S → Prop) (X15 : ts_S → Int32 → Prop) (X33 : ts_S → Int32 → Prop) (t1 : Nat) (x2 : Int32) (σ : ts_S) (x3 : Int32) : Prop :=
  if (σ 23 1 : Int32) ≤ x3 then (X15 σ (x2 + 1)) else ((vp_in x2 6) ∧ (if (σ 59 x2.toNatClampNeg : Int32) = 0 then ((vp_in x3 6) ∧ (if (σ 59 x3.toNatClampNeg : Int32) = 0 then ((vp_in x2 6) ∧ ((vp_in x3 6) ∧ (if (σ 56 x2.toNatClampNeg : Int32) = (σ 56 x3.toNatClampNeg) then (X33 σ (x3 + 1)) else (wp_X5_takeIfBetter (fun s7 => X33 s7 (x3 + 1)) σ x2 x3)))) else (X33 σ (x3 + 1)))) else (X33 σ (x3 + 1))))
def wp_X5_search_l33 (K : ts_S → Prop) (X15 : ts_S → Int32 → Prop) (t1 : Nat) (σ : ts_S) (x2 : Int32) (x3 : Int32) : Prop :=
  ∀ X33 : ts_S → Int32 → Prop, (∀ (σ : ts_S) (x3 : Int32), wp_X5_search_b33 K X15 X33 t1 x2 σ x3 → X33 σ x3) → X33 σ x3
def wp_X5_search_b15 (K : ts_S → Prop) (X15 : ts_S → Int32 → Prop) (t1 : Nat) (σ : ts_S) (x2 : Int32) : Prop :=
  if (σ 23 1 : Int32) ≤ x2 then (K σ) else (wp_X5_search_l33 K X15 t1 σ x2 (x2 + 1))
def wp_X5_search_l15 (K : ts_S → Prop) (t1 : Nat) (σ : ts_S) (x2 : Int32) : Prop :=
  ∀ X15 : ts_S → Int32 → Prop, (∀ (σ : ts_S) (x2 : Int32), wp_X5_search_b15 K X15 t1  σ x2 → X15 σ x2) → X15 σ x2
def wp_X5_search (K : ts_S → Prop) (σ : ts_S) (t1 : Nat) : Prop :=
  ∀ s8 : ts_S, s8 = ts_u σ 20 2 (-1) → (wp_X8_standAs (fun s10 => wp_X5_search_l15 K t1 s10 0) s8 55 t1)
def wp_X0_reaches_b3 (K : Int32 → ts_S → Prop) (X3 : ts_S → Int32 → Prop) (t1 : Nat) (a2 : Int32) (a3 : Int32) (σ : ts_S) (x4 : Int32) : Prop :=
  if (σ (tX_pl t1) 1 : Int32) ≤ x4 then ((ts_zb 0) ∧ K 0 σ) else ((vp_in x4 6) ∧ (if (σ 22 x4.toNatClampNeg : Int32) = a3 then ((vp_in a2 6) ∧ ((vp_in x4 6) ∧ (if (2 : Int32) < (if 0 ≤ ((σ (t1 + 1) a2.toNatClampNeg) - (σ (t1 + 1) x4.toNatClampNeg)) then (σ (t1 + 1) a2.toNatClampNeg) - (σ (t1 + 1) x4.toNatClampNeg) else 0 - ((σ (t1 + 1) a2.toNatClampNeg) - (σ (t1 + 1) x4.toNatClampNeg))) then (X3 σ (x4 + 1)) else ((ts_zb 1) ∧ K 1 σ)))) else (X3 σ (x4 + 1))))
def wp_X0_reaches_l3 (K : Int32 → ts_S → Prop) (t1 : Nat) (a2 : Int32) (a3 : Int32) (σ : ts_S) (x4 : Int32) : Prop :=
  ∀ X3 : ts_S → Int32 → Prop, (∀ (σ : ts_S) (x4 : Int32), wp_X0_reaches_b3 K X3 t1 a2 a3  σ x4 → X3 σ x4) → X3 σ x4
def wp_X0_reaches (K : Int32 → ts_S → Prop) (σ : ts_S) (t1 : Nat) (a2 : Int32) (a3 : Int32) : Prop :=
  wp_X0_reaches_l3 K t1 a2 a3 σ 0
def wp_X0_countFrom_b76 (K : ts_S → Prop) (X61 : ts_S → Int32 → Prop) (X76 : ts_S → Int32 → Prop) (t1 : Nat) (a2 : Int32) (x3 : Int32) (x4 : Int32) (σ : ts_S) (x5 : Int32) : Prop :=
  if (σ (tX_pl t1) 1 : Int32) ≤ x5 then (X61 σ (x4 + 1)) else ((vp_in x5 6) ∧ (if (σ 22 x5.toNatClampNeg : Int32) = 0 then (wp_X9_hasBit (fun r11 s12 => if (r11 : Int32) = 0 then (X76 s12 (x5 + 1)) else (wp_X0_reaches (fun r13 s14 => if (r13 : Int32) = 0 then (X76 s14 (x5 + 1)) else ((vp_in x5 6) ∧ ∀ s15 : ts_S, s15 = ts_u s14 22 x5.toNatClampNeg (x4 + 1) → (X76 s15 (x5 + 1)))) s12 t1 x5 x4)) σ x3 x5) else (X76 σ (x5 + 1))))
def wp_X0_countFrom_l76 (K : ts_S → Prop) (X61 : ts_S → Int32 → Prop) (t1 : Nat) (a2 : Int32) (σ : ts_S) (x3 : Int32) (x4 : Int32) (x5 : Int32) : Prop :=
  ∀ X76 : ts_S → Int32 → Prop, (∀ (σ : ts_S) (x5 : Int32), wp_X0_countFrom_b76 K X61 X76 t1 a2 x3 x4 σ x5 → X76 σ x5) → X76 σ x5
def wp_X0_countFrom_b61 (K : ts_S → Prop) (X61 : ts_S → Int32 → Prop) (t1 : Nat) (a2 : Int32) (x3 : Int32) (σ : ts_S) (x4 : Int32) : Prop :=
  if (σ (tX_pl t1) 1 : Int32) ≤ x4 then (K σ) else (wp_X0_countFrom_l76 K X61 t1 a2 σ x3 x4 0)
def wp_X0_countFrom_l61 (K : ts_S → Prop) (t1 : Nat) (a2 : Int32) (σ : ts_S) (x3 : Int32) (x4 : Int32) : Prop :=
  ∀ X61 : ts_S → Int32 → Prop, (∀ (σ : ts_S) (x4 : Int32), wp_X0_countFrom_b61 K X61 t1 a2 x3 σ x4 → X61 σ x4) → X61 σ x4
def wp_X0_countFrom_j51 (K : ts_S → Prop) (X8 : ts_S → Int32 → Prop) (t1 : Nat) (a2 : Int32) (σ : ts_S) (x3 : Int32) (x4 : Int32) (y0 : Int32) (y1 : Int32) : Prop :=
  (vp_in y1 6) ∧ ∀ s16 : ts_S, s16 = ts_u σ 22 y1.toNatClampNeg y0 → (X8 s16 (x4 + 1))
def wp_X0_countFrom_b8 (K : ts_S → Prop) (X8 : ts_S → Int32 → Prop) (t1 : Nat) (a2 : Int32) (x3 : Int32) (σ : ts_S) (x4 : Int32) : Prop :=
  if (σ (tX_pl t1) 1 : Int32) ≤ x4 then (wp_X0_countFrom_l61 K t1 a2 σ x3 1) else (wp_X9_hasBit (fun r17 s18 => if (r17 : Int32) = 0 then (wp_X0_countFrom_j51 K X8 t1 a2 s18 x3 x4 0 x4) else ((vp_in x4 6) ∧ (if (s18 (t1 + 1) x4.toNatClampNeg : Int32) = a2 then (wp_X0_countFrom_j51 K X8 t1 a2 s18 x3 x4 1 x4) else (wp_X0_countFrom_j51 K X8 t1 a2 s18 x3 x4 0 x4)))) σ x3 x4)
def wp_X0_countFrom_l8 (K : ts_S → Prop) (t1 : Nat) (a2 : Int32) (σ : ts_S) (x3 : Int32) (x4 : Int32) : Prop :=
  ∀ X8 : ts_S → Int32 → Prop, (∀ (σ : ts_S) (x4 : Int32), wp_X0_countFrom_b8 K X8 t1 a2 x3 σ x4 → X8 σ x4) → X8 σ x4
def wp_X0_countFrom (K : ts_S → Prop) (σ : ts_S) (t1 : Nat) (a2 : Int32) : Prop :=
  wp_X8_steadyBits (fun r19 s20 => wp_X0_countFrom_l8 K t1 a2 s20 r19 0) σ t1
def wp_X0_search_j73 (K : ts_S → Prop) (X19 : ts_S → Int32 → Prop) (t1 : Nat) (a2 : Int32) (a3 : Int32) (σ : ts_S) (x4 : Int32) : Prop :=
  ∀ s7 : ts_S, s7 = ts_u σ 21 2 x4 → ((vp_in x4 6) ∧ (∀ s8 : ts_S, s8 = ts_u s7 21 1 (s7 22 x4.toNatClampNeg) → (X19 s8 (x4 + 1))))
def wp_X0_search_b19 (K : ts_S → Prop) (X19 : ts_S → Int32 → Prop) (t1 : Nat) (a2 : Int32) (a3 : Int32) (σ : ts_S) (x4 : Int32) : Prop :=
  if (σ (tX_pl t1) 1 : Int32) ≤ x4 then (K σ) else ((vp_in x4 6) ∧ (if (σ 22 x4.toNatClampNeg : Int32) ≤ 0 then (X19 σ (x4 + 1)) else ((vp_in x4 6) ∧ (if (σ (t1 + 1) x4.toNatClampNeg : Int32) = a2 then (if (σ 21 2 : Int32) < 0 then (wp_X0_search_j73 K X19 t1 a2 a3 σ x4) else ((vp_in x4 6) ∧ (if (σ 21 1 : Int32) ≤ (σ 22 x4.toNatClampNeg) then (X19 σ (x4 + 1)) else (wp_X0_search_j73 K X19 t1 a2 a3 σ x4)))) else (X19 σ (x4 + 1))))))
def wp_X0_search_l19 (K : ts_S → Prop) (t1 : Nat) (a2 : Int32) (a3 : Int32) (σ : ts_S) (x4 : Int32) : Prop :=
  ∀ X19 : ts_S → Int32 → Prop, (∀ (σ : ts_S) (x4 : Int32), wp_X0_search_b19 K X19 t1 a2 a3  σ x4 → X19 σ x4) → X19 σ x4
def wp_X0_search (K : ts_S → Prop) (σ : ts_S) (t1 : Nat) (a2 : Int32) (a3 : Int32) : Prop :=
  wp_X0_countFrom (fun s10 => ∀ s11 : ts_S, s11 = ts_u s10 21 2 (-1) → (∀ s12 : ts_S, s12 = ts_u s11 21 1 0 → (wp_X0_search_l19 K t1 a2 a3 s12 0))) σ t1 a3
def wp_X4_add (K : Int32 → ts_S → Prop) (σ : ts_S) (a1 : Int32) (a2 : Int32) (a3 : Int32) : Prop :=
  if (σ 7 3 : Int32) < 6 then ((vp_in (σ 7 3) 6) ∧ ∀ s5 : ts_S, s5 = ts_u σ 8 (σ 7 3).toNatClampNeg a1 → ((vp_in (s5 7 3) 6) ∧ ∀ s6 : ts_S, s6 = ts_u s5 9 (s5 7 3).toNatClampNeg a2 → ((vp_in (s6 7 3) 6) ∧ ∀ s7 : ts_S, s7 = ts_u s6 10 (s6 7 3).toNatClampNeg (vp_nar .boolean a3) → (∀ s8 : ts_S, s8 = ts_u s7 7 3 ((s7 7 3) + 1) → ((ts_zb 1) ∧ K 1 s8))))) else ((ts_zb 0) ∧ K 0 σ)
def wp_X4_wouldHold_j46 (K : Int32 → ts_S → Prop) (X3 : ts_S → Int32 → Prop) (t1 : Nat) (a2 : Int32) (a3 : Int32) (a4 : Int32) (σ : ts_S) (x5 : Int32) (y0 : Int32) : Prop :=
  (vp_in x5 6) ∧ (if (y0 : Int32) = (σ 10 x5.toNatClampNeg) then (X3 σ (x5 + 1)) else ((ts_zb 0) ∧ K 0 σ))
def wp_X4_wouldHold_b3 (K : Int32 → ts_S → Prop) (X3 : ts_S → Int32 → Prop) (t1 : Nat) (a2 : Int32) (a3 : Int32) (a4 : Int32) (σ : ts_S) (x5 : Int32) : Prop :=
  if (σ 7 3 : Int32) ≤ x5 then ((ts_zb 1) ∧ K 1 σ) else ((vp_in x5 6) ∧ (if (σ 8 x5.toNatClampNeg : Int32) = a2 then ((vp_in x5 6) ∧ (wp_X8_fearAs (fun r3 s4 => if (r3 : Int32) ≤ a4 then (wp_X4_wouldHold_j46 K X3 t1 a2 a3 a4 s4 x5 0) else (wp_X4_wouldHold_j46 K X3 t1 a2 a3 a4 s4 x5 1)) σ t1 a3 a2 (σ 9 x5.toNatClampNeg))) else (X3 σ (x5 + 1))))
def wp_X4_wouldHold_l3 (K : Int32 → ts_S → Prop) (t1 : Nat) (a2 : Int32) (a3 : Int32) (a4 : Int32) (σ : ts_S) (x5 : Int32) : Prop :=
  ∀ X3 : ts_S → Int32 → Prop, (∀ (σ : ts_S) (x5 : Int32), wp_X4_wouldHold_b3 K X3 t1 a2 a3 a4  σ x5 → X3 σ x5) → X3 σ x5
def wp_X4_wouldHold (K : Int32 → ts_S → Prop) (σ : ts_S) (t1 : Nat) (a2 : Int32) (a3 : Int32) (a4 : Int32) : Prop :=
  wp_X4_wouldHold_l3 K t1 a2 a3 a4 σ 0
