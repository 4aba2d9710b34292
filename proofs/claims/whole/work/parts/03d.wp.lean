def wp_X3_isEasier (K : Int32 → ts_S → Prop) (σ : ts_S) (a1 : Int32) (a2 : Int32) : Prop :=
  (vp_in a2 5) ∧ ((vp_in a1 5) ∧ (if (0 : Int32) < ((σ 26 a2.toNatClampNeg) - (σ 26 a1.toNatClampNeg)) then ((ts_zb 1) ∧ K 1 σ) else (if ((σ 26 a2.toNatClampNeg) - (σ 26 a1.toNatClampNeg) : Int32) = 0 then (if (a2 : Int32) ≤ a1 then ((ts_zb 0) ∧ K 0 σ) else ((ts_zb 1) ∧ K 1 σ)) else ((ts_zb 0) ∧ K 0 σ))))
def wp_X3_needOfNextEasier_b4 (K : Int32 → ts_S → Prop) (X4 : ts_S → Int32 → Int32 → Prop) (a1 : Int32) (σ : ts_S) (x2 : Int32) (x3 : Int32) : Prop :=
  if (σ 23 2 : Int32) ≤ x3 then (K x2 σ) else ((vp_in x3 5) ∧ ((vp_in a1 5) ∧ (if (σ 25 x3.toNatClampNeg : Int32) = (σ 25 a1.toNatClampNeg) then (wp_X3_isEasier (fun r3 s4 => if (r3 : Int32) = 0 then (X4 s4 x2 (x3 + 1)) else ((vp_in x3 5) ∧ (X4 s4 (if x2 < (s4 26 x3.toNatClampNeg) then s4 26 x3.toNatClampNeg else x2) (x3 + 1)))) σ x3 a1) else (X4 σ x2 (x3 + 1)))))
def wp_X3_needOfNextEasier_l4 (K : Int32 → ts_S → Prop) (a1 : Int32) (σ : ts_S) (x2 : Int32) (x3 : Int32) : Prop :=
  ∀ X4 : ts_S → Int32 → Int32 → Prop, (∀ (σ : ts_S) (x2 : Int32) (x3 : Int32), wp_X3_needOfNextEasier_b4 K X4 a1  σ x2 x3 → X4 σ x2 x3) → X4 σ x2 x3
def wp_X3_needOfNextEasier (K : Int32 → ts_S → Prop) (σ : ts_S) (a1 : Int32) : Prop :=
  wp_X3_needOfNextEasier_l4 K a1 σ 0 0
def wp_X3_isFrozenAmong (K : Int32 → ts_S → Prop) (σ : ts_S) (a1 : Int32) (a2 : Int32) (a3 : Int32) : Prop :=
  (vp_in a1 6) ∧ ((vp_in a1 6) ∧ (wp_X8_fearAmong (fun r3 s4 => (vp_in a1 6) ∧ (if (r3 : Int32) ≤ (s4 52 a1.toNatClampNeg) then ((ts_zb 0) ∧ K 0 s4) else ((ts_zb 1) ∧ K 1 s4))) σ 49 a3 (σ 24 a1.toNatClampNeg) (σ 51 a1.toNatClampNeg) a2))
def wp_X3_placesOf_b53 (K : Int32 → ts_S → Prop) (X53 : ts_S → Int32 → Int32 → Prop) (a1 : Int32) (σ : ts_S) (x2 : Int32) (x3 : Int32) : Prop :=
  if (σ 23 0 : Int32) ≤ x3 then (K x2 σ) else (wp_X3_isFrozenAmong (fun r3 s4 => if (r3 : Int32) = 0 then (X53 s4 x2 (x3 + 1)) else (X53 s4 (x2 &&& ((1 <<< (x3 &&& 31)) ^^^ (-1))) (x3 + 1))) σ a1 x3 ((σ 11 4) - 1))
def wp_X3_placesOf_l53 (K : Int32 → ts_S → Prop) (a1 : Int32) (σ : ts_S) (x2 : Int32) (x3 : Int32) : Prop :=
  ∀ X53 : ts_S → Int32 → Int32 → Prop, (∀ (σ : ts_S) (x2 : Int32) (x3 : Int32), wp_X3_placesOf_b53 K X53 a1  σ x2 x3 → X53 σ x2 x3) → X53 σ x2 x3
def wp_X3_placesOf_b14 (K : Int32 → ts_S → Prop) (X14 : ts_S → Int32 → Int32 → Prop) (a1 : Int32) (σ : ts_S) (x2 : Int32) (x3 : Int32) : Prop :=
  if (σ 23 2 : Int32) ≤ x3 then (wp_X3_placesOf_l53 K a1 σ x2 0) else ((vp_in x3 5) ∧ (X14 σ (x2 ||| (1 <<< ((σ 25 x3.toNatClampNeg) &&& 31))) (x3 + 1)))
def wp_X3_placesOf_l14 (K : Int32 → ts_S → Prop) (a1 : Int32) (σ : ts_S) (x2 : Int32) (x3 : Int32) : Prop :=
  ∀ X14 : ts_S → Int32 → Int32 → Prop, (∀ (σ : ts_S) (x2 : Int32) (x3 : Int32), wp_X3_placesOf_b14 K X14 a1  σ x2 x3 → X14 σ x2 x3) → X14 σ x2 x3
def wp_X3_placesOf (K : Int32 → ts_S → Prop) (σ : ts_S) (a1 : Int32) : Prop :=
  (vp_in a1 6) ∧ (wp_X3_placesOf_l14 K a1 σ (1 <<< ((σ 50 a1.toNatClampNeg) &&& 31)) 0)
def wp_X3_priceOf (K : Int32 → ts_S → Prop) (σ : ts_S) (a1 : Int32) : Prop :=
  (vp_in a1 5) ∧ ((vp_in (σ 25 a1.toNatClampNeg) 10) ∧ ((vp_in a1 5) ∧ ((vp_in a1 5) ∧ (K ((if (σ 26 a1.toNatClampNeg) - (σ 14 (σ 25 a1.toNatClampNeg).toNatClampNeg) < 0 then 0 else (σ 26 a1.toNatClampNeg) - (σ 14 (σ 25 a1.toNatClampNeg).toNatClampNeg)) - (if (σ 13 a1.toNatClampNeg) - (σ 14 (σ 25 a1.toNatClampNeg).toNatClampNeg) < 0 then 0 else (σ 13 a1.toNatClampNeg) - (σ 14 (σ 25 a1.toNatClampNeg).toNatClampNeg))) σ))))
def wp_X3_mostInReach_b17 (K : Int32 → ts_S → Prop) (X9 : ts_S → Int32 → Int32 → Int32 → Prop) (X17 : ts_S → Int32 → Int32 → Int32 → Prop)  (x3 : Int32) (σ : ts_S) (x1 : Int32) (x2 : Int32) (x4 : Int32) : Prop :=
  if (σ 23 2 : Int32) ≤ x4 then (X9 σ x1 x2 (x3 + 1)) else (if (x1 : Int32) < x3 then (X17 σ x1 x2 (x4 + 1)) else (wp_X3_priceOf (fun r3 s4 => if (r3 : Int32) = x3 then (X17 s4 (x1 - x3) (x2 + 1) (x4 + 1)) else (X17 s4 x1 x2 (x4 + 1))) σ x4))
def wp_X3_mostInReach_l17 (K : Int32 → ts_S → Prop) (X9 : ts_S → Int32 → Int32 → Int32 → Prop)  (σ : ts_S) (x1 : Int32) (x2 : Int32) (x3 : Int32) (x4 : Int32) : Prop :=
  ∀ X17 : ts_S → Int32 → Int32 → Int32 → Prop, (∀ (σ : ts_S) (x1 : Int32) (x2 : Int32) (x4 : Int32), wp_X3_mostInReach_b17 K X9 X17  x3 σ x1 x2 x4 → X17 σ x1 x2 x4) → X17 σ x1 x2 x4
def wp_X3_mostInReach_b9 (K : Int32 → ts_S → Prop) (X9 : ts_S → Int32 → Int32 → Int32 → Prop)  (σ : ts_S) (x1 : Int32) (x2 : Int32) (x3 : Int32) : Prop :=
  if (4 : Int32) < x3 then (K x2 σ) else (wp_X3_mostInReach_l17 K X9  σ x1 x2 x3 0)
def wp_X3_mostInReach_l9 (K : Int32 → ts_S → Prop)  (σ : ts_S) (x1 : Int32) (x2 : Int32) (x3 : Int32) : Prop :=
  ∀ X9 : ts_S → Int32 → Int32 → Int32 → Prop, (∀ (σ : ts_S) (x1 : Int32) (x2 : Int32) (x3 : Int32), wp_X3_mostInReach_b9 K X9   σ x1 x2 x3 → X9 σ x1 x2 x3) → X9 σ x1 x2 x3
def wp_X3_mostInReach (K : Int32 → ts_S → Prop) (σ : ts_S)  : Prop :=
  wp_X3_mostInReach_l9 K  σ (σ 11 4) 0 0
def wp_X3_isSurelyFrozenBefore_b2 (K : Int32 → ts_S → Prop) (X2 : ts_S → Int32 → Prop) (a1 : Int32) (σ : ts_S) (x2 : Int32) : Prop :=
  if (a1 : Int32) ≤ x2 then ((ts_zb 0) ∧ K 0 σ) else ((vp_in x2 6) ∧ ((vp_in x2 6) ∧ (if (σ 53 x2.toNatClampNeg : Int32) = 0 then ((vp_in (σ 50 x2.toNatClampNeg) 10) ∧ (wp_X3_isFrozenAmong (fun r3 s4 => if (r3 : Int32) = 0 then (X2 s4 (x2 + 1)) else ((ts_zb 1) ∧ K 1 s4)) σ x2 (σ 50 x2.toNatClampNeg) (((σ 14 (σ 50 x2.toNatClampNeg).toNatClampNeg) - 1) + (σ 11 4)))) else (X2 σ (x2 + 1)))))
def wp_X3_isSurelyFrozenBefore_l2 (K : Int32 → ts_S → Prop) (a1 : Int32) (σ : ts_S) (x2 : Int32) : Prop :=
  ∀ X2 : ts_S → Int32 → Prop, (∀ (σ : ts_S) (x2 : Int32), wp_X3_isSurelyFrozenBefore_b2 K X2 a1  σ x2 → X2 σ x2) → X2 σ x2
def wp_X3_isSurelyFrozenBefore (K : Int32 → ts_S → Prop) (σ : ts_S) (a1 : Int32) : Prop :=
  wp_X3_isSurelyFrozenBefore_l2 K a1 σ 0
def wp_X3_takeIfBetter_j127 (K : ts_S → Prop) (X82 : ts_S → Int32 → Prop)  (σ : ts_S) (x2 : Int32) (y0 : Int32) (y1 : Int32) : Prop :=
  (vp_in y1 6) ∧ ∀ s5 : ts_S, s5 = ts_u σ 15 y1.toNatClampNeg y0 → (X82 s5 (x2 + 1))
def wp_X3_takeIfBetter_b82 (K : ts_S → Prop) (X82 : ts_S → Int32 → Prop)  (σ : ts_S) (x2 : Int32) : Prop :=
  if (σ 23 1 : Int32) ≤ x2 then (K σ) else ((vp_in x2 6) ∧ (if (σ 53 x2.toNatClampNeg : Int32) = 0 then ((vp_in x2 6) ∧ (wp_X3_takeIfBetter_j127 K X82  σ x2 (σ 50 x2.toNatClampNeg) x2)) else (wp_X3_takeIfBetter_j127 K X82  σ x2 (-4) x2)))
def wp_X3_takeIfBetter_l82 (K : ts_S → Prop)  (σ : ts_S) (x2 : Int32) : Prop :=
  ∀ X82 : ts_S → Int32 → Prop, (∀ (σ : ts_S) (x2 : Int32), wp_X3_takeIfBetter_b82 K X82   σ x2 → X82 σ x2) → X82 σ x2
def wp_X3_takeIfBetter_j56 (K : ts_S → Prop) (X4 : ts_S → Int32 → Int32 → Prop)  (σ : ts_S) (x2 : Int32) (y0 : Int32) (y1 : Int32) : Prop :=
  wp_X9_asNumber (fun r6 s7 => X4 s7 (y1 + r6) (x2 + 1)) σ y0
def wp_X3_takeIfBetter_b4 (K : ts_S → Prop) (X4 : ts_S → Int32 → Int32 → Prop)  (σ : ts_S) (x1 : Int32) (x2 : Int32) : Prop :=
  if (σ 23 2 : Int32) ≤ x2 then (if (x1 : Int32) ≤ (σ 11 6) then (K σ) else (∀ s8 : ts_S, s8 = ts_u σ 11 6 x1 → (wp_X3_takeIfBetter_l82 K  s8 0))) else ((vp_in x2 5) ∧ ((vp_in (σ 25 x2.toNatClampNeg) 10) ∧ ((vp_in x2 5) ∧ (if (σ 14 (σ 25 x2.toNatClampNeg).toNatClampNeg : Int32) < (σ 26 x2.toNatClampNeg) then (wp_X3_takeIfBetter_j56 K X4  σ x2 0 x1) else (wp_X3_takeIfBetter_j56 K X4  σ x2 1 x1)))))
def wp_X3_takeIfBetter_l4 (K : ts_S → Prop)  (σ : ts_S) (x1 : Int32) (x2 : Int32) : Prop :=
  ∀ X4 : ts_S → Int32 → Int32 → Prop, (∀ (σ : ts_S) (x1 : Int32) (x2 : Int32), wp_X3_takeIfBetter_b4 K X4   σ x1 x2 → X4 σ x1 x2) → X4 σ x1 x2
def wp_X3_takeIfBetter (K : ts_S → Prop) (σ : ts_S)  : Prop :=
  wp_X3_takeIfBetter_l4 K  σ 0 0
def wp_X3_put (F : (ts_S → Prop) → ts_S → Int32 → Prop) (K : ts_S → Prop) (σ : ts_S) (a1 : Int32) (a2 : Int32) : Prop :=
  (vp_in a1 6) ∧ ∀ s6 : ts_S, s6 = ts_u σ 50 a1.toNatClampNeg a2 → ((vp_in a2 10) ∧ ((vp_in a2 10) ∧ ∀ s7 : ts_S, s7 = ts_u s6 14 a2.toNatClampNeg ((s6 14 a2.toNatClampNeg) + 1) → (F (fun s9 => (vp_in a2 10) ∧ ((vp_in a2 10) ∧ ∀ s10 : ts_S, s10 = ts_u s9 14 a2.toNatClampNeg ((s9 14 a2.toNatClampNeg) - 1) → (K s10))) s7 (a1 + 1))))
def wp_X3_putFrom_0_b75 (F : (ts_S → Prop) → ts_S → Int32 → Prop) (K : ts_S → Prop) (X75 : ts_S → Int32 → Prop) (a1 : Int32) (σ : ts_S) (x2 : Int32) : Prop :=
  if (σ 23 0 : Int32) ≤ x2 then (∀ s15 : ts_S, s15 = ts_u σ 11 4 ((σ 11 4) + 1) → (K s15)) else ((vp_in a1 6) ∧ (wp_X9_hasBit (fun r16 s17 => if (r16 : Int32) = 0 then (X75 s17 (x2 + 1)) else (wp_X3_put F (fun s19 => X75 s19 (x2 + 1)) s17 a1 x2)) σ (σ 12 a1.toNatClampNeg) x2))
def wp_X3_putFrom_0_l75 (F : (ts_S → Prop) → ts_S → Int32 → Prop) (K : ts_S → Prop) (a1 : Int32) (σ : ts_S) (x2 : Int32) : Prop :=
  ∀ X75 : ts_S → Int32 → Prop, (∀ (σ : ts_S) (x2 : Int32), wp_X3_putFrom_0_b75 F K X75 a1  σ x2 → X75 σ x2) → X75 σ x2
def wp_X3_putFrom_0 (F : (ts_S → Prop) → ts_S → Int32 → Prop) (K : ts_S → Prop) (σ : ts_S) (a1 : Int32) : Prop :=
  wp_X3_mostInReach (fun r20 s21 => if (r20 : Int32) ≤ (s21 11 6) then (K s21) else (wp_X3_isSurelyFrozenBefore (fun r22 s23 => if (r22 : Int32) = 0 then (if (a1 : Int32) < (s23 23 1) then ((vp_in a1 6) ∧ (if (s23 53 a1.toNatClampNeg : Int32) = 0 then (∀ s24 : ts_S, s24 = ts_u s23 11 4 ((s23 11 4) - 1) → (wp_X3_putFrom_0_l75 F K a1 s24 0)) else (F (fun s26 => K s26) s23 (a1 + 1)))) else (wp_X3_takeIfBetter (fun s28 => K s28) s23 )) else (K s23)) s21 a1)) σ 
def wp_X3_putFrom : Nat → (ts_S → Prop) → ts_S → Int32 → Prop
  | 0, _, _, _ => False
  | d + 1, K, σ, a1 => wp_X3_putFrom_0 (wp_X3_putFrom d) K σ a1
def wp_X3_search_b93 (K : ts_S → Prop) (X93 : ts_S → Int32 → Int32 → Prop) (t1 : Nat) (σ : ts_S) (x2 : Int32) (x3 : Int32) : Prop :=
  if (σ 23 1 : Int32) ≤ x3 then (if (x2 : Int32) = 0 then (K σ) else (wp_X3_putFrom 8 (fun s17 => K s17) σ 0)) else (wp_X3_placesOf (fun r18 s19 => (vp_in x3 6) ∧ ∀ s20 : ts_S, s20 = ts_u s19 12 x3.toNatClampNeg r18 → (if (x2 : Int32) = 0 then (X93 s20 0 (x3 + 1)) else ((vp_in x3 6) ∧ (if (s20 53 x3.toNatClampNeg : Int32) = 0 then ((vp_in x3 6) ∧ (if (s20 12 x3.toNatClampNeg : Int32) = 0 then (X93 s20 0 (x3 + 1)) else (X93 s20 1 (x3 + 1)))) else (X93 s20 1 (x3 + 1)))))) σ x3)
def wp_X3_search_l93 (K : ts_S → Prop) (t1 : Nat) (σ : ts_S) (x2 : Int32) (x3 : Int32) : Prop :=
  ∀ X93 : ts_S → Int32 → Int32 → Prop, (∀ (σ : ts_S) (x2 : Int32) (x3 : Int32), wp_X3_search_b93 K X93 t1  σ x2 x3 → X93 σ x2 x3) → X93 σ x2 x3
def wp_X3_search_b58 (K : ts_S → Prop) (X58 : ts_S → Int32 → Prop) (t1 : Nat) (σ : ts_S) (x2 : Int32) : Prop :=
  if (σ 23 2 : Int32) ≤ x2 then (wp_X3_search_l93 K t1 σ 1 0) else (wp_X3_needOfNextEasier (fun r21 s22 => (vp_in x2 5) ∧ ∀ s23 : ts_S, s23 = ts_u s22 13 x2.toNatClampNeg r21 → (X58 s23 (x2 + 1))) σ x2)
def wp_X3_search_l58 (K : ts_S → Prop) (t1 : Nat) (σ : ts_S) (x2 : Int32) : Prop :=
  ∀ X58 : ts_S → Int32 → Prop, (∀ (σ : ts_S) (x2 : Int32), wp_X3_search_b58 K X58 t1  σ x2 → X58 σ x2) → X58 σ x2
def wp_X3_search_b37 (K : ts_S → Prop) (X37 : ts_S → Int32 → Prop) (t1 : Nat) (σ : ts_S) (x2 : Int32) : Prop :=
  if (10 : Int32) ≤ x2 then (wp_X3_search_l58 K t1 σ 0) else ((vp_in x2 10) ∧ ∀ s24 : ts_S, s24 = ts_u σ 14 x2.toNatClampNeg 0 → (X37 s24 (x2 + 1)))
def wp_X3_search_l37 (K : ts_S → Prop) (t1 : Nat) (σ : ts_S) (x2 : Int32) : Prop :=
  ∀ X37 : ts_S → Int32 → Prop, (∀ (σ : ts_S) (x2 : Int32), wp_X3_search_b37 K X37 t1  σ x2 → X37 σ x2) → X37 σ x2
def wp_X3_search (K : ts_S → Prop) (σ : ts_S) (t1 : Nat) : Prop :=
  wp_X8_standAs (fun s26 => ∀ s27 : ts_S, s27 = ts_u s26 11 6 (-1) → (wp_X8_goneMany (fun r28 s29 => ∀ s30 : ts_S, s30 = ts_u s29 11 4 ((s27 23 1) - r28) → (wp_X3_search_l37 K t1 s30 0)) s27 49)) σ 49 t1
