def wp_X2_clear (K : ts_S → Prop) (σ : ts_S) (t : Nat) : Prop :=
  ∀ s4 : ts_S, s4 = ts_u σ t 0 6 → (∀ s5 : ts_S, s5 = ts_u s4 t 1 0 → (∀ s6 : ts_S, s6 = ts_u s5 t 2 0 → (K s6)))
def wp_X9_within (K : Int32 → ts_S → Prop) (σ : ts_S) (a0 : Int32) (a1 : Int32) (a2 : Int32) : Prop :=
  if (a0 : Int32) < a1 then ((ts_zb 0) ∧ K 0 σ) else (if (a2 : Int32) < a0 then ((ts_zb 0) ∧ K 0 σ) else ((ts_zb 1) ∧ K 1 σ))
def wp_X2_copyFrom (K : ts_S → Prop) (σ : ts_S) (t : Nat) (t1 : Nat) : Prop :=
  ∀ s7 : ts_S, s7 = ts_u σ t 0 (σ t1 0) → (∀ s8 : ts_S, s8 = ts_u s7 t 1 (s7 t1 1) → (∀ s9 : ts_S, s9 = ts_u s8 t 2 (s8 t1 2) → (∀ s10 : ts_S, s10 = va_up s9 (t + 1) (va_cpy (s9 (t1 + 1)) (s9 (t + 1)) 0 0 6) → (∀ s11 : ts_S, s11 = va_up s10 (t + 2) (va_cpy (s10 (t1 + 2)) (s10 (t + 2)) 0 0 5) → (∀ s12 : ts_S, s12 = va_up s11 (t + 3) (va_cpy (s11 (t1 + 3)) (s11 (t + 3)) 0 0 5) → (K s12))))))
def wp_X8_standAs (K : ts_S → Prop) (σ : ts_S) (t : Nat) (t1 : Nat) : Prop :=
  ∀ s7 : ts_S, s7 = va_up σ (t + 1) (va_cpy (σ (t1 + 1)) (σ (t + 1)) 0 0 6) → (∀ s8 : ts_S, s8 = va_up s7 (t + 2) (va_cpy (s7 (t1 + 2)) (s7 (t + 2)) 0 0 6) → (∀ s9 : ts_S, s9 = va_up s8 (t + 3) (va_cpy (s8 (t1 + 3)) (s8 (t + 3)) 0 0 6) → ((ts_fz (s9 (t1 + 4)) 6) ∧ ∀ s10 : ts_S, s10 = va_up s9 (t + 4) (va_cpy (s9 (t1 + 4)) (s9 (t + 4)) 0 0 6) → ((ts_fz (s10 (t1 + 5)) 6) ∧ ∀ s11 : ts_S, s11 = va_up s10 (t + 5) (va_cpy (s10 (t1 + 5)) (s10 (t + 5)) 0 0 6) → (∀ s12 : ts_S, s12 = ts_u s11 t 6 (s11 t1 6) → (K s12))))))
def wp_X9_asNumber (K : Int32 → ts_S → Prop) (σ : ts_S) (a0 : Int32) : Prop :=
  if (a0 : Int32) = 0 then (K 0 σ) else (K 1 σ)
def wp_X8_mayBeCalled (K : Int32 → ts_S → Prop) (σ : ts_S) (t : Nat) (a1 : Int32) : Prop :=
  (vp_in a1 6) ∧ (if (σ (t + 4) a1.toNatClampNeg : Int32) = 0 then ((vp_in a1 6) ∧ (if (σ (t + 5) a1.toNatClampNeg : Int32) = 0 then ((ts_zb 1) ∧ K 1 σ) else ((ts_zb 0) ∧ K 0 σ))) else ((ts_zb 0) ∧ K 0 σ))
def wp_X8_fearAmong (K : Int32 → ts_S → Prop) (σ : ts_S) (t : Nat) (a1 : Int32) (a2 : Int32) (a3 : Int32) (a4 : Int32) : Prop :=
  if (a2 : Int32) = 1 then (K (((σ (tX_pl t) 0) - 1) - a4) σ) else (if (a2 : Int32) = 2 then (if (a3 : Int32) ≤ 20 then (K ((2 * (((σ (tX_pl t) 0) - 1) - a4)) + 0) σ) else ((¬ (5 : Int32) = 0) ∧ (K ((2 * (((σ (tX_pl t) 0) - 1) - a4)) + ((a3 - 20) / 5)) σ))) else (if (a2 : Int32) = 3 then (if (((σ (tX_pl t) 0) - 1) - a4 : Int32) ≤ a1 then (K 0 σ) else (K (2 * ((((σ (tX_pl t) 0) - 1) - a4) - a1)) σ)) else (K (2 * (((σ (tX_pl t) 0) - 1) - a4)) σ)))
def wp_X8_fearAs_j59 (K : Int32 → ts_S → Prop) (t : Nat) (a1 : Int32) (a2 : Int32) (a3 : Int32) (σ : ts_S) (x4 : Int32) : Prop :=
  (vp_in a2 6) ∧ (wp_X8_fearAmong (fun r3 s4 => K r3 s4) σ t x4 a1 (σ (t + 2) a2.toNatClampNeg) a3)
def wp_X8_fearAs_b6 (K : Int32 → ts_S → Prop) (X6 : ts_S → Int32 → Int32 → Prop) (t : Nat) (a1 : Int32) (a2 : Int32) (a3 : Int32) (σ : ts_S) (x4 : Int32) (x5 : Int32) : Prop :=
  if (a1 : Int32) = 3 then (if (σ (tX_pl t) 1 : Int32) ≤ x5 then (wp_X8_fearAs_j59 K t a1 a2 a3 σ x4) else (if (x5 : Int32) = a2 then (X6 σ x4 (x5 + 1)) else ((vp_in x5 6) ∧ (if (σ (t + 4) x5.toNatClampNeg : Int32) = 0 then ((vp_in x5 6) ∧ (if (σ (t + 1) x5.toNatClampNeg : Int32) = a3 then (X6 σ (x4 + 1) (x5 + 1)) else (X6 σ x4 (x5 + 1)))) else (X6 σ x4 (x5 + 1)))))) else (wp_X8_fearAs_j59 K t a1 a2 a3 σ x4)
def wp_X8_fearAs_l6 (K : Int32 → ts_S → Prop) (t : Nat) (a1 : Int32) (a2 : Int32) (a3 : Int32) (σ : ts_S) (x4 : Int32) (x5 : Int32) : Prop :=
  ∀ X6 : ts_S → Int32 → Int32 → Prop, (∀ (σ : ts_S) (x4 : Int32) (x5 : Int32), wp_X8_fearAs_b6 K X6 t a1 a2 a3  σ x4 x5 → X6 σ x4 x5) → X6 σ x4 x5
def wp_X8_fearAs (K : Int32 → ts_S → Prop) (σ : ts_S) (t : Nat) (a1 : Int32) (a2 : Int32) (a3 : Int32) : Prop :=
  wp_X8_fearAs_l6 K t a1 a2 a3 σ 0 0
def wp_X8_fearOn (K : Int32 → ts_S → Prop) (σ : ts_S) (t : Nat) (a1 : Int32) (a2 : Int32) : Prop :=
  (vp_in a1 6) ∧ (wp_X8_fearAs (fun r3 s4 => K r3 s4) σ t (σ (tX_pl t + 1) a1.toNatClampNeg) a1 a2)
def wp_X8_isFrozen (K : Int32 → ts_S → Prop) (σ : ts_S) (t : Nat) (a1 : Int32) : Prop :=
  (vp_in a1 6) ∧ (if (σ (t + 4) a1.toNatClampNeg : Int32) = 0 then ((vp_in a1 6) ∧ ((vp_in a1 6) ∧ (wp_X8_fearAs (fun r3 s4 => (vp_in a1 6) ∧ (if (r3 : Int32) ≤ (s4 (t + 3) a1.toNatClampNeg) then ((ts_zb 0) ∧ K 0 s4) else ((ts_zb 1) ∧ K 1 s4))) σ t (σ (tX_pl t + 1) a1.toNatClampNeg) a1 (σ (t + 1) a1.toNatClampNeg)))) else ((ts_zb 0) ∧ K 0 σ))
def wp_X8_isSteady (K : Int32 → ts_S → Prop) (σ : ts_S) (t : Nat) (a1 : Int32) : Prop :=
  (vp_in a1 6) ∧ (if (σ (t + 4) a1.toNatClampNeg : Int32) = 0 then ((vp_in a1 6) ∧ ((vp_in a1 6) ∧ (wp_X8_fearAs (fun r3 s4 => (vp_in a1 6) ∧ (if (s4 (t + 3) a1.toNatClampNeg : Int32) < r3 then ((ts_zb 0) ∧ K 0 s4) else ((ts_zb 1) ∧ K 1 s4))) σ t (σ (tX_pl t + 1) a1.toNatClampNeg) a1 (σ (t + 1) a1.toNatClampNeg)))) else ((ts_zb 0) ∧ K 0 σ))
def wp_X8_steadyBits_b4 (K : Int32 → ts_S → Prop) (X4 : ts_S → Int32 → Int32 → Prop) (t : Nat) (σ : ts_S) (x1 : Int32) (x2 : Int32) : Prop :=
  if (σ (tX_pl t) 1 : Int32) ≤ x2 then (K x1 σ) else (wp_X8_isSteady (fun r3 s4 => if (r3 : Int32) = 0 then (X4 s4 x1 (x2 + 1)) else (X4 s4 (x1 ||| (1 <<< (x2 &&& 31))) (x2 + 1))) σ t x2)
def wp_X8_steadyBits_l4 (K : Int32 → ts_S → Prop) (t : Nat) (σ : ts_S) (x1 : Int32) (x2 : Int32) : Prop :=
  ∀ X4 : ts_S → Int32 → Int32 → Prop, (∀ (σ : ts_S) (x1 : Int32) (x2 : Int32), wp_X8_steadyBits_b4 K X4 t  σ x1 x2 → X4 σ x1 x2) → X4 σ x1 x2
def wp_X8_steadyBits (K : Int32 → ts_S → Prop) (σ : ts_S) (t : Nat) : Prop :=
  wp_X8_steadyBits_l4 K t σ 0 0
def wp_X9_hasBit (K : Int32 → ts_S → Prop) (σ : ts_S) (a0 : Int32) (a1 : Int32) : Prop :=
  if ((a0 >>> (a1 &&& 31)) &&& 1 : Int32) = 1 then ((ts_zb 1) ∧ K 1 σ) else ((ts_zb 0) ∧ K 0 σ)
def wp_X8_isDone_b5 (K : Int32 → ts_S → Prop) (X5 : ts_S → Int32 → Int32 → Prop) (t : Nat) (a1 : Int32) (a2 : Int32) (σ : ts_S) (x3 : Int32) (x4 : Int32) : Prop :=
  if (σ (tX_pl t) 1 : Int32) ≤ x4 then ((vp_in a1 5) ∧ (if (x3 : Int32) < (σ (tX_pl t + 3) a1.toNatClampNeg) then ((ts_zb 0) ∧ K 0 σ) else ((ts_zb 1) ∧ K 1 σ))) else (wp_X9_hasBit (fun r3 s4 => if (r3 : Int32) = 0 then (X5 s4 x3 (x4 + 1)) else ((vp_in x4 6) ∧ ((vp_in a1 5) ∧ (if (s4 (t + 1) x4.toNatClampNeg : Int32) = (s4 (tX_pl t + 2) a1.toNatClampNeg) then (X5 s4 (x3 + 1) (x4 + 1)) else (X5 s4 x3 (x4 + 1)))))) σ a2 x4)
def wp_X8_isDone_l5 (K : Int32 → ts_S → Prop) (t : Nat) (a1 : Int32) (a2 : Int32) (σ : ts_S) (x3 : Int32) (x4 : Int32) : Prop :=
  ∀ X5 : ts_S → Int32 → Int32 → Prop, (∀ (σ : ts_S) (x3 : Int32) (x4 : Int32), wp_X8_isDone_b5 K X5 t a1 a2  σ x3 x4 → X5 σ x3 x4) → X5 σ x3 x4
def wp_X8_isDone (K : Int32 → ts_S → Prop) (σ : ts_S) (t : Nat) (a1 : Int32) (a2 : Int32) : Prop :=
  wp_X8_isDone_l5 K t a1 a2 σ 0 0
def wp_X8_goYear_j170 (K : ts_S → Prop) (X90 : ts_S → Int32 → Prop) (t : Nat) (σ : ts_S) (x1 : Int32) (x2 : Int32) (x3 : Int32) : Prop :=
  (vp_in x3 6) ∧ ((vp_in x3 6) ∧ ∀ s12 : ts_S, s12 = ts_u σ (t + 2) x3.toNatClampNeg (if 99 < ((σ (t + 2) x3.toNatClampNeg) + 1) then 99 else (σ (t + 2) x3.toNatClampNeg) + 1) → ((vp_in x3 6) ∧ ∀ s13 : ts_S, s13 = ts_u s12 (t + 5) x3.toNatClampNeg (vp_nar .boolean 0) → (X90 s13 (x3 + 1))))
def wp_X8_goYear_j169 (K : ts_S → Prop) (X90 : ts_S → Int32 → Prop) (t : Nat) (σ : ts_S) (x1 : Int32) (x2 : Int32) (x3 : Int32) (y0 : Int32) (y1 : Int32) : Prop :=
  (vp_in y1 6) ∧ ∀ s14 : ts_S, s14 = ts_u σ (t + 3) y1.toNatClampNeg y0 → (wp_X8_goYear_j170 K X90 t s14 x1 x2 x3)
def wp_X8_goYear_b90 (K : ts_S → Prop) (X90 : ts_S → Int32 → Prop) (t : Nat) (x1 : Int32) (x2 : Int32) (σ : ts_S) (x3 : Int32) : Prop :=
  if (σ (tX_pl t) 1 : Int32) ≤ x3 then (∀ s15 : ts_S, s15 = ts_u σ t 6 ((σ t 6) + 1) → (K s15)) else (wp_X9_hasBit (fun r16 s17 => if (r16 : Int32) = 0 then ((vp_in x3 6) ∧ (if (s17 (t + 4) x3.toNatClampNeg : Int32) = 0 then (wp_X9_hasBit (fun r18 s19 => if (r18 : Int32) = 0 then ((vp_in x3 6) ∧ (wp_X8_goYear_j169 K X90 t s19 x1 x2 x3 (if 30 < ((s19 (t + 3) x3.toNatClampNeg) + 1) then 30 else (s19 (t + 3) x3.toNatClampNeg) + 1) x3)) else ((vp_in x3 6) ∧ (wp_X8_goYear_j169 K X90 t s19 x1 x2 x3 (if (s19 (t + 3) x3.toNatClampNeg) - 1 < 0 then 0 else (s19 (t + 3) x3.toNatClampNeg) - 1) x3))) s17 x1 x3) else (wp_X8_goYear_j170 K X90 t s17 x1 x2 x3))) else ((vp_in x3 6) ∧ ∀ s20 : ts_S, s20 = ts_u s17 (t + 4) x3.toNatClampNeg (vp_nar .boolean 1) → (wp_X8_goYear_j170 K X90 t s20 x1 x2 x3))) σ x2 x3)
def wp_X8_goYear_l90 (K : ts_S → Prop) (t : Nat) (σ : ts_S) (x1 : Int32) (x2 : Int32) (x3 : Int32) : Prop :=
  ∀ X90 : ts_S → Int32 → Prop, (∀ (σ : ts_S) (x3 : Int32), wp_X8_goYear_b90 K X90 t x1 x2 σ x3 → X90 σ x3) → X90 σ x3
def wp_X8_goYear_j62 (K : ts_S → Prop) (X6 : ts_S → Int32 → Int32 → Int32 → Prop) (t : Nat) (σ : ts_S) (x1 : Int32) (x2 : Int32) (x3 : Int32) (x4 : Int32) : Prop :=
  (vp_in x3 6) ∧ (if (σ (t + 4) x3.toNatClampNeg : Int32) = 0 then (if (x4 : Int32) ≤ 0 then (X6 σ x1 x2 (x3 + 1)) else (X6 σ (x1 ||| (1 <<< (x3 &&& 31))) x2 (x3 + 1))) else (X6 σ x1 x2 (x3 + 1)))
def wp_X8_goYear_b6 (K : ts_S → Prop) (X6 : ts_S → Int32 → Int32 → Int32 → Prop) (t : Nat) (σ : ts_S) (x1 : Int32) (x2 : Int32) (x3 : Int32) : Prop :=
  if (σ (tX_pl t) 1 : Int32) ≤ x3 then (wp_X8_goYear_l90 K t σ x1 x2 0) else ((vp_in x3 6) ∧ (wp_X8_fearOn (fun r21 s22 => (vp_in x3 6) ∧ ((vp_in x3 6) ∧ (if (s22 (t + 4) x3.toNatClampNeg : Int32) = 0 then (if (r21 - (s22 (t + 3) x3.toNatClampNeg) : Int32) < 8 then (wp_X8_goYear_j62 K X6 t s22 x1 x2 x3 (r21 - (s22 (t + 3) x3.toNatClampNeg))) else (X6 s22 x1 (x2 ||| (1 <<< (x3 &&& 31))) (x3 + 1))) else (wp_X8_goYear_j62 K X6 t s22 x1 x2 x3 (r21 - (s22 (t + 3) x3.toNatClampNeg)))))) σ t x3 (σ (t + 1) x3.toNatClampNeg)))
def wp_X8_goYear_l6 (K : ts_S → Prop) (t : Nat) (σ : ts_S) (x1 : Int32) (x2 : Int32) (x3 : Int32) : Prop :=
  ∀ X6 : ts_S → Int32 → Int32 → Int32 → Prop, (∀ (σ : ts_S) (x1 : Int32) (x2 : Int32) (x3 : Int32), wp_X8_goYear_b6 K X6 t  σ x1 x2 x3 → X6 σ x1 x2 x3) → X6 σ x1 x2 x3
def wp_X8_goYear (K : ts_S → Prop) (σ : ts_S) (t : Nat) : Prop :=
  wp_X8_goYear_l6 K t σ 0 0 0
def wp_X8_goYears_b2 (K : ts_S → Prop) (X2 : ts_S → Int32 → Prop) (t : Nat) (a1 : Int32) (σ : ts_S) (x2 : Int32) : Prop :=
  if (a1 : Int32) ≤ x2 then (K σ) else (wp_X8_goYear (fun s4 => X2 s4 (x2 + 1)) σ t)
def wp_X8_goYears_l2 (K : ts_S → Prop) (t : Nat) (a1 : Int32) (σ : ts_S) (x2 : Int32) : Prop :=
  ∀ X2 : ts_S → Int32 → Prop, (∀ (σ : ts_S) (x2 : Int32), wp_X8_goYears_b2 K X2 t a1  σ x2 → X2 σ x2) → X2 σ x2
def wp_X8_goYears (K : ts_S → Prop) (σ : ts_S) (t : Nat) (a1 : Int32) : Prop :=
  wp_X8_goYears_l2 K t a1 σ 0
def wp_X8_mayGoDown (K : Int32 → ts_S → Prop) (σ : ts_S) (t : Nat) (a1 : Int32) : Prop :=
  (vp_in a1 6) ∧ (if (σ (t + 1) a1.toNatClampNeg : Int32) ≤ 0 then ((ts_zb 0) ∧ K 0 σ) else (wp_X8_isSteady (fun r3 s4 => if (r3 : Int32) = 0 then ((ts_zb 0) ∧ K 0 s4) else ((ts_zb 1) ∧ K 1 s4)) σ t a1))
def wp_X8_goDown (K : ts_S → Prop) (σ : ts_S) (t : Nat) (a1 : Int32) : Prop :=
  (vp_in a1 6) ∧ ((vp_in a1 6) ∧ ∀ s2 : ts_S, s2 = ts_u σ (t + 1) a1.toNatClampNeg ((σ (t + 1) a1.toNatClampNeg) - 1) → (K s2))
def wp_X8_mayGoUp (K : Int32 → ts_S → Prop) (σ : ts_S) (t : Nat) (a1 : Int32) : Prop :=
  (vp_in a1 6) ∧ (if ((σ (tX_pl t) 0) - 1 : Int32) ≤ (σ (t + 1) a1.toNatClampNeg) then ((ts_zb 0) ∧ K 0 σ) else ((vp_in a1 6) ∧ (if (σ (t + 4) a1.toNatClampNeg : Int32) = 0 then ((ts_zb 1) ∧ K 1 σ) else ((ts_zb 0) ∧ K 0 σ))))
def wp_X8_goUp (K : ts_S → Prop) (σ : ts_S) (t : Nat) (a1 : Int32) : Prop :=
  (vp_in a1 6) ∧ ((vp_in a1 6) ∧ ∀ s2 : ts_S, s2 = ts_u σ (t + 1) a1.toNatClampNeg ((σ (t + 1) a1.toNatClampNeg) + 1) → (K s2))
def wp_X8_hearCall_b4 (K : ts_S → Prop) (X4 : ts_S → Int32 → Int32 → Prop) (t : Nat) (a1 : Int32) (σ : ts_S) (x2 : Int32) (x3 : Int32) : Prop :=
  if (σ (tX_pl t) 1 : Int32) ≤ x3 then ((vp_in a1 6) ∧ ((vp_in a1 6) ∧ ∀ s5 : ts_S, s5 = ts_u σ (t + 3) a1.toNatClampNeg (if 30 < ((σ (t + 3) a1.toNatClampNeg) + x2) then 30 else (σ (t + 3) a1.toNatClampNeg) + x2) → ((vp_in a1 6) ∧ ∀ s6 : ts_S, s6 = ts_u s5 (t + 5) a1.toNatClampNeg (vp_nar .boolean 1) → (K s6)))) else ((vp_in x3 6) ∧ ((vp_in a1 6) ∧ (if (σ (t + 1) x3.toNatClampNeg : Int32) ≤ (σ (t + 1) a1.toNatClampNeg) then (X4 σ x2 (x3 + 1)) else (wp_X8_isSteady (fun r7 s8 => if (r7 : Int32) = 0 then (X4 s8 x2 (x3 + 1)) else (X4 s8 (x2 + 1) (x3 + 1))) σ t x3))))
def wp_X8_hearCall_l4 (K : ts_S → Prop) (t : Nat) (a1 : Int32) (σ : ts_S) (x2 : Int32) (x3 : Int32) : Prop :=
  ∀ X4 : ts_S → Int32 → Int32 → Prop, (∀ (σ : ts_S) (x2 : Int32) (x3 : Int32), wp_X8_hearCall_b4 K X4 t a1  σ x2 x3 → X4 σ x2 x3) → X4 σ x2 x3
def wp_X8_hearCall (K : ts_S → Prop) (σ : ts_S) (t : Nat) (a1 : Int32) : Prop :=
  wp_X8_hearCall_l4 K t a1 σ 0 0
def wp_X8_goneMany_b4 (K : Int32 → ts_S → Prop) (X4 : ts_S → Int32 → Int32 → Prop) (t : Nat) (σ : ts_S) (x1 : Int32) (x2 : Int32) : Prop :=
  if (σ (tX_pl t) 1 : Int32) ≤ x2 then (K x1 σ) else ((vp_in x2 6) ∧ (wp_X9_asNumber (fun r3 s4 => X4 s4 (x1 + r3) (x2 + 1)) σ (σ (t + 4) x2.toNatClampNeg)))
def wp_X8_goneMany_l4 (K : Int32 → ts_S → Prop) (t : Nat) (σ : ts_S) (x1 : Int32) (x2 : Int32) : Prop :=
  ∀ X4 : ts_S → Int32 → Int32 → Prop, (∀ (σ : ts_S) (x1 : Int32) (x2 : Int32), wp_X8_goneMany_b4 K X4 t  σ x1 x2 → X4 σ x1 x2) → X4 σ x1 x2
def wp_X8_goneMany (K : Int32 → ts_S → Prop) (σ : ts_S) (t : Nat) : Prop :=
  wp_X8_goneMany_l4 K t σ 0 0
def wp_X8_doneMany_b9 (K : Int32 → ts_S → Prop) (X9 : ts_S → Int32 → Int32 → Prop) (t : Nat) (x1 : Int32) (σ : ts_S) (x2 : Int32) (x3 : Int32) : Prop :=
  if (σ (tX_pl t) 2 : Int32) ≤ x3 then (K x2 σ) else (wp_X8_isDone (fun r5 s6 => if (r5 : Int32) = 0 then (X9 s6 x2 (x3 + 1)) else (X9 s6 (x2 + 1) (x3 + 1))) σ t x3 x1)
def wp_X8_doneMany_l9 (K : Int32 → ts_S → Prop) (t : Nat) (σ : ts_S) (x1 : Int32) (x2 : Int32) (x3 : Int32) : Prop :=
  ∀ X9 : ts_S → Int32 → Int32 → Prop, (∀ (σ : ts_S) (x2 : Int32) (x3 : Int32), wp_X8_doneMany_b9 K X9 t x1 σ x2 x3 → X9 σ x2 x3) → X9 σ x2 x3
def wp_X8_doneMany (K : Int32 → ts_S → Prop) (σ : ts_S) (t : Nat) : Prop :=
  wp_X8_steadyBits (fun r7 s8 => wp_X8_doneMany_l9 K t s8 r7 0 0) σ t
def wp_X8_frozenBits_b4 (K : Int32 → ts_S → Prop) (X4 : ts_S → Int32 → Int32 → Prop) (t : Nat) (σ : ts_S) (x1 : Int32) (x2 : Int32) : Prop :=
  if (σ (tX_pl t) 1 : Int32) ≤ x2 then (K x1 σ) else (wp_X8_isFrozen (fun r3 s4 => if (r3 : Int32) = 0 then (X4 s4 x1 (x2 + 1)) else (X4 s4 (x1 ||| (1 <<< (x2 &&& 31))) (x2 + 1))) σ t x2)
def wp_X8_frozenBits_l4 (K : Int32 → ts_S → Prop) (t : Nat) (σ : ts_S) (x1 : Int32) (x2 : Int32) : Prop :=
  ∀ X4 : ts_S → Int32 → Int32 → Prop, (∀ (σ : ts_S) (x1 : Int32) (x2 : Int32), wp_X8_frozenBits_b4 K X4 t  σ x1 x2 → X4 σ x1 x2) → X4 σ x1 x2
def wp_X8_frozenBits (K : Int32 → ts_S → Prop) (σ : ts_S) (t : Nat) : Prop :=
  wp_X8_frozenBits_l4 K t σ 0 0
def wp_J6_bitCount_0f7a4 (K : Int32 → ts_S → Prop) (σ : ts_S) (a0 : Int32) : Prop :=
  K ((((((((a0 - (((a0.toUInt32 >>> (Int32.toUInt32 1 &&& Int32.toUInt32 31)).toInt32) &&& 1431655765)) &&& 858993459) + ((((a0 - (((a0.toUInt32 >>> (Int32.toUInt32 1 &&& Int32.toUInt32 31)).toInt32) &&& 1431655765)).toUInt32 >>> (Int32.toUInt32 2 &&& Int32.toUInt32 31)).toInt32) &&& 858993459)) + (((((a0 - (((a0.toUInt32 >>> (Int32.toUInt32 1 &&& Int32.toUInt32 31)).toInt32) &&& 1431655765)) &&& 858993459) + ((((a0 - (((a0.toUInt32 >>> (Int32.toUInt32 1 &&& Int32.toUInt32 31)).toInt32) &&& 1431655765)).toUInt32 >>> (Int32.toUInt32 2 &&& Int32.toUInt32 31)).toInt32) &&& 858993459)).toUInt32 >>> (Int32.toUInt32 4 &&& Int32.toUInt32 31)).toInt32)) &&& 252645135) + (((((((a0 - (((a0.toUInt32 >>> (Int32.toUInt32 1 &&& Int32.toUInt32 31)).toInt32) &&& 1431655765)) &&& 858993459) + ((((a0 - (((a0.toUInt32 >>> (Int32.toUInt32 1 &&& Int32.toUInt32 31)).toInt32) &&& 1431655765)).toUInt32 >>> (Int32.toUInt32 2 &&& Int32.toUInt32 31)).toInt32) &&& 858993459)) + (((((a0 - (((a0.toUInt32 >>> (Int32.toUInt32 1 &&& Int32.toUInt32 31)).toInt32) &&& 1431655765)) &&& 858993459) + ((((a0 - (((a0.toUInt32 >>> (Int32.toUInt32 1 &&& Int32.toUInt32 31)).toInt32) &&& 1431655765)).toUInt32 >>> (Int32.toUInt32 2 &&& Int32.toUInt32 31)).toInt32) &&& 858993459)).toUInt32 >>> (Int32.toUInt32 4 &&& Int32.toUInt32 31)).toInt32)) &&& 252645135).toUInt32 >>> (Int32.toUInt32 8 &&& Int32.toUInt32 31)).toInt32)) + ((((((((a0 - (((a0.toUInt32 >>> (Int32.toUInt32 1 &&& Int32.toUInt32 31)).toInt32) &&& 1431655765)) &&& 858993459) + ((((a0 - (((a0.toUInt32 >>> (Int32.toUInt32 1 &&& Int32.toUInt32 31)).toInt32) &&& 1431655765)).toUInt32 >>> (Int32.toUInt32 2 &&& Int32.toUInt32 31)).toInt32) &&& 858993459)) + (((((a0 - (((a0.toUInt32 >>> (Int32.toUInt32 1 &&& Int32.toUInt32 31)).toInt32) &&& 1431655765)) &&& 858993459) + ((((a0 - (((a0.toUInt32 >>> (Int32.toUInt32 1 &&& Int32.toUInt32 31)).toInt32) &&& 1431655765)).toUInt32 >>> (Int32.toUInt32 2 &&& Int32.toUInt32 31)).toInt32) &&& 858993459)).toUInt32 >>> (Int32.toUInt32 4 &&& Int32.toUInt32 31)).toInt32)) &&& 252645135) + (((((((a0 - (((a0.toUInt32 >>> (Int32.toUInt32 1 &&& Int32.toUInt32 31)).toInt32) &&& 1431655765)) &&& 858993459) + ((((a0 - (((a0.toUInt32 >>> (Int32.toUInt32 1 &&& Int32.toUInt32 31)).toInt32) &&& 1431655765)).toUInt32 >>> (Int32.toUInt32 2 &&& Int32.toUInt32 31)).toInt32) &&& 858993459)) + (((((a0 - (((a0.toUInt32 >>> (Int32.toUInt32 1 &&& Int32.toUInt32 31)).toInt32) &&& 1431655765)) &&& 858993459) + ((((a0 - (((a0.toUInt32 >>> (Int32.toUInt32 1 &&& Int32.toUInt32 31)).toInt32) &&& 1431655765)).toUInt32 >>> (Int32.toUInt32 2 &&& Int32.toUInt32 31)).toInt32) &&& 858993459)).toUInt32 >>> (Int32.toUInt32 4 &&& Int32.toUInt32 31)).toInt32)) &&& 252645135).toUInt32 >>> (Int32.toUInt32 8 &&& Int32.toUInt32 31)).toInt32)).toUInt32 >>> (Int32.toUInt32 16 &&& Int32.toUInt32 31)).toInt32)) &&& 63) σ
def wp_X9_power_b4 (K : Int32 → ts_S → Prop) (X4 : ts_S → Int32 → Int32 → Prop) (a0 : Int32) (a1 : Int32) (σ : ts_S) (x2 : Int32) (x3 : Int32) : Prop :=
  if (a1 : Int32) ≤ x3 then (K x2 σ) else (X4 σ (x2 * a0) (x3 + 1))
def wp_X9_power_l4 (K : Int32 → ts_S → Prop) (a0 : Int32) (a1 : Int32) (σ : ts_S) (x2 : Int32) (x3 : Int32) : Prop :=
  ∀ X4 : ts_S → Int32 → Int32 → Prop, (∀ (σ : ts_S) (x2 : Int32) (x3 : Int32), wp_X9_power_b4 K X4 a0 a1  σ x2 x3 → X4 σ x2 x3) → X4 σ x2 x3
def wp_X9_power (K : Int32 → ts_S → Prop) (σ : ts_S) (a0 : Int32) (a1 : Int32) : Prop :=
  wp_X9_power_l4 K a0 a1 σ 1 0
def wp_X9_waysOfTen (K : Int32 → ts_S → Prop) (σ : ts_S) (a0 : Int32) (a1 : Int32) (a2 : Int32) : Prop :=
  wp_J6_bitCount_0f7a4 (fun r9 s10 => wp_J6_bitCount_0f7a4 (fun r11 s12 => wp_X9_power (fun r13 s14 => wp_X9_power (fun r15 s16 => K (r13 * r15) s16) s14 (10 - a2) (r11 - r9)) s12 a2 r9) s10 a0) σ a1
def wp_X9_commonDivisor_b2 (K : Int32 → ts_S → Prop) (X2 : ts_S → Int32 → Int32 → Int32 → Prop) (a0 : Int32) (a1 : Int32) (σ : ts_S) (x0 : Int32) (x1 : Int32) (x2 : Int32) : Prop :=
  if (100 : Int32) ≤ x2 then (K x0 σ) else (if (x1 : Int32) = 0 then (K x0 σ) else ((¬ (x1 : Int32) = 0) ∧ (X2 σ x1 (x0 - x0 / x1 * x1) (x2 + 1))))
def wp_X9_commonDivisor_l2 (K : Int32 → ts_S → Prop) (a0 : Int32) (a1 : Int32) (σ : ts_S) (x0 : Int32) (x1 : Int32) (x2 : Int32) : Prop :=
  ∀ X2 : ts_S → Int32 → Int32 → Int32 → Prop, (∀ (σ : ts_S) (x0 : Int32) (x1 : Int32) (x2 : Int32), wp_X9_commonDivisor_b2 K X2 a0 a1  σ x0 x1 x2 → X2 σ x0 x1 x2) → X2 σ x0 x1 x2
def wp_X9_commonDivisor (K : Int32 → ts_S → Prop) (σ : ts_S) (a0 : Int32) (a1 : Int32) : Prop :=
  wp_X9_commonDivisor_l2 K a0 a1 σ a0 a1 0
def wp_X9_drawOf (K : Int32 → ts_S → Prop) (σ : ts_S) (a0 : Int32) (a1 : Int32) : Prop :=
  (¬ (65521 : Int64) = 0) ∧ ((¬ (2 : Int64) = 0) ∧ (K (((((((7919 * a0.toInt64) + (6151 * a1.toInt64)) + 1) * (((7919 * a0.toInt64) + (6151 * a1.toInt64)) + 1)) - ((((7919 * a0.toInt64) + (6151 * a1.toInt64)) + 1) * (((7919 * a0.toInt64) + (6151 * a1.toInt64)) + 1)) / 65521 * 65521) / 2).toInt32) σ))
def wp_X8_actBy_j72 (K : ts_S → Prop) (t : Nat) (a1 : Int32) (σ : ts_S) (x2 : Int32) (x3 : Int32) : Prop :=
  if (x3 : Int32) = 3 then (wp_X8_mayBeCalled (fun r13 s14 => if (r13 : Int32) = 0 then (K s14) else (wp_X8_hearCall (fun s16 => K s16) s14 t x2)) σ t x2) else (K σ)
def wp_X8_actBy_j51 (K : ts_S → Prop) (t : Nat) (a1 : Int32) (σ : ts_S) (x2 : Int32) (x3 : Int32) : Prop :=
  if (x3 : Int32) = 2 then (wp_X8_mayGoUp (fun r17 s18 => if (r17 : Int32) = 0 then (wp_X8_actBy_j72 K t a1 s18 x2 x3) else (wp_X8_goUp (fun s20 => K s20) s18 t x2)) σ t x2) else (wp_X8_actBy_j72 K t a1 σ x2 x3)
def wp_X8_actBy (K : ts_S → Prop) (σ : ts_S) (t : Nat) (a1 : Int32) : Prop :=
  if (1 : Int32) ≤ (σ (tX_pl t) 1) then ((¬ (σ (tX_pl t) 1 : Int32) = 0) ∧ ((¬ (8 : Int32) = 0) ∧ ((¬ (6 : Int32) = 0) ∧ (if (1 : Int32) < ((a1 / 8) - (a1 / 8) / 6 * 6) then (wp_X8_actBy_j51 K t a1 σ (a1 - a1 / (σ (tX_pl t) 1) * (σ (tX_pl t) 1)) ((a1 / 8) - (a1 / 8) / 6 * 6)) else (wp_X8_mayGoDown (fun r21 s22 => if (r21 : Int32) = 0 then (wp_X8_actBy_j51 K t a1 s22 (a1 - a1 / (σ (tX_pl t) 1) * (σ (tX_pl t) 1)) ((a1 / 8) - (a1 / 8) / 6 * 6)) else (wp_X8_goDown (fun s24 => K s24) s22 t (a1 - a1 / (σ (tX_pl t) 1) * (σ (tX_pl t) 1)))) σ t (a1 - a1 / (σ (tX_pl t) 1) * (σ (tX_pl t) 1))))))) else (K σ)
def wp_X8_stepsTogether_b4 (K : Int32 → ts_S → Prop) (X4 : ts_S → Int32 → Int32 → Prop) (t : Nat) (σ : ts_S) (x1 : Int32) (x2 : Int32) : Prop :=
  if (σ (tX_pl t) 1 : Int32) ≤ x2 then (K x1 σ) else ((vp_in x2 6) ∧ (if (σ (t + 4) x2.toNatClampNeg : Int32) = 0 then ((vp_in x2 6) ∧ (X4 σ (x1 + (σ (t + 1) x2.toNatClampNeg)) (x2 + 1))) else (X4 σ (x1 + 0) (x2 + 1))))
def wp_X8_stepsTogether_l4 (K : Int32 → ts_S → Prop) (t : Nat) (σ : ts_S) (x1 : Int32) (x2 : Int32) : Prop :=
  ∀ X4 : ts_S → Int32 → Int32 → Prop, (∀ (σ : ts_S) (x1 : Int32) (x2 : Int32), wp_X8_stepsTogether_b4 K X4 t  σ x1 x2 → X4 σ x1 x2) → X4 σ x1 x2
def wp_X8_stepsTogether (K : Int32 → ts_S → Prop) (σ : ts_S) (t : Nat) : Prop :=
  wp_X8_stepsTogether_l4 K t σ 0 0
