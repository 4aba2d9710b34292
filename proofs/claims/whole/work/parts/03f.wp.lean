def wp_X10_clearTold_b18 (K : ts_S → Prop) (X18 : ts_S → Int32 → Prop)  (σ : ts_S) (x1 : Int32) : Prop :=
  if (21 : Int32) ≤ x1 then (K σ) else ((vp_in x1 21) ∧ ∀ s5 : ts_S, s5 = ts_u σ 10 x1.toNatClampNeg 0 → (X18 s5 (x1 + 1)))
def wp_X10_clearTold_l18 (K : ts_S → Prop)  (σ : ts_S) (x1 : Int32) : Prop :=
  ∀ X18 : ts_S → Int32 → Prop, (∀ (σ : ts_S) (x1 : Int32), wp_X10_clearTold_b18 K X18   σ x1 → X18 σ x1) → X18 σ x1
def wp_X10_clearTold (K : ts_S → Prop) (σ : ts_S)  : Prop :=
  ∀ s6 : ts_S, s6 = ts_u σ 0 16 6 → (∀ s7 : ts_S, s7 = ts_u s6 0 17 0 → (∀ s8 : ts_S, s8 = ts_u s7 0 20 0 → (wp_X10_clearTold_l18 K  s8 0)))
def wp_X10_tellsPerson (K : ts_S → Prop) (σ : ts_S) (a1 : Int32) (a2 : Int32) (a3 : Int32) (a4 : Int32) : Prop :=
  (vp_in (σ 0 17) 6) ∧ ∀ s6 : ts_S, s6 = ts_u σ 9 (σ 0 17).toNatClampNeg a1 → ((vp_in (3 + (s6 0 17)) 21) ∧ ∀ s7 : ts_S, s7 = ts_u s6 10 (3 + (s6 0 17)).toNatClampNeg a2 → ((vp_in (9 + (s7 0 17)) 21) ∧ ∀ s8 : ts_S, s8 = ts_u s7 10 (9 + (s7 0 17)).toNatClampNeg a3 → ((vp_in (15 + (s8 0 17)) 21) ∧ ∀ s9 : ts_S, s9 = ts_u s8 10 (15 + (s8 0 17)).toNatClampNeg a4 → (∀ s10 : ts_S, s10 = ts_u s9 0 17 ((s9 0 17) + 1) → (K s10)))))
def wp_X10_tellsWork (K : ts_S → Prop) (σ : ts_S) (a1 : Int32) (a2 : Int32) : Prop :=
  (vp_in (2 * (σ 0 20)) 10) ∧ ∀ s4 : ts_S, s4 = ts_u σ 11 (2 * (σ 0 20)).toNatClampNeg a1 → ((vp_in ((2 * (s4 0 20)) + 1) 10) ∧ ∀ s5 : ts_S, s5 = ts_u s4 11 ((2 * (s4 0 20)) + 1).toNatClampNeg a2 → (∀ s6 : ts_S, s6 = ts_u s5 0 20 ((s5 0 20) + 1) → (K s6)))
def wp_X10_copies_b3 (K : ts_S → Prop) (X3 : ts_S → Int32 → Prop) (t0 : Nat) (a1 : Int32) (t2 : Nat) (a3 : Int32) (a4 : Int32) (σ : ts_S) (x5 : Int32) : Prop :=
  if (a4 : Int32) ≤ x5 then (K σ) else ((vp_in (a3 + x5) (tM_len t2)) ∧ ((vp_in (a1 + x5) (tM_len t0)) ∧ ∀ s2 : ts_S, s2 = ts_u σ t0 (a1 + x5).toNatClampNeg (σ t2 (a3 + x5).toNatClampNeg) → (X3 s2 (x5 + 1))))
def wp_X10_copies_l3 (K : ts_S → Prop) (t0 : Nat) (a1 : Int32) (t2 : Nat) (a3 : Int32) (a4 : Int32) (σ : ts_S) (x5 : Int32) : Prop :=
  ∀ X3 : ts_S → Int32 → Prop, (∀ (σ : ts_S) (x5 : Int32), wp_X10_copies_b3 K X3 t0 a1 t2 a3 a4  σ x5 → X3 σ x5) → X3 σ x5
def wp_X10_copies (K : ts_S → Prop) (σ : ts_S) (t0 : Nat) (a1 : Int32) (t2 : Nat) (a3 : Int32) (a4 : Int32) : Prop :=
  wp_X10_copies_l3 K t0 a1 t2 a3 a4 σ 0
def wp_X10_settles (K : ts_S → Prop) (σ : ts_S)  : Prop :=
  ∀ s13 : ts_S, s13 = ts_u σ 0 0 (σ 0 16) → (∀ s14 : ts_S, s14 = ts_u s13 0 1 (s13 0 17) → (wp_X10_copies (fun s16 => ∀ s17 : ts_S, s17 = ts_u s16 0 3 (s16 0 20) → (wp_X10_copies (fun s19 => wp_X10_copies (fun s21 => ∀ s22 : ts_S, s22 = ts_u s21 0 6 0 → (∀ s23 : ts_S, s23 = ts_u s22 0 8 0 → (∀ s24 : ts_S, s24 = ts_u s23 0 10 0 → (K s24)))) s19 3 0 10 0 21) s17 2 0 11 0 10)) s14 1 0 9 0 6))
def wp_X10_in (K : Int32 → ts_S → Prop) (σ : ts_S) (a0 : Int32) (a1 : Int32) (a2 : Int32) : Prop :=
  if (a0 : Int32) < a1 then ((ts_zb 0) ∧ K 0 σ) else (if (a2 : Int32) < a0 then ((ts_zb 0) ∧ K 0 σ) else ((ts_zb 1) ∧ K 1 σ))
def wp_X10_write (K : Int32 → ts_S → Prop) (σ : ts_S) (a1 : Int32) : Prop :=
  wp_X10_in (fun r5 s6 => if (r5 : Int32) = 0 then (K (-1) s6) else (if (s6 0 13 : Int32) = 200 then (K (-3) s6) else ((vp_in (s6 0 13) 200) ∧ ∀ s7 : ts_S, s7 = ts_u s6 7 (s6 0 13).toNatClampNeg a1 → (∀ s8 : ts_S, s8 = ts_u s7 0 13 ((s7 0 13) + 1) → (K (s8 0 13) s8))))) σ a1 32 126
def wp_X10_wipe (K : Int32 → ts_S → Prop) (σ : ts_S)  : Prop :=
  ∀ s2 : ts_S, s2 = ts_u σ 0 13 0 → (K (σ 0 13) s2)
def wp_X10_letterAt (K : Int32 → ts_S → Prop) (σ : ts_S) (a1 : Int32) : Prop :=
  if (σ 0 13 : Int32) ≤ a1 then (K (-1) σ) else ((vp_in a1 200) ∧ (K (σ 7 a1.toNatClampNeg) σ))
def wp_X10_isFigure (K : Int32 → ts_S → Prop) (σ : ts_S) (a0 : Int32) : Prop :=
  wp_X10_in (fun r3 s4 => (ts_zb r3) ∧ K r3 s4) σ a0 48 57
def wp_X10_readNumbers_j123 (K : Int32 → ts_S → Prop) (X2 : ts_S → Int32 → Prop) (a1 : Int32) (σ : ts_S) (x2 : Int32) (y0 : Int32) (y1 : Int32) : Prop :=
  if (y1 : Int32) = y0 then (∀ s20 : ts_S, s20 = ts_u σ 0 14 ((σ 0 14) + 1) → (X2 s20 (x2 + 1))) else ((ts_zb 0) ∧ K 0 σ)
def wp_X10_readNumbers_j101 (K : Int32 → ts_S → Prop) (X2 : ts_S → Int32 → Prop) (a1 : Int32) (σ : ts_S) (x2 : Int32) : Prop :=
  wp_X10_letterAt (fun r21 s22 => if (a1 - 1 : Int32) ≤ x2 then (wp_X10_readNumbers_j123 K X2 a1 s22 x2 59 r21) else (wp_X10_readNumbers_j123 K X2 a1 s22 x2 44 r21)) σ (σ 0 14)
def wp_X10_readNumbers_b2 (K : Int32 → ts_S → Prop) (X2 : ts_S → Int32 → Prop) (a1 : Int32) (σ : ts_S) (x2 : Int32) : Prop :=
  if (a1 : Int32) ≤ x2 then ((ts_zb 1) ∧ K 1 σ) else (wp_X10_letterAt (fun r23 s24 => wp_X10_isFigure (fun r25 s26 => if (r25 : Int32) = 0 then ((ts_zb 0) ∧ K 0 s26) else (wp_X10_letterAt (fun r27 s28 => (vp_in x2 4) ∧ ∀ s29 : ts_S, s29 = ts_u s28 8 x2.toNatClampNeg (r27 - 48) → (∀ s30 : ts_S, s30 = ts_u s29 0 14 ((s29 0 14) + 1) → (wp_X10_letterAt (fun r31 s32 => wp_X10_isFigure (fun r33 s34 => if (r33 : Int32) = 0 then (wp_X10_readNumbers_j101 K X2 a1 s34 x2) else ((vp_in x2 4) ∧ (wp_X10_letterAt (fun r35 s36 => (vp_in x2 4) ∧ ∀ s37 : ts_S, s37 = ts_u s36 8 x2.toNatClampNeg (((10 * (s34 8 x2.toNatClampNeg)) + r35) - 48) → (∀ s38 : ts_S, s38 = ts_u s37 0 14 ((s37 0 14) + 1) → (wp_X10_readNumbers_j101 K X2 a1 s38 x2))) s34 (s34 0 14)))) s32 r31) s30 (s30 0 14)))) s26 (s26 0 14))) s24 r23) σ (σ 0 14))
def wp_X10_readNumbers_l2 (K : Int32 → ts_S → Prop) (a1 : Int32) (σ : ts_S) (x2 : Int32) : Prop :=
  ∀ X2 : ts_S → Int32 → Prop, (∀ (σ : ts_S) (x2 : Int32), wp_X10_readNumbers_b2 K X2 a1  σ x2 → X2 σ x2) → X2 σ x2
def wp_X10_readNumbers (K : Int32 → ts_S → Prop) (σ : ts_S) (a1 : Int32) : Prop :=
  wp_X10_readNumbers_l2 K a1 σ 0
def wp_X10_isTold (K : Int32 → ts_S → Prop) (σ : ts_S) (a1 : Int32) (a2 : Int32) (a3 : Int32) : Prop :=
  (vp_in a1 4) ∧ (wp_X10_in (fun r3 s4 => (ts_zb r3) ∧ K r3 s4) σ (σ 8 a1.toNatClampNeg) a2 a3)
def wp_X10_readHeightOf_j43 (K : Int32 → ts_S → Prop)  (σ : ts_S) (x1 : Int32) (y0 : Int32) : Prop :=
  ∀ s6 : ts_S, s6 = ts_u σ 0 16 y0 → ((ts_zb x1) ∧ K x1 s6)
def wp_X10_readHeightOf_j24 (K : Int32 → ts_S → Prop)  (σ : ts_S) (y0 : Int32) : Prop :=
  if (y0 : Int32) = 0 then (wp_X10_readHeightOf_j43 K  σ y0 (σ 0 16)) else ((vp_in 0 4) ∧ (wp_X10_readHeightOf_j43 K  σ y0 (σ 8 (0 : Int32).toNatClampNeg)))
def wp_X10_readHeightOf (K : Int32 → ts_S → Prop) (σ : ts_S)  : Prop :=
  wp_X10_readNumbers (fun r7 s8 => if (r7 : Int32) = 0 then (wp_X10_readHeightOf_j24 K  s8 0) else (wp_X10_isTold (fun r9 s10 => if (r9 : Int32) = 0 then (wp_X10_readHeightOf_j24 K  s10 0) else (wp_X10_readHeightOf_j24 K  s10 1)) s8 0 2 10)) σ 1
def wp_X10_readPersonItem (K : Int32 → ts_S → Prop) (σ : ts_S)  : Prop :=
  if (σ 0 17 : Int32) = 6 then ((ts_zb 0) ∧ K 0 σ) else (wp_X10_readNumbers (fun r13 s14 => if (r13 : Int32) = 0 then ((ts_zb 0) ∧ K 0 s14) else (wp_X10_isTold (fun r15 s16 => if (r15 : Int32) = 0 then ((ts_zb 0) ∧ K 0 s16) else (wp_X10_isTold (fun r17 s18 => if (r17 : Int32) = 0 then ((ts_zb 0) ∧ K 0 s18) else (wp_X10_isTold (fun r19 s20 => if (r19 : Int32) = 0 then ((ts_zb 0) ∧ K 0 s20) else (wp_X10_isTold (fun r21 s22 => if (r21 : Int32) = 0 then ((ts_zb 0) ∧ K 0 s22) else ((vp_in 0 4) ∧ ((vp_in 1 4) ∧ ((vp_in 2 4) ∧ ((vp_in 3 4) ∧ (wp_X10_tellsPerson (fun s24 => (ts_zb 1) ∧ K 1 s24) s22 (s22 8 (0 : Int32).toNatClampNeg) (s22 8 (1 : Int32).toNatClampNeg) (s22 8 (2 : Int32).toNatClampNeg) (s22 8 (3 : Int32).toNatClampNeg))))))) s20 3 0 30)) s18 2 12 60)) s16 1 0 ((s16 0 16) - 1))) s14 0 0 3)) σ 4)
def wp_X10_readWorkItem (K : Int32 → ts_S → Prop) (σ : ts_S)  : Prop :=
  if (σ 0 20 : Int32) = 5 then ((ts_zb 0) ∧ K 0 σ) else (wp_X10_readNumbers (fun r9 s10 => if (r9 : Int32) = 0 then ((ts_zb 0) ∧ K 0 s10) else (wp_X10_isTold (fun r11 s12 => if (r11 : Int32) = 0 then ((ts_zb 0) ∧ K 0 s12) else (wp_X10_isTold (fun r13 s14 => if (r13 : Int32) = 0 then ((ts_zb 0) ∧ K 0 s14) else ((vp_in 0 4) ∧ ((vp_in 1 4) ∧ (wp_X10_tellsWork (fun s16 => (ts_zb 1) ∧ K 1 s16) s14 (s14 8 (0 : Int32).toNatClampNeg) (s14 8 (1 : Int32).toNatClampNeg))))) s12 1 1 4)) s10 0 0 ((s10 0 16) - 1))) σ 2)
def wp_X10_readItem_j21 (K : Int32 → ts_S → Prop)  (σ : ts_S) (x1 : Int32) (y0 : Int32) : Prop :=
  ∀ s10 : ts_S, s10 = ts_u σ 0 14 ((σ 0 14) + 1) → (if (x1 : Int32) = 104 then (if (y0 : Int32) = 0 then ((ts_zb 0) ∧ K 0 s10) else (wp_X10_readHeightOf (fun r11 s12 => if (r11 : Int32) = 0 then ((ts_zb 0) ∧ K 0 s12) else ((ts_zb 1) ∧ K 1 s12)) s10 )) else (if (x1 : Int32) = 112 then (wp_X10_readPersonItem (fun r13 s14 => (ts_zb r13) ∧ K r13 s14) s10 ) else (if (x1 : Int32) = 119 then (wp_X10_readWorkItem (fun r15 s16 => (ts_zb r15) ∧ K r15 s16) s10 ) else ((ts_zb 0) ∧ K 0 s10))))
def wp_X10_readItem (K : Int32 → ts_S → Prop) (σ : ts_S)  : Prop :=
  wp_X10_letterAt (fun r17 s18 => if (s18 0 14 : Int32) = 0 then (wp_X10_readItem_j21 K  s18 r17 1) else (wp_X10_readItem_j21 K  s18 r17 0)) σ (σ 0 14)
def wp_X10_fault_b9 (K : Int32 → ts_S → Prop) (X9 : ts_S → Prop)  (σ : ts_S) : Prop :=
  if (σ 0 13 : Int32) ≤ (σ 0 14) then (K (-4) σ) else (wp_X10_readItem (fun r6 s7 => if (r6 : Int32) = 0 then (K (σ 0 14) s7) else (X9 s7)) σ )
def wp_X10_fault_l9 (K : Int32 → ts_S → Prop)  (σ : ts_S) : Prop :=
  ∀ X9 : ts_S → Prop, (∀ (σ : ts_S), wp_X10_fault_b9 K X9   σ  → X9 σ ) → X9 σ 
def wp_X10_fault (K : Int32 → ts_S → Prop) (σ : ts_S)  : Prop :=
  ∀ s8 : ts_S, s8 = ts_u σ 0 14 0 → (wp_X10_clearTold (fun s10 => wp_X10_fault_l9 K  s10) s8 )
def wp_X10_lay (K : Int32 → ts_S → Prop) (σ : ts_S)  : Prop :=
  wp_X10_fault (fun r5 s6 => if (r5 : Int32) = (-4) then (if (s6 0 17 : Int32) = 0 then (K (-2) s6) else (wp_X10_settles (fun s8 => K (s8 0 1) s8) s6 )) else (K (-2) s6)) σ 
def wp_X10_isPerson (K : Int32 → ts_S → Prop) (σ : ts_S) (a1 : Int32) : Prop :=
  wp_X10_in (fun r3 s4 => (ts_zb r3) ∧ K r3 s4) σ a1 0 ((σ 0 1) - 1)
def wp_X10_asItIs (K : ts_S → Prop) (σ : ts_S)  : Prop :=
  wp_X10_copies (fun s4 => K s4) σ 12 0 3 0 21
def wp_X10_has (K : Int32 → ts_S → Prop) (σ : ts_S) (a0 : Int32) (a1 : Int32) : Prop :=
  if ((a0 >>> (a1 &&& 31)) &&& 1 : Int32) = 1 then ((ts_zb 1) ∧ K 1 σ) else ((ts_zb 0) ∧ K 0 σ)
def wp_X10_canCall (K : Int32 → ts_S → Prop) (σ : ts_S) (a1 : Int32) : Prop :=
  (vp_in 1 21) ∧ ((vp_in 2 21) ∧ (wp_X10_has (fun r3 s4 => if (r3 : Int32) = 0 then ((ts_zb 1) ∧ K 1 s4) else ((ts_zb 0) ∧ K 0 s4)) σ ((σ 12 (1 : Int32).toNatClampNeg) ||| (σ 12 (2 : Int32).toNatClampNeg)) a1))
def wp_X10_fearAs_j130 (K : Int32 → ts_S → Prop) (a1 : Int32) (a2 : Int32) (a3 : Int32) (σ : ts_S) (x4 : Int32) : Prop :=
  if (0 : Int32) ≤ x4 then (K x4 σ) else (K 0 σ)
def wp_X10_fearAs_b67 (K : Int32 → ts_S → Prop) (X67 : ts_S → Int32 → Int32 → Prop) (a1 : Int32) (a2 : Int32) (a3 : Int32) (σ : ts_S) (x4 : Int32) (x5 : Int32) : Prop :=
  if (σ 0 1 : Int32) ≤ x5 then (wp_X10_fearAs_j130 K a1 a2 a3 σ x4) else (if (a3 : Int32) = 3 then (if (x5 : Int32) = a1 then (X67 σ (x4 - 0) (x5 + 1)) else ((vp_in (3 + x5) 21) ∧ (if (σ 12 (3 + x5).toNatClampNeg : Int32) = a2 then ((vp_in 1 21) ∧ (wp_X10_has (fun r3 s4 => if (r3 : Int32) = 0 then (X67 s4 (x4 - 2) (x5 + 1)) else (X67 s4 (x4 - 0) (x5 + 1))) σ (σ 12 (1 : Int32).toNatClampNeg) x5)) else (X67 σ (x4 - 0) (x5 + 1))))) else (wp_X10_fearAs_j130 K a1 a2 a3 σ x4))
def wp_X10_fearAs_l67 (K : Int32 → ts_S → Prop) (a1 : Int32) (a2 : Int32) (a3 : Int32) (σ : ts_S) (x4 : Int32) (x5 : Int32) : Prop :=
  ∀ X67 : ts_S → Int32 → Int32 → Prop, (∀ (σ : ts_S) (x4 : Int32) (x5 : Int32), wp_X10_fearAs_b67 K X67 a1 a2 a3  σ x4 x5 → X67 σ x4 x5) → X67 σ x4 x5
def wp_X10_fearAs (K : Int32 → ts_S → Prop) (σ : ts_S) (a1 : Int32) (a2 : Int32) (a3 : Int32) : Prop :=
  if (a3 : Int32) = 1 then ((¬ (2 : Int32) = 0) ∧ (K ((2 * (((σ 0 0) - 1) - a2)) / 2) σ)) else (if (a3 : Int32) = 2 then ((vp_in (9 + a1) 21) ∧ (if (20 : Int32) ≤ (σ 12 (9 + a1).toNatClampNeg) then ((vp_in (9 + a1) 21) ∧ ((¬ (5 : Int32) = 0) ∧ (K ((2 * (((σ 0 0) - 1) - a2)) + (((σ 12 (9 + a1).toNatClampNeg) - 20) / 5)) σ))) else (K (2 * (((σ 0 0) - 1) - a2)) σ))) else (wp_X10_fearAs_l67 K a1 a2 a3 σ (2 * (((σ 0 0) - 1) - a2)) 0))
def wp_X10_fearOf (K : Int32 → ts_S → Prop) (σ : ts_S) (a1 : Int32) : Prop :=
  (vp_in (3 + a1) 21) ∧ ((vp_in a1 6) ∧ (wp_X10_fearAs (fun r3 s4 => K r3 s4) σ a1 (σ 12 (3 + a1).toNatClampNeg) (σ 1 a1.toNatClampNeg)))
def wp_X10_frozen_b4 (K : Int32 → ts_S → Prop) (X4 : ts_S → Int32 → Int32 → Prop)  (σ : ts_S) (x1 : Int32) (x2 : Int32) : Prop :=
  if (σ 0 1 : Int32) ≤ x2 then (K x1 σ) else ((vp_in 1 21) ∧ (wp_X10_has (fun r5 s6 => if (r5 : Int32) = 0 then (wp_X10_fearOf (fun r7 s8 => (vp_in (15 + x2) 21) ∧ (if (r7 : Int32) ≤ (s8 12 (15 + x2).toNatClampNeg) then (X4 s8 (x1 ||| 0) (x2 + 1)) else (X4 s8 (x1 ||| (1 <<< (x2 &&& 31))) (x2 + 1)))) s6 x2) else (X4 s6 (x1 ||| 0) (x2 + 1))) σ (σ 12 (1 : Int32).toNatClampNeg) x2))
def wp_X10_frozen_l4 (K : Int32 → ts_S → Prop)  (σ : ts_S) (x1 : Int32) (x2 : Int32) : Prop :=
  ∀ X4 : ts_S → Int32 → Int32 → Prop, (∀ (σ : ts_S) (x1 : Int32) (x2 : Int32), wp_X10_frozen_b4 K X4   σ x1 x2 → X4 σ x1 x2) → X4 σ x1 x2
def wp_X10_frozen (K : Int32 → ts_S → Prop) (σ : ts_S)  : Prop :=
  wp_X10_frozen_l4 K  σ 0 0
def wp_X10_person (K : Int32 → ts_S → Prop) (σ : ts_S) (a1 : Int32) (a2 : Int32) : Prop :=
  wp_X10_isPerson (fun r15 s16 => if (r15 : Int32) = 0 then (K (-1) s16) else (wp_X10_asItIs (fun s18 => if (a2 : Int32) = 0 then ((vp_in a1 6) ∧ (K (s18 1 a1.toNatClampNeg) s18)) else (if (a2 : Int32) = 1 then ((vp_in (3 + a1) 21) ∧ (K (s18 3 (3 + a1).toNatClampNeg) s18)) else (if (a2 : Int32) = 2 then ((vp_in (9 + a1) 21) ∧ (K (s18 3 (9 + a1).toNatClampNeg) s18)) else (if (a2 : Int32) = 3 then ((vp_in (15 + a1) 21) ∧ (K (s18 3 (15 + a1).toNatClampNeg) s18)) else (if (a2 : Int32) = 4 then (wp_X10_fearOf (fun r19 s20 => K r19 s20) s18 a1) else (if (a2 : Int32) = 5 then (wp_X10_frozen (fun r21 s22 => wp_X10_has (fun r23 s24 => if (r23 : Int32) = 0 then (K 0 s24) else (K 1 s24)) s22 r21 a1) s18 ) else (if (a2 : Int32) = 6 then ((vp_in 1 21) ∧ (wp_X10_has (fun r25 s26 => if (r25 : Int32) = 0 then (K 0 s26) else (K 1 s26)) s18 (s18 3 (1 : Int32).toNatClampNeg) a1)) else (if (a2 : Int32) = 7 then (wp_X10_canCall (fun r27 s28 => if (r27 : Int32) = 0 then (K 0 s28) else (K 1 s28)) s18 a1) else (K (-1) s18))))))))) s16 )) σ a1
def wp_X10_isStep (K : Int32 → ts_S → Prop) (σ : ts_S) (a1 : Int32) : Prop :=
  wp_X10_in (fun r3 s4 => (ts_zb r3) ∧ K r3 s4) σ a1 0 ((σ 0 0) - 1)
def wp_X10_fear (K : Int32 → ts_S → Prop) (σ : ts_S) (a1 : Int32) (a2 : Int32) : Prop :=
  wp_X10_isPerson (fun r9 s10 => if (r9 : Int32) = 0 then (K (-1) s10) else (wp_X10_isStep (fun r11 s12 => if (r11 : Int32) = 0 then (K (-1) s12) else (wp_X10_asItIs (fun s14 => (vp_in a1 6) ∧ (wp_X10_fearAs (fun r15 s16 => K r15 s16) s14 a1 a2 (s14 1 a1.toNatClampNeg))) s12 )) s10 a2)) σ a1
def wp_X10_isDone_b5 (K : Int32 → ts_S → Prop) (X5 : ts_S → Int32 → Int32 → Prop) (a1 : Int32) (a2 : Int32) (σ : ts_S) (x3 : Int32) (x4 : Int32) : Prop :=
  if (σ 0 1 : Int32) ≤ x4 then ((vp_in ((2 * a1) + 1) 10) ∧ (if (x3 : Int32) < (σ 2 ((2 * a1) + 1).toNatClampNeg) then ((ts_zb 0) ∧ K 0 σ) else ((ts_zb 1) ∧ K 1 σ))) else ((vp_in (3 + x4) 21) ∧ ((vp_in (2 * a1) 10) ∧ (if (σ 12 (3 + x4).toNatClampNeg : Int32) = (σ 2 (2 * a1).toNatClampNeg) then ((vp_in 1 21) ∧ (wp_X10_has (fun r3 s4 => if (r3 : Int32) = 0 then (X5 s4 (x3 + 1) (x4 + 1)) else (X5 s4 (x3 + 0) (x4 + 1))) σ (a2 ||| (σ 12 (1 : Int32).toNatClampNeg)) x4)) else (X5 σ (x3 + 0) (x4 + 1)))))
def wp_X10_isDone_l5 (K : Int32 → ts_S → Prop) (a1 : Int32) (a2 : Int32) (σ : ts_S) (x3 : Int32) (x4 : Int32) : Prop :=
  ∀ X5 : ts_S → Int32 → Int32 → Prop, (∀ (σ : ts_S) (x3 : Int32) (x4 : Int32), wp_X10_isDone_b5 K X5 a1 a2  σ x3 x4 → X5 σ x3 x4) → X5 σ x3 x4
def wp_X10_isDone (K : Int32 → ts_S → Prop) (σ : ts_S) (a1 : Int32) (a2 : Int32) : Prop :=
  wp_X10_isDone_l5 K a1 a2 σ 0 0
def wp_X10_work (K : Int32 → ts_S → Prop) (σ : ts_S) (a1 : Int32) (a2 : Int32) : Prop :=
  wp_X10_in (fun r11 s12 => if (r11 : Int32) = 0 then (K (-1) s12) else (wp_X10_in (fun r13 s14 => if (r13 : Int32) = 0 then (K (-1) s14) else (wp_X10_asItIs (fun s16 => if (2 : Int32) ≤ a2 then (wp_X10_frozen (fun r17 s18 => wp_X10_isDone (fun r19 s20 => if (r19 : Int32) = 0 then (K 0 s20) else (K 1 s20)) s18 a1 r17) s16 ) else ((vp_in ((2 * a1) + a2) 10) ∧ (K (s16 2 ((2 * a1) + a2).toNatClampNeg) s16))) s14 )) s12 a2 0 2)) σ a1 0 ((σ 0 3) - 1)
def wp_X10_goesBy_j182 (K : ts_S → Prop) (X63 : ts_S → Int32 → Prop)  (σ : ts_S) (x1 : Int32) (x2 : Int32) (x3 : Int32) (y0 : Int32) (y1 : Int32) (y2 : Int32) : Prop :=
  (vp_in y2 21) ∧ ∀ s16 : ts_S, s16 = ts_u σ 12 y2.toNatClampNeg (y1 + y0) → (X63 s16 (x3 + 1))
def wp_X10_goesBy_j153 (K : ts_S → Prop) (X63 : ts_S → Int32 → Prop)  (σ : ts_S) (x1 : Int32) (x2 : Int32) (x3 : Int32) : Prop :=
  (vp_in (9 + x3) 21) ∧ ((vp_in (9 + x3) 21) ∧ (if (99 : Int32) ≤ (σ 12 (9 + x3).toNatClampNeg) then (wp_X10_goesBy_j182 K X63  σ x1 x2 x3 0 (σ 12 (9 + x3).toNatClampNeg) (9 + x3)) else (wp_X10_goesBy_j182 K X63  σ x1 x2 x3 1 (σ 12 (9 + x3).toNatClampNeg) (9 + x3))))
def wp_X10_goesBy_j152 (K : ts_S → Prop) (X63 : ts_S → Int32 → Prop)  (σ : ts_S) (x1 : Int32) (x2 : Int32) (x3 : Int32) (y0 : Int32) (y1 : Int32) : Prop :=
  (vp_in y1 21) ∧ ∀ s17 : ts_S, s17 = ts_u σ 12 y1.toNatClampNeg y0 → (wp_X10_goesBy_j153 K X63  s17 x1 x2 x3)
def wp_X10_goesBy_j119 (K : ts_S → Prop) (X63 : ts_S → Int32 → Prop)  (σ : ts_S) (x1 : Int32) (x2 : Int32) (x3 : Int32) (y0 : Int32) : Prop :=
  if (0 : Int32) ≤ y0 then (if (y0 : Int32) ≤ 30 then (wp_X10_goesBy_j152 K X63  σ x1 x2 x3 y0 (15 + x3)) else (wp_X10_goesBy_j152 K X63  σ x1 x2 x3 30 (15 + x3))) else (wp_X10_goesBy_j152 K X63  σ x1 x2 x3 0 (15 + x3))
def wp_X10_goesBy_b63 (K : ts_S → Prop) (X63 : ts_S → Int32 → Prop)  (x1 : Int32) (x2 : Int32) (σ : ts_S) (x3 : Int32) : Prop :=
  if (σ 0 1 : Int32) ≤ x3 then ((vp_in 1 21) ∧ ((vp_in 1 21) ∧ ∀ s18 : ts_S, s18 = ts_u σ 12 (1 : Int32).toNatClampNeg ((σ 12 (1 : Int32).toNatClampNeg) ||| x2) → ((vp_in 2 21) ∧ ∀ s19 : ts_S, s19 = ts_u s18 12 (2 : Int32).toNatClampNeg 0 → ((vp_in 0 21) ∧ ((vp_in 0 21) ∧ ∀ s20 : ts_S, s20 = ts_u s19 12 (0 : Int32).toNatClampNeg ((s19 12 (0 : Int32).toNatClampNeg) + 1) → (K s20)))))) else ((vp_in 1 21) ∧ (wp_X10_has (fun r21 s22 => if (r21 : Int32) = 0 then (wp_X10_has (fun r23 s24 => if (r23 : Int32) = 0 then ((vp_in (15 + x3) 21) ∧ (wp_X10_goesBy_j119 K X63  s24 x1 x2 x3 ((s24 12 (15 + x3).toNatClampNeg) + 1))) else ((vp_in (15 + x3) 21) ∧ (wp_X10_goesBy_j119 K X63  s24 x1 x2 x3 ((s24 12 (15 + x3).toNatClampNeg) - 1)))) s22 x1 x3) else (wp_X10_goesBy_j153 K X63  s22 x1 x2 x3)) σ ((σ 12 (1 : Int32).toNatClampNeg) ||| x2) x3))
def wp_X10_goesBy_l63 (K : ts_S → Prop)  (σ : ts_S) (x1 : Int32) (x2 : Int32) (x3 : Int32) : Prop :=
  ∀ X63 : ts_S → Int32 → Prop, (∀ (σ : ts_S) (x3 : Int32), wp_X10_goesBy_b63 K X63  x1 x2 σ x3 → X63 σ x3) → X63 σ x3
def wp_X10_goesBy_b9 (K : ts_S → Prop) (X9 : ts_S → Int32 → Int32 → Prop)  (x1 : Int32) (σ : ts_S) (x2 : Int32) (x3 : Int32) : Prop :=
  if (σ 0 1 : Int32) ≤ x3 then (wp_X10_goesBy_l63 K  σ x1 x2 0) else (wp_X10_has (fun r25 s26 => if (r25 : Int32) = 0 then (X9 s26 (x2 ||| 0) (x3 + 1)) else (wp_X10_fearOf (fun r27 s28 => (vp_in (15 + x3) 21) ∧ (if (r27 - (s28 12 (15 + x3).toNatClampNeg) : Int32) < 8 then (X9 s28 (x2 ||| 0) (x3 + 1)) else (X9 s28 (x2 ||| (1 <<< (x3 &&& 31))) (x3 + 1)))) s26 x3)) σ x1 x3)
def wp_X10_goesBy_l9 (K : ts_S → Prop)  (σ : ts_S) (x1 : Int32) (x2 : Int32) (x3 : Int32) : Prop :=
  ∀ X9 : ts_S → Int32 → Int32 → Prop, (∀ (σ : ts_S) (x2 : Int32) (x3 : Int32), wp_X10_goesBy_b9 K X9  x1 σ x2 x3 → X9 σ x2 x3) → X9 σ x2 x3
def wp_X10_goesBy (K : ts_S → Prop) (σ : ts_S)  : Prop :=
  wp_X10_frozen (fun r29 s30 => wp_X10_goesBy_l9 K  s30 r29 0 0) σ 
def wp_X10_becomes_j49 (K : ts_S → Prop)  (σ : ts_S) : Prop :=
  wp_X10_copies (fun s9 => ∀ s10 : ts_S, s10 = ts_u s9 0 6 ((s9 0 6) + 1) → (wp_X10_copies (fun s12 => K s12) s10 3 0 12 0 21)) σ 4 (21 * (σ 0 6)) 3 0 21
def wp_X10_becomes_b11 (K : ts_S → Prop) (X11 : ts_S → Int32 → Prop)  (σ : ts_S) (x1 : Int32) : Prop :=
  if (147 : Int32) ≤ x1 then (∀ s13 : ts_S, s13 = ts_u σ 0 6 ((σ 0 6) - 1) → (wp_X10_becomes_j49 K  s13)) else ((vp_in (x1 + 21) 168) ∧ ((vp_in x1 168) ∧ ∀ s14 : ts_S, s14 = ts_u σ 4 x1.toNatClampNeg (σ 4 (x1 + 21).toNatClampNeg) → (X11 s14 (x1 + 1))))
def wp_X10_becomes_l11 (K : ts_S → Prop)  (σ : ts_S) (x1 : Int32) : Prop :=
  ∀ X11 : ts_S → Int32 → Prop, (∀ (σ : ts_S) (x1 : Int32), wp_X10_becomes_b11 K X11   σ x1 → X11 σ x1) → X11 σ x1
def wp_X10_becomes (K : ts_S → Prop) (σ : ts_S)  : Prop :=
  if (σ 0 6 : Int32) = 8 then (wp_X10_becomes_l11 K  σ 0) else (wp_X10_becomes_j49 K  σ)
def wp_X10_pass_b35 (K : Int32 → ts_S → Prop) (X35 : ts_S → Int32 → Prop) (a1 : Int32) (σ : ts_S) (x2 : Int32) : Prop :=
  if (a1 : Int32) ≤ x2 then (wp_X10_becomes (fun s10 => (vp_in 0 21) ∧ (K (s10 3 (0 : Int32).toNatClampNeg) s10)) σ ) else (wp_X10_goesBy (fun s12 => X35 s12 (x2 + 1)) σ )
def wp_X10_pass_l35 (K : Int32 → ts_S → Prop) (a1 : Int32) (σ : ts_S) (x2 : Int32) : Prop :=
  ∀ X35 : ts_S → Int32 → Prop, (∀ (σ : ts_S) (x2 : Int32), wp_X10_pass_b35 K X35 a1  σ x2 → X35 σ x2) → X35 σ x2
def wp_X10_pass (K : Int32 → ts_S → Prop) (σ : ts_S) (a1 : Int32) : Prop :=
  wp_X10_in (fun r13 s14 => if (r13 : Int32) = 0 then (K (-1) s14) else ((vp_in 0 21) ∧ (if ((s14 3 (0 : Int32).toNatClampNeg) + a1 : Int32) ≤ 999 then (wp_X10_asItIs (fun s16 => wp_X10_pass_l35 K a1 s16 0) s14 ) else (K (-2) s14)))) σ a1 1 40
def wp_X10_canPromote (K : Int32 → ts_S → Prop) (σ : ts_S) (a1 : Int32) : Prop :=
  wp_X10_frozen (fun r5 s6 => (vp_in 1 21) ∧ (wp_X10_has (fun r7 s8 => if (r7 : Int32) = 0 then ((vp_in (3 + a1) 21) ∧ (if (s8 12 (3 + a1).toNatClampNeg : Int32) ≤ 0 then ((ts_zb 0) ∧ K 0 s8) else ((ts_zb 1) ∧ K 1 s8))) else ((ts_zb 0) ∧ K 0 s8)) s6 (r5 ||| (s6 12 (1 : Int32).toNatClampNeg)) a1)) σ 
def wp_X10_promote (K : Int32 → ts_S → Prop) (σ : ts_S) (a1 : Int32) : Prop :=
  wp_X10_isPerson (fun r10 s11 => if (r10 : Int32) = 0 then (K (-1) s11) else (wp_X10_asItIs (fun s13 => wp_X10_canPromote (fun r14 s15 => if (r14 : Int32) = 0 then (K (-2) s15) else ((vp_in (3 + a1) 21) ∧ ((vp_in (3 + a1) 21) ∧ ∀ s16 : ts_S, s16 = ts_u s15 12 (3 + a1).toNatClampNeg ((s15 12 (3 + a1).toNatClampNeg) - 1) → (wp_X10_becomes (fun s18 => (vp_in (3 + a1) 21) ∧ (K (s18 3 (3 + a1).toNatClampNeg) s18)) s16 )))) s13 a1) s11 )) σ a1
def wp_X10_canHoist (K : Int32 → ts_S → Prop) (σ : ts_S) (a1 : Int32) : Prop :=
  (vp_in 1 21) ∧ (wp_X10_has (fun r3 s4 => if (r3 : Int32) = 0 then ((vp_in (3 + a1) 21) ∧ (if ((s4 0 0) - 1 : Int32) ≤ (s4 12 (3 + a1).toNatClampNeg) then ((ts_zb 0) ∧ K 0 s4) else ((ts_zb 1) ∧ K 1 s4))) else ((ts_zb 0) ∧ K 0 s4)) σ (σ 12 (1 : Int32).toNatClampNeg) a1)
def wp_X10_hoist (K : Int32 → ts_S → Prop) (σ : ts_S) (a1 : Int32) : Prop :=
  wp_X10_isPerson (fun r10 s11 => if (r10 : Int32) = 0 then (K (-1) s11) else (wp_X10_asItIs (fun s13 => wp_X10_canHoist (fun r14 s15 => if (r14 : Int32) = 0 then (K (-2) s15) else ((vp_in (3 + a1) 21) ∧ ((vp_in (3 + a1) 21) ∧ ∀ s16 : ts_S, s16 = ts_u s15 12 (3 + a1).toNatClampNeg ((s15 12 (3 + a1).toNatClampNeg) + 1) → (wp_X10_becomes (fun s18 => (vp_in (3 + a1) 21) ∧ (K (s18 3 (3 + a1).toNatClampNeg) s18)) s16 )))) s13 a1) s11 )) σ a1
def wp_X10_calls_j78 (K : ts_S → Prop) (X7 : ts_S → Int32 → Prop) (a1 : Int32) (σ : ts_S) (x2 : Int32) (x3 : Int32) (y0 : Int32) (y1 : Int32) (y2 : Int32) : Prop :=
  (vp_in y2 21) ∧ ∀ s7 : ts_S, s7 = ts_u σ 12 y2.toNatClampNeg (y1 + y0) → (X7 s7 (x3 + 1))
def wp_X10_calls_b7 (K : ts_S → Prop) (X7 : ts_S → Int32 → Prop) (a1 : Int32) (x2 : Int32) (σ : ts_S) (x3 : Int32) : Prop :=
  if (σ 0 1 : Int32) ≤ x3 then ((vp_in 2 21) ∧ ((vp_in 2 21) ∧ ∀ s8 : ts_S, s8 = ts_u σ 12 (2 : Int32).toNatClampNeg ((σ 12 (2 : Int32).toNatClampNeg) ||| (1 <<< (a1 &&& 31))) → (K s8))) else ((vp_in (15 + a1) 21) ∧ ((vp_in (3 + x3) 21) ∧ ((vp_in (3 + a1) 21) ∧ (if (σ 12 (3 + x3).toNatClampNeg : Int32) ≤ (σ 12 (3 + a1).toNatClampNeg) then (wp_X10_calls_j78 K X7 a1 σ x2 x3 0 (σ 12 (15 + a1).toNatClampNeg) (15 + a1)) else ((vp_in 1 21) ∧ (wp_X10_has (fun r9 s10 => if (r9 : Int32) = 0 then ((vp_in (15 + a1) 21) ∧ (if (30 : Int32) ≤ (s10 12 (15 + a1).toNatClampNeg) then (wp_X10_calls_j78 K X7 a1 s10 x2 x3 0 (σ 12 (15 + a1).toNatClampNeg) (15 + a1)) else (wp_X10_calls_j78 K X7 a1 s10 x2 x3 1 (σ 12 (15 + a1).toNatClampNeg) (15 + a1)))) else (wp_X10_calls_j78 K X7 a1 s10 x2 x3 0 (σ 12 (15 + a1).toNatClampNeg) (15 + a1))) σ (x2 ||| (σ 12 (1 : Int32).toNatClampNeg)) x3))))))
def wp_X10_calls_l7 (K : ts_S → Prop) (a1 : Int32) (σ : ts_S) (x2 : Int32) (x3 : Int32) : Prop :=
  ∀ X7 : ts_S → Int32 → Prop, (∀ (σ : ts_S) (x3 : Int32), wp_X10_calls_b7 K X7 a1 x2 σ x3 → X7 σ x3) → X7 σ x3
def wp_X10_calls (K : ts_S → Prop) (σ : ts_S) (a1 : Int32) : Prop :=
  wp_X10_frozen (fun r11 s12 => wp_X10_calls_l7 K a1 s12 r11 0) σ 
def wp_X10_call (K : Int32 → ts_S → Prop) (σ : ts_S) (a1 : Int32) : Prop :=
  wp_X10_isPerson (fun r11 s12 => if (r11 : Int32) = 0 then (K (-1) s12) else (wp_X10_asItIs (fun s14 => wp_X10_canCall (fun r15 s16 => if (r15 : Int32) = 0 then (K (-2) s16) else (wp_X10_calls (fun s18 => wp_X10_becomes (fun s20 => (vp_in (15 + a1) 21) ∧ (K (s20 3 (15 + a1).toNatClampNeg) s20)) s18 ) s16 a1)) s14 a1) s12 )) σ a1
def wp_X10_undo (K : Int32 → ts_S → Prop) (σ : ts_S)  : Prop :=
  if (σ 0 6 : Int32) = 0 then (K (-2) σ) else (∀ s4 : ts_S, s4 = ts_u σ 0 6 ((σ 0 6) - 1) → (wp_X10_copies (fun s6 => K (s6 0 6) s6) s4 3 0 4 (21 * (s4 0 6)) 21))
def wp_X10_behind_b36 (K : Int32 → ts_S → Prop) (X36 : ts_S → Int32 → Prop) (a1 : Int32) (a2 : Int32) (a3 : Int32) (σ : ts_S) (x4 : Int32) : Prop :=
  if (a1 : Int32) ≤ x4 then (if (a3 : Int32) = 0 then ((vp_in 1 21) ∧ (K (((σ 12 (1 : Int32).toNatClampNeg) >>> (a2 &&& 31)) &&& 1) σ)) else ((vp_in (15 + a2) 21) ∧ (K (σ 12 (15 + a2).toNatClampNeg) σ))) else (wp_X10_goesBy (fun s12 => X36 s12 (x4 + 1)) σ )
def wp_X10_behind_l36 (K : Int32 → ts_S → Prop) (a1 : Int32) (a2 : Int32) (a3 : Int32) (σ : ts_S) (x4 : Int32) : Prop :=
  ∀ X36 : ts_S → Int32 → Prop, (∀ (σ : ts_S) (x4 : Int32), wp_X10_behind_b36 K X36 a1 a2 a3  σ x4 → X36 σ x4) → X36 σ x4
def wp_X10_behind (K : Int32 → ts_S → Prop) (σ : ts_S) (a1 : Int32) (a2 : Int32) (a3 : Int32) : Prop :=
  wp_X10_in (fun r13 s14 => if (r13 : Int32) = 0 then (K (-1) s14) else (wp_X10_isPerson (fun r15 s16 => if (r15 : Int32) = 0 then (K (-1) s16) else (wp_X10_in (fun r17 s18 => if (r17 : Int32) = 0 then (K (-1) s18) else (wp_X10_asItIs (fun s20 => wp_X10_behind_l36 K a1 a2 a3 s20 0) s18 )) s16 a3 0 1)) s14 a2)) σ a1 0 40
def wp_X10_lowest_b44 (K : Int32 → ts_S → Prop) (X44 : ts_S → Int32 → Prop) (a1 : Int32) (σ : ts_S) (x2 : Int32) : Prop :=
  if (x2 : Int32) ≤ 0 then (K x2 σ) else ((vp_in a1 6) ∧ (wp_X10_fearAs (fun r11 s12 => (vp_in (15 + a1) 21) ∧ (if (s12 12 (15 + a1).toNatClampNeg : Int32) < r11 then (K x2 s12) else (X44 s12 (x2 + (-1))))) σ a1 (x2 - 1) (σ 1 a1.toNatClampNeg)))
def wp_X10_lowest_l44 (K : Int32 → ts_S → Prop) (a1 : Int32) (σ : ts_S) (x2 : Int32) : Prop :=
  ∀ X44 : ts_S → Int32 → Prop, (∀ (σ : ts_S) (x2 : Int32), wp_X10_lowest_b44 K X44 a1  σ x2 → X44 σ x2) → X44 σ x2
def wp_X10_lowest (K : Int32 → ts_S → Prop) (σ : ts_S) (a1 : Int32) : Prop :=
  wp_X10_isPerson (fun r13 s14 => if (r13 : Int32) = 0 then (K (-1) s14) else (wp_X10_asItIs (fun s16 => wp_X10_frozen (fun r17 s18 => (vp_in 1 21) ∧ (wp_X10_has (fun r19 s20 => if (r19 : Int32) = 0 then ((vp_in (3 + a1) 21) ∧ (wp_X10_lowest_l44 K a1 s20 (s20 12 (3 + a1).toNatClampNeg))) else (K (-2) s20)) s18 (r17 ||| (s18 12 (1 : Int32).toNatClampNeg)) a1)) s16 ) s14 )) σ a1
def wp_X10_mayBe_b13 (K : Int32 → ts_S → Prop) (X13 : ts_S → Int32 → Int32 → Prop) (a1 : Int32) (σ : ts_S) (x2 : Int32) (x3 : Int32) : Prop :=
  if (σ 0 3 : Int32) ≤ x3 then (K x2 σ) else ((vp_in 1 21) ∧ (wp_X10_has (fun r3 s4 => if (r3 : Int32) = 0 then ((vp_in (2 * x3) 10) ∧ (X13 s4 (x2 ||| (1 <<< ((s4 2 (2 * x3).toNatClampNeg) &&& 31))) (x3 + 1))) else (X13 s4 (x2 ||| 0) (x3 + 1))) σ (σ 3 (1 : Int32).toNatClampNeg) a1))
def wp_X10_mayBe_l13 (K : Int32 → ts_S → Prop) (a1 : Int32) (σ : ts_S) (x2 : Int32) (x3 : Int32) : Prop :=
  ∀ X13 : ts_S → Int32 → Int32 → Prop, (∀ (σ : ts_S) (x2 : Int32) (x3 : Int32), wp_X10_mayBe_b13 K X13 a1  σ x2 x3 → X13 σ x2 x3) → X13 σ x2 x3
def wp_X10_mayBe (K : Int32 → ts_S → Prop) (σ : ts_S) (a1 : Int32) : Prop :=
  (vp_in (3 + a1) 21) ∧ (wp_X10_mayBe_l13 K a1 σ (1 <<< ((σ 3 (3 + a1).toNatClampNeg) &&& 31)) 0)
def wp_X10_leastOf_b2 (K : Int32 → ts_S → Prop) (X2 : ts_S → Int32 → Prop) (a0 : Int32) (σ : ts_S) (x1 : Int32) : Prop :=
  wp_X10_has (fun r3 s4 => if (r3 : Int32) = 0 then (X2 s4 (x1 + 1)) else (K x1 s4)) σ a0 x1
def wp_X10_leastOf_l2 (K : Int32 → ts_S → Prop) (a0 : Int32) (σ : ts_S) (x1 : Int32) : Prop :=
  ∀ X2 : ts_S → Int32 → Prop, (∀ (σ : ts_S) (x1 : Int32), wp_X10_leastOf_b2 K X2 a0  σ x1 → X2 σ x1) → X2 σ x1
def wp_X10_leastOf (K : Int32 → ts_S → Prop) (σ : ts_S) (a0 : Int32) : Prop :=
  wp_X10_leastOf_l2 K a0 σ 0
def wp_X10_done_b9 (K : Int32 → ts_S → Prop) (X9 : ts_S → Int32 → Int32 → Prop)  (x1 : Int32) (σ : ts_S) (x2 : Int32) (x3 : Int32) : Prop :=
  if (σ 0 3 : Int32) ≤ x3 then (K x2 σ) else (wp_X10_isDone (fun r5 s6 => if (r5 : Int32) = 0 then (X9 s6 (x2 + 0) (x3 + 1)) else (X9 s6 (x2 + 1) (x3 + 1))) σ x3 x1)
def wp_X10_done_l9 (K : Int32 → ts_S → Prop)  (σ : ts_S) (x1 : Int32) (x2 : Int32) (x3 : Int32) : Prop :=
  ∀ X9 : ts_S → Int32 → Int32 → Prop, (∀ (σ : ts_S) (x2 : Int32) (x3 : Int32), wp_X10_done_b9 K X9  x1 σ x2 x3 → X9 σ x2 x3) → X9 σ x2 x3
def wp_X10_done (K : Int32 → ts_S → Prop) (σ : ts_S)  : Prop :=
  wp_X10_frozen (fun r7 s8 => wp_X10_done_l9 K  s8 r7 0 0) σ 
def wp_X10_putsNext_j50 (K : Int32 → ts_S → Prop) (X7 : ts_S → Int32 → Prop)  (σ : ts_S) (x1 : Int32) (x2 : Int32) (x3 : Int32) : Prop :=
  if (σ 0 0 : Int32) ≤ x3 then (wp_X10_leastOf (fun r9 s10 => (vp_in (3 + x1) 21) ∧ ∀ s11 : ts_S, s11 = ts_u s10 12 (3 + x1).toNatClampNeg r9 → (X7 s11 (x1 + (-1)))) σ x2) else ((vp_in (3 + x1) 21) ∧ ∀ s12 : ts_S, s12 = ts_u σ 12 (3 + x1).toNatClampNeg x3 → ((ts_zb 1) ∧ K 1 s12))
def wp_X10_putsNext_b28 (K : Int32 → ts_S → Prop) (X7 : ts_S → Int32 → Prop) (X28 : ts_S → Int32 → Prop)  (x1 : Int32) (x2 : Int32) (σ : ts_S) (x3 : Int32) : Prop :=
  if (σ 0 0 : Int32) ≤ x3 then (wp_X10_putsNext_j50 K X7  σ x1 x2 x3) else (wp_X10_has (fun r13 s14 => if (r13 : Int32) = 0 then (X28 s14 (x3 + 1)) else (wp_X10_putsNext_j50 K X7  s14 x1 x2 x3)) σ x2 x3)
def wp_X10_putsNext_l28 (K : Int32 → ts_S → Prop) (X7 : ts_S → Int32 → Prop)  (σ : ts_S) (x1 : Int32) (x2 : Int32) (x3 : Int32) : Prop :=
  ∀ X28 : ts_S → Int32 → Prop, (∀ (σ : ts_S) (x3 : Int32), wp_X10_putsNext_b28 K X7 X28  x1 x2 σ x3 → X28 σ x3) → X28 σ x3
def wp_X10_putsNext_b7 (K : Int32 → ts_S → Prop) (X7 : ts_S → Int32 → Prop)  (σ : ts_S) (x1 : Int32) : Prop :=
  if (x1 : Int32) < 0 then ((ts_zb 0) ∧ K 0 σ) else (wp_X10_mayBe (fun r15 s16 => (vp_in (3 + x1) 21) ∧ (wp_X10_putsNext_l28 K X7  s16 x1 r15 ((s16 12 (3 + x1).toNatClampNeg) + 1))) σ x1)
def wp_X10_putsNext_l7 (K : Int32 → ts_S → Prop)  (σ : ts_S) (x1 : Int32) : Prop :=
  ∀ X7 : ts_S → Int32 → Prop, (∀ (σ : ts_S) (x1 : Int32), wp_X10_putsNext_b7 K X7   σ x1 → X7 σ x1) → X7 σ x1
def wp_X10_putsNext (K : Int32 → ts_S → Prop) (σ : ts_S)  : Prop :=
  wp_X10_putsNext_l7 K  σ ((σ 0 1) - 1)
def wp_X10_posting_j103 (K : Int32 → ts_S → Prop) (X57 : ts_S → Int32 → Int32 → Prop) (a1 : Int32) (σ : ts_S) (x2 : Int32) : Prop :=
  wp_X10_putsNext (fun r20 s21 => X57 s21 x2 r20) σ 
def wp_X10_posting_j77 (K : Int32 → ts_S → Prop) (X57 : ts_S → Int32 → Int32 → Prop) (a1 : Int32) (σ : ts_S) (x2 : Int32) (y0 : Int32) : Prop :=
  if (y0 : Int32) ≤ x2 then (wp_X10_posting_j103 K X57 a1 σ x2) else (wp_X10_copies (fun s23 => wp_X10_posting_j103 K X57 a1 s23 y0) σ 13 0 12 3 6)
def wp_X10_posting_b57 (K : Int32 → ts_S → Prop) (X57 : ts_S → Int32 → Int32 → Prop) (a1 : Int32) (σ : ts_S) (x2 : Int32) (x3 : Int32) : Prop :=
  if (x3 : Int32) = 0 then (if (a1 : Int32) < 0 then (K x2 σ) else (if (0 : Int32) ≤ x2 then ((vp_in 1 21) ∧ (wp_X10_has (fun r24 s25 => if (r24 : Int32) = 0 then ((vp_in a1 6) ∧ (K (s25 13 a1.toNatClampNeg) s25)) else (K (-4) s25)) σ (σ 3 (1 : Int32).toNatClampNeg) a1)) else (K x2 σ))) else (wp_X10_frozen (fun r26 s27 => if (r26 : Int32) = 0 then (wp_X10_done (fun r28 s29 => wp_X10_posting_j77 K X57 a1 s29 x2 r28) s27 ) else (wp_X10_posting_j77 K X57 a1 s27 x2 (-4))) σ )
def wp_X10_posting_l57 (K : Int32 → ts_S → Prop) (a1 : Int32) (σ : ts_S) (x2 : Int32) (x3 : Int32) : Prop :=
  ∀ X57 : ts_S → Int32 → Int32 → Prop, (∀ (σ : ts_S) (x2 : Int32) (x3 : Int32), wp_X10_posting_b57 K X57 a1  σ x2 x3 → X57 σ x2 x3) → X57 σ x2 x3
def wp_X10_posting_b22 (K : Int32 → ts_S → Prop) (X22 : ts_S → Int32 → Prop) (a1 : Int32) (σ : ts_S) (x2 : Int32) : Prop :=
  if (σ 0 1 : Int32) ≤ x2 then (wp_X10_posting_l57 K a1 σ (-4) 1) else (wp_X10_mayBe (fun r30 s31 => wp_X10_leastOf (fun r32 s33 => (vp_in (3 + x2) 21) ∧ ∀ s34 : ts_S, s34 = ts_u s33 12 (3 + x2).toNatClampNeg r32 → (X22 s34 (x2 + 1))) s31 r30) σ x2)
def wp_X10_posting_l22 (K : Int32 → ts_S → Prop) (a1 : Int32) (σ : ts_S) (x2 : Int32) : Prop :=
  ∀ X22 : ts_S → Int32 → Prop, (∀ (σ : ts_S) (x2 : Int32), wp_X10_posting_b22 K X22 a1  σ x2 → X22 σ x2) → X22 σ x2
def wp_X10_posting (K : Int32 → ts_S → Prop) (σ : ts_S) (a1 : Int32) : Prop :=
  wp_X10_in (fun r35 s36 => if (r35 : Int32) = 0 then (K (-1) s36) else (wp_X10_asItIs (fun s38 => wp_X10_posting_l22 K a1 s38 0) s36 )) σ a1 (-1) ((σ 0 1) - 1)
def wp_X10_sevens_b4 (K : Int32 → ts_S → Prop) (X4 : ts_S → Int32 → Int32 → Prop) (a0 : Int32) (σ : ts_S) (x1 : Int32) (x2 : Int32) : Prop :=
  if (a0 : Int32) ≤ x2 then (K x1 σ) else (X4 σ (x1 * 7) (x2 + 1))
def wp_X10_sevens_l4 (K : Int32 → ts_S → Prop) (a0 : Int32) (σ : ts_S) (x1 : Int32) (x2 : Int32) : Prop :=
  ∀ X4 : ts_S → Int32 → Int32 → Prop, (∀ (σ : ts_S) (x1 : Int32) (x2 : Int32), wp_X10_sevens_b4 K X4 a0  σ x1 x2 → X4 σ x1 x2) → X4 σ x1 x2
def wp_X10_sevens (K : Int32 → ts_S → Prop) (σ : ts_S) (a0 : Int32) : Prop :=
  wp_X10_sevens_l4 K a0 σ 1 0
def wp_X10_doneBy_j68 (K : Int32 → ts_S → Prop) (X8 : ts_S → Int32 → Prop) (a1 : Int32) (a2 : Int32) (σ : ts_S) (x3 : Int32) : Prop :=
  wp_X10_goesBy (fun s13 => X8 s13 (x3 + (-1))) σ 
def wp_X10_doneBy_j50 (K : Int32 → ts_S → Prop) (X8 : ts_S → Int32 → Prop) (a1 : Int32) (a2 : Int32) (σ : ts_S) (x3 : Int32) (x4 : Int32) : Prop :=
  if (x4 : Int32) < 0 then (wp_X10_doneBy_j68 K X8 a1 a2 σ x3) else ((vp_in (3 + x4) 21) ∧ ((vp_in (3 + x4) 21) ∧ ∀ s14 : ts_S, s14 = ts_u σ 12 (3 + x4).toNatClampNeg ((σ 12 (3 + x4).toNatClampNeg) - 1) → (wp_X10_doneBy_j68 K X8 a1 a2 s14 x3)))
def wp_X10_doneBy_b8 (K : Int32 → ts_S → Prop) (X8 : ts_S → Int32 → Prop) (a1 : Int32) (a2 : Int32) (σ : ts_S) (x3 : Int32) : Prop :=
  if (x3 : Int32) < 0 then (wp_X10_done (fun r15 s16 => K r15 s16) σ ) else (wp_X10_sevens (fun r17 s18 => (¬ (r17 : Int32) = 0) ∧ ((¬ (7 : Int32) = 0) ∧ (if (s18 0 1 : Int32) ≤ (((a1 / r17) - (a1 / r17) / 7 * 7) - 1) then (K (-1) s18) else (if (((a1 / r17) - (a1 / r17) / 7 * 7) - 1 : Int32) < 0 then (wp_X10_doneBy_j50 K X8 a1 a2 s18 x3 (((a1 / r17) - (a1 / r17) / 7 * 7) - 1)) else (wp_X10_canPromote (fun r19 s20 => if (r19 : Int32) = 0 then (K (-1) s20) else (wp_X10_doneBy_j50 K X8 a1 a2 s20 x3 (((a1 / r17) - (a1 / r17) / 7 * 7) - 1))) s18 (((a1 / r17) - (a1 / r17) / 7 * 7) - 1)))))) σ x3)
def wp_X10_doneBy_l8 (K : Int32 → ts_S → Prop) (a1 : Int32) (a2 : Int32) (σ : ts_S) (x3 : Int32) : Prop :=
  ∀ X8 : ts_S → Int32 → Prop, (∀ (σ : ts_S) (x3 : Int32), wp_X10_doneBy_b8 K X8 a1 a2  σ x3 → X8 σ x3) → X8 σ x3
def wp_X10_doneBy (K : Int32 → ts_S → Prop) (σ : ts_S) (a1 : Int32) (a2 : Int32) : Prop :=
  wp_X10_asItIs (fun s22 => wp_X10_doneBy_l8 K a1 a2 s22 (a2 - 1)) σ 
def wp_X10_timetable_j111 (K : Int32 → ts_S → Prop) (a1 : Int32) (a2 : Int32) (σ : ts_S) (y0 : Int32) : Prop :=
  if (0 : Int32) ≤ y0 then (K y0 σ) else (K (-4) σ)
def wp_X10_timetable_j59 (K : Int32 → ts_S → Prop) (X28 : ts_S → Int32 → Int32 → Int32 → Prop) (a1 : Int32) (a2 : Int32) (σ : ts_S) (x3 : Int32) (x5 : Int32) (x6 : Int32) (y0 : Int32) : Prop :=
  if (x6 : Int32) ≤ x3 then (X28 σ x3 y0 (x5 + 1)) else (X28 σ x6 y0 (x5 + 1))
def wp_X10_timetable_b28 (K : Int32 → ts_S → Prop) (X28 : ts_S → Int32 → Int32 → Int32 → Prop) (a1 : Int32) (a2 : Int32) (σ : ts_S) (x3 : Int32) (x4 : Int32) (x5 : Int32) : Prop :=
  wp_X10_sevens (fun r11 s12 => if (r11 : Int32) ≤ x5 then (if (0 : Int32) ≤ a2 then (if (a1 : Int32) ≤ a2 then (wp_X10_timetable_j111 K a1 a2 s12 (-1)) else (wp_X10_sevens (fun r13 s14 => (¬ (r13 : Int32) = 0) ∧ ((¬ (7 : Int32) = 0) ∧ (wp_X10_timetable_j111 K a1 a2 s14 (((x4 / r13) - (x4 / r13) / 7 * 7) - 1)))) s12 ((a1 - 1) - a2))) else (K x3 s12)) else (wp_X10_doneBy (fun r15 s16 => if (r15 : Int32) ≤ x3 then (wp_X10_timetable_j59 K X28 a1 a2 s16 x3 x5 r15 x4) else (wp_X10_timetable_j59 K X28 a1 a2 s16 x3 x5 r15 x5)) s12 x5 a1)) σ a1
def wp_X10_timetable_l28 (K : Int32 → ts_S → Prop) (a1 : Int32) (a2 : Int32) (σ : ts_S) (x3 : Int32) (x4 : Int32) (x5 : Int32) : Prop :=
  ∀ X28 : ts_S → Int32 → Int32 → Int32 → Prop, (∀ (σ : ts_S) (x3 : Int32) (x4 : Int32) (x5 : Int32), wp_X10_timetable_b28 K X28 a1 a2  σ x3 x4 x5 → X28 σ x3 x4 x5) → X28 σ x3 x4 x5
def wp_X10_timetable (K : Int32 → ts_S → Prop) (σ : ts_S) (a1 : Int32) (a2 : Int32) : Prop :=
  wp_X10_in (fun r17 s18 => if (r17 : Int32) = 0 then (K (-1) s18) else (wp_X10_in (fun r19 s20 => if (r19 : Int32) = 0 then (K (-1) s20) else (wp_X10_timetable_l28 K a1 a2 s20 (-1) 0 0)) s18 a2 (-1) 3)) σ a1 1 4
def wp_X10_swap_j157 (K : Int32 → ts_S → Prop) (X20 : ts_S → Int32 → Int32 → Int32 → Prop) (X35 : ts_S → Int32 → Int32 → Int32 → Prop) (a1 : Int32) (σ : ts_S) (x3 : Int32) (x4 : Int32) (x5 : Int32) (x6 : Int32) (y0 : Int32) : Prop :=
  if (x6 : Int32) ≤ x3 then (X35 σ y0 x3 (x5 + 1)) else (X35 σ y0 x6 (x5 + 1))
def wp_X10_swap_b35 (K : Int32 → ts_S → Prop) (X20 : ts_S → Int32 → Int32 → Int32 → Prop) (X35 : ts_S → Int32 → Int32 → Int32 → Prop) (a1 : Int32) (x4 : Int32) (σ : ts_S) (x2 : Int32) (x3 : Int32) (x5 : Int32) : Prop :=
  if (σ 0 1 : Int32) ≤ x5 then (X20 σ x2 x3 (x4 + 1)) else ((vp_in 1 21) ∧ (wp_X10_has (fun r13 s14 => if (r13 : Int32) = 0 then ((vp_in 1 21) ∧ (wp_X10_has (fun r15 s16 => if (r15 : Int32) = 0 then ((vp_in (3 + x4) 21) ∧ ((vp_in (3 + x5) 21) ∧ (if (s16 3 (3 + x4).toNatClampNeg : Int32) = (s16 3 (3 + x5).toNatClampNeg) then (X35 s16 x2 x3 (x5 + 1)) else (wp_X10_asItIs (fun s18 => (vp_in (3 + x5) 21) ∧ ((vp_in (3 + x4) 21) ∧ ∀ s19 : ts_S, s19 = ts_u s18 12 (3 + x4).toNatClampNeg (s18 3 (3 + x5).toNatClampNeg) → ((vp_in (3 + x4) 21) ∧ ((vp_in (3 + x5) 21) ∧ ∀ s20 : ts_S, s20 = ts_u s19 12 (3 + x5).toNatClampNeg (s19 3 (3 + x4).toNatClampNeg) → (wp_X10_done (fun r21 s22 => if (r21 : Int32) ≤ x3 then (wp_X10_swap_j157 K X20 X35 a1 s22 x3 x4 x5 r21 x2) else (wp_X10_swap_j157 K X20 X35 a1 s22 x3 x4 x5 r21 ((10 * x4) + x5))) s20 ))))) s16 )))) else (X35 s16 x2 x3 (x5 + 1))) s14 (s14 3 (1 : Int32).toNatClampNeg) x5)) else (X35 s14 x2 x3 (x5 + 1))) σ (σ 3 (1 : Int32).toNatClampNeg) x4))
def wp_X10_swap_l35 (K : Int32 → ts_S → Prop) (X20 : ts_S → Int32 → Int32 → Int32 → Prop) (a1 : Int32) (σ : ts_S) (x2 : Int32) (x3 : Int32) (x4 : Int32) (x5 : Int32) : Prop :=
  ∀ X35 : ts_S → Int32 → Int32 → Int32 → Prop, (∀ (σ : ts_S) (x2 : Int32) (x3 : Int32) (x5 : Int32), wp_X10_swap_b35 K X20 X35 a1 x4 σ x2 x3 x5 → X35 σ x2 x3 x5) → X35 σ x2 x3 x5
def wp_X10_swap_b20 (K : Int32 → ts_S → Prop) (X20 : ts_S → Int32 → Int32 → Int32 → Prop) (a1 : Int32) (σ : ts_S) (x2 : Int32) (x3 : Int32) (x4 : Int32) : Prop :=
  if (σ 0 1 : Int32) ≤ x4 then (if (a1 : Int32) = 0 then (K x2 σ) else (K x3 σ)) else (wp_X10_swap_l35 K X20 a1 σ x2 x3 x4 (x4 + 1))
def wp_X10_swap_l20 (K : Int32 → ts_S → Prop) (a1 : Int32) (σ : ts_S) (x2 : Int32) (x3 : Int32) (x4 : Int32) : Prop :=
  ∀ X20 : ts_S → Int32 → Int32 → Int32 → Prop, (∀ (σ : ts_S) (x2 : Int32) (x3 : Int32) (x4 : Int32), wp_X10_swap_b20 K X20 a1  σ x2 x3 x4 → X20 σ x2 x3 x4) → X20 σ x2 x3 x4
def wp_X10_swap (K : Int32 → ts_S → Prop) (σ : ts_S) (a1 : Int32) : Prop :=
  wp_X10_in (fun r23 s24 => if (r23 : Int32) = 0 then (K (-1) s24) else (wp_X10_swap_l20 K a1 s24 (-4) (-4) 0)) σ a1 0 1
def wp_X10_can_j325 (K : Int32 → ts_S → Prop) (X272 : ts_S → Int32 → Int32 → Int32 → Prop) (a1 : Int32) (a2 : Int32) (a3 : Int32) (σ : ts_S) (x6 : Int32) (x7 : Int32) (x8 : Int32) (y0 : Int32) : Prop :=
  if (x8 : Int32) = 0 then (X272 σ y0 x6 (x7 + 1)) else ((vp_in x7 6) ∧ (X272 σ y0 (σ 14 x7.toNatClampNeg) (x7 + 1)))
def wp_X10_can_j311 (K : Int32 → ts_S → Prop) (X272 : ts_S → Int32 → Int32 → Int32 → Prop) (a1 : Int32) (a2 : Int32) (a3 : Int32) (σ : ts_S) (x5 : Int32) (x6 : Int32) (x7 : Int32) (y0 : Int32) : Prop :=
  if (y0 : Int32) = 0 then (wp_X10_can_j325 K X272 a1 a2 a3 σ x6 x7 y0 x5) else (wp_X10_can_j325 K X272 a1 a2 a3 σ x6 x7 y0 x7)
def wp_X10_can_b272 (K : Int32 → ts_S → Prop) (X272 : ts_S → Int32 → Int32 → Int32 → Prop) (a1 : Int32) (a2 : Int32) (a3 : Int32) (σ : ts_S) (x5 : Int32) (x6 : Int32) (x7 : Int32) : Prop :=
  if (σ 0 1 : Int32) ≤ x7 then (if (x5 : Int32) < 0 then (K x5 σ) else (if (a3 : Int32) = 1 then (K x5 σ) else (K x6 σ))) else ((vp_in (3 + x7) 21) ∧ (if (σ 12 (3 + x7).toNatClampNeg : Int32) = a1 then ((vp_in x7 6) ∧ (if (x6 : Int32) ≤ (σ 14 x7.toNatClampNeg) then (wp_X10_can_j311 K X272 a1 a2 a3 σ x5 x6 x7 0) else (wp_X10_can_j311 K X272 a1 a2 a3 σ x5 x6 x7 1))) else (wp_X10_can_j311 K X272 a1 a2 a3 σ x5 x6 x7 0)))
def wp_X10_can_l272 (K : Int32 → ts_S → Prop) (a1 : Int32) (a2 : Int32) (a3 : Int32) (σ : ts_S) (x5 : Int32) (x6 : Int32) (x7 : Int32) : Prop :=
  ∀ X272 : ts_S → Int32 → Int32 → Int32 → Prop, (∀ (σ : ts_S) (x5 : Int32) (x6 : Int32) (x7 : Int32), wp_X10_can_b272 K X272 a1 a2 a3  σ x5 x6 x7 → X272 σ x5 x6 x7) → X272 σ x5 x6 x7
def wp_X10_can_j242 (K : Int32 → ts_S → Prop) (X101 : ts_S → Int32 → Prop) (X113 : ts_S → Int32 → Prop) (X125 : ts_S → Int32 → Prop) (a1 : Int32) (a2 : Int32) (a3 : Int32) (σ : ts_S) (x4 : Int32) (x5 : Int32) (x6 : Int32) (x7 : Int32) (y0 : Int32) (y1 : Int32) : Prop :=
  (vp_in y1 6) ∧ ∀ s21 : ts_S, s21 = ts_u σ 14 y1.toNatClampNeg y0 → (X125 s21 (x7 + 1))
def wp_X10_can_j210 (K : Int32 → ts_S → Prop) (X101 : ts_S → Int32 → Prop) (X113 : ts_S → Int32 → Prop) (X125 : ts_S → Int32 → Prop) (a1 : Int32) (a2 : Int32) (a3 : Int32) (σ : ts_S) (x4 : Int32) (x5 : Int32) (x6 : Int32) (x7 : Int32) (y0 : Int32) : Prop :=
  if (y0 : Int32) = 0 then ((vp_in x6 6) ∧ (wp_X10_can_j242 K X101 X113 X125 a1 a2 a3 σ x4 x5 x6 x7 (σ 14 x6.toNatClampNeg) x6)) else ((vp_in x7 6) ∧ (wp_X10_can_j242 K X101 X113 X125 a1 a2 a3 σ x4 x5 x6 x7 ((σ 14 x7.toNatClampNeg) + 1) x6))
def wp_X10_can_b125 (K : Int32 → ts_S → Prop) (X101 : ts_S → Int32 → Prop) (X113 : ts_S → Int32 → Prop) (X125 : ts_S → Int32 → Prop) (a1 : Int32) (a2 : Int32) (a3 : Int32) (x4 : Int32) (x5 : Int32) (x6 : Int32) (σ : ts_S) (x7 : Int32) : Prop :=
  if (σ 0 1 : Int32) ≤ x7 then (X113 σ (x6 + 1)) else ((vp_in (3 + x6) 21) ∧ ((vp_in (3 + x7) 21) ∧ (wp_X10_has (fun r22 s23 => if (r22 : Int32) = 0 then (wp_X10_has (fun r24 s25 => if (r24 : Int32) = 0 then (wp_X10_in (fun r26 s27 => if (r26 : Int32) = 0 then (wp_X10_can_j210 K X101 X113 X125 a1 a2 a3 s27 x4 x5 x6 x7 0) else ((vp_in x7 6) ∧ ((vp_in x6 6) ∧ (if (s27 14 x6.toNatClampNeg : Int32) ≤ ((s27 14 x7.toNatClampNeg) + 1) then (wp_X10_can_j210 K X101 X113 X125 a1 a2 a3 s27 x4 x5 x6 x7 0) else (wp_X10_can_j210 K X101 X113 X125 a1 a2 a3 s27 x4 x5 x6 x7 1))))) s25 ((σ 12 (3 + x6).toNatClampNeg) - (σ 12 (3 + x7).toNatClampNeg)) (-2) 2) else (wp_X10_can_j210 K X101 X113 X125 a1 a2 a3 s25 x4 x5 x6 x7 0)) s23 x4 x7) else (wp_X10_can_j210 K X101 X113 X125 a1 a2 a3 s23 x4 x5 x6 x7 0)) σ x4 x6)))
def wp_X10_can_l125 (K : Int32 → ts_S → Prop) (X101 : ts_S → Int32 → Prop) (X113 : ts_S → Int32 → Prop) (a1 : Int32) (a2 : Int32) (a3 : Int32) (σ : ts_S) (x4 : Int32) (x5 : Int32) (x6 : Int32) (x7 : Int32) : Prop :=
  ∀ X125 : ts_S → Int32 → Prop, (∀ (σ : ts_S) (x7 : Int32), wp_X10_can_b125 K X101 X113 X125 a1 a2 a3 x4 x5 x6 σ x7 → X125 σ x7) → X125 σ x7
def wp_X10_can_b113 (K : Int32 → ts_S → Prop) (X101 : ts_S → Int32 → Prop) (X113 : ts_S → Int32 → Prop) (a1 : Int32) (a2 : Int32) (a3 : Int32) (x4 : Int32) (x5 : Int32) (σ : ts_S) (x6 : Int32) : Prop :=
  if (σ 0 1 : Int32) ≤ x6 then (X101 σ (x5 + 1)) else (wp_X10_can_l125 K X101 X113 a1 a2 a3 σ x4 x5 x6 0)
def wp_X10_can_l113 (K : Int32 → ts_S → Prop) (X101 : ts_S → Int32 → Prop) (a1 : Int32) (a2 : Int32) (a3 : Int32) (σ : ts_S) (x4 : Int32) (x5 : Int32) (x6 : Int32) : Prop :=
  ∀ X113 : ts_S → Int32 → Prop, (∀ (σ : ts_S) (x6 : Int32), wp_X10_can_b113 K X101 X113 a1 a2 a3 x4 x5 σ x6 → X113 σ x6) → X113 σ x6
def wp_X10_can_b101 (K : Int32 → ts_S → Prop) (X101 : ts_S → Int32 → Prop) (a1 : Int32) (a2 : Int32) (a3 : Int32) (x4 : Int32) (σ : ts_S) (x5 : Int32) : Prop :=
  if (σ 0 1 : Int32) ≤ x5 then (wp_X10_can_l272 K a1 a2 a3 σ (-4) 100 0) else (wp_X10_can_l113 K X101 a1 a2 a3 σ x4 x5 0)
def wp_X10_can_l101 (K : Int32 → ts_S → Prop) (a1 : Int32) (a2 : Int32) (a3 : Int32) (σ : ts_S) (x4 : Int32) (x5 : Int32) : Prop :=
  ∀ X101 : ts_S → Int32 → Prop, (∀ (σ : ts_S) (x5 : Int32), wp_X10_can_b101 K X101 a1 a2 a3 x4 σ x5 → X101 σ x5) → X101 σ x5
def wp_X10_can_j91 (K : Int32 → ts_S → Prop) (X47 : ts_S → Int32 → Prop) (a1 : Int32) (a2 : Int32) (a3 : Int32) (σ : ts_S) (x4 : Int32) (x5 : Int32) (y0 : Int32) (y1 : Int32) : Prop :=
  (vp_in y1 6) ∧ ∀ s28 : ts_S, s28 = ts_u σ 14 y1.toNatClampNeg y0 → (X47 s28 (x5 + 1))
def wp_X10_can_b47 (K : Int32 → ts_S → Prop) (X47 : ts_S → Int32 → Prop) (a1 : Int32) (a2 : Int32) (a3 : Int32) (x4 : Int32) (σ : ts_S) (x5 : Int32) : Prop :=
  if (σ 0 1 : Int32) ≤ x5 then (wp_X10_can_l101 K a1 a2 a3 σ x4 0) else (wp_X10_has (fun r29 s30 => if (r29 : Int32) = 0 then ((vp_in (3 + x5) 21) ∧ (if (s30 12 (3 + x5).toNatClampNeg : Int32) = a2 then (wp_X10_can_j91 K X47 a1 a2 a3 s30 x4 x5 1 x5) else (wp_X10_can_j91 K X47 a1 a2 a3 s30 x4 x5 100 x5))) else (wp_X10_can_j91 K X47 a1 a2 a3 s30 x4 x5 100 x5)) σ x4 x5)
def wp_X10_can_l47 (K : Int32 → ts_S → Prop) (a1 : Int32) (a2 : Int32) (a3 : Int32) (σ : ts_S) (x4 : Int32) (x5 : Int32) : Prop :=
  ∀ X47 : ts_S → Int32 → Prop, (∀ (σ : ts_S) (x5 : Int32), wp_X10_can_b47 K X47 a1 a2 a3 x4 σ x5 → X47 σ x5) → X47 σ x5
def wp_X10_can (K : Int32 → ts_S → Prop) (σ : ts_S) (a1 : Int32) (a2 : Int32) (a3 : Int32) : Prop :=
  wp_X10_isStep (fun r31 s32 => if (r31 : Int32) = 0 then (K (-1) s32) else (wp_X10_isStep (fun r33 s34 => if (r33 : Int32) = 0 then (K (-1) s34) else (wp_X10_in (fun r35 s36 => if (r35 : Int32) = 0 then (K (-1) s36) else (wp_X10_asItIs (fun s38 => wp_X10_frozen (fun r39 s40 => (vp_in 1 21) ∧ (wp_X10_can_l47 K a1 a2 a3 s40 (r39 ||| (s40 12 (1 : Int32).toNatClampNeg)) 0)) s38 ) s36 )) s34 a3 0 1)) s32 a2)) σ a1
def wp_X10_seen (K : Int32 → ts_S → Prop) (σ : ts_S) (a1 : Int32) (a2 : Int32) (a3 : Int32) : Prop :=
  wp_X10_isPerson (fun r11 s12 => if (r11 : Int32) = 0 then (K (-1) s12) else (wp_X10_isStep (fun r13 s14 => if (r13 : Int32) = 0 then (K (-1) s14) else (wp_X10_in (fun r15 s16 => if (r15 : Int32) = 0 then (K (-1) s16) else (if (s16 0 10 : Int32) = 6 then (K (-3) s16) else ((vp_in (3 * (s16 0 10)) 18) ∧ ∀ s17 : ts_S, s17 = ts_u s16 6 (3 * (s16 0 10)).toNatClampNeg a1 → ((vp_in ((3 * (s17 0 10)) + 1) 18) ∧ ∀ s18 : ts_S, s18 = ts_u s17 6 ((3 * (s17 0 10)) + 1).toNatClampNeg a2 → ((vp_in ((3 * (s18 0 10)) + 2) 18) ∧ ∀ s19 : ts_S, s19 = ts_u s18 6 ((3 * (s18 0 10)) + 2).toNatClampNeg a3 → (∀ s20 : ts_S, s20 = ts_u s19 0 10 ((s19 0 10) + 1) → (K (s20 0 10) s20))))))) s14 a3 0 1)) s12 a2)) σ a1
def wp_X10_forget (K : Int32 → ts_S → Prop) (σ : ts_S)  : Prop :=
  ∀ s2 : ts_S, s2 = ts_u σ 0 10 0 → (K (σ 0 10) s2)
def wp_X10_isSo_j83 (K : Int32 → ts_S → Prop) (X6 : ts_S → Int32 → Int32 → Prop) (a1 : Int32) (a2 : Int32) (a3 : Int32) (σ : ts_S) (x5 : Int32) (y0 : Int32) (y1 : Int32) : Prop :=
  if (y1 : Int32) = y0 then (X6 σ 1 (x5 + 1)) else (X6 σ 0 (x5 + 1))
def wp_X10_isSo_j41 (K : Int32 → ts_S → Prop) (X6 : ts_S → Int32 → Int32 → Prop) (a1 : Int32) (a2 : Int32) (a3 : Int32) (σ : ts_S) (x4 : Int32) (x5 : Int32) (y0 : Int32) : Prop :=
  if (x4 : Int32) = 0 then (X6 σ 0 (x5 + 1)) else ((vp_in (3 * x5) 18) ∧ (if (σ 6 (3 * x5).toNatClampNeg : Int32) = a1 then ((vp_in ((3 * x5) + 2) 18) ∧ (if (σ 6 ((3 * x5) + 2).toNatClampNeg : Int32) = 1 then (wp_X10_isSo_j83 K X6 a1 a2 a3 σ x5 1 y0) else (wp_X10_isSo_j83 K X6 a1 a2 a3 σ x5 0 y0))) else (X6 σ 1 (x5 + 1))))
def wp_X10_isSo_b6 (K : Int32 → ts_S → Prop) (X6 : ts_S → Int32 → Int32 → Prop) (a1 : Int32) (a2 : Int32) (a3 : Int32) (σ : ts_S) (x4 : Int32) (x5 : Int32) : Prop :=
  if (σ 0 10 : Int32) ≤ x5 then ((ts_zb x4) ∧ K x4 σ) else ((vp_in ((3 * x5) + 1) 18) ∧ (wp_X10_fearAs (fun r3 s4 => if (r3 : Int32) ≤ a3 then (wp_X10_isSo_j41 K X6 a1 a2 a3 s4 x4 x5 0) else (wp_X10_isSo_j41 K X6 a1 a2 a3 s4 x4 x5 1)) σ a1 (σ 6 ((3 * x5) + 1).toNatClampNeg) a2))
def wp_X10_isSo_l6 (K : Int32 → ts_S → Prop) (a1 : Int32) (a2 : Int32) (a3 : Int32) (σ : ts_S) (x4 : Int32) (x5 : Int32) : Prop :=
  ∀ X6 : ts_S → Int32 → Int32 → Prop, (∀ (σ : ts_S) (x4 : Int32) (x5 : Int32), wp_X10_isSo_b6 K X6 a1 a2 a3  σ x4 x5 → X6 σ x4 x5) → X6 σ x4 x5
def wp_X10_isSo (K : Int32 → ts_S → Prop) (σ : ts_S) (a1 : Int32) (a2 : Int32) (a3 : Int32) : Prop :=
  wp_X10_isSo_l6 K a1 a2 a3 σ 1 0
def wp_X10_nerves_j64 (K : Int32 → ts_S → Prop) (X33 : ts_S → Int32 → Int32 → Int32 → Prop) (a1 : Int32) (a2 : Int32) (σ : ts_S) (x4 : Int32) (x5 : Int32) (x6 : Int32) (y0 : Int32) (y1 : Int32) : Prop :=
  if (x6 : Int32) = 0 then (X33 σ (y1 + y0) x4 (x5 + (-1))) else (X33 σ (y1 + y0) x5 (x5 + (-1)))
def wp_X10_nerves_b33 (K : Int32 → ts_S → Prop) (X33 : ts_S → Int32 → Int32 → Int32 → Prop) (a1 : Int32) (a2 : Int32) (σ : ts_S) (x3 : Int32) (x4 : Int32) (x5 : Int32) : Prop :=
  if (x5 : Int32) < 0 then (if (a2 : Int32) = 0 then (K x3 σ) else (K x4 σ)) else ((vp_in a1 6) ∧ (wp_X10_isSo (fun r9 s10 => if (r9 : Int32) = 0 then (wp_X10_nerves_j64 K X33 a1 a2 s10 x4 x5 r9 0 x3) else (wp_X10_nerves_j64 K X33 a1 a2 s10 x4 x5 r9 1 x3)) σ a1 (σ 1 a1.toNatClampNeg) x5))
def wp_X10_nerves_l33 (K : Int32 → ts_S → Prop) (a1 : Int32) (a2 : Int32) (σ : ts_S) (x3 : Int32) (x4 : Int32) (x5 : Int32) : Prop :=
  ∀ X33 : ts_S → Int32 → Int32 → Int32 → Prop, (∀ (σ : ts_S) (x3 : Int32) (x4 : Int32) (x5 : Int32), wp_X10_nerves_b33 K X33 a1 a2  σ x3 x4 x5 → X33 σ x3 x4 x5) → X33 σ x3 x4 x5
def wp_X10_nerves (K : Int32 → ts_S → Prop) (σ : ts_S) (a1 : Int32) (a2 : Int32) : Prop :=
  wp_X10_isPerson (fun r11 s12 => if (r11 : Int32) = 0 then (K (-1) s12) else (wp_X10_in (fun r13 s14 => if (r13 : Int32) = 0 then (K (-1) s14) else (wp_X10_asItIs (fun s16 => wp_X10_nerves_l33 K a1 a2 s16 0 (-4) 30) s14 )) s12 a2 0 1)) σ a1
def wp_X10_kinds_b18 (K : Int32 → ts_S → Prop) (X18 : ts_S → Int32 → Int32 → Prop) (a1 : Int32) (σ : ts_S) (x2 : Int32) (x3 : Int32) : Prop :=
  if (3 : Int32) < x3 then (K x2 σ) else ((vp_in (15 + a1) 21) ∧ (wp_X10_isSo (fun r7 s8 => if (r7 : Int32) = 0 then (X18 s8 (x2 ||| 0) (x3 + 1)) else (X18 s8 (x2 ||| (1 <<< (x3 &&& 31))) (x3 + 1))) σ a1 x3 (σ 12 (15 + a1).toNatClampNeg)))
def wp_X10_kinds_l18 (K : Int32 → ts_S → Prop) (a1 : Int32) (σ : ts_S) (x2 : Int32) (x3 : Int32) : Prop :=
  ∀ X18 : ts_S → Int32 → Int32 → Prop, (∀ (σ : ts_S) (x2 : Int32) (x3 : Int32), wp_X10_kinds_b18 K X18 a1  σ x2 x3 → X18 σ x2 x3) → X18 σ x2 x3
def wp_X10_kinds (K : Int32 → ts_S → Prop) (σ : ts_S) (a1 : Int32) : Prop :=
  wp_X10_isPerson (fun r9 s10 => if (r9 : Int32) = 0 then (K (-1) s10) else (wp_X10_asItIs (fun s12 => wp_X10_kinds_l18 K a1 s12 0 0) s10 )) σ a1
def wp_X10_least_b5 (K : Int32 → ts_S → Prop) (X5 : ts_S → Int32 → Int32 → Prop) (a0 : Int32) (a1 : Int32) (a2 : Int32) (σ : ts_S) (x3 : Int32) (x4 : Int32) : Prop :=
  if (x4 : Int32) ≤ 0 then (if (a2 : Int32) = 0 then ((¬ (x3 : Int32) = 0) ∧ (K (a0 / x3) σ)) else ((¬ (x3 : Int32) = 0) ∧ (K (a1 / x3) σ))) else ((¬ (x4 : Int32) = 0) ∧ (X5 σ x4 (x3 - x3 / x4 * x4)))
def wp_X10_least_l5 (K : Int32 → ts_S → Prop) (a0 : Int32) (a1 : Int32) (a2 : Int32) (σ : ts_S) (x3 : Int32) (x4 : Int32) : Prop :=
  ∀ X5 : ts_S → Int32 → Int32 → Prop, (∀ (σ : ts_S) (x3 : Int32) (x4 : Int32), wp_X10_least_b5 K X5 a0 a1 a2  σ x3 x4 → X5 σ x3 x4) → X5 σ x3 x4
def wp_X10_least (K : Int32 → ts_S → Prop) (σ : ts_S) (a0 : Int32) (a1 : Int32) (a2 : Int32) : Prop :=
  wp_X10_least_l5 K a0 a1 a2 σ a0 a1
def wp_X10_likely_b115 (K : Int32 → ts_S → Prop) (X88 : ts_S → Int32 → Int32 → Prop) (X115 : ts_S → Int32 → Int32 → Prop) (a1 : Int32) (a2 : Int32) (a3 : Int32) (x4 : Int32) (x5 : Int32) (x6 : Int32) (x7 : Int32) (σ : ts_S) (x8 : Int32) (x9 : Int32) : Prop :=
  if (σ 0 1 : Int32) ≤ x9 then ((vp_in 1 21) ∧ ((vp_in 1 21) ∧ ∀ s22 : ts_S, s22 = ts_u σ 12 (1 : Int32).toNatClampNeg ((σ 3 (1 : Int32).toNatClampNeg) ||| x7) → (wp_X10_done (fun r23 s24 => if (r23 : Int32) < a1 then (X88 s24 (x5 + 0) (x7 + 1)) else (X88 s24 (x5 + x8) (x7 + 1))) s22 ))) else (wp_X10_has (fun r25 s26 => if (r25 : Int32) = 0 then (X115 s26 (x8 * 1) (x9 + 1)) else (wp_X10_has (fun r27 s28 => if (r27 : Int32) = 0 then (X115 s28 (x8 * (10 - a2)) (x9 + 1)) else (X115 s28 (x8 * a2) (x9 + 1))) s26 x7 x9)) σ x4 x9)
def wp_X10_likely_l115 (K : Int32 → ts_S → Prop) (X88 : ts_S → Int32 → Int32 → Prop) (a1 : Int32) (a2 : Int32) (a3 : Int32) (σ : ts_S) (x4 : Int32) (x5 : Int32) (x6 : Int32) (x7 : Int32) (x8 : Int32) (x9 : Int32) : Prop :=
  ∀ X115 : ts_S → Int32 → Int32 → Prop, (∀ (σ : ts_S) (x8 : Int32) (x9 : Int32), wp_X10_likely_b115 K X88 X115 a1 a2 a3 x4 x5 x6 x7 σ x8 x9 → X115 σ x8 x9) → X115 σ x8 x9
def wp_X10_likely_b88 (K : Int32 → ts_S → Prop) (X88 : ts_S → Int32 → Int32 → Prop) (a1 : Int32) (a2 : Int32) (a3 : Int32) (x4 : Int32) (x6 : Int32) (σ : ts_S) (x5 : Int32) (x7 : Int32) : Prop :=
  if (1 <<< ((σ 0 1) &&& 31) : Int32) ≤ x7 then (wp_X10_least (fun r29 s30 => K r29 s30) σ x5 x6 a3) else (if (x7 &&& (x4 ^^^ (-1)) : Int32) = 0 then (wp_X10_likely_l115 K X88 a1 a2 a3 σ x4 x5 x6 x7 1 0) else (X88 σ x5 (x7 + 1)))
def wp_X10_likely_l88 (K : Int32 → ts_S → Prop) (a1 : Int32) (a2 : Int32) (a3 : Int32) (σ : ts_S) (x4 : Int32) (x5 : Int32) (x6 : Int32) (x7 : Int32) : Prop :=
  ∀ X88 : ts_S → Int32 → Int32 → Prop, (∀ (σ : ts_S) (x5 : Int32) (x7 : Int32), wp_X10_likely_b88 K X88 a1 a2 a3 x4 x6 σ x5 x7 → X88 σ x5 x7) → X88 σ x5 x7
def wp_X10_likely_b49 (K : Int32 → ts_S → Prop) (X49 : ts_S → Int32 → Int32 → Prop) (a1 : Int32) (a2 : Int32) (a3 : Int32) (x4 : Int32) (x5 : Int32) (σ : ts_S) (x6 : Int32) (x7 : Int32) : Prop :=
  if (σ 0 1 : Int32) ≤ x7 then (wp_X10_likely_l88 K a1 a2 a3 σ x4 x5 x6 0) else (wp_X10_has (fun r31 s32 => if (r31 : Int32) = 0 then (X49 s32 (x6 * 1) (x7 + 1)) else (X49 s32 (x6 * 10) (x7 + 1))) σ x4 x7)
def wp_X10_likely_l49 (K : Int32 → ts_S → Prop) (a1 : Int32) (a2 : Int32) (a3 : Int32) (σ : ts_S) (x4 : Int32) (x5 : Int32) (x6 : Int32) (x7 : Int32) : Prop :=
  ∀ X49 : ts_S → Int32 → Int32 → Prop, (∀ (σ : ts_S) (x6 : Int32) (x7 : Int32), wp_X10_likely_b49 K X49 a1 a2 a3 x4 x5 σ x6 x7 → X49 σ x6 x7) → X49 σ x6 x7
def wp_X10_likely (K : Int32 → ts_S → Prop) (σ : ts_S) (a1 : Int32) (a2 : Int32) (a3 : Int32) : Prop :=
  wp_X10_in (fun r33 s34 => if (r33 : Int32) = 0 then (K (-1) s34) else (wp_X10_in (fun r35 s36 => if (r35 : Int32) = 0 then (K (-1) s36) else (wp_X10_in (fun r37 s38 => if (r37 : Int32) = 0 then (K (-1) s38) else (wp_X10_asItIs (fun s40 => wp_X10_frozen (fun r41 s42 => wp_X10_likely_l49 K a1 a2 a3 s42 r41 0 1 0) s40 ) s38 )) s36 a3 0 1)) s34 a2 0 10)) σ a1 0 5
def wp_X10_turns_j97 (K : ts_S → Prop) (a1 : Int32) (σ : ts_S) : Prop :=
  wp_X10_goesBy (fun s14 => K s14) σ 
def wp_X10_turns_j74 (K : ts_S → Prop) (a1 : Int32) (σ : ts_S) (y0 : Int32) (y1 : Int32) (y2 : Int32) : Prop :=
  (vp_in y2 21) ∧ ∀ s15 : ts_S, s15 = ts_u σ 12 y2.toNatClampNeg (y1 + y0) → (wp_X10_turns_j97 K a1 s15)
def wp_X10_turns_j42 (K : ts_S → Prop) (a1 : Int32) (σ : ts_S) (y0 : Int32) (y1 : Int32) (y2 : Int32) : Prop :=
  (vp_in y2 21) ∧ ∀ s16 : ts_S, s16 = ts_u σ 12 y2.toNatClampNeg (y1 - y0) → (wp_X10_turns_j97 K a1 s16)
def wp_X10_turns (K : ts_S → Prop) (σ : ts_S) (a1 : Int32) : Prop :=
  (¬ (σ 0 1 : Int32) = 0) ∧ ((¬ (8 : Int32) = 0) ∧ ((¬ (6 : Int32) = 0) ∧ (if (2 : Int32) ≤ ((a1 / 8) - (a1 / 8) / 6 * 6) then (if ((a1 / 8) - (a1 / 8) / 6 * 6 : Int32) = 2 then ((vp_in (3 + (a1 - a1 / (σ 0 1) * (σ 0 1))) 21) ∧ (wp_X10_canHoist (fun r21 s22 => if (r21 : Int32) = 0 then (wp_X10_turns_j74 K a1 s22 0 (σ 12 (3 + (a1 - a1 / (σ 0 1) * (σ 0 1))).toNatClampNeg) (3 + (a1 - a1 / (σ 0 1) * (σ 0 1)))) else (wp_X10_turns_j74 K a1 s22 1 (σ 12 (3 + (a1 - a1 / (σ 0 1) * (σ 0 1))).toNatClampNeg) (3 + (a1 - a1 / (σ 0 1) * (σ 0 1))))) σ (a1 - a1 / (σ 0 1) * (σ 0 1)))) else (if ((a1 / 8) - (a1 / 8) / 6 * 6 : Int32) = 3 then (wp_X10_canCall (fun r17 s18 => if (r17 : Int32) = 0 then (wp_X10_turns_j97 K a1 s18) else (wp_X10_calls (fun s20 => wp_X10_turns_j97 K a1 s20) s18 (a1 - a1 / (σ 0 1) * (σ 0 1)))) σ (a1 - a1 / (σ 0 1) * (σ 0 1))) else (wp_X10_turns_j97 K a1 σ))) else ((vp_in (3 + (a1 - a1 / (σ 0 1) * (σ 0 1))) 21) ∧ (wp_X10_canPromote (fun r23 s24 => if (r23 : Int32) = 0 then (wp_X10_turns_j42 K a1 s24 0 (σ 12 (3 + (a1 - a1 / (σ 0 1) * (σ 0 1))).toNatClampNeg) (3 + (a1 - a1 / (σ 0 1) * (σ 0 1)))) else (wp_X10_turns_j42 K a1 s24 1 (σ 12 (3 + (a1 - a1 / (σ 0 1) * (σ 0 1))).toNatClampNeg) (3 + (a1 - a1 / (σ 0 1) * (σ 0 1))))) σ (a1 - a1 / (σ 0 1) * (σ 0 1)))))))
def wp_X10_bits_b4 (K : Int32 → ts_S → Prop) (X4 : ts_S → Int32 → Int32 → Prop) (a0 : Int32) (σ : ts_S) (x1 : Int32) (x2 : Int32) : Prop :=
  if (6 : Int32) ≤ x2 then (K x1 σ) else (X4 σ (x1 + ((a0 >>> (x2 &&& 31)) &&& 1)) (x2 + 1))
def wp_X10_bits_l4 (K : Int32 → ts_S → Prop) (a0 : Int32) (σ : ts_S) (x1 : Int32) (x2 : Int32) : Prop :=
  ∀ X4 : ts_S → Int32 → Int32 → Prop, (∀ (σ : ts_S) (x1 : Int32) (x2 : Int32), wp_X10_bits_b4 K X4 a0  σ x1 x2 → X4 σ x1 x2) → X4 σ x1 x2
def wp_X10_bits (K : Int32 → ts_S → Prop) (σ : ts_S) (a0 : Int32) : Prop :=
  wp_X10_bits_l4 K a0 σ 0 0
def wp_X10_decade_b93 (K : Int32 → ts_S → Prop) (X93 : ts_S → Int32 → Int32 → Prop) (a1 : Int32) (a2 : Int32) (a3 : Int32) (σ : ts_S) (x4 : Int32) (x5 : Int32) : Prop :=
  if (σ 0 1 : Int32) ≤ x5 then (if (a3 : Int32) = 0 then ((vp_in 1 21) ∧ (wp_X10_bits (fun r19 s20 => K r19 s20) σ (σ 12 (1 : Int32).toNatClampNeg))) else (if (a3 : Int32) = 1 then (wp_X10_done (fun r17 s18 => K r17 s18) σ ) else (K x4 σ))) else ((vp_in 1 21) ∧ (wp_X10_has (fun r21 s22 => if (r21 : Int32) = 0 then ((vp_in (3 + x5) 21) ∧ (X93 s22 (x4 + (s22 12 (3 + x5).toNatClampNeg)) (x5 + 1))) else (X93 s22 (x4 + 0) (x5 + 1))) σ (σ 12 (1 : Int32).toNatClampNeg) x5))
def wp_X10_decade_l93 (K : Int32 → ts_S → Prop) (a1 : Int32) (a2 : Int32) (a3 : Int32) (σ : ts_S) (x4 : Int32) (x5 : Int32) : Prop :=
  ∀ X93 : ts_S → Int32 → Int32 → Prop, (∀ (σ : ts_S) (x4 : Int32) (x5 : Int32), wp_X10_decade_b93 K X93 a1 a2 a3  σ x4 x5 → X93 σ x4 x5) → X93 σ x4 x5
def wp_X10_decade_b39 (K : Int32 → ts_S → Prop) (X39 : ts_S → Int32 → Prop) (a1 : Int32) (a2 : Int32) (a3 : Int32) (σ : ts_S) (x4 : Int32) : Prop :=
  if (a2 : Int32) ≤ x4 then (wp_X10_decade_l93 K a1 a2 a3 σ 0 0) else ((¬ (65521 : Int64) = 0) ∧ ((¬ (2 : Int64) = 0) ∧ (wp_X10_turns (fun s24 => X39 s24 (x4 + 1)) σ (((((((7919 * a1.toInt64) + (6151 * x4.toInt64)) + 1) * (((7919 * a1.toInt64) + (6151 * x4.toInt64)) + 1)) - ((((7919 * a1.toInt64) + (6151 * x4.toInt64)) + 1) * (((7919 * a1.toInt64) + (6151 * x4.toInt64)) + 1)) / 65521 * 65521) / 2).toInt32))))
def wp_X10_decade_l39 (K : Int32 → ts_S → Prop) (a1 : Int32) (a2 : Int32) (a3 : Int32) (σ : ts_S) (x4 : Int32) : Prop :=
  ∀ X39 : ts_S → Int32 → Prop, (∀ (σ : ts_S) (x4 : Int32), wp_X10_decade_b39 K X39 a1 a2 a3  σ x4 → X39 σ x4) → X39 σ x4
def wp_X10_decade (K : Int32 → ts_S → Prop) (σ : ts_S) (a1 : Int32) (a2 : Int32) (a3 : Int32) : Prop :=
  wp_X10_in (fun r25 s26 => if (r25 : Int32) = 0 then (K (-1) s26) else (wp_X10_in (fun r27 s28 => if (r27 : Int32) = 0 then (K (-1) s28) else (wp_X10_in (fun r29 s30 => if (r29 : Int32) = 0 then (K (-1) s30) else (wp_X10_asItIs (fun s32 => wp_X10_decade_l39 K a1 a2 a3 s32 0) s30 )) s28 a3 0 2)) s26 a2 1 60)) σ a1 0 9999
def wp_X10_keep (K : Int32 → ts_S → Prop) (σ : ts_S)  : Prop :=
  if (σ 0 8 : Int32) = 2 then (K (-3) σ) else (wp_X10_copies (fun s5 => ∀ s6 : ts_S, s6 = ts_u s5 0 8 ((s5 0 8) + 1) → (K (s6 0 8) s6)) σ 5 (21 * (σ 0 8)) 3 0 21)
def wp_X10_back (K : Int32 → ts_S → Prop) (σ : ts_S)  : Prop :=
  if (σ 0 8 : Int32) = 0 then (K (-2) σ) else (∀ s5 : ts_S, s5 = ts_u σ 0 8 ((σ 0 8) - 1) → (wp_X10_copies (fun s7 => ∀ s8 : ts_S, s8 = ts_u s7 0 6 0 → (K (s8 0 8) s8)) s5 3 0 5 (21 * (s5 0 8)) 21))
def wp_X10_count (K : Int32 → ts_S → Prop) (σ : ts_S) (a1 : Int32) : Prop :=
  wp_X10_asItIs (fun s12 => if (a1 : Int32) = 0 then (K (s12 0 0) s12) else (if (a1 : Int32) = 1 then (K (s12 0 1) s12) else (if (a1 : Int32) = 2 then (K (s12 0 3) s12) else (if (a1 : Int32) = 3 then ((vp_in 0 21) ∧ (K (s12 3 (0 : Int32).toNatClampNeg) s12)) else (if (a1 : Int32) = 4 then ((vp_in 1 21) ∧ (wp_X10_bits (fun r13 s14 => K r13 s14) s12 (s12 3 (1 : Int32).toNatClampNeg))) else (if (a1 : Int32) = 5 then (wp_X10_frozen (fun r15 s16 => wp_X10_bits (fun r17 s18 => K r17 s18) s16 r15) s12 ) else (if (a1 : Int32) = 6 then (wp_X10_done (fun r19 s20 => K r19 s20) s12 ) else (if (a1 : Int32) = 7 then (K (s12 0 10) s12) else (if (a1 : Int32) = 8 then (K (s12 0 6) s12) else (if (a1 : Int32) = 9 then (K (s12 0 8) s12) else (if (a1 : Int32) = 10 then (K (s12 0 13) s12) else (K (-1) s12)))))))))))) σ 
