def wp_X9_takeDraft (K : ts_S → Prop) (σ : ts_S)  : Prop :=
  wp_X2_copyFrom (fun s11 => wp_X8_standAs (fun s13 => wp_X1_clear (fun s15 => wp_X4_clear (fun s17 => ∀ s18 : ts_S, s18 = ts_u s17 0 6 0 → (K s18)) s15 ) s13 ) s11 31 37) σ 23 27
def wp_X9_write (K : Int32 → ts_S → Prop) (σ : ts_S) (a1 : Int32) : Prop :=
  wp_X9_within (fun r5 s6 => if (r5 : Int32) = 0 then (K (-1) s6) else (wp_X6_add (fun r7 s8 => if (r7 : Int32) = 0 then (K (-3) s8) else (K (s8 1 1) s8)) s6 ((a1.toUInt32 % 65536).toInt32))) σ a1 32 126
def wp_X9_wipe (K : Int32 → ts_S → Prop) (σ : ts_S)  : Prop :=
  wp_X6_clear (fun s4 => K (σ 1 1) s4) σ 
def wp_X9_fault (K : Int32 → ts_S → Prop) (σ : ts_S)  : Prop :=
  wp_X6_readInto (fun r3 s4 => K r3 s4) σ 37
def wp_X9_lay (K : Int32 → ts_S → Prop) (σ : ts_S)  : Prop :=
  wp_X6_readInto (fun r5 s6 => if (r5 : Int32) = (-4) then (if (s6 27 1 : Int32) = 0 then (K (-2) s6) else (wp_X9_takeDraft (fun s8 => K (s8 23 1) s8) s6 )) else (K (-2) s6)) σ 37
def wp_X9_isPerson (K : Int32 → ts_S → Prop) (σ : ts_S) (a1 : Int32) : Prop :=
  wp_X9_within (fun r3 s4 => (ts_zb r3) ∧ K r3 s4) σ a1 0 ((σ 23 1) - 1)
def wp_X9_person (K : Int32 → ts_S → Prop) (σ : ts_S) (a1 : Int32) (a2 : Int32) : Prop :=
  wp_X9_isPerson (fun r15 s16 => if (r15 : Int32) = 0 then (K (-1) s16) else (if (a2 : Int32) = 0 then ((vp_in a1 6) ∧ (K (s16 24 a1.toNatClampNeg) s16)) else (if (a2 : Int32) = 1 then ((vp_in a1 6) ∧ (K (s16 32 a1.toNatClampNeg) s16)) else (if (a2 : Int32) = 2 then ((vp_in a1 6) ∧ (K (s16 33 a1.toNatClampNeg) s16)) else (if (a2 : Int32) = 3 then ((vp_in a1 6) ∧ (K (s16 34 a1.toNatClampNeg) s16)) else (if (a2 : Int32) = 4 then ((vp_in a1 6) ∧ (wp_X8_fearOn (fun r17 s18 => K r17 s18) s16 31 a1 (s16 32 a1.toNatClampNeg))) else (if (a2 : Int32) = 5 then (wp_X8_isFrozen (fun r19 s20 => wp_X9_asNumber (fun r21 s22 => K r21 s22) s20 r19) s16 31 a1) else (if (a2 : Int32) = 6 then ((vp_in a1 6) ∧ (wp_X9_asNumber (fun r23 s24 => K r23 s24) s16 (s16 35 a1.toNatClampNeg))) else (if (a2 : Int32) = 7 then (wp_X8_mayBeCalled (fun r25 s26 => wp_X9_asNumber (fun r27 s28 => K r27 s28) s26 r25) s16 31 a1) else (K (-1) s16)))))))))) σ a1
def wp_X9_isStep (K : Int32 → ts_S → Prop) (σ : ts_S) (a1 : Int32) : Prop :=
  wp_X9_within (fun r3 s4 => (ts_zb r3) ∧ K r3 s4) σ a1 0 ((σ 23 0) - 1)
def wp_X9_fear (K : Int32 → ts_S → Prop) (σ : ts_S) (a1 : Int32) (a2 : Int32) : Prop :=
  wp_X9_isPerson (fun r7 s8 => if (r7 : Int32) = 0 then (K (-1) s8) else (wp_X9_isStep (fun r9 s10 => if (r9 : Int32) = 0 then (K (-1) s10) else (wp_X8_fearOn (fun r11 s12 => K r11 s12) s10 31 a1 a2)) s8 a2)) σ a1
def wp_X9_work (K : Int32 → ts_S → Prop) (σ : ts_S) (a1 : Int32) (a2 : Int32) : Prop :=
  wp_X9_within (fun r9 s10 => if (r9 : Int32) = 0 then (K (-1) s10) else (if (a2 : Int32) = 0 then ((vp_in a1 5) ∧ (K (s10 25 a1.toNatClampNeg) s10)) else (if (a2 : Int32) = 1 then ((vp_in a1 5) ∧ (K (s10 26 a1.toNatClampNeg) s10)) else (if (a2 : Int32) = 2 then (wp_X8_steadyBits (fun r11 s12 => wp_X8_isDone (fun r13 s14 => wp_X9_asNumber (fun r15 s16 => K r15 s16) s14 r13) s12 31 a1 r11) s10 31) else (K (-1) s10))))) σ a1 0 ((σ 23 2) - 1)
def wp_X9_pass (K : Int32 → ts_S → Prop) (σ : ts_S) (a1 : Int32) : Prop :=
  wp_X9_within (fun r7 s8 => if (r7 : Int32) = 0 then (K (-1) s8) else (if ((s8 31 6) + a1 : Int32) ≤ 999 then (wp_X1_add (fun s10 => wp_X8_goYears (fun s12 => K (s12 31 6) s12) s10 31 a1) s8 31) else (K (-2) s8))) σ a1 1 40
def wp_X9_promote (K : Int32 → ts_S → Prop) (σ : ts_S) (a1 : Int32) : Prop :=
  wp_X9_isPerson (fun r9 s10 => if (r9 : Int32) = 0 then (K (-1) s10) else (wp_X8_mayGoDown (fun r11 s12 => if (r11 : Int32) = 0 then (K (-2) s12) else (wp_X1_add (fun s14 => wp_X8_goDown (fun s16 => (vp_in a1 6) ∧ (K (s16 32 a1.toNatClampNeg) s16)) s14 31 a1) s12 31)) s10 31 a1)) σ a1
def wp_X9_hoist (K : Int32 → ts_S → Prop) (σ : ts_S) (a1 : Int32) : Prop :=
  wp_X9_isPerson (fun r9 s10 => if (r9 : Int32) = 0 then (K (-1) s10) else (wp_X8_mayGoUp (fun r11 s12 => if (r11 : Int32) = 0 then (K (-2) s12) else (wp_X1_add (fun s14 => wp_X8_goUp (fun s16 => (vp_in a1 6) ∧ (K (s16 32 a1.toNatClampNeg) s16)) s14 31 a1) s12 31)) s10 31 a1)) σ a1
def wp_X9_call (K : Int32 → ts_S → Prop) (σ : ts_S) (a1 : Int32) : Prop :=
  wp_X9_isPerson (fun r9 s10 => if (r9 : Int32) = 0 then (K (-1) s10) else (wp_X8_mayBeCalled (fun r11 s12 => if (r11 : Int32) = 0 then (K (-2) s12) else (wp_X1_add (fun s14 => wp_X8_hearCall (fun s16 => (vp_in a1 6) ∧ (K (s16 34 a1.toNatClampNeg) s16)) s14 31 a1) s12 31)) s10 31 a1)) σ a1
def wp_X9_undo (K : Int32 → ts_S → Prop) (σ : ts_S)  : Prop :=
  if (σ 4 2 : Int32) = 0 then (K (-2) σ) else (wp_X1_takeLastInto (fun s4 => K (s4 4 2) s4) σ 31)
def wp_X9_behind (K : Int32 → ts_S → Prop) (σ : ts_S) (a1 : Int32) (a2 : Int32) (a3 : Int32) : Prop :=
  wp_X9_within (fun r13 s14 => if (r13 : Int32) = 0 then (K (-1) s14) else (wp_X9_isPerson (fun r15 s16 => if (r15 : Int32) = 0 then (K (-1) s16) else (wp_X9_within (fun r17 s18 => if (r17 : Int32) = 0 then (K (-1) s18) else (wp_X8_standAs (fun s20 => wp_X8_goYears (fun s22 => if (a3 : Int32) = 0 then ((vp_in a2 6) ∧ (wp_X9_asNumber (fun r23 s24 => K r23 s24) s22 (s22 47 a2.toNatClampNeg))) else ((vp_in a2 6) ∧ (K (s22 46 a2.toNatClampNeg) s22))) s20 43 a1) s18 43 31)) s16 a3 0 1)) s14 a2)) σ a1 0 40
def wp_X9_lowest_b34 (K : Int32 → ts_S → Prop) (X34 : ts_S → Int32 → Prop) (a1 : Int32) (σ : ts_S) (x2 : Int32) : Prop :=
  if (x2 : Int32) ≤ 0 then (K x2 σ) else (wp_X8_fearOn (fun r7 s8 => (vp_in a1 6) ∧ (if (s8 34 a1.toNatClampNeg : Int32) < r7 then (K x2 s8) else (X34 s8 (x2 + (-1))))) σ 31 a1 (x2 - 1))
def wp_X9_lowest_l34 (K : Int32 → ts_S → Prop) (a1 : Int32) (σ : ts_S) (x2 : Int32) : Prop :=
  ∀ X34 : ts_S → Int32 → Prop, (∀ (σ : ts_S) (x2 : Int32), wp_X9_lowest_b34 K X34 a1  σ x2 → X34 σ x2) → X34 σ x2
def wp_X9_lowest (K : Int32 → ts_S → Prop) (σ : ts_S) (a1 : Int32) : Prop :=
  wp_X9_isPerson (fun r9 s10 => if (r9 : Int32) = 0 then (K (-1) s10) else (wp_X8_isSteady (fun r11 s12 => if (r11 : Int32) = 0 then (K (-2) s12) else ((vp_in a1 6) ∧ (wp_X9_lowest_l34 K a1 s12 (s12 32 a1.toNatClampNeg)))) s10 31 a1)) σ a1
def wp_X9_posting_j15 (K : Int32 → ts_S → Prop) (a1 : Int32) (σ : ts_S) : Prop :=
  wp_X3_search (fun s6 => if (0 : Int32) ≤ (s6 11 6) then (if (a1 : Int32) = (-1) then (K (s6 11 6) s6) else ((vp_in a1 6) ∧ (K (s6 15 a1.toNatClampNeg) s6))) else (K (-4) s6)) σ 31
def wp_X9_posting (K : Int32 → ts_S → Prop) (σ : ts_S) (a1 : Int32) : Prop :=
  if (a1 : Int32) = (-1) then (wp_X9_posting_j15 K a1 σ) else (wp_X9_isPerson (fun r7 s8 => if (r7 : Int32) = 0 then (K (-1) s8) else (wp_X9_posting_j15 K a1 s8)) σ a1)
def wp_X9_timetable (K : Int32 → ts_S → Prop) (σ : ts_S) (a1 : Int32) (a2 : Int32) : Prop :=
  wp_X9_within (fun r7 s8 => if (r7 : Int32) = 0 then (K (-1) s8) else (wp_X9_within (fun r9 s10 => if (r9 : Int32) = 0 then (K (-1) s10) else (wp_X7_search (fun s12 => if (a2 : Int32) = (-1) then (K (s12 16 4) s12) else (if (a1 : Int32) ≤ a2 then (K (-4) s12) else ((vp_in a2 4) ∧ (K (s12 19 a2.toNatClampNeg) s12)))) s10 31 a1)) s8 a2 (-1) 3)) σ a1 1 4
def wp_X9_swap (K : Int32 → ts_S → Prop) (σ : ts_S) (a1 : Int32) : Prop :=
  wp_X9_within (fun r5 s6 => if (r5 : Int32) = 0 then (K (-1) s6) else (wp_X5_search (fun s8 => if (0 : Int32) ≤ (s8 20 2) then (if (a1 : Int32) = 0 then (K (s8 20 1) s8) else (K (s8 20 2) s8)) else (K (-4) s8)) s6 31)) σ a1 0 1
def wp_X9_can (K : Int32 → ts_S → Prop) (σ : ts_S) (a1 : Int32) (a2 : Int32) (a3 : Int32) : Prop :=
  wp_X9_isStep (fun r9 s10 => if (r9 : Int32) = 0 then (K (-1) s10) else (wp_X9_isStep (fun r11 s12 => if (r11 : Int32) = 0 then (K (-1) s12) else (wp_X9_within (fun r13 s14 => if (r13 : Int32) = 0 then (K (-1) s14) else (wp_X0_search (fun s16 => if (0 : Int32) ≤ (s16 21 2) then (if (a3 : Int32) = 0 then (K (s16 21 1) s16) else (K (s16 21 2) s16)) else (K (-4) s16)) s14 31 a1 a2)) s12 a3 0 1)) s10 a2)) σ a1
def wp_X9_seen_j43 (K : Int32 → ts_S → Prop) (a1 : Int32) (a2 : Int32) (a3 : Int32) (σ : ts_S) (y0 : Int32) (y1 : Int32) (y2 : Int32) : Prop :=
  wp_X4_add (fun r9 s10 => if (r9 : Int32) = 0 then (K (-3) s10) else (K (s10 7 3) s10)) σ y2 y1 y0
def wp_X9_seen (K : Int32 → ts_S → Prop) (σ : ts_S) (a1 : Int32) (a2 : Int32) (a3 : Int32) : Prop :=
  wp_X9_isPerson (fun r11 s12 => if (r11 : Int32) = 0 then (K (-1) s12) else (wp_X9_isStep (fun r13 s14 => if (r13 : Int32) = 0 then (K (-1) s14) else (wp_X9_within (fun r15 s16 => if (r15 : Int32) = 0 then (K (-1) s16) else (if (a3 : Int32) = 1 then (wp_X9_seen_j43 K a1 a2 a3 s16 1 a2 a1) else (wp_X9_seen_j43 K a1 a2 a3 s16 0 a2 a1))) s14 a3 0 1)) s12 a2)) σ a1
def wp_X9_forget (K : Int32 → ts_S → Prop) (σ : ts_S)  : Prop :=
  wp_X4_clear (fun s4 => K (σ 7 3) s4) σ 
def wp_X9_nerves_b29 (K : Int32 → ts_S → Prop) (X29 : ts_S → Int32 → Int32 → Int32 → Prop) (a1 : Int32) (a2 : Int32) (σ : ts_S) (x3 : Int32) (x4 : Int32) (x5 : Int32) : Prop :=
  if (x5 : Int32) < 0 then (if (a2 : Int32) = 0 then (K x3 σ) else (K x4 σ)) else ((vp_in a1 6) ∧ (wp_X4_wouldHold (fun r7 s8 => if (r7 : Int32) = 0 then (X29 s8 x3 x4 (x5 + (-1))) else (X29 s8 (x3 + 1) x5 (x5 + (-1)))) σ 31 a1 (σ 24 a1.toNatClampNeg) x5))
def wp_X9_nerves_l29 (K : Int32 → ts_S → Prop) (a1 : Int32) (a2 : Int32) (σ : ts_S) (x3 : Int32) (x4 : Int32) (x5 : Int32) : Prop :=
  ∀ X29 : ts_S → Int32 → Int32 → Int32 → Prop, (∀ (σ : ts_S) (x3 : Int32) (x4 : Int32) (x5 : Int32), wp_X9_nerves_b29 K X29 a1 a2  σ x3 x4 x5 → X29 σ x3 x4 x5) → X29 σ x3 x4 x5
def wp_X9_nerves (K : Int32 → ts_S → Prop) (σ : ts_S) (a1 : Int32) (a2 : Int32) : Prop :=
  wp_X9_isPerson (fun r9 s10 => if (r9 : Int32) = 0 then (K (-1) s10) else (wp_X9_within (fun r11 s12 => if (r11 : Int32) = 0 then (K (-1) s12) else (wp_X9_nerves_l29 K a1 a2 s12 0 (-4) 30)) s10 a2 0 1)) σ a1
def wp_X9_kinds_b14 (K : Int32 → ts_S → Prop) (X14 : ts_S → Int32 → Int32 → Prop) (a1 : Int32) (σ : ts_S) (x2 : Int32) (x3 : Int32) : Prop :=
  if (4 : Int32) ≤ x3 then (K x2 σ) else ((vp_in a1 6) ∧ (wp_X4_wouldHold (fun r5 s6 => if (r5 : Int32) = 0 then (X14 s6 x2 (x3 + 1)) else (X14 s6 (x2 ||| (1 <<< (x3 &&& 31))) (x3 + 1))) σ 31 a1 x3 (σ 34 a1.toNatClampNeg)))
def wp_X9_kinds_l14 (K : Int32 → ts_S → Prop) (a1 : Int32) (σ : ts_S) (x2 : Int32) (x3 : Int32) : Prop :=
  ∀ X14 : ts_S → Int32 → Int32 → Prop, (∀ (σ : ts_S) (x2 : Int32) (x3 : Int32), wp_X9_kinds_b14 K X14 a1  σ x2 x3 → X14 σ x2 x3) → X14 σ x2 x3
def wp_X9_kinds (K : Int32 → ts_S → Prop) (σ : ts_S) (a1 : Int32) : Prop :=
  wp_X9_isPerson (fun r7 s8 => if (r7 : Int32) = 0 then (K (-1) s8) else (wp_X9_kinds_l14 K a1 s8 0 0)) σ a1
def wp_X9_doneIfTheseFall_b13 (K : Int32 → ts_S → Prop) (X13 : ts_S → Int32 → Prop) (a1 : Int32) (σ : ts_S) (x2 : Int32) : Prop :=
  if (σ 23 1 : Int32) ≤ x2 then (wp_X8_doneMany (fun r8 s9 => K r8 s9) σ 43) else (wp_X9_hasBit (fun r10 s11 => if (r10 : Int32) = 0 then (X13 s11 (x2 + 1)) else ((vp_in x2 6) ∧ ∀ s12 : ts_S, s12 = ts_u s11 47 x2.toNatClampNeg (vp_nar .boolean 1) → (X13 s12 (x2 + 1)))) σ a1 x2)
def wp_X9_doneIfTheseFall_l13 (K : Int32 → ts_S → Prop) (a1 : Int32) (σ : ts_S) (x2 : Int32) : Prop :=
  ∀ X13 : ts_S → Int32 → Prop, (∀ (σ : ts_S) (x2 : Int32), wp_X9_doneIfTheseFall_b13 K X13 a1  σ x2 → X13 σ x2) → X13 σ x2
def wp_X9_doneIfTheseFall (K : Int32 → ts_S → Prop) (σ : ts_S) (a1 : Int32) : Prop :=
  wp_X8_standAs (fun s14 => wp_X9_doneIfTheseFall_l13 K a1 s14 0) σ 43 31
def wp_X9_likely_b45 (K : Int32 → ts_S → Prop) (X45 : ts_S → Int32 → Int32 → Prop) (a1 : Int32) (a2 : Int32) (a3 : Int32) (x4 : Int32) (σ : ts_S) (x5 : Int32) (x6 : Int32) : Prop :=
  if (64 : Int32) ≤ x6 then (wp_J6_bitCount_0f7a4 (fun r19 s20 => wp_X9_power (fun r21 s22 => wp_X9_commonDivisor (fun r23 s24 => if (1 : Int32) ≤ r23 then (if (a3 : Int32) = 0 then ((¬ (r23 : Int32) = 0) ∧ (K (x5 / r23) s24)) else ((¬ (r23 : Int32) = 0) ∧ (K (r21 / r23) s24))) else (K (-1) s24)) s22 x5 r21) s20 10 r19) σ x4) else (if (x6 &&& (x4 ^^^ (-1)) : Int32) = 0 then (wp_X9_doneIfTheseFall (fun r25 s26 => if (r25 : Int32) < a1 then (X45 s26 x5 (x6 + 1)) else (wp_X9_waysOfTen (fun r27 s28 => X45 s28 (x5 + r27) (x6 + 1)) s26 x4 x6 a2)) σ x6) else (X45 σ x5 (x6 + 1)))
def wp_X9_likely_l45 (K : Int32 → ts_S → Prop) (a1 : Int32) (a2 : Int32) (a3 : Int32) (σ : ts_S) (x4 : Int32) (x5 : Int32) (x6 : Int32) : Prop :=
  ∀ X45 : ts_S → Int32 → Int32 → Prop, (∀ (σ : ts_S) (x5 : Int32) (x6 : Int32), wp_X9_likely_b45 K X45 a1 a2 a3 x4 σ x5 x6 → X45 σ x5 x6) → X45 σ x5 x6
def wp_X9_likely (K : Int32 → ts_S → Prop) (σ : ts_S) (a1 : Int32) (a2 : Int32) (a3 : Int32) : Prop :=
  wp_X9_within (fun r29 s30 => if (r29 : Int32) = 0 then (K (-1) s30) else (wp_X9_within (fun r31 s32 => if (r31 : Int32) = 0 then (K (-1) s32) else (wp_X9_within (fun r33 s34 => if (r33 : Int32) = 0 then (K (-1) s34) else (wp_X8_frozenBits (fun r35 s36 => wp_X9_likely_l45 K a1 a2 a3 s36 r35 0 0) s34 31)) s32 a3 0 1)) s30 a2 0 10)) σ a1 0 5
def wp_X9_decade_b46 (K : Int32 → ts_S → Prop) (X46 : ts_S → Int32 → Prop) (a1 : Int32) (a2 : Int32) (a3 : Int32) (σ : ts_S) (x4 : Int32) : Prop :=
  if (a2 : Int32) ≤ x4 then (if (a3 : Int32) = 0 then (wp_X8_goneMany (fun r21 s22 => K r21 s22) σ 43) else (if (a3 : Int32) = 1 then (wp_X8_doneMany (fun r23 s24 => K r23 s24) σ 43) else (wp_X8_stepsTogether (fun r25 s26 => K r25 s26) σ 43))) else (wp_X9_drawOf (fun r27 s28 => wp_X8_actBy (fun s30 => wp_X8_goYear (fun s32 => X46 s32 (x4 + 1)) s30 43) s28 43 r27) σ a1 x4)
def wp_X9_decade_l46 (K : Int32 → ts_S → Prop) (a1 : Int32) (a2 : Int32) (a3 : Int32) (σ : ts_S) (x4 : Int32) : Prop :=
  ∀ X46 : ts_S → Int32 → Prop, (∀ (σ : ts_S) (x4 : Int32), wp_X9_decade_b46 K X46 a1 a2 a3  σ x4 → X46 σ x4) → X46 σ x4
def wp_X9_decade (K : Int32 → ts_S → Prop) (σ : ts_S) (a1 : Int32) (a2 : Int32) (a3 : Int32) : Prop :=
  wp_X9_within (fun r33 s34 => if (r33 : Int32) = 0 then (K (-1) s34) else (wp_X9_within (fun r35 s36 => if (r35 : Int32) = 0 then (K (-1) s36) else (wp_X9_within (fun r37 s38 => if (r37 : Int32) = 0 then (K (-1) s38) else (wp_X8_standAs (fun s40 => wp_X9_decade_l46 K a1 a2 a3 s40 0) s38 43 31)) s36 a3 0 2)) s34 a2 1 60)) σ a1 0 9999
def wp_X9_keep (K : Int32 → ts_S → Prop) (σ : ts_S)  : Prop :=
  if (σ 0 6 : Int32) < 2 then ((vp_in (σ 0 6) 2) ∧ (wp_X8_standAs (fun s7 => ∀ s8 : ts_S, s8 = ts_u s7 0 6 ((s7 0 6) + 1) → (K (s8 0 6) s8)) σ (61 + 6 * (σ 0 6).toNatClampNeg) 31)) else (K (-3) σ)
def wp_X9_back (K : Int32 → ts_S → Prop) (σ : ts_S)  : Prop :=
  if (0 : Int32) < (σ 0 6) then (∀ s7 : ts_S, s7 = ts_u σ 0 6 ((σ 0 6) - 1) → ((vp_in (s7 0 6) 2) ∧ (wp_X8_standAs (fun s10 => wp_X1_clear (fun s12 => K (s12 0 6) s12) s10 ) s7 31 (61 + 6 * (s7 0 6).toNatClampNeg)))) else (K (-2) σ)
def wp_X9_count (K : Int32 → ts_S → Prop) (σ : ts_S) (a1 : Int32) : Prop :=
  if (a1 : Int32) = 0 then (K (σ 23 0) σ) else (if (a1 : Int32) = 1 then (K (σ 23 1) σ) else (if (a1 : Int32) = 2 then (K (σ 23 2) σ) else (if (a1 : Int32) = 3 then (K (σ 31 6) σ) else (if (a1 : Int32) = 4 then (wp_X8_goneMany (fun r9 s10 => K r9 s10) σ 31) else (if (a1 : Int32) = 5 then (wp_X8_frozenBits (fun r11 s12 => wp_J6_bitCount_0f7a4 (fun r13 s14 => K r13 s14) s12 r11) σ 31) else (if (a1 : Int32) = 6 then (wp_X8_doneMany (fun r15 s16 => K r15 s16) σ 31) else (if (a1 : Int32) = 7 then (K (σ 7 3) σ) else (if (a1 : Int32) = 8 then (K (σ 4 2) σ) else (if (a1 : Int32) = 9 then (K (σ 0 6) σ) else (if (a1 : Int32) = 10 then (K (σ 1 1) σ) else (K (-1) σ)))))))))))
