/-! the small constructors: each makes its block of cells -/
theorem gw_as {g : gw_Ctx} {D : va_G} {nL : Nat} {ws ws' : va_W} {ce sl pc : Nat} {lv : List (Nat × Value)} {st : List Value} (h : ws = ws') (k : gw_G g D nL ws' ce sl pc lv st) : gw_G g D nL ws ce sl pc lv st := by
  rw [h]; exact k
def bTx (v : tX_V) (a : Nat → Nat) : va_W := [(a 0, .inr (6, [.ref (a 1), .int 0, .int 0, .ref (a 2)])), (a 1, .inl (v.2.2.2.1, 200, .inl (fun _ => 0))), (a 2, .inl (v.2.1, 4, .inl (fun _ => 0)))]
def bPl (v : tX_V) (a : Nat → Nat) : va_W := [(a 0, .inr (2, [.int 6, .int 0, .int 0, .ref (a 1), .ref (a 2), .ref (a 3)])), (a 1, .inl (v.2.1, 6, .inl (fun _ => 0))), (a 2, .inl (v.2.1, 5, .inl (fun _ => 0))), (a 3, .inl (v.2.1, 5, .inl (fun _ => 0)))]
def bTw (v : tX_V) (p : Nat) (a : Nat → Nat) : va_W := [(a 0, .inr (8, [.ref p, .ref (a 1), .ref (a 2), .ref (a 3), .ref (a 4), .ref (a 5), .int 0])), (a 1, .inl (v.2.1, 6, .inl (fun _ => 0))), (a 2, .inl (v.2.1, 6, .inl (fun _ => 0))), (a 3, .inl (v.2.1, 6, .inl (fun _ => 0))), (a 4, .inl (v.2.2.1, 6, .inl (fun _ => 0))), (a 5, .inl (v.2.2.1, 6, .inl (fun _ => 0)))]
def bSi (v : tX_V) (a : Nat → Nat) : va_W := [(a 0, .inr (4, [.ref (a 1), .ref (a 2), .ref (a 3), .int 0])), (a 1, .inl (v.2.1, 6, .inl (fun _ => 0))), (a 2, .inl (v.2.1, 6, .inl (fun _ => 0))), (a 3, .inl (v.2.2.1, 6, .inl (fun _ => 0)))]
def bPo (v : tX_V) (t : Nat) (a : Nat → Nat) : va_W := [(a 0, .inr (3, [.ref t, .ref (a 1), .ref (a 2), .ref (a 3), .int 0, .ref (a 4), .int 0])), (a 1, .inl (v.2.1, 6, .inl (fun _ => 0))), (a 2, .inl (v.2.1, 5, .inl (fun _ => 0))), (a 3, .inl (v.2.1, 10, .inl (fun _ => 0))), (a 4, .inl (v.2.1, 6, .inl (fun _ => 0)))]
def bSw (v : tX_V) (t : Nat) (a : Nat → Nat) : va_W := [(a 0, .inr (5, [.ref t, .int 0, .int 0]))]
def bCh (v : tX_V) (a : Nat → Nat) : va_W := [(a 0, .inr (0, [.ref (a 1), .int 0, .int 0])), (a 1, .inl (v.2.1, 6, .inl (fun _ => 0)))]
set_option maxRecDepth 100000 in
set_option maxHeartbeats 4000000 in
theorem ct_X6_init (l : Launch) (v : tX_V) (b : Nat) : gw_Mv l yX6_init (Cond.code yX6_init cX6_init 1 none) { frames := 1, cells := 2, slots := 204, locals := 20 } v.1 (tX_ty v) [.ref b] [(b, .inr (6, [.null, .int 0, .int 0, .null]))] (fun w => ∃ a : Nat → Nat, a 0 = b ∧ w = bTx v a) := by
  refine gw_Mv.of (by decide +kernel) (Nat.le_of_ble_eq_true rfl) ?_
  intro g hgl hgR X hin hA hret
  show gw_G g v.1 1 [(b, .inr (6, [.null, .int 0, .int 0, .null]))] 0 0 0 [(0, .ref b)] []
  refine gw_aload_n X dX6_init_0 0 rfl ?_
  refine gw_oinit X kw_90 kw_83 kw_84 (by rw [hgR]; decide) (by rw [hgR]; decide) (Nat.le_of_ble_eq_true rfl) dX6_init_1 ?_
  refine gw_aload_n X dX6_init_4 0 rfl ?_
  refine gw_sipush X dX6_init_5 (v := 200) (by decide) ?_
  refine gw_newa X hA (atype := .char) (ty := .char) (N := 200) (t0 := 2) rfl kw_105 rfl (fun _ _ h => h) rfl (by decide) rfl (Nat.le_of_ble_eq_true rfl) (by rw [hgR]; decide) (by rw [hgR]; decide) dX6_init_8 (fun q1 => ?_)
  refine gw_as (ws' := ((b, .inr (6, [.null, .int 0, .int 0, .null])) :: [(q1, .inl (v.2.2.2.1, 200, .inl (fun _ => 0)))])) rfl ?_
  refine gw_putF (a := b) (ci := 6) (wr := [(q1, .inl (v.2.2.2.1, 200, .inl (fun _ => 0)))]) (ty0 := tyX6) X hin tw_X6 tyX6_ok nmX6 rfl 0 (by decide) kw_91 rfl rfl rfl rfl rfl (Nat.le_of_ble_eq_true rfl) rfl dX6_init_10 ?_
  refine gw_as (ws' := ((b, .inr (6, [.ref q1, .int 0, .int 0, .null])) :: [(q1, .inl (v.2.2.2.1, 200, .inl (fun _ => 0)))])) rfl ?_
  refine gw_aload_n X dX6_init_13 0 rfl ?_
  refine gw_iconst X dX6_init_14 (v := 4) (by decide) ?_
  refine gw_newa X hA (atype := .int) (ty := .int) (N := 4) (t0 := 0) rfl kw_106 rfl (fun _ _ h => h) rfl (by decide) rfl (Nat.le_of_ble_eq_true rfl) (by rw [hgR]; decide) (by rw [hgR]; decide) dX6_init_15 (fun q2 => ?_)
  refine gw_as (ws' := ((b, .inr (6, [.ref q1, .int 0, .int 0, .null])) :: [(q1, .inl (v.2.2.2.1, 200, .inl (fun _ => 0))), (q2, .inl (v.2.1, 4, .inl (fun _ => 0)))])) rfl ?_
  refine gw_putF (a := b) (ci := 6) (wr := [(q1, .inl (v.2.2.2.1, 200, .inl (fun _ => 0))), (q2, .inl (v.2.1, 4, .inl (fun _ => 0)))]) (ty0 := tyX6) X hin tw_X6 tyX6_ok nmX6 rfl 3 (by decide) kw_95 rfl rfl rfl rfl rfl (Nat.le_of_ble_eq_true rfl) rfl dX6_init_17 ?_
  refine gw_as (ws' := ((b, .inr (6, [.ref q1, .int 0, .int 0, .ref q2])) :: [(q1, .inl (v.2.2.2.1, 200, .inl (fun _ => 0))), (q2, .inl (v.2.1, 4, .inl (fun _ => 0)))])) rfl ?_
  exact hret _ _ _ ⟨fun k => if k = 0 then b else if k = 1 then q1 else q2, rfl, rfl⟩ dX6_init_20
set_option maxRecDepth 100000 in
set_option maxHeartbeats 4000000 in
theorem ct_X2_init (l : Launch) (v : tX_V) (b : Nat) : gw_Mv l yX2_init (Cond.code yX2_init cX2_init 1 none) { frames := 1, cells := 3, slots := 16, locals := 20 } v.1 (tX_ty v) [.ref b] [(b, .inr (2, [.int 0, .int 0, .int 0, .null, .null, .null]))] (fun w => ∃ a : Nat → Nat, a 0 = b ∧ w = bPl v a) := by
  refine gw_Mv.of (by decide +kernel) (Nat.le_of_ble_eq_true rfl) ?_
  intro g hgl hgR X hin hA hret
  show gw_G g v.1 1 [(b, .inr (2, [.int 0, .int 0, .int 0, .null, .null, .null]))] 0 0 0 [(0, .ref b)] []
  refine gw_aload_n X dX2_init_0 0 rfl ?_
  refine gw_oinit X kw_114 kw_83 kw_84 (by rw [hgR]; decide) (by rw [hgR]; decide) (Nat.le_of_ble_eq_true rfl) dX2_init_1 ?_
  refine gw_aload_n X dX2_init_4 0 rfl ?_
  refine gw_bipush X dX2_init_5 (v := 6) (by decide) ?_
  refine gw_put (a := b) (ci := 2) (wr := []) (ty0 := tyX2) X tw_X2 tyX2_ok nmX2 rfl 0 (by decide) kw_115 rfl rfl rfl rfl (Nat.le_of_ble_eq_true rfl) rfl dX2_init_7 ?_
  refine gw_as (ws' := ((b, .inr (2, [.int 6, .int 0, .int 0, .null, .null, .null])) :: [])) rfl ?_
  refine gw_aload_n X dX2_init_10 0 rfl ?_
  refine gw_bipush X dX2_init_11 (v := 6) (by decide) ?_
  refine gw_newa X hA (atype := .int) (ty := .int) (N := 6) (t0 := 0) rfl kw_106 rfl (fun _ _ h => h) rfl (by decide) rfl (Nat.le_of_ble_eq_true rfl) (by rw [hgR]; decide) (by rw [hgR]; decide) dX2_init_13 (fun q1 => ?_)
  refine gw_as (ws' := ((b, .inr (2, [.int 6, .int 0, .int 0, .null, .null, .null])) :: [(q1, .inl (v.2.1, 6, .inl (fun _ => 0)))])) rfl ?_
  refine gw_putF (a := b) (ci := 2) (wr := [(q1, .inl (v.2.1, 6, .inl (fun _ => 0)))]) (ty0 := tyX2) X hin tw_X2 tyX2_ok nmX2 rfl 3 (by decide) kw_134 rfl rfl rfl rfl rfl (Nat.le_of_ble_eq_true rfl) rfl dX2_init_15 ?_
  refine gw_as (ws' := ((b, .inr (2, [.int 6, .int 0, .int 0, .ref q1, .null, .null])) :: [(q1, .inl (v.2.1, 6, .inl (fun _ => 0)))])) rfl ?_
  refine gw_aload_n X dX2_init_18 0 rfl ?_
  refine gw_iconst X dX2_init_19 (v := 5) (by decide) ?_
  refine gw_newa X hA (atype := .int) (ty := .int) (N := 5) (t0 := 0) rfl kw_106 rfl (fun _ _ h => h) rfl (by decide) rfl (Nat.le_of_ble_eq_true rfl) (by rw [hgR]; decide) (by rw [hgR]; decide) dX2_init_20 (fun q2 => ?_)
  refine gw_as (ws' := ((b, .inr (2, [.int 6, .int 0, .int 0, .ref q1, .null, .null])) :: [(q1, .inl (v.2.1, 6, .inl (fun _ => 0))), (q2, .inl (v.2.1, 5, .inl (fun _ => 0)))])) rfl ?_
  refine gw_putF (a := b) (ci := 2) (wr := [(q1, .inl (v.2.1, 6, .inl (fun _ => 0))), (q2, .inl (v.2.1, 5, .inl (fun _ => 0)))]) (ty0 := tyX2) X hin tw_X2 tyX2_ok nmX2 rfl 4 (by decide) kw_139 rfl rfl rfl rfl rfl (Nat.le_of_ble_eq_true rfl) rfl dX2_init_22 ?_
  refine gw_as (ws' := ((b, .inr (2, [.int 6, .int 0, .int 0, .ref q1, .ref q2, .null])) :: [(q1, .inl (v.2.1, 6, .inl (fun _ => 0))), (q2, .inl (v.2.1, 5, .inl (fun _ => 0)))])) rfl ?_
  refine gw_aload_n X dX2_init_25 0 rfl ?_
  refine gw_iconst X dX2_init_26 (v := 5) (by decide) ?_
  refine gw_newa X hA (atype := .int) (ty := .int) (N := 5) (t0 := 0) rfl kw_106 rfl (fun _ _ h => h) rfl (by decide) rfl (Nat.le_of_ble_eq_true rfl) (by rw [hgR]; decide) (by rw [hgR]; decide) dX2_init_27 (fun q3 => ?_)
  refine gw_as (ws' := ((b, .inr (2, [.int 6, .int 0, .int 0, .ref q1, .ref q2, .null])) :: [(q1, .inl (v.2.1, 6, .inl (fun _ => 0))), (q2, .inl (v.2.1, 5, .inl (fun _ => 0))), (q3, .inl (v.2.1, 5, .inl (fun _ => 0)))])) rfl ?_
  refine gw_putF (a := b) (ci := 2) (wr := [(q1, .inl (v.2.1, 6, .inl (fun _ => 0))), (q2, .inl (v.2.1, 5, .inl (fun _ => 0))), (q3, .inl (v.2.1, 5, .inl (fun _ => 0)))]) (ty0 := tyX2) X hin tw_X2 tyX2_ok nmX2 rfl 5 (by decide) kw_144 rfl rfl rfl rfl rfl (Nat.le_of_ble_eq_true rfl) rfl dX2_init_29 ?_
  refine gw_as (ws' := ((b, .inr (2, [.int 6, .int 0, .int 0, .ref q1, .ref q2, .ref q3])) :: [(q1, .inl (v.2.1, 6, .inl (fun _ => 0))), (q2, .inl (v.2.1, 5, .inl (fun _ => 0))), (q3, .inl (v.2.1, 5, .inl (fun _ => 0)))])) rfl ?_
  exact hret _ _ _ ⟨fun k => if k = 0 then b else if k = 1 then q1 else if k = 2 then q2 else q3, rfl, rfl⟩ dX2_init_32
set_option maxRecDepth 100000 in
set_option maxHeartbeats 4000000 in
theorem ct_X8_init (l : Launch) (v : tX_V) (b p : Nat) : gw_Mv l yX8_init (Cond.code yX8_init cX8_init 2 none) { frames := 1, cells := 5, slots := 30, locals := 20 } v.1 (tX_ty v) [.ref b, .ref p] [(b, .inr (8, [.null, .null, .null, .null, .null, .null, .int 0]))] (fun w => ∃ a : Nat → Nat, a 0 = b ∧ w = bTw v p a) := by
  refine gw_Mv.of (by decide +kernel) (Nat.le_of_ble_eq_true rfl) ?_
  intro g hgl hgR X hin hA hret
  show gw_G g v.1 2 [(b, .inr (8, [.null, .null, .null, .null, .null, .null, .int 0]))] 0 0 0 [(0, .ref b), (1, .ref p)] []
  refine gw_aload_n X dX8_init_0 0 rfl ?_
  refine gw_oinit X kw_165 kw_83 kw_84 (by rw [hgR]; decide) (by rw [hgR]; decide) (Nat.le_of_ble_eq_true rfl) dX8_init_1 ?_
  refine gw_aload_n X dX8_init_4 0 rfl ?_
  refine gw_bipush X dX8_init_5 (v := 6) (by decide) ?_
  refine gw_newa X hA (atype := .int) (ty := .int) (N := 6) (t0 := 0) rfl kw_106 rfl (fun _ _ h => h) rfl (by decide) rfl (Nat.le_of_ble_eq_true rfl) (by rw [hgR]; decide) (by rw [hgR]; decide) dX8_init_7 (fun q1 => ?_)
  refine gw_as (ws' := ((b, .inr (8, [.null, .null, .null, .null, .null, .null, .int 0])) :: [(q1, .inl (v.2.1, 6, .inl (fun _ => 0)))])) rfl ?_
  refine gw_putF (a := b) (ci := 8) (wr := [(q1, .inl (v.2.1, 6, .inl (fun _ => 0)))]) (ty0 := tyX8) X hin tw_X8 tyX8_ok nmX8 rfl 1 (by decide) kw_173 rfl rfl rfl rfl rfl (Nat.le_of_ble_eq_true rfl) rfl dX8_init_9 ?_
  refine gw_as (ws' := ((b, .inr (8, [.null, .ref q1, .null, .null, .null, .null, .int 0])) :: [(q1, .inl (v.2.1, 6, .inl (fun _ => 0)))])) rfl ?_
  refine gw_aload_n X dX8_init_12 0 rfl ?_
  refine gw_bipush X dX8_init_13 (v := 6) (by decide) ?_
  refine gw_newa X hA (atype := .int) (ty := .int) (N := 6) (t0 := 0) rfl kw_106 rfl (fun _ _ h => h) rfl (by decide) rfl (Nat.le_of_ble_eq_true rfl) (by rw [hgR]; decide) (by rw [hgR]; decide) dX8_init_15 (fun q2 => ?_)
  refine gw_as (ws' := ((b, .inr (8, [.null, .ref q1, .null, .null, .null, .null, .int 0])) :: [(q1, .inl (v.2.1, 6, .inl (fun _ => 0))), (q2, .inl (v.2.1, 6, .inl (fun _ => 0)))])) rfl ?_
  refine gw_putF (a := b) (ci := 8) (wr := [(q1, .inl (v.2.1, 6, .inl (fun _ => 0))), (q2, .inl (v.2.1, 6, .inl (fun _ => 0)))]) (ty0 := tyX8) X hin tw_X8 tyX8_ok nmX8 rfl 2 (by decide) kw_179 rfl rfl rfl rfl rfl (Nat.le_of_ble_eq_true rfl) rfl dX8_init_17 ?_
  refine gw_as (ws' := ((b, .inr (8, [.null, .ref q1, .ref q2, .null, .null, .null, .int 0])) :: [(q1, .inl (v.2.1, 6, .inl (fun _ => 0))), (q2, .inl (v.2.1, 6, .inl (fun _ => 0)))])) rfl ?_
  refine gw_aload_n X dX8_init_20 0 rfl ?_
  refine gw_bipush X dX8_init_21 (v := 6) (by decide) ?_
  refine gw_newa X hA (atype := .int) (ty := .int) (N := 6) (t0 := 0) rfl kw_106 rfl (fun _ _ h => h) rfl (by decide) rfl (Nat.le_of_ble_eq_true rfl) (by rw [hgR]; decide) (by rw [hgR]; decide) dX8_init_23 (fun q3 => ?_)
  refine gw_as (ws' := ((b, .inr (8, [.null, .ref q1, .ref q2, .null, .null, .null, .int 0])) :: [(q1, .inl (v.2.1, 6, .inl (fun _ => 0))), (q2, .inl (v.2.1, 6, .inl (fun _ => 0))), (q3, .inl (v.2.1, 6, .inl (fun _ => 0)))])) rfl ?_
  refine gw_putF (a := b) (ci := 8) (wr := [(q1, .inl (v.2.1, 6, .inl (fun _ => 0))), (q2, .inl (v.2.1, 6, .inl (fun _ => 0))), (q3, .inl (v.2.1, 6, .inl (fun _ => 0)))]) (ty0 := tyX8) X hin tw_X8 tyX8_ok nmX8 rfl 3 (by decide) kw_183 rfl rfl rfl rfl rfl (Nat.le_of_ble_eq_true rfl) rfl dX8_init_25 ?_
  refine gw_as (ws' := ((b, .inr (8, [.null, .ref q1, .ref q2, .ref q3, .null, .null, .int 0])) :: [(q1, .inl (v.2.1, 6, .inl (fun _ => 0))), (q2, .inl (v.2.1, 6, .inl (fun _ => 0))), (q3, .inl (v.2.1, 6, .inl (fun _ => 0)))])) rfl ?_
  refine gw_aload_n X dX8_init_28 0 rfl ?_
  refine gw_bipush X dX8_init_29 (v := 6) (by decide) ?_
  refine gw_newa X hA (atype := .boolean) (ty := .boolean) (N := 6) (t0 := 1) rfl kw_212 rfl (fun _ _ h => h) rfl (by decide) rfl (Nat.le_of_ble_eq_true rfl) (by rw [hgR]; decide) (by rw [hgR]; decide) dX8_init_31 (fun q4 => ?_)
  refine gw_as (ws' := ((b, .inr (8, [.null, .ref q1, .ref q2, .ref q3, .null, .null, .int 0])) :: [(q1, .inl (v.2.1, 6, .inl (fun _ => 0))), (q2, .inl (v.2.1, 6, .inl (fun _ => 0))), (q3, .inl (v.2.1, 6, .inl (fun _ => 0))), (q4, .inl (v.2.2.1, 6, .inl (fun _ => 0)))])) rfl ?_
  refine gw_putF (a := b) (ci := 8) (wr := [(q1, .inl (v.2.1, 6, .inl (fun _ => 0))), (q2, .inl (v.2.1, 6, .inl (fun _ => 0))), (q3, .inl (v.2.1, 6, .inl (fun _ => 0))), (q4, .inl (v.2.2.1, 6, .inl (fun _ => 0)))]) (ty0 := tyX8) X hin tw_X8 tyX8_ok nmX8 rfl 4 (by decide) kw_187 rfl rfl rfl rfl rfl (Nat.le_of_ble_eq_true rfl) rfl dX8_init_33 ?_
  refine gw_as (ws' := ((b, .inr (8, [.null, .ref q1, .ref q2, .ref q3, .ref q4, .null, .int 0])) :: [(q1, .inl (v.2.1, 6, .inl (fun _ => 0))), (q2, .inl (v.2.1, 6, .inl (fun _ => 0))), (q3, .inl (v.2.1, 6, .inl (fun _ => 0))), (q4, .inl (v.2.2.1, 6, .inl (fun _ => 0)))])) rfl ?_
  refine gw_aload_n X dX8_init_36 0 rfl ?_
  refine gw_bipush X dX8_init_37 (v := 6) (by decide) ?_
  refine gw_newa X hA (atype := .boolean) (ty := .boolean) (N := 6) (t0 := 1) rfl kw_212 rfl (fun _ _ h => h) rfl (by decide) rfl (Nat.le_of_ble_eq_true rfl) (by rw [hgR]; decide) (by rw [hgR]; decide) dX8_init_39 (fun q5 => ?_)
  refine gw_as (ws' := ((b, .inr (8, [.null, .ref q1, .ref q2, .ref q3, .ref q4, .null, .int 0])) :: [(q1, .inl (v.2.1, 6, .inl (fun _ => 0))), (q2, .inl (v.2.1, 6, .inl (fun _ => 0))), (q3, .inl (v.2.1, 6, .inl (fun _ => 0))), (q4, .inl (v.2.2.1, 6, .inl (fun _ => 0))), (q5, .inl (v.2.2.1, 6, .inl (fun _ => 0)))])) rfl ?_
  refine gw_putF (a := b) (ci := 8) (wr := [(q1, .inl (v.2.1, 6, .inl (fun _ => 0))), (q2, .inl (v.2.1, 6, .inl (fun _ => 0))), (q3, .inl (v.2.1, 6, .inl (fun _ => 0))), (q4, .inl (v.2.2.1, 6, .inl (fun _ => 0))), (q5, .inl (v.2.2.1, 6, .inl (fun _ => 0)))]) (ty0 := tyX8) X hin tw_X8 tyX8_ok nmX8 rfl 5 (by decide) kw_192 rfl rfl rfl rfl rfl (Nat.le_of_ble_eq_true rfl) rfl dX8_init_41 ?_
  refine gw_as (ws' := ((b, .inr (8, [.null, .ref q1, .ref q2, .ref q3, .ref q4, .ref q5, .int 0])) :: [(q1, .inl (v.2.1, 6, .inl (fun _ => 0))), (q2, .inl (v.2.1, 6, .inl (fun _ => 0))), (q3, .inl (v.2.1, 6, .inl (fun _ => 0))), (q4, .inl (v.2.2.1, 6, .inl (fun _ => 0))), (q5, .inl (v.2.2.1, 6, .inl (fun _ => 0)))])) rfl ?_
  refine gw_aload_n X dX8_init_44 0 rfl ?_
  refine gw_aload_n X dX8_init_45 1 rfl ?_
  refine gw_putF (a := b) (ci := 8) (wr := [(q1, .inl (v.2.1, 6, .inl (fun _ => 0))), (q2, .inl (v.2.1, 6, .inl (fun _ => 0))), (q3, .inl (v.2.1, 6, .inl (fun _ => 0))), (q4, .inl (v.2.2.1, 6, .inl (fun _ => 0))), (q5, .inl (v.2.2.1, 6, .inl (fun _ => 0)))]) (ty0 := tyX8) X hin tw_X8 tyX8_ok nmX8 rfl 0 (by decide) kw_166 rfl rfl rfl rfl rfl (Nat.le_of_ble_eq_true rfl) rfl dX8_init_46 ?_
  refine gw_as (ws' := ((b, .inr (8, [.ref p, .ref q1, .ref q2, .ref q3, .ref q4, .ref q5, .int 0])) :: [(q1, .inl (v.2.1, 6, .inl (fun _ => 0))), (q2, .inl (v.2.1, 6, .inl (fun _ => 0))), (q3, .inl (v.2.1, 6, .inl (fun _ => 0))), (q4, .inl (v.2.2.1, 6, .inl (fun _ => 0))), (q5, .inl (v.2.2.1, 6, .inl (fun _ => 0)))])) rfl ?_
  exact hret _ _ _ ⟨fun k => if k = 0 then b else if k = 1 then q1 else if k = 2 then q2 else if k = 3 then q3 else if k = 4 then q4 else q5, rfl, rfl⟩ dX8_init_49
set_option maxRecDepth 100000 in
set_option maxHeartbeats 4000000 in
theorem ct_X4_init (l : Launch) (v : tX_V) (b : Nat) : gw_Mv l yX4_init (Cond.code yX4_init cX4_init 1 none) { frames := 1, cells := 3, slots := 18, locals := 20 } v.1 (tX_ty v) [.ref b] [(b, .inr (4, [.null, .null, .null, .int 0]))] (fun w => ∃ a : Nat → Nat, a 0 = b ∧ w = bSi v a) := by
  refine gw_Mv.of (by decide +kernel) (Nat.le_of_ble_eq_true rfl) ?_
  intro g hgl hgR X hin hA hret
  show gw_G g v.1 1 [(b, .inr (4, [.null, .null, .null, .int 0]))] 0 0 0 [(0, .ref b)] []
  refine gw_aload_n X dX4_init_0 0 rfl ?_
  refine gw_oinit X kw_243 kw_83 kw_84 (by rw [hgR]; decide) (by rw [hgR]; decide) (Nat.le_of_ble_eq_true rfl) dX4_init_1 ?_
  refine gw_aload_n X dX4_init_4 0 rfl ?_
  refine gw_bipush X dX4_init_5 (v := 6) (by decide) ?_
  refine gw_newa X hA (atype := .int) (ty := .int) (N := 6) (t0 := 0) rfl kw_106 rfl (fun _ _ h => h) rfl (by decide) rfl (Nat.le_of_ble_eq_true rfl) (by rw [hgR]; decide) (by rw [hgR]; decide) dX4_init_7 (fun q1 => ?_)
  refine gw_as (ws' := ((b, .inr (4, [.null, .null, .null, .int 0])) :: [(q1, .inl (v.2.1, 6, .inl (fun _ => 0)))])) rfl ?_
  refine gw_putF (a := b) (ci := 4) (wr := [(q1, .inl (v.2.1, 6, .inl (fun _ => 0)))]) (ty0 := tyX4) X hin tw_X4 tyX4_ok nmX4 rfl 0 (by decide) kw_244 rfl rfl rfl rfl rfl (Nat.le_of_ble_eq_true rfl) rfl dX4_init_9 ?_
  refine gw_as (ws' := ((b, .inr (4, [.ref q1, .null, .null, .int 0])) :: [(q1, .inl (v.2.1, 6, .inl (fun _ => 0)))])) rfl ?_
  refine gw_aload_n X dX4_init_12 0 rfl ?_
  refine gw_bipush X dX4_init_13 (v := 6) (by decide) ?_
  refine gw_newa X hA (atype := .int) (ty := .int) (N := 6) (t0 := 0) rfl kw_106 rfl (fun _ _ h => h) rfl (by decide) rfl (Nat.le_of_ble_eq_true rfl) (by rw [hgR]; decide) (by rw [hgR]; decide) dX4_init_15 (fun q2 => ?_)
  refine gw_as (ws' := ((b, .inr (4, [.ref q1, .null, .null, .int 0])) :: [(q1, .inl (v.2.1, 6, .inl (fun _ => 0))), (q2, .inl (v.2.1, 6, .inl (fun _ => 0)))])) rfl ?_
  refine gw_putF (a := b) (ci := 4) (wr := [(q1, .inl (v.2.1, 6, .inl (fun _ => 0))), (q2, .inl (v.2.1, 6, .inl (fun _ => 0)))]) (ty0 := tyX4) X hin tw_X4 tyX4_ok nmX4 rfl 1 (by decide) kw_245 rfl rfl rfl rfl rfl (Nat.le_of_ble_eq_true rfl) rfl dX4_init_17 ?_
  refine gw_as (ws' := ((b, .inr (4, [.ref q1, .ref q2, .null, .int 0])) :: [(q1, .inl (v.2.1, 6, .inl (fun _ => 0))), (q2, .inl (v.2.1, 6, .inl (fun _ => 0)))])) rfl ?_
  refine gw_aload_n X dX4_init_20 0 rfl ?_
  refine gw_bipush X dX4_init_21 (v := 6) (by decide) ?_
  refine gw_newa X hA (atype := .boolean) (ty := .boolean) (N := 6) (t0 := 1) rfl kw_212 rfl (fun _ _ h => h) rfl (by decide) rfl (Nat.le_of_ble_eq_true rfl) (by rw [hgR]; decide) (by rw [hgR]; decide) dX4_init_23 (fun q3 => ?_)
  refine gw_as (ws' := ((b, .inr (4, [.ref q1, .ref q2, .null, .int 0])) :: [(q1, .inl (v.2.1, 6, .inl (fun _ => 0))), (q2, .inl (v.2.1, 6, .inl (fun _ => 0))), (q3, .inl (v.2.2.1, 6, .inl (fun _ => 0)))])) rfl ?_
  refine gw_putF (a := b) (ci := 4) (wr := [(q1, .inl (v.2.1, 6, .inl (fun _ => 0))), (q2, .inl (v.2.1, 6, .inl (fun _ => 0))), (q3, .inl (v.2.2.1, 6, .inl (fun _ => 0)))]) (ty0 := tyX4) X hin tw_X4 tyX4_ok nmX4 rfl 2 (by decide) kw_246 rfl rfl rfl rfl rfl (Nat.le_of_ble_eq_true rfl) rfl dX4_init_25 ?_
  refine gw_as (ws' := ((b, .inr (4, [.ref q1, .ref q2, .ref q3, .int 0])) :: [(q1, .inl (v.2.1, 6, .inl (fun _ => 0))), (q2, .inl (v.2.1, 6, .inl (fun _ => 0))), (q3, .inl (v.2.2.1, 6, .inl (fun _ => 0)))])) rfl ?_
  exact hret _ _ _ ⟨fun k => if k = 0 then b else if k = 1 then q1 else if k = 2 then q2 else q3, rfl, rfl⟩ dX4_init_28
set_option maxRecDepth 100000 in
set_option maxHeartbeats 4000000 in
theorem ct_X3_init (l : Launch) (v : tX_V) (b t : Nat) : gw_Mv l yX3_init (Cond.code yX3_init cX3_init 2 none) { frames := 1, cells := 4, slots := 27, locals := 20 } v.1 (tX_ty v) [.ref b, .ref t] [(b, .inr (3, [.null, .null, .null, .null, .int 0, .null, .int 0]))] (fun w => ∃ a : Nat → Nat, a 0 = b ∧ w = bPo v t a) := by
  refine gw_Mv.of (by decide +kernel) (Nat.le_of_ble_eq_true rfl) ?_
  intro g hgl hgR X hin hA hret
  show gw_G g v.1 2 [(b, .inr (3, [.null, .null, .null, .null, .int 0, .null, .int 0]))] 0 0 0 [(0, .ref b), (1, .ref t)] []
  refine gw_aload_n X dX3_init_0 0 rfl ?_
  refine gw_oinit X kw_263 kw_83 kw_84 (by rw [hgR]; decide) (by rw [hgR]; decide) (Nat.le_of_ble_eq_true rfl) dX3_init_1 ?_
  refine gw_aload_n X dX3_init_4 0 rfl ?_
  refine gw_bipush X dX3_init_5 (v := 6) (by decide) ?_
  refine gw_newa X hA (atype := .int) (ty := .int) (N := 6) (t0 := 0) rfl kw_106 rfl (fun _ _ h => h) rfl (by decide) rfl (Nat.le_of_ble_eq_true rfl) (by rw [hgR]; decide) (by rw [hgR]; decide) dX3_init_7 (fun q1 => ?_)
  refine gw_as (ws' := ((b, .inr (3, [.null, .null, .null, .null, .int 0, .null, .int 0])) :: [(q1, .inl (v.2.1, 6, .inl (fun _ => 0)))])) rfl ?_
  refine gw_putF (a := b) (ci := 3) (wr := [(q1, .inl (v.2.1, 6, .inl (fun _ => 0)))]) (ty0 := tyX3) X hin tw_X3 tyX3_ok nmX3 rfl 1 (by decide) kw_265 rfl rfl rfl rfl rfl (Nat.le_of_ble_eq_true rfl) rfl dX3_init_9 ?_
  refine gw_as (ws' := ((b, .inr (3, [.null, .ref q1, .null, .null, .int 0, .null, .int 0])) :: [(q1, .inl (v.2.1, 6, .inl (fun _ => 0)))])) rfl ?_
  refine gw_aload_n X dX3_init_12 0 rfl ?_
  refine gw_iconst X dX3_init_13 (v := 5) (by decide) ?_
  refine gw_newa X hA (atype := .int) (ty := .int) (N := 5) (t0 := 0) rfl kw_106 rfl (fun _ _ h => h) rfl (by decide) rfl (Nat.le_of_ble_eq_true rfl) (by rw [hgR]; decide) (by rw [hgR]; decide) dX3_init_14 (fun q2 => ?_)
  refine gw_as (ws' := ((b, .inr (3, [.null, .ref q1, .null, .null, .int 0, .null, .int 0])) :: [(q1, .inl (v.2.1, 6, .inl (fun _ => 0))), (q2, .inl (v.2.1, 5, .inl (fun _ => 0)))])) rfl ?_
  refine gw_putF (a := b) (ci := 3) (wr := [(q1, .inl (v.2.1, 6, .inl (fun _ => 0))), (q2, .inl (v.2.1, 5, .inl (fun _ => 0)))]) (ty0 := tyX3) X hin tw_X3 tyX3_ok nmX3 rfl 2 (by decide) kw_266 rfl rfl rfl rfl rfl (Nat.le_of_ble_eq_true rfl) rfl dX3_init_16 ?_
  refine gw_as (ws' := ((b, .inr (3, [.null, .ref q1, .ref q2, .null, .int 0, .null, .int 0])) :: [(q1, .inl (v.2.1, 6, .inl (fun _ => 0))), (q2, .inl (v.2.1, 5, .inl (fun _ => 0)))])) rfl ?_
  refine gw_aload_n X dX3_init_19 0 rfl ?_
  refine gw_bipush X dX3_init_20 (v := 10) (by decide) ?_
  refine gw_newa X hA (atype := .int) (ty := .int) (N := 10) (t0 := 0) rfl kw_106 rfl (fun _ _ h => h) rfl (by decide) rfl (Nat.le_of_ble_eq_true rfl) (by rw [hgR]; decide) (by rw [hgR]; decide) dX3_init_22 (fun q3 => ?_)
  refine gw_as (ws' := ((b, .inr (3, [.null, .ref q1, .ref q2, .null, .int 0, .null, .int 0])) :: [(q1, .inl (v.2.1, 6, .inl (fun _ => 0))), (q2, .inl (v.2.1, 5, .inl (fun _ => 0))), (q3, .inl (v.2.1, 10, .inl (fun _ => 0)))])) rfl ?_
  refine gw_putF (a := b) (ci := 3) (wr := [(q1, .inl (v.2.1, 6, .inl (fun _ => 0))), (q2, .inl (v.2.1, 5, .inl (fun _ => 0))), (q3, .inl (v.2.1, 10, .inl (fun _ => 0)))]) (ty0 := tyX3) X hin tw_X3 tyX3_ok nmX3 rfl 3 (by decide) kw_267 rfl rfl rfl rfl rfl (Nat.le_of_ble_eq_true rfl) rfl dX3_init_24 ?_
  refine gw_as (ws' := ((b, .inr (3, [.null, .ref q1, .ref q2, .ref q3, .int 0, .null, .int 0])) :: [(q1, .inl (v.2.1, 6, .inl (fun _ => 0))), (q2, .inl (v.2.1, 5, .inl (fun _ => 0))), (q3, .inl (v.2.1, 10, .inl (fun _ => 0)))])) rfl ?_
  refine gw_aload_n X dX3_init_27 0 rfl ?_
  refine gw_bipush X dX3_init_28 (v := 6) (by decide) ?_
  refine gw_newa X hA (atype := .int) (ty := .int) (N := 6) (t0 := 0) rfl kw_106 rfl (fun _ _ h => h) rfl (by decide) rfl (Nat.le_of_ble_eq_true rfl) (by rw [hgR]; decide) (by rw [hgR]; decide) dX3_init_30 (fun q4 => ?_)
  refine gw_as (ws' := ((b, .inr (3, [.null, .ref q1, .ref q2, .ref q3, .int 0, .null, .int 0])) :: [(q1, .inl (v.2.1, 6, .inl (fun _ => 0))), (q2, .inl (v.2.1, 5, .inl (fun _ => 0))), (q3, .inl (v.2.1, 10, .inl (fun _ => 0))), (q4, .inl (v.2.1, 6, .inl (fun _ => 0)))])) rfl ?_
  refine gw_putF (a := b) (ci := 3) (wr := [(q1, .inl (v.2.1, 6, .inl (fun _ => 0))), (q2, .inl (v.2.1, 5, .inl (fun _ => 0))), (q3, .inl (v.2.1, 10, .inl (fun _ => 0))), (q4, .inl (v.2.1, 6, .inl (fun _ => 0)))]) (ty0 := tyX3) X hin tw_X3 tyX3_ok nmX3 rfl 5 (by decide) kw_269 rfl rfl rfl rfl rfl (Nat.le_of_ble_eq_true rfl) rfl dX3_init_32 ?_
  refine gw_as (ws' := ((b, .inr (3, [.null, .ref q1, .ref q2, .ref q3, .int 0, .ref q4, .int 0])) :: [(q1, .inl (v.2.1, 6, .inl (fun _ => 0))), (q2, .inl (v.2.1, 5, .inl (fun _ => 0))), (q3, .inl (v.2.1, 10, .inl (fun _ => 0))), (q4, .inl (v.2.1, 6, .inl (fun _ => 0)))])) rfl ?_
  refine gw_aload_n X dX3_init_35 0 rfl ?_
  refine gw_aload_n X dX3_init_36 1 rfl ?_
  refine gw_putF (a := b) (ci := 3) (wr := [(q1, .inl (v.2.1, 6, .inl (fun _ => 0))), (q2, .inl (v.2.1, 5, .inl (fun _ => 0))), (q3, .inl (v.2.1, 10, .inl (fun _ => 0))), (q4, .inl (v.2.1, 6, .inl (fun _ => 0)))]) (ty0 := tyX3) X hin tw_X3 tyX3_ok nmX3 rfl 0 (by decide) kw_264 rfl rfl rfl rfl rfl (Nat.le_of_ble_eq_true rfl) rfl dX3_init_37 ?_
  refine gw_as (ws' := ((b, .inr (3, [.ref t, .ref q1, .ref q2, .ref q3, .int 0, .ref q4, .int 0])) :: [(q1, .inl (v.2.1, 6, .inl (fun _ => 0))), (q2, .inl (v.2.1, 5, .inl (fun _ => 0))), (q3, .inl (v.2.1, 10, .inl (fun _ => 0))), (q4, .inl (v.2.1, 6, .inl (fun _ => 0)))])) rfl ?_
  exact hret _ _ _ ⟨fun k => if k = 0 then b else if k = 1 then q1 else if k = 2 then q2 else if k = 3 then q3 else q4, rfl, rfl⟩ dX3_init_40
set_option maxRecDepth 100000 in
set_option maxHeartbeats 4000000 in
theorem ct_X5_init (l : Launch) (v : tX_V) (b t : Nat) : gw_Mv l yX5_init (Cond.code yX5_init cX5_init 2 none) { frames := 1, cells := 0, slots := 0, locals := 20 } v.1 (tX_ty v) [.ref b, .ref t] [(b, .inr (5, [.null, .int 0, .int 0]))] (fun w => ∃ a : Nat → Nat, a 0 = b ∧ w = bSw v t a) := by
  refine gw_Mv.of (by decide +kernel) (Nat.le_of_ble_eq_true rfl) ?_
  intro g hgl hgR X hin hA hret
  show gw_G g v.1 2 [(b, .inr (5, [.null, .int 0, .int 0]))] 0 0 0 [(0, .ref b), (1, .ref t)] []
  refine gw_aload_n X dX5_init_0 0 rfl ?_
  refine gw_oinit X kw_318 kw_83 kw_84 (by rw [hgR]; decide) (by rw [hgR]; decide) (Nat.le_of_ble_eq_true rfl) dX5_init_1 ?_
  refine gw_aload_n X dX5_init_4 0 rfl ?_
  refine gw_aload_n X dX5_init_5 1 rfl ?_
  refine gw_putF (a := b) (ci := 5) (wr := []) (ty0 := tyX5) X hin tw_X5 tyX5_ok nmX5 rfl 0 (by decide) kw_319 rfl rfl rfl rfl rfl (Nat.le_of_ble_eq_true rfl) rfl dX5_init_6 ?_
  refine gw_as (ws' := ((b, .inr (5, [.ref t, .int 0, .int 0])) :: [])) rfl ?_
  exact hret _ _ _ ⟨fun k => b, rfl, rfl⟩ dX5_init_9
set_option maxRecDepth 100000 in
set_option maxHeartbeats 4000000 in
theorem ct_X0_init (l : Launch) (v : tX_V) (b : Nat) : gw_Mv l yX0_init (Cond.code yX0_init cX0_init 1 none) { frames := 1, cells := 1, slots := 6, locals := 20 } v.1 (tX_ty v) [.ref b] [(b, .inr (0, [.null, .int 0, .int 0]))] (fun w => ∃ a : Nat → Nat, a 0 = b ∧ w = bCh v a) := by
  refine gw_Mv.of (by decide +kernel) (Nat.le_of_ble_eq_true rfl) ?_
  intro g hgl hgR X hin hA hret
  show gw_G g v.1 1 [(b, .inr (0, [.null, .int 0, .int 0]))] 0 0 0 [(0, .ref b)] []
  refine gw_aload_n X dX0_init_0 0 rfl ?_
  refine gw_oinit X kw_336 kw_83 kw_84 (by rw [hgR]; decide) (by rw [hgR]; decide) (Nat.le_of_ble_eq_true rfl) dX0_init_1 ?_
  refine gw_aload_n X dX0_init_4 0 rfl ?_
  refine gw_bipush X dX0_init_5 (v := 6) (by decide) ?_
  refine gw_newa X hA (atype := .int) (ty := .int) (N := 6) (t0 := 0) rfl kw_106 rfl (fun _ _ h => h) rfl (by decide) rfl (Nat.le_of_ble_eq_true rfl) (by rw [hgR]; decide) (by rw [hgR]; decide) dX0_init_7 (fun q1 => ?_)
  refine gw_as (ws' := ((b, .inr (0, [.null, .int 0, .int 0])) :: [(q1, .inl (v.2.1, 6, .inl (fun _ => 0)))])) rfl ?_
  refine gw_putF (a := b) (ci := 0) (wr := [(q1, .inl (v.2.1, 6, .inl (fun _ => 0)))]) (ty0 := tyX0) X hin tw_X0 tyX0_ok nmX0 rfl 0 (by decide) kw_337 rfl rfl rfl rfl rfl (Nat.le_of_ble_eq_true rfl) rfl dX0_init_9 ?_
  refine gw_as (ws' := ((b, .inr (0, [.ref q1, .int 0, .int 0])) :: [(q1, .inl (v.2.1, 6, .inl (fun _ => 0)))])) rfl ?_
  exact hret _ _ _ ⟨fun k => if k = 0 then b else q1, rfl, rfl⟩ dX0_init_12
