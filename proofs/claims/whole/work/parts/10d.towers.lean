/-! rows of towers: towersOf; Past and Timetable, which make theirs so -/
def bTs (v : tX_V) (p n q : Nat) (h : Nat → Option Nat) (f : Nat → Nat → Nat) : va_W := (q, .inl (v.2.2.2.2.1, n, .inr (.inr (.inr (.inr h))))) :: (List.range n).flatMap (fun i => bTw v p (f i))
theorem fm_congr {α β : Type} {f g : α → List β} : ∀ {l : List α}, (∀ k ∈ l, f k = g k) → l.flatMap f = l.flatMap g
  | [], _ => rfl
  | x :: l, h => by rw [List.flatMap_cons, List.flatMap_cons, h x List.mem_cons_self, fm_congr (fun k hk => h k (List.mem_cons_of_mem _ hk))]
def bTsok (n : Nat) (h : Nat → Option Nat) (f : Nat → Nat → Nat) : Prop := ∀ i, i < n → h i = some (f i 0)
theorem gw_mmax {g : gw_Ctx} {D : va_G} {tys : List (ClassId × FieldType)} {cc : ByteArray} {nL : Nat} {own : String} {ws : va_W} {ce sl pc index : Nat} {lv : List (Nat × Value)} {st : List Value} {x y : Int32} (X : gw_X g D tys cc nL own) (hl : Cond.methodLink own index Lib.Math.max.name ∈ ts_TB) (h2 : Cond.static Lib.Math.max.name ∈ ts_TB) (h3 : Cond.initialized "java/lang/Math" ∈ ts_TB) (h4 : Cond.code Lib.Math.max.name Lib.Math.max.code 2 (some .int) ∈ ts_TB) (hR : 1 ≤ (gw_R g).frames) (hlo : 40 ≤ (gw_R g).locals) (hce : ce ≤ (gw_R g).cells) (hsl : sl ≤ (gw_R g).slots) (hw : (st.map fun v => v.category).sum ≤ 8) (d : decode cc pc = .ok (.invokestatic index, 3)) (k : gw_G g D nL ws ce sl (pc + 3) lv (.int (if x < y then y else x) :: st)) : gw_G g D nL ws ce sl pc lv (.int y :: .int x :: st) := by
  intro H locs ls hP hD hS hl0
  exact va_mmax X.hx X.hb (X.hml.trans hl0.1.symm) X.hown (X.hts _ hl) (X.hts _ h2) (X.hts _ h3) (X.hts _ h4) hR (by omega) hce hsl d (k H locs ls hP hD hS hl0)
theorem bTw_0 {v : tX_V} {p : Nat} {a : Nat → Nat} : (a 0, Sum.inr (8, [Value.ref p, .ref (a 1), .ref (a 2), .ref (a 3), .ref (a 4), .ref (a 5), .int 0])) ∈ bTw v p a := List.mem_cons_self
theorem ok_X9_towersOf : ts_ok yX9_towersOf 2 := ⟨by decide +kernel, by decide +kernel, by decide +kernel⟩
theorem ok_X8_init : ts_ok yX8_init 1 := ⟨by decide +kernel, by decide +kernel, by decide +kernel⟩
def twR (n : Nat) : Room := { frames := 2, cells := 1 + 6 * n, slots := n + 37 * n, locals := 60 }
set_option maxRecDepth 100000 in
set_option maxHeartbeats 4000000 in
theorem ct_towersOf (l : Launch) (v : tX_V) (p n : Nat) (hn : n ≤ 8) : gw_Mr l yX9_towersOf (Cond.code yX9_towersOf cX9_towersOf 4 (some (.array (.object "TowerService$Tower")))) (twR n) v.1 (tX_ty v) [.ref p, .int (nI n)] [] (fun w q => ∃ (h : Nat → Option Nat) (f : Nat → Nat → Nat), bTsok n h f ∧ w = bTs v p n q h f) := by
  refine gw_Mr.of (Or.inr ⟨_, rfl⟩) (by decide +kernel) (Nat.le_of_ble_eq_true rfl) ?_
  intro g hgl hgR X hA hret
  have rf : (gw_R g).frames = 2 := by rw [hgR]; rfl
  have rc : (gw_R g).cells = 1 + 6 * n := by rw [hgR]; rfl
  have rs : (gw_R g).slots = n + 37 * n := by rw [hgR]; rfl
  have rl : (gw_R g).locals = 60 := by rw [hgR]; rfl
  show gw_G g v.1 4 [] 0 0 0 [(0, .ref p), (1, .int (nI n))] []
  refine gw_iload_n X dX9_towersOf_0 1 rfl ?_
  refine gw_iconst X dX9_towersOf_1 (v := 0) (by decide) ?_
  refine gw_mmax X kw_222 kw_223 kw_64 kw_224 (by omega) (by omega) (by omega) (by omega) (Nat.le_of_ble_eq_true rfl) dX9_towersOf_2 ?_
  rw [if_neg (nI_pos (by omega))]
  refine gw_newq X hA (N := n) (t0 := 3) kw_107 rfl (nI_pos (by omega)) (nI_clamp (by omega)) (by omega) (by omega) (by omega) dX9_towersOf_5 (fun q => ?_)
  refine gw_astore_n X dX9_towersOf_8 (by decide) (lv' := [(2, .ref q), (0, .ref p), (1, .int (nI n))]) rfl ?_
  refine gw_iconst X dX9_towersOf_9 (v := nI 0) (by decide) ?_
  refine gw_istore_n X dX9_towersOf_10 (by decide) (lv' := [(3, .int (nI 0)), (2, .ref q), (0, .ref p), (1, .int (nI n))]) rfl ?_
  refine gw_as (ws' := (q, .inl (v.2.2.2.2.1, n, .inr (.inr (.inr (.inr (fun _ => none)))))) :: (List.range 0).flatMap (fun i => bTw v p ((fun _ _ => 0) i))) rfl ?_
  refine gw_wid (ce' := 1 + 6 * 0) (sl' := n + 37 * 0) (by omega) (by omega) ?_
  refine ts_down (P := fun i => ∀ (h : Nat → Option Nat) (f : Nat → Nat → Nat), bTsok i h f → gw_G g v.1 4 ((q, .inl (v.2.2.2.2.1, n, .inr (.inr (.inr (.inr h))))) :: (List.range i).flatMap (fun i => bTw v p (f i))) (1 + 6 * i) (n + 37 * i) 11 [(3, .int (nI i)), (2, .ref q), (0, .ref p), (1, .int (nI n))] []) n ?_ ?_ (fun _ => none) (fun _ _ => 0) (fun i hi => absurd hi (Nat.not_lt_zero i))
  · intro h f hf
    refine gw_iload_n X dX9_towersOf_11 0 rfl ?_
    refine gw_aload_n X dX9_towersOf_12 1 rfl ?_
    refine gw_alen X (t0 := 3) (v := nI n) rfl rfl dX9_towersOf_13 ?_
    refine gw_icmp_ge 34 X dX9_towersOf_14 (by decide) (fun c => ?_) (fun c => absurd (nI_le (Nat.le_refl n) (by omega)) c)
    refine gw_aload_n X dX9_towersOf_34 1 rfl ?_
    exact hret _ _ _ _ ⟨h, f, hf, rfl⟩ dX9_towersOf_35
  · intro i hi ih h f hf
    refine gw_iload_n X dX9_towersOf_11 0 rfl ?_
    refine gw_aload_n X dX9_towersOf_12 1 rfl ?_
    refine gw_alen X (t0 := 3) (v := nI n) rfl rfl dX9_towersOf_13 ?_
    refine gw_icmp_ge 34 X dX9_towersOf_14 (by decide) (fun c => absurd c (nI_ge hi (by omega))) (fun c => ?_)
    refine gw_aload_n X dX9_towersOf_17 1 rfl ?_
    refine gw_iload_n X dX9_towersOf_18 0 rfl ?_
    refine gw_new (ci := 8) (N := 7) (C := RX8) (T := TX8) (ty := tyX8) (fs := [.null, .null, .null, .null, .null, .null, .int 0]) X hA tw_X8 tyX8_ok kw_107 kw_108 kw_61 rfl (by decide +kernel) (by omega) (by omega) dX9_towersOf_19 (fun t => ?_)
    refine gw_dup X dX9_towersOf_22 rfl ?_
    refine gw_aload_n X dX9_towersOf_23 2 rfl ?_
    refine gw_callI (b := t) (As := [.ref p]) (st := [.ref t, .int (nI i), .ref q]) X hA (ct_X8_init g.2.1 v t p) ok_X8_init rfl kw_162 kw_61 kw_164 kw_163 (by rw [rf]; decide) (by rw [rl]; decide) (by rw [rc]; show 1 + 6 * i + 1 + 5 ≤ _; omega) (by rw [rs]; show n + 37 * i + 7 + 30 ≤ _; omega) rfl rfl (Nat.le_of_ble_eq_true rfl) dX9_towersOf_24 (fun w1 hw1 => ?_)
    obtain ⟨a, ha, rfl⟩ := hw1
    subst ha
    have hm : (a 0, Sum.inr (8, [Value.ref p, .ref (a 1), .ref (a 2), .ref (a 3), .ref (a 4), .ref (a 5), .int 0])) ∈ (q, .inl (v.2.2.2.2.1, n, .inr (.inr (.inr (.inr h))))) :: ((List.range i).flatMap (fun i => bTw v p (f i)) ++ bTw v p a) := List.mem_cons_of_mem _ (List.mem_append_right _ bTw_0)
    obtain ⟨qk, hqk⟩ := List.getElem?_of_mem hm
    refine gw_as (ws' := (q, .inl (v.2.2.2.2.1, n, .inr (.inr (.inr (.inr h))))) :: ((List.range i).flatMap (fun i => bTw v p (f i)) ++ bTw v p a)) rfl ?_
    refine gw_astq (i0 := i) (t0 := 3) (ci := 8) X hqk rfl rfl (nI_clamp (by omega)) (vp_in_nI hi (by omega)) dX9_towersOf_27 ?_
    refine gw_iinc X dX9_towersOf_28 0 rfl (v := nI (i + 1)) (nI_1 i) (by decide) (lv' := [(3, .int (nI (i + 1))), (2, .ref q), (0, .ref p), (1, .int (nI n))]) rfl ?_
    refine gw_goto 11 X dX9_towersOf_31 (by decide) ?_
    have e : (List.range i).flatMap (fun i => bTw v p (f i)) ++ bTw v p a = (List.range (i + 1)).flatMap (fun k => bTw v p (if k = i then a else f k)) := by
      rw [List.range_succ, List.flatMap_append]
      congr 1
      · refine fm_congr (fun k hk => ?_)
        have := List.mem_range.mp hk
        rw [if_neg (by omega)]
      · simp
    rw [e]
    refine gw_wid (ce' := 1 + 6 * (i + 1)) (sl' := n + 37 * (i + 1)) (by show 1 + 6 * i + 1 + 5 ≤ _; omega) (by show n + 37 * i + 7 + 30 ≤ _; omega) ?_
    refine ih (va_up h i (some (a 0))) (fun k => if k = i then a else f k) (fun k hk => ?_)
    unfold va_up
    show (if k = i then some (a 0) else h k) = some ((if k = i then a else f k) 0)
    by_cases z : k = i
    · rw [if_pos z, if_pos z]
    · rw [if_neg z, if_neg z]; exact hf k (by omega)
def bPa (v : tX_V) (p c q : Nat) (h : Nat → Option Nat) (f : Nat → Nat → Nat) : va_W := (c, .inr (1, [.ref q, .int 0, .int 0])) :: bTs v p 8 q h f
set_option maxRecDepth 100000 in
set_option maxHeartbeats 4000000 in
theorem ct_X1_init (l : Launch) (v : tX_V) (b p : Nat) : gw_Mv l yX1_init (Cond.code yX1_init cX1_init 2 none) { frames := 3, cells := 49, slots := 304, locals := 100 } v.1 (tX_ty v) [.ref b, .ref p] [(b, .inr (1, [.null, .int 0, .int 0]))] (fun w => ∃ (q : Nat) (h : Nat → Option Nat) (f : Nat → Nat → Nat), bTsok 8 h f ∧ w = bPa v p b q h f) := by
  refine gw_Mv.of (by decide +kernel) (Nat.le_of_ble_eq_true rfl) ?_
  intro g hgl hgR X hin hA hret
  show gw_G g v.1 2 [(b, .inr (1, [.null, .int 0, .int 0]))] 0 0 0 [(0, .ref b), (1, .ref p)] []
  refine gw_aload_n X dX1_init_0 0 rfl ?_
  refine gw_oinit X kw_218 kw_83 kw_84 (by rw [hgR]; decide) (by rw [hgR]; decide) (Nat.le_of_ble_eq_true rfl) dX1_init_1 ?_
  refine gw_aload_n X dX1_init_4 0 rfl ?_
  refine gw_aload_n X dX1_init_5 1 rfl ?_
  refine gw_bipush X dX1_init_6 (v := nI 8) (by decide) ?_
  refine gw_callSNr (As := [.ref p, .int (nI 8)]) (st := [.ref b]) X hA (ct_towersOf g.2.1 v p 8 (by omega)) ok_X9_towersOf (host := RX9) (List.mem_of_getElem? (i := 2) rfl) kw_59 kw_221 kw_220 (by rw [hgR]; decide) (by rw [hgR]; decide) (by rw [hgR]; decide) (by rw [hgR]; decide) rfl rfl (Nat.le_of_ble_eq_true rfl) dX1_init_8 (fun w1 q hw1 => ?_)
  obtain ⟨h, f, hf, rfl⟩ := hw1
  refine gw_as (ws' := (b, .inr (1, [.null, .int 0, .int 0])) :: bTs v p 8 q h f) rfl ?_
  refine gw_putF (a := b) (ci := 1) (wr := bTs v p 8 q h f) (ty0 := tyX1) X hin tw_X1 tyX1_ok nmX1 rfl 0 (by decide) kw_226 rfl rfl rfl rfl rfl (Nat.le_of_ble_eq_true rfl) rfl dX1_init_11 ?_
  exact hret _ _ _ ⟨q, h, f, hf, rfl⟩ dX1_init_14
def bTt (v : tX_V) (p : Nat) (a : Nat → Nat) (q : Nat) (h : Nat → Option Nat) (f : Nat → Nat → Nat) : va_W := [(a 0, .inr (7, [.ref q, .ref (a 1), .int 0, .ref (a 2), .int 0])), (a 1, .inl (v.2.1, 4, .inl (fun _ => 0))), (a 2, .inl (v.2.1, 4, .inl (fun _ => 0)))] ++ bTs v p 5 q h f
set_option maxRecDepth 100000 in
set_option maxHeartbeats 4000000 in
theorem ct_X7_init (l : Launch) (v : tX_V) (b p : Nat) : gw_Mv l yX7_init (Cond.code yX7_init cX7_init 2 none) { frames := 3, cells := 33, slots := 198, locals := 100 } v.1 (tX_ty v) [.ref b, .ref p] [(b, .inr (7, [.null, .null, .int 0, .null, .int 0]))] (fun w => ∃ (a : Nat → Nat) (q : Nat) (h : Nat → Option Nat) (f : Nat → Nat → Nat), a 0 = b ∧ bTsok 5 h f ∧ w = bTt v p a q h f) := by
  refine gw_Mv.of (by decide +kernel) (Nat.le_of_ble_eq_true rfl) ?_
  intro g hgl hgR X hin hA hret
  show gw_G g v.1 2 [(b, .inr (7, [.null, .null, .int 0, .null, .int 0]))] 0 0 0 [(0, .ref b), (1, .ref p)] []
  refine gw_aload_n X dX7_init_0 0 rfl ?_
  refine gw_oinit X kw_293 kw_83 kw_84 (by rw [hgR]; decide) (by rw [hgR]; decide) (Nat.le_of_ble_eq_true rfl) dX7_init_1 ?_
  refine gw_aload_n X dX7_init_4 0 rfl ?_
  refine gw_iconst X dX7_init_5 (v := 4) (by decide) ?_
  refine gw_newa X hA (atype := .int) (ty := .int) (N := 4) (t0 := 0) rfl kw_106 rfl (fun _ _ h => h) rfl (by decide) rfl (Nat.le_of_ble_eq_true rfl) (by rw [hgR]; decide) (by rw [hgR]; decide) dX7_init_6 (fun q1 => ?_)
  refine gw_as (ws' := (b, .inr (7, [.null, .null, .int 0, .null, .int 0])) :: [(q1, .inl (v.2.1, 4, .inl (fun _ => 0)))]) rfl ?_
  refine gw_putF (a := b) (ci := 7) (wr := [(q1, .inl (v.2.1, 4, .inl (fun _ => 0)))]) (ty0 := tyX7) X hin tw_X7 tyX7_ok nmX7 rfl 1 (by decide) kw_296 rfl rfl rfl rfl rfl (Nat.le_of_ble_eq_true rfl) rfl dX7_init_8 ?_
  refine gw_aload_n X dX7_init_11 0 rfl ?_
  refine gw_iconst X dX7_init_12 (v := 4) (by decide) ?_
  refine gw_newa X hA (atype := .int) (ty := .int) (N := 4) (t0 := 0) rfl kw_106 rfl (fun _ _ h => h) rfl (by decide) rfl (Nat.le_of_ble_eq_true rfl) (by rw [hgR]; decide) (by rw [hgR]; decide) dX7_init_13 (fun q2 => ?_)
  refine gw_as (ws' := (b, .inr (7, [.null, .ref q1, .int 0, .null, .int 0])) :: [(q1, .inl (v.2.1, 4, .inl (fun _ => 0))), (q2, .inl (v.2.1, 4, .inl (fun _ => 0)))]) rfl ?_
  refine gw_putF (a := b) (ci := 7) (wr := [(q1, .inl (v.2.1, 4, .inl (fun _ => 0))), (q2, .inl (v.2.1, 4, .inl (fun _ => 0)))]) (ty0 := tyX7) X hin tw_X7 tyX7_ok nmX7 rfl 3 (by decide) kw_298 rfl rfl rfl rfl rfl (Nat.le_of_ble_eq_true rfl) rfl dX7_init_15 ?_
  refine gw_aload_n X dX7_init_18 0 rfl ?_
  refine gw_aload_n X dX7_init_19 1 rfl ?_
  refine gw_iconst X dX7_init_20 (v := nI 5) (by decide) ?_
  refine gw_callSNr (As := [.ref p, .int (nI 5)]) (st := [.ref b]) X hA (ct_towersOf g.2.1 v p 5 (by omega)) ok_X9_towersOf (host := RX9) (List.mem_of_getElem? (i := 4) rfl) kw_59 kw_221 kw_220 (by rw [hgR]; decide) (by rw [hgR]; decide) (by rw [hgR]; decide) (by rw [hgR]; decide) rfl rfl (Nat.le_of_ble_eq_true rfl) dX7_init_21 (fun w1 q hw1 => ?_)
  obtain ⟨h, f, hf, rfl⟩ := hw1
  refine gw_as (ws' := (b, .inr (7, [.null, .ref q1, .int 0, .ref q2, .int 0])) :: ([(q1, .inl (v.2.1, 4, .inl (fun _ => 0))), (q2, .inl (v.2.1, 4, .inl (fun _ => 0)))] ++ bTs v p 5 q h f)) rfl ?_
  refine gw_putF (a := b) (ci := 7) (fs := [.null, .ref q1, .int 0, .ref q2, .int 0]) (v := .ref q) (wr := ([(q1, .inl (v.2.1, 4, .inl (fun _ => 0))), (q2, .inl (v.2.1, 4, .inl (fun _ => 0)))] ++ bTs v p 5 q h f)) (ty0 := tyX7) X hin tw_X7 tyX7_ok nmX7 rfl 0 (by decide) kw_295 rfl rfl rfl rfl rfl (Nat.le_of_ble_eq_true rfl) rfl dX7_init_24 ?_
  exact hret _ _ _ ⟨fun k => if k = 0 then b else if k = 1 then q1 else q2, q, h, f, rfl, hf, rfl⟩ dX7_init_27
