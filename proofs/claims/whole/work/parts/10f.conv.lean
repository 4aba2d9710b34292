/-! the cells that the class's constructor has made, as the world of 151 cells -/
theorem arr_congr {c : ClassId} {n : Nat} {h h' : Nat → Option Nat} (e : ∀ i, i < n → h i = h' i) : vp_cell c (n, .inr (.inr (.inr (.inr h)))) = vp_cell c (n, .inr (.inr (.inr (.inr h')))) := by
  rw [vp_cell_q, vp_cell_q]
  unfold arrV
  congr 1
  congr 1
  funext j
  show va_rf (h j.1) = va_rf (h' j.1)
  rw [e j.1 j.2]
theorem gw_sim {g : gw_Ctx} {D : va_G} {nL : Nat} {ws ws' : va_W} {ce sl pc : Nat} {lv : List (Nat × Value)} {st : List Value} (hk : ws.map Prod.fst = ws'.map Prod.fst) (hs : ∀ q ∈ ws', ∃ e, (q.1, e) ∈ ws ∧ ∀ H : Heap, va_at D vwCl (q.1, e) H → va_at D vwCl q H) (k : gw_G g D nL ws' ce sl pc lv st) : gw_G g D nL ws ce sl pc lv st := by
  intro H locs ls hP hD hS hl
  refine k H locs ls ?_ ?_ hS hl
  · refine va_P_mem.mpr fun q hq => ?_
    obtain ⟨e, he, h⟩ := hs q hq
    exact h H (va_P_mem.mp hP _ he)
  · obtain ⟨h1, h2⟩ := va_D_mem.mp hD
    refine va_D_mem.mpr ⟨hk ▸ h1, fun q hq => ?_⟩
    obtain ⟨e, he, -⟩ := hs q hq
    exact h2 (q.1, e) he
theorem w_sw {α : Type} (A B C : List α) : ((A ++ B) ++ C).Perm ((A ++ C) ++ B) := by
  rw [List.append_assoc, List.append_assoc]
  exact List.Perm.append_left A List.perm_append_comm
/-- the store at the start -/
def s0X : ts_S := fun k => if k = 23 ∨ k = 27 then (fun j => if j = 0 then 6 else 0) else fun _ => 0
def tG (v : tX_V) (i : Nat) : va_W := bTw v (tX_ad v (tX_pl (31 + 6 * i))) (fun j => tX_ad v (31 + 6 * i + j))
def aC (v : tX_V) (n : Nat) (h : Nat → Option Nat) : va_E := .inl (v.2.2.2.2.1, n, .inr (.inr (.inr (.inr h))))
def bX0 (v : tX_V) : Nat → va_W := fun i => match i with
  | 0 => [(tX_ad v 0, .inr (9, [.ref (tX_ad v 1), .ref (tX_ad v 37), .ref (tX_ad v 31), .ref (tX_ad v 43), .ref (tX_ad v 4), .ref (tX_ad v 6), .int 0, .ref (tX_ad v 7), .ref (tX_ad v 11), .ref (tX_ad v 16), .ref (tX_ad v 20), .ref (tX_ad v 21)]))]
  | 1 => bTx v (fun j => tX_ad v (1 + j))
  | 2 => [(tX_ad v 4, .inr (1, [.ref (tX_ad v 5), .int 0, .int 0]))]
  | 5 => bSi v (fun j => tX_ad v (7 + j))
  | 6 => bPo v (tX_ad v 49) (fun j => tX_ad v (11 + j))
  | 7 => [(tX_ad v 16, .inr (7, [.ref (tX_ad v 17), .ref (tX_ad v 18), .int 0, .ref (tX_ad v 19), .int 0]))]
  | 9 => [(tX_ad v 18, .inl (v.2.1, 4, .inl (fun _ => 0))), (tX_ad v 19, .inl (v.2.1, 4, .inl (fun _ => 0)))]
  | 10 => bSw v (tX_ad v 55) (fun j => tX_ad v (20 + j))
  | 11 => bCh v (fun j => tX_ad v (21 + j))
  | 12 => bPl v (fun j => tX_ad v (23 + j))
  | 13 => bPl v (fun j => tX_ad v (27 + j))
  | 14 => tG v 0
  | 15 => tG v 1
  | 16 => tG v 2
  | 17 => tG v 3
  | 18 => tG v 4
  | 19 => (List.range 2).flatMap (fun i => tG v (5 + i))
  | 20 => (List.range 8).flatMap (fun i => tG v (7 + i))
  | _ => (List.range 5).flatMap (fun i => tG v (15 + i))
def bX (v : tX_V) (h5 h6 h7 : Nat → Option Nat) (i : Nat) : va_W := if i = 3 then [(tX_ad v 5, aC v 8 h5)] else if i = 4 then [(tX_ad v 6, aC v 2 h6)] else if i = 8 then [(tX_ad v 17, aC v 5 h7)] else bX0 v i
theorem rng6 {α : Type} (G : Nat → α) : ∀ n, (List.range (6 * n)).map G = (List.range n).flatMap (fun i => (List.range 6).map (fun j => G (6 * i + j)))
  | 0 => rfl
  | n + 1 => by
    rw [show 6 * (n + 1) = 6 * n + 6 by omega, List.range_add, List.map_append, rng6 G n, List.range_succ (n := n), List.flatMap_append, List.map_map]
    congr 1
def fX (v : tX_V) (k : Nat) : Nat × va_E := (tX_ad v k, tX_E v k (s0X k))
theorem s0_z {k : Nat} (h : k ≠ 23) (h2 : k ≠ 27) : s0X k = fun _ => 0 := by
  unfold s0X; rw [if_neg (by omega)]
theorem tG_eq {v : tX_V} {i : Nat} (hi : i < 20) : (List.range 6).map (fun j => fX v (31 + (6 * i + j))) = tG v i := by
  have T : tX_T (31 + 6 * i) := ⟨i, hi, rfl⟩
  have e0 : fX v (31 + (6 * i + 0)) = (tX_ad v (31 + 6 * i + 0), .inr (8, [.ref (tX_ad v (tX_pl (31 + 6 * i))), .ref (tX_ad v (31 + 6 * i + 1)), .ref (tX_ad v (31 + 6 * i + 2)), .ref (tX_ad v (31 + 6 * i + 3)), .ref (tX_ad v (31 + 6 * i + 4)), .ref (tX_ad v (31 + 6 * i + 5)), .int 0])) := by
    show (tX_ad v (31 + 6 * i), tX_E v (31 + 6 * i) (s0X (31 + 6 * i))) = _
    rw [tX_eT T, s0_z (by omega) (by omega)]
    rfl
  have e1 : fX v (31 + (6 * i + 1)) = (tX_ad v (31 + 6 * i + 1), .inl (v.2.1, 6, .inl (fun _ => 0))) := by
    show (tX_ad v (31 + 6 * i + 1), tX_E v (31 + 6 * i + 1) (s0X (31 + 6 * i + 1))) = _
    rw [(tX_a1 T rfl).2.2, s0_z (by omega) (by omega)]
  have e2 : fX v (31 + (6 * i + 2)) = (tX_ad v (31 + 6 * i + 2), .inl (v.2.1, 6, .inl (fun _ => 0))) := by
    show (tX_ad v (31 + 6 * i + 2), tX_E v (31 + 6 * i + 2) (s0X (31 + 6 * i + 2))) = _
    rw [(tX_a2 T rfl).2.2, s0_z (by omega) (by omega)]
  have e3 : fX v (31 + (6 * i + 3)) = (tX_ad v (31 + 6 * i + 3), .inl (v.2.1, 6, .inl (fun _ => 0))) := by
    show (tX_ad v (31 + 6 * i + 3), tX_E v (31 + 6 * i + 3) (s0X (31 + 6 * i + 3))) = _
    rw [(tX_a3 T rfl).2.2, s0_z (by omega) (by omega)]
  have e4 : fX v (31 + (6 * i + 4)) = (tX_ad v (31 + 6 * i + 4), .inl (v.2.2.1, 6, .inl (fun _ => 0))) := by
    show (tX_ad v (31 + 6 * i + 4), tX_E v (31 + 6 * i + 4) (s0X (31 + 6 * i + 4))) = _
    rw [(tX_a4 T rfl).2.2, s0_z (by omega) (by omega)]
  have e5 : fX v (31 + (6 * i + 5)) = (tX_ad v (31 + 6 * i + 5), .inl (v.2.2.1, 6, .inl (fun _ => 0))) := by
    show (tX_ad v (31 + 6 * i + 5), tX_E v (31 + 6 * i + 5) (s0X (31 + 6 * i + 5))) = _
    rw [(tX_a5 T rfl).2.2, s0_z (by omega) (by omega)]
  show [fX v (31 + (6 * i + 0)), fX v (31 + (6 * i + 1)), fX v (31 + (6 * i + 2)), fX v (31 + (6 * i + 3)), fX v (31 + (6 * i + 4)), fX v (31 + (6 * i + 5))] = _
  rw [e0, e1, e2, e3, e4, e5]
  rfl
set_option maxRecDepth 100000 in
set_option maxHeartbeats 4000000 in
theorem fX_31 (v : tX_V) : (List.range 31).map (fX v) = (List.range 14).flatMap (bX v (fun i => some (tX_ad v (73 + 6 * i))) (fun i => some (tX_ad v (61 + 6 * i))) (fun i => some (tX_ad v (121 + 6 * i)))) := rfl
set_option maxRecDepth 100000 in
set_option maxHeartbeats 4000000 in
theorem tG_20 (v : tX_V) : (List.range 20).flatMap (tG v) = [14, 15, 16, 17, 18, 19, 20, 21].flatMap (bX0 v) := by
  rw [show (20 : Nat) = 15 + 5 from rfl, List.range_add, show (15 : Nat) = 7 + 8 from rfl, List.range_add, show (7 : Nat) = 5 + 2 from rfl, List.range_add]
  simp only [List.flatMap_append, List.flatMap_map, List.append_assoc]
  rfl
theorem ts_X0 (v : tX_V) : ts_wd (tX_w v) s0X = (List.range 22).flatMap (bX v (fun i => some (tX_ad v (73 + 6 * i))) (fun i => some (tX_ad v (61 + 6 * i))) (fun i => some (tX_ad v (121 + 6 * i)))) := by
  show (List.range 151).map (fX v) = _
  rw [show (151 : Nat) = 31 + 6 * 20 from rfl, List.range_add, List.map_append, fX_31, List.map_map, rng6]
  rw [fm_congr (f := fun i => List.map (fun j => (fX v ∘ fun x => 31 + x) (6 * i + j)) (List.range 6)) (g := tG v) (fun i hi => tG_eq (List.mem_range.mp hi)), tG_20]
  rw [show (22 : Nat) = 14 + 8 from rfl, List.range_add, List.flatMap_append]
  rfl
theorem bX_conv {g : gw_Ctx} {v : tX_V} {nL : Nat} {ws : va_W} {ce sl pc : Nat} {lv : List (Nat × Value)} {st : List Value} {h5 h6 h7 : Nat → Option Nat} (e5 : ∀ i, i < 8 → h5 i = some (tX_ad v (73 + 6 * i))) (e6 : ∀ i, i < 2 → h6 i = some (tX_ad v (61 + 6 * i))) (e7 : ∀ i, i < 5 → h7 i = some (tX_ad v (121 + 6 * i))) (hp : ws.Perm ((List.range 22).flatMap (bX v h5 h6 h7))) (k : gw_G g v.1 nL (ts_wd (tX_w v) s0X) ce sl pc lv st) : gw_G g v.1 nL ws ce sl pc lv st := by
  refine gw_perm hp ?_
  refine gw_sim ?_ ?_ k
  · rw [ts_X0, List.map_flatMap, List.map_flatMap]
    refine fm_congr (fun i _ => ?_)
    unfold bX
    split
    · rfl
    split
    · rfl
    split
    · rfl
    rfl
  · intro q hq
    rw [ts_X0] at hq
    obtain ⟨i, hi, hq⟩ := List.mem_flatMap.mp hq
    have hin : ∀ e, (q.1, e) ∈ bX v h5 h6 h7 i → (q.1, e) ∈ (List.range 22).flatMap (bX v h5 h6 h7) := fun e he => List.mem_flatMap.mpr ⟨i, hi, he⟩
    unfold bX at hq
    by_cases c3 : i = 3
    · rw [if_pos c3] at hq
      have hq := List.mem_singleton.mp hq
      subst hq
      refine ⟨aC v 8 h5, hin _ (by unfold bX; rw [if_pos c3]; exact List.mem_singleton.mpr rfl), fun H h => ?_⟩
      have h : H[tX_ad v 5]? = some (vp_cell v.2.2.2.2.1 (8, .inr (.inr (.inr (.inr h5))))) := h
      show H[tX_ad v 5]? = some (vp_cell v.2.2.2.2.1 (8, .inr (.inr (.inr (.inr (fun i => some (tX_ad v (73 + 6 * i))))))))
      rw [h, arr_congr e5]
    rw [if_neg c3] at hq
    by_cases c4 : i = 4
    · rw [if_pos c4] at hq
      have hq := List.mem_singleton.mp hq
      subst hq
      refine ⟨aC v 2 h6, hin _ (by unfold bX; rw [if_neg c3, if_pos c4]; exact List.mem_singleton.mpr rfl), fun H h => ?_⟩
      have h : H[tX_ad v 6]? = some (vp_cell v.2.2.2.2.1 (2, .inr (.inr (.inr (.inr h6))))) := h
      show H[tX_ad v 6]? = some (vp_cell v.2.2.2.2.1 (2, .inr (.inr (.inr (.inr (fun i => some (tX_ad v (61 + 6 * i))))))))
      rw [h, arr_congr e6]
    rw [if_neg c4] at hq
    by_cases c8 : i = 8
    · rw [if_pos c8] at hq
      have hq := List.mem_singleton.mp hq
      subst hq
      refine ⟨aC v 5 h7, hin _ (by unfold bX; rw [if_neg c3, if_neg c4, if_pos c8]; exact List.mem_singleton.mpr rfl), fun H h => ?_⟩
      have h : H[tX_ad v 17]? = some (vp_cell v.2.2.2.2.1 (5, .inr (.inr (.inr (.inr h7))))) := h
      show H[tX_ad v 17]? = some (vp_cell v.2.2.2.2.1 (5, .inr (.inr (.inr (.inr (fun i => some (tX_ad v (121 + 6 * i))))))))
      rw [h, arr_congr e7]
    rw [if_neg c8] at hq
    exact ⟨q.2, hin _ (by unfold bX; rw [if_neg c3, if_neg c4, if_neg c8]; exact hq), fun H h => h⟩
theorem ordX : [0, 1, 13, 15, 12, 14, 16, 2, 3, 20, 4, 19, 5, 17, 6, 7, 9, 8, 21, 18, 10, 11].Perm (List.range 22) := by decide +kernel
