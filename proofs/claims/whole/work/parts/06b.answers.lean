/-! what the calls answer, as mathematics -/
def win (a lo hi : Int32) : Bool := decide (lo ≤ a ∧ a ≤ hi)
def alb (f : Nat → Bool) : Nat → Bool
  | 0 => true
  | n + 1 => alb f n && f n
def isP (U : sU) (a : Int32) : Bool := win a 0 (nI (qn (vP U)) - 1)
def isS (U : sU) (a : Int32) : Bool := win a 0 (nI (qH (vP U)) - 1)
def ix (a : Int32) : Nat := a.toNatClampNeg
def o_write (U : sU) (a : Int32) : Int32 × sU := if win a 32 126 then (if vl U < 200 then (nI (vl U + 1), wTx U (vl U + 1, fu (vL U) (vl U) (ix a))) else (-3, U)) else (-1, U)
def o_wipe (U : sU) : Int32 × sU := (nI (vl U), wTx U (0, vL U))
def o_person (U : sU) (a b : Int32) : Int32 :=
  if isP U a then (if b = 0 then nI (qk (vP U) (ix a)) else if b = 1 then nI (uS (vT U) (ix a)) else if b = 2 then nI (uA (vT U) (ix a)) else if b = 3 then nI (uN (vT U) (ix a))
    else if b = 4 then nI (fea (vP U) (vT U) (qk (vP U) (ix a)) (ix a) (uS (vT U) (ix a))) else if b = 5 then nB (frz (vP U) (vT U) (ix a)) else if b = 6 then nB (uG (vT U) (ix a)) else if b = 7 then nB (!uG (vT U) (ix a) && !uC (vT U) (ix a)) else -1) else -1
def o_fear (U : sU) (a b : Int32) : Int32 := if isP U a && isS U b then nI (fea (vP U) (vT U) (qk (vP U) (ix a)) (ix a) (ix b)) else -1
def o_work (U : sU) (a b : Int32) : Int32 := if win a 0 (nI (qW (vP U)) - 1) then (if b = 0 then nI (qs (vP U) (ix a)) else if b = 1 then nI (qd (vP U) (ix a)) else if b = 2 then nB (don (vP U) (vT U) (ix a)) else -1) else -1
def wNew (U : sU) (T : sT) : sU := wT (wAc U (psh (vm U) (vA U) (vT U))) T
def o_pass (U : sU) (a : Int32) : Int32 × sU := if win a 1 40 then (if uY (vT U) + ix a ≤ 999 then (nI (uY (vT U) + ix a), wNew U (yrs (vP U) (ix a) (vT U))) else (-2, U)) else (-1, U)
def o_promote (U : sU) (a : Int32) : Int32 × sU := if isP U a then (if decide (0 < uS (vT U) (ix a)) && std (vP U) (vT U) (ix a) then (nI (uS (vT U) (ix a) - 1), wNew U (tS (vT U) (ix a) (uS (vT U) (ix a) - 1))) else (-2, U)) else (-1, U)
def o_hoist (U : sU) (a : Int32) : Int32 × sU := if isP U a then (if decide (uS (vT U) (ix a) + 1 < qH (vP U)) && !uG (vT U) (ix a) then (nI (uS (vT U) (ix a) + 1), wNew U (tS (vT U) (ix a) (uS (vT U) (ix a) + 1))) else (-2, U)) else (-1, U)
def o_call (U : sU) (a : Int32) : Int32 × sU := if isP U a then (if !uG (vT U) (ix a) && !uC (vT U) (ix a) then (nI (min (uN (vT U) (ix a) + cls (vP U) (vT U) (ix a)) 30), wNew U (tCl (vP U) (vT U) (ix a))) else (-2, U)) else (-1, U)
def o_undo (U : sU) : Int32 × sU := if vm U = 0 then (-2, U) else (nI (vm U - 1), wT (wAc U (vm U - 1, vA U)) (vA U (vm U - 1)))
def o_behind (U : sU) (a b c : Int32) : Int32 := if win a 0 40 && (isP U b && win c 0 1) then (if c = 0 then nB (uG (yrs (vP U) (ix a) (vT U)) (ix b)) else nI (uN (yrs (vP U) (ix a) (vT U)) (ix b))) else -1
def low (P : sP) (T : sT) (p : Nat) : Nat → Nat
  | 0 => 0
  | s + 1 => if fea P T (qk P p) p s ≤ uN T p then low P T p s else s + 1
def o_lowest (U : sU) (a : Int32) : Int32 := if isP U a then (if std (vP U) (vT U) (ix a) then nI (low (vP U) (vT U) (ix a) (uS (vT U) (ix a))) else -2) else -1
def o_seen (U : sU) (a b c : Int32) : Int32 × sU := if isP U a && (isS U b && win c 0 1) then (if vz U < 6 then (nI (vz U + 1), wSe U (vz U + 1, fu (vZ U) (vz U) (ix a, ix b, decide (c = 1)))) else (-3, U)) else (-1, U)
def o_forget (U : sU) : Int32 × sU := (nI (vz U), wSe U (0, vZ U))
/-- all that is seen of p would be so, were it of kind kd with nerve nv -/
def hld (U : sU) (p kd nv : Nat) : Bool := alb (fun i => !decide ((vZ U i).1 = p) || (decide (nv < fea (vP U) (vT U) kd p (vZ U i).2.1) == (vZ U i).2.2)) (vz U)
def nrv (f : Nat → Bool) : Nat → Nat × Int32
  | 0 => (0, -4)
  | k + 1 => if f (30 - k) then ((nrv f k).1 + 1, nI (30 - k)) else nrv f k
def o_nerves (U : sU) (a b : Int32) : Int32 := if isP U a && win b 0 1 then (if b = 0 then nI (nrv (fun v => hld U (ix a) (qk (vP U) (ix a)) v) 31).1 else (nrv (fun v => hld U (ix a) (qk (vP U) (ix a)) v) 31).2) else -1
def o_kinds (U : sU) (a : Int32) : Int32 := if isP U a then nI (bs (fun kd => hld U (ix a) kd (uN (vT U) (ix a))) 4) else -1
def drw (z i : Nat) : Nat := (7919 * z + 6151 * i + 1) * (7919 * z + 6151 * i + 1) % 65521 / 2
def dcd (P : sP) (T : sT) (z : Nat) : Nat → sT
  | 0 => T
  | k + 1 => yer P (tAct P (dcd P T z k) (drw z k))
def o_decade (U : sU) (a b c : Int32) : Int32 := if win a 0 9999 && (win b 1 60 && win c 0 2) then (if c = 0 then nI (cn (uG (dcd (vP U) (vT U) (ix a) (ix b))) (qn (vP U))) else if c = 1 then nI (dnm (vP U) (dcd (vP U) (vT U) (ix a) (ix b))) else nI (stp (vP U) (dcd (vP U) (vT U) (ix a) (ix b)))) else -1
def o_keep (U : sU) : Int32 × sU := if vc U < 2 then (nI (vc U + 1), wKe U (vc U + 1, fu (vC U) (vc U) (vT U))) else (-3, U)
def o_back (U : sU) : Int32 × sU := if vc U = 0 then (-2, U) else (nI (vc U - 1), wT (wAc (wKe U (vc U - 1, vC U)) (0, vA U)) (vC U (vc U - 1)))
def o_count (U : sU) (a : Int32) : Int32 :=
  if a = 0 then nI (qH (vP U)) else if a = 1 then nI (qn (vP U)) else if a = 2 then nI (qW (vP U)) else if a = 3 then nI (uY (vT U)) else if a = 4 then nI (cn (uG (vT U)) (qn (vP U)))
  else if a = 5 then nI (cn (frz (vP U) (vT U)) (qn (vP U))) else if a = 6 then nI (dnm (vP U) (vT U)) else if a = 7 then nI (vz U) else if a = 8 then nI (vm U) else if a = 9 then nI (vc U) else if a = 10 then nI (vl U) else -1
/-- a number within bounds -/
theorem win_get {a : Int32} {n : Nat} (hn : n < 1000000) (h : win a 0 (nI n - 1) = true) : ∃ p, p < n ∧ a = nI p ∧ ix a = p := by
  have h1 := of_decide_eq_true h
  have h2 := i32_le.mp h1.1
  have h3 := i32_le.mp h1.2
  rw [nIm1 n (by omega)] at h3
  have h0 : (0 : Int32).toInt = 0 := rfl
  rw [h0] at h2
  obtain ⟨p, hp, e1, e2⟩ := in_get (a := a) (n := n) (in_iff.mpr ⟨h2, by omega⟩) (by omega)
  exact ⟨p, hp, e1, e2⟩
theorem win_iff {a : Int32} {lo hi : Nat} (h : win a (nI lo) (nI hi) = true) (hh : hi < 1000000) (hl : lo < 1000000) : ∃ p, lo ≤ p ∧ p ≤ hi ∧ a = nI p ∧ ix a = p := by
  have h1 := of_decide_eq_true h
  have h2 := i32_le.mp h1.1
  have h3 := i32_le.mp h1.2
  rw [nI_toInt (by omega)] at h2 h3
  obtain ⟨p, hp, e1, e2⟩ := in_get (a := a) (n := hi + 1) (in_iff.mpr ⟨by omega, by omega⟩) (by omega)
  rw [e1, nI_toInt (by omega)] at h2
  exact ⟨p, by omega, by omega, e1, e2⟩
