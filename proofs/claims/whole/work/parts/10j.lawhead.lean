/-! THE CLAIM OUT OF ONE WALK OF THE LAW'S BODY. Your part is whole_start (and what it stands on); all else here is the same for every law, but numbers. -/
def R_law : String := "TowerServiceLaw"
def lw_P (b : Addr) (xs : List Int32) (args : Array Value) (s : State) : Prop := args = #[.ref b] ∧ s.IntsAt b xs ∧ xs.length ≤ 2048 ∧ (Jvm.Cond.and given_1 narrow_1).before args s = true
def lw_Q (_ : Array Value) (s : State) (o : Outcome) (t : State) : Prop := o = .returned (some (.int 1)) ∧ Framed s o t [] 600000 7302250
def lw_Z (below : List Frame) (a : Array Value) (s : State) : State → Prop := fun t => ∃ o, t.status = .running ∧ Ended t below o ∧ lw_Q a s o t
/-- the law's own end, with 1 on the stack, nothing written that was there before, its room as the claim has it -/
theorem lw_ret {p : Program} {l : Launch} {e : Env} {s : State} {m : MethodId} {below : List Frame} {meth : Method} {c : Code} {b : Nat} (hx : p.tables.exec = Jvm.exec) (hb : c.code = code) (hr : meth.sig.returnType = ret) (hlocks : meth.locks = false) {pc : Nat} {H : Heap} {ls : Array Slot} (hdg : decode code pc = .ok (.ireturn, 1)) : W p l e room_1 s m #[Value.ref b] below meth c H [] 600000 7302250 (lw_Z below #[Value.ref b] s) (F0 m pc ls [.int 1]) := by
  intro T hT X
  obtain ⟨fs, hret, hrun, hended, hW, hframe⟩ := X.leave (v := some (.int 1)) (hlocks := hlocks) (fun h => by rw [hr] at h; cases h)
  have hmeth' : T.vm.method? m = some meth := X.method'
  refine ⟨T.setFrames fs, ?_, .returned (some (.int 1)), hrun, hended, rfl, ⟨_, rfl⟩, hW, hframe⟩
  jvm_step X.here [X.here.top, hx, hb, hdg, hmeth', hr, ret, narrow_b1]
  (try refine ⟨rfl, ?_⟩); (try refine ⟨rfl, ?_⟩)
  first | (intro acts; rw [hret _ acts rfl rfl rfl]) | rw [hret _ _ rfl rfl rfl]
  exact Steps.refl _
/-- what holds at the law's entry: the machine, the code, the tables' words (any of lw_tbl by 'hts w (by decide +kernel)'), the script of L ints xs at the cell b, what the Statement gives of the start (any of its parts by flat_of_before) -/
def lw_At (p : Program) (s : State) (m : MethodId) (meth : Method) (c : Code) (b L : Nat) (xs : Nat → Int32) : Prop :=
  p.tables.exec = Jvm.exec ∧ c.code = code ∧ meth.sig.returnType = ret ∧ c.maxLocals = 4 ∧ s.vm.findClass R_law = some m.cls ∧ (∀ w ∈ lw_tbl, w.before #[Value.ref b] s = true) ∧ va_X b L xs s s.heap ∧ b < s.heap.size ∧ meth.locks = false ∧ (Jvm.Cond.and given_1 narrow_1).before #[Value.ref b] s = true
/-! rows of the law's own -/
def lw_C (g : gw_Ctx) (v : tX_V) (b L : Nat) (xs : Nat → Int32) : Prop := gw_X g v.1 (tX_ty v) code 4 RL ∧ gw_R g = room_1 ∧ va_X b L xs (gw_s g) (gw_s g).heap ∧ b < (gw_s g).heap.size ∧ ¬ gw_A g b
def lw_N (g : gw_Ctx) (v : tX_V) (aX aM : Nat → Nat) (b i : Nat) : Prop := ∀ (U : sU) (σ τ : ts_S), rX σ U → rM τ U → gw_G g v.1 4 (ts_wd (tM_w (setAd v aM)) τ ++ ts_wd (tX_w (setAd v aX)) σ) 166 1667 857 [(3, .int (nI i)), (2, .ref (aM 0)), (1, .ref (aX 0)), (0, .ref b)] []
section LWR
variable {g : gw_Ctx} {v : tX_V} {b L i : Nat} {xs : Nat → Int32} {ws : va_W} {ce sl pc : Nat} {lv : List (Nat × Value)} {st : List Value}
theorem lw_sld {k : Int32} (C : lw_C g v b L xs) (hin : vp_in k L) (d : decode code pc = .ok (.iaload, 1)) (k1 : gw_G g v.1 4 ws ce sl (pc + 1) lv (.int (xs k.toNatClampNeg) :: st)) : gw_G g v.1 4 ws ce sl pc lv (.int k :: .ref b :: st) :=
  fun H locs ls hP hD hS hl => va_sld C.1.hx C.1.hb C.2.2.1 C.2.2.2.1 C.2.2.2.2 hS hin d (k1 H locs ls hP hD hS hl)
theorem lw_slen (C : lw_C g v b L xs) (d : decode code pc = .ok (.arraylength, 1)) (k1 : gw_G g v.1 4 ws ce sl (pc + 1) lv (.int (nI L) :: st)) : gw_G g v.1 4 ws ce sl pc lv (.ref b :: st) :=
  fun H locs ls hP hD hS hl => va_slen C.1.hx C.1.hb C.2.2.1 C.2.2.2.1 C.2.2.2.2 hS d (k1 H locs ls hP hD hS hl)
theorem lw_arg {aX aM : Nat} (C : lw_C g v b L xs) (hi : i + 3 < L) (hL : L ≤ 2048) (k : Nat) (hk1 : Int32.ofInt (k : Int) = nI k) (hk : k ≤ 3) (d0 : decode code pc = .ok (.aload_n 0, 1)) (d1 : decode code (pc + 1) = .ok (.iload_n 3, 1)) (d2 : decode code (pc + 2) = .ok (.iconst (k : Int), 1)) (d3 : decode code (pc + 3) = .ok (.iadd, 1)) (d4 : decode code (pc + 4) = .ok (.iaload, 1))
    (k1 : gw_G g v.1 4 ws ce sl (pc + 5) [(3, .int (nI i)), (2, .ref aM), (1, .ref aX), (0, .ref b)] (.int (xs (i + k)) :: st)) : gw_G g v.1 4 ws ce sl pc [(3, .int (nI i)), (2, .ref aM), (1, .ref aX), (0, .ref b)] st := by
  refine gw_aload_n C.1 d0 3 rfl ?_
  refine gw_iload_n C.1 d1 0 rfl ?_
  refine gw_iconst C.1 d2 (v := nI k) hk1 ?_
  refine gw_iadd C.1 d3 ?_
  rw [nI_add]
  refine lw_sld C (vp_in_nI (by omega) (by omega)) d4 ?_
  rw [nI_clamp (by omega)]
  exact k1
end LWR
