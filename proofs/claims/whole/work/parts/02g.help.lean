theorem ts_le {a b n : Nat} (h : b = n) (h2 : a ≤ n) : a ≤ b := by omega
def ts_fz (f : Nat → Int32) (n : Nat) : Prop := ∀ i, i < n → fits .boolean (.int (f i)) = true
def ts_nes (x : Int32) : List Int32 → Prop
  | [] => True
  | k :: ks => (¬ x = k) ∧ ts_nes x ks
theorem ts_nes_mem {x : Int32} : ∀ {ks : List Int32}, ts_nes x ks → ∀ k ∈ ks, ¬ x = k
  | [], _, k, hk => by cases hk
  | a :: ks, h, k, hk => by
    rcases List.mem_cons.mp hk with rfl | hk
    · exact h.1
    · exact ts_nes_mem h.2 k hk
theorem ts_out {x : Int32} {lo hi : Int} (ks : List Int32) (h : ts_nes x ks) (hk : ks.map Int32.toInt = (List.range ks.length).map (fun i : Nat => lo + (i : Int)) ∧ lo + ks.length = hi + 1) : x.toInt < lo ∨ hi < x.toInt := by
  rcases Int.lt_or_le x.toInt lo with h1 | h1
  · exact Or.inl h1
  rcases Int.lt_or_le hi x.toInt with h2 | h2
  · exact Or.inr h2
  exfalso
  obtain ⟨i, hi0⟩ : ∃ i : Nat, x.toInt = lo + (i : Int) := ⟨(x.toInt - lo).toNat, by omega⟩
  have hlt : i < ks.length := by omega
  have e := congrArg (fun l => l[i]?) hk.1
  simp only [List.getElem?_map] at e
  rw [List.getElem?_eq_getElem hlt, List.getElem?_range hlt] at e
  simp only [Option.map_some, Option.some.injEq] at e
  exact ts_nes_mem h _ (List.getElem_mem hlt) (Int32.toInt_inj.mp (by rw [e, hi0]))
theorem xcp_I {g : ts_Ctx} {v : tX_V} {cc : ByteArray} {nL : Nat} {own : String} {σ : ts_S} {pc index : Nat} {lv : List (Nat × Value)} {st : List Value} {k0 k1 n0 n1 m : Nat} {n : Int32} (X : ts_X g (tX_w v) cc nL own) (hl : Cond.methodLink own index arraycopyName ∈ ts_TB) (hnat : Cond.native arraycopyName ∈ ts_TB) (hstat : Cond.static arraycopyName ∈ ts_TB) (hini : Cond.initialized "java/lang/System" ∈ ts_TB) (hA0 : tX_IA k0 n0) (hA1 : tX_IA k1 n1) (hm : n.toNatClampNeg = m) (h3 : ¬ n < 0) (h4 : m ≤ n0) (h5 : m ≤ n1) (hR : 1 ≤ g.2.2.2.1) (hw : (st.map fun v => v.category).sum ≤ 8) (d : decode cc pc = .ok (.invokestatic index, 3))
    (kk : ∀ σ1 : ts_S, σ1 = va_up σ k1 (va_cpy (σ k0) (σ k1) 0 0 m) → ts_G g (tX_w v) nL σ1 (pc + 3) lv st) : ts_G g (tX_w v) nL σ pc lv (.int n :: .int 0 :: .ref (tX_ad v k1) :: .int 0 :: .ref (tX_ad v k0) :: st) := by
  subst hm
  have z : (0 : Int32).toNatClampNeg = 0 := rfl
  exact ts_copy (w := tX_w v) (sp := 0) (dp := 0) X hl hnat hstat hini hA0.1 hA1.1 (hA0.2.2 v) (hA1.2.2 v) 0 0 rfl rfl rfl (by decide) (by decide) h3 (by rw [z]; omega) (by rw [z]; omega) (fun _ _ => rfl) hR hw d kk
theorem xcp_Z {g : ts_Ctx} {v : tX_V} {cc : ByteArray} {nL : Nat} {own : String} {σ : ts_S} {pc index : Nat} {lv : List (Nat × Value)} {st : List Value} {k0 k1 n0 n1 m : Nat} {n : Int32} (X : ts_X g (tX_w v) cc nL own) (hl : Cond.methodLink own index arraycopyName ∈ ts_TB) (hnat : Cond.native arraycopyName ∈ ts_TB) (hstat : Cond.static arraycopyName ∈ ts_TB) (hini : Cond.initialized "java/lang/System" ∈ ts_TB) (hA0 : tX_ZA k0 n0) (hA1 : tX_ZA k1 n1) (hm : n.toNatClampNeg = m) (h3 : ¬ n < 0) (h4 : m ≤ n0) (h5 : m ≤ n1) (hz : ts_fz (σ k0) m) (hR : 1 ≤ g.2.2.2.1) (hw : (st.map fun v => v.category).sum ≤ 8) (d : decode cc pc = .ok (.invokestatic index, 3))
    (kk : ∀ σ1 : ts_S, σ1 = va_up σ k1 (va_cpy (σ k0) (σ k1) 0 0 m) → ts_G g (tX_w v) nL σ1 (pc + 3) lv st) : ts_G g (tX_w v) nL σ pc lv (.int n :: .int 0 :: .ref (tX_ad v k1) :: .int 0 :: .ref (tX_ad v k0) :: st) := by
  subst hm
  have z : (0 : Int32).toNatClampNeg = 0 := rfl
  exact ts_copy (w := tX_w v) (sp := 0) (dp := 0) X hl hnat hstat hini hA0.1 hA1.1 (hA0.2.2 v) (hA1.2.2 v) 1 1 rfl rfl rfl (by decide) (by decide) h3 (by rw [z]; omega) (by rw [z]; omega) (fun i h => by rw [z, Nat.zero_add]; exact hz i h) hR hw d kk
