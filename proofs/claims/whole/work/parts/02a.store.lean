/-! The store: the cells of a world are numbered; what changes in them is a number by cell and place; all references stay -/
abbrev ts_S : Type := Nat → Nat → Int32
def ts_w (N : Nat) (E : Nat → (Nat → Int32) → va_E) (ad : Nat → Nat) (σ : ts_S) : va_W := (List.range N).map fun k => (ad k, E k (σ k))
theorem ts_w_get {N : Nat} {E : Nat → (Nat → Int32) → va_E} {ad : Nat → Nat} {σ : ts_S} {k : Nat} (h : k < N) : (ts_w N E ad σ)[k]? = some (ad k, E k (σ k)) := by simp [ts_w, h]
def ts_u (σ : ts_S) (k j : Nat) (x : Int32) : ts_S := va_up σ k (upd (σ k) j x)
theorem ts_w_set {N : Nat} {E : Nat → (Nat → Int32) → va_E} {ad : Nat → Nat} {σ : ts_S} {k : Nat} (f : Nat → Int32) : (ts_w N E ad σ).set k (ad k, E k f) = ts_w N E ad (va_up σ k f) := by
  apply List.ext_getElem?
  intro j
  by_cases hj : j < N
  · by_cases hk : k = j
    · subst hk
      rw [List.getElem?_set_self (by simpa [ts_w] using hj), ts_w_get hj]
      simp [va_up]
    · rw [List.getElem?_set_ne hk, ts_w_get hj, ts_w_get hj]
      have : ¬ j = k := fun h => hk h.symm
      simp [va_up, this]
  · have h1 : (ts_w N E ad (va_up σ k f))[j]? = none := by simp [ts_w]; omega
    have h2 : ((ts_w N E ad σ).set k (ad k, E k f))[j]? = none := by
      rw [List.getElem?_eq_none_iff, List.length_set]
      simp [ts_w]; omega
    rw [h1, h2]
def ts_A (N : Nat) (ad : Nat → Nat) : Nat → Prop := fun q => ∃ k, k < N ∧ q = ad k
def ts_inj (N : Nat) (ad : Nat → Nat) : Prop := ∀ i j, i < N → j < N → ad i = ad j → i = j
theorem ts_w_some {N : Nat} {E : Nat → (Nat → Int32) → va_E} {ad : Nat → Nat} {σ : ts_S} {k : Nat} {q : Nat × va_E} (h : (ts_w N E ad σ)[k]? = some q) : k < N ∧ q = (ad k, E k (σ k)) := by
  have hk : k < N := by
    have := (List.getElem?_eq_some_iff.mp h).1
    simpa [ts_w] using this
  rw [ts_w_get hk] at h
  exact ⟨hk, (Option.some.inj h).symm⟩
theorem ts_D {N : Nat} {E : Nat → (Nat → Int32) → va_E} {ad : Nat → Nat} {σ : ts_S} (h : ts_inj N ad) : va_D (ts_A N ad) (ts_w N E ad σ) := by
  refine ⟨fun i j p q hi hj hpq => ?_, fun k q hk => ?_⟩
  · obtain ⟨h1, rfl⟩ := ts_w_some hi
    obtain ⟨h2, rfl⟩ := ts_w_some hj
    exact h i j h1 h2 hpq
  · obtain ⟨h1, rfl⟩ := ts_w_some hk
    exact ⟨k, h1, rfl⟩
