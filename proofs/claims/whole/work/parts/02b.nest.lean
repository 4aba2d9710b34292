/-! links to private members of nest mates: they are carried beside the words -/
def ts_NW : List Cond := [Cond.methodLinkNest RX9 9 yX6_init RX9, Cond.methodLinkNest RX9 20 yX2_init RX9, Cond.methodLinkNest RX1 9 yX9_towersOf RX9, Cond.methodLinkNest RX9 51 yX4_init RX9, Cond.methodLinkNest RX7 18 yX9_towersOf RX9, Cond.methodLinkNest RX9 81 yX0_init RX9, Cond.methodLinkNest RX6 69 yX9_within RX9, Cond.methodLinkNest RX8 68 yX9_hasBit RX9, Cond.methodLinkNest RX8 88 yX9_asNumber RX9, Cond.methodLinkNest RX3 131 yX9_asNumber RX9, Cond.methodLinkNest RX3 121 yX9_hasBit RX9, Cond.methodLinkNest RX0 43 yX9_hasBit RX9]
theorem ts_NW_in : ∀ w ∈ ts_NW, w ∈ lw_tbl := by
  intro w h
  simp only [ts_NW, List.mem_cons, List.not_mem_nil, or_false] at h
  rcases h with rfl | rfl | rfl | rfl | rfl | rfl | rfl | rfl | rfl | rfl | rfl | rfl
  · exact List.mem_of_getElem? (i := 87) (by decide +kernel)
  · exact List.mem_of_getElem? (i := 111) (by decide +kernel)
  · exact List.mem_of_getElem? (i := 219) (by decide +kernel)
  · exact List.mem_of_getElem? (i := 240) (by decide +kernel)
  · exact List.mem_of_getElem? (i := 294) (by decide +kernel)
  · exact List.mem_of_getElem? (i := 333) (by decide +kernel)
  · exact List.mem_of_getElem? (i := 430) (by decide +kernel)
  · exact List.mem_of_getElem? (i := 579) (by decide +kernel)
  · exact List.mem_of_getElem? (i := 666) (by decide +kernel)
  · exact List.mem_of_getElem? (i := 705) (by decide +kernel)
  · exact List.mem_of_getElem? (i := 706) (by decide +kernel)
  · exact List.mem_of_getElem? (i := 774) (by decide +kernel)
theorem ts_NW_warm {s U : State} (hW : s.WarmedH U.vm) (h : ∀ w ∈ ts_NW, va_Nw w s) : ∀ w ∈ ts_NW, va_Nw w U := by
  intro w hw
  have h1 := h w hw
  simp only [ts_NW, List.mem_cons, List.not_mem_nil, or_false] at hw
  rcases hw with rfl | rfl | rfl | rfl | rfl | rfl | rfl | rfl | rfl | rfl | rfl | rfl <;> exact va_Nw.warmM hW h1
theorem ts_NW_same {s U : State} (hW : s.vm = U.vm) (h : ∀ w ∈ ts_NW, va_Nw w s) : ∀ w ∈ ts_NW, va_Nw w U := by
  intro w hw
  have h1 := h w hw
  simp only [ts_NW, List.mem_cons, List.not_mem_nil, or_false] at hw
  rcases hw with rfl | rfl | rfl | rfl | rfl | rfl | rfl | rfl | rfl | rfl | rfl | rfl <;> exact va_Nw.same rfl hW h1
