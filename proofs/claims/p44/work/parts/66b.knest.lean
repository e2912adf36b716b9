/-! links of the constructors, nest mates -/
theorem mk_ns0 : Jvm.Cond.methodLinkNest "MeltPins" 24 mkY0 "MeltPins" ∈ mzNest := List.mem_filter.mpr ⟨List.mem_of_getElem? (i := 85) (by decide +kernel), rfl⟩
theorem mk_ns1 : Jvm.Cond.methodLinkNest "MeltPins" 48 mkY1 "MeltPins" ∈ mzNest := List.mem_filter.mpr ⟨List.mem_of_getElem? (i := 153) (by decide +kernel), rfl⟩
theorem mk_ns2 : Jvm.Cond.methodLinkNest "MeltPins" 33 mkY2 "MeltPins" ∈ mzNest := List.mem_filter.mpr ⟨List.mem_of_getElem? (i := 126) (by decide +kernel), rfl⟩
theorem mk_ns3 : Jvm.Cond.methodLinkNest "MeltPins" 11 mkY3 "MeltPins" ∈ mzNest := List.mem_filter.mpr ⟨List.mem_of_getElem? (i := 25) (by decide +kernel), rfl⟩
