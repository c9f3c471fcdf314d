/-! the law's links -/
theorem lo_X8 : Cond.classLink RX10 39 RX8 ∈ wsA ∧ Cond.instantiable RX8 7 ∈ wsA ∧ Cond.initialized RX8 ∈ wsA := ⟨in_wsA 18 (by decide +kernel) rfl, in_wsA 19 (by decide +kernel) rfl, in_wsA 8 (by decide +kernel) rfl⟩
theorem cl_X10_78 : CL RX10 78 yX8_init cX8_init 1 none 0 := ⟨in_wsA 20 (by decide +kernel) rfl, in_wsA 8 (by decide +kernel) rfl, in_wsA 22 (by decide +kernel) rfl, by decide +kernel⟩
theorem li_X8 : Cond.instanceMethod yX8_init ∈ wsA := in_wsA 21 (by decide +kernel) rfl
