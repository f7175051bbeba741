section
/-! ===== words that constructors need ===== -/
theorem ko_inst : Cond.instanceMethod Lib.objectInit ∈ TT := (TTm (List.mem_of_getElem? (i := 127) (by decide +kernel)) rfl)
theorem ko_code : Cond.code Lib.objectInit ⟨#[0xb1]⟩ 1 none ∈ TT := (TTm (List.mem_of_getElem? (i := 128) (by decide +kernel)) rfl)
theorem ko_X1_3 : Cond.methodLink RX1 3 Lib.objectInit ∈ TT := (TTm (List.mem_of_getElem? (i := 141) (by decide +kernel)) rfl)
theorem ko_X5_3 : Cond.methodLink RX5 3 Lib.objectInit ∈ TT := (TTm (List.mem_of_getElem? (i := 200) (by decide +kernel)) rfl)
theorem ka_int : Cond.arrayClass .int ∈ TT := (TTm (List.mem_of_getElem? (i := 224) (by decide +kernel)) rfl)
theorem ko_X2_3 : Cond.methodLink RX2 3 Lib.objectInit ∈ TT := (TTm (List.mem_of_getElem? (i := 230) (by decide +kernel)) rfl)
theorem ko_X3_3 : Cond.methodLink RX3 3 Lib.objectInit ∈ TT := (TTm (List.mem_of_getElem? (i := 456) (by decide +kernel)) rfl)
theorem ko_X4_3 : Cond.methodLink RX4 3 Lib.objectInit ∈ TT := (TTm (List.mem_of_getElem? (i := 250) (by decide +kernel)) rfl)
theorem ko_X0_3 : Cond.methodLink RX0 3 Lib.objectInit ∈ TT := (TTm (List.mem_of_getElem? (i := 134) (by decide +kernel)) rfl)
theorem kn_X1 : Cond.instantiable RX1 6 ∈ TT := (TTm (List.mem_of_getElem? (i := 137) (by decide +kernel)) rfl)
theorem kz_X1 : Cond.initialized RX1 ∈ TT := (TTm (List.mem_of_getElem? (i := 106) (by decide +kernel)) rfl)
theorem kc_X0_15 : Cond.classLink RX0 15 RX1 ∈ TT := (TTm (List.mem_of_getElem? (i := 135) (by decide +kernel)) rfl)
theorem lj_X1_init : LkJ yX1_init cX1_init 1 0 := ⟨(TTm (List.mem_of_getElem? (i := 139) (by decide +kernel)) rfl), (TTm (List.mem_of_getElem? (i := 106) (by decide +kernel)) rfl), (TTm (List.mem_of_getElem? (i := 140) (by decide +kernel)) rfl), rfl, by decide +kernel⟩
end
