set_option maxRecDepth 20000 in
theorem zbi_1010 : zbn 1010 = Lib.Math.max.name ∧ Cond.static Lib.Math.max.name ∈ lw_tbl ∧ Cond.code Lib.Math.max.name Lib.Math.max.code 2 (some .int) ∈ lw_tbl := ⟨rfl, List.mem_of_getElem? (i := 958) rfl, List.mem_of_getElem? (i := 959) rfl⟩
set_option maxRecDepth 20000 in
theorem zbi_1011 : zbn 1011 = Lib.Math.min.name ∧ Cond.static Lib.Math.min.name ∈ lw_tbl ∧ Cond.code Lib.Math.min.name Lib.Math.min.code 2 (some .int) ∈ lw_tbl := ⟨rfl, List.mem_of_getElem? (i := 648) rfl, List.mem_of_getElem? (i := 649) rfl⟩
set_option maxRecDepth 20000 in
theorem zbi_1012 : zbn 1012 = Lib.Math.abs.name ∧ Cond.static Lib.Math.abs.name ∈ lw_tbl ∧ Cond.code Lib.Math.abs.name Lib.Math.abs.code 1 (some .int) ∈ lw_tbl := ⟨rfl, List.mem_of_getElem? (i := 908) rfl, List.mem_of_getElem? (i := 909) rfl⟩
set_option maxRecDepth 20000 in
theorem zbi_1013 : zbn 1013 = Lib.MathLoose.max_long.x ∧ Cond.static Lib.MathLoose.max_long.x ∈ lw_tbl ∧ Cond.code Lib.MathLoose.max_long.x Lib.MathLoose.max_long.code 4 (some .long) ∈ lw_tbl := ⟨rfl, List.mem_of_getElem? (i := 870) rfl, List.mem_of_getElem? (i := 871) rfl⟩
set_option maxRecDepth 20000 in
theorem zbi_1014 : zbn 1014 = Lib.MathLoose.min_long.x ∧ Cond.static Lib.MathLoose.min_long.x ∈ lw_tbl ∧ Cond.code Lib.MathLoose.min_long.x Lib.MathLoose.min_long.code 4 (some .long) ∈ lw_tbl := ⟨rfl, List.mem_of_getElem? (i := 867) rfl, List.mem_of_getElem? (i := 868) rfl⟩
set_option maxRecDepth 20000 in
theorem zbi_1015 : zbn 1015 = Lib.MathLoose.abs_long.x ∧ Cond.static Lib.MathLoose.abs_long.x ∈ lw_tbl ∧ Cond.code Lib.MathLoose.abs_long.x Lib.MathLoose.abs_long.code 2 (some .long) ∈ lw_tbl := ⟨rfl, List.mem_of_getElem? (i := 1684) rfl, List.mem_of_getElem? (i := 1685) rfl⟩
set_option maxRecDepth 20000 in
theorem zbi_1002 : zbn 1002 = arraycopyName ∧ Cond.static arraycopyName ∈ lw_tbl ∧ Cond.native arraycopyName ∈ lw_tbl ∧ Cond.initialized "java/lang/System" ∈ lw_tbl ∧ Cond.initialized "java/lang/Math" ∈ lw_tbl := ⟨rfl, List.mem_of_getElem? (i := 881) rfl, List.mem_of_getElem? (i := 882) rfl, List.mem_of_getElem? (i := 138) rfl, List.mem_of_getElem? (i := 132) rfl⟩
