/-! what the tables say of each method: its code, its kind, its class -/
def tm_mok (J : Nat) : Bool := decide (lw_tbl[(tm_pl J).1]? = some (.code (tm_y J) (tm_cc J) (tm_mL J) (tm_rt J))) && (if tm_st J = true then decide (lw_tbl[(tm_pl J).2.1]? = some (.static (tm_y J))) else decide (lw_tbl[(tm_pl J).2.1]? = some (.instanceMethod (tm_y J))) && decide (lw_tbl[(tm_pl J).2.2.1]? = some (.selects (tm_y J).cls (tm_y J) (tm_y J)))) && decide (lw_tbl[(tm_pl J).2.2.2]? = some (.initialized (tm_y J).cls)) && decide ((tm_y J).cls ≠ "java/lang/invoke/MethodHandle" ∧ (tm_y J).cls ≠ "java/lang/invoke/VarHandle") && decide ((parseMethodDescriptor (tm_y J).desc).map (fun d => d.parameters.length) = some (tm_na J)) && plainName (tm_y J).cls && decide (tm_mL J ≤ 20) && decide ((if tm_st J = true then tm_na J else tm_na J + 1) ≤ tm_mL J)
def tm_mokR (i n : Nat) : Bool := (List.range n).all (fun k => tm_mok (i + k))
theorem tm_mok0 : tm_mokR 0 16 = true := by decide +kernel
theorem tm_mok1 : tm_mokR 16 16 = true := by decide +kernel
theorem tm_mok2 : tm_mokR 32 16 = true := by decide +kernel
theorem tm_mok3 : tm_mokR 48 16 = true := by decide +kernel
theorem tm_mok4 : tm_mokR 64 16 = true := by decide +kernel
theorem tm_mok5 : tm_mokR 80 16 = true := by decide +kernel
theorem tm_mok6 : tm_mokR 96 16 = true := by decide +kernel
theorem tm_mok7 : tm_mokR 112 16 = true := by decide +kernel
theorem tm_mok8 : tm_mokR 128 16 = true := by decide +kernel
theorem tm_mok9 : tm_mokR 144 16 = true := by decide +kernel
theorem tm_mok10 : tm_mokR 160 16 = true := by decide +kernel
theorem tm_mok11 : tm_mokR 176 15 = true := by decide +kernel
theorem tm_w_max_c : Cond.code Lib.Math.max.name Lib.Math.max.code 2 (some .int) ∈ lw_tbl := List.mem_of_getElem? (i := 543) (by decide +kernel)
theorem tm_w_max_s : Cond.static Lib.Math.max.name ∈ lw_tbl := List.mem_of_getElem? (i := 542) (by decide +kernel)
theorem tm_w_min_c : Cond.code Lib.Math.min.name Lib.Math.min.code 2 (some .int) ∈ lw_tbl := List.mem_of_getElem? (i := 498) (by decide +kernel)
theorem tm_w_min_s : Cond.static Lib.Math.min.name ∈ lw_tbl := List.mem_of_getElem? (i := 497) (by decide +kernel)
theorem tm_w_math_i : Cond.initialized "java/lang/Math" ∈ lw_tbl := List.mem_of_getElem? (i := 85) (by decide +kernel)
theorem tm_w_sys_i : Cond.initialized "java/lang/System" ∈ lw_tbl := List.mem_of_getElem? (i := 84) (by decide +kernel)
theorem tm_w_cpy_n : Cond.native arraycopyName ∈ lw_tbl := List.mem_of_getElem? (i := 396) (by decide +kernel)
theorem tm_w_cpy_s : Cond.static arraycopyName ∈ lw_tbl := List.mem_of_getElem? (i := 395) (by decide +kernel)
