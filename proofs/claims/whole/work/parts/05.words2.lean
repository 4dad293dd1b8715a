/-! THE SMALL MACHINE: its methods and calls stand in the claim's tables -/
def okM (q : mm_M) : Bool := match q with
  | (o, y, by9, ml, rt, na, (st, w1, w2, w3, w4)) => decide (wAt w1 = some (.code y by9 ml rt)) && (decide (y.cls = mm_cls o) && (plainName y.cls && (decide (y.cls ≠ "java/lang/invoke/MethodHandle" ∧ y.cls ≠ "java/lang/invoke/VarHandle") && (decide (ml ≤ 11) && (decide (wAt w4 = some (.initialized y.cls)) && (decide (y.name = "<init>" → rt = none) &&
    (if st = true then decide (wAt w2 = some (.static y) ∧ (parseMethodDescriptor y.desc).map (fun d => d.parameters.length) = some na)
     else decide (wAt w2 = some (.instanceMethod y) ∧ (parseMethodDescriptor y.desc).map (fun d => d.parameters.length) = some (na - 1) ∧ 0 < na ∧ (y.name = "<init>" ∨ wAt w3 = some (.selects y.cls y y))))))))))
theorem m_all_0 : mm_ms_0.all okM = true := by decide +kernel
theorem m_all_1 : mm_ms_1.all okM = true := by decide +kernel
theorem m_all_2 : mm_ms_2.all okM = true := by decide +kernel
theorem m_all_3 : mm_ms_3.all okM = true := by decide +kernel
theorem m_all_4 : mm_ms_4.all okM = true := by decide +kernel
theorem m_all_5 : mm_ms_5.all okM = true := by decide +kernel
theorem m_all_6 : mm_ms_6.all okM = true := by decide +kernel
theorem m_all_7 : mm_ms_7.all okM = true := by decide +kernel
theorem m_all_8 : mm_ms_8.all okM = true := by decide +kernel
theorem m_lenA : mm_msA.length = 335 := by decide +kernel
def okC (q : Nat × Nat × Nat × Nat × Nat) : Bool := match q with
  | (o, i, kd, k, w) => if kd = 0 then decide (k < 335 ∧ (mm_m k).2.2.2.2.2.2.1 = false ∧ (mm_m k).2.1.name ≠ "<init>" ∧ wAt w = some (.methodLink (mm_cls o) i (mm_m k).2.1))
    else if kd = 1 then decide (k < 335 ∧ (mm_m k).2.2.2.2.2.2.1 = true ∧ wAt w = some (.methodLink (mm_cls o) i (mm_m k).2.1))
    else if kd = 2 then decide (k < 335 ∧ (mm_m k).2.2.2.2.2.2.1 = false ∧ (mm_m k).2.1.name = "<init>" ∧ wAt w = some (.methodLink (mm_cls o) i (mm_m k).2.1))
    else if kd = 3 then decide (k < 335 ∧ (mm_m k).2.2.2.2.2.2.1 = false ∧ (mm_m k).2.1.name = "<init>" ∧ wAt w = some (.methodLinkNest (mm_cls o) i (mm_m k).2.1 "PennantLawn"))
    else if kd = 10 then decide (wAt w = some (.methodLink (mm_cls o) i objectInit))
    else if kd = 11 then decide (wAt w = some (.methodLink (mm_cls o) i Lib.Math.max.name))
    else if kd = 12 then decide (wAt w = some (.methodLink (mm_cls o) i Lib.Math.min.name))
    else if kd = 13 then decide (wAt w = some (.methodLink (mm_cls o) i Lib.MathLoose.abs_long.x))
    else if kd = 14 then decide (wAt w = some (.methodLink (mm_cls o) i arraycopyName))
    else false
theorem c_all_0 : mm_cl_0.all okC = true := by decide +kernel
theorem c_all_1 : mm_cl_1.all okC = true := by decide +kernel
theorem c_all_2 : mm_cl_2.all okC = true := by decide +kernel
theorem c_all_3 : mm_cl_3.all okC = true := by decide +kernel
theorem c_all_4 : mm_cl_4.all okC = true := by decide +kernel
theorem c_all_5 : mm_cl_5.all okC = true := by decide +kernel
theorem c_all_6 : mm_cl_6.all okC = true := by decide +kernel
theorem c_all_7 : mm_cl_7.all okC = true := by decide +kernel
theorem w_obj : Cond.instanceMethod objectInit ∈ GW ∧ Cond.code objectInit ⟨#[0xb1]⟩ 1 none ∈ GW := by decide +kernel
theorem w_max : Cond.static Lib.Math.max.name ∈ GW ∧ Cond.initialized "java/lang/Math" ∈ GW ∧ Cond.code Lib.Math.max.name Lib.Math.max.code 2 (some .int) ∈ GW := by decide +kernel
theorem w_min : Cond.static Lib.Math.min.name ∈ GW ∧ Cond.code Lib.Math.min.name Lib.Math.min.code 2 (some .int) ∈ GW := by decide +kernel
theorem w_abs : Cond.static Lib.MathLoose.abs_long.x ∈ GW ∧ Cond.code Lib.MathLoose.abs_long.x Lib.MathLoose.abs_long.code 2 (some .long) ∈ GW := by decide +kernel
theorem w_cpy : Cond.native arraycopyName ∈ GW ∧ Cond.static arraycopyName ∈ GW ∧ Cond.initialized "java/lang/System" ∈ GW := by decide +kernel
theorem w_arr : Cond.arrayClass .int ∈ GW ∧ Cond.arrayClass .byte ∈ GW ∧ Cond.arrayClass .boolean ∈ GW ∧ Cond.arrayClass .long ∈ GW := by decide +kernel
theorem w_str : Cond.fieldLink "java/lang/String" 9 "java/lang/String" "value" "[B" ∈ GW ∧ Cond.fieldLink "java/lang/String" 15 "java/lang/String" "coder" "B" ∈ GW := by decide +kernel
theorem w_stat : Cond.fieldLink "PennantLawn" 325 "PennantLawn" "FACTORIALS" "[I" ∈ GW ∧ Cond.fieldLink "java/lang/String" 38 "java/lang/String" "COMPACT_STRINGS" "Z" ∈ GW ∧ Cond.fieldLink "java/lang/String" 1053 "jdk/internal/util/Preconditions" "SIOOBE_FORMATTER" "Ljava/util/function/BiFunction;" ∈ GW := by decide +kernel
