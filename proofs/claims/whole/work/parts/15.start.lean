/-! THE CLAIM, OUT OF WHAT THE SMALL MACHINE ANSWERS -/
/-- on every script of at most 3072 ints the small machine ends the law with 1 -/
def LawOk : Prop := ∀ (L : Nat) (xs : Nat → Int32), L ≤ 3072 → ∃ (n : Nat) (w : mS), ev n 14 335 0 (mA 0 [.ref XB]) [] (u0 L xs) = some (some (.int 1), w) ∧ mN w ≤ 600000 ∧ mZ w ≤ 7302250
theorem w_over : Cond.arrayOver (.object "PennantLawn$Race") ∈ lw_tbl ∧ Cond.arrayOver (.object "PennantLawn$Row") ∈ lw_tbl ∧ Cond.arrayOver (.array .int) ∈ lw_tbl := by decide +kernel
theorem w_lays : Cond.laysStatic "PennantLawn" "FACTORIALS" "[I" ∈ lw_tbl ∧ Cond.laysStatic "java/lang/String" "COMPACT_STRINGS" "Z" ∈ lw_tbl ∧ Cond.laysStatic "jdk/internal/util/Preconditions" "SIOOBE_FORMATTER" "Ljava/util/function/BiFunction;" ∈ lw_tbl := by decide +kernel
theorem w_ini : Cond.initialized "PennantLawn" ∈ lw_tbl ∧ Cond.initialized "java/lang/String" ∈ lw_tbl ∧ Cond.initialized "jdk/internal/util/Preconditions" ∈ lw_tbl := by decide +kernel
theorem w_nest : (∀ w ∈ nestW, w ∈ lw_tbl) ∧ nestF ∈ lw_tbl := by decide +kernel
def stw : List Cond := flatC (Jvm.Cond.and given_1 narrow_1)
def fT : Term := .static "PennantLawn" "FACTORIALS" "[I"
theorem g_fact : Cond.arrayOf fT .int ∈ stw ∧ Cond.eq (.length fT) (.int (Int32.ofNat 6)) ∈ stw ∧ ∀ j, j < 6 → Cond.eq (.elem fT (.int (Int32.ofNat j))) (.int (([1, 1, 2, 6, 24, 120] : List Int32).getD j 0)) ∈ stw := by decide +kernel
theorem g_stat : Cond.eq (.static "java/lang/String" "COMPACT_STRINGS" "Z") (.int 1) ∈ stw ∧ Cond.isRef (.static "jdk/internal/util/Preconditions" "SIOOBE_FORMATTER" "Ljava/util/function/BiFunction;") ∈ stw := by decide +kernel
def sT (i : Nat) : Term := .string (mm_cls (mm_sc.getD i (0, 0, "", 0)).1) (mm_sc.getD i (0, 0, "", 0)).2.1
theorem g_str1 : ∀ i, i < 28 → Cond.exactly (sT i) "java/lang/String" ∈ stw ∧ Cond.eq (.field (sT i) "java/lang/String" "coder" "B") (.int 0) ∈ stw ∧ Cond.arrayOf (.field (sT i) "java/lang/String" "value" "[B") .byte ∈ stw ∧ Cond.eq (.length (.field (sT i) "java/lang/String" "value" "[B")) (.int (Int32.ofNat (xT i).length)) ∈ stw := by decide +kernel
theorem g_str2 : ∀ i, i < 28 → ∀ j, j < (xT i).length → Cond.eq (.elem (.field (sT i) "java/lang/String" "value" "[B") (.int (Int32.ofNat j))) (.int (nI ((xT i).getD j 'a').toNat)) ∈ stw := by decide +kernel
theorem g_len : ∀ i, i < 28 → (xT i).length < 2 ^ 31 := by decide +kernel
theorem sc_in {i : Nat} {q : Nat × Nat × String × Nat} (h : mm_sc[i]? = some q) : i < 28 ∧ sT i = .string (mm_cls q.1) q.2.1 ∧ Cond.stringRef (mm_cls q.1) q.2.1 q.2.2.1 ∈ lw_tbl := by
  have h1 : i < mm_sc.length := (List.getElem?_eq_some_iff.mp h).1
  have h2 := List.all_eq_true.mp sc_all9 q (List.mem_of_getElem? h)
  refine ⟨h1, ?_, wAt_in (of_decide_eq_true h2)⟩
  unfold sT
  rw [List.getD_eq_getElem?_getD, h]
  rfl
