/-! THE SMALL MACHINE: the store against the heap -/
/-- the cells that may be written -/
def fA (E : mE) : Nat → Prop := fun q => E.1 ≤ q
def eFld (E : mE) (u : mS) (a k : Nat) (t : FieldType) : Value := match fkOf t with
  | 1 => .long (mL u a k)
  | 2 => va_rf ((mR u a k).map (eA E))
  | _ => .int (mI u a k)
def eObj (E : mE) (u : mS) (a ci : Nat) : List Value := (List.range (mm_nf ci)).map (fun k => eFld E u a k (mm_ty ci k))
def eC (E : mE) (u : mS) (a : Nat) : va_E := if (mK u a).1 < 11 then .inr ((mK u a).1, eObj E u a (mK u a).1) else if (mK u a).1 < 23 then .inl (E.2.2.2.1 (mK u a).1, (mK u a).2, .inl (mI u a)) else if (mK u a).1 = 23 then .inl (E.2.2.2.1 23, (mK u a).2, .inr (.inl (mL u a))) else .inl (E.2.2.2.1 (mK u a).1, (mK u a).2, .inr (.inr (.inr (.inr (fun j => (mR u a j).map (eA E))))))
def eW (E : mE) (u : mS) : va_W := (List.range (mN u)).map (fun a => (E.1 + a, eC E u a))
def eT (E : mE) : List (ClassId × FieldType) := [(E.2.2.2.1 20, .int), (E.2.2.2.1 21, .byte), (E.2.2.2.1 22, .boolean), (E.2.2.2.1 23, .long), (E.2.2.2.1 24, .object "PennantLawn$Race"), (E.2.2.2.1 25, .object "PennantLawn$Row"), (E.2.2.2.1 26, .array .int)]
def eO (E : mE) (u : mS) : Prop := ∀ a, XB ≤ a → mK u a = xK E.2.2.2.2.1 a ∧ mI u a = xI E.2.2.2.2.2 a
theorem eW_len (E : mE) (u : mS) : (eW E u).length = mN u := by unfold eW; simp
theorem eW_at {E : mE} {u : mS} {a : Nat} (h : a < mN u) : (eW E u)[a]? = some (E.1 + a, eC E u a) := by
  unfold eW
  rw [List.getElem?_map, List.getElem?_range h]
  rfl
theorem eW_get {E : mE} {u : mS} {a : Nat} {q : Nat × va_E} (h : (eW E u)[a]? = some q) : a < mN u ∧ q = (E.1 + a, eC E u a) := by
  have hl : a < (eW E u).length := (List.getElem?_eq_some_iff.mp h).1
  rw [eW_len] at hl
  rw [eW_at hl] at h
  exact ⟨hl, (Option.some.inj h).symm⟩
theorem eW_D (E : mE) (u : mS) : va_D (fA E) (eW E u) := by
  refine ⟨fun i j p q hi hj e => ?_, fun i q hi => ?_⟩
  · obtain ⟨-, rfl⟩ := eW_get hi
    obtain ⟨-, rfl⟩ := eW_get hj
    have e : E.1 + i = E.1 + j := e
    omega
  · obtain ⟨-, rfl⟩ := eW_get hi
    exact Nat.le_add_right _ _
theorem eW_set {E : mE} {u u' : mS} {a : Nat} {c : va_E} (hn : mN u' = mN u) (hc : eC E u' a = c) (ho : ∀ b, b ≠ a → eC E u' b = eC E u b) : (eW E u).set a (E.1 + a, c) = eW E u' := by
  apply List.ext_getElem?
  intro i
  rw [List.getElem?_set]
  by_cases hi : i < mN u
  · by_cases e : a = i
    · subst e
      rw [if_pos rfl, if_pos (by rw [eW_len]; exact hi), eW_at (by rw [hn]; exact hi), hc]
    · rw [if_neg e, eW_at hi, eW_at (by rw [hn]; exact hi), ho i (fun z => e z.symm)]
  · have h1 : (eW E u')[i]? = none := List.getElem?_eq_none (by rw [eW_len, hn]; omega)
    have h2 : (eW E u)[i]? = none := List.getElem?_eq_none (by rw [eW_len]; omega)
    rw [h1, h2]
    by_cases e : a = i
    · rw [if_pos e, if_neg (by rw [eW_len]; omega)]
    · rw [if_neg e]
/-- the words of nest mates -/
def nestW : List Cond := [.methodLinkNest "PennantLawn" 9 ⟨"PennantLawn$Tape", "<init>", "()V"⟩ "PennantLawn", .methodLinkNest "PennantLawn$Reader" 11 ⟨"PennantLawn$Race", "<init>", "()V"⟩ "PennantLawn", .methodLinkNest "PennantLawn" 27 ⟨"PennantLawn$Race", "<init>", "()V"⟩ "PennantLawn", .methodLinkNest "PennantLawn" 88 ⟨"PennantLawn$Row", "<init>", "()V"⟩ "PennantLawn"]
def nestF : Cond := .fieldLinkNest "PennantLawn$Shares" 54 "PennantLawn" "FACTORIALS" "[I" "PennantLawn"
/-- the outside in the heap -/
def eX (E : mE) (U : State) (H : Heap) : Prop :=
  va_T .int (E.2.1 XB) E.2.2.2.2.1 (fun j => .int (E.2.2.2.2.2 j)) (fA E) U H ∧ va_T .int (E.2.1 (XB + 1)) 6 (fun j => .int (([1, 1, 2, 6, 24, 120] : List Int32).getD j 0)) (fA E) U H ∧
  (∀ i, i < 28 → va_O "java/lang/String" (E.2.1 (XB + 10 + 2 * i)) (fA E) U H ∧ va_OF "java/lang/String" "coder" "B" (.int 0) (E.2.1 (XB + 10 + 2 * i)) (fA E) U H ∧ va_OF "java/lang/String" "value" "[B" (.ref (E.2.1 (XB + 10 + 2 * i + 1))) (E.2.1 (XB + 10 + 2 * i)) (fA E) U H ∧
    va_T .byte (E.2.1 (XB + 10 + 2 * i + 1)) (xT i).length (fun j => .int (nI ((xT i).getD j 'a').toNat)) (fA E) U H) ∧
  va_Z "PennantLawn" "FACTORIALS" "[I" (.ref (E.2.1 (XB + 1))) (fA E) U H ∧ va_Z "java/lang/String" "COMPACT_STRINGS" "Z" (.int 1) (fA E) U H ∧ va_Z "jdk/internal/util/Preconditions" "SIOOBE_FORMATTER" "Ljava/util/function/BiFunction;" (eFm E) (fA E) U H ∧
  (∀ i q, mm_sc[i]? = some q → vk_R (mm_cls q.1) q.2.1 q.2.2.1 (E.2.1 (XB + 10 + 2 * i)) U) ∧ (∀ w ∈ nestW, va_Nw w U) ∧ va_Nw nestF U ∧ va_AO "PennantLawn$Race" U ∧ va_AO "PennantLawn$Row" U ∧ va_AOA .int U
theorem va_AOA.moved {t : FieldType} {u U : State} (hvm : u.vm.Alike U.vm) (h : va_AOA t u) : va_AOA t U := over_moved (a := #[]) (a' := #[]) hvm h
theorem eX.kept {E : mE} {U : State} {H H1 : Heap} (h : eX E U H) (hq : ∀ a : Nat, a < H.size → ¬ fA E a → H1[a]? = H[a]?) : eX E U H1 := by
  obtain ⟨h1, h2, h3, h4, h5, h6, h7⟩ := h
  exact ⟨h1.kept hq, h2.kept hq, fun i hi => ⟨(h3 i hi).1.kept hq, (h3 i hi).2.1.kept hq, (h3 i hi).2.2.1.kept hq, (h3 i hi).2.2.2.kept hq⟩, h4.kept hq, h5.kept hq, h6.kept hq, h7⟩
theorem eX.warm {E : mE} {s U : State} {H : Heap} (hW : s.WarmedH U.vm) (h : eX E s H) : eX E U H := by
  obtain ⟨h1, h2, h3, h4, h5, h6, h7, h8, h9, h10, h11, h12⟩ := h
  refine ⟨h1.moved hW.alike, h2.moved hW.alike, fun i hi => ⟨(h3 i hi).1.moved hW.alike, (h3 i hi).2.1.moved hW.alike, (h3 i hi).2.2.1.moved hW.alike, (h3 i hi).2.2.2.moved hW.alike⟩, h4.moved hW.alike, h5.moved hW.alike, h6.moved hW.alike, fun i q hi => (h7 i q hi).warm hW, fun w hw => ?_, h9.warmF hW, h10.moved hW.alike, h11.moved hW.alike, h12.moved hW.alike⟩
  have h := h8 w hw
  simp only [nestW, List.mem_cons, List.not_mem_nil, or_false] at hw
  rcases hw with rfl | rfl | rfl | rfl <;> exact h.warmM hW
/-- what stands through a method's life: the machine, its code, the words, the classes, the outside -/
def Cx (E : mE) (n0 k : Nat) (p : Program) (s : State) (m : MethodId) (args : Array Value) (meth : Method) (c : Code) : Prop :=
  p.tables.exec = Jvm.exec ∧ c.code = (mm_m k).2.2.1 ∧ c.maxLocals = (mm_m k).2.2.2.1 ∧ meth.sig.returnType = (mm_m k).2.2.2.2.1 ∧ meth.locks = false ∧ s.vm.findClass (mm_cls (mm_m k).1) = some m.cls ∧ (∀ w ∈ GW, w.before args s = true) ∧ va_K E.2.2.1 vwCl (eT E) s ∧ eX E s s.heap ∧ s.heap.size = E.1 + n0 ∧ meth.name = (mm_m k).2.1.name
/-- where a method stands: the store in the heap, what was written, the room used -/
def St (E : mE) (w0 u : mS) (s : State) (H : Heap) (locs : List Loc) (cells slots : Nat) : Prop :=
  va_P E.2.2.1 vwCl (eW E u) H ∧ va_S (fA E) s.heap H locs ∧ cells = mN u - mN w0 ∧ slots = mZ u - mZ w0 ∧ mN w0 ≤ mN u ∧ mZ w0 ≤ mZ u ∧ mN u ≤ XB ∧ eO E u
theorem eA_in {E : mE} {u : mS} {a : Nat} (h : a < mN u) (hX : mN u ≤ XB) : eA E a = E.1 + a := if_pos (Nat.lt_of_lt_of_le h hX)
theorem eA_out {E : mE} {a : Nat} (h : XB ≤ a) : eA E a = E.2.1 a := if_neg (by omega)
theorem eC_obj {E : mE} {u : mS} {a ci : Nat} (h : (mK u a).1 = ci) (hc : ci < 11) : eC E u a = .inr (ci, eObj E u a ci) := by
  unfold eC
  rw [h, if_pos hc]
theorem eC_int {E : mE} {u : mS} {a kd : Nat} (h : (mK u a).1 = kd) (h1 : ¬ kd < 11) (h2 : kd < 23) : eC E u a = .inl (E.2.2.2.1 kd, (mK u a).2, .inl (mI u a)) := by
  unfold eC
  rw [h, if_neg h1, if_pos h2]
theorem eC_long {E : mE} {u : mS} {a : Nat} (h : (mK u a).1 = 23) : eC E u a = .inl (E.2.2.2.1 23, (mK u a).2, .inr (.inl (mL u a))) := by
  unfold eC
  rw [h, if_neg (by omega), if_neg (by omega), if_pos rfl]
theorem eC_ref {E : mE} {u : mS} {a kd : Nat} (h : (mK u a).1 = kd) (h1 : 23 < kd) : eC E u a = .inl (E.2.2.2.1 kd, (mK u a).2, .inr (.inr (.inr (.inr (fun j => (mR u a j).map (eA E)))))) := by
  unfold eC
  rw [h, if_neg (by omega), if_neg (by omega), if_neg (by omega)]
theorem eObj_at {E : mE} {u : mS} {a ci k : Nat} (h : k < mm_nf ci) : (eObj E u a ci)[k]? = some (eFld E u a k (mm_ty ci k)) := by
  unfold eObj
  rw [List.getElem?_map, List.getElem?_range h]
  rfl
theorem eObj_len (E : mE) (u : mS) (a ci : Nat) : (eObj E u a ci).length = mm_nf ci := by unfold eObj; simp
/-- a store of one field -/
theorem eObj_set {E : mE} {u u' : mS} {a ci k : Nat} {v : Value} (hk : k < mm_nf ci) (hv : eFld E u' a k (mm_ty ci k) = v) (ho : ∀ j, j ≠ k → ∀ t, eFld E u' a j t = eFld E u a j t) : (eObj E u a ci).set k v = eObj E u' a ci := by
  apply List.ext_getElem?
  intro i
  rw [List.getElem?_set]
  by_cases hi : i < mm_nf ci
  · by_cases e : k = i
    · subst e
      rw [if_pos rfl, if_pos (by rw [eObj_len]; exact hi), eObj_at hi, hv]
    · rw [if_neg e, eObj_at hi, eObj_at hi, ho i (fun z => e z.symm)]
  · have h1 : (eObj E u' a ci)[i]? = none := List.getElem?_eq_none (by rw [eObj_len]; omega)
    have h2 : (eObj E u a ci)[i]? = none := List.getElem?_eq_none (by rw [eObj_len]; omega)
    rw [h1, h2]
    by_cases e : k = i
    · rw [if_pos e, if_neg (by rw [eObj_len]; omega)]
    · rw [if_neg e]
/-- another cell doesn't see it -/
theorem eC_congr {E : mE} {u u' : mS} {b : Nat} (h1 : mK u' b = mK u b) (h2 : mI u' b = mI u b) (h3 : mL u' b = mL u b) (h4 : mR u' b = mR u b) : eC E u' b = eC E u b := by
  have h5 : ∀ ci, eObj E u' b ci = eObj E u b ci := fun ci => by
    unfold eObj
    refine List.map_congr_left (fun k _ => ?_)
    unfold eFld
    rw [h2, h3, h4]
  unfold eC
  rw [h1, h2, h3, h4]
  simp only [h5]
