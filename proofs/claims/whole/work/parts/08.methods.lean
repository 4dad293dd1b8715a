/-! THE SMALL MACHINE: what its tables say -/
theorem fld_spec {o i ci k : Nat} (h : mm_fld o i = some (ci, k)) : ∃ r : vw_C, vwCl[ci]? = some r ∧ clOk ci r ∧ ci < 11 ∧ k < r.2.2 ∧ Cond.fieldLink (mm_cls o) i (r.2.1 k).1 (r.2.1 k).2.1 (r.2.1 k).2.2.1 ∈ GW := by
  unfold mm_fld at h
  cases hf : mm_fl.find? (fun q => q.1 == o && q.2.1 == i) with
  | none => rw [hf] at h; cases h
  | some q =>
    rw [hf] at h
    have h1 := List.find?_some hf
    have h2 := List.all_eq_true.mp fl_all q (List.mem_of_find?_eq_some hf)
    simp only [Bool.and_eq_true, beq_iff_eq] at h1
    obtain ⟨rfl, rfl⟩ := h1
    cases h
    unfold okFl at h2
    split at h2
    · rename_i r hr
      simp only [Bool.and_eq_true, decide_eq_true_eq] at h2
      obtain ⟨r', e1, e2⟩ := cl_facts _ (cl_lt hr)
      have e3 : r' = r := Option.some.inj (e1.symm.trans hr)
      subst e3
      exact ⟨r', hr, e2, cl_lt hr, h2.1, gw_in h2.2 rfl⟩
    · cases h2
theorem int_spec {o i : Nat} {x : Int32} (h : mm_int o i = some x) : Cond.constant (mm_cls o) i x ∈ GW := by
  unfold mm_int at h
  cases hf : mm_ic.find? (fun q => q.1 == o && q.2.1 == i) with
  | none => rw [hf] at h; cases h
  | some q =>
    rw [hf] at h
    have h1 := List.find?_some hf
    have h2 := List.all_eq_true.mp ic_all q (List.mem_of_find?_eq_some hf)
    simp only [Bool.and_eq_true, beq_iff_eq] at h1
    obtain ⟨rfl, rfl⟩ := h1
    cases h
    exact gw_in (of_decide_eq_true h2) rfl
theorem long_spec {o i : Nat} {x : Int64} (h : mm_long o i = some x) : Cond.constantLong (mm_cls o) i x ∈ GW := by
  unfold mm_long at h
  cases hf : mm_lc.find? (fun q => q.1 == o && q.2.1 == i) with
  | none => rw [hf] at h; cases h
  | some q =>
    rw [hf] at h
    have h1 := List.find?_some hf
    have h2 := List.all_eq_true.mp lc_all q (List.mem_of_find?_eq_some hf)
    simp only [Bool.and_eq_true, beq_iff_eq] at h1
    obtain ⟨rfl, rfl⟩ := h1
    cases h
    exact gw_in (of_decide_eq_true h2) rfl
theorem new_spec {o i ci : Nat} (h : mm_new o i = some ci) : (ci < 11 → Cond.classLink (mm_cls o) i (mm_cls ci) ∈ GW) ∧ (ci = 26 → Cond.classLink (mm_cls o) i "[[I" ∈ GW) := by
  unfold mm_new at h
  cases hf : mm_nw.find? (fun q => q.1 == o && q.2.1 == i) with
  | none => rw [hf] at h; cases h
  | some q =>
    rw [hf] at h
    have h1 := List.find?_some hf
    have h2 := List.all_eq_true.mp nw_all q (List.mem_of_find?_eq_some hf)
    simp only [Bool.and_eq_true, beq_iff_eq] at h1
    obtain ⟨rfl, rfl⟩ := h1
    cases h
    unfold okNw at h2
    split at h2
    · rename_i hl
      exact ⟨fun _ => gw_in (of_decide_eq_true h2) rfl, fun z => absurd hl (by have z2 : q.2.2.1 = 26 := z; omega)⟩
    · rename_i hl
      exact ⟨fun z => absurd z hl, fun _ => gw_in (of_decide_eq_true h2).2 rfl⟩
/-- a text's place: what the class's pool names -/
theorem str_spec {o i k : Nat} (h : mm_str o i = some k) : ∃ q, mm_sc[k]? = some q ∧ q.1 = o ∧ q.2.1 = i := by
  unfold mm_str at h
  rw [List.findIdx?_eq_some_iff_getElem] at h
  obtain ⟨hl, h1, -⟩ := h
  simp only [Bool.and_eq_true, beq_iff_eq] at h1
  exact ⟨_, List.getElem?_eq_getElem hl, h1.1, h1.2⟩
/-! THE SMALL MACHINE: its methods and calls, what the tables say of each -/
theorem m_all : mm_msA.all okM = true := by
  unfold mm_msA
  simp only [List.all_append, m_all_0, m_all_1, m_all_2, m_all_3, m_all_4, m_all_5, m_all_6, m_all_7, m_all_8, Bool.and_self]
theorem c_all : mm_cl.all okC = true := by
  unfold mm_cl
  simp only [List.all_append, c_all_0, c_all_1, c_all_2, c_all_3, c_all_4, c_all_5, c_all_6, c_all_7, Bool.and_self]
/-- a method, as the tables have it -/
def mOk (k : Nat) : Prop := Cond.code (mm_m k).2.1 (mm_m k).2.2.1 (mm_m k).2.2.2.1 (mm_m k).2.2.2.2.1 ∈ GW ∧ (mm_m k).2.1.cls = mm_cls (mm_m k).1 ∧ plainName (mm_m k).2.1.cls = true ∧ ((mm_m k).2.1.cls ≠ "java/lang/invoke/MethodHandle" ∧ (mm_m k).2.1.cls ≠ "java/lang/invoke/VarHandle") ∧ (mm_m k).2.2.2.1 ≤ 11 ∧ Cond.initialized (mm_m k).2.1.cls ∈ GW ∧ ((mm_m k).2.1.name = "<init>" → (mm_m k).2.2.2.2.1 = none)
def mStat (k : Nat) : Prop := Cond.static (mm_m k).2.1 ∈ GW ∧ (parseMethodDescriptor (mm_m k).2.1.desc).map (fun d => d.parameters.length) = some (mm_m k).2.2.2.2.2.1
def mInst (k : Nat) : Prop := Cond.instanceMethod (mm_m k).2.1 ∈ GW ∧ (parseMethodDescriptor (mm_m k).2.1.desc).map (fun d => d.parameters.length) = some ((mm_m k).2.2.2.2.2.1 - 1) ∧ 0 < (mm_m k).2.2.2.2.2.1 ∧ ((mm_m k).2.1.name = "<init>" ∨ Cond.selects (mm_m k).2.1.cls (mm_m k).2.1 (mm_m k).2.1 ∈ GW)
theorem m_spec (k : Nat) (h : k < 335) : mOk k ∧ (if (mm_m k).2.2.2.2.2.2.1 = true then mStat k else mInst k) := by
  have hl : k < mm_msA.length := by rw [m_lenA]; exact h
  have hm : mm_msA[k]? = some (mm_m k) := by
    unfold mm_m mm_ms
    rw [List.getD_eq_getElem?_getD, List.getElem?_append_left hl, List.getElem?_eq_getElem hl]
    rfl
  have hin : mm_m k ∈ mm_msA := List.mem_of_getElem? hm
  have h1 := List.all_eq_true.mp m_all _ hin
  unfold mOk mStat mInst
  generalize mm_m k = q at h1
  obtain ⟨o, y, by9, ml, rt, na, st, w1, w2, w3, w4⟩ := q
  simp only [okM, Bool.and_eq_true, decide_eq_true_eq] at h1
  obtain ⟨a1, a2, a3, a4, a5, a6, a7, a8⟩ := h1
  refine ⟨⟨gw_in a1 rfl, a2, a3, a4, a5, gw_in a6 rfl, a7⟩, ?_⟩
  cases st with
  | true =>
    rw [if_pos rfl] at a8 ⊢
    have a8 := of_decide_eq_true a8
    exact ⟨gw_in a8.1 rfl, a8.2⟩
  | false =>
    rw [if_neg Bool.false_ne_true] at a8 ⊢
    have a8 := of_decide_eq_true a8
    exact ⟨gw_in a8.1 rfl, a8.2.1, a8.2.2.1, a8.2.2.2.imp id (fun z => gw_in z rfl)⟩
theorem call_spec {o i kd k : Nat} (h : mm_call o i = some (kd, k)) : ∃ w, okC (o, i, kd, k, w) = true ∧ (o, i, kd, k, w) ∈ mm_cl := by
  unfold mm_call at h
  cases hf : mm_cl.find? (fun q => q.1 == o && q.2.1 == i) with
  | none => rw [hf] at h; cases h
  | some q =>
    rw [hf] at h
    have h1 := List.find?_some hf
    have h2 := List.all_eq_true.mp c_all q (List.mem_of_find?_eq_some hf)
    have h3 := List.mem_of_find?_eq_some hf
    simp only [Bool.and_eq_true, beq_iff_eq] at h1
    obtain ⟨a, b, c, d, e⟩ := q
    obtain ⟨rfl, rfl⟩ := h1
    cases h
    exact ⟨e, h2, h3⟩
