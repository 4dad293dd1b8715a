/-! THE SMALL MACHINE: its tables stand in the claim's -/
def GW : List Cond := lw_tbl.filter goodWord
/-- a word by its place: 1000 times its list's number and its place there -/
def wAt (i : Nat) : Option Cond := match i / 1000 with
  | 0 => (k2_sels lw_privs)[i % 1000]?
  | 1 => tables_1_1[i % 1000]?
  | 2 => tables_1_2[i % 1000]?
  | 3 => tables_1_3[i % 1000]?
  | 4 => tables_1_4[i % 1000]?
  | 5 => tables_1_5[i % 1000]?
  | 6 => tables_1_6[i % 1000]?
  | 7 => tables_1_7[i % 1000]?
  | 8 => tables_1_8[i % 1000]?
  | 9 => tables_1_9[i % 1000]?
  | _ => none
theorem wAt_in {i : Nat} {w : Cond} (h : wAt i = some w) : w ∈ lw_tbl := by
  unfold wAt at h
  have key : w ∈ k2_sels lw_privs ∨ w ∈ tables_1_1 ∨ w ∈ tables_1_2 ∨ w ∈ tables_1_3 ∨ w ∈ tables_1_4 ∨ w ∈ tables_1_5 ∨ w ∈ tables_1_6 ∨ w ∈ tables_1_7 ∨ w ∈ tables_1_8 ∨ w ∈ tables_1_9 := by
    split at h
    · exact Or.inl (List.mem_of_getElem? h)
    · exact Or.inr (Or.inl (List.mem_of_getElem? h))
    · exact Or.inr (Or.inr (Or.inl (List.mem_of_getElem? h)))
    · exact Or.inr (Or.inr (Or.inr (Or.inl (List.mem_of_getElem? h))))
    · exact Or.inr (Or.inr (Or.inr (Or.inr (Or.inl (List.mem_of_getElem? h)))))
    · exact Or.inr (Or.inr (Or.inr (Or.inr (Or.inr (Or.inl (List.mem_of_getElem? h))))))
    · exact Or.inr (Or.inr (Or.inr (Or.inr (Or.inr (Or.inr (Or.inl (List.mem_of_getElem? h)))))))
    · exact Or.inr (Or.inr (Or.inr (Or.inr (Or.inr (Or.inr (Or.inr (Or.inl (List.mem_of_getElem? h))))))))
    · exact Or.inr (Or.inr (Or.inr (Or.inr (Or.inr (Or.inr (Or.inr (Or.inr (Or.inl (List.mem_of_getElem? h)))))))))
    · exact Or.inr (Or.inr (Or.inr (Or.inr (Or.inr (Or.inr (Or.inr (Or.inr (Or.inr (List.mem_of_getElem? h)))))))))
    · cases h
  unfold lw_tbl tables_1
  simp only [List.mem_append]
  exact key
theorem gw_in {i : Nat} {w : Cond} (h : wAt i = some w) (hg : goodWord w = true) : w ∈ GW := List.mem_filter.mpr ⟨wAt_in h, hg⟩
theorem gw_good {w : Cond} (h : w ∈ GW) : w ∈ lw_tbl ∧ ((w.onTables && w.keeps) = true ∨ ∃ ty, w = .arrayClass ty) := ⟨(List.mem_filter.mp h).1, good_of_word (List.mem_filter.mp h).2⟩
/-- what the tables say of a class -/
def clOk (ci : Nat) (r : vw_C) : Prop := r.2.2 = mm_nf ci ∧ r.1 = mm_cls ci ∧ (∀ w ∈ u_ws r.1 r.2.1 r.2.2, w ∈ GW) ∧ (∀ k, k < r.2.2 → parseFieldDescriptor (r.2.1 k).2.2.1 = some (mm_ty ci k)) ∧ (∀ a, a < r.2.2 → ∀ b, b < r.2.2 → a ≠ b → (r.2.1 a).2.1 ≠ (r.2.1 b).2.1) ∧ (∀ k, k < r.2.2 → (r.2.1 k).1 = r.1) ∧ Cond.instantiable r.1 r.2.2 ∈ GW ∧ Cond.initialized r.1 ∈ GW
theorem clOk_0 : clOk 0 (RX0, TX0, 10) := ⟨rfl, rfl, by decide +kernel, tyX0_ok, nmX0, by decide +kernel, by decide +kernel, by decide +kernel⟩
theorem clOk_1 : clOk 1 (RX1, TX1, 6) := ⟨rfl, rfl, by decide +kernel, tyX1_ok, nmX1, by decide +kernel, by decide +kernel, by decide +kernel⟩
theorem clOk_2 : clOk 2 (RX2, TX2, 20) := ⟨rfl, rfl, by decide +kernel, tyX2_ok, nmX2, by decide +kernel, by decide +kernel, by decide +kernel⟩
theorem clOk_3 : clOk 3 (RX3, TX3, 8) := ⟨rfl, rfl, by decide +kernel, tyX3_ok, nmX3, by decide +kernel, by decide +kernel, by decide +kernel⟩
theorem clOk_4 : clOk 4 (RX4, TX4, 4) := ⟨rfl, rfl, by decide +kernel, tyX4_ok, nmX4, by decide +kernel, by decide +kernel, by decide +kernel⟩
theorem clOk_5 : clOk 5 (RX5, TX5, 5) := ⟨rfl, rfl, by decide +kernel, tyX5_ok, nmX5, by decide +kernel, by decide +kernel, by decide +kernel⟩
theorem clOk_6 : clOk 6 (RX6, TX6, 3) := ⟨rfl, rfl, by decide +kernel, tyX6_ok, nmX6, by decide +kernel, by decide +kernel, by decide +kernel⟩
theorem clOk_7 : clOk 7 (RX7, TX7, 8) := ⟨rfl, rfl, by decide +kernel, tyX7_ok, nmX7, by decide +kernel, by decide +kernel, by decide +kernel⟩
theorem clOk_8 : clOk 8 (RX8, TX8, 2) := ⟨rfl, rfl, by decide +kernel, tyX8_ok, nmX8, by decide +kernel, by decide +kernel, by decide +kernel⟩
theorem clOk_9 : clOk 9 (RX9, TX9, 12) := ⟨rfl, rfl, by decide +kernel, tyX9_ok, nmX9, by decide +kernel, by decide +kernel, by decide +kernel⟩
theorem clOk_10 : clOk 10 (RX10, TX10, 47) := ⟨rfl, rfl, by decide +kernel, tyX10_ok, nmX10, by decide +kernel, by decide +kernel, by decide +kernel⟩
theorem cl_facts (ci : Nat) (h : ci < 11) : ∃ r : vw_C, vwCl[ci]? = some r ∧ clOk ci r := match ci, h with
  | 0, _ => ⟨_, rfl, clOk_0⟩
  | 1, _ => ⟨_, rfl, clOk_1⟩
  | 2, _ => ⟨_, rfl, clOk_2⟩
  | 3, _ => ⟨_, rfl, clOk_3⟩
  | 4, _ => ⟨_, rfl, clOk_4⟩
  | 5, _ => ⟨_, rfl, clOk_5⟩
  | 6, _ => ⟨_, rfl, clOk_6⟩
  | 7, _ => ⟨_, rfl, clOk_7⟩
  | 8, _ => ⟨_, rfl, clOk_8⟩
  | 9, _ => ⟨_, rfl, clOk_9⟩
  | 10, _ => ⟨_, rfl, clOk_10⟩
  | n + 11, h => absurd h (by omega)
def okFl (q : Nat × Nat × Nat × Nat × Nat) : Bool := match vwCl[q.2.2.1]? with
  | some r => decide (q.2.2.2.1 < r.2.2) && decide (wAt q.2.2.2.2 = some (.fieldLink (mm_cls q.1) q.2.1 (r.2.1 q.2.2.2.1).1 (r.2.1 q.2.2.2.1).2.1 (r.2.1 q.2.2.2.1).2.2.1))
  | none => false
theorem fl_all : mm_fl.all okFl = true := by decide +kernel
theorem cl_lt {ci : Nat} {r : vw_C} (h : vwCl[ci]? = some r) : ci < 11 := by
  have := (List.getElem?_eq_some_iff.mp h).1
  exact this
def okIc (q : Nat × Nat × Int32 × Nat) : Bool := decide (wAt q.2.2.2 = some (.constant (mm_cls q.1) q.2.1 q.2.2.1))
theorem ic_all : mm_ic.all okIc = true := by decide +kernel
def okLc (q : Nat × Nat × Int64 × Nat) : Bool := decide (wAt q.2.2.2 = some (.constantLong (mm_cls q.1) q.2.1 q.2.2.1))
theorem lc_all : mm_lc.all okLc = true := by decide +kernel
def okSc (q : Nat × Nat × String × Nat) : Bool := decide (wAt q.2.2.2 = some (.stringRef (mm_cls q.1) q.2.1 q.2.2.1))
theorem sc_all9 : mm_sc.all okSc = true := by decide +kernel
def okNw (q : Nat × Nat × Nat × Nat) : Bool := if q.2.2.1 < 11 then decide (wAt q.2.2.2 = some (.classLink (mm_cls q.1) q.2.1 (mm_cls q.2.2.1))) else decide (q.2.2.1 = 26 ∧ wAt q.2.2.2 = some (.classLink (mm_cls q.1) q.2.1 "[[I"))
theorem nw_all : mm_nw.all okNw = true := by decide +kernel
