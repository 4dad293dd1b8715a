/-! The program's methods as functions of ints and longs, each with its certificate (wip/whole/gen_emit.py writes this) -/
/- Course sail: 5 -/
def gC_sail_h2 (v0 : Nat) (v1 : Int32) (q : Int32 × mT) : Option ((Int32 × mT) ⊕ (mT)) :=
  if (q.2.1 16 5) ≤ q.1 then
    some (.inr q.2)
  else
    if ¬ ((0 : Int32) < 0 ∨ 21 ≤ (0 : Int32).toNatClampNeg) then
      (rdI (q.2.1 (v0 + 1)) 5 q.1).bind fun x7 =>
      (wrI q.2 (v0 + 28 + (0 : Int32).toNatClampNeg) 5 q.1 (imin x7 (q.2.1 16 2))).bind fun s11 =>
      some (.inl (q.1 + (1 : Int32), s11))
    else none
set_option maxRecDepth 8000 in
theorem gC_sail_h2_ok {L d : Nat} (hd : 4 ≤ d + 1) {v0 : Nat} {v1 : Int32} (i0 : isCo v0) : ∀ (q : Int32 × mT) (x : (Int32 × mT) ⊕ (mT)), gC_sail_h2 v0 v1 q = some x → ∀ o, sK (fun q => Ev (d + 1) 5 2 [(0, .ref v0), (1, .int v1), (2, .int q.1)] [] (uS L q.2) o) (fun r => Ev (d + 1) 5 43 [(0, .ref v0), (1, .int v1)] [] (uS L r) o) x → Ev (d + 1) 5 2 [(0, .ref v0), (1, .int v1), (2, .int q.1)] [] (uS L q.2) o := by
  intro q x h o ho
  unfold gC_sail_h2 at h
  refine Ev.seg D_5 [(.iload_n 2, 1), (.aload_n 0, 1)] (by decide +kernel) (j := 0) (pc' := 4) (lv' := [(0, .ref v0), (1, .int v1), (2, .int q.1)]) (st' := [.ref v0, .int q.1]) rfl ?_
  refine Ev.getR D_5 (by decide +kernel) F_0_42 T_0_0 (x := 16) (S_oR (co_o i0) (co_r i0 0 16 (by decide +kernel))) ?_
  refine Ev.getI D_5 (by decide +kernel) F_0_113 (Or.inl T_2_5) (S_oI k_16) ?_
  refine Ev.icmp D_5 (c := .ge) (off := 33) (by decide +kernel) (t := 43) rfl (fun c3 => ?_) (fun c3 => ?_)
  · have c3 : (q.2.1 16 5) ≤ q.1 := of_decide_eq_true c3
    rw [if_pos c3] at h
    cases h
    exact Ev.sub (lv' := [(0, .ref v0), (1, .int v1)]) (subL_cons rfl (subL_cons rfl subL_nil)) ho
  · have c3 : ¬ (q.2.1 16 5) ≤ q.1 := of_decide_eq_false c3
    rw [if_neg c3] at h
    refine Ev.seg D_5 [(.aload_n 0, 1)] (by decide +kernel) (j := 0) (pc' := 14) (lv' := [(0, .ref v0), (1, .int v1), (2, .int q.1)]) (st' := [.ref v0]) rfl ?_
    refine Ev.getR D_5 (by decide +kernel) F_0_33 T_0_7 (x := (v0 + 27)) (S_oR (co_o i0) (co_r2 i0 7 27 (by decide +kernel))) ?_
    refine Ev.seg D_5 [(.iconst 0, 1)] (by decide +kernel) (j := 0) (pc' := 18) (lv' := [(0, .ref v0), (1, .int v1), (2, .int q.1)]) (st' := [.int (0 : Int32), .ref (v0 + 27)]) rfl ?_
    by_cases b18 : ¬ ((0 : Int32) < 0 ∨ 21 ≤ (0 : Int32).toNatClampNeg)
    rotate_left
    · rw [if_neg b18] at h; cases h
    rw [if_pos b18] at h
    refine Ev.aald D_5 (by decide +kernel) (kd := 26) ⟨by decide, by decide⟩ (x := (v0 + 28 + (0 : Int32).toNatClampNeg)) (S_aR (co_k i0 27 _ (by decide +kernel)) b18 (co_aa i0 27 21 (by decide +kernel) b18)) ?_
    refine Ev.seg D_5 [(.iload_n 2, 1), (.aload_n 0, 1)] (by decide +kernel) (j := 0) (pc' := 21) (lv' := [(0, .ref v0), (1, .int v1), (2, .int q.1)]) (st' := [.ref v0, .int q.1, .ref (v0 + 28 + (0 : Int32).toNatClampNeg)]) rfl ?_
    refine Ev.getR D_5 (by decide +kernel) F_0_15 T_0_2 (x := (v0 + 1)) (S_oR (co_o i0) (co_r2 i0 2 1 (by decide +kernel))) ?_
    refine Ev.seg D_5 [(.iload_n 2, 1)] (by decide +kernel) (j := 0) (pc' := 25) (lv' := [(0, .ref v0), (1, .int v1), (2, .int q.1)]) (st' := [.int q.1, .ref (v0 + 1), .int q.1, .ref (v0 + 28 + (0 : Int32).toNatClampNeg)]) rfl ?_
    obtain ⟨x7, e7, h⟩ := bd h
    refine Ev.iald D_5 (by decide +kernel) (S_aI (co_k i0 1 _ (by decide +kernel)) e7) ?_
    refine Ev.seg D_5 [(.aload_n 0, 1)] (by decide +kernel) (j := 0) (pc' := 27) (lv' := [(0, .ref v0), (1, .int v1), (2, .int q.1)]) (st' := [.ref v0, .int x7, .int q.1, .ref (v0 + 28 + (0 : Int32).toNatClampNeg)]) rfl ?_
    refine Ev.getR D_5 (by decide +kernel) F_0_42 T_0_0 (x := 16) (S_oR (co_o i0) (co_r i0 0 16 (by decide +kernel))) ?_
    refine Ev.getI D_5 (by decide +kernel) F_0_116 (Or.inl T_2_2) (S_oI k_16) ?_
    refine Ev.min D_5 (by decide +kernel) (Nat.succ_pos _) C_0_119 (Nat.le_of_ble_eq_true rfl) ?_
    obtain ⟨s11, e11, h⟩ := bd h
    refine Ev.iast D_5 (by decide +kernel) (S_sI (co_row i0 28 21 (by decide +kernel) b18) e11) ?_
    refine Ev.seg D_5 [(.iinc 2 1, 3), (.goto (-38), 3)] (by decide +kernel) (j := 0) (pc' := 2) (lv' := [(2, .int (q.1 + (1 : Int32))), (0, .ref v0), (1, .int v1)]) (st' := []) rfl ?_
    cases h
    exact Ev.sub (lv' := [(0, .ref v0), (1, .int v1), (2, .int (q.1 + (1 : Int32)))]) (subL_cons rfl (subL_cons rfl (subL_cons rfl subL_nil))) ho
theorem gC_sail_h2_w {L d : Nat} (hd : 4 ≤ d + 1) {v0 : Nat} {v1 : Int32} (i0 : isCo v0) : ∀ (n : Nat) (q : Int32 × mT) (r : mT), wh n (gC_sail_h2 v0 v1) q = some r → ∀ o, (fun r => Ev (d + 1) 5 43 [(0, .ref v0), (1, .int v1)] [] (uS L r) o) r → Ev (d + 1) 5 2 [(0, .ref v0), (1, .int v1), (2, .int q.1)] [] (uS L q.2) o :=
  fun n q r h o hc => wh_ev (E := fun (q : Int32 × mT) o => Ev (d + 1) 5 2 [(0, .ref v0), (1, .int v1), (2, .int q.1)] [] (uS L q.2) o) (C := fun (r : mT) o => (fun r => Ev (d + 1) 5 43 [(0, .ref v0), (1, .int v1)] [] (uS L r) o) r) (gC_sail_h2_ok hd i0 ) n q r h o hc
def gC_sail_h45 (v0 : Nat) (v1 : Int32) (q : Int32 × mT) : Option ((Int32 × mT) ⊕ (mT)) :=
  if (q.2.1 16 6) ≤ q.1 then
    some (.inr q.2)
  else
    if ¬ ((0 : Int32) < 0 ∨ 21 ≤ (0 : Int32).toNatClampNeg) then
      (rdI (q.2.1 (v0 + 5 + (0 : Int32).toNatClampNeg)) 5 q.1).bind fun x6 =>
      if ¬ ((0 : Int32) < 0 ∨ 21 ≤ (0 : Int32).toNatClampNeg) then
        (
          if x6 = (-1 : Int32) then
            (rdI (q.2.1 (v0 + 3)) 5 q.1).bind fun x11 =>
            some (x11)
          else
            some (x6) : Option (Int32)).bind fun x9 =>
        (wrI q.2 (v0 + 50 + (0 : Int32).toNatClampNeg) 5 q.1 x9).bind fun s12 =>
        some (.inl (q.1 + (1 : Int32), s12))
      else none
    else none
set_option maxRecDepth 8000 in
theorem gC_sail_h45_ok {L d : Nat} (hd : 4 ≤ d + 1) {v0 : Nat} {v1 : Int32} (i0 : isCo v0) : ∀ (q : Int32 × mT) (x : (Int32 × mT) ⊕ (mT)), gC_sail_h45 v0 v1 q = some x → ∀ o, sK (fun q => Ev (d + 1) 5 45 [(0, .ref v0), (1, .int v1), (2, .int q.1)] [] (uS L q.2) o) (fun r => Ev (d + 1) 5 94 [(0, .ref v0), (1, .int v1)] [] (uS L r) o) x → Ev (d + 1) 5 45 [(0, .ref v0), (1, .int v1), (2, .int q.1)] [] (uS L q.2) o := by
  intro q x h o ho
  unfold gC_sail_h45 at h
  refine Ev.seg D_5 [(.iload_n 2, 1), (.aload_n 0, 1)] (by decide +kernel) (j := 0) (pc' := 47) (lv' := [(0, .ref v0), (1, .int v1), (2, .int q.1)]) (st' := [.ref v0, .int q.1]) rfl ?_
  refine Ev.getR D_5 (by decide +kernel) F_0_42 T_0_0 (x := 16) (S_oR (co_o i0) (co_r i0 0 16 (by decide +kernel))) ?_
  refine Ev.getI D_5 (by decide +kernel) F_0_67 (Or.inl T_2_6) (S_oI k_16) ?_
  refine Ev.icmp D_5 (c := .ge) (off := 41) (by decide +kernel) (t := 94) rfl (fun c3 => ?_) (fun c3 => ?_)
  · have c3 : (q.2.1 16 6) ≤ q.1 := of_decide_eq_true c3
    rw [if_pos c3] at h
    cases h
    exact Ev.sub (lv' := [(0, .ref v0), (1, .int v1)]) (subL_cons rfl (subL_cons rfl subL_nil)) ho
  · have c3 : ¬ (q.2.1 16 6) ≤ q.1 := of_decide_eq_false c3
    rw [if_neg c3] at h
    refine Ev.seg D_5 [(.aload_n 0, 1)] (by decide +kernel) (j := 0) (pc' := 57) (lv' := [(0, .ref v0), (1, .int v1), (2, .int q.1)]) (st' := [.ref v0]) rfl ?_
    refine Ev.getR D_5 (by decide +kernel) F_0_27 T_0_5 (x := (v0 + 4)) (S_oR (co_o i0) (co_r2 i0 5 4 (by decide +kernel))) ?_
    refine Ev.seg D_5 [(.iconst 0, 1)] (by decide +kernel) (j := 0) (pc' := 61) (lv' := [(0, .ref v0), (1, .int v1), (2, .int q.1)]) (st' := [.int (0 : Int32), .ref (v0 + 4)]) rfl ?_
    by_cases b61 : ¬ ((0 : Int32) < 0 ∨ 21 ≤ (0 : Int32).toNatClampNeg)
    rotate_left
    · rw [if_neg b61] at h; cases h
    rw [if_pos b61] at h
    refine Ev.aald D_5 (by decide +kernel) (kd := 26) ⟨by decide, by decide⟩ (x := (v0 + 5 + (0 : Int32).toNatClampNeg)) (S_aR (co_k i0 4 _ (by decide +kernel)) b61 (co_aa i0 4 21 (by decide +kernel) b61)) ?_
    refine Ev.seg D_5 [(.iload_n 2, 1)] (by decide +kernel) (j := 0) (pc' := 63) (lv' := [(0, .ref v0), (1, .int v1), (2, .int q.1)]) (st' := [.int q.1, .ref (v0 + 5 + (0 : Int32).toNatClampNeg)]) rfl ?_
    obtain ⟨x6, e6, h⟩ := bd h
    refine Ev.iald D_5 (by decide +kernel) (S_aI (co_row i0 5 21 (by decide +kernel) b61) e6) ?_
    refine Ev.seg D_5 [(.istore_n 3, 1), (.aload_n 0, 1)] (by decide +kernel) (j := 0) (pc' := 66) (lv' := [(3, .int x6), (0, .ref v0), (1, .int v1), (2, .int q.1)]) (st' := [.ref v0]) rfl ?_
    refine Ev.getR D_5 (by decide +kernel) F_0_36 T_0_8 (x := (v0 + 49)) (S_oR (co_o i0) (co_r2 i0 8 49 (by decide +kernel))) ?_
    refine Ev.seg D_5 [(.iconst 0, 1)] (by decide +kernel) (j := 0) (pc' := 70) (lv' := [(3, .int x6), (0, .ref v0), (1, .int v1), (2, .int q.1)]) (st' := [.int (0 : Int32), .ref (v0 + 49)]) rfl ?_
    by_cases b70 : ¬ ((0 : Int32) < 0 ∨ 21 ≤ (0 : Int32).toNatClampNeg)
    rotate_left
    · rw [if_neg b70] at h; cases h
    rw [if_pos b70] at h
    refine Ev.aald D_5 (by decide +kernel) (kd := 26) ⟨by decide, by decide⟩ (x := (v0 + 50 + (0 : Int32).toNatClampNeg)) (S_aR (co_k i0 49 _ (by decide +kernel)) b70 (co_aa i0 49 21 (by decide +kernel) b70)) ?_
    refine Ev.seg D_5 [(.iload_n 2, 1), (.iload_n 3, 1), (.iconst (-1), 1)] (by decide +kernel) (j := 0) (pc' := 74) (lv' := [(3, .int x6), (0, .ref v0), (1, .int v1), (2, .int q.1)]) (st' := [.int (-1 : Int32), .int x6, .int q.1, .ref (v0 + 50 + (0 : Int32).toNatClampNeg)]) rfl ?_
    obtain ⟨x9, g9, h⟩ := bd h
    have j9 : Ev (d + 1) 5 87 [(0, .ref v0), (1, .int v1), (2, .int q.1)] [.int x9, .int q.1, .ref (v0 + 50 + (0 : Int32).toNatClampNeg)] (uS L q.2) o := by
      clear g9
      obtain ⟨s12, e12, h⟩ := bd h
      refine Ev.iast D_5 (by decide +kernel) (S_sI (co_row i0 50 21 (by decide +kernel) b70) e12) ?_
      refine Ev.seg D_5 [(.iinc 2 1, 3), (.goto (-46), 3)] (by decide +kernel) (j := 0) (pc' := 45) (lv' := [(2, .int (q.1 + (1 : Int32))), (0, .ref v0), (1, .int v1)]) (st' := []) rfl ?_
      cases h
      exact Ev.sub (lv' := [(0, .ref v0), (1, .int v1), (2, .int (q.1 + (1 : Int32)))]) (subL_cons rfl (subL_cons rfl (subL_cons rfl subL_nil))) ho
    clear h
    refine Ev.icmp D_5 (c := .ne) (off := 12) (by decide +kernel) (t := 86) rfl (fun c9 => ?_) (fun c9 => ?_)
    · have c9 : ¬ x6 = (-1 : Int32) := of_decide_eq_true c9
      rw [if_neg c9] at g9
      refine Ev.seg D_5 [(.iload_n 3, 1)] (by decide +kernel) (j := 0) (pc' := 87) (lv' := [(3, .int x6), (0, .ref v0), (1, .int v1), (2, .int q.1)]) (st' := [.int x6, .int q.1, .ref (v0 + 50 + (0 : Int32).toNatClampNeg)]) rfl ?_
      cases g9
      exact Ev.sub2 j9 (subL_cons rfl (subL_cons rfl (subL_cons rfl subL_nil)))
    · have c9 : x6 = (-1 : Int32) := Decidable.of_not_not (of_decide_eq_false c9)
      rw [if_pos c9] at g9
      refine Ev.seg D_5 [(.aload_n 0, 1)] (by decide +kernel) (j := 0) (pc' := 78) (lv' := [(3, .int x6), (0, .ref v0), (1, .int v1), (2, .int q.1)]) (st' := [.ref v0, .int q.1, .ref (v0 + 50 + (0 : Int32).toNatClampNeg)]) rfl ?_
      refine Ev.getR D_5 (by decide +kernel) F_0_22 T_0_4 (x := (v0 + 3)) (S_oR (co_o i0) (co_r2 i0 4 3 (by decide +kernel))) ?_
      refine Ev.seg D_5 [(.iload_n 2, 1)] (by decide +kernel) (j := 0) (pc' := 82) (lv' := [(3, .int x6), (0, .ref v0), (1, .int v1), (2, .int q.1)]) (st' := [.int q.1, .ref (v0 + 3), .int q.1, .ref (v0 + 50 + (0 : Int32).toNatClampNeg)]) rfl ?_
      obtain ⟨x11, e11, g9⟩ := bd g9
      refine Ev.iald D_5 (by decide +kernel) (S_aI (co_k i0 3 _ (by decide +kernel)) e11) ?_
      refine Ev.seg D_5 [(.goto 4, 3)] (by decide +kernel) (j := 0) (pc' := 87) (lv' := [(3, .int x6), (0, .ref v0), (1, .int v1), (2, .int q.1)]) (st' := [.int x11, .int q.1, .ref (v0 + 50 + (0 : Int32).toNatClampNeg)]) rfl ?_
      cases g9
      exact Ev.sub2 j9 (subL_cons rfl (subL_cons rfl (subL_cons rfl subL_nil)))
theorem gC_sail_h45_w {L d : Nat} (hd : 4 ≤ d + 1) {v0 : Nat} {v1 : Int32} (i0 : isCo v0) : ∀ (n : Nat) (q : Int32 × mT) (r : mT), wh n (gC_sail_h45 v0 v1) q = some r → ∀ o, (fun r => Ev (d + 1) 5 94 [(0, .ref v0), (1, .int v1)] [] (uS L r) o) r → Ev (d + 1) 5 45 [(0, .ref v0), (1, .int v1), (2, .int q.1)] [] (uS L q.2) o :=
  fun n q r h o hc => wh_ev (E := fun (q : Int32 × mT) o => Ev (d + 1) 5 45 [(0, .ref v0), (1, .int v1), (2, .int q.1)] [] (uS L q.2) o) (C := fun (r : mT) o => (fun r => Ev (d + 1) 5 94 [(0, .ref v0), (1, .int v1)] [] (uS L r) o) r) (gC_sail_h45_ok hd i0 ) n q r h o hc
def gC_sail_h96 (v0 : Nat) (v1 : Int32) (q : Int32 × mT) : Option ((Int32 × mT) ⊕ (mT)) :=
  if v1 ≤ q.1 then
    some (.inr q.2)
  else
    (gC_countEyes v0 q.1 q.2).bind fun p2 =>
    (gC_go v0 q.1 p2).bind fun p3 =>
    (gC_turn v0 (q.1 + (1 : Int32)) p3).bind fun p4 =>
    some (.inl (q.1 + (1 : Int32), p4))
set_option maxRecDepth 8000 in
theorem gC_sail_h96_ok {L d : Nat} (hd : 4 ≤ d + 1) {v0 : Nat} {v1 : Int32} (i0 : isCo v0) : ∀ (q : Int32 × mT) (x : (Int32 × mT) ⊕ (mT)), gC_sail_h96 v0 v1 q = some x → ∀ o, sK (fun q => Ev (d + 1) 5 96 [(0, .ref v0), (1, .int v1), (2, .int q.1)] [] (uS L q.2) o) (fun r => Ev (d + 1) 5 124 [] [] (uS L r) o) x → Ev (d + 1) 5 96 [(0, .ref v0), (1, .int v1), (2, .int q.1)] [] (uS L q.2) o := by
  intro q x h o ho
  unfold gC_sail_h96 at h
  refine Ev.seg D_5 [(.iload_n 2, 1), (.iload_n 1, 1)] (by decide +kernel) (j := 0) (pc' := 98) (lv' := [(0, .ref v0), (1, .int v1), (2, .int q.1)]) (st' := [.int v1, .int q.1]) rfl ?_
  refine Ev.icmp D_5 (c := .ge) (off := 26) (by decide +kernel) (t := 124) rfl (fun c1 => ?_) (fun c1 => ?_)
  · have c1 : v1 ≤ q.1 := of_decide_eq_true c1
    rw [if_pos c1] at h
    cases h
    exact Ev.sub (lv' := []) subL_nil ho
  · have c1 : ¬ v1 ≤ q.1 := of_decide_eq_false c1
    rw [if_neg c1] at h
    refine Ev.seg D_5 [(.aload_n 0, 1), (.iload_n 2, 1)] (by decide +kernel) (j := 0) (pc' := 103) (lv' := [(0, .ref v0), (1, .int v1), (2, .int q.1)]) (st' := [.int q.1, .ref v0]) rfl ?_
    obtain ⟨p2, e2, h⟩ := bd h
    refine Ev.callv D_5 E_6 (by decide +kernel) C_0_125 v0 [.int q.1] (r := []) rfl (gd_o (co_o i0) (by decide)) rfl (Nat.le_of_ble_eq_true rfl) (Nat.le_of_ble_eq_true rfl) (gC_countEyes_ok (by omega) i0 e2) ?_
    refine Ev.seg D_5 [(.aload_n 0, 1), (.iload_n 2, 1)] (by decide +kernel) (j := 0) (pc' := 108) (lv' := [(0, .ref v0), (1, .int v1), (2, .int q.1)]) (st' := [.int q.1, .ref v0]) rfl ?_
    obtain ⟨p3, e3, h⟩ := bd h
    refine Ev.callv D_5 E_7 (by decide +kernel) C_0_128 v0 [.int q.1] (r := []) rfl (gd_o (co_o i0) (by decide)) rfl (Nat.le_of_ble_eq_true rfl) (Nat.le_of_ble_eq_true rfl) (gC_go_ok (by omega) i0 e3) ?_
    refine Ev.seg D_5 [(.aload_n 0, 1), (.iload_n 2, 1), (.iconst 1, 1), (.iadd, 1)] (by decide +kernel) (j := 0) (pc' := 115) (lv' := [(0, .ref v0), (1, .int v1), (2, .int q.1)]) (st' := [.int (q.1 + (1 : Int32)), .ref v0]) rfl ?_
    obtain ⟨p4, e4, h⟩ := bd h
    refine Ev.callv D_5 E_9 (by decide +kernel) C_0_131 v0 [.int (q.1 + (1 : Int32))] (r := []) rfl (gd_o (co_o i0) (by decide)) rfl (Nat.le_of_ble_eq_true rfl) (Nat.le_of_ble_eq_true rfl) (gC_turn_ok (by omega) i0 e4) ?_
    refine Ev.seg D_5 [(.iinc 2 1, 3), (.goto (-25), 3)] (by decide +kernel) (j := 0) (pc' := 96) (lv' := [(2, .int (q.1 + (1 : Int32))), (0, .ref v0), (1, .int v1)]) (st' := []) rfl ?_
    cases h
    exact Ev.sub (lv' := [(0, .ref v0), (1, .int v1), (2, .int (q.1 + (1 : Int32)))]) (subL_cons rfl (subL_cons rfl (subL_cons rfl subL_nil))) ho
theorem gC_sail_h96_w {L d : Nat} (hd : 4 ≤ d + 1) {v0 : Nat} {v1 : Int32} (i0 : isCo v0) : ∀ (n : Nat) (q : Int32 × mT) (r : mT), wh n (gC_sail_h96 v0 v1) q = some r → ∀ o, (fun r => Ev (d + 1) 5 124 [] [] (uS L r) o) r → Ev (d + 1) 5 96 [(0, .ref v0), (1, .int v1), (2, .int q.1)] [] (uS L q.2) o :=
  fun n q r h o hc => wh_ev (E := fun (q : Int32 × mT) o => Ev (d + 1) 5 96 [(0, .ref v0), (1, .int v1), (2, .int q.1)] [] (uS L q.2) o) (C := fun (r : mT) o => (fun r => Ev (d + 1) 5 124 [] [] (uS L r) o) r) (gC_sail_h96_ok hd i0 ) n q r h o hc
def gC_sail (v0 : Nat) (v1 : Int32) (s : mT) : Option (mT) :=
  (wh FU (gC_sail_h2 v0 v1) ((0 : Int32), s)).bind fun x12 =>
  (wh FU (gC_sail_h45 v0 v1) ((0 : Int32), x12)).bind fun x13 =>
  (wh FU (gC_sail_h96 v0 v1) ((0 : Int32), x13)).bind fun x14 =>
  some (x14)
set_option maxRecDepth 8000 in
theorem gC_sail_ok {L d : Nat} (hd : 4 ≤ d) {v0 : Nat} {v1 : Int32} {s : mT} (i0 : isCo v0) {p : mT} (h : gC_sail v0 v1 s = some p) : Ev d 5 0 [(0, .ref v0), (1, .int v1)] [] (uS L s) (none, uS L p) := by
  obtain ⟨d, rfl⟩ : ∃ e, d = e + 1 := ⟨d - 1, by omega⟩
  obtain ⟨o, ho⟩ : ∃ o : Option Value × mS, o = (none, uS L p) := ⟨_, rfl⟩
  rw [← ho]
  unfold gC_sail at h
  refine Ev.seg D_5 [(.iconst 0, 1), (.istore_n 2, 1)] (by decide +kernel) (j := 0) (pc' := 2) (lv' := [(2, .int (0 : Int32)), (0, .ref v0), (1, .int v1)]) (st' := []) rfl ?_
  obtain ⟨x12, w12, h⟩ := bd h
  have j12 : Ev (d + 1) 5 43 [(0, .ref v0), (1, .int v1)] [] (uS L x12) o := by
    clear w12
    refine Ev.seg D_5 [(.iconst 0, 1), (.istore_n 2, 1)] (by decide +kernel) (j := 0) (pc' := 45) (lv' := [(2, .int (0 : Int32)), (0, .ref v0), (1, .int v1)]) (st' := []) rfl ?_
    obtain ⟨x13, w13, h⟩ := bd h
    have j13 : Ev (d + 1) 5 94 [(0, .ref v0), (1, .int v1)] [] (uS L x13) o := by
      clear w13
      refine Ev.seg D_5 [(.iconst 0, 1), (.istore_n 2, 1)] (by decide +kernel) (j := 0) (pc' := 96) (lv' := [(2, .int (0 : Int32)), (0, .ref v0), (1, .int v1)]) (st' := []) rfl ?_
      obtain ⟨x14, w14, h⟩ := bd h
      have j14 : Ev (d + 1) 5 124 [] [] (uS L x14) o := by
        clear w14
        cases h
        obtain rfl : o = _ := ho
        exact Ev.vret D_5 (by decide +kernel)
      exact Ev.sub (lv' := [(0, .ref v0), (1, .int v1), (2, .int (0 : Int32))]) (subL_cons rfl (subL_cons rfl (subL_cons rfl subL_nil))) (gC_sail_h96_w hd i0  _ _ _ w14 _ j14)
    exact Ev.sub (lv' := [(0, .ref v0), (1, .int v1), (2, .int (0 : Int32))]) (subL_cons rfl (subL_cons rfl (subL_cons rfl subL_nil))) (gC_sail_h45_w hd i0  _ _ _ w13 _ j13)
  exact Ev.sub (lv' := [(0, .ref v0), (1, .int v1), (2, .int (0 : Int32))]) (subL_cons rfl (subL_cons rfl (subL_cons rfl subL_nil))) (gC_sail_h2_w hd i0  _ _ _ w12 _ j12)
/- Course lookersAt: 13 -/
def gC_lookersAt_h5 (v0 : Nat) (v1 : Int32) (v2 : Int32) (s : mT) (q : Int32 × Int32) : Option ((Int32 × Int32) ⊕ (Int32)) :=
  if (s.1 16 6) ≤ q.2 then
    some (.inr q.1)
  else
    if ¬ (v2 < 0 ∨ 21 ≤ v2.toNatClampNeg) then
      (rdI (s.1 (v0 + 50 + v2.toNatClampNeg)) 5 q.2).bind fun x6 =>
      (
        if x6 = v1 then
          some (q.1 ||| ((1 : Int32) <<< (q.2 &&& 31)))
        else
          some (q.1) : Option (Int32)).bind fun x7 =>
      some (.inl (x7, q.2 + (1 : Int32)))
    else none
set_option maxRecDepth 8000 in
theorem gC_lookersAt_h5_ok {L d : Nat} (hd : 1 ≤ d + 1) {v0 : Nat} {v1 : Int32} {v2 : Int32} {s : mT} (i0 : isCo v0) : ∀ (q : Int32 × Int32) (x : (Int32 × Int32) ⊕ (Int32)), gC_lookersAt_h5 v0 v1 v2 s q = some x → ∀ o, sK (fun q => Ev (d + 1) 13 5 [(0, .ref v0), (1, .int v1), (2, .int v2), (3, .int q.1), (4, .int q.2)] [] (uS L s) o) (fun r => Ev (d + 1) 13 43 [(3, .int r)] [] (uS L s) o) x → Ev (d + 1) 13 5 [(0, .ref v0), (1, .int v1), (2, .int v2), (3, .int q.1), (4, .int q.2)] [] (uS L s) o := by
  intro q x h o ho
  unfold gC_lookersAt_h5 at h
  refine Ev.seg D_13 [(.iload 4, 2), (.aload_n 0, 1)] (by decide +kernel) (j := 0) (pc' := 8) (lv' := [(0, .ref v0), (1, .int v1), (2, .int v2), (3, .int q.1), (4, .int q.2)]) (st' := [.ref v0, .int q.2]) rfl ?_
  refine Ev.getR D_13 (by decide +kernel) F_0_42 T_0_0 (x := 16) (S_oR (co_o i0) (co_r i0 0 16 (by decide +kernel))) ?_
  refine Ev.getI D_13 (by decide +kernel) F_0_67 (Or.inl T_2_6) (S_oI k_16) ?_
  refine Ev.icmp D_13 (c := .ge) (off := 29) (by decide +kernel) (t := 43) rfl (fun c3 => ?_) (fun c3 => ?_)
  · have c3 : (s.1 16 6) ≤ q.2 := of_decide_eq_true c3
    rw [if_pos c3] at h
    cases h
    exact Ev.sub (lv' := [(3, .int q.1)]) (subL_cons rfl subL_nil) ho
  · have c3 : ¬ (s.1 16 6) ≤ q.2 := of_decide_eq_false c3
    rw [if_neg c3] at h
    refine Ev.seg D_13 [(.aload_n 0, 1)] (by decide +kernel) (j := 0) (pc' := 18) (lv' := [(0, .ref v0), (1, .int v1), (2, .int v2), (3, .int q.1), (4, .int q.2)]) (st' := [.ref v0]) rfl ?_
    refine Ev.getR D_13 (by decide +kernel) F_0_36 T_0_8 (x := (v0 + 49)) (S_oR (co_o i0) (co_r2 i0 8 49 (by decide +kernel))) ?_
    refine Ev.seg D_13 [(.iload_n 2, 1)] (by decide +kernel) (j := 0) (pc' := 22) (lv' := [(0, .ref v0), (1, .int v1), (2, .int v2), (3, .int q.1), (4, .int q.2)]) (st' := [.int v2, .ref (v0 + 49)]) rfl ?_
    by_cases b22 : ¬ (v2 < 0 ∨ 21 ≤ v2.toNatClampNeg)
    rotate_left
    · rw [if_neg b22] at h; cases h
    rw [if_pos b22] at h
    refine Ev.aald D_13 (by decide +kernel) (kd := 26) ⟨by decide, by decide⟩ (x := (v0 + 50 + v2.toNatClampNeg)) (S_aR (co_k i0 49 _ (by decide +kernel)) b22 (co_aa i0 49 21 (by decide +kernel) b22)) ?_
    refine Ev.seg D_13 [(.iload 4, 2)] (by decide +kernel) (j := 0) (pc' := 25) (lv' := [(0, .ref v0), (1, .int v1), (2, .int v2), (3, .int q.1), (4, .int q.2)]) (st' := [.int q.2, .ref (v0 + 50 + v2.toNatClampNeg)]) rfl ?_
    obtain ⟨x6, e6, h⟩ := bd h
    refine Ev.iald D_13 (by decide +kernel) (S_aI (co_row i0 50 21 (by decide +kernel) b22) e6) ?_
    refine Ev.seg D_13 [(.iload_n 1, 1)] (by decide +kernel) (j := 0) (pc' := 27) (lv' := [(0, .ref v0), (1, .int v1), (2, .int v2), (3, .int q.1), (4, .int q.2)]) (st' := [.int v1, .int x6]) rfl ?_
    obtain ⟨x7, g7, h⟩ := bd h
    have j7 : Ev (d + 1) 13 37 [(0, .ref v0), (1, .int v1), (2, .int v2), (3, .int x7), (4, .int q.2)] [] (uS L s) o := by
      clear g7
      refine Ev.seg D_13 [(.iinc 4 1, 3), (.goto (-35), 3)] (by decide +kernel) (j := 0) (pc' := 5) (lv' := [(4, .int (q.2 + (1 : Int32))), (0, .ref v0), (1, .int v1), (2, .int v2), (3, .int x7)]) (st' := []) rfl ?_
      cases h
      exact Ev.sub (lv' := [(0, .ref v0), (1, .int v1), (2, .int v2), (3, .int (x7)), (4, .int (q.2 + (1 : Int32)))]) (subL_cons rfl (subL_cons rfl (subL_cons rfl (subL_cons rfl (subL_cons rfl subL_nil))))) ho
    clear h
    refine Ev.icmp D_13 (c := .ne) (off := 10) (by decide +kernel) (t := 37) rfl (fun c7 => ?_) (fun c7 => ?_)
    · have c7 : ¬ x6 = v1 := of_decide_eq_true c7
      rw [if_neg c7] at g7
      cases g7
      exact Ev.sub2 j7 (subL_cons rfl (subL_cons rfl (subL_cons rfl (subL_cons rfl (subL_cons rfl subL_nil)))))
    · have c7 : x6 = v1 := Decidable.of_not_not (of_decide_eq_false c7)
      rw [if_pos c7] at g7
      refine Ev.seg D_13 [(.iload_n 3, 1), (.iconst 1, 1), (.iload 4, 2), (.ishl, 1), (.ior, 1), (.istore_n 3, 1)] (by decide +kernel) (j := 0) (pc' := 37) (lv' := [(3, .int (q.1 ||| ((1 : Int32) <<< (q.2 &&& 31)))), (0, .ref v0), (1, .int v1), (2, .int v2), (4, .int q.2)]) (st' := []) rfl ?_
      cases g7
      exact Ev.sub2 j7 (subL_cons rfl (subL_cons rfl (subL_cons rfl (subL_cons rfl (subL_cons rfl subL_nil)))))
theorem gC_lookersAt_h5_w {L d : Nat} (hd : 1 ≤ d + 1) {v0 : Nat} {v1 : Int32} {v2 : Int32} {s : mT} (i0 : isCo v0) : ∀ (n : Nat) (q : Int32 × Int32) (r : Int32), wh n (gC_lookersAt_h5 v0 v1 v2 s) q = some r → ∀ o, (fun r => Ev (d + 1) 13 43 [(3, .int r)] [] (uS L s) o) r → Ev (d + 1) 13 5 [(0, .ref v0), (1, .int v1), (2, .int v2), (3, .int q.1), (4, .int q.2)] [] (uS L s) o :=
  fun n q r h o hc => wh_ev (E := fun (q : Int32 × Int32) o => Ev (d + 1) 13 5 [(0, .ref v0), (1, .int v1), (2, .int v2), (3, .int q.1), (4, .int q.2)] [] (uS L s) o) (C := fun (r : Int32) o => (fun r => Ev (d + 1) 13 43 [(3, .int r)] [] (uS L s) o) r) (gC_lookersAt_h5_ok hd i0 ) n q r h o hc
def gC_lookersAt (v0 : Nat) (v1 : Int32) (v2 : Int32) (s : mT) : Option (Int32) :=
  (wh FU (gC_lookersAt_h5 v0 v1 v2 s) ((0 : Int32), (0 : Int32))).bind fun x8 =>
  some (x8)
set_option maxRecDepth 8000 in
theorem gC_lookersAt_ok {L d : Nat} (hd : 1 ≤ d) {v0 : Nat} {v1 : Int32} {v2 : Int32} {s : mT} (i0 : isCo v0) {p : Int32} (h : gC_lookersAt v0 v1 v2 s = some p) : Ev d 13 0 [(0, .ref v0), (1, .int v1), (2, .int v2)] [] (uS L s) (some (.int p), uS L s) := by
  obtain ⟨d, rfl⟩ : ∃ e, d = e + 1 := ⟨d - 1, by omega⟩
  obtain ⟨o, ho⟩ : ∃ o : Option Value × mS, o = (some (.int p), uS L s) := ⟨_, rfl⟩
  rw [← ho]
  unfold gC_lookersAt at h
  refine Ev.seg D_13 [(.iconst 0, 1), (.istore_n 3, 1), (.iconst 0, 1), (.istore 4, 2)] (by decide +kernel) (j := 0) (pc' := 5) (lv' := [(4, .int (0 : Int32)), (3, .int (0 : Int32)), (0, .ref v0), (1, .int v1), (2, .int v2)]) (st' := []) rfl ?_
  obtain ⟨x8, w8, h⟩ := bd h
  have j8 : Ev (d + 1) 13 43 [(3, .int x8)] [] (uS L s) o := by
    clear w8
    refine Ev.seg D_13 [(.iload_n 3, 1)] (by decide +kernel) (j := 0) (pc' := 44) (lv' := [(3, .int x8)]) (st' := [.int x8]) rfl ?_
    cases h
    obtain rfl : o = _ := ho
    exact Ev.iret D_13 (by decide +kernel)
  exact Ev.sub (lv' := [(0, .ref v0), (1, .int v1), (2, .int v2), (3, .int (0 : Int32)), (4, .int (0 : Int32))]) (subL_cons rfl (subL_cons rfl (subL_cons rfl (subL_cons rfl (subL_cons rfl subL_nil))))) (gC_lookersAt_h5_w hd i0  _ _ _ w8 _ j8)
/- Course leader: 14 -/
def gC_leader (v0 : Nat) (v1 : Int32) (s : mT) : Option (Int32) :=
  (
    if (s.1 16 5) = 0 then
      some ((-1 : Int32))
    else
      (gC_farthest v0 v1 (0 : Int32) ((s.1 16 5) - (1 : Int32)) s).bind fun p6 =>
      some (p6) : Option (Int32)).bind fun x3 =>
  some (x3)
set_option maxRecDepth 8000 in
theorem gC_leader_ok {L d : Nat} (hd : 2 ≤ d) {v0 : Nat} {v1 : Int32} {s : mT} (i0 : isCo v0) {p : Int32} (h : gC_leader v0 v1 s = some p) : Ev d 14 0 [(0, .ref v0), (1, .int v1)] [] (uS L s) (some (.int p), uS L s) := by
  obtain ⟨d, rfl⟩ : ∃ e, d = e + 1 := ⟨d - 1, by omega⟩
  obtain ⟨o, ho⟩ : ∃ o : Option Value × mS, o = (some (.int p), uS L s) := ⟨_, rfl⟩
  rw [← ho]
  unfold gC_leader at h
  refine Ev.seg D_14 [(.aload_n 0, 1)] (by decide +kernel) (j := 0) (pc' := 1) (lv' := [(0, .ref v0), (1, .int v1)]) (st' := [.ref v0]) rfl ?_
  refine Ev.getR D_14 (by decide +kernel) F_0_42 T_0_0 (x := 16) (S_oR (co_o i0) (co_r i0 0 16 (by decide +kernel))) ?_
  refine Ev.getI D_14 (by decide +kernel) F_0_113 (Or.inl T_2_5) (S_oI k_16) ?_
  obtain ⟨x3, g3, h⟩ := bd h
  have j3 : Ev (d + 1) 14 29 [] [.int x3] (uS L s) o := by
    clear g3
    cases h
    obtain rfl : o = _ := ho
    exact Ev.iret D_14 (by decide +kernel)
  clear h
  refine Ev.if_ D_14 (c := .ne) (off := 7) (by decide +kernel) (t := 14) rfl (fun c3 => ?_) (fun c3 => ?_)
  · have c3 : ¬ (s.1 16 5) = 0 := of_decide_eq_true c3
    rw [if_neg c3] at g3
    refine Ev.seg D_14 [(.aload_n 0, 1), (.iload_n 1, 1), (.iconst 0, 1), (.aload_n 0, 1)] (by decide +kernel) (j := 0) (pc' := 18) (lv' := [(0, .ref v0), (1, .int v1)]) (st' := [.ref v0, .int (0 : Int32), .int v1, .ref v0]) rfl ?_
    refine Ev.getR D_14 (by decide +kernel) F_0_42 T_0_0 (x := 16) (S_oR (co_o i0) (co_r i0 0 16 (by decide +kernel))) ?_
    refine Ev.getI D_14 (by decide +kernel) F_0_113 (Or.inl T_2_5) (S_oI k_16) ?_
    refine Ev.seg D_14 [(.iconst 1, 1), (.isub, 1)] (by decide +kernel) (j := 0) (pc' := 26) (lv' := [(0, .ref v0), (1, .int v1)]) (st' := [.int ((s.1 16 5) - (1 : Int32)), .int (0 : Int32), .int v1, .ref v0]) rfl ?_
    obtain ⟨p6, e6, g3⟩ := bd g3
    refine Ev.callv D_14 E_11 (by decide +kernel) C_0_140 v0 [.int v1, .int (0 : Int32), .int ((s.1 16 5) - (1 : Int32))] (r := []) rfl (gd_o (co_o i0) (by decide)) rfl (Nat.le_of_ble_eq_true rfl) (Nat.le_of_ble_eq_true rfl) (gC_farthest_ok (by omega) i0 e6) ?_
    cases g3
    exact Ev.sub2 j3 subL_nil
  · have c3 : (s.1 16 5) = 0 := Decidable.of_not_not (of_decide_eq_false c3)
    rw [if_pos c3] at g3
    refine Ev.seg D_14 [(.iconst (-1), 1), (.goto 18, 3)] (by decide +kernel) (j := 0) (pc' := 29) (lv' := [(0, .ref v0), (1, .int v1)]) (st' := [.int (-1 : Int32)]) rfl ?_
    cases g3
    exact Ev.sub2 j3 subL_nil
/- Course last: 15 -/
def gC_last (v0 : Nat) (v1 : Int32) (s : mT) : Option (Int32) :=
  (
    if (s.1 16 5) = 0 then
      some ((-1 : Int32))
    else
      (gC_leastFar v0 v1 (0 : Int32) ((s.1 16 5) - (1 : Int32)) s).bind fun p6 =>
      some (p6) : Option (Int32)).bind fun x3 =>
  some (x3)
set_option maxRecDepth 8000 in
theorem gC_last_ok {L d : Nat} (hd : 2 ≤ d) {v0 : Nat} {v1 : Int32} {s : mT} (i0 : isCo v0) {p : Int32} (h : gC_last v0 v1 s = some p) : Ev d 15 0 [(0, .ref v0), (1, .int v1)] [] (uS L s) (some (.int p), uS L s) := by
  obtain ⟨d, rfl⟩ : ∃ e, d = e + 1 := ⟨d - 1, by omega⟩
  obtain ⟨o, ho⟩ : ∃ o : Option Value × mS, o = (some (.int p), uS L s) := ⟨_, rfl⟩
  rw [← ho]
  unfold gC_last at h
  refine Ev.seg D_15 [(.aload_n 0, 1)] (by decide +kernel) (j := 0) (pc' := 1) (lv' := [(0, .ref v0), (1, .int v1)]) (st' := [.ref v0]) rfl ?_
  refine Ev.getR D_15 (by decide +kernel) F_0_42 T_0_0 (x := 16) (S_oR (co_o i0) (co_r i0 0 16 (by decide +kernel))) ?_
  refine Ev.getI D_15 (by decide +kernel) F_0_113 (Or.inl T_2_5) (S_oI k_16) ?_
  obtain ⟨x3, g3, h⟩ := bd h
  have j3 : Ev (d + 1) 15 29 [] [.int x3] (uS L s) o := by
    clear g3
    cases h
    obtain rfl : o = _ := ho
    exact Ev.iret D_15 (by decide +kernel)
  clear h
  refine Ev.if_ D_15 (c := .ne) (off := 7) (by decide +kernel) (t := 14) rfl (fun c3 => ?_) (fun c3 => ?_)
  · have c3 : ¬ (s.1 16 5) = 0 := of_decide_eq_true c3
    rw [if_neg c3] at g3
    refine Ev.seg D_15 [(.aload_n 0, 1), (.iload_n 1, 1), (.iconst 0, 1), (.aload_n 0, 1)] (by decide +kernel) (j := 0) (pc' := 18) (lv' := [(0, .ref v0), (1, .int v1)]) (st' := [.ref v0, .int (0 : Int32), .int v1, .ref v0]) rfl ?_
    refine Ev.getR D_15 (by decide +kernel) F_0_42 T_0_0 (x := 16) (S_oR (co_o i0) (co_r i0 0 16 (by decide +kernel))) ?_
    refine Ev.getI D_15 (by decide +kernel) F_0_113 (Or.inl T_2_5) (S_oI k_16) ?_
    refine Ev.seg D_15 [(.iconst 1, 1), (.isub, 1)] (by decide +kernel) (j := 0) (pc' := 26) (lv' := [(0, .ref v0), (1, .int v1)]) (st' := [.int ((s.1 16 5) - (1 : Int32)), .int (0 : Int32), .int v1, .ref v0]) rfl ?_
    obtain ⟨p6, e6, g3⟩ := bd g3
    refine Ev.callv D_15 E_12 (by decide +kernel) C_0_144 v0 [.int v1, .int (0 : Int32), .int ((s.1 16 5) - (1 : Int32))] (r := []) rfl (gd_o (co_o i0) (by decide)) rfl (Nat.le_of_ble_eq_true rfl) (Nat.le_of_ble_eq_true rfl) (gC_leastFar_ok (by omega) i0 e6) ?_
    cases g3
    exact Ev.sub2 j3 subL_nil
  · have c3 : (s.1 16 5) = 0 := Decidable.of_not_not (of_decide_eq_false c3)
    rw [if_pos c3] at g3
    refine Ev.seg D_15 [(.iconst (-1), 1), (.goto 18, 3)] (by decide +kernel) (j := 0) (pc' := 29) (lv' := [(0, .ref v0), (1, .int v1)]) (st' := [.int (-1 : Int32)]) rfl ?_
    cases g3
    exact Ev.sub2 j3 subL_nil
/- Course isHome: 18 -/
def gC_isHome (v0 : Nat) (v1 : Int32) (v2 : Int32) (s : mT) : Option (Int32) :=
  if ¬ (v2 < 0 ∨ 21 ≤ v2.toNatClampNeg) then
    (rdI (s.1 (v0 + 28 + v2.toNatClampNeg)) 5 v1).bind fun x3 =>
    (
      if x3 < (s.1 16 2) then
        some ((0 : Int32))
      else
        some ((1 : Int32)) : Option (Int32)).bind fun x6 =>
    if x6 = 0 ∨ x6 = 1 then some (x6) else none
  else none
set_option maxRecDepth 8000 in
theorem gC_isHome_ok {L d : Nat} (hd : 1 ≤ d) {v0 : Nat} {v1 : Int32} {v2 : Int32} {s : mT} (i0 : isCo v0) {p : Int32} (h : gC_isHome v0 v1 v2 s = some p) : Ev d 18 0 [(0, .ref v0), (1, .int v1), (2, .int v2)] [] (uS L s) (some (.int p), uS L s) := by
  obtain ⟨d, rfl⟩ : ∃ e, d = e + 1 := ⟨d - 1, by omega⟩
  obtain ⟨o, ho⟩ : ∃ o : Option Value × mS, o = (some (.int p), uS L s) := ⟨_, rfl⟩
  rw [← ho]
  unfold gC_isHome at h
  refine Ev.seg D_18 [(.aload_n 0, 1)] (by decide +kernel) (j := 0) (pc' := 1) (lv' := [(0, .ref v0), (1, .int v1), (2, .int v2)]) (st' := [.ref v0]) rfl ?_
  refine Ev.getR D_18 (by decide +kernel) F_0_33 T_0_7 (x := (v0 + 27)) (S_oR (co_o i0) (co_r2 i0 7 27 (by decide +kernel))) ?_
  refine Ev.seg D_18 [(.iload_n 2, 1)] (by decide +kernel) (j := 0) (pc' := 5) (lv' := [(0, .ref v0), (1, .int v1), (2, .int v2)]) (st' := [.int v2, .ref (v0 + 27)]) rfl ?_
  by_cases b5 : ¬ (v2 < 0 ∨ 21 ≤ v2.toNatClampNeg)
  rotate_left
  · rw [if_neg b5] at h; cases h
  rw [if_pos b5] at h
  refine Ev.aald D_18 (by decide +kernel) (kd := 26) ⟨by decide, by decide⟩ (x := (v0 + 28 + v2.toNatClampNeg)) (S_aR (co_k i0 27 _ (by decide +kernel)) b5 (co_aa i0 27 21 (by decide +kernel) b5)) ?_
  refine Ev.seg D_18 [(.iload_n 1, 1)] (by decide +kernel) (j := 0) (pc' := 7) (lv' := [(0, .ref v0), (1, .int v1), (2, .int v2)]) (st' := [.int v1, .ref (v0 + 28 + v2.toNatClampNeg)]) rfl ?_
  obtain ⟨x3, e3, h⟩ := bd h
  refine Ev.iald D_18 (by decide +kernel) (S_aI (co_row i0 28 21 (by decide +kernel) b5) e3) ?_
  refine Ev.seg D_18 [(.aload_n 0, 1)] (by decide +kernel) (j := 0) (pc' := 9) (lv' := [(0, .ref v0), (1, .int v1), (2, .int v2)]) (st' := [.ref v0, .int x3]) rfl ?_
  refine Ev.getR D_18 (by decide +kernel) F_0_42 T_0_0 (x := 16) (S_oR (co_o i0) (co_r i0 0 16 (by decide +kernel))) ?_
  refine Ev.getI D_18 (by decide +kernel) F_0_116 (Or.inl T_2_2) (S_oI k_16) ?_
  obtain ⟨x6, g6, h⟩ := bd h
  have j6 : Ev (d + 1) 18 23 [] [.int x6] (uS L s) o := by
    clear g6
    by_cases c7 : x6 = 0 ∨ x6 = 1
    · rw [if_pos c7] at h
      cases h
      obtain rfl : o = _ := ho
      exact Ev.zret D_18 c7 (by decide +kernel)
    · rw [if_neg c7] at h; cases h
  clear h
  refine Ev.icmp D_18 (c := .lt) (off := 7) (by decide +kernel) (t := 22) rfl (fun c6 => ?_) (fun c6 => ?_)
  · have c6 : x3 < (s.1 16 2) := of_decide_eq_true c6
    rw [if_pos c6] at g6
    refine Ev.seg D_18 [(.iconst 0, 1)] (by decide +kernel) (j := 0) (pc' := 23) (lv' := [(0, .ref v0), (1, .int v1), (2, .int v2)]) (st' := [.int (0 : Int32)]) rfl ?_
    cases g6
    exact Ev.sub2 j6 subL_nil
  · have c6 : ¬ x3 < (s.1 16 2) := of_decide_eq_false c6
    rw [if_neg c6] at g6
    refine Ev.seg D_18 [(.iconst 1, 1), (.goto 4, 3)] (by decide +kernel) (j := 0) (pc' := 23) (lv' := [(0, .ref v0), (1, .int v1), (2, .int v2)]) (st' := [.int (1 : Int32)]) rfl ?_
    cases g6
    exact Ev.sub2 j6 subL_nil
/- Course isBecalmed: 17 -/
def gC_isBecalmed (v0 : Nat) (v1 : Int32) (v2 : Int32) (s : mT) : Option (Int32) :=
  (gC_isHome v0 v1 v2 s).bind fun p1 =>
  (
    if p1 = 0 then
      (gC_pace v0 v1 v2 s).bind fun p3 =>
      if p3 = 0 then
        some ((1 : Int32))
      else
        some ((0 : Int32))
    else
      some ((0 : Int32)) : Option (Int32)).bind fun x2 =>
  if x2 = 0 ∨ x2 = 1 then some (x2) else none
set_option maxRecDepth 8000 in
theorem gC_isBecalmed_ok {L d : Nat} (hd : 2 ≤ d) {v0 : Nat} {v1 : Int32} {v2 : Int32} {s : mT} (i0 : isCo v0) {p : Int32} (h : gC_isBecalmed v0 v1 v2 s = some p) : Ev d 17 0 [(0, .ref v0), (1, .int v1), (2, .int v2)] [] (uS L s) (some (.int p), uS L s) := by
  obtain ⟨d, rfl⟩ : ∃ e, d = e + 1 := ⟨d - 1, by omega⟩
  obtain ⟨o, ho⟩ : ∃ o : Option Value × mS, o = (some (.int p), uS L s) := ⟨_, rfl⟩
  rw [← ho]
  unfold gC_isBecalmed at h
  refine Ev.seg D_17 [(.aload_n 0, 1), (.iload_n 1, 1), (.iload_n 2, 1)] (by decide +kernel) (j := 0) (pc' := 3) (lv' := [(0, .ref v0), (1, .int v1), (2, .int v2)]) (st' := [.int v2, .int v1, .ref v0]) rfl ?_
  obtain ⟨p1, e1, h⟩ := bd h
  refine Ev.callv D_17 E_18 (by decide +kernel) C_0_147 v0 [.int v1, .int v2] (r := []) rfl (gd_o (co_o i0) (by decide)) rfl (Nat.le_of_ble_eq_true rfl) (Nat.le_of_ble_eq_true rfl) (gC_isHome_ok (by omega) i0 e1) ?_
  obtain ⟨x2, g2, h⟩ := bd h
  have j2 : Ev (d + 1) 17 23 [] [.int x2] (uS L s) o := by
    clear g2
    by_cases c5 : x2 = 0 ∨ x2 = 1
    · rw [if_pos c5] at h
      cases h
      obtain rfl : o = _ := ho
      exact Ev.zret D_17 c5 (by decide +kernel)
    · rw [if_neg c5] at h; cases h
  clear h
  refine Ev.if_ D_17 (c := .ne) (off := 16) (by decide +kernel) (t := 22) rfl (fun c2 => ?_) (fun c2 => ?_)
  · have c2 : ¬ p1 = 0 := of_decide_eq_true c2
    rw [if_neg c2] at g2
    refine Ev.seg D_17 [(.iconst 0, 1)] (by decide +kernel) (j := 0) (pc' := 23) (lv' := [(0, .ref v0), (1, .int v1), (2, .int v2)]) (st' := [.int (0 : Int32)]) rfl ?_
    cases g2
    exact Ev.sub2 j2 subL_nil
  · have c2 : p1 = 0 := Decidable.of_not_not (of_decide_eq_false c2)
    rw [if_pos c2] at g2
    refine Ev.seg D_17 [(.aload_n 0, 1), (.iload_n 1, 1), (.iload_n 2, 1)] (by decide +kernel) (j := 0) (pc' := 12) (lv' := [(0, .ref v0), (1, .int v1), (2, .int v2)]) (st' := [.int v2, .int v1, .ref v0]) rfl ?_
    obtain ⟨p3, e3, g2⟩ := bd g2
    refine Ev.callv D_17 E_8 (by decide +kernel) C_0_134 v0 [.int v1, .int v2] (r := []) rfl (gd_o (co_o i0) (by decide)) rfl (Nat.le_of_ble_eq_true rfl) (Nat.le_of_ble_eq_true rfl) (gC_pace_ok (by omega) i0 e3) ?_
    refine Ev.if_ D_17 (c := .ne) (off := 7) (by decide +kernel) (t := 22) rfl (fun c4 => ?_) (fun c4 => ?_)
    · have c4 : ¬ p3 = 0 := of_decide_eq_true c4
      rw [if_neg c4] at g2
      refine Ev.seg D_17 [(.iconst 0, 1)] (by decide +kernel) (j := 0) (pc' := 23) (lv' := [(0, .ref v0), (1, .int v1), (2, .int v2)]) (st' := [.int (0 : Int32)]) rfl ?_
      cases g2
      exact Ev.sub2 j2 subL_nil
    · have c4 : p3 = 0 := Decidable.of_not_not (of_decide_eq_false c4)
      rw [if_pos c4] at g2
      refine Ev.seg D_17 [(.iconst 1, 1), (.goto 4, 3)] (by decide +kernel) (j := 0) (pc' := 23) (lv' := [(0, .ref v0), (1, .int v1), (2, .int v2)]) (st' := [.int (1 : Int32)]) rfl ?_
      cases g2
      exact Ev.sub2 j2 subL_nil
/- Course calmSteps: 16 -/
def gC_calmSteps_h4 (v0 : Nat) (v1 : Int32) (s : mT) (q : Int32 × Int32) : Option ((Int32 × Int32) ⊕ (Int32)) :=
  if (s.1 16 0) ≤ q.2 then
    some (.inr q.1)
  else
    (gC_isBecalmed v0 v1 q.2 s).bind fun p4 =>
    (
      if p4 = 0 then
        some (q.1)
      else
        some (q.1 ||| ((1 : Int32) <<< (q.2 &&& 31))) : Option (Int32)).bind fun x5 =>
    some (.inl (x5, q.2 + (1 : Int32)))
set_option maxRecDepth 8000 in
theorem gC_calmSteps_h4_ok {L d : Nat} (hd : 3 ≤ d + 1) {v0 : Nat} {v1 : Int32} {s : mT} (i0 : isCo v0) : ∀ (q : Int32 × Int32) (x : (Int32 × Int32) ⊕ (Int32)), gC_calmSteps_h4 v0 v1 s q = some x → ∀ o, sK (fun q => Ev (d + 1) 16 4 [(0, .ref v0), (1, .int v1), (2, .int q.1), (3, .int q.2)] [] (uS L s) o) (fun r => Ev (d + 1) 16 36 [(2, .int r)] [] (uS L s) o) x → Ev (d + 1) 16 4 [(0, .ref v0), (1, .int v1), (2, .int q.1), (3, .int q.2)] [] (uS L s) o := by
  intro q x h o ho
  unfold gC_calmSteps_h4 at h
  refine Ev.seg D_16 [(.iload_n 3, 1), (.aload_n 0, 1)] (by decide +kernel) (j := 0) (pc' := 6) (lv' := [(0, .ref v0), (1, .int v1), (2, .int q.1), (3, .int q.2)]) (st' := [.ref v0, .int q.2]) rfl ?_
  refine Ev.getR D_16 (by decide +kernel) F_0_42 T_0_0 (x := 16) (S_oR (co_o i0) (co_r i0 0 16 (by decide +kernel))) ?_
  refine Ev.getI D_16 (by decide +kernel) F_0_64 (Or.inl T_2_0) (S_oI k_16) ?_
  refine Ev.icmp D_16 (c := .ge) (off := 24) (by decide +kernel) (t := 36) rfl (fun c3 => ?_) (fun c3 => ?_)
  · have c3 : (s.1 16 0) ≤ q.2 := of_decide_eq_true c3
    rw [if_pos c3] at h
    cases h
    exact Ev.sub (lv' := [(2, .int q.1)]) (subL_cons rfl subL_nil) ho
  · have c3 : ¬ (s.1 16 0) ≤ q.2 := of_decide_eq_false c3
    rw [if_neg c3] at h
    refine Ev.seg D_16 [(.aload_n 0, 1), (.iload_n 1, 1), (.iload_n 3, 1)] (by decide +kernel) (j := 0) (pc' := 18) (lv' := [(0, .ref v0), (1, .int v1), (2, .int q.1), (3, .int q.2)]) (st' := [.int q.2, .int v1, .ref v0]) rfl ?_
    obtain ⟨p4, e4, h⟩ := bd h
    refine Ev.callv D_16 E_17 (by decide +kernel) C_0_151 v0 [.int v1, .int q.2] (r := []) rfl (gd_o (co_o i0) (by decide)) rfl (Nat.le_of_ble_eq_true rfl) (Nat.le_of_ble_eq_true rfl) (gC_isBecalmed_ok (by omega) i0 e4) ?_
    obtain ⟨x5, g5, h⟩ := bd h
    have j5 : Ev (d + 1) 16 30 [(0, .ref v0), (1, .int v1), (2, .int x5), (3, .int q.2)] [] (uS L s) o := by
      clear g5
      refine Ev.seg D_16 [(.iinc 3 1, 3), (.goto (-29), 3)] (by decide +kernel) (j := 0) (pc' := 4) (lv' := [(3, .int (q.2 + (1 : Int32))), (0, .ref v0), (1, .int v1), (2, .int x5)]) (st' := []) rfl ?_
      cases h
      exact Ev.sub (lv' := [(0, .ref v0), (1, .int v1), (2, .int (x5)), (3, .int (q.2 + (1 : Int32)))]) (subL_cons rfl (subL_cons rfl (subL_cons rfl (subL_cons rfl subL_nil)))) ho
    clear h
    refine Ev.if_ D_16 (c := .eq) (off := 9) (by decide +kernel) (t := 30) rfl (fun c5 => ?_) (fun c5 => ?_)
    · have c5 : p4 = 0 := of_decide_eq_true c5
      rw [if_pos c5] at g5
      cases g5
      exact Ev.sub2 j5 (subL_cons rfl (subL_cons rfl (subL_cons rfl (subL_cons rfl subL_nil))))
    · have c5 : ¬ p4 = 0 := of_decide_eq_false c5
      rw [if_neg c5] at g5
      refine Ev.seg D_16 [(.iload_n 2, 1), (.iconst 1, 1), (.iload_n 3, 1), (.ishl, 1), (.ior, 1), (.istore_n 2, 1)] (by decide +kernel) (j := 0) (pc' := 30) (lv' := [(2, .int (q.1 ||| ((1 : Int32) <<< (q.2 &&& 31)))), (0, .ref v0), (1, .int v1), (3, .int q.2)]) (st' := []) rfl ?_
      cases g5
      exact Ev.sub2 j5 (subL_cons rfl (subL_cons rfl (subL_cons rfl (subL_cons rfl subL_nil))))
theorem gC_calmSteps_h4_w {L d : Nat} (hd : 3 ≤ d + 1) {v0 : Nat} {v1 : Int32} {s : mT} (i0 : isCo v0) : ∀ (n : Nat) (q : Int32 × Int32) (r : Int32), wh n (gC_calmSteps_h4 v0 v1 s) q = some r → ∀ o, (fun r => Ev (d + 1) 16 36 [(2, .int r)] [] (uS L s) o) r → Ev (d + 1) 16 4 [(0, .ref v0), (1, .int v1), (2, .int q.1), (3, .int q.2)] [] (uS L s) o :=
  fun n q r h o hc => wh_ev (E := fun (q : Int32 × Int32) o => Ev (d + 1) 16 4 [(0, .ref v0), (1, .int v1), (2, .int q.1), (3, .int q.2)] [] (uS L s) o) (C := fun (r : Int32) o => (fun r => Ev (d + 1) 16 36 [(2, .int r)] [] (uS L s) o) r) (gC_calmSteps_h4_ok hd i0 ) n q r h o hc
def gC_calmSteps (v0 : Nat) (v1 : Int32) (s : mT) : Option (Int32) :=
  (wh FU (gC_calmSteps_h4 v0 v1 s) ((0 : Int32), (0 : Int32))).bind fun x6 =>
  some (x6)
set_option maxRecDepth 8000 in
theorem gC_calmSteps_ok {L d : Nat} (hd : 3 ≤ d) {v0 : Nat} {v1 : Int32} {s : mT} (i0 : isCo v0) {p : Int32} (h : gC_calmSteps v0 v1 s = some p) : Ev d 16 0 [(0, .ref v0), (1, .int v1)] [] (uS L s) (some (.int p), uS L s) := by
  obtain ⟨d, rfl⟩ : ∃ e, d = e + 1 := ⟨d - 1, by omega⟩
  obtain ⟨o, ho⟩ : ∃ o : Option Value × mS, o = (some (.int p), uS L s) := ⟨_, rfl⟩
  rw [← ho]
  unfold gC_calmSteps at h
  refine Ev.seg D_16 [(.iconst 0, 1), (.istore_n 2, 1), (.iconst 0, 1), (.istore_n 3, 1)] (by decide +kernel) (j := 0) (pc' := 4) (lv' := [(3, .int (0 : Int32)), (2, .int (0 : Int32)), (0, .ref v0), (1, .int v1)]) (st' := []) rfl ?_
  obtain ⟨x6, w6, h⟩ := bd h
  have j6 : Ev (d + 1) 16 36 [(2, .int x6)] [] (uS L s) o := by
    clear w6
    refine Ev.seg D_16 [(.iload_n 2, 1)] (by decide +kernel) (j := 0) (pc' := 37) (lv' := [(2, .int x6)]) (st' := [.int x6]) rfl ?_
    cases h
    obtain rfl : o = _ := ho
    exact Ev.iret D_16 (by decide +kernel)
  exact Ev.sub (lv' := [(0, .ref v0), (1, .int v1), (2, .int (0 : Int32)), (3, .int (0 : Int32))]) (subL_cons rfl (subL_cons rfl (subL_cons rfl (subL_cons rfl subL_nil)))) (gC_calmSteps_h4_w hd i0  _ _ _ w6 _ j6)
/- Course homeStep: 19 -/
def gC_homeStep_h2 (v0 : Nat) (v1 : Int32) (s : mT) (q : Int32) : Option ((Int32) ⊕ (Int32)) :=
  if (s.1 16 0) < q then
    some (.inr ((-1 : Int32)))
  else
    (gC_isHome v0 v1 q s).bind fun p5 =>
    if p5 = 0 then
      some (.inl (q + (1 : Int32)))
    else
      some (.inr (q))
set_option maxRecDepth 8000 in
theorem gC_homeStep_h2_ok {L d : Nat} (hd : 2 ≤ d + 1) {v0 : Nat} {v1 : Int32} {s : mT} (i0 : isCo v0) : ∀ (q : Int32) (x : (Int32) ⊕ (Int32)), gC_homeStep_h2 v0 v1 s q = some x → ∀ o, sK (fun q => Ev (d + 1) 19 2 [(0, .ref v0), (1, .int v1), (2, .int q)] [] (uS L s) o) (fun r => o = (some (.int r), uS L s)) x → Ev (d + 1) 19 2 [(0, .ref v0), (1, .int v1), (2, .int q)] [] (uS L s) o := by
  intro q x h o ho
  unfold gC_homeStep_h2 at h
  refine Ev.seg D_19 [(.iload_n 2, 1), (.aload_n 0, 1)] (by decide +kernel) (j := 0) (pc' := 4) (lv' := [(0, .ref v0), (1, .int v1), (2, .int q)]) (st' := [.ref v0, .int q]) rfl ?_
  refine Ev.getR D_19 (by decide +kernel) F_0_42 T_0_0 (x := 16) (S_oR (co_o i0) (co_r i0 0 16 (by decide +kernel))) ?_
  refine Ev.getI D_19 (by decide +kernel) F_0_64 (Or.inl T_2_0) (S_oI k_16) ?_
  refine Ev.icmp D_19 (c := .gt) (off := 20) (by decide +kernel) (t := 30) rfl (fun c3 => ?_) (fun c3 => ?_)
  · have c3 : (s.1 16 0) < q := of_decide_eq_true c3
    rw [if_pos c3] at h
    refine Ev.seg D_19 [(.iconst (-1), 1)] (by decide +kernel) (j := 0) (pc' := 31) (lv' := [(0, .ref v0), (1, .int v1), (2, .int q)]) (st' := [.int (-1 : Int32)]) rfl ?_
    cases h
    obtain rfl : o = _ := ho
    exact Ev.iret D_19 (by decide +kernel)
  · have c3 : ¬ (s.1 16 0) < q := of_decide_eq_false c3
    rw [if_neg c3] at h
    refine Ev.seg D_19 [(.aload_n 0, 1), (.iload_n 1, 1), (.iload_n 2, 1)] (by decide +kernel) (j := 0) (pc' := 16) (lv' := [(0, .ref v0), (1, .int v1), (2, .int q)]) (st' := [.int q, .int v1, .ref v0]) rfl ?_
    obtain ⟨p5, e5, h⟩ := bd h
    refine Ev.callv D_19 E_18 (by decide +kernel) C_0_147 v0 [.int v1, .int q] (r := []) rfl (gd_o (co_o i0) (by decide)) rfl (Nat.le_of_ble_eq_true rfl) (Nat.le_of_ble_eq_true rfl) (gC_isHome_ok (by omega) i0 e5) ?_
    refine Ev.if_ D_19 (c := .eq) (off := 5) (by decide +kernel) (t := 24) rfl (fun c6 => ?_) (fun c6 => ?_)
    · have c6 : p5 = 0 := of_decide_eq_true c6
      rw [if_pos c6] at h
      refine Ev.seg D_19 [(.iinc 2 1, 3), (.goto (-25), 3)] (by decide +kernel) (j := 0) (pc' := 2) (lv' := [(2, .int (q + (1 : Int32))), (0, .ref v0), (1, .int v1)]) (st' := []) rfl ?_
      cases h
      exact Ev.sub (lv' := [(0, .ref v0), (1, .int v1), (2, .int (q + (1 : Int32)))]) (subL_cons rfl (subL_cons rfl (subL_cons rfl subL_nil))) ho
    · have c6 : ¬ p5 = 0 := of_decide_eq_false c6
      rw [if_neg c6] at h
      refine Ev.seg D_19 [(.iload_n 2, 1)] (by decide +kernel) (j := 0) (pc' := 23) (lv' := [(0, .ref v0), (1, .int v1), (2, .int q)]) (st' := [.int q]) rfl ?_
      cases h
      obtain rfl : o = _ := ho
      exact Ev.iret D_19 (by decide +kernel)
theorem gC_homeStep_h2_w {L d : Nat} (hd : 2 ≤ d + 1) {v0 : Nat} {v1 : Int32} {s : mT} (i0 : isCo v0) : ∀ (n : Nat) (q : Int32) (r : Int32), wh n (gC_homeStep_h2 v0 v1 s) q = some r → ∀ o, (fun r => o = (some (.int r), uS L s)) r → Ev (d + 1) 19 2 [(0, .ref v0), (1, .int v1), (2, .int q)] [] (uS L s) o :=
  fun n q r h o hc => wh_ev (E := fun (q : Int32) o => Ev (d + 1) 19 2 [(0, .ref v0), (1, .int v1), (2, .int q)] [] (uS L s) o) (C := fun (r : Int32) o => (fun r => o = (some (.int r), uS L s)) r) (gC_homeStep_h2_ok hd i0 ) n q r h o hc
def gC_homeStep (v0 : Nat) (v1 : Int32) (s : mT) : Option (Int32) :=
  wh FU (gC_homeStep_h2 v0 v1 s) (0 : Int32)
set_option maxRecDepth 8000 in
theorem gC_homeStep_ok {L d : Nat} (hd : 2 ≤ d) {v0 : Nat} {v1 : Int32} {s : mT} (i0 : isCo v0) {p : Int32} (h : gC_homeStep v0 v1 s = some p) : Ev d 19 0 [(0, .ref v0), (1, .int v1)] [] (uS L s) (some (.int p), uS L s) := by
  obtain ⟨d, rfl⟩ : ∃ e, d = e + 1 := ⟨d - 1, by omega⟩
  obtain ⟨o, ho⟩ : ∃ o : Option Value × mS, o = (some (.int p), uS L s) := ⟨_, rfl⟩
  rw [← ho]
  unfold gC_homeStep at h
  refine Ev.seg D_19 [(.iconst 0, 1), (.istore_n 2, 1)] (by decide +kernel) (j := 0) (pc' := 2) (lv' := [(2, .int (0 : Int32)), (0, .ref v0), (1, .int v1)]) (st' := []) rfl ?_
  exact Ev.sub (lv' := [(0, .ref v0), (1, .int v1), (2, .int (0 : Int32))]) (subL_cons rfl (subL_cons rfl (subL_cons rfl subL_nil))) (gC_homeStep_h2_w hd i0  _ _ _ h _ ho)
/- Course winner: 20 -/
def gC_winner_h15 (v0 : Nat) (v1 : Int32) (s : mT) (q : Int32) : Option ((Int32) ⊕ ((Int32) ⊕ (Int32))) :=
  if (s.1 16 5) ≤ q then
    some (.inr (.inl (v1 + (1 : Int32))))
  else
    (gC_isHome v0 q v1 s).bind fun p4 =>
    if p4 = 0 then
      some (.inl (q + (1 : Int32)))
    else
      some (.inr (.inr (q)))
set_option maxRecDepth 8000 in
theorem gC_winner_h15_ok {L d : Nat} (hd : 2 ≤ d + 1) {v0 : Nat} {v1 : Int32} {s : mT} (i0 : isCo v0) : ∀ (q : Int32) (x : (Int32) ⊕ ((Int32) ⊕ (Int32))), gC_winner_h15 v0 v1 s q = some x → ∀ o, sK (fun q => Ev (d + 1) 20 15 [(0, .ref v0), (1, .int v1), (2, .int q)] [] (uS L s) o) (fun r => sK (fun q => Ev (d + 1) 20 2 [(0, .ref v0), (1, .int q)] [] (uS L s) o) (fun r => o = (some (.int r), uS L s)) r) x → Ev (d + 1) 20 15 [(0, .ref v0), (1, .int v1), (2, .int q)] [] (uS L s) o := by
  intro q x h o ho
  unfold gC_winner_h15 at h
  refine Ev.seg D_20 [(.iload_n 2, 1), (.aload_n 0, 1)] (by decide +kernel) (j := 0) (pc' := 17) (lv' := [(0, .ref v0), (1, .int v1), (2, .int q)]) (st' := [.ref v0, .int q]) rfl ?_
  refine Ev.getR D_20 (by decide +kernel) F_0_42 T_0_0 (x := 16) (S_oR (co_o i0) (co_r i0 0 16 (by decide +kernel))) ?_
  refine Ev.getI D_20 (by decide +kernel) F_0_113 (Or.inl T_2_5) (S_oI k_16) ?_
  refine Ev.icmp D_20 (c := .ge) (off := 20) (by decide +kernel) (t := 43) rfl (fun c3 => ?_) (fun c3 => ?_)
  · have c3 : (s.1 16 5) ≤ q := of_decide_eq_true c3
    rw [if_pos c3] at h
    refine Ev.seg D_20 [(.iinc 1 1, 3), (.goto (-44), 3)] (by decide +kernel) (j := 0) (pc' := 2) (lv' := [(1, .int (v1 + (1 : Int32))), (0, .ref v0), (2, .int q)]) (st' := []) rfl ?_
    cases h
    exact Ev.sub (lv' := [(0, .ref v0), (1, .int (v1 + (1 : Int32)))]) (subL_cons rfl (subL_cons rfl subL_nil)) ho
  · have c3 : ¬ (s.1 16 5) ≤ q := of_decide_eq_false c3
    rw [if_neg c3] at h
    refine Ev.seg D_20 [(.aload_n 0, 1), (.iload_n 2, 1), (.iload_n 1, 1)] (by decide +kernel) (j := 0) (pc' := 29) (lv' := [(0, .ref v0), (1, .int v1), (2, .int q)]) (st' := [.int v1, .int q, .ref v0]) rfl ?_
    obtain ⟨p4, e4, h⟩ := bd h
    refine Ev.callv D_20 E_18 (by decide +kernel) C_0_147 v0 [.int q, .int v1] (r := []) rfl (gd_o (co_o i0) (by decide)) rfl (Nat.le_of_ble_eq_true rfl) (Nat.le_of_ble_eq_true rfl) (gC_isHome_ok (by omega) i0 e4) ?_
    refine Ev.if_ D_20 (c := .eq) (off := 5) (by decide +kernel) (t := 37) rfl (fun c5 => ?_) (fun c5 => ?_)
    · have c5 : p4 = 0 := of_decide_eq_true c5
      rw [if_pos c5] at h
      refine Ev.seg D_20 [(.iinc 2 1, 3), (.goto (-25), 3)] (by decide +kernel) (j := 0) (pc' := 15) (lv' := [(2, .int (q + (1 : Int32))), (0, .ref v0), (1, .int v1)]) (st' := []) rfl ?_
      cases h
      exact Ev.sub (lv' := [(0, .ref v0), (1, .int v1), (2, .int (q + (1 : Int32)))]) (subL_cons rfl (subL_cons rfl (subL_cons rfl subL_nil))) ho
    · have c5 : ¬ p4 = 0 := of_decide_eq_false c5
      rw [if_neg c5] at h
      refine Ev.seg D_20 [(.iload_n 2, 1)] (by decide +kernel) (j := 0) (pc' := 36) (lv' := [(0, .ref v0), (1, .int v1), (2, .int q)]) (st' := [.int q]) rfl ?_
      cases h
      obtain rfl : o = _ := ho
      exact Ev.iret D_20 (by decide +kernel)
theorem gC_winner_h15_w {L d : Nat} (hd : 2 ≤ d + 1) {v0 : Nat} {v1 : Int32} {s : mT} (i0 : isCo v0) : ∀ (n : Nat) (q : Int32) (r : (Int32) ⊕ (Int32)), wh n (gC_winner_h15 v0 v1 s) q = some r → ∀ o, (fun r => sK (fun q => Ev (d + 1) 20 2 [(0, .ref v0), (1, .int q)] [] (uS L s) o) (fun r => o = (some (.int r), uS L s)) r) r → Ev (d + 1) 20 15 [(0, .ref v0), (1, .int v1), (2, .int q)] [] (uS L s) o :=
  fun n q r h o hc => wh_ev (E := fun (q : Int32) o => Ev (d + 1) 20 15 [(0, .ref v0), (1, .int v1), (2, .int q)] [] (uS L s) o) (C := fun (r : (Int32) ⊕ (Int32)) o => (fun r => sK (fun q => Ev (d + 1) 20 2 [(0, .ref v0), (1, .int q)] [] (uS L s) o) (fun r => o = (some (.int r), uS L s)) r) r) (gC_winner_h15_ok hd i0 ) n q r h o hc
def gC_winner_h2 (v0 : Nat) (s : mT) (q : Int32) : Option ((Int32) ⊕ (Int32)) :=
  if (s.1 16 0) < q then
    some (.inr ((-1 : Int32)))
  else
    wh FU (gC_winner_h15 v0 q s) (0 : Int32)
set_option maxRecDepth 8000 in
theorem gC_winner_h2_ok {L d : Nat} (hd : 2 ≤ d + 1) {v0 : Nat} {s : mT} (i0 : isCo v0) : ∀ (q : Int32) (x : (Int32) ⊕ (Int32)), gC_winner_h2 v0 s q = some x → ∀ o, sK (fun q => Ev (d + 1) 20 2 [(0, .ref v0), (1, .int q)] [] (uS L s) o) (fun r => o = (some (.int r), uS L s)) x → Ev (d + 1) 20 2 [(0, .ref v0), (1, .int q)] [] (uS L s) o := by
  intro q x h o ho
  unfold gC_winner_h2 at h
  refine Ev.seg D_20 [(.iload_n 1, 1), (.aload_n 0, 1)] (by decide +kernel) (j := 0) (pc' := 4) (lv' := [(0, .ref v0), (1, .int q)]) (st' := [.ref v0, .int q]) rfl ?_
  refine Ev.getR D_20 (by decide +kernel) F_0_42 T_0_0 (x := 16) (S_oR (co_o i0) (co_r i0 0 16 (by decide +kernel))) ?_
  refine Ev.getI D_20 (by decide +kernel) F_0_64 (Or.inl T_2_0) (S_oI k_16) ?_
  refine Ev.icmp D_20 (c := .gt) (off := 39) (by decide +kernel) (t := 49) rfl (fun c3 => ?_) (fun c3 => ?_)
  · have c3 : (s.1 16 0) < q := of_decide_eq_true c3
    rw [if_pos c3] at h
    refine Ev.seg D_20 [(.iconst (-1), 1)] (by decide +kernel) (j := 0) (pc' := 50) (lv' := [(0, .ref v0), (1, .int q)]) (st' := [.int (-1 : Int32)]) rfl ?_
    cases h
    obtain rfl : o = _ := ho
    exact Ev.iret D_20 (by decide +kernel)
  · have c3 : ¬ (s.1 16 0) < q := of_decide_eq_false c3
    rw [if_neg c3] at h
    refine Ev.seg D_20 [(.iconst 0, 1), (.istore_n 2, 1)] (by decide +kernel) (j := 0) (pc' := 15) (lv' := [(2, .int (0 : Int32)), (0, .ref v0), (1, .int q)]) (st' := []) rfl ?_
    exact Ev.sub (lv' := [(0, .ref v0), (1, .int q), (2, .int (0 : Int32))]) (subL_cons rfl (subL_cons rfl (subL_cons rfl subL_nil))) (gC_winner_h15_w hd i0  _ _ _ h _ ho)
theorem gC_winner_h2_w {L d : Nat} (hd : 2 ≤ d + 1) {v0 : Nat} {s : mT} (i0 : isCo v0) : ∀ (n : Nat) (q : Int32) (r : Int32), wh n (gC_winner_h2 v0 s) q = some r → ∀ o, (fun r => o = (some (.int r), uS L s)) r → Ev (d + 1) 20 2 [(0, .ref v0), (1, .int q)] [] (uS L s) o :=
  fun n q r h o hc => wh_ev (E := fun (q : Int32) o => Ev (d + 1) 20 2 [(0, .ref v0), (1, .int q)] [] (uS L s) o) (C := fun (r : Int32) o => (fun r => o = (some (.int r), uS L s)) r) (gC_winner_h2_ok hd i0 ) n q r h o hc
def gC_winner (v0 : Nat) (s : mT) : Option (Int32) :=
  wh FU (gC_winner_h2 v0 s) (0 : Int32)
set_option maxRecDepth 8000 in
theorem gC_winner_ok {L d : Nat} (hd : 2 ≤ d) {v0 : Nat} {s : mT} (i0 : isCo v0) {p : Int32} (h : gC_winner v0 s = some p) : Ev d 20 0 [(0, .ref v0)] [] (uS L s) (some (.int p), uS L s) := by
  obtain ⟨d, rfl⟩ : ∃ e, d = e + 1 := ⟨d - 1, by omega⟩
  obtain ⟨o, ho⟩ : ∃ o : Option Value × mS, o = (some (.int p), uS L s) := ⟨_, rfl⟩
  rw [← ho]
  unfold gC_winner at h
  refine Ev.seg D_20 [(.iconst 0, 1), (.istore_n 1, 1)] (by decide +kernel) (j := 0) (pc' := 2) (lv' := [(1, .int (0 : Int32)), (0, .ref v0)]) (st' := []) rfl ?_
  exact Ev.sub (lv' := [(0, .ref v0), (1, .int (0 : Int32))]) (subL_cons rfl (subL_cons rfl subL_nil)) (gC_winner_h2_w hd i0  _ _ _ h _ ho)
/- Course stepsOn: 21 -/
def gC_stepsOn_h5 (v0 : Nat) (v1 : Int32) (v2 : Int32) (s : mT) (q : Int32 × Int32) : Option ((Int32 × Int32) ⊕ (Int32)) :=
  if (s.1 16 0) < q.2 then
    some (.inr q.1)
  else
    if ¬ (q.2 < 0 ∨ 21 ≤ q.2.toNatClampNeg) then
      (rdI (s.1 (v0 + 50 + q.2.toNatClampNeg)) 5 v1).bind fun x6 =>
      (
        if x6 = v2 then
          some (q.1 + (1 : Int32))
        else
          some (q.1) : Option (Int32)).bind fun x7 =>
      some (.inl (x7, q.2 + (1 : Int32)))
    else none
set_option maxRecDepth 8000 in
theorem gC_stepsOn_h5_ok {L d : Nat} (hd : 1 ≤ d + 1) {v0 : Nat} {v1 : Int32} {v2 : Int32} {s : mT} (i0 : isCo v0) : ∀ (q : Int32 × Int32) (x : (Int32 × Int32) ⊕ (Int32)), gC_stepsOn_h5 v0 v1 v2 s q = some x → ∀ o, sK (fun q => Ev (d + 1) 21 5 [(0, .ref v0), (1, .int v1), (2, .int v2), (3, .int q.1), (4, .int q.2)] [] (uS L s) o) (fun r => Ev (d + 1) 21 39 [(3, .int r)] [] (uS L s) o) x → Ev (d + 1) 21 5 [(0, .ref v0), (1, .int v1), (2, .int v2), (3, .int q.1), (4, .int q.2)] [] (uS L s) o := by
  intro q x h o ho
  unfold gC_stepsOn_h5 at h
  refine Ev.seg D_21 [(.iload 4, 2), (.aload_n 0, 1)] (by decide +kernel) (j := 0) (pc' := 8) (lv' := [(0, .ref v0), (1, .int v1), (2, .int v2), (3, .int q.1), (4, .int q.2)]) (st' := [.ref v0, .int q.2]) rfl ?_
  refine Ev.getR D_21 (by decide +kernel) F_0_42 T_0_0 (x := 16) (S_oR (co_o i0) (co_r i0 0 16 (by decide +kernel))) ?_
  refine Ev.getI D_21 (by decide +kernel) F_0_64 (Or.inl T_2_0) (S_oI k_16) ?_
  refine Ev.icmp D_21 (c := .gt) (off := 25) (by decide +kernel) (t := 39) rfl (fun c3 => ?_) (fun c3 => ?_)
  · have c3 : (s.1 16 0) < q.2 := of_decide_eq_true c3
    rw [if_pos c3] at h
    cases h
    exact Ev.sub (lv' := [(3, .int q.1)]) (subL_cons rfl subL_nil) ho
  · have c3 : ¬ (s.1 16 0) < q.2 := of_decide_eq_false c3
    rw [if_neg c3] at h
    refine Ev.seg D_21 [(.aload_n 0, 1)] (by decide +kernel) (j := 0) (pc' := 18) (lv' := [(0, .ref v0), (1, .int v1), (2, .int v2), (3, .int q.1), (4, .int q.2)]) (st' := [.ref v0]) rfl ?_
    refine Ev.getR D_21 (by decide +kernel) F_0_36 T_0_8 (x := (v0 + 49)) (S_oR (co_o i0) (co_r2 i0 8 49 (by decide +kernel))) ?_
    refine Ev.seg D_21 [(.iload 4, 2)] (by decide +kernel) (j := 0) (pc' := 23) (lv' := [(0, .ref v0), (1, .int v1), (2, .int v2), (3, .int q.1), (4, .int q.2)]) (st' := [.int q.2, .ref (v0 + 49)]) rfl ?_
    by_cases b23 : ¬ (q.2 < 0 ∨ 21 ≤ q.2.toNatClampNeg)
    rotate_left
    · rw [if_neg b23] at h; cases h
    rw [if_pos b23] at h
    refine Ev.aald D_21 (by decide +kernel) (kd := 26) ⟨by decide, by decide⟩ (x := (v0 + 50 + q.2.toNatClampNeg)) (S_aR (co_k i0 49 _ (by decide +kernel)) b23 (co_aa i0 49 21 (by decide +kernel) b23)) ?_
    refine Ev.seg D_21 [(.iload_n 1, 1)] (by decide +kernel) (j := 0) (pc' := 25) (lv' := [(0, .ref v0), (1, .int v1), (2, .int v2), (3, .int q.1), (4, .int q.2)]) (st' := [.int v1, .ref (v0 + 50 + q.2.toNatClampNeg)]) rfl ?_
    obtain ⟨x6, e6, h⟩ := bd h
    refine Ev.iald D_21 (by decide +kernel) (S_aI (co_row i0 50 21 (by decide +kernel) b23) e6) ?_
    refine Ev.seg D_21 [(.iload_n 2, 1)] (by decide +kernel) (j := 0) (pc' := 27) (lv' := [(0, .ref v0), (1, .int v1), (2, .int v2), (3, .int q.1), (4, .int q.2)]) (st' := [.int v2, .int x6]) rfl ?_
    obtain ⟨x7, g7, h⟩ := bd h
    have j7 : Ev (d + 1) 21 33 [(0, .ref v0), (1, .int v1), (2, .int v2), (3, .int x7), (4, .int q.2)] [] (uS L s) o := by
      clear g7
      refine Ev.seg D_21 [(.iinc 4 1, 3), (.goto (-31), 3)] (by decide +kernel) (j := 0) (pc' := 5) (lv' := [(4, .int (q.2 + (1 : Int32))), (0, .ref v0), (1, .int v1), (2, .int v2), (3, .int x7)]) (st' := []) rfl ?_
      cases h
      exact Ev.sub (lv' := [(0, .ref v0), (1, .int v1), (2, .int v2), (3, .int (x7)), (4, .int (q.2 + (1 : Int32)))]) (subL_cons rfl (subL_cons rfl (subL_cons rfl (subL_cons rfl (subL_cons rfl subL_nil))))) ho
    clear h
    refine Ev.icmp D_21 (c := .ne) (off := 6) (by decide +kernel) (t := 33) rfl (fun c7 => ?_) (fun c7 => ?_)
    · have c7 : ¬ x6 = v2 := of_decide_eq_true c7
      rw [if_neg c7] at g7
      cases g7
      exact Ev.sub2 j7 (subL_cons rfl (subL_cons rfl (subL_cons rfl (subL_cons rfl (subL_cons rfl subL_nil)))))
    · have c7 : x6 = v2 := Decidable.of_not_not (of_decide_eq_false c7)
      rw [if_pos c7] at g7
      refine Ev.seg D_21 [(.iinc 3 1, 3)] (by decide +kernel) (j := 0) (pc' := 33) (lv' := [(3, .int (q.1 + (1 : Int32))), (0, .ref v0), (1, .int v1), (2, .int v2), (4, .int q.2)]) (st' := []) rfl ?_
      cases g7
      exact Ev.sub2 j7 (subL_cons rfl (subL_cons rfl (subL_cons rfl (subL_cons rfl (subL_cons rfl subL_nil)))))
theorem gC_stepsOn_h5_w {L d : Nat} (hd : 1 ≤ d + 1) {v0 : Nat} {v1 : Int32} {v2 : Int32} {s : mT} (i0 : isCo v0) : ∀ (n : Nat) (q : Int32 × Int32) (r : Int32), wh n (gC_stepsOn_h5 v0 v1 v2 s) q = some r → ∀ o, (fun r => Ev (d + 1) 21 39 [(3, .int r)] [] (uS L s) o) r → Ev (d + 1) 21 5 [(0, .ref v0), (1, .int v1), (2, .int v2), (3, .int q.1), (4, .int q.2)] [] (uS L s) o :=
  fun n q r h o hc => wh_ev (E := fun (q : Int32 × Int32) o => Ev (d + 1) 21 5 [(0, .ref v0), (1, .int v1), (2, .int v2), (3, .int q.1), (4, .int q.2)] [] (uS L s) o) (C := fun (r : Int32) o => (fun r => Ev (d + 1) 21 39 [(3, .int r)] [] (uS L s) o) r) (gC_stepsOn_h5_ok hd i0 ) n q r h o hc
def gC_stepsOn (v0 : Nat) (v1 : Int32) (v2 : Int32) (s : mT) : Option (Int32) :=
  (wh FU (gC_stepsOn_h5 v0 v1 v2 s) ((0 : Int32), (0 : Int32))).bind fun x8 =>
  some (x8)
set_option maxRecDepth 8000 in
theorem gC_stepsOn_ok {L d : Nat} (hd : 1 ≤ d) {v0 : Nat} {v1 : Int32} {v2 : Int32} {s : mT} (i0 : isCo v0) {p : Int32} (h : gC_stepsOn v0 v1 v2 s = some p) : Ev d 21 0 [(0, .ref v0), (1, .int v1), (2, .int v2)] [] (uS L s) (some (.int p), uS L s) := by
  obtain ⟨d, rfl⟩ : ∃ e, d = e + 1 := ⟨d - 1, by omega⟩
  obtain ⟨o, ho⟩ : ∃ o : Option Value × mS, o = (some (.int p), uS L s) := ⟨_, rfl⟩
  rw [← ho]
  unfold gC_stepsOn at h
  refine Ev.seg D_21 [(.iconst 0, 1), (.istore_n 3, 1), (.iconst 0, 1), (.istore 4, 2)] (by decide +kernel) (j := 0) (pc' := 5) (lv' := [(4, .int (0 : Int32)), (3, .int (0 : Int32)), (0, .ref v0), (1, .int v1), (2, .int v2)]) (st' := []) rfl ?_
  obtain ⟨x8, w8, h⟩ := bd h
  have j8 : Ev (d + 1) 21 39 [(3, .int x8)] [] (uS L s) o := by
    clear w8
    refine Ev.seg D_21 [(.iload_n 3, 1)] (by decide +kernel) (j := 0) (pc' := 40) (lv' := [(3, .int x8)]) (st' := [.int x8]) rfl ?_
    cases h
    obtain rfl : o = _ := ho
    exact Ev.iret D_21 (by decide +kernel)
  exact Ev.sub (lv' := [(0, .ref v0), (1, .int v1), (2, .int v2), (3, .int (0 : Int32)), (4, .int (0 : Int32))]) (subL_cons rfl (subL_cons rfl (subL_cons rfl (subL_cons rfl (subL_cons rfl subL_nil))))) (gC_stepsOn_h5_w hd i0  _ _ _ w8 _ j8)
/- Course rank: 22 -/
def gC_rank_h5 (v0 : Nat) (v1 : Int32) (v2 : Int32) (s : mT) (q : Int32 × Int32) : Option ((Int32 × Int32) ⊕ (Int32)) :=
  if (s.1 16 5) ≤ q.2 then
    some (.inr q.1)
  else
    if ¬ (v2 < 0 ∨ 21 ≤ v2.toNatClampNeg) then
      (rdI (s.1 (v0 + 28 + v2.toNatClampNeg)) 5 q.2).bind fun x6 =>
      if ¬ (v2 < 0 ∨ 21 ≤ v2.toNatClampNeg) then
        (rdI (s.1 (v0 + 28 + v2.toNatClampNeg)) 5 v1).bind fun x9 =>
        (
          if 0 < (x6 - x9) then
            some (q.1 + (1 : Int32))
          else
            if (x6 - x9) = 0 then
              if v1 ≤ q.2 then
                some (q.1)
              else
                some (q.1 + (1 : Int32))
            else
              some (q.1) : Option (Int32)).bind fun x10 =>
        some (.inl (x10, q.2 + (1 : Int32)))
      else none
    else none
set_option maxRecDepth 8000 in
theorem gC_rank_h5_ok {L d : Nat} (hd : 1 ≤ d + 1) {v0 : Nat} {v1 : Int32} {v2 : Int32} {s : mT} (i0 : isCo v0) : ∀ (q : Int32 × Int32) (x : (Int32 × Int32) ⊕ (Int32)), gC_rank_h5 v0 v1 v2 s q = some x → ∀ o, sK (fun q => Ev (d + 1) 22 5 [(0, .ref v0), (1, .int v1), (2, .int v2), (3, .int q.1), (4, .int q.2)] [] (uS L s) o) (fun r => Ev (d + 1) 22 62 [(3, .int r)] [] (uS L s) o) x → Ev (d + 1) 22 5 [(0, .ref v0), (1, .int v1), (2, .int v2), (3, .int q.1), (4, .int q.2)] [] (uS L s) o := by
  intro q x h o ho
  unfold gC_rank_h5 at h
  refine Ev.seg D_22 [(.iload 4, 2), (.aload_n 0, 1)] (by decide +kernel) (j := 0) (pc' := 8) (lv' := [(0, .ref v0), (1, .int v1), (2, .int v2), (3, .int q.1), (4, .int q.2)]) (st' := [.ref v0, .int q.2]) rfl ?_
  refine Ev.getR D_22 (by decide +kernel) F_0_42 T_0_0 (x := 16) (S_oR (co_o i0) (co_r i0 0 16 (by decide +kernel))) ?_
  refine Ev.getI D_22 (by decide +kernel) F_0_113 (Or.inl T_2_5) (S_oI k_16) ?_
  refine Ev.icmp D_22 (c := .ge) (off := 48) (by decide +kernel) (t := 62) rfl (fun c3 => ?_) (fun c3 => ?_)
  · have c3 : (s.1 16 5) ≤ q.2 := of_decide_eq_true c3
    rw [if_pos c3] at h
    cases h
    exact Ev.sub (lv' := [(3, .int q.1)]) (subL_cons rfl subL_nil) ho
  · have c3 : ¬ (s.1 16 5) ≤ q.2 := of_decide_eq_false c3
    rw [if_neg c3] at h
    refine Ev.seg D_22 [(.aload_n 0, 1)] (by decide +kernel) (j := 0) (pc' := 18) (lv' := [(0, .ref v0), (1, .int v1), (2, .int v2), (3, .int q.1), (4, .int q.2)]) (st' := [.ref v0]) rfl ?_
    refine Ev.getR D_22 (by decide +kernel) F_0_33 T_0_7 (x := (v0 + 27)) (S_oR (co_o i0) (co_r2 i0 7 27 (by decide +kernel))) ?_
    refine Ev.seg D_22 [(.iload_n 2, 1)] (by decide +kernel) (j := 0) (pc' := 22) (lv' := [(0, .ref v0), (1, .int v1), (2, .int v2), (3, .int q.1), (4, .int q.2)]) (st' := [.int v2, .ref (v0 + 27)]) rfl ?_
    by_cases b22 : ¬ (v2 < 0 ∨ 21 ≤ v2.toNatClampNeg)
    rotate_left
    · rw [if_neg b22] at h; cases h
    rw [if_pos b22] at h
    refine Ev.aald D_22 (by decide +kernel) (kd := 26) ⟨by decide, by decide⟩ (x := (v0 + 28 + v2.toNatClampNeg)) (S_aR (co_k i0 27 _ (by decide +kernel)) b22 (co_aa i0 27 21 (by decide +kernel) b22)) ?_
    refine Ev.seg D_22 [(.iload 4, 2)] (by decide +kernel) (j := 0) (pc' := 25) (lv' := [(0, .ref v0), (1, .int v1), (2, .int v2), (3, .int q.1), (4, .int q.2)]) (st' := [.int q.2, .ref (v0 + 28 + v2.toNatClampNeg)]) rfl ?_
    obtain ⟨x6, e6, h⟩ := bd h
    refine Ev.iald D_22 (by decide +kernel) (S_aI (co_row i0 28 21 (by decide +kernel) b22) e6) ?_
    refine Ev.seg D_22 [(.aload_n 0, 1)] (by decide +kernel) (j := 0) (pc' := 27) (lv' := [(0, .ref v0), (1, .int v1), (2, .int v2), (3, .int q.1), (4, .int q.2)]) (st' := [.ref v0, .int x6]) rfl ?_
    refine Ev.getR D_22 (by decide +kernel) F_0_33 T_0_7 (x := (v0 + 27)) (S_oR (co_o i0) (co_r2 i0 7 27 (by decide +kernel))) ?_
    refine Ev.seg D_22 [(.iload_n 2, 1)] (by decide +kernel) (j := 0) (pc' := 31) (lv' := [(0, .ref v0), (1, .int v1), (2, .int v2), (3, .int q.1), (4, .int q.2)]) (st' := [.int v2, .ref (v0 + 27), .int x6]) rfl ?_
    by_cases b31 : ¬ (v2 < 0 ∨ 21 ≤ v2.toNatClampNeg)
    rotate_left
    · rw [if_neg b31] at h; cases h
    rw [if_pos b31] at h
    refine Ev.aald D_22 (by decide +kernel) (kd := 26) ⟨by decide, by decide⟩ (x := (v0 + 28 + v2.toNatClampNeg)) (S_aR (co_k i0 27 _ (by decide +kernel)) b31 (co_aa i0 27 21 (by decide +kernel) b31)) ?_
    refine Ev.seg D_22 [(.iload_n 1, 1)] (by decide +kernel) (j := 0) (pc' := 33) (lv' := [(0, .ref v0), (1, .int v1), (2, .int v2), (3, .int q.1), (4, .int q.2)]) (st' := [.int v1, .ref (v0 + 28 + v2.toNatClampNeg), .int x6]) rfl ?_
    obtain ⟨x9, e9, h⟩ := bd h
    refine Ev.iald D_22 (by decide +kernel) (S_aI (co_row i0 28 21 (by decide +kernel) b31) e9) ?_
    refine Ev.seg D_22 [(.isub, 1), (.istore 5, 2), (.iload 5, 2)] (by decide +kernel) (j := 0) (pc' := 39) (lv' := [(5, .int (x6 - x9)), (0, .ref v0), (1, .int v1), (2, .int v2), (3, .int q.1), (4, .int q.2)]) (st' := [.int (x6 - x9)]) rfl ?_
    obtain ⟨x10, g10, h⟩ := bd h
    have j10 : Ev (d + 1) 22 56 [(0, .ref v0), (1, .int v1), (2, .int v2), (3, .int x10), (4, .int q.2)] [] (uS L s) o := by
      clear g10
      refine Ev.seg D_22 [(.iinc 4 1, 3), (.goto (-54), 3)] (by decide +kernel) (j := 0) (pc' := 5) (lv' := [(4, .int (q.2 + (1 : Int32))), (0, .ref v0), (1, .int v1), (2, .int v2), (3, .int x10)]) (st' := []) rfl ?_
      cases h
      exact Ev.sub (lv' := [(0, .ref v0), (1, .int v1), (2, .int v2), (3, .int (x10)), (4, .int (q.2 + (1 : Int32)))]) (subL_cons rfl (subL_cons rfl (subL_cons rfl (subL_cons rfl (subL_cons rfl subL_nil))))) ho
    clear h
    refine Ev.if_ D_22 (c := .gt) (off := 14) (by decide +kernel) (t := 53) rfl (fun c10 => ?_) (fun c10 => ?_)
    · have c10 : 0 < (x6 - x9) := of_decide_eq_true c10
      rw [if_pos c10] at g10
      refine Ev.seg D_22 [(.iinc 3 1, 3)] (by decide +kernel) (j := 0) (pc' := 56) (lv' := [(3, .int (q.1 + (1 : Int32))), (5, .int (x6 - x9)), (0, .ref v0), (1, .int v1), (2, .int v2), (4, .int q.2)]) (st' := []) rfl ?_
      cases g10
      exact Ev.sub2 j10 (subL_cons rfl (subL_cons rfl (subL_cons rfl (subL_cons rfl (subL_cons rfl subL_nil)))))
    · have c10 : ¬ 0 < (x6 - x9) := of_decide_eq_false c10
      rw [if_neg c10] at g10
      refine Ev.seg D_22 [(.iload 5, 2)] (by decide +kernel) (j := 0) (pc' := 44) (lv' := [(5, .int (x6 - x9)), (0, .ref v0), (1, .int v1), (2, .int v2), (3, .int q.1), (4, .int q.2)]) (st' := [.int (x6 - x9)]) rfl ?_
      refine Ev.if_ D_22 (c := .ne) (off := 12) (by decide +kernel) (t := 56) rfl (fun c11 => ?_) (fun c11 => ?_)
      · have c11 : ¬ (x6 - x9) = 0 := of_decide_eq_true c11
        rw [if_neg c11] at g10
        cases g10
        exact Ev.sub2 j10 (subL_cons rfl (subL_cons rfl (subL_cons rfl (subL_cons rfl (subL_cons rfl subL_nil)))))
      · have c11 : (x6 - x9) = 0 := Decidable.of_not_not (of_decide_eq_false c11)
        rw [if_pos c11] at g10
        refine Ev.seg D_22 [(.iload 4, 2), (.iload_n 1, 1)] (by decide +kernel) (j := 0) (pc' := 50) (lv' := [(5, .int (x6 - x9)), (0, .ref v0), (1, .int v1), (2, .int v2), (3, .int q.1), (4, .int q.2)]) (st' := [.int v1, .int q.2]) rfl ?_
        refine Ev.icmp D_22 (c := .ge) (off := 6) (by decide +kernel) (t := 56) rfl (fun c12 => ?_) (fun c12 => ?_)
        · have c12 : v1 ≤ q.2 := of_decide_eq_true c12
          rw [if_pos c12] at g10
          cases g10
          exact Ev.sub2 j10 (subL_cons rfl (subL_cons rfl (subL_cons rfl (subL_cons rfl (subL_cons rfl subL_nil)))))
        · have c12 : ¬ v1 ≤ q.2 := of_decide_eq_false c12
          rw [if_neg c12] at g10
          refine Ev.seg D_22 [(.iinc 3 1, 3)] (by decide +kernel) (j := 0) (pc' := 56) (lv' := [(3, .int (q.1 + (1 : Int32))), (5, .int (x6 - x9)), (0, .ref v0), (1, .int v1), (2, .int v2), (4, .int q.2)]) (st' := []) rfl ?_
          cases g10
          exact Ev.sub2 j10 (subL_cons rfl (subL_cons rfl (subL_cons rfl (subL_cons rfl (subL_cons rfl subL_nil)))))
theorem gC_rank_h5_w {L d : Nat} (hd : 1 ≤ d + 1) {v0 : Nat} {v1 : Int32} {v2 : Int32} {s : mT} (i0 : isCo v0) : ∀ (n : Nat) (q : Int32 × Int32) (r : Int32), wh n (gC_rank_h5 v0 v1 v2 s) q = some r → ∀ o, (fun r => Ev (d + 1) 22 62 [(3, .int r)] [] (uS L s) o) r → Ev (d + 1) 22 5 [(0, .ref v0), (1, .int v1), (2, .int v2), (3, .int q.1), (4, .int q.2)] [] (uS L s) o :=
  fun n q r h o hc => wh_ev (E := fun (q : Int32 × Int32) o => Ev (d + 1) 22 5 [(0, .ref v0), (1, .int v1), (2, .int v2), (3, .int q.1), (4, .int q.2)] [] (uS L s) o) (C := fun (r : Int32) o => (fun r => Ev (d + 1) 22 62 [(3, .int r)] [] (uS L s) o) r) (gC_rank_h5_ok hd i0 ) n q r h o hc
def gC_rank (v0 : Nat) (v1 : Int32) (v2 : Int32) (s : mT) : Option (Int32) :=
  (wh FU (gC_rank_h5 v0 v1 v2 s) ((0 : Int32), (0 : Int32))).bind fun x13 =>
  some (x13)
set_option maxRecDepth 8000 in
theorem gC_rank_ok {L d : Nat} (hd : 1 ≤ d) {v0 : Nat} {v1 : Int32} {v2 : Int32} {s : mT} (i0 : isCo v0) {p : Int32} (h : gC_rank v0 v1 v2 s = some p) : Ev d 22 0 [(0, .ref v0), (1, .int v1), (2, .int v2)] [] (uS L s) (some (.int p), uS L s) := by
  obtain ⟨d, rfl⟩ : ∃ e, d = e + 1 := ⟨d - 1, by omega⟩
  obtain ⟨o, ho⟩ : ∃ o : Option Value × mS, o = (some (.int p), uS L s) := ⟨_, rfl⟩
  rw [← ho]
  unfold gC_rank at h
  refine Ev.seg D_22 [(.iconst 0, 1), (.istore_n 3, 1), (.iconst 0, 1), (.istore 4, 2)] (by decide +kernel) (j := 0) (pc' := 5) (lv' := [(4, .int (0 : Int32)), (3, .int (0 : Int32)), (0, .ref v0), (1, .int v1), (2, .int v2)]) (st' := []) rfl ?_
  obtain ⟨x13, w13, h⟩ := bd h
  have j13 : Ev (d + 1) 22 62 [(3, .int x13)] [] (uS L s) o := by
    clear w13
    refine Ev.seg D_22 [(.iload_n 3, 1)] (by decide +kernel) (j := 0) (pc' := 63) (lv' := [(3, .int x13)]) (st' := [.int x13]) rfl ?_
    cases h
    obtain rfl : o = _ := ho
    exact Ev.iret D_22 (by decide +kernel)
  exact Ev.sub (lv' := [(0, .ref v0), (1, .int v1), (2, .int v2), (3, .int (0 : Int32)), (4, .int (0 : Int32))]) (subL_cons rfl (subL_cons rfl (subL_cons rfl (subL_cons rfl (subL_cons rfl subL_nil))))) (gC_rank_h5_w hd i0  _ _ _ w13 _ j13)
/- Course sailToWinner: 23 -/
def gC_sailToWinner (v0 : Nat) (s : mT) : Option (Int32 × mT) :=
  (gC_sail v0 (s.1 16 0) s).bind fun p3 =>
  (gC_winner v0 p3).bind fun p4 =>
  some ((p4, p3))
set_option maxRecDepth 8000 in
theorem gC_sailToWinner_ok {L d : Nat} (hd : 5 ≤ d) {v0 : Nat} {s : mT} (i0 : isCo v0) {p : Int32 × mT} (h : gC_sailToWinner v0 s = some p) : Ev d 23 0 [(0, .ref v0)] [] (uS L s) (some (.int p.1), uS L p.2) := by
  obtain ⟨d, rfl⟩ : ∃ e, d = e + 1 := ⟨d - 1, by omega⟩
  obtain ⟨o, ho⟩ : ∃ o : Option Value × mS, o = (some (.int p.1), uS L p.2) := ⟨_, rfl⟩
  rw [← ho]
  unfold gC_sailToWinner at h
  refine Ev.seg D_23 [(.aload_n 0, 1), (.aload_n 0, 1)] (by decide +kernel) (j := 0) (pc' := 2) (lv' := [(0, .ref v0)]) (st' := [.ref v0, .ref v0]) rfl ?_
  refine Ev.getR D_23 (by decide +kernel) F_0_42 T_0_0 (x := 16) (S_oR (co_o i0) (co_r i0 0 16 (by decide +kernel))) ?_
  refine Ev.getI D_23 (by decide +kernel) F_0_64 (Or.inl T_2_0) (S_oI k_16) ?_
  obtain ⟨p3, e3, h⟩ := bd h
  refine Ev.callv D_23 E_5 (by decide +kernel) C_0_106 v0 [.int (s.1 16 0)] (r := []) rfl (gd_o (co_o i0) (by decide)) rfl (Nat.le_of_ble_eq_true rfl) (Nat.le_of_ble_eq_true rfl) (gC_sail_ok (by omega) i0 e3) ?_
  refine Ev.seg D_23 [(.aload_n 0, 1)] (by decide +kernel) (j := 0) (pc' := 12) (lv' := [(0, .ref v0)]) (st' := [.ref v0]) rfl ?_
  obtain ⟨p4, e4, h⟩ := bd h
  refine Ev.callv D_23 E_20 (by decide +kernel) C_0_109 v0 [] (r := []) rfl (gd_o (co_o i0) (by decide)) rfl (Nat.le_of_ble_eq_true rfl) (Nat.le_of_ble_eq_true rfl) (gC_winner_ok (by omega) i0 e4) ?_
  cases h
  obtain rfl : o = _ := ho
  exact Ev.iret D_23 (by decide +kernel)
/- Course hush: 24 -/
def gC_hush_h2 (v0 : Nat) (v1 : Int32) (q : Int32 × mT) : Option ((Int32 × mT) ⊕ (mT)) :=
  if (20 : Int32) < q.1 then
    some (.inr q.2)
  else
    (rdI (q.2.1 (v0 + 26)) 21 q.1).bind fun x3 =>
    (wrI q.2 (v0 + 26) 21 q.1 (x3 &&& (v1 ^^^ (-1 : Int32)))).bind fun s4 =>
    some (.inl (q.1 + (1 : Int32), s4))
set_option maxRecDepth 8000 in
theorem gC_hush_h2_ok {L d : Nat} (hd : 1 ≤ d + 1) {v0 : Nat} {v1 : Int32} (i0 : isCo v0) : ∀ (q : Int32 × mT) (x : (Int32 × mT) ⊕ (mT)), gC_hush_h2 v0 v1 q = some x → ∀ o, sK (fun q => Ev (d + 1) 24 2 [(0, .ref v0), (1, .int v1), (2, .int q.1)] [] (uS L q.2) o) (fun r => Ev (d + 1) 24 26 [] [] (uS L r) o) x → Ev (d + 1) 24 2 [(0, .ref v0), (1, .int v1), (2, .int q.1)] [] (uS L q.2) o := by
  intro q x h o ho
  unfold gC_hush_h2 at h
  refine Ev.seg D_24 [(.iload_n 2, 1), (.bipush 20, 2)] (by decide +kernel) (j := 0) (pc' := 5) (lv' := [(0, .ref v0), (1, .int v1), (2, .int q.1)]) (st' := [.int (20 : Int32), .int q.1]) rfl ?_
  refine Ev.icmp D_24 (c := .gt) (off := 21) (by decide +kernel) (t := 26) rfl (fun c1 => ?_) (fun c1 => ?_)
  · have c1 : (20 : Int32) < q.1 := of_decide_eq_true c1
    rw [if_pos c1] at h
    cases h
    exact Ev.sub (lv' := []) subL_nil ho
  · have c1 : ¬ (20 : Int32) < q.1 := of_decide_eq_false c1
    rw [if_neg c1] at h
    refine Ev.seg D_24 [(.aload_n 0, 1)] (by decide +kernel) (j := 0) (pc' := 9) (lv' := [(0, .ref v0), (1, .int v1), (2, .int q.1)]) (st' := [.ref v0]) rfl ?_
    refine Ev.getR D_24 (by decide +kernel) F_0_30 T_0_6 (x := (v0 + 26)) (S_oR (co_o i0) (co_r2 i0 6 26 (by decide +kernel))) ?_
    refine Ev.seg D_24 [(.iload_n 2, 1), (.dup2, 1)] (by decide +kernel) (j := 0) (pc' := 14) (lv' := [(0, .ref v0), (1, .int v1), (2, .int q.1)]) (st' := [.int q.1, .ref (v0 + 26), .int q.1, .ref (v0 + 26)]) rfl ?_
    obtain ⟨x3, e3, h⟩ := bd h
    refine Ev.iald D_24 (by decide +kernel) (S_aI (co_k i0 26 _ (by decide +kernel)) e3) ?_
    refine Ev.seg D_24 [(.iload_n 1, 1), (.iconst (-1), 1), (.ixor, 1), (.iand, 1)] (by decide +kernel) (j := 0) (pc' := 19) (lv' := [(0, .ref v0), (1, .int v1), (2, .int q.1)]) (st' := [.int (x3 &&& (v1 ^^^ (-1 : Int32))), .int q.1, .ref (v0 + 26)]) rfl ?_
    obtain ⟨s4, e4, h⟩ := bd h
    refine Ev.iast D_24 (by decide +kernel) (S_sI (co_k i0 26 _ (by decide +kernel)) e4) ?_
    refine Ev.seg D_24 [(.iinc 2 1, 3), (.goto (-21), 3)] (by decide +kernel) (j := 0) (pc' := 2) (lv' := [(2, .int (q.1 + (1 : Int32))), (0, .ref v0), (1, .int v1)]) (st' := []) rfl ?_
    cases h
    exact Ev.sub (lv' := [(0, .ref v0), (1, .int v1), (2, .int (q.1 + (1 : Int32)))]) (subL_cons rfl (subL_cons rfl (subL_cons rfl subL_nil))) ho
theorem gC_hush_h2_w {L d : Nat} (hd : 1 ≤ d + 1) {v0 : Nat} {v1 : Int32} (i0 : isCo v0) : ∀ (n : Nat) (q : Int32 × mT) (r : mT), wh n (gC_hush_h2 v0 v1) q = some r → ∀ o, (fun r => Ev (d + 1) 24 26 [] [] (uS L r) o) r → Ev (d + 1) 24 2 [(0, .ref v0), (1, .int v1), (2, .int q.1)] [] (uS L q.2) o :=
  fun n q r h o hc => wh_ev (E := fun (q : Int32 × mT) o => Ev (d + 1) 24 2 [(0, .ref v0), (1, .int v1), (2, .int q.1)] [] (uS L q.2) o) (C := fun (r : mT) o => (fun r => Ev (d + 1) 24 26 [] [] (uS L r) o) r) (gC_hush_h2_ok hd i0 ) n q r h o hc
def gC_hush (v0 : Nat) (v1 : Int32) (s : mT) : Option (mT) :=
  (wh FU (gC_hush_h2 v0 v1) ((0 : Int32), s)).bind fun x5 =>
  some (x5)
set_option maxRecDepth 8000 in
theorem gC_hush_ok {L d : Nat} (hd : 1 ≤ d) {v0 : Nat} {v1 : Int32} {s : mT} (i0 : isCo v0) {p : mT} (h : gC_hush v0 v1 s = some p) : Ev d 24 0 [(0, .ref v0), (1, .int v1)] [] (uS L s) (none, uS L p) := by
  obtain ⟨d, rfl⟩ : ∃ e, d = e + 1 := ⟨d - 1, by omega⟩
  obtain ⟨o, ho⟩ : ∃ o : Option Value × mS, o = (none, uS L p) := ⟨_, rfl⟩
  rw [← ho]
  unfold gC_hush at h
  refine Ev.seg D_24 [(.iconst 0, 1), (.istore_n 2, 1)] (by decide +kernel) (j := 0) (pc' := 2) (lv' := [(2, .int (0 : Int32)), (0, .ref v0), (1, .int v1)]) (st' := []) rfl ?_
  obtain ⟨x5, w5, h⟩ := bd h
  have j5 : Ev (d + 1) 24 26 [] [] (uS L x5) o := by
    clear w5
    cases h
    obtain rfl : o = _ := ho
    exact Ev.vret D_24 (by decide +kernel)
  exact Ev.sub (lv' := [(0, .ref v0), (1, .int v1), (2, .int (0 : Int32))]) (subL_cons rfl (subL_cons rfl (subL_cons rfl subL_nil))) (gC_hush_h2_w hd i0  _ _ _ w5 _ j5)
/- Course startLooks: 25 -/
def gC_startLooks (v0 : Nat) (s : mT) : Option (mT) :=
  (cpI s 20 5 (0 : Int32) (v0 + 3) 5 (0 : Int32) (5 : Int32)).bind fun s4 =>
  some (s4)
set_option maxRecDepth 8000 in
theorem gC_startLooks_ok {L d : Nat} (hd : 1 ≤ d) {v0 : Nat} {s : mT} (i0 : isCo v0) {p : mT} (h : gC_startLooks v0 s = some p) : Ev d 25 0 [(0, .ref v0)] [] (uS L s) (none, uS L p) := by
  obtain ⟨d, rfl⟩ : ∃ e, d = e + 1 := ⟨d - 1, by omega⟩
  obtain ⟨o, ho⟩ : ∃ o : Option Value × mS, o = (none, uS L p) := ⟨_, rfl⟩
  rw [← ho]
  unfold gC_startLooks at h
  refine Ev.seg D_25 [(.aload_n 0, 1)] (by decide +kernel) (j := 0) (pc' := 1) (lv' := [(0, .ref v0)]) (st' := [.ref v0]) rfl ?_
  refine Ev.getR D_25 (by decide +kernel) F_0_42 T_0_0 (x := 16) (S_oR (co_o i0) (co_r i0 0 16 (by decide +kernel))) ?_
  refine Ev.getR D_25 (by decide +kernel) F_0_100 T_2_12 (x := 20) (S_oR k_16 (by decide +kernel)) ?_
  refine Ev.seg D_25 [(.iconst 0, 1), (.aload_n 0, 1)] (by decide +kernel) (j := 0) (pc' := 9) (lv' := [(0, .ref v0)]) (st' := [.ref v0, .int (0 : Int32), .ref 20]) rfl ?_
  refine Ev.getR D_25 (by decide +kernel) F_0_22 T_0_4 (x := (v0 + 3)) (S_oR (co_o i0) (co_r2 i0 4 3 (by decide +kernel))) ?_
  refine Ev.seg D_25 [(.iconst 0, 1), (.iconst 5, 1)] (by decide +kernel) (j := 0) (pc' := 14) (lv' := [(0, .ref v0)]) (st' := [.int (5 : Int32), .int (0 : Int32), .ref (v0 + 3), .int (0 : Int32), .ref 20]) rfl ?_
  obtain ⟨s4, e4, h⟩ := bd h
  refine Ev.cpI D_25 (by decide +kernel) (Nat.succ_pos _) C_0_54 (Nat.le_of_ble_eq_true rfl) (S_cpI k_20 (co_k i0 3 _ (by decide +kernel)) e4) ?_
  cases h
  obtain rfl : o = _ := ho
  exact Ev.vret D_25 (by decide +kernel)
/- Course nextLooks: 26 -/
def gC_nextLooks_h10 (v0 : Nat) (q : Int32 × mT) : Option ((Int32 × mT) ⊕ (Int32 × mT)) :=
  if q.1 < 0 then
    some (.inr (((0 : Int32), q.2)))
  else
    (rdI (q.2.1 (v0 + 3)) 5 q.1).bind fun x4 =>
    (rdI (q.2.1 21) 5 q.1).bind fun x7 =>
    if x7 ≤ x4 then
      (rdI (q.2.1 20) 5 q.1).bind fun x12 =>
      (wrI q.2 (v0 + 3) 5 q.1 x12).bind fun s13 =>
      some (.inl (q.1 + (-1 : Int32), s13))
    else
      (rdI (q.2.1 (v0 + 3)) 5 q.1).bind fun x15 =>
      (wrI q.2 (v0 + 3) 5 q.1 (x15 + (1 : Int32))).bind fun s16 =>
      some (.inr (((1 : Int32), s16)))
set_option maxRecDepth 8000 in
theorem gC_nextLooks_h10_ok {L d : Nat} (hd : 1 ≤ d + 1) {v0 : Nat} (i0 : isCo v0) : ∀ (q : Int32 × mT) (x : (Int32 × mT) ⊕ (Int32 × mT)), gC_nextLooks_h10 v0 q = some x → ∀ o, sK (fun q => Ev (d + 1) 26 10 [(0, .ref v0), (1, .int q.1)] [] (uS L q.2) o) (fun r => o = (some (.int r.1), uS L r.2)) x → Ev (d + 1) 26 10 [(0, .ref v0), (1, .int q.1)] [] (uS L q.2) o := by
  intro q x h o ho
  unfold gC_nextLooks_h10 at h
  refine Ev.seg D_26 [(.iload_n 1, 1)] (by decide +kernel) (j := 0) (pc' := 11) (lv' := [(0, .ref v0), (1, .int q.1)]) (st' := [.int q.1]) rfl ?_
  refine Ev.if_ D_26 (c := .lt) (off := 54) (by decide +kernel) (t := 65) rfl (fun c1 => ?_) (fun c1 => ?_)
  · have c1 : q.1 < 0 := of_decide_eq_true c1
    rw [if_pos c1] at h
    refine Ev.seg D_26 [(.iconst 0, 1)] (by decide +kernel) (j := 0) (pc' := 66) (lv' := [(0, .ref v0), (1, .int q.1)]) (st' := [.int (0 : Int32)]) rfl ?_
    cases h
    obtain rfl : o = _ := ho
    exact Ev.zret D_26 (by decide) (by decide +kernel)
  · have c1 : ¬ q.1 < 0 := of_decide_eq_false c1
    rw [if_neg c1] at h
    refine Ev.seg D_26 [(.aload_n 0, 1)] (by decide +kernel) (j := 0) (pc' := 15) (lv' := [(0, .ref v0), (1, .int q.1)]) (st' := [.ref v0]) rfl ?_
    refine Ev.getR D_26 (by decide +kernel) F_0_22 T_0_4 (x := (v0 + 3)) (S_oR (co_o i0) (co_r2 i0 4 3 (by decide +kernel))) ?_
    refine Ev.seg D_26 [(.iload_n 1, 1)] (by decide +kernel) (j := 0) (pc' := 19) (lv' := [(0, .ref v0), (1, .int q.1)]) (st' := [.int q.1, .ref (v0 + 3)]) rfl ?_
    obtain ⟨x4, e4, h⟩ := bd h
    refine Ev.iald D_26 (by decide +kernel) (S_aI (co_k i0 3 _ (by decide +kernel)) e4) ?_
    refine Ev.seg D_26 [(.aload_n 0, 1)] (by decide +kernel) (j := 0) (pc' := 21) (lv' := [(0, .ref v0), (1, .int q.1)]) (st' := [.ref v0, .int x4]) rfl ?_
    refine Ev.getR D_26 (by decide +kernel) F_0_42 T_0_0 (x := 16) (S_oR (co_o i0) (co_r i0 0 16 (by decide +kernel))) ?_
    refine Ev.getR D_26 (by decide +kernel) F_0_103 T_2_13 (x := 21) (S_oR k_16 (by decide +kernel)) ?_
    refine Ev.seg D_26 [(.iload_n 1, 1)] (by decide +kernel) (j := 0) (pc' := 28) (lv' := [(0, .ref v0), (1, .int q.1)]) (st' := [.int q.1, .ref 21, .int x4]) rfl ?_
    obtain ⟨x7, e7, h⟩ := bd h
    refine Ev.iald D_26 (by decide +kernel) (S_aI k_21 e7) ?_
    refine Ev.icmp D_26 (c := .ge) (off := 15) (by decide +kernel) (t := 44) rfl (fun c8 => ?_) (fun c8 => ?_)
    · have c8 : x7 ≤ x4 := of_decide_eq_true c8
      rw [if_pos c8] at h
      refine Ev.seg D_26 [(.aload_n 0, 1)] (by decide +kernel) (j := 0) (pc' := 45) (lv' := [(0, .ref v0), (1, .int q.1)]) (st' := [.ref v0]) rfl ?_
      refine Ev.getR D_26 (by decide +kernel) F_0_22 T_0_4 (x := (v0 + 3)) (S_oR (co_o i0) (co_r2 i0 4 3 (by decide +kernel))) ?_
      refine Ev.seg D_26 [(.iload_n 1, 1), (.aload_n 0, 1)] (by decide +kernel) (j := 0) (pc' := 50) (lv' := [(0, .ref v0), (1, .int q.1)]) (st' := [.ref v0, .int q.1, .ref (v0 + 3)]) rfl ?_
      refine Ev.getR D_26 (by decide +kernel) F_0_42 T_0_0 (x := 16) (S_oR (co_o i0) (co_r i0 0 16 (by decide +kernel))) ?_
      refine Ev.getR D_26 (by decide +kernel) F_0_100 T_2_12 (x := 20) (S_oR k_16 (by decide +kernel)) ?_
      refine Ev.seg D_26 [(.iload_n 1, 1)] (by decide +kernel) (j := 0) (pc' := 57) (lv' := [(0, .ref v0), (1, .int q.1)]) (st' := [.int q.1, .ref 20, .int q.1, .ref (v0 + 3)]) rfl ?_
      obtain ⟨x12, e12, h⟩ := bd h
      refine Ev.iald D_26 (by decide +kernel) (S_aI k_20 e12) ?_
      obtain ⟨s13, e13, h⟩ := bd h
      refine Ev.iast D_26 (by decide +kernel) (S_sI (co_k i0 3 _ (by decide +kernel)) e13) ?_
      refine Ev.seg D_26 [(.iinc 1 (-1), 3), (.goto (-52), 3)] (by decide +kernel) (j := 0) (pc' := 10) (lv' := [(1, .int (q.1 + (-1 : Int32))), (0, .ref v0)]) (st' := []) rfl ?_
      cases h
      exact Ev.sub (lv' := [(0, .ref v0), (1, .int (q.1 + (-1 : Int32)))]) (subL_cons rfl (subL_cons rfl subL_nil)) ho
    · have c8 : ¬ x7 ≤ x4 := of_decide_eq_false c8
      rw [if_neg c8] at h
      refine Ev.seg D_26 [(.aload_n 0, 1)] (by decide +kernel) (j := 0) (pc' := 33) (lv' := [(0, .ref v0), (1, .int q.1)]) (st' := [.ref v0]) rfl ?_
      refine Ev.getR D_26 (by decide +kernel) F_0_22 T_0_4 (x := (v0 + 3)) (S_oR (co_o i0) (co_r2 i0 4 3 (by decide +kernel))) ?_
      refine Ev.seg D_26 [(.iload_n 1, 1), (.dup2, 1)] (by decide +kernel) (j := 0) (pc' := 38) (lv' := [(0, .ref v0), (1, .int q.1)]) (st' := [.int q.1, .ref (v0 + 3), .int q.1, .ref (v0 + 3)]) rfl ?_
      obtain ⟨x15, e15, h⟩ := bd h
      refine Ev.iald D_26 (by decide +kernel) (S_aI (co_k i0 3 _ (by decide +kernel)) e15) ?_
      refine Ev.seg D_26 [(.iconst 1, 1), (.iadd, 1)] (by decide +kernel) (j := 0) (pc' := 41) (lv' := [(0, .ref v0), (1, .int q.1)]) (st' := [.int (x15 + (1 : Int32)), .int q.1, .ref (v0 + 3)]) rfl ?_
      obtain ⟨s16, e16, h⟩ := bd h
      refine Ev.iast D_26 (by decide +kernel) (S_sI (co_k i0 3 _ (by decide +kernel)) e16) ?_
      refine Ev.seg D_26 [(.iconst 1, 1)] (by decide +kernel) (j := 0) (pc' := 43) (lv' := [(0, .ref v0), (1, .int q.1)]) (st' := [.int (1 : Int32)]) rfl ?_
      cases h
      obtain rfl : o = _ := ho
      exact Ev.zret D_26 (by decide) (by decide +kernel)
theorem gC_nextLooks_h10_w {L d : Nat} (hd : 1 ≤ d + 1) {v0 : Nat} (i0 : isCo v0) : ∀ (n : Nat) (q : Int32 × mT) (r : Int32 × mT), wh n (gC_nextLooks_h10 v0) q = some r → ∀ o, (fun r => o = (some (.int r.1), uS L r.2)) r → Ev (d + 1) 26 10 [(0, .ref v0), (1, .int q.1)] [] (uS L q.2) o :=
  fun n q r h o hc => wh_ev (E := fun (q : Int32 × mT) o => Ev (d + 1) 26 10 [(0, .ref v0), (1, .int q.1)] [] (uS L q.2) o) (C := fun (r : Int32 × mT) o => (fun r => o = (some (.int r.1), uS L r.2)) r) (gC_nextLooks_h10_ok hd i0 ) n q r h o hc
def gC_nextLooks (v0 : Nat) (s : mT) : Option (Int32 × mT) :=
  wh FU (gC_nextLooks_h10 v0) ((s.1 16 6) - (1 : Int32), s)
set_option maxRecDepth 8000 in
theorem gC_nextLooks_ok {L d : Nat} (hd : 1 ≤ d) {v0 : Nat} {s : mT} (i0 : isCo v0) {p : Int32 × mT} (h : gC_nextLooks v0 s = some p) : Ev d 26 0 [(0, .ref v0)] [] (uS L s) (some (.int p.1), uS L p.2) := by
  obtain ⟨d, rfl⟩ : ∃ e, d = e + 1 := ⟨d - 1, by omega⟩
  obtain ⟨o, ho⟩ : ∃ o : Option Value × mS, o = (some (.int p.1), uS L p.2) := ⟨_, rfl⟩
  rw [← ho]
  unfold gC_nextLooks at h
  refine Ev.seg D_26 [(.aload_n 0, 1)] (by decide +kernel) (j := 0) (pc' := 1) (lv' := [(0, .ref v0)]) (st' := [.ref v0]) rfl ?_
  refine Ev.getR D_26 (by decide +kernel) F_0_42 T_0_0 (x := 16) (S_oR (co_o i0) (co_r i0 0 16 (by decide +kernel))) ?_
  refine Ev.getI D_26 (by decide +kernel) F_0_67 (Or.inl T_2_6) (S_oI k_16) ?_
  refine Ev.seg D_26 [(.iconst 1, 1), (.isub, 1), (.istore_n 1, 1)] (by decide +kernel) (j := 0) (pc' := 10) (lv' := [(1, .int ((s.1 16 6) - (1 : Int32))), (0, .ref v0)]) (st' := []) rfl ?_
  exact Ev.sub (lv' := [(0, .ref v0), (1, .int ((s.1 16 6) - (1 : Int32)))]) (subL_cons rfl (subL_cons rfl subL_nil)) (gC_nextLooks_h10_w hd i0  _ _ _ h _ ho)
/- Course drawKingfishers: 27 -/
def gC_drawKingfishers_h2 (v0 : Nat) (v1 : Int32) (q : Int32 × mT) : Option ((Int32 × mT) ⊕ (mT)) :=
  if (q.2.1 16 0) ≤ q.1 then
    some (.inr q.2)
  else
    (
      if ((v1 >>> (q.1 &&& 31)) &&& (1 : Int32)) = (1 : Int32) then
        (gC_draw v0 q.1 (5 : Int32) q.2).bind fun p5 =>
        some (p5)
      else
        some (q.2) : Option (mT)).bind fun x4 =>
    some (.inl (q.1 + (1 : Int32), x4))
set_option maxRecDepth 8000 in
theorem gC_drawKingfishers_h2_ok {L d : Nat} (hd : 2 ≤ d + 1) {v0 : Nat} {v1 : Int32} (i0 : isCo v0) : ∀ (q : Int32 × mT) (x : (Int32 × mT) ⊕ (mT)), gC_drawKingfishers_h2 v0 v1 q = some x → ∀ o, sK (fun q => Ev (d + 1) 27 2 [(0, .ref v0), (1, .int v1), (2, .int q.1)] [] (uS L q.2) o) (fun r => Ev (d + 1) 27 34 [] [] (uS L r) o) x → Ev (d + 1) 27 2 [(0, .ref v0), (1, .int v1), (2, .int q.1)] [] (uS L q.2) o := by
  intro q x h o ho
  unfold gC_drawKingfishers_h2 at h
  refine Ev.seg D_27 [(.iload_n 2, 1), (.aload_n 0, 1)] (by decide +kernel) (j := 0) (pc' := 4) (lv' := [(0, .ref v0), (1, .int v1), (2, .int q.1)]) (st' := [.ref v0, .int q.1]) rfl ?_
  refine Ev.getR D_27 (by decide +kernel) F_0_42 T_0_0 (x := 16) (S_oR (co_o i0) (co_r i0 0 16 (by decide +kernel))) ?_
  refine Ev.getI D_27 (by decide +kernel) F_0_64 (Or.inl T_2_0) (S_oI k_16) ?_
  refine Ev.icmp D_27 (c := .ge) (off := 24) (by decide +kernel) (t := 34) rfl (fun c3 => ?_) (fun c3 => ?_)
  · have c3 : (q.2.1 16 0) ≤ q.1 := of_decide_eq_true c3
    rw [if_pos c3] at h
    cases h
    exact Ev.sub (lv' := []) subL_nil ho
  · have c3 : ¬ (q.2.1 16 0) ≤ q.1 := of_decide_eq_false c3
    rw [if_neg c3] at h
    refine Ev.seg D_27 [(.iload_n 1, 1), (.iload_n 2, 1), (.ishr, 1), (.iconst 1, 1), (.iand, 1), (.iconst 1, 1)] (by decide +kernel) (j := 0) (pc' := 19) (lv' := [(0, .ref v0), (1, .int v1), (2, .int q.1)]) (st' := [.int (1 : Int32), .int ((v1 >>> (q.1 &&& 31)) &&& (1 : Int32))]) rfl ?_
    obtain ⟨x4, g4, h⟩ := bd h
    have j4 : Ev (d + 1) 27 28 [(0, .ref v0), (1, .int v1), (2, .int q.1)] [] (uS L x4) o := by
      clear g4
      refine Ev.seg D_27 [(.iinc 2 1, 3), (.goto (-29), 3)] (by decide +kernel) (j := 0) (pc' := 2) (lv' := [(2, .int (q.1 + (1 : Int32))), (0, .ref v0), (1, .int v1)]) (st' := []) rfl ?_
      cases h
      exact Ev.sub (lv' := [(0, .ref v0), (1, .int v1), (2, .int (q.1 + (1 : Int32)))]) (subL_cons rfl (subL_cons rfl (subL_cons rfl subL_nil))) ho
    clear h
    refine Ev.icmp D_27 (c := .ne) (off := 9) (by decide +kernel) (t := 28) rfl (fun c4 => ?_) (fun c4 => ?_)
    · have c4 : ¬ ((v1 >>> (q.1 &&& 31)) &&& (1 : Int32)) = (1 : Int32) := of_decide_eq_true c4
      rw [if_neg c4] at g4
      cases g4
      exact Ev.sub2 j4 (subL_cons rfl (subL_cons rfl (subL_cons rfl subL_nil)))
    · have c4 : ((v1 >>> (q.1 &&& 31)) &&& (1 : Int32)) = (1 : Int32) := Decidable.of_not_not (of_decide_eq_false c4)
      rw [if_pos c4] at g4
      refine Ev.seg D_27 [(.aload_n 0, 1), (.iload_n 2, 1), (.iconst 5, 1)] (by decide +kernel) (j := 0) (pc' := 25) (lv' := [(0, .ref v0), (1, .int v1), (2, .int q.1)]) (st' := [.int (5 : Int32), .int q.1, .ref v0]) rfl ?_
      obtain ⟨p5, e5, g4⟩ := bd g4
      refine Ev.callv D_27 E_3 (by decide +kernel) C_0_79 v0 [.int q.1, .int (5 : Int32)] (r := []) rfl (gd_o (co_o i0) (by decide)) rfl (Nat.le_of_ble_eq_true rfl) (Nat.le_of_ble_eq_true rfl) (gC_draw_ok (by omega) i0 e5) ?_
      cases g4
      exact Ev.sub2 j4 (subL_cons rfl (subL_cons rfl (subL_cons rfl subL_nil)))
theorem gC_drawKingfishers_h2_w {L d : Nat} (hd : 2 ≤ d + 1) {v0 : Nat} {v1 : Int32} (i0 : isCo v0) : ∀ (n : Nat) (q : Int32 × mT) (r : mT), wh n (gC_drawKingfishers_h2 v0 v1) q = some r → ∀ o, (fun r => Ev (d + 1) 27 34 [] [] (uS L r) o) r → Ev (d + 1) 27 2 [(0, .ref v0), (1, .int v1), (2, .int q.1)] [] (uS L q.2) o :=
  fun n q r h o hc => wh_ev (E := fun (q : Int32 × mT) o => Ev (d + 1) 27 2 [(0, .ref v0), (1, .int v1), (2, .int q.1)] [] (uS L q.2) o) (C := fun (r : mT) o => (fun r => Ev (d + 1) 27 34 [] [] (uS L r) o) r) (gC_drawKingfishers_h2_ok hd i0 ) n q r h o hc
def gC_drawKingfishers (v0 : Nat) (v1 : Int32) (s : mT) : Option (mT) :=
  (wh FU (gC_drawKingfishers_h2 v0 v1) ((0 : Int32), s)).bind fun x6 =>
  some (x6)
set_option maxRecDepth 8000 in
theorem gC_drawKingfishers_ok {L d : Nat} (hd : 2 ≤ d) {v0 : Nat} {v1 : Int32} {s : mT} (i0 : isCo v0) {p : mT} (h : gC_drawKingfishers v0 v1 s = some p) : Ev d 27 0 [(0, .ref v0), (1, .int v1)] [] (uS L s) (none, uS L p) := by
  obtain ⟨d, rfl⟩ : ∃ e, d = e + 1 := ⟨d - 1, by omega⟩
  obtain ⟨o, ho⟩ : ∃ o : Option Value × mS, o = (none, uS L p) := ⟨_, rfl⟩
  rw [← ho]
  unfold gC_drawKingfishers at h
  refine Ev.seg D_27 [(.iconst 0, 1), (.istore_n 2, 1)] (by decide +kernel) (j := 0) (pc' := 2) (lv' := [(2, .int (0 : Int32)), (0, .ref v0), (1, .int v1)]) (st' := []) rfl ?_
  obtain ⟨x6, w6, h⟩ := bd h
  have j6 : Ev (d + 1) 27 34 [] [] (uS L x6) o := by
    clear w6
    cases h
    obtain rfl : o = _ := ho
    exact Ev.vret D_27 (by decide +kernel)
  exact Ev.sub (lv' := [(0, .ref v0), (1, .int v1), (2, .int (0 : Int32))]) (subL_cons rfl (subL_cons rfl (subL_cons rfl subL_nil))) (gC_drawKingfishers_h2_w hd i0  _ _ _ w6 _ j6)
/- Game fill: 30 -/
def gG_fill_h41 (v1 : Int32) (v2 : Int32) (v3 : Int32) (q : Int32 × mT) : Option ((Int32 × mT) ⊕ (mT)) :=
  (rdI (q.2.1 21) 5 v2).bind fun x3 =>
  if x3 < q.1 then
    some (.inr q.2)
  else
    (wrI q.2 124 5 v1 v3).bind fun s7 =>
    (wrI s7 124 5 v2 q.1).bind fun s10 =>
    (gC_sail 121 (s10.1 16 0) s10).bind fun p14 =>
    if ¬ (v3 < 0 ∨ 5 ≤ v3.toNatClampNeg) then
      if ¬ ((p14.1 16 0) < 0 ∨ 21 ≤ (p14.1 16 0).toNatClampNeg) then
        (rdI (p14.1 22) 5 v1).bind fun x24 =>
        (rdI (p14.1 (149 + (p14.1 16 0).toNatClampNeg)) 5 x24).bind fun x25 =>
        (wrI p14 (236 + v3.toNatClampNeg) 5 q.1 x25).bind fun s26 =>
        if ¬ (v3 < 0 ∨ 5 ≤ v3.toNatClampNeg) then
          if ¬ ((s26.1 16 0) < 0 ∨ 21 ≤ (s26.1 16 0).toNatClampNeg) then
            (rdI (s26.1 22) 5 v2).bind fun x36 =>
            (rdI (s26.1 (149 + (s26.1 16 0).toNatClampNeg)) 5 x36).bind fun x37 =>
            (wrI s26 (242 + v3.toNatClampNeg) 5 q.1 x37).bind fun s38 =>
            some (.inl (q.1 + (1 : Int32), s38))
          else none
        else none
      else none
    else none
set_option maxRecDepth 8000 in
theorem gG_fill_h41_ok {L d : Nat} (hd : 5 ≤ d + 1) {v1 : Int32} {v2 : Int32} {v3 : Int32} : ∀ (q : Int32 × mT) (x : (Int32 × mT) ⊕ (mT)), gG_fill_h41 v1 v2 v3 q = some x → ∀ o, sK (fun q => Ev (d + 1) 30 41 [(0, .ref 234), (1, .int v1), (2, .int v2), (3, .int v3), (4, .int q.1)] [] (uS L q.2) o) (fun r => Ev (d + 1) 30 164 [(0, .ref 234), (1, .int v1), (2, .int v2), (3, .int v3)] [] (uS L r) o) x → Ev (d + 1) 30 41 [(0, .ref 234), (1, .int v1), (2, .int v2), (3, .int v3), (4, .int q.1)] [] (uS L q.2) o := by
  intro q x h o ho
  unfold gG_fill_h41 at h
  refine Ev.seg D_30 [(.iload 4, 2), (.aload_n 0, 1)] (by decide +kernel) (j := 0) (pc' := 44) (lv' := [(0, .ref 234), (1, .int v1), (2, .int v2), (3, .int v3), (4, .int q.1)]) (st' := [.ref 234, .int q.1]) rfl ?_
  refine Ev.getR D_30 (by decide +kernel) F_1_26 T_1_0 (x := 16) (S_oR k_234 (by decide +kernel)) ?_
  refine Ev.getR D_30 (by decide +kernel) F_1_44 T_2_13 (x := 21) (S_oR k_16 (by decide +kernel)) ?_
  refine Ev.seg D_30 [(.iload_n 2, 1)] (by decide +kernel) (j := 0) (pc' := 51) (lv' := [(0, .ref 234), (1, .int v1), (2, .int v2), (3, .int v3), (4, .int q.1)]) (st' := [.int v2, .ref 21, .int q.1]) rfl ?_
  obtain ⟨x3, e3, h⟩ := bd h
  refine Ev.iald D_30 (by decide +kernel) (S_aI k_21 e3) ?_
  refine Ev.icmp D_30 (c := .gt) (off := 112) (by decide +kernel) (t := 164) rfl (fun c4 => ?_) (fun c4 => ?_)
  · have c4 : x3 < q.1 := of_decide_eq_true c4
    rw [if_pos c4] at h
    cases h
    exact Ev.sub (lv' := [(0, .ref 234), (1, .int v1), (2, .int v2), (3, .int v3)]) (subL_cons rfl (subL_cons rfl (subL_cons rfl (subL_cons rfl subL_nil)))) ho
  · have c4 : ¬ x3 < q.1 := of_decide_eq_false c4
    rw [if_neg c4] at h
    refine Ev.seg D_30 [(.aload_n 0, 1)] (by decide +kernel) (j := 0) (pc' := 56) (lv' := [(0, .ref 234), (1, .int v1), (2, .int v2), (3, .int v3), (4, .int q.1)]) (st' := [.ref 234]) rfl ?_
    refine Ev.getR D_30 (by decide +kernel) F_1_30 T_1_1 (x := 121) (S_oR k_234 (by decide +kernel)) ?_
    refine Ev.getR D_30 (by decide +kernel) F_1_59 T_0_4 (x := 124) (S_oR k_121 (by decide +kernel)) ?_
    refine Ev.seg D_30 [(.iload_n 1, 1), (.iload_n 3, 1)] (by decide +kernel) (j := 0) (pc' := 64) (lv' := [(0, .ref 234), (1, .int v1), (2, .int v2), (3, .int v3), (4, .int q.1)]) (st' := [.int v3, .int v1, .ref 124]) rfl ?_
    obtain ⟨s7, e7, h⟩ := bd h
    refine Ev.iast D_30 (by decide +kernel) (S_sI k_124 e7) ?_
    refine Ev.seg D_30 [(.aload_n 0, 1)] (by decide +kernel) (j := 0) (pc' := 66) (lv' := [(0, .ref 234), (1, .int v1), (2, .int v2), (3, .int v3), (4, .int q.1)]) (st' := [.ref 234]) rfl ?_
    refine Ev.getR D_30 (by decide +kernel) F_1_30 T_1_1 (x := 121) (S_oR k_234 (by decide +kernel)) ?_
    refine Ev.getR D_30 (by decide +kernel) F_1_59 T_0_4 (x := 124) (S_oR k_121 (by decide +kernel)) ?_
    refine Ev.seg D_30 [(.iload_n 2, 1), (.iload 4, 2)] (by decide +kernel) (j := 0) (pc' := 75) (lv' := [(0, .ref 234), (1, .int v1), (2, .int v2), (3, .int v3), (4, .int q.1)]) (st' := [.int q.1, .int v2, .ref 124]) rfl ?_
    obtain ⟨s10, e10, h⟩ := bd h
    refine Ev.iast D_30 (by decide +kernel) (S_sI k_124 e10) ?_
    refine Ev.seg D_30 [(.aload_n 0, 1)] (by decide +kernel) (j := 0) (pc' := 77) (lv' := [(0, .ref 234), (1, .int v1), (2, .int v2), (3, .int v3), (4, .int q.1)]) (st' := [.ref 234]) rfl ?_
    refine Ev.getR D_30 (by decide +kernel) F_1_30 T_1_1 (x := 121) (S_oR k_234 (by decide +kernel)) ?_
    refine Ev.seg D_30 [(.aload_n 0, 1)] (by decide +kernel) (j := 0) (pc' := 81) (lv' := [(0, .ref 234), (1, .int v1), (2, .int v2), (3, .int v3), (4, .int q.1)]) (st' := [.ref 234, .ref 121]) rfl ?_
    refine Ev.getR D_30 (by decide +kernel) F_1_26 T_1_0 (x := 16) (S_oR k_234 (by decide +kernel)) ?_
    refine Ev.getI D_30 (by decide +kernel) F_1_62 (Or.inl T_2_0) (S_oI k_16) ?_
    obtain ⟨p14, e14, h⟩ := bd h
    refine Ev.callv D_30 E_5 (by decide +kernel) C_1_65 121 [.int (s10.1 16 0)] (r := []) rfl (gd_o k_121 (by decide)) rfl (Nat.le_of_ble_eq_true rfl) (Nat.le_of_ble_eq_true rfl) (gC_sail_ok (by omega) (by decide) e14) ?_
    refine Ev.seg D_30 [(.aload_n 0, 1)] (by decide +kernel) (j := 0) (pc' := 91) (lv' := [(0, .ref 234), (1, .int v1), (2, .int v2), (3, .int v3), (4, .int q.1)]) (st' := [.ref 234]) rfl ?_
    refine Ev.getR D_30 (by decide +kernel) F_1_11 T_1_2 (x := 235) (S_oR k_234 (by decide +kernel)) ?_
    refine Ev.seg D_30 [(.iload_n 3, 1)] (by decide +kernel) (j := 0) (pc' := 95) (lv' := [(0, .ref 234), (1, .int v1), (2, .int v2), (3, .int v3), (4, .int q.1)]) (st' := [.int v3, .ref 235]) rfl ?_
    by_cases b95 : ¬ (v3 < 0 ∨ 5 ≤ v3.toNatClampNeg)
    rotate_left
    · rw [if_neg b95] at h; cases h
    rw [if_pos b95] at h
    refine Ev.aald D_30 (by decide +kernel) (kd := 26) ⟨by decide, by decide⟩ (x := (236 + v3.toNatClampNeg)) (S_aR k_235 b95 (lit_aa (e := 236) (n := 5) (by decide +kernel) b95)) ?_
    refine Ev.seg D_30 [(.iload 4, 2), (.aload_n 0, 1)] (by decide +kernel) (j := 0) (pc' := 99) (lv' := [(0, .ref 234), (1, .int v1), (2, .int v2), (3, .int v3), (4, .int q.1)]) (st' := [.ref 234, .int q.1, .ref (236 + v3.toNatClampNeg)]) rfl ?_
    refine Ev.getR D_30 (by decide +kernel) F_1_30 T_1_1 (x := 121) (S_oR k_234 (by decide +kernel)) ?_
    refine Ev.getR D_30 (by decide +kernel) F_1_69 T_0_7 (x := 148) (S_oR k_121 (by decide +kernel)) ?_
    refine Ev.seg D_30 [(.aload_n 0, 1)] (by decide +kernel) (j := 0) (pc' := 106) (lv' := [(0, .ref 234), (1, .int v1), (2, .int v2), (3, .int v3), (4, .int q.1)]) (st' := [.ref 234, .ref 148, .int q.1, .ref (236 + v3.toNatClampNeg)]) rfl ?_
    refine Ev.getR D_30 (by decide +kernel) F_1_26 T_1_0 (x := 16) (S_oR k_234 (by decide +kernel)) ?_
    refine Ev.getI D_30 (by decide +kernel) F_1_62 (Or.inl T_2_0) (S_oI k_16) ?_
    by_cases b112 : ¬ ((p14.1 16 0) < 0 ∨ 21 ≤ (p14.1 16 0).toNatClampNeg)
    rotate_left
    · rw [if_neg b112] at h; cases h
    rw [if_pos b112] at h
    refine Ev.aald D_30 (by decide +kernel) (kd := 26) ⟨by decide, by decide⟩ (x := (149 + (p14.1 16 0).toNatClampNeg)) (S_aR k_148 b112 (lit_aa (e := 149) (n := 21) (by decide +kernel) b112)) ?_
    refine Ev.seg D_30 [(.aload_n 0, 1)] (by decide +kernel) (j := 0) (pc' := 114) (lv' := [(0, .ref 234), (1, .int v1), (2, .int v2), (3, .int v3), (4, .int q.1)]) (st' := [.ref 234, .ref (149 + (p14.1 16 0).toNatClampNeg), .int q.1, .ref (236 + v3.toNatClampNeg)]) rfl ?_
    refine Ev.getR D_30 (by decide +kernel) F_1_26 T_1_0 (x := 16) (S_oR k_234 (by decide +kernel)) ?_
    refine Ev.getR D_30 (by decide +kernel) F_1_72 T_2_14 (x := 22) (S_oR k_16 (by decide +kernel)) ?_
    refine Ev.seg D_30 [(.iload_n 1, 1)] (by decide +kernel) (j := 0) (pc' := 121) (lv' := [(0, .ref 234), (1, .int v1), (2, .int v2), (3, .int v3), (4, .int q.1)]) (st' := [.int v1, .ref 22, .ref (149 + (p14.1 16 0).toNatClampNeg), .int q.1, .ref (236 + v3.toNatClampNeg)]) rfl ?_
    obtain ⟨x24, e24, h⟩ := bd h
    refine Ev.iald D_30 (by decide +kernel) (S_aI k_22 e24) ?_
    obtain ⟨x25, e25, h⟩ := bd h
    refine Ev.iald D_30 (by decide +kernel) (S_aI (lit_row (e := 149) (n := 21) (by decide +kernel) b112) e25) ?_
    obtain ⟨s26, e26, h⟩ := bd h
    refine Ev.iast D_30 (by decide +kernel) (S_sI (lit_row (e := 236) (n := 5) (by decide +kernel) b95) e26) ?_
    refine Ev.seg D_30 [(.aload_n 0, 1)] (by decide +kernel) (j := 0) (pc' := 125) (lv' := [(0, .ref 234), (1, .int v1), (2, .int v2), (3, .int v3), (4, .int q.1)]) (st' := [.ref 234]) rfl ?_
    refine Ev.getR D_30 (by decide +kernel) F_1_16 T_1_3 (x := 241) (S_oR k_234 (by decide +kernel)) ?_
    refine Ev.seg D_30 [(.iload_n 3, 1)] (by decide +kernel) (j := 0) (pc' := 129) (lv' := [(0, .ref 234), (1, .int v1), (2, .int v2), (3, .int v3), (4, .int q.1)]) (st' := [.int v3, .ref 241]) rfl ?_
    by_cases b129 : ¬ (v3 < 0 ∨ 5 ≤ v3.toNatClampNeg)
    rotate_left
    · rw [if_neg b129] at h; cases h
    rw [if_pos b129] at h
    refine Ev.aald D_30 (by decide +kernel) (kd := 26) ⟨by decide, by decide⟩ (x := (242 + v3.toNatClampNeg)) (S_aR k_241 b129 (lit_aa (e := 242) (n := 5) (by decide +kernel) b129)) ?_
    refine Ev.seg D_30 [(.iload 4, 2), (.aload_n 0, 1)] (by decide +kernel) (j := 0) (pc' := 133) (lv' := [(0, .ref 234), (1, .int v1), (2, .int v2), (3, .int v3), (4, .int q.1)]) (st' := [.ref 234, .int q.1, .ref (242 + v3.toNatClampNeg)]) rfl ?_
    refine Ev.getR D_30 (by decide +kernel) F_1_30 T_1_1 (x := 121) (S_oR k_234 (by decide +kernel)) ?_
    refine Ev.getR D_30 (by decide +kernel) F_1_69 T_0_7 (x := 148) (S_oR k_121 (by decide +kernel)) ?_
    refine Ev.seg D_30 [(.aload_n 0, 1)] (by decide +kernel) (j := 0) (pc' := 140) (lv' := [(0, .ref 234), (1, .int v1), (2, .int v2), (3, .int v3), (4, .int q.1)]) (st' := [.ref 234, .ref 148, .int q.1, .ref (242 + v3.toNatClampNeg)]) rfl ?_
    refine Ev.getR D_30 (by decide +kernel) F_1_26 T_1_0 (x := 16) (S_oR k_234 (by decide +kernel)) ?_
    refine Ev.getI D_30 (by decide +kernel) F_1_62 (Or.inl T_2_0) (S_oI k_16) ?_
    by_cases b146 : ¬ ((s26.1 16 0) < 0 ∨ 21 ≤ (s26.1 16 0).toNatClampNeg)
    rotate_left
    · rw [if_neg b146] at h; cases h
    rw [if_pos b146] at h
    refine Ev.aald D_30 (by decide +kernel) (kd := 26) ⟨by decide, by decide⟩ (x := (149 + (s26.1 16 0).toNatClampNeg)) (S_aR k_148 b146 (lit_aa (e := 149) (n := 21) (by decide +kernel) b146)) ?_
    refine Ev.seg D_30 [(.aload_n 0, 1)] (by decide +kernel) (j := 0) (pc' := 148) (lv' := [(0, .ref 234), (1, .int v1), (2, .int v2), (3, .int v3), (4, .int q.1)]) (st' := [.ref 234, .ref (149 + (s26.1 16 0).toNatClampNeg), .int q.1, .ref (242 + v3.toNatClampNeg)]) rfl ?_
    refine Ev.getR D_30 (by decide +kernel) F_1_26 T_1_0 (x := 16) (S_oR k_234 (by decide +kernel)) ?_
    refine Ev.getR D_30 (by decide +kernel) F_1_72 T_2_14 (x := 22) (S_oR k_16 (by decide +kernel)) ?_
    refine Ev.seg D_30 [(.iload_n 2, 1)] (by decide +kernel) (j := 0) (pc' := 155) (lv' := [(0, .ref 234), (1, .int v1), (2, .int v2), (3, .int v3), (4, .int q.1)]) (st' := [.int v2, .ref 22, .ref (149 + (s26.1 16 0).toNatClampNeg), .int q.1, .ref (242 + v3.toNatClampNeg)]) rfl ?_
    obtain ⟨x36, e36, h⟩ := bd h
    refine Ev.iald D_30 (by decide +kernel) (S_aI k_22 e36) ?_
    obtain ⟨x37, e37, h⟩ := bd h
    refine Ev.iald D_30 (by decide +kernel) (S_aI (lit_row (e := 149) (n := 21) (by decide +kernel) b146) e37) ?_
    obtain ⟨s38, e38, h⟩ := bd h
    refine Ev.iast D_30 (by decide +kernel) (S_sI (lit_row (e := 242) (n := 5) (by decide +kernel) b129) e38) ?_
    refine Ev.seg D_30 [(.iinc 4 1, 3), (.goto (-120), 3)] (by decide +kernel) (j := 0) (pc' := 41) (lv' := [(4, .int (q.1 + (1 : Int32))), (0, .ref 234), (1, .int v1), (2, .int v2), (3, .int v3)]) (st' := []) rfl ?_
    cases h
    exact Ev.sub (lv' := [(0, .ref 234), (1, .int v1), (2, .int v2), (3, .int v3), (4, .int (q.1 + (1 : Int32)))]) (subL_cons rfl (subL_cons rfl (subL_cons rfl (subL_cons rfl (subL_cons rfl subL_nil))))) ho
theorem gG_fill_h41_w {L d : Nat} (hd : 5 ≤ d + 1) {v1 : Int32} {v2 : Int32} {v3 : Int32} : ∀ (n : Nat) (q : Int32 × mT) (r : mT), wh n (gG_fill_h41 v1 v2 v3) q = some r → ∀ o, (fun r => Ev (d + 1) 30 164 [(0, .ref 234), (1, .int v1), (2, .int v2), (3, .int v3)] [] (uS L r) o) r → Ev (d + 1) 30 41 [(0, .ref 234), (1, .int v1), (2, .int v2), (3, .int v3), (4, .int q.1)] [] (uS L q.2) o :=
  fun n q r h o hc => wh_ev (E := fun (q : Int32 × mT) o => Ev (d + 1) 30 41 [(0, .ref 234), (1, .int v1), (2, .int v2), (3, .int v3), (4, .int q.1)] [] (uS L q.2) o) (C := fun (r : mT) o => (fun r => Ev (d + 1) 30 164 [(0, .ref 234), (1, .int v1), (2, .int v2), (3, .int v3)] [] (uS L r) o) r) (gG_fill_h41_ok hd  ) n q r h o hc
def gG_fill_h17 (v1 : Int32) (v2 : Int32) (q : Int32 × mT) : Option ((Int32 × mT) ⊕ (mT)) :=
  (rdI (q.2.1 21) 5 v1).bind fun x3 =>
  if x3 < q.1 then
    some (.inr q.2)
  else
    (rdI (q.2.1 20) 5 v2).bind fun x7 =>
    (wh FU (gG_fill_h41 v1 v2 q.1) (x7, q.2)).bind fun x39 =>
    some (.inl (q.1 + (1 : Int32), x39))
set_option maxRecDepth 8000 in
theorem gG_fill_h17_ok {L d : Nat} (hd : 5 ≤ d + 1) {v1 : Int32} {v2 : Int32} : ∀ (q : Int32 × mT) (x : (Int32 × mT) ⊕ (mT)), gG_fill_h17 v1 v2 q = some x → ∀ o, sK (fun q => Ev (d + 1) 30 17 [(0, .ref 234), (1, .int v1), (2, .int v2), (3, .int q.1)] [] (uS L q.2) o) (fun r => Ev (d + 1) 30 170 [] [] (uS L r) o) x → Ev (d + 1) 30 17 [(0, .ref 234), (1, .int v1), (2, .int v2), (3, .int q.1)] [] (uS L q.2) o := by
  intro q x h o ho
  unfold gG_fill_h17 at h
  refine Ev.seg D_30 [(.iload_n 3, 1), (.aload_n 0, 1)] (by decide +kernel) (j := 0) (pc' := 19) (lv' := [(0, .ref 234), (1, .int v1), (2, .int v2), (3, .int q.1)]) (st' := [.ref 234, .int q.1]) rfl ?_
  refine Ev.getR D_30 (by decide +kernel) F_1_26 T_1_0 (x := 16) (S_oR k_234 (by decide +kernel)) ?_
  refine Ev.getR D_30 (by decide +kernel) F_1_44 T_2_13 (x := 21) (S_oR k_16 (by decide +kernel)) ?_
  refine Ev.seg D_30 [(.iload_n 1, 1)] (by decide +kernel) (j := 0) (pc' := 26) (lv' := [(0, .ref 234), (1, .int v1), (2, .int v2), (3, .int q.1)]) (st' := [.int v1, .ref 21, .int q.1]) rfl ?_
  obtain ⟨x3, e3, h⟩ := bd h
  refine Ev.iald D_30 (by decide +kernel) (S_aI k_21 e3) ?_
  refine Ev.icmp D_30 (c := .gt) (off := 143) (by decide +kernel) (t := 170) rfl (fun c4 => ?_) (fun c4 => ?_)
  · have c4 : x3 < q.1 := of_decide_eq_true c4
    rw [if_pos c4] at h
    cases h
    exact Ev.sub (lv' := []) subL_nil ho
  · have c4 : ¬ x3 < q.1 := of_decide_eq_false c4
    rw [if_neg c4] at h
    refine Ev.seg D_30 [(.aload_n 0, 1)] (by decide +kernel) (j := 0) (pc' := 31) (lv' := [(0, .ref 234), (1, .int v1), (2, .int v2), (3, .int q.1)]) (st' := [.ref 234]) rfl ?_
    refine Ev.getR D_30 (by decide +kernel) F_1_26 T_1_0 (x := 16) (S_oR k_234 (by decide +kernel)) ?_
    refine Ev.getR D_30 (by decide +kernel) F_1_38 T_2_12 (x := 20) (S_oR k_16 (by decide +kernel)) ?_
    refine Ev.seg D_30 [(.iload_n 2, 1)] (by decide +kernel) (j := 0) (pc' := 38) (lv' := [(0, .ref 234), (1, .int v1), (2, .int v2), (3, .int q.1)]) (st' := [.int v2, .ref 20]) rfl ?_
    obtain ⟨x7, e7, h⟩ := bd h
    refine Ev.iald D_30 (by decide +kernel) (S_aI k_20 e7) ?_
    refine Ev.seg D_30 [(.istore 4, 2)] (by decide +kernel) (j := 0) (pc' := 41) (lv' := [(4, .int x7), (0, .ref 234), (1, .int v1), (2, .int v2), (3, .int q.1)]) (st' := []) rfl ?_
    obtain ⟨x39, w39, h⟩ := bd h
    have j39 : Ev (d + 1) 30 164 [(0, .ref 234), (1, .int v1), (2, .int v2), (3, .int q.1)] [] (uS L x39) o := by
      clear w39
      refine Ev.seg D_30 [(.iinc 3 1, 3), (.goto (-150), 3)] (by decide +kernel) (j := 0) (pc' := 17) (lv' := [(3, .int (q.1 + (1 : Int32))), (0, .ref 234), (1, .int v1), (2, .int v2)]) (st' := []) rfl ?_
      cases h
      exact Ev.sub (lv' := [(0, .ref 234), (1, .int v1), (2, .int v2), (3, .int (q.1 + (1 : Int32)))]) (subL_cons rfl (subL_cons rfl (subL_cons rfl (subL_cons rfl subL_nil)))) ho
    exact Ev.sub (lv' := [(0, .ref 234), (1, .int v1), (2, .int v2), (3, .int q.1), (4, .int x7)]) (subL_cons rfl (subL_cons rfl (subL_cons rfl (subL_cons rfl (subL_cons rfl subL_nil))))) (gG_fill_h41_w hd   _ _ _ w39 _ j39)
theorem gG_fill_h17_w {L d : Nat} (hd : 5 ≤ d + 1) {v1 : Int32} {v2 : Int32} : ∀ (n : Nat) (q : Int32 × mT) (r : mT), wh n (gG_fill_h17 v1 v2) q = some r → ∀ o, (fun r => Ev (d + 1) 30 170 [] [] (uS L r) o) r → Ev (d + 1) 30 17 [(0, .ref 234), (1, .int v1), (2, .int v2), (3, .int q.1)] [] (uS L q.2) o :=
  fun n q r h o hc => wh_ev (E := fun (q : Int32 × mT) o => Ev (d + 1) 30 17 [(0, .ref 234), (1, .int v1), (2, .int v2), (3, .int q.1)] [] (uS L q.2) o) (C := fun (r : mT) o => (fun r => Ev (d + 1) 30 170 [] [] (uS L r) o) r) (gG_fill_h17_ok hd  ) n q r h o hc
def gG_fill (v1 : Int32) (v2 : Int32) (s : mT) : Option (mT) :=
  (gC_prepare 121 s).bind fun p2 =>
  (rdI (p2.1 20) 5 v1).bind fun x5 =>
  (wh FU (gG_fill_h17 v1 v2) (x5, p2)).bind fun x40 =>
  some (x40)
set_option maxRecDepth 8000 in
theorem gG_fill_ok {L d : Nat} (hd : 5 ≤ d) {v1 : Int32} {v2 : Int32} {s : mT} {p : mT} (h : gG_fill v1 v2 s = some p) : Ev d 30 0 [(0, .ref 234), (1, .int v1), (2, .int v2)] [] (uS L s) (none, uS L p) := by
  obtain ⟨d, rfl⟩ : ∃ e, d = e + 1 := ⟨d - 1, by omega⟩
  obtain ⟨o, ho⟩ : ∃ o : Option Value × mS, o = (none, uS L p) := ⟨_, rfl⟩
  rw [← ho]
  unfold gG_fill at h
  refine Ev.seg D_30 [(.aload_n 0, 1)] (by decide +kernel) (j := 0) (pc' := 1) (lv' := [(0, .ref 234), (1, .int v1), (2, .int v2)]) (st' := [.ref 234]) rfl ?_
  refine Ev.getR D_30 (by decide +kernel) F_1_30 T_1_1 (x := 121) (S_oR k_234 (by decide +kernel)) ?_
  obtain ⟨p2, e2, h⟩ := bd h
  refine Ev.callv D_30 E_1 (by decide +kernel) C_1_54 121 [] (r := []) rfl (gd_o k_121 (by decide)) rfl (Nat.le_of_ble_eq_true rfl) (Nat.le_of_ble_eq_true rfl) (gC_prepare_ok (by omega) (by decide) e2) ?_
  refine Ev.seg D_30 [(.aload_n 0, 1)] (by decide +kernel) (j := 0) (pc' := 8) (lv' := [(0, .ref 234), (1, .int v1), (2, .int v2)]) (st' := [.ref 234]) rfl ?_
  refine Ev.getR D_30 (by decide +kernel) F_1_26 T_1_0 (x := 16) (S_oR k_234 (by decide +kernel)) ?_
  refine Ev.getR D_30 (by decide +kernel) F_1_38 T_2_12 (x := 20) (S_oR k_16 (by decide +kernel)) ?_
  refine Ev.seg D_30 [(.iload_n 1, 1)] (by decide +kernel) (j := 0) (pc' := 15) (lv' := [(0, .ref 234), (1, .int v1), (2, .int v2)]) (st' := [.int v1, .ref 20]) rfl ?_
  obtain ⟨x5, e5, h⟩ := bd h
  refine Ev.iald D_30 (by decide +kernel) (S_aI k_20 e5) ?_
  refine Ev.seg D_30 [(.istore_n 3, 1)] (by decide +kernel) (j := 0) (pc' := 17) (lv' := [(3, .int x5), (0, .ref 234), (1, .int v1), (2, .int v2)]) (st' := []) rfl ?_
  obtain ⟨x40, w40, h⟩ := bd h
  have j40 : Ev (d + 1) 30 170 [] [] (uS L x40) o := by
    clear w40
    cases h
    obtain rfl : o = _ := ho
    exact Ev.vret D_30 (by decide +kernel)
  exact Ev.sub (lv' := [(0, .ref 234), (1, .int v1), (2, .int v2), (3, .int x5)]) (subL_cons rfl (subL_cons rfl (subL_cons rfl (subL_cons rfl subL_nil)))) (gG_fill_h17_w hd   _ _ _ w40 _ j40)
