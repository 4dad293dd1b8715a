/-! The program's methods as functions of ints and longs, each with its certificate (wip/whole/gen_emit.py writes this) -/
/- Course draw: 3 -/
def gC_draw_h2 (v0 : Nat) (v1 : Int32) (v2 : Int32) (q : Int32 × mT) : Option ((Int32 × mT) ⊕ (mT)) :=
  if (q.2.1 16 6) ≤ q.1 then
    some (.inr q.2)
  else
    (rdI (q.2.1 19) 5 q.1).bind fun x6 =>
    (
      if v2 < x6 then
        some (q.2)
      else
        (rdI (q.2.1 (v0 + 26)) 21 v1).bind fun x9 =>
        (wrI q.2 (v0 + 26) 21 v1 (x9 &&& (((1 : Int32) <<< (q.1 &&& 31)) ^^^ (-1 : Int32)))).bind fun s10 =>
        some (s10) : Option (mT)).bind fun x7 =>
    some (.inl (q.1 + (1 : Int32), x7))
set_option maxRecDepth 8000 in
theorem gC_draw_h2_ok {L d : Nat} (hd : 1 ≤ d + 1) {v0 : Nat} {v1 : Int32} {v2 : Int32} (i0 : isCo v0) : ∀ (q : Int32 × mT) (x : (Int32 × mT) ⊕ (mT)), gC_draw_h2 v0 v1 v2 q = some x → ∀ o, sK (fun q => Ev (d + 1) 3 2 [(0, .ref v0), (1, .int v1), (2, .int v2), (3, .int q.1)] [] (uS L q.2) o) (fun r => Ev (d + 1) 3 46 [] [] (uS L r) o) x → Ev (d + 1) 3 2 [(0, .ref v0), (1, .int v1), (2, .int v2), (3, .int q.1)] [] (uS L q.2) o := by
  intro q x h o ho
  unfold gC_draw_h2 at h
  refine Ev.seg D_3 [(.iload_n 3, 1), (.aload_n 0, 1)] (by decide +kernel) (j := 0) (pc' := 4) (lv' := [(0, .ref v0), (1, .int v1), (2, .int v2), (3, .int q.1)]) (st' := [.ref v0, .int q.1]) rfl ?_
  refine Ev.getR D_3 (by decide +kernel) F_0_42 T_0_0 (x := 16) (S_oR (co_o i0) (co_r i0 0 16 (by decide +kernel))) ?_
  refine Ev.getI D_3 (by decide +kernel) F_0_67 (Or.inl T_2_6) (S_oI k_16) ?_
  refine Ev.icmp D_3 (c := .ge) (off := 36) (by decide +kernel) (t := 46) rfl (fun c3 => ?_) (fun c3 => ?_)
  · have c3 : (q.2.1 16 6) ≤ q.1 := of_decide_eq_true c3
    rw [if_pos c3] at h
    cases h
    exact Ev.sub (lv' := []) subL_nil ho
  · have c3 : ¬ (q.2.1 16 6) ≤ q.1 := of_decide_eq_false c3
    rw [if_neg c3] at h
    refine Ev.seg D_3 [(.aload_n 0, 1)] (by decide +kernel) (j := 0) (pc' := 14) (lv' := [(0, .ref v0), (1, .int v1), (2, .int v2), (3, .int q.1)]) (st' := [.ref v0]) rfl ?_
    refine Ev.getR D_3 (by decide +kernel) F_0_42 T_0_0 (x := 16) (S_oR (co_o i0) (co_r i0 0 16 (by decide +kernel))) ?_
    refine Ev.getR D_3 (by decide +kernel) F_0_98 T_2_11 (x := 19) (S_oR k_16 (by decide +kernel)) ?_
    refine Ev.seg D_3 [(.iload_n 3, 1)] (by decide +kernel) (j := 0) (pc' := 21) (lv' := [(0, .ref v0), (1, .int v1), (2, .int v2), (3, .int q.1)]) (st' := [.int q.1, .ref 19]) rfl ?_
    obtain ⟨x6, e6, h⟩ := bd h
    refine Ev.iald D_3 (by decide +kernel) (S_aI k_19 e6) ?_
    refine Ev.seg D_3 [(.iload_n 2, 1)] (by decide +kernel) (j := 0) (pc' := 23) (lv' := [(0, .ref v0), (1, .int v1), (2, .int v2), (3, .int q.1)]) (st' := [.int v2, .int x6]) rfl ?_
    obtain ⟨x7, g7, h⟩ := bd h
    have j7 : Ev (d + 1) 3 40 [(0, .ref v0), (1, .int v1), (2, .int v2), (3, .int q.1)] [] (uS L x7) o := by
      clear g7
      refine Ev.seg D_3 [(.iinc 3 1, 3), (.goto (-41), 3)] (by decide +kernel) (j := 0) (pc' := 2) (lv' := [(3, .int (q.1 + (1 : Int32))), (0, .ref v0), (1, .int v1), (2, .int v2)]) (st' := []) rfl ?_
      cases h
      exact Ev.sub (lv' := [(0, .ref v0), (1, .int v1), (2, .int v2), (3, .int (q.1 + (1 : Int32)))]) (subL_cons rfl (subL_cons rfl (subL_cons rfl (subL_cons rfl subL_nil)))) ho
    clear h
    refine Ev.icmp D_3 (c := .gt) (off := 17) (by decide +kernel) (t := 40) rfl (fun c7 => ?_) (fun c7 => ?_)
    · have c7 : v2 < x6 := of_decide_eq_true c7
      rw [if_pos c7] at g7
      cases g7
      exact Ev.sub2 j7 (subL_cons rfl (subL_cons rfl (subL_cons rfl (subL_cons rfl subL_nil))))
    · have c7 : ¬ v2 < x6 := of_decide_eq_false c7
      rw [if_neg c7] at g7
      refine Ev.seg D_3 [(.aload_n 0, 1)] (by decide +kernel) (j := 0) (pc' := 27) (lv' := [(0, .ref v0), (1, .int v1), (2, .int v2), (3, .int q.1)]) (st' := [.ref v0]) rfl ?_
      refine Ev.getR D_3 (by decide +kernel) F_0_30 T_0_6 (x := (v0 + 26)) (S_oR (co_o i0) (co_r2 i0 6 26 (by decide +kernel))) ?_
      refine Ev.seg D_3 [(.iload_n 1, 1), (.dup2, 1)] (by decide +kernel) (j := 0) (pc' := 32) (lv' := [(0, .ref v0), (1, .int v1), (2, .int v2), (3, .int q.1)]) (st' := [.int v1, .ref (v0 + 26), .int v1, .ref (v0 + 26)]) rfl ?_
      obtain ⟨x9, e9, g7⟩ := bd g7
      refine Ev.iald D_3 (by decide +kernel) (S_aI (co_k i0 26 _ (by decide +kernel)) e9) ?_
      refine Ev.seg D_3 [(.iconst 1, 1), (.iload_n 3, 1), (.ishl, 1), (.iconst (-1), 1), (.ixor, 1), (.iand, 1)] (by decide +kernel) (j := 0) (pc' := 39) (lv' := [(0, .ref v0), (1, .int v1), (2, .int v2), (3, .int q.1)]) (st' := [.int (x9 &&& (((1 : Int32) <<< (q.1 &&& 31)) ^^^ (-1 : Int32))), .int v1, .ref (v0 + 26)]) rfl ?_
      obtain ⟨s10, e10, g7⟩ := bd g7
      refine Ev.iast D_3 (by decide +kernel) (S_sI (co_k i0 26 _ (by decide +kernel)) e10) ?_
      cases g7
      exact Ev.sub2 j7 (subL_cons rfl (subL_cons rfl (subL_cons rfl (subL_cons rfl subL_nil))))
theorem gC_draw_h2_w {L d : Nat} (hd : 1 ≤ d + 1) {v0 : Nat} {v1 : Int32} {v2 : Int32} (i0 : isCo v0) : ∀ (n : Nat) (q : Int32 × mT) (r : mT), wh n (gC_draw_h2 v0 v1 v2) q = some r → ∀ o, (fun r => Ev (d + 1) 3 46 [] [] (uS L r) o) r → Ev (d + 1) 3 2 [(0, .ref v0), (1, .int v1), (2, .int v2), (3, .int q.1)] [] (uS L q.2) o :=
  fun n q r h o hc => wh_ev (E := fun (q : Int32 × mT) o => Ev (d + 1) 3 2 [(0, .ref v0), (1, .int v1), (2, .int v2), (3, .int q.1)] [] (uS L q.2) o) (C := fun (r : mT) o => (fun r => Ev (d + 1) 3 46 [] [] (uS L r) o) r) (gC_draw_h2_ok hd i0 ) n q r h o hc
def gC_draw (v0 : Nat) (v1 : Int32) (v2 : Int32) (s : mT) : Option (mT) :=
  (wh FU (gC_draw_h2 v0 v1 v2) ((0 : Int32), s)).bind fun x11 =>
  some (x11)
set_option maxRecDepth 8000 in
theorem gC_draw_ok {L d : Nat} (hd : 1 ≤ d) {v0 : Nat} {v1 : Int32} {v2 : Int32} {s : mT} (i0 : isCo v0) {p : mT} (h : gC_draw v0 v1 v2 s = some p) : Ev d 3 0 [(0, .ref v0), (1, .int v1), (2, .int v2)] [] (uS L s) (none, uS L p) := by
  obtain ⟨d, rfl⟩ : ∃ e, d = e + 1 := ⟨d - 1, by omega⟩
  obtain ⟨o, ho⟩ : ∃ o : Option Value × mS, o = (none, uS L p) := ⟨_, rfl⟩
  rw [← ho]
  unfold gC_draw at h
  refine Ev.seg D_3 [(.iconst 0, 1), (.istore_n 3, 1)] (by decide +kernel) (j := 0) (pc' := 2) (lv' := [(3, .int (0 : Int32)), (0, .ref v0), (1, .int v1), (2, .int v2)]) (st' := []) rfl ?_
  obtain ⟨x11, w11, h⟩ := bd h
  have j11 : Ev (d + 1) 3 46 [] [] (uS L x11) o := by
    clear w11
    cases h
    obtain rfl : o = _ := ho
    exact Ev.vret D_3 (by decide +kernel)
  exact Ev.sub (lv' := [(0, .ref v0), (1, .int v1), (2, .int v2), (3, .int (0 : Int32))]) (subL_cons rfl (subL_cons rfl (subL_cons rfl (subL_cons rfl subL_nil)))) (gC_draw_h2_w hd i0  _ _ _ w11 _ j11)
/- Course prepareActs: 4 -/
def gC_prepareActs_h2 (v0 : Nat) (q : Int32 × mT) : Option ((Int32 × mT) ⊕ (mT)) :=
  if (q.2.1 16 8) ≤ q.1 then
    some (.inr q.2)
  else
    (rdI (q.2.1 27) 30 q.1).bind fun x6 =>
    (rdI (q.2.1 25) 30 q.1).bind fun x9 =>
    (rdI (q.2.1 26) 30 q.1).bind fun x12 =>
    (
      if x12 = (-1 : Int32) then
        (rdI (q.2.1 (v0 + 26)) 21 x6).bind fun x21 =>
        (wrI q.2 (v0 + 26) 21 x6 (x21 &&& (((1 : Int32) <<< (x9 &&& 31)) ^^^ (-1 : Int32)))).bind fun s22 =>
        some (s22)
      else
        if ¬ (x6 < 0 ∨ 21 ≤ x6.toNatClampNeg) then
          (rdI (q.2.1 26) 30 q.1).bind fun x18 =>
          (wrI q.2 (v0 + 5 + x6.toNatClampNeg) 5 x9 x18).bind fun s19 =>
          some (s19)
        else none : Option (mT)).bind fun x13 =>
    some (.inl (q.1 + (1 : Int32), x13))
set_option maxRecDepth 8000 in
theorem gC_prepareActs_h2_ok {L d : Nat} (hd : 1 ≤ d + 1) {v0 : Nat} (i0 : isCo v0) : ∀ (q : Int32 × mT) (x : (Int32 × mT) ⊕ (mT)), gC_prepareActs_h2 v0 q = some x → ∀ o, sK (fun q => Ev (d + 1) 4 2 [(0, .ref v0), (1, .int q.1)] [] (uS L q.2) o) (fun r => Ev (d + 1) 4 86 [] [] (uS L r) o) x → Ev (d + 1) 4 2 [(0, .ref v0), (1, .int q.1)] [] (uS L q.2) o := by
  intro q x h o ho
  unfold gC_prepareActs_h2 at h
  refine Ev.seg D_4 [(.iload_n 1, 1), (.aload_n 0, 1)] (by decide +kernel) (j := 0) (pc' := 4) (lv' := [(0, .ref v0), (1, .int q.1)]) (st' := [.ref v0, .int q.1]) rfl ?_
  refine Ev.getR D_4 (by decide +kernel) F_0_42 T_0_0 (x := 16) (S_oR (co_o i0) (co_r i0 0 16 (by decide +kernel))) ?_
  refine Ev.getI D_4 (by decide +kernel) F_0_86 (Or.inl T_2_8) (S_oI k_16) ?_
  refine Ev.icmp D_4 (c := .ge) (off := 76) (by decide +kernel) (t := 86) rfl (fun c3 => ?_) (fun c3 => ?_)
  · have c3 : (q.2.1 16 8) ≤ q.1 := of_decide_eq_true c3
    rw [if_pos c3] at h
    cases h
    exact Ev.sub (lv' := []) subL_nil ho
  · have c3 : ¬ (q.2.1 16 8) ≤ q.1 := of_decide_eq_false c3
    rw [if_neg c3] at h
    refine Ev.seg D_4 [(.aload_n 0, 1)] (by decide +kernel) (j := 0) (pc' := 14) (lv' := [(0, .ref v0), (1, .int q.1)]) (st' := [.ref v0]) rfl ?_
    refine Ev.getR D_4 (by decide +kernel) F_0_42 T_0_0 (x := 16) (S_oR (co_o i0) (co_r i0 0 16 (by decide +kernel))) ?_
    refine Ev.getR D_4 (by decide +kernel) F_0_89 T_2_19 (x := 27) (S_oR k_16 (by decide +kernel)) ?_
    refine Ev.seg D_4 [(.iload_n 1, 1)] (by decide +kernel) (j := 0) (pc' := 21) (lv' := [(0, .ref v0), (1, .int q.1)]) (st' := [.int q.1, .ref 27]) rfl ?_
    obtain ⟨x6, e6, h⟩ := bd h
    refine Ev.iald D_4 (by decide +kernel) (S_aI k_27 e6) ?_
    refine Ev.seg D_4 [(.istore_n 2, 1), (.aload_n 0, 1)] (by decide +kernel) (j := 0) (pc' := 24) (lv' := [(2, .int x6), (0, .ref v0), (1, .int q.1)]) (st' := [.ref v0]) rfl ?_
    refine Ev.getR D_4 (by decide +kernel) F_0_42 T_0_0 (x := 16) (S_oR (co_o i0) (co_r i0 0 16 (by decide +kernel))) ?_
    refine Ev.getR D_4 (by decide +kernel) F_0_92 T_2_17 (x := 25) (S_oR k_16 (by decide +kernel)) ?_
    refine Ev.seg D_4 [(.iload_n 1, 1)] (by decide +kernel) (j := 0) (pc' := 31) (lv' := [(2, .int x6), (0, .ref v0), (1, .int q.1)]) (st' := [.int q.1, .ref 25]) rfl ?_
    obtain ⟨x9, e9, h⟩ := bd h
    refine Ev.iald D_4 (by decide +kernel) (S_aI k_25 e9) ?_
    refine Ev.seg D_4 [(.istore_n 3, 1), (.aload_n 0, 1)] (by decide +kernel) (j := 0) (pc' := 34) (lv' := [(3, .int x9), (2, .int x6), (0, .ref v0), (1, .int q.1)]) (st' := [.ref v0]) rfl ?_
    refine Ev.getR D_4 (by decide +kernel) F_0_42 T_0_0 (x := 16) (S_oR (co_o i0) (co_r i0 0 16 (by decide +kernel))) ?_
    refine Ev.getR D_4 (by decide +kernel) F_0_95 T_2_18 (x := 26) (S_oR k_16 (by decide +kernel)) ?_
    refine Ev.seg D_4 [(.iload_n 1, 1)] (by decide +kernel) (j := 0) (pc' := 41) (lv' := [(3, .int x9), (2, .int x6), (0, .ref v0), (1, .int q.1)]) (st' := [.int q.1, .ref 26]) rfl ?_
    obtain ⟨x12, e12, h⟩ := bd h
    refine Ev.iald D_4 (by decide +kernel) (S_aI k_26 e12) ?_
    refine Ev.seg D_4 [(.iconst (-1), 1)] (by decide +kernel) (j := 0) (pc' := 43) (lv' := [(3, .int x9), (2, .int x6), (0, .ref v0), (1, .int q.1)]) (st' := [.int (-1 : Int32), .int x12]) rfl ?_
    obtain ⟨x13, g13, h⟩ := bd h
    have j13 : Ev (d + 1) 4 80 [(0, .ref v0), (1, .int q.1)] [] (uS L x13) o := by
      clear g13
      refine Ev.seg D_4 [(.iinc 1 1, 3), (.goto (-81), 3)] (by decide +kernel) (j := 0) (pc' := 2) (lv' := [(1, .int (q.1 + (1 : Int32))), (0, .ref v0)]) (st' := []) rfl ?_
      cases h
      exact Ev.sub (lv' := [(0, .ref v0), (1, .int (q.1 + (1 : Int32)))]) (subL_cons rfl (subL_cons rfl subL_nil)) ho
    clear h
    refine Ev.icmp D_4 (c := .ne) (off := 20) (by decide +kernel) (t := 63) rfl (fun c13 => ?_) (fun c13 => ?_)
    · have c13 : ¬ x12 = (-1 : Int32) := of_decide_eq_true c13
      rw [if_neg c13] at g13
      refine Ev.seg D_4 [(.aload_n 0, 1)] (by decide +kernel) (j := 0) (pc' := 64) (lv' := [(3, .int x9), (2, .int x6), (0, .ref v0), (1, .int q.1)]) (st' := [.ref v0]) rfl ?_
      refine Ev.getR D_4 (by decide +kernel) F_0_27 T_0_5 (x := (v0 + 4)) (S_oR (co_o i0) (co_r2 i0 5 4 (by decide +kernel))) ?_
      refine Ev.seg D_4 [(.iload_n 2, 1)] (by decide +kernel) (j := 0) (pc' := 68) (lv' := [(3, .int x9), (2, .int x6), (0, .ref v0), (1, .int q.1)]) (st' := [.int x6, .ref (v0 + 4)]) rfl ?_
      by_cases b68 : ¬ (x6 < 0 ∨ 21 ≤ x6.toNatClampNeg)
      rotate_left
      · rw [if_neg b68] at g13; cases g13
      rw [if_pos b68] at g13
      refine Ev.aald D_4 (by decide +kernel) (kd := 26) ⟨by decide, by decide⟩ (x := (v0 + 5 + x6.toNatClampNeg)) (S_aR (co_k i0 4 _ (by decide +kernel)) b68 (co_aa i0 4 21 (by decide +kernel) b68)) ?_
      refine Ev.seg D_4 [(.iload_n 3, 1), (.aload_n 0, 1)] (by decide +kernel) (j := 0) (pc' := 71) (lv' := [(3, .int x9), (2, .int x6), (0, .ref v0), (1, .int q.1)]) (st' := [.ref v0, .int x9, .ref (v0 + 5 + x6.toNatClampNeg)]) rfl ?_
      refine Ev.getR D_4 (by decide +kernel) F_0_42 T_0_0 (x := 16) (S_oR (co_o i0) (co_r i0 0 16 (by decide +kernel))) ?_
      refine Ev.getR D_4 (by decide +kernel) F_0_95 T_2_18 (x := 26) (S_oR k_16 (by decide +kernel)) ?_
      refine Ev.seg D_4 [(.iload_n 1, 1)] (by decide +kernel) (j := 0) (pc' := 78) (lv' := [(3, .int x9), (2, .int x6), (0, .ref v0), (1, .int q.1)]) (st' := [.int q.1, .ref 26, .int x9, .ref (v0 + 5 + x6.toNatClampNeg)]) rfl ?_
      obtain ⟨x18, e18, g13⟩ := bd g13
      refine Ev.iald D_4 (by decide +kernel) (S_aI k_26 e18) ?_
      obtain ⟨s19, e19, g13⟩ := bd g13
      refine Ev.iast D_4 (by decide +kernel) (S_sI (co_row i0 5 21 (by decide +kernel) b68) e19) ?_
      cases g13
      exact Ev.sub2 j13 (subL_cons rfl (subL_cons rfl subL_nil))
    · have c13 : x12 = (-1 : Int32) := Decidable.of_not_not (of_decide_eq_false c13)
      rw [if_pos c13] at g13
      refine Ev.seg D_4 [(.aload_n 0, 1)] (by decide +kernel) (j := 0) (pc' := 47) (lv' := [(3, .int x9), (2, .int x6), (0, .ref v0), (1, .int q.1)]) (st' := [.ref v0]) rfl ?_
      refine Ev.getR D_4 (by decide +kernel) F_0_30 T_0_6 (x := (v0 + 26)) (S_oR (co_o i0) (co_r2 i0 6 26 (by decide +kernel))) ?_
      refine Ev.seg D_4 [(.iload_n 2, 1), (.dup2, 1)] (by decide +kernel) (j := 0) (pc' := 52) (lv' := [(3, .int x9), (2, .int x6), (0, .ref v0), (1, .int q.1)]) (st' := [.int x6, .ref (v0 + 26), .int x6, .ref (v0 + 26)]) rfl ?_
      obtain ⟨x21, e21, g13⟩ := bd g13
      refine Ev.iald D_4 (by decide +kernel) (S_aI (co_k i0 26 _ (by decide +kernel)) e21) ?_
      refine Ev.seg D_4 [(.iconst 1, 1), (.iload_n 3, 1), (.ishl, 1), (.iconst (-1), 1), (.ixor, 1), (.iand, 1)] (by decide +kernel) (j := 0) (pc' := 59) (lv' := [(3, .int x9), (2, .int x6), (0, .ref v0), (1, .int q.1)]) (st' := [.int (x21 &&& (((1 : Int32) <<< (x9 &&& 31)) ^^^ (-1 : Int32))), .int x6, .ref (v0 + 26)]) rfl ?_
      obtain ⟨s22, e22, g13⟩ := bd g13
      refine Ev.iast D_4 (by decide +kernel) (S_sI (co_k i0 26 _ (by decide +kernel)) e22) ?_
      refine Ev.seg D_4 [(.goto 20, 3)] (by decide +kernel) (j := 0) (pc' := 80) (lv' := [(3, .int x9), (2, .int x6), (0, .ref v0), (1, .int q.1)]) (st' := []) rfl ?_
      cases g13
      exact Ev.sub2 j13 (subL_cons rfl (subL_cons rfl subL_nil))
theorem gC_prepareActs_h2_w {L d : Nat} (hd : 1 ≤ d + 1) {v0 : Nat} (i0 : isCo v0) : ∀ (n : Nat) (q : Int32 × mT) (r : mT), wh n (gC_prepareActs_h2 v0) q = some r → ∀ o, (fun r => Ev (d + 1) 4 86 [] [] (uS L r) o) r → Ev (d + 1) 4 2 [(0, .ref v0), (1, .int q.1)] [] (uS L q.2) o :=
  fun n q r h o hc => wh_ev (E := fun (q : Int32 × mT) o => Ev (d + 1) 4 2 [(0, .ref v0), (1, .int q.1)] [] (uS L q.2) o) (C := fun (r : mT) o => (fun r => Ev (d + 1) 4 86 [] [] (uS L r) o) r) (gC_prepareActs_h2_ok hd i0 ) n q r h o hc
def gC_prepareActs (v0 : Nat) (s : mT) : Option (mT) :=
  (wh FU (gC_prepareActs_h2 v0) ((0 : Int32), s)).bind fun x23 =>
  some (x23)
set_option maxRecDepth 8000 in
theorem gC_prepareActs_ok {L d : Nat} (hd : 1 ≤ d) {v0 : Nat} {s : mT} (i0 : isCo v0) {p : mT} (h : gC_prepareActs v0 s = some p) : Ev d 4 0 [(0, .ref v0)] [] (uS L s) (none, uS L p) := by
  obtain ⟨d, rfl⟩ : ∃ e, d = e + 1 := ⟨d - 1, by omega⟩
  obtain ⟨o, ho⟩ : ∃ o : Option Value × mS, o = (none, uS L p) := ⟨_, rfl⟩
  rw [← ho]
  unfold gC_prepareActs at h
  refine Ev.seg D_4 [(.iconst 0, 1), (.istore_n 1, 1)] (by decide +kernel) (j := 0) (pc' := 2) (lv' := [(1, .int (0 : Int32)), (0, .ref v0)]) (st' := []) rfl ?_
  obtain ⟨x23, w23, h⟩ := bd h
  have j23 : Ev (d + 1) 4 86 [] [] (uS L x23) o := by
    clear w23
    cases h
    obtain rfl : o = _ := ho
    exact Ev.vret D_4 (by decide +kernel)
  exact Ev.sub (lv' := [(0, .ref v0), (1, .int (0 : Int32))]) (subL_cons rfl (subL_cons rfl subL_nil)) (gC_prepareActs_h2_w hd i0  _ _ _ w23 _ j23)
/- Course prepareWithout: 2 -/
def gC_prepareWithout_h77 (v0 : Nat) (v1 : Int32) (v2 : Int32) (q : Int32 × mT) : Option ((Int32 × mT) ⊕ (mT)) :=
  if (q.2.1 16 6) ≤ q.1 then
    some (.inr q.2)
  else
    if ¬ (v2 < 0 ∨ 21 ≤ v2.toNatClampNeg) then
      (wrI q.2 (v0 + 5 + v2.toNatClampNeg) 5 q.1 (-1 : Int32)).bind fun s6 =>
      some (.inl (q.1 + (1 : Int32), s6))
    else none
set_option maxRecDepth 8000 in
theorem gC_prepareWithout_h77_ok {L d : Nat} (hd : 2 ≤ d + 1) {v0 : Nat} {v1 : Int32} {v2 : Int32} (i0 : isCo v0) : ∀ (q : Int32 × mT) (x : (Int32 × mT) ⊕ (mT)), gC_prepareWithout_h77 v0 v1 v2 q = some x → ∀ o, sK (fun q => Ev (d + 1) 2 77 [(0, .ref v0), (1, .int v1), (2, .int v2), (3, .int q.1)] [] (uS L q.2) o) (fun r => Ev (d + 1) 2 103 [(0, .ref v0), (1, .int v1), (2, .int v2)] [] (uS L r) o) x → Ev (d + 1) 2 77 [(0, .ref v0), (1, .int v1), (2, .int v2), (3, .int q.1)] [] (uS L q.2) o := by
  intro q x h o ho
  unfold gC_prepareWithout_h77 at h
  refine Ev.seg D_2 [(.iload_n 3, 1), (.aload_n 0, 1)] (by decide +kernel) (j := 0) (pc' := 79) (lv' := [(0, .ref v0), (1, .int v1), (2, .int v2), (3, .int q.1)]) (st' := [.ref v0, .int q.1]) rfl ?_
  refine Ev.getR D_2 (by decide +kernel) F_0_42 T_0_0 (x := 16) (S_oR (co_o i0) (co_r i0 0 16 (by decide +kernel))) ?_
  refine Ev.getI D_2 (by decide +kernel) F_0_67 (Or.inl T_2_6) (S_oI k_16) ?_
  refine Ev.icmp D_2 (c := .ge) (off := 18) (by decide +kernel) (t := 103) rfl (fun c3 => ?_) (fun c3 => ?_)
  · have c3 : (q.2.1 16 6) ≤ q.1 := of_decide_eq_true c3
    rw [if_pos c3] at h
    cases h
    exact Ev.sub (lv' := [(0, .ref v0), (1, .int v1), (2, .int v2)]) (subL_cons rfl (subL_cons rfl (subL_cons rfl subL_nil))) ho
  · have c3 : ¬ (q.2.1 16 6) ≤ q.1 := of_decide_eq_false c3
    rw [if_neg c3] at h
    refine Ev.seg D_2 [(.aload_n 0, 1)] (by decide +kernel) (j := 0) (pc' := 89) (lv' := [(0, .ref v0), (1, .int v1), (2, .int v2), (3, .int q.1)]) (st' := [.ref v0]) rfl ?_
    refine Ev.getR D_2 (by decide +kernel) F_0_27 T_0_5 (x := (v0 + 4)) (S_oR (co_o i0) (co_r2 i0 5 4 (by decide +kernel))) ?_
    refine Ev.seg D_2 [(.iload_n 2, 1)] (by decide +kernel) (j := 0) (pc' := 93) (lv' := [(0, .ref v0), (1, .int v1), (2, .int v2), (3, .int q.1)]) (st' := [.int v2, .ref (v0 + 4)]) rfl ?_
    by_cases b93 : ¬ (v2 < 0 ∨ 21 ≤ v2.toNatClampNeg)
    rotate_left
    · rw [if_neg b93] at h; cases h
    rw [if_pos b93] at h
    refine Ev.aald D_2 (by decide +kernel) (kd := 26) ⟨by decide, by decide⟩ (x := (v0 + 5 + v2.toNatClampNeg)) (S_aR (co_k i0 4 _ (by decide +kernel)) b93 (co_aa i0 4 21 (by decide +kernel) b93)) ?_
    refine Ev.seg D_2 [(.iload_n 3, 1), (.iconst (-1), 1)] (by decide +kernel) (j := 0) (pc' := 96) (lv' := [(0, .ref v0), (1, .int v1), (2, .int v2), (3, .int q.1)]) (st' := [.int (-1 : Int32), .int q.1, .ref (v0 + 5 + v2.toNatClampNeg)]) rfl ?_
    obtain ⟨s6, e6, h⟩ := bd h
    refine Ev.iast D_2 (by decide +kernel) (S_sI (co_row i0 5 21 (by decide +kernel) b93) e6) ?_
    refine Ev.seg D_2 [(.iinc 3 1, 3), (.goto (-23), 3)] (by decide +kernel) (j := 0) (pc' := 77) (lv' := [(3, .int (q.1 + (1 : Int32))), (0, .ref v0), (1, .int v1), (2, .int v2)]) (st' := []) rfl ?_
    cases h
    exact Ev.sub (lv' := [(0, .ref v0), (1, .int v1), (2, .int v2), (3, .int (q.1 + (1 : Int32)))]) (subL_cons rfl (subL_cons rfl (subL_cons rfl (subL_cons rfl subL_nil)))) ho
theorem gC_prepareWithout_h77_w {L d : Nat} (hd : 2 ≤ d + 1) {v0 : Nat} {v1 : Int32} {v2 : Int32} (i0 : isCo v0) : ∀ (n : Nat) (q : Int32 × mT) (r : mT), wh n (gC_prepareWithout_h77 v0 v1 v2) q = some r → ∀ o, (fun r => Ev (d + 1) 2 103 [(0, .ref v0), (1, .int v1), (2, .int v2)] [] (uS L r) o) r → Ev (d + 1) 2 77 [(0, .ref v0), (1, .int v1), (2, .int v2), (3, .int q.1)] [] (uS L q.2) o :=
  fun n q r h o hc => wh_ev (E := fun (q : Int32 × mT) o => Ev (d + 1) 2 77 [(0, .ref v0), (1, .int v1), (2, .int v2), (3, .int q.1)] [] (uS L q.2) o) (C := fun (r : mT) o => (fun r => Ev (d + 1) 2 103 [(0, .ref v0), (1, .int v1), (2, .int v2)] [] (uS L r) o) r) (gC_prepareWithout_h77_ok hd i0 ) n q r h o hc
def gC_prepareWithout_h64 (v0 : Nat) (v1 : Int32) (q : Int32 × mT) : Option ((Int32 × mT) ⊕ (mT)) :=
  if (q.2.1 16 0) < q.1 then
    some (.inr q.2)
  else
    (wh FU (gC_prepareWithout_h77 v0 v1 q.1) ((0 : Int32), q.2)).bind fun x7 =>
    some (.inl (q.1 + (1 : Int32), x7))
set_option maxRecDepth 8000 in
theorem gC_prepareWithout_h64_ok {L d : Nat} (hd : 2 ≤ d + 1) {v0 : Nat} {v1 : Int32} (i0 : isCo v0) : ∀ (q : Int32 × mT) (x : (Int32 × mT) ⊕ (mT)), gC_prepareWithout_h64 v0 v1 q = some x → ∀ o, sK (fun q => Ev (d + 1) 2 64 [(0, .ref v0), (1, .int v1), (2, .int q.1)] [] (uS L q.2) o) (fun r => Ev (d + 1) 2 109 [(0, .ref v0), (1, .int v1)] [] (uS L r) o) x → Ev (d + 1) 2 64 [(0, .ref v0), (1, .int v1), (2, .int q.1)] [] (uS L q.2) o := by
  intro q x h o ho
  unfold gC_prepareWithout_h64 at h
  refine Ev.seg D_2 [(.iload_n 2, 1), (.aload_n 0, 1)] (by decide +kernel) (j := 0) (pc' := 66) (lv' := [(0, .ref v0), (1, .int v1), (2, .int q.1)]) (st' := [.ref v0, .int q.1]) rfl ?_
  refine Ev.getR D_2 (by decide +kernel) F_0_42 T_0_0 (x := 16) (S_oR (co_o i0) (co_r i0 0 16 (by decide +kernel))) ?_
  refine Ev.getI D_2 (by decide +kernel) F_0_64 (Or.inl T_2_0) (S_oI k_16) ?_
  refine Ev.icmp D_2 (c := .gt) (off := 37) (by decide +kernel) (t := 109) rfl (fun c3 => ?_) (fun c3 => ?_)
  · have c3 : (q.2.1 16 0) < q.1 := of_decide_eq_true c3
    rw [if_pos c3] at h
    cases h
    exact Ev.sub (lv' := [(0, .ref v0), (1, .int v1)]) (subL_cons rfl (subL_cons rfl subL_nil)) ho
  · have c3 : ¬ (q.2.1 16 0) < q.1 := of_decide_eq_false c3
    rw [if_neg c3] at h
    refine Ev.seg D_2 [(.iconst 0, 1), (.istore_n 3, 1)] (by decide +kernel) (j := 0) (pc' := 77) (lv' := [(3, .int (0 : Int32)), (0, .ref v0), (1, .int v1), (2, .int q.1)]) (st' := []) rfl ?_
    obtain ⟨x7, w7, h⟩ := bd h
    have j7 : Ev (d + 1) 2 103 [(0, .ref v0), (1, .int v1), (2, .int q.1)] [] (uS L x7) o := by
      clear w7
      refine Ev.seg D_2 [(.iinc 2 1, 3), (.goto (-42), 3)] (by decide +kernel) (j := 0) (pc' := 64) (lv' := [(2, .int (q.1 + (1 : Int32))), (0, .ref v0), (1, .int v1)]) (st' := []) rfl ?_
      cases h
      exact Ev.sub (lv' := [(0, .ref v0), (1, .int v1), (2, .int (q.1 + (1 : Int32)))]) (subL_cons rfl (subL_cons rfl (subL_cons rfl subL_nil))) ho
    exact Ev.sub (lv' := [(0, .ref v0), (1, .int v1), (2, .int q.1), (3, .int (0 : Int32))]) (subL_cons rfl (subL_cons rfl (subL_cons rfl (subL_cons rfl subL_nil)))) (gC_prepareWithout_h77_w hd i0  _ _ _ w7 _ j7)
theorem gC_prepareWithout_h64_w {L d : Nat} (hd : 2 ≤ d + 1) {v0 : Nat} {v1 : Int32} (i0 : isCo v0) : ∀ (n : Nat) (q : Int32 × mT) (r : mT), wh n (gC_prepareWithout_h64 v0 v1) q = some r → ∀ o, (fun r => Ev (d + 1) 2 109 [(0, .ref v0), (1, .int v1)] [] (uS L r) o) r → Ev (d + 1) 2 64 [(0, .ref v0), (1, .int v1), (2, .int q.1)] [] (uS L q.2) o :=
  fun n q r h o hc => wh_ev (E := fun (q : Int32 × mT) o => Ev (d + 1) 2 64 [(0, .ref v0), (1, .int v1), (2, .int q.1)] [] (uS L q.2) o) (C := fun (r : mT) o => (fun r => Ev (d + 1) 2 109 [(0, .ref v0), (1, .int v1)] [] (uS L r) o) r) (gC_prepareWithout_h64_ok hd i0 ) n q r h o hc
def gC_prepareWithout_h111 (v0 : Nat) (v1 : Int32) (q : Int32 × mT) : Option ((Int32 × mT) ⊕ (mT)) :=
  if (20 : Int32) < q.1 then
    some (.inr q.2)
  else
    (wrI q.2 (v0 + 26) 21 q.1 (((1 : Int32) <<< ((q.2.1 16 6) &&& 31)) - (1 : Int32))).bind fun s5 =>
    some (.inl (q.1 + (1 : Int32), s5))
set_option maxRecDepth 8000 in
theorem gC_prepareWithout_h111_ok {L d : Nat} (hd : 2 ≤ d + 1) {v0 : Nat} {v1 : Int32} (i0 : isCo v0) : ∀ (q : Int32 × mT) (x : (Int32 × mT) ⊕ (mT)), gC_prepareWithout_h111 v0 v1 q = some x → ∀ o, sK (fun q => Ev (d + 1) 2 111 [(0, .ref v0), (1, .int v1), (2, .int q.1)] [] (uS L q.2) o) (fun r => Ev (d + 1) 2 140 [(0, .ref v0), (1, .int v1)] [] (uS L r) o) x → Ev (d + 1) 2 111 [(0, .ref v0), (1, .int v1), (2, .int q.1)] [] (uS L q.2) o := by
  intro q x h o ho
  unfold gC_prepareWithout_h111 at h
  refine Ev.seg D_2 [(.iload_n 2, 1), (.bipush 20, 2)] (by decide +kernel) (j := 0) (pc' := 114) (lv' := [(0, .ref v0), (1, .int v1), (2, .int q.1)]) (st' := [.int (20 : Int32), .int q.1]) rfl ?_
  refine Ev.icmp D_2 (c := .gt) (off := 26) (by decide +kernel) (t := 140) rfl (fun c1 => ?_) (fun c1 => ?_)
  · have c1 : (20 : Int32) < q.1 := of_decide_eq_true c1
    rw [if_pos c1] at h
    cases h
    exact Ev.sub (lv' := [(0, .ref v0), (1, .int v1)]) (subL_cons rfl (subL_cons rfl subL_nil)) ho
  · have c1 : ¬ (20 : Int32) < q.1 := of_decide_eq_false c1
    rw [if_neg c1] at h
    refine Ev.seg D_2 [(.aload_n 0, 1)] (by decide +kernel) (j := 0) (pc' := 118) (lv' := [(0, .ref v0), (1, .int v1), (2, .int q.1)]) (st' := [.ref v0]) rfl ?_
    refine Ev.getR D_2 (by decide +kernel) F_0_30 T_0_6 (x := (v0 + 26)) (S_oR (co_o i0) (co_r2 i0 6 26 (by decide +kernel))) ?_
    refine Ev.seg D_2 [(.iload_n 2, 1), (.iconst 1, 1), (.aload_n 0, 1)] (by decide +kernel) (j := 0) (pc' := 124) (lv' := [(0, .ref v0), (1, .int v1), (2, .int q.1)]) (st' := [.ref v0, .int (1 : Int32), .int q.1, .ref (v0 + 26)]) rfl ?_
    refine Ev.getR D_2 (by decide +kernel) F_0_42 T_0_0 (x := 16) (S_oR (co_o i0) (co_r i0 0 16 (by decide +kernel))) ?_
    refine Ev.getI D_2 (by decide +kernel) F_0_67 (Or.inl T_2_6) (S_oI k_16) ?_
    refine Ev.seg D_2 [(.ishl, 1), (.iconst 1, 1), (.isub, 1)] (by decide +kernel) (j := 0) (pc' := 133) (lv' := [(0, .ref v0), (1, .int v1), (2, .int q.1)]) (st' := [.int (((1 : Int32) <<< ((q.2.1 16 6) &&& 31)) - (1 : Int32)), .int q.1, .ref (v0 + 26)]) rfl ?_
    obtain ⟨s5, e5, h⟩ := bd h
    refine Ev.iast D_2 (by decide +kernel) (S_sI (co_k i0 26 _ (by decide +kernel)) e5) ?_
    refine Ev.seg D_2 [(.iinc 2 1, 3), (.goto (-26), 3)] (by decide +kernel) (j := 0) (pc' := 111) (lv' := [(2, .int (q.1 + (1 : Int32))), (0, .ref v0), (1, .int v1)]) (st' := []) rfl ?_
    cases h
    exact Ev.sub (lv' := [(0, .ref v0), (1, .int v1), (2, .int (q.1 + (1 : Int32)))]) (subL_cons rfl (subL_cons rfl (subL_cons rfl subL_nil))) ho
theorem gC_prepareWithout_h111_w {L d : Nat} (hd : 2 ≤ d + 1) {v0 : Nat} {v1 : Int32} (i0 : isCo v0) : ∀ (n : Nat) (q : Int32 × mT) (r : mT), wh n (gC_prepareWithout_h111 v0 v1) q = some r → ∀ o, (fun r => Ev (d + 1) 2 140 [(0, .ref v0), (1, .int v1)] [] (uS L r) o) r → Ev (d + 1) 2 111 [(0, .ref v0), (1, .int v1), (2, .int q.1)] [] (uS L q.2) o :=
  fun n q r h o hc => wh_ev (E := fun (q : Int32 × mT) o => Ev (d + 1) 2 111 [(0, .ref v0), (1, .int v1), (2, .int q.1)] [] (uS L q.2) o) (C := fun (r : mT) o => (fun r => Ev (d + 1) 2 140 [(0, .ref v0), (1, .int v1)] [] (uS L r) o) r) (gC_prepareWithout_h111_ok hd i0 ) n q r h o hc
def gC_prepareWithout_h142 (v0 : Nat) (v1 : Int32) (q : Int32 × mT) : Option ((Int32 × mT) ⊕ (mT)) :=
  if (q.2.1 16 7) ≤ q.1 then
    some (.inr q.2)
  else
    (
      if q.1 = v1 then
        some (q.2)
      else
        (rdI (q.2.1 24) 5 q.1).bind fun x7 =>
        (rdI (q.2.1 23) 5 q.1).bind fun x10 =>
        (gC_draw v0 x7 x10 q.2).bind fun p11 =>
        some (p11) : Option (mT)).bind fun x4 =>
    some (.inl (q.1 + (1 : Int32), x4))
set_option maxRecDepth 8000 in
theorem gC_prepareWithout_h142_ok {L d : Nat} (hd : 2 ≤ d + 1) {v0 : Nat} {v1 : Int32} (i0 : isCo v0) : ∀ (q : Int32 × mT) (x : (Int32 × mT) ⊕ (mT)), gC_prepareWithout_h142 v0 v1 q = some x → ∀ o, sK (fun q => Ev (d + 1) 2 142 [(0, .ref v0), (1, .int v1), (2, .int q.1)] [] (uS L q.2) o) (fun r => Ev (d + 1) 2 186 [(0, .ref v0)] [] (uS L r) o) x → Ev (d + 1) 2 142 [(0, .ref v0), (1, .int v1), (2, .int q.1)] [] (uS L q.2) o := by
  intro q x h o ho
  unfold gC_prepareWithout_h142 at h
  refine Ev.seg D_2 [(.iload_n 2, 1), (.aload_n 0, 1)] (by decide +kernel) (j := 0) (pc' := 144) (lv' := [(0, .ref v0), (1, .int v1), (2, .int q.1)]) (st' := [.ref v0, .int q.1]) rfl ?_
  refine Ev.getR D_2 (by decide +kernel) F_0_42 T_0_0 (x := 16) (S_oR (co_o i0) (co_r i0 0 16 (by decide +kernel))) ?_
  refine Ev.getI D_2 (by decide +kernel) F_0_70 (Or.inl T_2_7) (S_oI k_16) ?_
  refine Ev.icmp D_2 (c := .ge) (off := 36) (by decide +kernel) (t := 186) rfl (fun c3 => ?_) (fun c3 => ?_)
  · have c3 : (q.2.1 16 7) ≤ q.1 := of_decide_eq_true c3
    rw [if_pos c3] at h
    cases h
    exact Ev.sub (lv' := [(0, .ref v0)]) (subL_cons rfl subL_nil) ho
  · have c3 : ¬ (q.2.1 16 7) ≤ q.1 := of_decide_eq_false c3
    rw [if_neg c3] at h
    refine Ev.seg D_2 [(.iload_n 2, 1), (.iload_n 1, 1)] (by decide +kernel) (j := 0) (pc' := 155) (lv' := [(0, .ref v0), (1, .int v1), (2, .int q.1)]) (st' := [.int v1, .int q.1]) rfl ?_
    obtain ⟨x4, g4, h⟩ := bd h
    have j4 : Ev (d + 1) 2 180 [(0, .ref v0), (1, .int v1), (2, .int q.1)] [] (uS L x4) o := by
      clear g4
      refine Ev.seg D_2 [(.iinc 2 1, 3), (.goto (-41), 3)] (by decide +kernel) (j := 0) (pc' := 142) (lv' := [(2, .int (q.1 + (1 : Int32))), (0, .ref v0), (1, .int v1)]) (st' := []) rfl ?_
      cases h
      exact Ev.sub (lv' := [(0, .ref v0), (1, .int v1), (2, .int (q.1 + (1 : Int32)))]) (subL_cons rfl (subL_cons rfl (subL_cons rfl subL_nil))) ho
    clear h
    refine Ev.icmp D_2 (c := .eq) (off := 25) (by decide +kernel) (t := 180) rfl (fun c4 => ?_) (fun c4 => ?_)
    · have c4 : q.1 = v1 := of_decide_eq_true c4
      rw [if_pos c4] at g4
      cases g4
      exact Ev.sub2 j4 (subL_cons rfl (subL_cons rfl (subL_cons rfl subL_nil)))
    · have c4 : ¬ q.1 = v1 := of_decide_eq_false c4
      rw [if_neg c4] at g4
      refine Ev.seg D_2 [(.aload_n 0, 1), (.aload_n 0, 1)] (by decide +kernel) (j := 0) (pc' := 160) (lv' := [(0, .ref v0), (1, .int v1), (2, .int q.1)]) (st' := [.ref v0, .ref v0]) rfl ?_
      refine Ev.getR D_2 (by decide +kernel) F_0_42 T_0_0 (x := 16) (S_oR (co_o i0) (co_r i0 0 16 (by decide +kernel))) ?_
      refine Ev.getR D_2 (by decide +kernel) F_0_73 T_2_16 (x := 24) (S_oR k_16 (by decide +kernel)) ?_
      refine Ev.seg D_2 [(.iload_n 2, 1)] (by decide +kernel) (j := 0) (pc' := 167) (lv' := [(0, .ref v0), (1, .int v1), (2, .int q.1)]) (st' := [.int q.1, .ref 24, .ref v0]) rfl ?_
      obtain ⟨x7, e7, g4⟩ := bd g4
      refine Ev.iald D_2 (by decide +kernel) (S_aI k_24 e7) ?_
      refine Ev.seg D_2 [(.aload_n 0, 1)] (by decide +kernel) (j := 0) (pc' := 169) (lv' := [(0, .ref v0), (1, .int v1), (2, .int q.1)]) (st' := [.ref v0, .int x7, .ref v0]) rfl ?_
      refine Ev.getR D_2 (by decide +kernel) F_0_42 T_0_0 (x := 16) (S_oR (co_o i0) (co_r i0 0 16 (by decide +kernel))) ?_
      refine Ev.getR D_2 (by decide +kernel) F_0_76 T_2_15 (x := 23) (S_oR k_16 (by decide +kernel)) ?_
      refine Ev.seg D_2 [(.iload_n 2, 1)] (by decide +kernel) (j := 0) (pc' := 176) (lv' := [(0, .ref v0), (1, .int v1), (2, .int q.1)]) (st' := [.int q.1, .ref 23, .int x7, .ref v0]) rfl ?_
      obtain ⟨x10, e10, g4⟩ := bd g4
      refine Ev.iald D_2 (by decide +kernel) (S_aI k_23 e10) ?_
      obtain ⟨p11, e11, g4⟩ := bd g4
      refine Ev.callv D_2 E_3 (by decide +kernel) C_0_79 v0 [.int x7, .int x10] (r := []) rfl (gd_o (co_o i0) (by decide)) rfl (Nat.le_of_ble_eq_true rfl) (Nat.le_of_ble_eq_true rfl) (gC_draw_ok (by omega) i0 e11) ?_
      cases g4
      exact Ev.sub2 j4 (subL_cons rfl (subL_cons rfl (subL_cons rfl subL_nil)))
theorem gC_prepareWithout_h142_w {L d : Nat} (hd : 2 ≤ d + 1) {v0 : Nat} {v1 : Int32} (i0 : isCo v0) : ∀ (n : Nat) (q : Int32 × mT) (r : mT), wh n (gC_prepareWithout_h142 v0 v1) q = some r → ∀ o, (fun r => Ev (d + 1) 2 186 [(0, .ref v0)] [] (uS L r) o) r → Ev (d + 1) 2 142 [(0, .ref v0), (1, .int v1), (2, .int q.1)] [] (uS L q.2) o :=
  fun n q r h o hc => wh_ev (E := fun (q : Int32 × mT) o => Ev (d + 1) 2 142 [(0, .ref v0), (1, .int v1), (2, .int q.1)] [] (uS L q.2) o) (C := fun (r : mT) o => (fun r => Ev (d + 1) 2 186 [(0, .ref v0)] [] (uS L r) o) r) (gC_prepareWithout_h142_ok hd i0 ) n q r h o hc
def gC_prepareWithout (v0 : Nat) (v1 : Int32) (s : mT) : Option (mT) :=
  (cpI (stI s v0 1 (s.1 16 1)) 17 5 (0 : Int32) (v0 + 1) 5 (0 : Int32) (5 : Int32)).bind fun s7 =>
  (cpI s7 18 5 (0 : Int32) (v0 + 2) 5 (0 : Int32) (5 : Int32)).bind fun s11 =>
  (cpI s11 22 5 (0 : Int32) (v0 + 3) 5 (0 : Int32) (5 : Int32)).bind fun s15 =>
  (wh FU (gC_prepareWithout_h64 v0 v1) ((0 : Int32), s15)).bind fun x16 =>
  (wh FU (gC_prepareWithout_h111 v0 v1) ((0 : Int32), x16)).bind fun x17 =>
  (wh FU (gC_prepareWithout_h142 v0 v1) ((0 : Int32), x17)).bind fun x18 =>
  (gC_prepareActs v0 x18).bind fun p19 =>
  some (p19)
set_option maxRecDepth 8000 in
theorem gC_prepareWithout_ok {L d : Nat} (hd : 2 ≤ d) {v0 : Nat} {v1 : Int32} {s : mT} (i0 : isCo v0) {p : mT} (h : gC_prepareWithout v0 v1 s = some p) : Ev d 2 0 [(0, .ref v0), (1, .int v1)] [] (uS L s) (none, uS L p) := by
  obtain ⟨d, rfl⟩ : ∃ e, d = e + 1 := ⟨d - 1, by omega⟩
  obtain ⟨o, ho⟩ : ∃ o : Option Value × mS, o = (none, uS L p) := ⟨_, rfl⟩
  rw [← ho]
  unfold gC_prepareWithout at h
  refine Ev.seg D_2 [(.aload_n 0, 1), (.aload_n 0, 1)] (by decide +kernel) (j := 0) (pc' := 2) (lv' := [(0, .ref v0), (1, .int v1)]) (st' := [.ref v0, .ref v0]) rfl ?_
  refine Ev.getR D_2 (by decide +kernel) F_0_42 T_0_0 (x := 16) (S_oR (co_o i0) (co_r i0 0 16 (by decide +kernel))) ?_
  refine Ev.getI D_2 (by decide +kernel) F_0_50 (Or.inl T_2_1) (S_oI k_16) ?_
  refine Ev.putI D_2 (by decide +kernel) F_0_9 N_0_1 T_0_1 (S_pI (co_o i0)) ?_
  refine Ev.seg D_2 [(.aload_n 0, 1)] (by decide +kernel) (j := 0) (pc' := 12) (lv' := [(0, .ref v0), (1, .int v1)]) (st' := [.ref v0]) rfl ?_
  refine Ev.getR D_2 (by decide +kernel) F_0_42 T_0_0 (x := 16) (S_oR (co_o i0) (co_r i0 0 16 (by decide +kernel))) ?_
  refine Ev.getR D_2 (by decide +kernel) F_0_53 T_2_9 (x := 17) (S_oR k_16 (by decide +kernel)) ?_
  refine Ev.seg D_2 [(.iconst 0, 1), (.aload_n 0, 1)] (by decide +kernel) (j := 0) (pc' := 20) (lv' := [(0, .ref v0), (1, .int v1)]) (st' := [.ref v0, .int (0 : Int32), .ref 17]) rfl ?_
  refine Ev.getR D_2 (by decide +kernel) F_0_15 T_0_2 (x := (v0 + 1)) (S_oR (co_o i0) (co_r2 i0 2 1 (by decide +kernel))) ?_
  refine Ev.seg D_2 [(.iconst 0, 1), (.iconst 5, 1)] (by decide +kernel) (j := 0) (pc' := 25) (lv' := [(0, .ref v0), (1, .int v1)]) (st' := [.int (5 : Int32), .int (0 : Int32), .ref (v0 + 1), .int (0 : Int32), .ref 17]) rfl ?_
  obtain ⟨s7, e7, h⟩ := bd h
  refine Ev.cpI D_2 (by decide +kernel) (Nat.succ_pos _) C_0_54 (Nat.le_of_ble_eq_true rfl) (S_cpI k_17 (co_k i0 1 _ (by decide +kernel)) e7) ?_
  refine Ev.seg D_2 [(.aload_n 0, 1)] (by decide +kernel) (j := 0) (pc' := 29) (lv' := [(0, .ref v0), (1, .int v1)]) (st' := [.ref v0]) rfl ?_
  refine Ev.getR D_2 (by decide +kernel) F_0_42 T_0_0 (x := 16) (S_oR (co_o i0) (co_r i0 0 16 (by decide +kernel))) ?_
  refine Ev.getR D_2 (by decide +kernel) F_0_60 T_2_10 (x := 18) (S_oR k_16 (by decide +kernel)) ?_
  refine Ev.seg D_2 [(.iconst 0, 1), (.aload_n 0, 1)] (by decide +kernel) (j := 0) (pc' := 37) (lv' := [(0, .ref v0), (1, .int v1)]) (st' := [.ref v0, .int (0 : Int32), .ref 18]) rfl ?_
  refine Ev.getR D_2 (by decide +kernel) F_0_19 T_0_3 (x := (v0 + 2)) (S_oR (co_o i0) (co_r2 i0 3 2 (by decide +kernel))) ?_
  refine Ev.seg D_2 [(.iconst 0, 1), (.iconst 5, 1)] (by decide +kernel) (j := 0) (pc' := 42) (lv' := [(0, .ref v0), (1, .int v1)]) (st' := [.int (5 : Int32), .int (0 : Int32), .ref (v0 + 2), .int (0 : Int32), .ref 18]) rfl ?_
  obtain ⟨s11, e11, h⟩ := bd h
  refine Ev.cpI D_2 (by decide +kernel) (Nat.succ_pos _) C_0_54 (Nat.le_of_ble_eq_true rfl) (S_cpI k_18 (co_k i0 2 _ (by decide +kernel)) e11) ?_
  refine Ev.seg D_2 [(.aload_n 0, 1)] (by decide +kernel) (j := 0) (pc' := 46) (lv' := [(0, .ref v0), (1, .int v1)]) (st' := [.ref v0]) rfl ?_
  refine Ev.getR D_2 (by decide +kernel) F_0_42 T_0_0 (x := 16) (S_oR (co_o i0) (co_r i0 0 16 (by decide +kernel))) ?_
  refine Ev.getR D_2 (by decide +kernel) F_0_61 T_2_14 (x := 22) (S_oR k_16 (by decide +kernel)) ?_
  refine Ev.seg D_2 [(.iconst 0, 1), (.aload_n 0, 1)] (by decide +kernel) (j := 0) (pc' := 54) (lv' := [(0, .ref v0), (1, .int v1)]) (st' := [.ref v0, .int (0 : Int32), .ref 22]) rfl ?_
  refine Ev.getR D_2 (by decide +kernel) F_0_22 T_0_4 (x := (v0 + 3)) (S_oR (co_o i0) (co_r2 i0 4 3 (by decide +kernel))) ?_
  refine Ev.seg D_2 [(.iconst 0, 1), (.iconst 5, 1)] (by decide +kernel) (j := 0) (pc' := 59) (lv' := [(0, .ref v0), (1, .int v1)]) (st' := [.int (5 : Int32), .int (0 : Int32), .ref (v0 + 3), .int (0 : Int32), .ref 22]) rfl ?_
  obtain ⟨s15, e15, h⟩ := bd h
  refine Ev.cpI D_2 (by decide +kernel) (Nat.succ_pos _) C_0_54 (Nat.le_of_ble_eq_true rfl) (S_cpI k_22 (co_k i0 3 _ (by decide +kernel)) e15) ?_
  refine Ev.seg D_2 [(.iconst 0, 1), (.istore_n 2, 1)] (by decide +kernel) (j := 0) (pc' := 64) (lv' := [(2, .int (0 : Int32)), (0, .ref v0), (1, .int v1)]) (st' := []) rfl ?_
  obtain ⟨x16, w16, h⟩ := bd h
  have j16 : Ev (d + 1) 2 109 [(0, .ref v0), (1, .int v1)] [] (uS L x16) o := by
    clear w16
    refine Ev.seg D_2 [(.iconst 0, 1), (.istore_n 2, 1)] (by decide +kernel) (j := 0) (pc' := 111) (lv' := [(2, .int (0 : Int32)), (0, .ref v0), (1, .int v1)]) (st' := []) rfl ?_
    obtain ⟨x17, w17, h⟩ := bd h
    have j17 : Ev (d + 1) 2 140 [(0, .ref v0), (1, .int v1)] [] (uS L x17) o := by
      clear w17
      refine Ev.seg D_2 [(.iconst 0, 1), (.istore_n 2, 1)] (by decide +kernel) (j := 0) (pc' := 142) (lv' := [(2, .int (0 : Int32)), (0, .ref v0), (1, .int v1)]) (st' := []) rfl ?_
      obtain ⟨x18, w18, h⟩ := bd h
      have j18 : Ev (d + 1) 2 186 [(0, .ref v0)] [] (uS L x18) o := by
        clear w18
        refine Ev.seg D_2 [(.aload_n 0, 1)] (by decide +kernel) (j := 0) (pc' := 187) (lv' := [(0, .ref v0)]) (st' := [.ref v0]) rfl ?_
        obtain ⟨p19, e19, h⟩ := bd h
        refine Ev.callv D_2 E_4 (by decide +kernel) C_0_83 v0 [] (r := []) rfl (gd_o (co_o i0) (by decide)) rfl (Nat.le_of_ble_eq_true rfl) (Nat.le_of_ble_eq_true rfl) (gC_prepareActs_ok (by omega) i0 e19) ?_
        cases h
        obtain rfl : o = _ := ho
        exact Ev.vret D_2 (by decide +kernel)
      exact Ev.sub (lv' := [(0, .ref v0), (1, .int v1), (2, .int (0 : Int32))]) (subL_cons rfl (subL_cons rfl (subL_cons rfl subL_nil))) (gC_prepareWithout_h142_w hd i0  _ _ _ w18 _ j18)
    exact Ev.sub (lv' := [(0, .ref v0), (1, .int v1), (2, .int (0 : Int32))]) (subL_cons rfl (subL_cons rfl (subL_cons rfl subL_nil))) (gC_prepareWithout_h111_w hd i0  _ _ _ w17 _ j17)
  exact Ev.sub (lv' := [(0, .ref v0), (1, .int v1), (2, .int (0 : Int32))]) (subL_cons rfl (subL_cons rfl (subL_cons rfl subL_nil))) (gC_prepareWithout_h64_w hd i0  _ _ _ w16 _ j16)
/- Course prepare: 1 -/
def gC_prepare (v0 : Nat) (s : mT) : Option (mT) :=
  (gC_prepareWithout v0 (-1 : Int32) s).bind fun p1 =>
  some (p1)
set_option maxRecDepth 8000 in
theorem gC_prepare_ok {L d : Nat} (hd : 3 ≤ d) {v0 : Nat} {s : mT} (i0 : isCo v0) {p : mT} (h : gC_prepare v0 s = some p) : Ev d 1 0 [(0, .ref v0)] [] (uS L s) (none, uS L p) := by
  obtain ⟨d, rfl⟩ : ∃ e, d = e + 1 := ⟨d - 1, by omega⟩
  obtain ⟨o, ho⟩ : ∃ o : Option Value × mS, o = (none, uS L p) := ⟨_, rfl⟩
  rw [← ho]
  unfold gC_prepare at h
  refine Ev.seg D_1 [(.aload_n 0, 1), (.iconst (-1), 1)] (by decide +kernel) (j := 0) (pc' := 2) (lv' := [(0, .ref v0)]) (st' := [.int (-1 : Int32), .ref v0]) rfl ?_
  obtain ⟨p1, e1, h⟩ := bd h
  refine Ev.callv D_1 E_2 (by decide +kernel) C_0_46 v0 [.int (-1 : Int32)] (r := []) rfl (gd_o (co_o i0) (by decide)) rfl (Nat.le_of_ble_eq_true rfl) (Nat.le_of_ble_eq_true rfl) (gC_prepareWithout_ok (by omega) i0 e1) ?_
  cases h
  obtain rfl : o = _ := ho
  exact Ev.vret D_1 (by decide +kernel)
/- Course countEyes: 6 -/
def gC_countEyes_h9 (v0 : Nat) (v1 : Int32) (q : Int32 × mT) : Option ((Int32 × mT) ⊕ (mT)) :=
  if (q.2.1 16 5) ≤ q.1 then
    some (.inr q.2)
  else
    (wrI q.2 (v0 + 72 + v1.toNatClampNeg) 5 q.1 (0 : Int32)).bind fun s4 =>
    some (.inl (q.1 + (1 : Int32), s4))
set_option maxRecDepth 8000 in
theorem gC_countEyes_h9_ok {L d : Nat} (hd : 1 ≤ d + 1) {v0 : Nat} {v1 : Int32} (i0 : isCo v0) (b5 : ¬ (v1 < 0 ∨ 21 ≤ v1.toNatClampNeg)) : ∀ (q : Int32 × mT) (x : (Int32 × mT) ⊕ (mT)), gC_countEyes_h9 v0 v1 q = some x → ∀ o, sK (fun q => Ev (d + 1) 6 9 [(0, .ref v0), (1, .int v1), (2, .ref (v0 + 72 + v1.toNatClampNeg)), (3, .int q.1)] [] (uS L q.2) o) (fun r => Ev (d + 1) 6 30 [(0, .ref v0), (1, .int v1), (2, .ref (v0 + 72 + v1.toNatClampNeg))] [] (uS L r) o) x → Ev (d + 1) 6 9 [(0, .ref v0), (1, .int v1), (2, .ref (v0 + 72 + v1.toNatClampNeg)), (3, .int q.1)] [] (uS L q.2) o := by
  intro q x h o ho
  unfold gC_countEyes_h9 at h
  refine Ev.seg D_6 [(.iload_n 3, 1), (.aload_n 0, 1)] (by decide +kernel) (j := 0) (pc' := 11) (lv' := [(0, .ref v0), (1, .int v1), (2, .ref (v0 + 72 + v1.toNatClampNeg)), (3, .int q.1)]) (st' := [.ref v0, .int q.1]) rfl ?_
  refine Ev.getR D_6 (by decide +kernel) F_0_42 T_0_0 (x := 16) (S_oR (co_o i0) (co_r i0 0 16 (by decide +kernel))) ?_
  refine Ev.getI D_6 (by decide +kernel) F_0_113 (Or.inl T_2_5) (S_oI k_16) ?_
  refine Ev.icmp D_6 (c := .ge) (off := 13) (by decide +kernel) (t := 30) rfl (fun c3 => ?_) (fun c3 => ?_)
  · have c3 : (q.2.1 16 5) ≤ q.1 := of_decide_eq_true c3
    rw [if_pos c3] at h
    cases h
    exact Ev.sub (lv' := [(0, .ref v0), (1, .int v1), (2, .ref (v0 + 72 + v1.toNatClampNeg))]) (subL_cons rfl (subL_cons rfl (subL_cons rfl subL_nil))) ho
  · have c3 : ¬ (q.2.1 16 5) ≤ q.1 := of_decide_eq_false c3
    rw [if_neg c3] at h
    refine Ev.seg D_6 [(.aload_n 2, 1), (.iload_n 3, 1), (.iconst 0, 1)] (by decide +kernel) (j := 0) (pc' := 23) (lv' := [(0, .ref v0), (1, .int v1), (2, .ref (v0 + 72 + v1.toNatClampNeg)), (3, .int q.1)]) (st' := [.int (0 : Int32), .int q.1, .ref (v0 + 72 + v1.toNatClampNeg)]) rfl ?_
    obtain ⟨s4, e4, h⟩ := bd h
    refine Ev.iast D_6 (by decide +kernel) (S_sI (co_row i0 72 21 (by decide +kernel) b5) e4) ?_
    refine Ev.seg D_6 [(.iinc 3 1, 3), (.goto (-18), 3)] (by decide +kernel) (j := 0) (pc' := 9) (lv' := [(3, .int (q.1 + (1 : Int32))), (0, .ref v0), (1, .int v1), (2, .ref (v0 + 72 + v1.toNatClampNeg))]) (st' := []) rfl ?_
    cases h
    exact Ev.sub (lv' := [(0, .ref v0), (1, .int v1), (2, .ref (v0 + 72 + v1.toNatClampNeg)), (3, .int (q.1 + (1 : Int32)))]) (subL_cons rfl (subL_cons rfl (subL_cons rfl (subL_cons rfl subL_nil)))) ho
theorem gC_countEyes_h9_w {L d : Nat} (hd : 1 ≤ d + 1) {v0 : Nat} {v1 : Int32} (i0 : isCo v0) (b5 : ¬ (v1 < 0 ∨ 21 ≤ v1.toNatClampNeg)) : ∀ (n : Nat) (q : Int32 × mT) (r : mT), wh n (gC_countEyes_h9 v0 v1) q = some r → ∀ o, (fun r => Ev (d + 1) 6 30 [(0, .ref v0), (1, .int v1), (2, .ref (v0 + 72 + v1.toNatClampNeg))] [] (uS L r) o) r → Ev (d + 1) 6 9 [(0, .ref v0), (1, .int v1), (2, .ref (v0 + 72 + v1.toNatClampNeg)), (3, .int q.1)] [] (uS L q.2) o :=
  fun n q r h o hc => wh_ev (E := fun (q : Int32 × mT) o => Ev (d + 1) 6 9 [(0, .ref v0), (1, .int v1), (2, .ref (v0 + 72 + v1.toNatClampNeg)), (3, .int q.1)] [] (uS L q.2) o) (C := fun (r : mT) o => (fun r => Ev (d + 1) 6 30 [(0, .ref v0), (1, .int v1), (2, .ref (v0 + 72 + v1.toNatClampNeg))] [] (uS L r) o) r) (gC_countEyes_h9_ok hd i0 b5) n q r h o hc
def gC_countEyes_h32 (v0 : Nat) (v1 : Int32) (q : Int32 × mT) : Option ((Int32 × mT) ⊕ (mT)) :=
  if (q.2.1 16 6) ≤ q.1 then
    some (.inr q.2)
  else
    (rdI (q.2.1 (v0 + 26)) 21 v1).bind fun x5 =>
    (
      if ((x5 >>> (q.1 &&& 31)) &&& (1 : Int32)) = (1 : Int32) then
        if ¬ (v1 < 0 ∨ 21 ≤ v1.toNatClampNeg) then
          (rdI (q.2.1 (v0 + 50 + v1.toNatClampNeg)) 5 q.1).bind fun x9 =>
          (rdI (q.2.1 (v0 + 72 + v1.toNatClampNeg)) 5 x9).bind fun x10 =>
          (rdI (q.2.1 19) 5 q.1).bind fun x13 =>
          (wrI q.2 (v0 + 72 + v1.toNatClampNeg) 5 x9 (x10 + x13)).bind fun s14 =>
          some (s14)
        else none
      else
        some (q.2) : Option (mT)).bind fun x6 =>
    some (.inl (q.1 + (1 : Int32), x6))
set_option maxRecDepth 8000 in
theorem gC_countEyes_h32_ok {L d : Nat} (hd : 1 ≤ d + 1) {v0 : Nat} {v1 : Int32} (i0 : isCo v0) (b5 : ¬ (v1 < 0 ∨ 21 ≤ v1.toNatClampNeg)) : ∀ (q : Int32 × mT) (x : (Int32 × mT) ⊕ (mT)), gC_countEyes_h32 v0 v1 q = some x → ∀ o, sK (fun q => Ev (d + 1) 6 32 [(0, .ref v0), (1, .int v1), (2, .ref (v0 + 72 + v1.toNatClampNeg)), (3, .int q.1)] [] (uS L q.2) o) (fun r => Ev (d + 1) 6 85 [] [] (uS L r) o) x → Ev (d + 1) 6 32 [(0, .ref v0), (1, .int v1), (2, .ref (v0 + 72 + v1.toNatClampNeg)), (3, .int q.1)] [] (uS L q.2) o := by
  intro q x h o ho
  unfold gC_countEyes_h32 at h
  refine Ev.seg D_6 [(.iload_n 3, 1), (.aload_n 0, 1)] (by decide +kernel) (j := 0) (pc' := 34) (lv' := [(0, .ref v0), (1, .int v1), (2, .ref (v0 + 72 + v1.toNatClampNeg)), (3, .int q.1)]) (st' := [.ref v0, .int q.1]) rfl ?_
  refine Ev.getR D_6 (by decide +kernel) F_0_42 T_0_0 (x := 16) (S_oR (co_o i0) (co_r i0 0 16 (by decide +kernel))) ?_
  refine Ev.getI D_6 (by decide +kernel) F_0_67 (Or.inl T_2_6) (S_oI k_16) ?_
  refine Ev.icmp D_6 (c := .ge) (off := 45) (by decide +kernel) (t := 85) rfl (fun c3 => ?_) (fun c3 => ?_)
  · have c3 : (q.2.1 16 6) ≤ q.1 := of_decide_eq_true c3
    rw [if_pos c3] at h
    cases h
    exact Ev.sub (lv' := []) subL_nil ho
  · have c3 : ¬ (q.2.1 16 6) ≤ q.1 := of_decide_eq_false c3
    rw [if_neg c3] at h
    refine Ev.seg D_6 [(.aload_n 0, 1)] (by decide +kernel) (j := 0) (pc' := 44) (lv' := [(0, .ref v0), (1, .int v1), (2, .ref (v0 + 72 + v1.toNatClampNeg)), (3, .int q.1)]) (st' := [.ref v0]) rfl ?_
    refine Ev.getR D_6 (by decide +kernel) F_0_30 T_0_6 (x := (v0 + 26)) (S_oR (co_o i0) (co_r2 i0 6 26 (by decide +kernel))) ?_
    refine Ev.seg D_6 [(.iload_n 1, 1)] (by decide +kernel) (j := 0) (pc' := 48) (lv' := [(0, .ref v0), (1, .int v1), (2, .ref (v0 + 72 + v1.toNatClampNeg)), (3, .int q.1)]) (st' := [.int v1, .ref (v0 + 26)]) rfl ?_
    obtain ⟨x5, e5, h⟩ := bd h
    refine Ev.iald D_6 (by decide +kernel) (S_aI (co_k i0 26 _ (by decide +kernel)) e5) ?_
    refine Ev.seg D_6 [(.iload_n 3, 1), (.ishr, 1), (.iconst 1, 1), (.iand, 1), (.iconst 1, 1)] (by decide +kernel) (j := 0) (pc' := 54) (lv' := [(0, .ref v0), (1, .int v1), (2, .ref (v0 + 72 + v1.toNatClampNeg)), (3, .int q.1)]) (st' := [.int (1 : Int32), .int ((x5 >>> (q.1 &&& 31)) &&& (1 : Int32))]) rfl ?_
    obtain ⟨x6, g6, h⟩ := bd h
    have j6 : Ev (d + 1) 6 79 [(0, .ref v0), (1, .int v1), (2, .ref (v0 + 72 + v1.toNatClampNeg)), (3, .int q.1)] [] (uS L x6) o := by
      clear g6
      refine Ev.seg D_6 [(.iinc 3 1, 3), (.goto (-50), 3)] (by decide +kernel) (j := 0) (pc' := 32) (lv' := [(3, .int (q.1 + (1 : Int32))), (0, .ref v0), (1, .int v1), (2, .ref (v0 + 72 + v1.toNatClampNeg))]) (st' := []) rfl ?_
      cases h
      exact Ev.sub (lv' := [(0, .ref v0), (1, .int v1), (2, .ref (v0 + 72 + v1.toNatClampNeg)), (3, .int (q.1 + (1 : Int32)))]) (subL_cons rfl (subL_cons rfl (subL_cons rfl (subL_cons rfl subL_nil)))) ho
    clear h
    refine Ev.icmp D_6 (c := .ne) (off := 25) (by decide +kernel) (t := 79) rfl (fun c6 => ?_) (fun c6 => ?_)
    · have c6 : ¬ ((x5 >>> (q.1 &&& 31)) &&& (1 : Int32)) = (1 : Int32) := of_decide_eq_true c6
      rw [if_neg c6] at g6
      cases g6
      exact Ev.sub2 j6 (subL_cons rfl (subL_cons rfl (subL_cons rfl (subL_cons rfl subL_nil))))
    · have c6 : ((x5 >>> (q.1 &&& 31)) &&& (1 : Int32)) = (1 : Int32) := Decidable.of_not_not (of_decide_eq_false c6)
      rw [if_pos c6] at g6
      refine Ev.seg D_6 [(.aload_n 2, 1), (.aload_n 0, 1)] (by decide +kernel) (j := 0) (pc' := 59) (lv' := [(0, .ref v0), (1, .int v1), (2, .ref (v0 + 72 + v1.toNatClampNeg)), (3, .int q.1)]) (st' := [.ref v0, .ref (v0 + 72 + v1.toNatClampNeg)]) rfl ?_
      refine Ev.getR D_6 (by decide +kernel) F_0_36 T_0_8 (x := (v0 + 49)) (S_oR (co_o i0) (co_r2 i0 8 49 (by decide +kernel))) ?_
      refine Ev.seg D_6 [(.iload_n 1, 1)] (by decide +kernel) (j := 0) (pc' := 63) (lv' := [(0, .ref v0), (1, .int v1), (2, .ref (v0 + 72 + v1.toNatClampNeg)), (3, .int q.1)]) (st' := [.int v1, .ref (v0 + 49), .ref (v0 + 72 + v1.toNatClampNeg)]) rfl ?_
      by_cases b63 : ¬ (v1 < 0 ∨ 21 ≤ v1.toNatClampNeg)
      rotate_left
      · rw [if_neg b63] at g6; cases g6
      rw [if_pos b63] at g6
      refine Ev.aald D_6 (by decide +kernel) (kd := 26) ⟨by decide, by decide⟩ (x := (v0 + 50 + v1.toNatClampNeg)) (S_aR (co_k i0 49 _ (by decide +kernel)) b63 (co_aa i0 49 21 (by decide +kernel) b63)) ?_
      refine Ev.seg D_6 [(.iload_n 3, 1)] (by decide +kernel) (j := 0) (pc' := 65) (lv' := [(0, .ref v0), (1, .int v1), (2, .ref (v0 + 72 + v1.toNatClampNeg)), (3, .int q.1)]) (st' := [.int q.1, .ref (v0 + 50 + v1.toNatClampNeg), .ref (v0 + 72 + v1.toNatClampNeg)]) rfl ?_
      obtain ⟨x9, e9, g6⟩ := bd g6
      refine Ev.iald D_6 (by decide +kernel) (S_aI (co_row i0 50 21 (by decide +kernel) b63) e9) ?_
      refine Ev.seg D_6 [(.dup2, 1)] (by decide +kernel) (j := 0) (pc' := 67) (lv' := [(0, .ref v0), (1, .int v1), (2, .ref (v0 + 72 + v1.toNatClampNeg)), (3, .int q.1)]) (st' := [.int x9, .ref (v0 + 72 + v1.toNatClampNeg), .int x9, .ref (v0 + 72 + v1.toNatClampNeg)]) rfl ?_
      obtain ⟨x10, e10, g6⟩ := bd g6
      refine Ev.iald D_6 (by decide +kernel) (S_aI (co_row i0 72 21 (by decide +kernel) b5) e10) ?_
      refine Ev.seg D_6 [(.aload_n 0, 1)] (by decide +kernel) (j := 0) (pc' := 69) (lv' := [(0, .ref v0), (1, .int v1), (2, .ref (v0 + 72 + v1.toNatClampNeg)), (3, .int q.1)]) (st' := [.ref v0, .int x10, .int x9, .ref (v0 + 72 + v1.toNatClampNeg)]) rfl ?_
      refine Ev.getR D_6 (by decide +kernel) F_0_42 T_0_0 (x := 16) (S_oR (co_o i0) (co_r i0 0 16 (by decide +kernel))) ?_
      refine Ev.getR D_6 (by decide +kernel) F_0_98 T_2_11 (x := 19) (S_oR k_16 (by decide +kernel)) ?_
      refine Ev.seg D_6 [(.iload_n 3, 1)] (by decide +kernel) (j := 0) (pc' := 76) (lv' := [(0, .ref v0), (1, .int v1), (2, .ref (v0 + 72 + v1.toNatClampNeg)), (3, .int q.1)]) (st' := [.int q.1, .ref 19, .int x10, .int x9, .ref (v0 + 72 + v1.toNatClampNeg)]) rfl ?_
      obtain ⟨x13, e13, g6⟩ := bd g6
      refine Ev.iald D_6 (by decide +kernel) (S_aI k_19 e13) ?_
      refine Ev.seg D_6 [(.iadd, 1)] (by decide +kernel) (j := 0) (pc' := 78) (lv' := [(0, .ref v0), (1, .int v1), (2, .ref (v0 + 72 + v1.toNatClampNeg)), (3, .int q.1)]) (st' := [.int (x10 + x13), .int x9, .ref (v0 + 72 + v1.toNatClampNeg)]) rfl ?_
      obtain ⟨s14, e14, g6⟩ := bd g6
      refine Ev.iast D_6 (by decide +kernel) (S_sI (co_row i0 72 21 (by decide +kernel) b5) e14) ?_
      cases g6
      exact Ev.sub2 j6 (subL_cons rfl (subL_cons rfl (subL_cons rfl (subL_cons rfl subL_nil))))
theorem gC_countEyes_h32_w {L d : Nat} (hd : 1 ≤ d + 1) {v0 : Nat} {v1 : Int32} (i0 : isCo v0) (b5 : ¬ (v1 < 0 ∨ 21 ≤ v1.toNatClampNeg)) : ∀ (n : Nat) (q : Int32 × mT) (r : mT), wh n (gC_countEyes_h32 v0 v1) q = some r → ∀ o, (fun r => Ev (d + 1) 6 85 [] [] (uS L r) o) r → Ev (d + 1) 6 32 [(0, .ref v0), (1, .int v1), (2, .ref (v0 + 72 + v1.toNatClampNeg)), (3, .int q.1)] [] (uS L q.2) o :=
  fun n q r h o hc => wh_ev (E := fun (q : Int32 × mT) o => Ev (d + 1) 6 32 [(0, .ref v0), (1, .int v1), (2, .ref (v0 + 72 + v1.toNatClampNeg)), (3, .int q.1)] [] (uS L q.2) o) (C := fun (r : mT) o => (fun r => Ev (d + 1) 6 85 [] [] (uS L r) o) r) (gC_countEyes_h32_ok hd i0 b5) n q r h o hc
def gC_countEyes (v0 : Nat) (v1 : Int32) (s : mT) : Option (mT) :=
  if ¬ (v1 < 0 ∨ 21 ≤ v1.toNatClampNeg) then
    (wh FU (gC_countEyes_h9 v0 v1) ((0 : Int32), s)).bind fun x5 =>
    (wh FU (gC_countEyes_h32 v0 v1) ((0 : Int32), x5)).bind fun x15 =>
    some (x15)
  else none
set_option maxRecDepth 8000 in
theorem gC_countEyes_ok {L d : Nat} (hd : 1 ≤ d) {v0 : Nat} {v1 : Int32} {s : mT} (i0 : isCo v0) {p : mT} (h : gC_countEyes v0 v1 s = some p) : Ev d 6 0 [(0, .ref v0), (1, .int v1)] [] (uS L s) (none, uS L p) := by
  obtain ⟨d, rfl⟩ : ∃ e, d = e + 1 := ⟨d - 1, by omega⟩
  obtain ⟨o, ho⟩ : ∃ o : Option Value × mS, o = (none, uS L p) := ⟨_, rfl⟩
  rw [← ho]
  unfold gC_countEyes at h
  refine Ev.seg D_6 [(.aload_n 0, 1)] (by decide +kernel) (j := 0) (pc' := 1) (lv' := [(0, .ref v0), (1, .int v1)]) (st' := [.ref v0]) rfl ?_
  refine Ev.getR D_6 (by decide +kernel) F_0_39 T_0_9 (x := (v0 + 71)) (S_oR (co_o i0) (co_r2 i0 9 71 (by decide +kernel))) ?_
  refine Ev.seg D_6 [(.iload_n 1, 1)] (by decide +kernel) (j := 0) (pc' := 5) (lv' := [(0, .ref v0), (1, .int v1)]) (st' := [.int v1, .ref (v0 + 71)]) rfl ?_
  by_cases b5 : ¬ (v1 < 0 ∨ 21 ≤ v1.toNatClampNeg)
  rotate_left
  · rw [if_neg b5] at h; cases h
  rw [if_pos b5] at h
  refine Ev.aald D_6 (by decide +kernel) (kd := 26) ⟨by decide, by decide⟩ (x := (v0 + 72 + v1.toNatClampNeg)) (S_aR (co_k i0 71 _ (by decide +kernel)) b5 (co_aa i0 71 21 (by decide +kernel) b5)) ?_
  refine Ev.seg D_6 [(.astore_n 2, 1), (.iconst 0, 1), (.istore_n 3, 1)] (by decide +kernel) (j := 0) (pc' := 9) (lv' := [(3, .int (0 : Int32)), (2, .ref (v0 + 72 + v1.toNatClampNeg)), (0, .ref v0), (1, .int v1)]) (st' := []) rfl ?_
  obtain ⟨x5, w5, h⟩ := bd h
  have j5 : Ev (d + 1) 6 30 [(0, .ref v0), (1, .int v1), (2, .ref (v0 + 72 + v1.toNatClampNeg))] [] (uS L x5) o := by
    clear w5
    refine Ev.seg D_6 [(.iconst 0, 1), (.istore_n 3, 1)] (by decide +kernel) (j := 0) (pc' := 32) (lv' := [(3, .int (0 : Int32)), (0, .ref v0), (1, .int v1), (2, .ref (v0 + 72 + v1.toNatClampNeg))]) (st' := []) rfl ?_
    obtain ⟨x15, w15, h⟩ := bd h
    have j15 : Ev (d + 1) 6 85 [] [] (uS L x15) o := by
      clear w15
      cases h
      obtain rfl : o = _ := ho
      exact Ev.vret D_6 (by decide +kernel)
    exact Ev.sub (lv' := [(0, .ref v0), (1, .int v1), (2, .ref (v0 + 72 + v1.toNatClampNeg)), (3, .int (0 : Int32))]) (subL_cons rfl (subL_cons rfl (subL_cons rfl (subL_cons rfl subL_nil)))) (gC_countEyes_h32_w hd i0 b5 _ _ _ w15 _ j15)
  exact Ev.sub (lv' := [(0, .ref v0), (1, .int v1), (2, .ref (v0 + 72 + v1.toNatClampNeg)), (3, .int (0 : Int32))]) (subL_cons rfl (subL_cons rfl (subL_cons rfl (subL_cons rfl subL_nil)))) (gC_countEyes_h9_w hd i0 b5 _ _ _ w5 _ j5)
/- Course pace: 8 -/
def gC_pace (v0 : Nat) (v1 : Int32) (v2 : Int32) (s : mT) : Option (Int32) :=
  (rdI (s.1 (v0 + 2)) 5 v1).bind fun x2 =>
  if (1 : Int32) ≤ x2 then
    if ¬ (v2 < 0 ∨ 21 ≤ v2.toNatClampNeg) then
      (rdI (s.1 (v0 + 72 + v2.toNatClampNeg)) 5 v1).bind fun x6 =>
      (rdI (s.1 (v0 + 2)) 5 v1).bind fun x8 =>
      if x8 = 0 then none else
      some (imin (3 : Int32) (x6 / x8))
    else none
  else
    some ((0 : Int32))
set_option maxRecDepth 8000 in
theorem gC_pace_ok {L d : Nat} (hd : 1 ≤ d) {v0 : Nat} {v1 : Int32} {v2 : Int32} {s : mT} (i0 : isCo v0) {p : Int32} (h : gC_pace v0 v1 v2 s = some p) : Ev d 8 0 [(0, .ref v0), (1, .int v1), (2, .int v2)] [] (uS L s) (some (.int p), uS L s) := by
  obtain ⟨d, rfl⟩ : ∃ e, d = e + 1 := ⟨d - 1, by omega⟩
  obtain ⟨o, ho⟩ : ∃ o : Option Value × mS, o = (some (.int p), uS L s) := ⟨_, rfl⟩
  rw [← ho]
  unfold gC_pace at h
  refine Ev.seg D_8 [(.aload_n 0, 1)] (by decide +kernel) (j := 0) (pc' := 1) (lv' := [(0, .ref v0), (1, .int v1), (2, .int v2)]) (st' := [.ref v0]) rfl ?_
  refine Ev.getR D_8 (by decide +kernel) F_0_19 T_0_3 (x := (v0 + 2)) (S_oR (co_o i0) (co_r2 i0 3 2 (by decide +kernel))) ?_
  refine Ev.seg D_8 [(.iload_n 1, 1)] (by decide +kernel) (j := 0) (pc' := 5) (lv' := [(0, .ref v0), (1, .int v1), (2, .int v2)]) (st' := [.int v1, .ref (v0 + 2)]) rfl ?_
  obtain ⟨x2, e2, h⟩ := bd h
  refine Ev.iald D_8 (by decide +kernel) (S_aI (co_k i0 2 _ (by decide +kernel)) e2) ?_
  refine Ev.seg D_8 [(.iconst 1, 1)] (by decide +kernel) (j := 0) (pc' := 7) (lv' := [(0, .ref v0), (1, .int v1), (2, .int v2)]) (st' := [.int (1 : Int32), .int x2]) rfl ?_
  refine Ev.icmp D_8 (c := .ge) (off := 5) (by decide +kernel) (t := 12) rfl (fun c3 => ?_) (fun c3 => ?_)
  · have c3 : (1 : Int32) ≤ x2 := of_decide_eq_true c3
    rw [if_pos c3] at h
    refine Ev.seg D_8 [(.iconst 3, 1), (.aload_n 0, 1)] (by decide +kernel) (j := 0) (pc' := 14) (lv' := [(0, .ref v0), (1, .int v1), (2, .int v2)]) (st' := [.ref v0, .int (3 : Int32)]) rfl ?_
    refine Ev.getR D_8 (by decide +kernel) F_0_39 T_0_9 (x := (v0 + 71)) (S_oR (co_o i0) (co_r2 i0 9 71 (by decide +kernel))) ?_
    refine Ev.seg D_8 [(.iload_n 2, 1)] (by decide +kernel) (j := 0) (pc' := 18) (lv' := [(0, .ref v0), (1, .int v1), (2, .int v2)]) (st' := [.int v2, .ref (v0 + 71), .int (3 : Int32)]) rfl ?_
    by_cases b18 : ¬ (v2 < 0 ∨ 21 ≤ v2.toNatClampNeg)
    rotate_left
    · rw [if_neg b18] at h; cases h
    rw [if_pos b18] at h
    refine Ev.aald D_8 (by decide +kernel) (kd := 26) ⟨by decide, by decide⟩ (x := (v0 + 72 + v2.toNatClampNeg)) (S_aR (co_k i0 71 _ (by decide +kernel)) b18 (co_aa i0 71 21 (by decide +kernel) b18)) ?_
    refine Ev.seg D_8 [(.iload_n 1, 1)] (by decide +kernel) (j := 0) (pc' := 20) (lv' := [(0, .ref v0), (1, .int v1), (2, .int v2)]) (st' := [.int v1, .ref (v0 + 72 + v2.toNatClampNeg), .int (3 : Int32)]) rfl ?_
    obtain ⟨x6, e6, h⟩ := bd h
    refine Ev.iald D_8 (by decide +kernel) (S_aI (co_row i0 72 21 (by decide +kernel) b18) e6) ?_
    refine Ev.seg D_8 [(.aload_n 0, 1)] (by decide +kernel) (j := 0) (pc' := 22) (lv' := [(0, .ref v0), (1, .int v1), (2, .int v2)]) (st' := [.ref v0, .int x6, .int (3 : Int32)]) rfl ?_
    refine Ev.getR D_8 (by decide +kernel) F_0_19 T_0_3 (x := (v0 + 2)) (S_oR (co_o i0) (co_r2 i0 3 2 (by decide +kernel))) ?_
    refine Ev.seg D_8 [(.iload_n 1, 1)] (by decide +kernel) (j := 0) (pc' := 26) (lv' := [(0, .ref v0), (1, .int v1), (2, .int v2)]) (st' := [.int v1, .ref (v0 + 2), .int x6, .int (3 : Int32)]) rfl ?_
    obtain ⟨x8, e8, h⟩ := bd h
    refine Ev.iald D_8 (by decide +kernel) (S_aI (co_k i0 2 _ (by decide +kernel)) e8) ?_
    by_cases c9 : x8 = 0
    · rw [if_pos c9] at h; cases h
    rw [if_neg c9] at h
    refine Ev.idiv D_8 (by decide +kernel) c9 ?_
    refine Ev.min D_8 (by decide +kernel) (Nat.succ_pos _) C_0_119 (Nat.le_of_ble_eq_true rfl) ?_
    cases h
    obtain rfl : o = _ := ho
    exact Ev.iret D_8 (by decide +kernel)
  · have c3 : ¬ (1 : Int32) ≤ x2 := of_decide_eq_false c3
    rw [if_neg c3] at h
    refine Ev.seg D_8 [(.iconst 0, 1)] (by decide +kernel) (j := 0) (pc' := 11) (lv' := [(0, .ref v0), (1, .int v1), (2, .int v2)]) (st' := [.int (0 : Int32)]) rfl ?_
    cases h
    obtain rfl : o = _ := ho
    exact Ev.iret D_8 (by decide +kernel)
/- Course go: 7 -/
def gC_go_h2 (v0 : Nat) (v1 : Int32) (q : Int32 × mT) : Option ((Int32 × mT) ⊕ (mT)) :=
  if (q.2.1 16 5) ≤ q.1 then
    some (.inr q.2)
  else
    if ¬ (v1 < 0 ∨ 21 ≤ v1.toNatClampNeg) then
      (rdI (q.2.1 (v0 + 28 + v1.toNatClampNeg)) 5 q.1).bind fun x6 =>
      (gC_pace v0 q.1 v1 q.2).bind fun p7 =>
      if ¬ ((v1 + (1 : Int32)) < 0 ∨ 21 ≤ (v1 + (1 : Int32)).toNatClampNeg) then
        (wrI q.2 (v0 + 28 + (v1 + (1 : Int32)).toNatClampNeg) 5 q.1 (imin (x6 + p7) (q.2.1 16 2))).bind fun s13 =>
        some (.inl (q.1 + (1 : Int32), s13))
      else none
    else none
set_option maxRecDepth 8000 in
theorem gC_go_h2_ok {L d : Nat} (hd : 2 ≤ d + 1) {v0 : Nat} {v1 : Int32} (i0 : isCo v0) : ∀ (q : Int32 × mT) (x : (Int32 × mT) ⊕ (mT)), gC_go_h2 v0 v1 q = some x → ∀ o, sK (fun q => Ev (d + 1) 7 2 [(0, .ref v0), (1, .int v1), (2, .int q.1)] [] (uS L q.2) o) (fun r => Ev (d + 1) 7 56 [] [] (uS L r) o) x → Ev (d + 1) 7 2 [(0, .ref v0), (1, .int v1), (2, .int q.1)] [] (uS L q.2) o := by
  intro q x h o ho
  unfold gC_go_h2 at h
  refine Ev.seg D_7 [(.iload_n 2, 1), (.aload_n 0, 1)] (by decide +kernel) (j := 0) (pc' := 4) (lv' := [(0, .ref v0), (1, .int v1), (2, .int q.1)]) (st' := [.ref v0, .int q.1]) rfl ?_
  refine Ev.getR D_7 (by decide +kernel) F_0_42 T_0_0 (x := 16) (S_oR (co_o i0) (co_r i0 0 16 (by decide +kernel))) ?_
  refine Ev.getI D_7 (by decide +kernel) F_0_113 (Or.inl T_2_5) (S_oI k_16) ?_
  refine Ev.icmp D_7 (c := .ge) (off := 46) (by decide +kernel) (t := 56) rfl (fun c3 => ?_) (fun c3 => ?_)
  · have c3 : (q.2.1 16 5) ≤ q.1 := of_decide_eq_true c3
    rw [if_pos c3] at h
    cases h
    exact Ev.sub (lv' := []) subL_nil ho
  · have c3 : ¬ (q.2.1 16 5) ≤ q.1 := of_decide_eq_false c3
    rw [if_neg c3] at h
    refine Ev.seg D_7 [(.aload_n 0, 1)] (by decide +kernel) (j := 0) (pc' := 14) (lv' := [(0, .ref v0), (1, .int v1), (2, .int q.1)]) (st' := [.ref v0]) rfl ?_
    refine Ev.getR D_7 (by decide +kernel) F_0_33 T_0_7 (x := (v0 + 27)) (S_oR (co_o i0) (co_r2 i0 7 27 (by decide +kernel))) ?_
    refine Ev.seg D_7 [(.iload_n 1, 1)] (by decide +kernel) (j := 0) (pc' := 18) (lv' := [(0, .ref v0), (1, .int v1), (2, .int q.1)]) (st' := [.int v1, .ref (v0 + 27)]) rfl ?_
    by_cases b18 : ¬ (v1 < 0 ∨ 21 ≤ v1.toNatClampNeg)
    rotate_left
    · rw [if_neg b18] at h; cases h
    rw [if_pos b18] at h
    refine Ev.aald D_7 (by decide +kernel) (kd := 26) ⟨by decide, by decide⟩ (x := (v0 + 28 + v1.toNatClampNeg)) (S_aR (co_k i0 27 _ (by decide +kernel)) b18 (co_aa i0 27 21 (by decide +kernel) b18)) ?_
    refine Ev.seg D_7 [(.iload_n 2, 1)] (by decide +kernel) (j := 0) (pc' := 20) (lv' := [(0, .ref v0), (1, .int v1), (2, .int q.1)]) (st' := [.int q.1, .ref (v0 + 28 + v1.toNatClampNeg)]) rfl ?_
    obtain ⟨x6, e6, h⟩ := bd h
    refine Ev.iald D_7 (by decide +kernel) (S_aI (co_row i0 28 21 (by decide +kernel) b18) e6) ?_
    refine Ev.seg D_7 [(.aload_n 0, 1), (.iload_n 2, 1), (.iload_n 1, 1)] (by decide +kernel) (j := 0) (pc' := 24) (lv' := [(0, .ref v0), (1, .int v1), (2, .int q.1)]) (st' := [.int v1, .int q.1, .ref v0, .int x6]) rfl ?_
    obtain ⟨p7, e7, h⟩ := bd h
    refine Ev.callv D_7 E_8 (by decide +kernel) C_0_134 v0 [.int q.1, .int v1] (r := [.int x6]) rfl (gd_o (co_o i0) (by decide)) rfl (Nat.le_of_ble_eq_true rfl) (Nat.le_of_ble_eq_true rfl) (gC_pace_ok (by omega) i0 e7) ?_
    refine Ev.seg D_7 [(.iadd, 1), (.istore_n 3, 1), (.aload_n 0, 1)] (by decide +kernel) (j := 0) (pc' := 30) (lv' := [(3, .int (x6 + p7)), (0, .ref v0), (1, .int v1), (2, .int q.1)]) (st' := [.ref v0]) rfl ?_
    refine Ev.getR D_7 (by decide +kernel) F_0_33 T_0_7 (x := (v0 + 27)) (S_oR (co_o i0) (co_r2 i0 7 27 (by decide +kernel))) ?_
    refine Ev.seg D_7 [(.iload_n 1, 1), (.iconst 1, 1), (.iadd, 1)] (by decide +kernel) (j := 0) (pc' := 36) (lv' := [(3, .int (x6 + p7)), (0, .ref v0), (1, .int v1), (2, .int q.1)]) (st' := [.int (v1 + (1 : Int32)), .ref (v0 + 27)]) rfl ?_
    by_cases b36 : ¬ ((v1 + (1 : Int32)) < 0 ∨ 21 ≤ (v1 + (1 : Int32)).toNatClampNeg)
    rotate_left
    · rw [if_neg b36] at h; cases h
    rw [if_pos b36] at h
    refine Ev.aald D_7 (by decide +kernel) (kd := 26) ⟨by decide, by decide⟩ (x := (v0 + 28 + (v1 + (1 : Int32)).toNatClampNeg)) (S_aR (co_k i0 27 _ (by decide +kernel)) b36 (co_aa i0 27 21 (by decide +kernel) b36)) ?_
    refine Ev.seg D_7 [(.iload_n 2, 1), (.iload_n 3, 1), (.aload_n 0, 1)] (by decide +kernel) (j := 0) (pc' := 40) (lv' := [(3, .int (x6 + p7)), (0, .ref v0), (1, .int v1), (2, .int q.1)]) (st' := [.ref v0, .int (x6 + p7), .int q.1, .ref (v0 + 28 + (v1 + (1 : Int32)).toNatClampNeg)]) rfl ?_
    refine Ev.getR D_7 (by decide +kernel) F_0_42 T_0_0 (x := 16) (S_oR (co_o i0) (co_r i0 0 16 (by decide +kernel))) ?_
    refine Ev.getI D_7 (by decide +kernel) F_0_116 (Or.inl T_2_2) (S_oI k_16) ?_
    refine Ev.min D_7 (by decide +kernel) (Nat.succ_pos _) C_0_119 (Nat.le_of_ble_eq_true rfl) ?_
    obtain ⟨s13, e13, h⟩ := bd h
    refine Ev.iast D_7 (by decide +kernel) (S_sI (co_row i0 28 21 (by decide +kernel) b36) e13) ?_
    refine Ev.seg D_7 [(.iinc 2 1, 3), (.goto (-51), 3)] (by decide +kernel) (j := 0) (pc' := 2) (lv' := [(2, .int (q.1 + (1 : Int32))), (3, .int (x6 + p7)), (0, .ref v0), (1, .int v1)]) (st' := []) rfl ?_
    cases h
    exact Ev.sub (lv' := [(0, .ref v0), (1, .int v1), (2, .int (q.1 + (1 : Int32)))]) (subL_cons rfl (subL_cons rfl (subL_cons rfl subL_nil))) ho
theorem gC_go_h2_w {L d : Nat} (hd : 2 ≤ d + 1) {v0 : Nat} {v1 : Int32} (i0 : isCo v0) : ∀ (n : Nat) (q : Int32 × mT) (r : mT), wh n (gC_go_h2 v0 v1) q = some r → ∀ o, (fun r => Ev (d + 1) 7 56 [] [] (uS L r) o) r → Ev (d + 1) 7 2 [(0, .ref v0), (1, .int v1), (2, .int q.1)] [] (uS L q.2) o :=
  fun n q r h o hc => wh_ev (E := fun (q : Int32 × mT) o => Ev (d + 1) 7 2 [(0, .ref v0), (1, .int v1), (2, .int q.1)] [] (uS L q.2) o) (C := fun (r : mT) o => (fun r => Ev (d + 1) 7 56 [] [] (uS L r) o) r) (gC_go_h2_ok hd i0 ) n q r h o hc
def gC_go (v0 : Nat) (v1 : Int32) (s : mT) : Option (mT) :=
  (wh FU (gC_go_h2 v0 v1) ((0 : Int32), s)).bind fun x14 =>
  some (x14)
set_option maxRecDepth 8000 in
theorem gC_go_ok {L d : Nat} (hd : 2 ≤ d) {v0 : Nat} {v1 : Int32} {s : mT} (i0 : isCo v0) {p : mT} (h : gC_go v0 v1 s = some p) : Ev d 7 0 [(0, .ref v0), (1, .int v1)] [] (uS L s) (none, uS L p) := by
  obtain ⟨d, rfl⟩ : ∃ e, d = e + 1 := ⟨d - 1, by omega⟩
  obtain ⟨o, ho⟩ : ∃ o : Option Value × mS, o = (none, uS L p) := ⟨_, rfl⟩
  rw [← ho]
  unfold gC_go at h
  refine Ev.seg D_7 [(.iconst 0, 1), (.istore_n 2, 1)] (by decide +kernel) (j := 0) (pc' := 2) (lv' := [(2, .int (0 : Int32)), (0, .ref v0), (1, .int v1)]) (st' := []) rfl ?_
  obtain ⟨x14, w14, h⟩ := bd h
  have j14 : Ev (d + 1) 7 56 [] [] (uS L x14) o := by
    clear w14
    cases h
    obtain rfl : o = _ := ho
    exact Ev.vret D_7 (by decide +kernel)
  exact Ev.sub (lv' := [(0, .ref v0), (1, .int v1), (2, .int (0 : Int32))]) (subL_cons rfl (subL_cons rfl (subL_cons rfl subL_nil))) (gC_go_h2_w hd i0  _ _ _ w14 _ j14)
/- Course farthest: 11 -/
def gC_farthest_h8 (v0 : Nat) (v1 : Int32) (v3 : Int32) (s : mT) (q : Int32 × Int32) : Option ((Int32 × Int32) ⊕ (Int32)) :=
  if v3 < q.2 then
    some (.inr q.1)
  else
    if ¬ (v1 < 0 ∨ 21 ≤ v1.toNatClampNeg) then
      (rdI (s.1 (v0 + 28 + v1.toNatClampNeg)) 5 q.2).bind fun x4 =>
      if ¬ (v1 < 0 ∨ 21 ≤ v1.toNatClampNeg) then
        (rdI (s.1 (v0 + 28 + v1.toNatClampNeg)) 5 q.1).bind fun x7 =>
        (
          if x4 ≤ x7 then
            some (q.1)
          else
            some (q.2) : Option (Int32)).bind fun x8 =>
        some (.inl (x8, q.2 + (1 : Int32)))
      else none
    else none
set_option maxRecDepth 8000 in
theorem gC_farthest_h8_ok {L d : Nat} (hd : 1 ≤ d + 1) {v0 : Nat} {v1 : Int32} {v3 : Int32} {s : mT} (i0 : isCo v0) : ∀ (q : Int32 × Int32) (x : (Int32 × Int32) ⊕ (Int32)), gC_farthest_h8 v0 v1 v3 s q = some x → ∀ o, sK (fun q => Ev (d + 1) 11 8 [(0, .ref v0), (1, .int v1), (3, .int v3), (4, .int q.1), (5, .int q.2)] [] (uS L s) o) (fun r => Ev (d + 1) 11 45 [(4, .int r)] [] (uS L s) o) x → Ev (d + 1) 11 8 [(0, .ref v0), (1, .int v1), (3, .int v3), (4, .int q.1), (5, .int q.2)] [] (uS L s) o := by
  intro q x h o ho
  unfold gC_farthest_h8 at h
  refine Ev.seg D_11 [(.iload 5, 2), (.iload_n 3, 1)] (by decide +kernel) (j := 0) (pc' := 11) (lv' := [(0, .ref v0), (1, .int v1), (3, .int v3), (4, .int q.1), (5, .int q.2)]) (st' := [.int v3, .int q.2]) rfl ?_
  refine Ev.icmp D_11 (c := .gt) (off := 34) (by decide +kernel) (t := 45) rfl (fun c1 => ?_) (fun c1 => ?_)
  · have c1 : v3 < q.2 := of_decide_eq_true c1
    rw [if_pos c1] at h
    cases h
    exact Ev.sub (lv' := [(4, .int q.1)]) (subL_cons rfl subL_nil) ho
  · have c1 : ¬ v3 < q.2 := of_decide_eq_false c1
    rw [if_neg c1] at h
    refine Ev.seg D_11 [(.aload_n 0, 1)] (by decide +kernel) (j := 0) (pc' := 15) (lv' := [(0, .ref v0), (1, .int v1), (3, .int v3), (4, .int q.1), (5, .int q.2)]) (st' := [.ref v0]) rfl ?_
    refine Ev.getR D_11 (by decide +kernel) F_0_33 T_0_7 (x := (v0 + 27)) (S_oR (co_o i0) (co_r2 i0 7 27 (by decide +kernel))) ?_
    refine Ev.seg D_11 [(.iload_n 1, 1)] (by decide +kernel) (j := 0) (pc' := 19) (lv' := [(0, .ref v0), (1, .int v1), (3, .int v3), (4, .int q.1), (5, .int q.2)]) (st' := [.int v1, .ref (v0 + 27)]) rfl ?_
    by_cases b19 : ¬ (v1 < 0 ∨ 21 ≤ v1.toNatClampNeg)
    rotate_left
    · rw [if_neg b19] at h; cases h
    rw [if_pos b19] at h
    refine Ev.aald D_11 (by decide +kernel) (kd := 26) ⟨by decide, by decide⟩ (x := (v0 + 28 + v1.toNatClampNeg)) (S_aR (co_k i0 27 _ (by decide +kernel)) b19 (co_aa i0 27 21 (by decide +kernel) b19)) ?_
    refine Ev.seg D_11 [(.iload 5, 2)] (by decide +kernel) (j := 0) (pc' := 22) (lv' := [(0, .ref v0), (1, .int v1), (3, .int v3), (4, .int q.1), (5, .int q.2)]) (st' := [.int q.2, .ref (v0 + 28 + v1.toNatClampNeg)]) rfl ?_
    obtain ⟨x4, e4, h⟩ := bd h
    refine Ev.iald D_11 (by decide +kernel) (S_aI (co_row i0 28 21 (by decide +kernel) b19) e4) ?_
    refine Ev.seg D_11 [(.aload_n 0, 1)] (by decide +kernel) (j := 0) (pc' := 24) (lv' := [(0, .ref v0), (1, .int v1), (3, .int v3), (4, .int q.1), (5, .int q.2)]) (st' := [.ref v0, .int x4]) rfl ?_
    refine Ev.getR D_11 (by decide +kernel) F_0_33 T_0_7 (x := (v0 + 27)) (S_oR (co_o i0) (co_r2 i0 7 27 (by decide +kernel))) ?_
    refine Ev.seg D_11 [(.iload_n 1, 1)] (by decide +kernel) (j := 0) (pc' := 28) (lv' := [(0, .ref v0), (1, .int v1), (3, .int v3), (4, .int q.1), (5, .int q.2)]) (st' := [.int v1, .ref (v0 + 27), .int x4]) rfl ?_
    by_cases b28 : ¬ (v1 < 0 ∨ 21 ≤ v1.toNatClampNeg)
    rotate_left
    · rw [if_neg b28] at h; cases h
    rw [if_pos b28] at h
    refine Ev.aald D_11 (by decide +kernel) (kd := 26) ⟨by decide, by decide⟩ (x := (v0 + 28 + v1.toNatClampNeg)) (S_aR (co_k i0 27 _ (by decide +kernel)) b28 (co_aa i0 27 21 (by decide +kernel) b28)) ?_
    refine Ev.seg D_11 [(.iload 4, 2)] (by decide +kernel) (j := 0) (pc' := 31) (lv' := [(0, .ref v0), (1, .int v1), (3, .int v3), (4, .int q.1), (5, .int q.2)]) (st' := [.int q.1, .ref (v0 + 28 + v1.toNatClampNeg), .int x4]) rfl ?_
    obtain ⟨x7, e7, h⟩ := bd h
    refine Ev.iald D_11 (by decide +kernel) (S_aI (co_row i0 28 21 (by decide +kernel) b28) e7) ?_
    obtain ⟨x8, g8, h⟩ := bd h
    have j8 : Ev (d + 1) 11 39 [(0, .ref v0), (1, .int v1), (3, .int v3), (4, .int x8), (5, .int q.2)] [] (uS L s) o := by
      clear g8
      refine Ev.seg D_11 [(.iinc 5 1, 3), (.goto (-34), 3)] (by decide +kernel) (j := 0) (pc' := 8) (lv' := [(5, .int (q.2 + (1 : Int32))), (0, .ref v0), (1, .int v1), (3, .int v3), (4, .int x8)]) (st' := []) rfl ?_
      cases h
      exact Ev.sub (lv' := [(0, .ref v0), (1, .int v1), (3, .int v3), (4, .int (x8)), (5, .int (q.2 + (1 : Int32)))]) (subL_cons rfl (subL_cons rfl (subL_cons rfl (subL_cons rfl (subL_cons rfl subL_nil))))) ho
    clear h
    refine Ev.icmp D_11 (c := .le) (off := 7) (by decide +kernel) (t := 39) rfl (fun c8 => ?_) (fun c8 => ?_)
    · have c8 : x4 ≤ x7 := of_decide_eq_true c8
      rw [if_pos c8] at g8
      cases g8
      exact Ev.sub2 j8 (subL_cons rfl (subL_cons rfl (subL_cons rfl (subL_cons rfl (subL_cons rfl subL_nil)))))
    · have c8 : ¬ x4 ≤ x7 := of_decide_eq_false c8
      rw [if_neg c8] at g8
      refine Ev.seg D_11 [(.iload 5, 2), (.istore 4, 2)] (by decide +kernel) (j := 0) (pc' := 39) (lv' := [(4, .int q.2), (0, .ref v0), (1, .int v1), (3, .int v3), (5, .int q.2)]) (st' := []) rfl ?_
      cases g8
      exact Ev.sub2 j8 (subL_cons rfl (subL_cons rfl (subL_cons rfl (subL_cons rfl (subL_cons rfl subL_nil)))))
theorem gC_farthest_h8_w {L d : Nat} (hd : 1 ≤ d + 1) {v0 : Nat} {v1 : Int32} {v3 : Int32} {s : mT} (i0 : isCo v0) : ∀ (n : Nat) (q : Int32 × Int32) (r : Int32), wh n (gC_farthest_h8 v0 v1 v3 s) q = some r → ∀ o, (fun r => Ev (d + 1) 11 45 [(4, .int r)] [] (uS L s) o) r → Ev (d + 1) 11 8 [(0, .ref v0), (1, .int v1), (3, .int v3), (4, .int q.1), (5, .int q.2)] [] (uS L s) o :=
  fun n q r h o hc => wh_ev (E := fun (q : Int32 × Int32) o => Ev (d + 1) 11 8 [(0, .ref v0), (1, .int v1), (3, .int v3), (4, .int q.1), (5, .int q.2)] [] (uS L s) o) (C := fun (r : Int32) o => (fun r => Ev (d + 1) 11 45 [(4, .int r)] [] (uS L s) o) r) (gC_farthest_h8_ok hd i0 ) n q r h o hc
def gC_farthest (v0 : Nat) (v1 : Int32) (v2 : Int32) (v3 : Int32) (s : mT) : Option (Int32) :=
  (wh FU (gC_farthest_h8 v0 v1 v3 s) (v2, v2 + (1 : Int32))).bind fun x9 =>
  some (x9)
set_option maxRecDepth 8000 in
theorem gC_farthest_ok {L d : Nat} (hd : 1 ≤ d) {v0 : Nat} {v1 : Int32} {v2 : Int32} {v3 : Int32} {s : mT} (i0 : isCo v0) {p : Int32} (h : gC_farthest v0 v1 v2 v3 s = some p) : Ev d 11 0 [(0, .ref v0), (1, .int v1), (2, .int v2), (3, .int v3)] [] (uS L s) (some (.int p), uS L s) := by
  obtain ⟨d, rfl⟩ : ∃ e, d = e + 1 := ⟨d - 1, by omega⟩
  obtain ⟨o, ho⟩ : ∃ o : Option Value × mS, o = (some (.int p), uS L s) := ⟨_, rfl⟩
  rw [← ho]
  unfold gC_farthest at h
  refine Ev.seg D_11 [(.iload_n 2, 1), (.istore 4, 2), (.iload_n 2, 1), (.iconst 1, 1), (.iadd, 1), (.istore 5, 2)] (by decide +kernel) (j := 0) (pc' := 8) (lv' := [(5, .int (v2 + (1 : Int32))), (4, .int v2), (0, .ref v0), (1, .int v1), (2, .int v2), (3, .int v3)]) (st' := []) rfl ?_
  obtain ⟨x9, w9, h⟩ := bd h
  have j9 : Ev (d + 1) 11 45 [(4, .int x9)] [] (uS L s) o := by
    clear w9
    refine Ev.seg D_11 [(.iload 4, 2)] (by decide +kernel) (j := 0) (pc' := 47) (lv' := [(4, .int x9)]) (st' := [.int x9]) rfl ?_
    cases h
    obtain rfl : o = _ := ho
    exact Ev.iret D_11 (by decide +kernel)
  exact Ev.sub (lv' := [(0, .ref v0), (1, .int v1), (3, .int v3), (4, .int v2), (5, .int (v2 + (1 : Int32)))]) (subL_cons rfl (subL_cons rfl (subL_cons rfl (subL_cons rfl (subL_cons rfl subL_nil))))) (gC_farthest_h8_w hd i0  _ _ _ w9 _ j9)
/- Course leastFar: 12 -/
def gC_leastFar_h8 (v0 : Nat) (v1 : Int32) (v3 : Int32) (s : mT) (q : Int32 × Int32) : Option ((Int32 × Int32) ⊕ (Int32)) :=
  if v3 < q.2 then
    some (.inr q.1)
  else
    if ¬ (v1 < 0 ∨ 21 ≤ v1.toNatClampNeg) then
      (rdI (s.1 (v0 + 28 + v1.toNatClampNeg)) 5 q.2).bind fun x4 =>
      if ¬ (v1 < 0 ∨ 21 ≤ v1.toNatClampNeg) then
        (rdI (s.1 (v0 + 28 + v1.toNatClampNeg)) 5 q.1).bind fun x7 =>
        (
          if x7 ≤ x4 then
            some (q.1)
          else
            some (q.2) : Option (Int32)).bind fun x8 =>
        some (.inl (x8, q.2 + (1 : Int32)))
      else none
    else none
set_option maxRecDepth 8000 in
theorem gC_leastFar_h8_ok {L d : Nat} (hd : 1 ≤ d + 1) {v0 : Nat} {v1 : Int32} {v3 : Int32} {s : mT} (i0 : isCo v0) : ∀ (q : Int32 × Int32) (x : (Int32 × Int32) ⊕ (Int32)), gC_leastFar_h8 v0 v1 v3 s q = some x → ∀ o, sK (fun q => Ev (d + 1) 12 8 [(0, .ref v0), (1, .int v1), (3, .int v3), (4, .int q.1), (5, .int q.2)] [] (uS L s) o) (fun r => Ev (d + 1) 12 45 [(4, .int r)] [] (uS L s) o) x → Ev (d + 1) 12 8 [(0, .ref v0), (1, .int v1), (3, .int v3), (4, .int q.1), (5, .int q.2)] [] (uS L s) o := by
  intro q x h o ho
  unfold gC_leastFar_h8 at h
  refine Ev.seg D_12 [(.iload 5, 2), (.iload_n 3, 1)] (by decide +kernel) (j := 0) (pc' := 11) (lv' := [(0, .ref v0), (1, .int v1), (3, .int v3), (4, .int q.1), (5, .int q.2)]) (st' := [.int v3, .int q.2]) rfl ?_
  refine Ev.icmp D_12 (c := .gt) (off := 34) (by decide +kernel) (t := 45) rfl (fun c1 => ?_) (fun c1 => ?_)
  · have c1 : v3 < q.2 := of_decide_eq_true c1
    rw [if_pos c1] at h
    cases h
    exact Ev.sub (lv' := [(4, .int q.1)]) (subL_cons rfl subL_nil) ho
  · have c1 : ¬ v3 < q.2 := of_decide_eq_false c1
    rw [if_neg c1] at h
    refine Ev.seg D_12 [(.aload_n 0, 1)] (by decide +kernel) (j := 0) (pc' := 15) (lv' := [(0, .ref v0), (1, .int v1), (3, .int v3), (4, .int q.1), (5, .int q.2)]) (st' := [.ref v0]) rfl ?_
    refine Ev.getR D_12 (by decide +kernel) F_0_33 T_0_7 (x := (v0 + 27)) (S_oR (co_o i0) (co_r2 i0 7 27 (by decide +kernel))) ?_
    refine Ev.seg D_12 [(.iload_n 1, 1)] (by decide +kernel) (j := 0) (pc' := 19) (lv' := [(0, .ref v0), (1, .int v1), (3, .int v3), (4, .int q.1), (5, .int q.2)]) (st' := [.int v1, .ref (v0 + 27)]) rfl ?_
    by_cases b19 : ¬ (v1 < 0 ∨ 21 ≤ v1.toNatClampNeg)
    rotate_left
    · rw [if_neg b19] at h; cases h
    rw [if_pos b19] at h
    refine Ev.aald D_12 (by decide +kernel) (kd := 26) ⟨by decide, by decide⟩ (x := (v0 + 28 + v1.toNatClampNeg)) (S_aR (co_k i0 27 _ (by decide +kernel)) b19 (co_aa i0 27 21 (by decide +kernel) b19)) ?_
    refine Ev.seg D_12 [(.iload 5, 2)] (by decide +kernel) (j := 0) (pc' := 22) (lv' := [(0, .ref v0), (1, .int v1), (3, .int v3), (4, .int q.1), (5, .int q.2)]) (st' := [.int q.2, .ref (v0 + 28 + v1.toNatClampNeg)]) rfl ?_
    obtain ⟨x4, e4, h⟩ := bd h
    refine Ev.iald D_12 (by decide +kernel) (S_aI (co_row i0 28 21 (by decide +kernel) b19) e4) ?_
    refine Ev.seg D_12 [(.aload_n 0, 1)] (by decide +kernel) (j := 0) (pc' := 24) (lv' := [(0, .ref v0), (1, .int v1), (3, .int v3), (4, .int q.1), (5, .int q.2)]) (st' := [.ref v0, .int x4]) rfl ?_
    refine Ev.getR D_12 (by decide +kernel) F_0_33 T_0_7 (x := (v0 + 27)) (S_oR (co_o i0) (co_r2 i0 7 27 (by decide +kernel))) ?_
    refine Ev.seg D_12 [(.iload_n 1, 1)] (by decide +kernel) (j := 0) (pc' := 28) (lv' := [(0, .ref v0), (1, .int v1), (3, .int v3), (4, .int q.1), (5, .int q.2)]) (st' := [.int v1, .ref (v0 + 27), .int x4]) rfl ?_
    by_cases b28 : ¬ (v1 < 0 ∨ 21 ≤ v1.toNatClampNeg)
    rotate_left
    · rw [if_neg b28] at h; cases h
    rw [if_pos b28] at h
    refine Ev.aald D_12 (by decide +kernel) (kd := 26) ⟨by decide, by decide⟩ (x := (v0 + 28 + v1.toNatClampNeg)) (S_aR (co_k i0 27 _ (by decide +kernel)) b28 (co_aa i0 27 21 (by decide +kernel) b28)) ?_
    refine Ev.seg D_12 [(.iload 4, 2)] (by decide +kernel) (j := 0) (pc' := 31) (lv' := [(0, .ref v0), (1, .int v1), (3, .int v3), (4, .int q.1), (5, .int q.2)]) (st' := [.int q.1, .ref (v0 + 28 + v1.toNatClampNeg), .int x4]) rfl ?_
    obtain ⟨x7, e7, h⟩ := bd h
    refine Ev.iald D_12 (by decide +kernel) (S_aI (co_row i0 28 21 (by decide +kernel) b28) e7) ?_
    obtain ⟨x8, g8, h⟩ := bd h
    have j8 : Ev (d + 1) 12 39 [(0, .ref v0), (1, .int v1), (3, .int v3), (4, .int x8), (5, .int q.2)] [] (uS L s) o := by
      clear g8
      refine Ev.seg D_12 [(.iinc 5 1, 3), (.goto (-34), 3)] (by decide +kernel) (j := 0) (pc' := 8) (lv' := [(5, .int (q.2 + (1 : Int32))), (0, .ref v0), (1, .int v1), (3, .int v3), (4, .int x8)]) (st' := []) rfl ?_
      cases h
      exact Ev.sub (lv' := [(0, .ref v0), (1, .int v1), (3, .int v3), (4, .int (x8)), (5, .int (q.2 + (1 : Int32)))]) (subL_cons rfl (subL_cons rfl (subL_cons rfl (subL_cons rfl (subL_cons rfl subL_nil))))) ho
    clear h
    refine Ev.icmp D_12 (c := .ge) (off := 7) (by decide +kernel) (t := 39) rfl (fun c8 => ?_) (fun c8 => ?_)
    · have c8 : x7 ≤ x4 := of_decide_eq_true c8
      rw [if_pos c8] at g8
      cases g8
      exact Ev.sub2 j8 (subL_cons rfl (subL_cons rfl (subL_cons rfl (subL_cons rfl (subL_cons rfl subL_nil)))))
    · have c8 : ¬ x7 ≤ x4 := of_decide_eq_false c8
      rw [if_neg c8] at g8
      refine Ev.seg D_12 [(.iload 5, 2), (.istore 4, 2)] (by decide +kernel) (j := 0) (pc' := 39) (lv' := [(4, .int q.2), (0, .ref v0), (1, .int v1), (3, .int v3), (5, .int q.2)]) (st' := []) rfl ?_
      cases g8
      exact Ev.sub2 j8 (subL_cons rfl (subL_cons rfl (subL_cons rfl (subL_cons rfl (subL_cons rfl subL_nil)))))
theorem gC_leastFar_h8_w {L d : Nat} (hd : 1 ≤ d + 1) {v0 : Nat} {v1 : Int32} {v3 : Int32} {s : mT} (i0 : isCo v0) : ∀ (n : Nat) (q : Int32 × Int32) (r : Int32), wh n (gC_leastFar_h8 v0 v1 v3 s) q = some r → ∀ o, (fun r => Ev (d + 1) 12 45 [(4, .int r)] [] (uS L s) o) r → Ev (d + 1) 12 8 [(0, .ref v0), (1, .int v1), (3, .int v3), (4, .int q.1), (5, .int q.2)] [] (uS L s) o :=
  fun n q r h o hc => wh_ev (E := fun (q : Int32 × Int32) o => Ev (d + 1) 12 8 [(0, .ref v0), (1, .int v1), (3, .int v3), (4, .int q.1), (5, .int q.2)] [] (uS L s) o) (C := fun (r : Int32) o => (fun r => Ev (d + 1) 12 45 [(4, .int r)] [] (uS L s) o) r) (gC_leastFar_h8_ok hd i0 ) n q r h o hc
def gC_leastFar (v0 : Nat) (v1 : Int32) (v2 : Int32) (v3 : Int32) (s : mT) : Option (Int32) :=
  (wh FU (gC_leastFar_h8 v0 v1 v3 s) (v2, v2 + (1 : Int32))).bind fun x9 =>
  some (x9)
set_option maxRecDepth 8000 in
theorem gC_leastFar_ok {L d : Nat} (hd : 1 ≤ d) {v0 : Nat} {v1 : Int32} {v2 : Int32} {v3 : Int32} {s : mT} (i0 : isCo v0) {p : Int32} (h : gC_leastFar v0 v1 v2 v3 s = some p) : Ev d 12 0 [(0, .ref v0), (1, .int v1), (2, .int v2), (3, .int v3)] [] (uS L s) (some (.int p), uS L s) := by
  obtain ⟨d, rfl⟩ : ∃ e, d = e + 1 := ⟨d - 1, by omega⟩
  obtain ⟨o, ho⟩ : ∃ o : Option Value × mS, o = (some (.int p), uS L s) := ⟨_, rfl⟩
  rw [← ho]
  unfold gC_leastFar at h
  refine Ev.seg D_12 [(.iload_n 2, 1), (.istore 4, 2), (.iload_n 2, 1), (.iconst 1, 1), (.iadd, 1), (.istore 5, 2)] (by decide +kernel) (j := 0) (pc' := 8) (lv' := [(5, .int (v2 + (1 : Int32))), (4, .int v2), (0, .ref v0), (1, .int v1), (2, .int v2), (3, .int v3)]) (st' := []) rfl ?_
  obtain ⟨x9, w9, h⟩ := bd h
  have j9 : Ev (d + 1) 12 45 [(4, .int x9)] [] (uS L s) o := by
    clear w9
    refine Ev.seg D_12 [(.iload 4, 2)] (by decide +kernel) (j := 0) (pc' := 47) (lv' := [(4, .int x9)]) (st' := [.int x9]) rfl ?_
    cases h
    obtain rfl : o = _ := ho
    exact Ev.iret D_12 (by decide +kernel)
  exact Ev.sub (lv' := [(0, .ref v0), (1, .int v1), (3, .int v3), (4, .int v2), (5, .int (v2 + (1 : Int32)))]) (subL_cons rfl (subL_cons rfl (subL_cons rfl (subL_cons rfl (subL_cons rfl subL_nil))))) (gC_leastFar_h8_w hd i0  _ _ _ w9 _ j9)
/- Course turned: 10 -/
def gC_turned (v0 : Nat) (v1 : Int32) (v2 : Int32) (s : mT) : Option (Int32) :=
  if ¬ ((v2 - (1 : Int32)) < 0 ∨ 21 ≤ (v2 - (1 : Int32)).toNatClampNeg) then
    (rdI (s.1 (v0 + 50 + (v2 - (1 : Int32)).toNatClampNeg)) 5 v1).bind fun x3 =>
    (rdI (s.1 20) 5 v1).bind fun x6 =>
    (rdI (s.1 21) 5 v1).bind fun x9 =>
    if (s.1 v0 1) = (1 : Int32) then
      (gC_farthest v0 v2 x6 x9 s).bind fun p12 =>
      some (p12)
    else if (s.1 v0 1) = (2 : Int32) then
      (gC_leastFar v0 v2 x6 x9 s).bind fun p14 =>
      some (p14)
    else if (s.1 v0 1) = (3 : Int32) then
      (
        if x3 < x6 then
          some (x6)
        else
          if x9 ≤ x3 then
            some (x6)
          else
            some (x3 + (1 : Int32)) : Option (Int32)).bind fun x16 =>
      some (x16)
    else 
    some (x3)
  else none
set_option maxRecDepth 8000 in
theorem gC_turned_ok {L d : Nat} (hd : 2 ≤ d) {v0 : Nat} {v1 : Int32} {v2 : Int32} {s : mT} (i0 : isCo v0) {p : Int32} (h : gC_turned v0 v1 v2 s = some p) : Ev d 10 0 [(0, .ref v0), (1, .int v1), (2, .int v2)] [] (uS L s) (some (.int p), uS L s) := by
  obtain ⟨d, rfl⟩ : ∃ e, d = e + 1 := ⟨d - 1, by omega⟩
  obtain ⟨o, ho⟩ : ∃ o : Option Value × mS, o = (some (.int p), uS L s) := ⟨_, rfl⟩
  rw [← ho]
  unfold gC_turned at h
  refine Ev.seg D_10 [(.aload_n 0, 1)] (by decide +kernel) (j := 0) (pc' := 1) (lv' := [(0, .ref v0), (1, .int v1), (2, .int v2)]) (st' := [.ref v0]) rfl ?_
  refine Ev.getR D_10 (by decide +kernel) F_0_36 T_0_8 (x := (v0 + 49)) (S_oR (co_o i0) (co_r2 i0 8 49 (by decide +kernel))) ?_
  refine Ev.seg D_10 [(.iload_n 2, 1), (.iconst 1, 1), (.isub, 1)] (by decide +kernel) (j := 0) (pc' := 7) (lv' := [(0, .ref v0), (1, .int v1), (2, .int v2)]) (st' := [.int (v2 - (1 : Int32)), .ref (v0 + 49)]) rfl ?_
  by_cases b7 : ¬ ((v2 - (1 : Int32)) < 0 ∨ 21 ≤ (v2 - (1 : Int32)).toNatClampNeg)
  rotate_left
  · rw [if_neg b7] at h; cases h
  rw [if_pos b7] at h
  refine Ev.aald D_10 (by decide +kernel) (kd := 26) ⟨by decide, by decide⟩ (x := (v0 + 50 + (v2 - (1 : Int32)).toNatClampNeg)) (S_aR (co_k i0 49 _ (by decide +kernel)) b7 (co_aa i0 49 21 (by decide +kernel) b7)) ?_
  refine Ev.seg D_10 [(.iload_n 1, 1)] (by decide +kernel) (j := 0) (pc' := 9) (lv' := [(0, .ref v0), (1, .int v1), (2, .int v2)]) (st' := [.int v1, .ref (v0 + 50 + (v2 - (1 : Int32)).toNatClampNeg)]) rfl ?_
  obtain ⟨x3, e3, h⟩ := bd h
  refine Ev.iald D_10 (by decide +kernel) (S_aI (co_row i0 50 21 (by decide +kernel) b7) e3) ?_
  refine Ev.seg D_10 [(.istore_n 3, 1), (.aload_n 0, 1)] (by decide +kernel) (j := 0) (pc' := 12) (lv' := [(3, .int x3), (0, .ref v0), (1, .int v1), (2, .int v2)]) (st' := [.ref v0]) rfl ?_
  refine Ev.getR D_10 (by decide +kernel) F_0_42 T_0_0 (x := 16) (S_oR (co_o i0) (co_r i0 0 16 (by decide +kernel))) ?_
  refine Ev.getR D_10 (by decide +kernel) F_0_100 T_2_12 (x := 20) (S_oR k_16 (by decide +kernel)) ?_
  refine Ev.seg D_10 [(.iload_n 1, 1)] (by decide +kernel) (j := 0) (pc' := 19) (lv' := [(3, .int x3), (0, .ref v0), (1, .int v1), (2, .int v2)]) (st' := [.int v1, .ref 20]) rfl ?_
  obtain ⟨x6, e6, h⟩ := bd h
  refine Ev.iald D_10 (by decide +kernel) (S_aI k_20 e6) ?_
  refine Ev.seg D_10 [(.istore 4, 2), (.aload_n 0, 1)] (by decide +kernel) (j := 0) (pc' := 23) (lv' := [(4, .int x6), (3, .int x3), (0, .ref v0), (1, .int v1), (2, .int v2)]) (st' := [.ref v0]) rfl ?_
  refine Ev.getR D_10 (by decide +kernel) F_0_42 T_0_0 (x := 16) (S_oR (co_o i0) (co_r i0 0 16 (by decide +kernel))) ?_
  refine Ev.getR D_10 (by decide +kernel) F_0_103 T_2_13 (x := 21) (S_oR k_16 (by decide +kernel)) ?_
  refine Ev.seg D_10 [(.iload_n 1, 1)] (by decide +kernel) (j := 0) (pc' := 30) (lv' := [(4, .int x6), (3, .int x3), (0, .ref v0), (1, .int v1), (2, .int v2)]) (st' := [.int v1, .ref 21]) rfl ?_
  obtain ⟨x9, e9, h⟩ := bd h
  refine Ev.iald D_10 (by decide +kernel) (S_aI k_21 e9) ?_
  refine Ev.seg D_10 [(.istore 5, 2), (.aload_n 0, 1)] (by decide +kernel) (j := 0) (pc' := 34) (lv' := [(5, .int x9), (4, .int x6), (3, .int x3), (0, .ref v0), (1, .int v1), (2, .int v2)]) (st' := [.ref v0]) rfl ?_
  refine Ev.getI D_10 (by decide +kernel) F_0_9 (Or.inl T_0_1) (S_oI (co_o i0)) ?_
  by_cases c11_0 : (s.1 v0 1) = (1 : Int32)
  · rw [if_pos c11_0] at h
    refine Ev.tab D_10 (len := 27) (df := 68) (lo := 1) (hi := 3) (offs := #[27, 37, 47]) (by decide +kernel) (off := 27) (t := 64) (by rw [c11_0]; decide +kernel) rfl ?_
    refine Ev.seg D_10 [(.aload_n 0, 1), (.iload_n 2, 1), (.iload 4, 2), (.iload 5, 2)] (by decide +kernel) (j := 0) (pc' := 70) (lv' := [(5, .int x9), (4, .int x6), (3, .int x3), (0, .ref v0), (1, .int v1), (2, .int v2)]) (st' := [.int x9, .int x6, .int v2, .ref v0]) rfl ?_
    obtain ⟨p12, e12, h⟩ := bd h
    refine Ev.callv D_10 E_11 (by decide +kernel) C_0_140 v0 [.int v2, .int x6, .int x9] (r := []) rfl (gd_o (co_o i0) (by decide)) rfl (Nat.le_of_ble_eq_true rfl) (Nat.le_of_ble_eq_true rfl) (gC_farthest_ok (by omega) i0 e12) ?_
    cases h
    obtain rfl : o = _ := ho
    exact Ev.iret D_10 (by decide +kernel)
  rw [if_neg c11_0] at h
  by_cases c11_1 : (s.1 v0 1) = (2 : Int32)
  · rw [if_pos c11_1] at h
    refine Ev.tab D_10 (len := 27) (df := 68) (lo := 1) (hi := 3) (offs := #[27, 37, 47]) (by decide +kernel) (off := 37) (t := 74) (by rw [c11_1]; decide +kernel) rfl ?_
    refine Ev.seg D_10 [(.aload_n 0, 1), (.iload_n 2, 1), (.iload 4, 2), (.iload 5, 2)] (by decide +kernel) (j := 0) (pc' := 80) (lv' := [(5, .int x9), (4, .int x6), (3, .int x3), (0, .ref v0), (1, .int v1), (2, .int v2)]) (st' := [.int x9, .int x6, .int v2, .ref v0]) rfl ?_
    obtain ⟨p14, e14, h⟩ := bd h
    refine Ev.callv D_10 E_12 (by decide +kernel) C_0_144 v0 [.int v2, .int x6, .int x9] (r := []) rfl (gd_o (co_o i0) (by decide)) rfl (Nat.le_of_ble_eq_true rfl) (Nat.le_of_ble_eq_true rfl) (gC_leastFar_ok (by omega) i0 e14) ?_
    cases h
    obtain rfl : o = _ := ho
    exact Ev.iret D_10 (by decide +kernel)
  rw [if_neg c11_1] at h
  by_cases c11_2 : (s.1 v0 1) = (3 : Int32)
  · rw [if_pos c11_2] at h
    refine Ev.tab D_10 (len := 27) (df := 68) (lo := 1) (hi := 3) (offs := #[27, 37, 47]) (by decide +kernel) (off := 47) (t := 84) (by rw [c11_2]; decide +kernel) rfl ?_
    refine Ev.seg D_10 [(.iload_n 3, 1), (.iload 4, 2)] (by decide +kernel) (j := 0) (pc' := 87) (lv' := [(5, .int x9), (4, .int x6), (3, .int x3), (0, .ref v0), (1, .int v1), (2, .int v2)]) (st' := [.int x6, .int x3]) rfl ?_
    obtain ⟨x16, g16, h⟩ := bd h
    have j16 : Ev (d + 1) 10 104 [] [.int x16] (uS L s) o := by
      clear g16
      cases h
      obtain rfl : o = _ := ho
      exact Ev.iret D_10 (by decide +kernel)
    clear h
    refine Ev.icmp D_10 (c := .lt) (off := 15) (by decide +kernel) (t := 102) rfl (fun c16 => ?_) (fun c16 => ?_)
    · have c16 : x3 < x6 := of_decide_eq_true c16
      rw [if_pos c16] at g16
      refine Ev.seg D_10 [(.iload 4, 2)] (by decide +kernel) (j := 0) (pc' := 104) (lv' := [(5, .int x9), (4, .int x6), (3, .int x3), (0, .ref v0), (1, .int v1), (2, .int v2)]) (st' := [.int x6]) rfl ?_
      cases g16
      exact Ev.sub2 j16 subL_nil
    · have c16 : ¬ x3 < x6 := of_decide_eq_false c16
      rw [if_neg c16] at g16
      refine Ev.seg D_10 [(.iload_n 3, 1), (.iload 5, 2)] (by decide +kernel) (j := 0) (pc' := 93) (lv' := [(5, .int x9), (4, .int x6), (3, .int x3), (0, .ref v0), (1, .int v1), (2, .int v2)]) (st' := [.int x9, .int x3]) rfl ?_
      refine Ev.icmp D_10 (c := .ge) (off := 9) (by decide +kernel) (t := 102) rfl (fun c17 => ?_) (fun c17 => ?_)
      · have c17 : x9 ≤ x3 := of_decide_eq_true c17
        rw [if_pos c17] at g16
        refine Ev.seg D_10 [(.iload 4, 2)] (by decide +kernel) (j := 0) (pc' := 104) (lv' := [(5, .int x9), (4, .int x6), (3, .int x3), (0, .ref v0), (1, .int v1), (2, .int v2)]) (st' := [.int x6]) rfl ?_
        cases g16
        exact Ev.sub2 j16 subL_nil
      · have c17 : ¬ x9 ≤ x3 := of_decide_eq_false c17
        rw [if_neg c17] at g16
        refine Ev.seg D_10 [(.iload_n 3, 1), (.iconst 1, 1), (.iadd, 1), (.goto 5, 3)] (by decide +kernel) (j := 0) (pc' := 104) (lv' := [(5, .int x9), (4, .int x6), (3, .int x3), (0, .ref v0), (1, .int v1), (2, .int v2)]) (st' := [.int (x3 + (1 : Int32))]) rfl ?_
        cases g16
        exact Ev.sub2 j16 subL_nil
  rw [if_neg c11_2] at h
  refine Ev.tab D_10 (len := 27) (df := 68) (lo := 1) (hi := 3) (offs := #[27, 37, 47]) (by decide +kernel) (off := 68) (t := 105) (tab_df 3 (fun z hz => match z, hz with | 0, _ => c11_0 | 1, _ => c11_1 | 2, _ => c11_2 | z + 3, hz => absurd hz (by omega)) rfl) rfl ?_
  refine Ev.seg D_10 [(.iload_n 3, 1)] (by decide +kernel) (j := 0) (pc' := 106) (lv' := [(5, .int x9), (4, .int x6), (3, .int x3), (0, .ref v0), (1, .int v1), (2, .int v2)]) (st' := [.int x3]) rfl ?_
  cases h
  obtain rfl : o = _ := ho
  exact Ev.iret D_10 (by decide +kernel)
/- Course turn: 9 -/
def gC_turn_h2 (v0 : Nat) (v1 : Int32) (q : Int32 × mT) : Option ((Int32 × mT) ⊕ (mT)) :=
  if (q.2.1 16 6) ≤ q.1 then
    some (.inr q.2)
  else
    if ¬ (v1 < 0 ∨ 21 ≤ v1.toNatClampNeg) then
      (rdI (q.2.1 (v0 + 5 + v1.toNatClampNeg)) 5 q.1).bind fun x6 =>
      if ¬ (v1 < 0 ∨ 21 ≤ v1.toNatClampNeg) then
        (
          if x6 = (-1 : Int32) then
            (gC_turned v0 q.1 v1 q.2).bind fun p10 =>
            some (p10)
          else
            some (x6) : Option (Int32)).bind fun x9 =>
        (wrI q.2 (v0 + 50 + v1.toNatClampNeg) 5 q.1 x9).bind fun s11 =>
        some (.inl (q.1 + (1 : Int32), s11))
      else none
    else none
set_option maxRecDepth 8000 in
theorem gC_turn_h2_ok {L d : Nat} (hd : 3 ≤ d + 1) {v0 : Nat} {v1 : Int32} (i0 : isCo v0) : ∀ (q : Int32 × mT) (x : (Int32 × mT) ⊕ (mT)), gC_turn_h2 v0 v1 q = some x → ∀ o, sK (fun q => Ev (d + 1) 9 2 [(0, .ref v0), (1, .int v1), (2, .int q.1)] [] (uS L q.2) o) (fun r => Ev (d + 1) 9 51 [] [] (uS L r) o) x → Ev (d + 1) 9 2 [(0, .ref v0), (1, .int v1), (2, .int q.1)] [] (uS L q.2) o := by
  intro q x h o ho
  unfold gC_turn_h2 at h
  refine Ev.seg D_9 [(.iload_n 2, 1), (.aload_n 0, 1)] (by decide +kernel) (j := 0) (pc' := 4) (lv' := [(0, .ref v0), (1, .int v1), (2, .int q.1)]) (st' := [.ref v0, .int q.1]) rfl ?_
  refine Ev.getR D_9 (by decide +kernel) F_0_42 T_0_0 (x := 16) (S_oR (co_o i0) (co_r i0 0 16 (by decide +kernel))) ?_
  refine Ev.getI D_9 (by decide +kernel) F_0_67 (Or.inl T_2_6) (S_oI k_16) ?_
  refine Ev.icmp D_9 (c := .ge) (off := 41) (by decide +kernel) (t := 51) rfl (fun c3 => ?_) (fun c3 => ?_)
  · have c3 : (q.2.1 16 6) ≤ q.1 := of_decide_eq_true c3
    rw [if_pos c3] at h
    cases h
    exact Ev.sub (lv' := []) subL_nil ho
  · have c3 : ¬ (q.2.1 16 6) ≤ q.1 := of_decide_eq_false c3
    rw [if_neg c3] at h
    refine Ev.seg D_9 [(.aload_n 0, 1)] (by decide +kernel) (j := 0) (pc' := 14) (lv' := [(0, .ref v0), (1, .int v1), (2, .int q.1)]) (st' := [.ref v0]) rfl ?_
    refine Ev.getR D_9 (by decide +kernel) F_0_27 T_0_5 (x := (v0 + 4)) (S_oR (co_o i0) (co_r2 i0 5 4 (by decide +kernel))) ?_
    refine Ev.seg D_9 [(.iload_n 1, 1)] (by decide +kernel) (j := 0) (pc' := 18) (lv' := [(0, .ref v0), (1, .int v1), (2, .int q.1)]) (st' := [.int v1, .ref (v0 + 4)]) rfl ?_
    by_cases b18 : ¬ (v1 < 0 ∨ 21 ≤ v1.toNatClampNeg)
    rotate_left
    · rw [if_neg b18] at h; cases h
    rw [if_pos b18] at h
    refine Ev.aald D_9 (by decide +kernel) (kd := 26) ⟨by decide, by decide⟩ (x := (v0 + 5 + v1.toNatClampNeg)) (S_aR (co_k i0 4 _ (by decide +kernel)) b18 (co_aa i0 4 21 (by decide +kernel) b18)) ?_
    refine Ev.seg D_9 [(.iload_n 2, 1)] (by decide +kernel) (j := 0) (pc' := 20) (lv' := [(0, .ref v0), (1, .int v1), (2, .int q.1)]) (st' := [.int q.1, .ref (v0 + 5 + v1.toNatClampNeg)]) rfl ?_
    obtain ⟨x6, e6, h⟩ := bd h
    refine Ev.iald D_9 (by decide +kernel) (S_aI (co_row i0 5 21 (by decide +kernel) b18) e6) ?_
    refine Ev.seg D_9 [(.istore_n 3, 1), (.aload_n 0, 1)] (by decide +kernel) (j := 0) (pc' := 23) (lv' := [(3, .int x6), (0, .ref v0), (1, .int v1), (2, .int q.1)]) (st' := [.ref v0]) rfl ?_
    refine Ev.getR D_9 (by decide +kernel) F_0_36 T_0_8 (x := (v0 + 49)) (S_oR (co_o i0) (co_r2 i0 8 49 (by decide +kernel))) ?_
    refine Ev.seg D_9 [(.iload_n 1, 1)] (by decide +kernel) (j := 0) (pc' := 27) (lv' := [(3, .int x6), (0, .ref v0), (1, .int v1), (2, .int q.1)]) (st' := [.int v1, .ref (v0 + 49)]) rfl ?_
    by_cases b27 : ¬ (v1 < 0 ∨ 21 ≤ v1.toNatClampNeg)
    rotate_left
    · rw [if_neg b27] at h; cases h
    rw [if_pos b27] at h
    refine Ev.aald D_9 (by decide +kernel) (kd := 26) ⟨by decide, by decide⟩ (x := (v0 + 50 + v1.toNatClampNeg)) (S_aR (co_k i0 49 _ (by decide +kernel)) b27 (co_aa i0 49 21 (by decide +kernel) b27)) ?_
    refine Ev.seg D_9 [(.iload_n 2, 1), (.iload_n 3, 1), (.iconst (-1), 1)] (by decide +kernel) (j := 0) (pc' := 31) (lv' := [(3, .int x6), (0, .ref v0), (1, .int v1), (2, .int q.1)]) (st' := [.int (-1 : Int32), .int x6, .int q.1, .ref (v0 + 50 + v1.toNatClampNeg)]) rfl ?_
    obtain ⟨x9, g9, h⟩ := bd h
    have j9 : Ev (d + 1) 9 44 [(0, .ref v0), (1, .int v1), (2, .int q.1)] [.int x9, .int q.1, .ref (v0 + 50 + v1.toNatClampNeg)] (uS L q.2) o := by
      clear g9
      obtain ⟨s11, e11, h⟩ := bd h
      refine Ev.iast D_9 (by decide +kernel) (S_sI (co_row i0 50 21 (by decide +kernel) b27) e11) ?_
      refine Ev.seg D_9 [(.iinc 2 1, 3), (.goto (-46), 3)] (by decide +kernel) (j := 0) (pc' := 2) (lv' := [(2, .int (q.1 + (1 : Int32))), (0, .ref v0), (1, .int v1)]) (st' := []) rfl ?_
      cases h
      exact Ev.sub (lv' := [(0, .ref v0), (1, .int v1), (2, .int (q.1 + (1 : Int32)))]) (subL_cons rfl (subL_cons rfl (subL_cons rfl subL_nil))) ho
    clear h
    refine Ev.icmp D_9 (c := .ne) (off := 12) (by decide +kernel) (t := 43) rfl (fun c9 => ?_) (fun c9 => ?_)
    · have c9 : ¬ x6 = (-1 : Int32) := of_decide_eq_true c9
      rw [if_neg c9] at g9
      refine Ev.seg D_9 [(.iload_n 3, 1)] (by decide +kernel) (j := 0) (pc' := 44) (lv' := [(3, .int x6), (0, .ref v0), (1, .int v1), (2, .int q.1)]) (st' := [.int x6, .int q.1, .ref (v0 + 50 + v1.toNatClampNeg)]) rfl ?_
      cases g9
      exact Ev.sub2 j9 (subL_cons rfl (subL_cons rfl (subL_cons rfl subL_nil)))
    · have c9 : x6 = (-1 : Int32) := Decidable.of_not_not (of_decide_eq_false c9)
      rw [if_pos c9] at g9
      refine Ev.seg D_9 [(.aload_n 0, 1), (.iload_n 2, 1), (.iload_n 1, 1)] (by decide +kernel) (j := 0) (pc' := 37) (lv' := [(3, .int x6), (0, .ref v0), (1, .int v1), (2, .int q.1)]) (st' := [.int v1, .int q.1, .ref v0, .int q.1, .ref (v0 + 50 + v1.toNatClampNeg)]) rfl ?_
      obtain ⟨p10, e10, g9⟩ := bd g9
      refine Ev.callv D_9 E_10 (by decide +kernel) C_0_137 v0 [.int q.1, .int v1] (r := [.int q.1, .ref (v0 + 50 + v1.toNatClampNeg)]) rfl (gd_o (co_o i0) (by decide)) rfl (Nat.le_of_ble_eq_true rfl) (Nat.le_of_ble_eq_true rfl) (gC_turned_ok (by omega) i0 e10) ?_
      refine Ev.seg D_9 [(.goto 4, 3)] (by decide +kernel) (j := 0) (pc' := 44) (lv' := [(3, .int x6), (0, .ref v0), (1, .int v1), (2, .int q.1)]) (st' := [.int p10, .int q.1, .ref (v0 + 50 + v1.toNatClampNeg)]) rfl ?_
      cases g9
      exact Ev.sub2 j9 (subL_cons rfl (subL_cons rfl (subL_cons rfl subL_nil)))
theorem gC_turn_h2_w {L d : Nat} (hd : 3 ≤ d + 1) {v0 : Nat} {v1 : Int32} (i0 : isCo v0) : ∀ (n : Nat) (q : Int32 × mT) (r : mT), wh n (gC_turn_h2 v0 v1) q = some r → ∀ o, (fun r => Ev (d + 1) 9 51 [] [] (uS L r) o) r → Ev (d + 1) 9 2 [(0, .ref v0), (1, .int v1), (2, .int q.1)] [] (uS L q.2) o :=
  fun n q r h o hc => wh_ev (E := fun (q : Int32 × mT) o => Ev (d + 1) 9 2 [(0, .ref v0), (1, .int v1), (2, .int q.1)] [] (uS L q.2) o) (C := fun (r : mT) o => (fun r => Ev (d + 1) 9 51 [] [] (uS L r) o) r) (gC_turn_h2_ok hd i0 ) n q r h o hc
def gC_turn (v0 : Nat) (v1 : Int32) (s : mT) : Option (mT) :=
  (wh FU (gC_turn_h2 v0 v1) ((0 : Int32), s)).bind fun x12 =>
  some (x12)
set_option maxRecDepth 8000 in
theorem gC_turn_ok {L d : Nat} (hd : 3 ≤ d) {v0 : Nat} {v1 : Int32} {s : mT} (i0 : isCo v0) {p : mT} (h : gC_turn v0 v1 s = some p) : Ev d 9 0 [(0, .ref v0), (1, .int v1)] [] (uS L s) (none, uS L p) := by
  obtain ⟨d, rfl⟩ : ∃ e, d = e + 1 := ⟨d - 1, by omega⟩
  obtain ⟨o, ho⟩ : ∃ o : Option Value × mS, o = (none, uS L p) := ⟨_, rfl⟩
  rw [← ho]
  unfold gC_turn at h
  refine Ev.seg D_9 [(.iconst 0, 1), (.istore_n 2, 1)] (by decide +kernel) (j := 0) (pc' := 2) (lv' := [(2, .int (0 : Int32)), (0, .ref v0), (1, .int v1)]) (st' := []) rfl ?_
  obtain ⟨x12, w12, h⟩ := bd h
  have j12 : Ev (d + 1) 9 51 [] [] (uS L x12) o := by
    clear w12
    cases h
    obtain rfl : o = _ := ho
    exact Ev.vret D_9 (by decide +kernel)
  exact Ev.sub (lv' := [(0, .ref v0), (1, .int v1), (2, .int (0 : Int32))]) (subL_cons rfl (subL_cons rfl (subL_cons rfl subL_nil))) (gC_turn_h2_w hd i0  _ _ _ w12 _ j12)
