/-! The program's methods as functions of ints and longs, each with its certificate (wip/whole/gen_emit.py writes this) -/
/- Row agreesWith: 68 -/
def gW_agreesWith_h2 (v0 : Nat) (v1 : Nat) (s : mT) (q : Int32) : Option ((Int32) ⊕ (Int32)) :=
  if (s.1 v0 3) ≤ (q + (2 : Int32)) then
    some (.inr ((1 : Int32)))
  else
    (rdL (s.2 (v0 + 1)) 60 q).bind fun x5 =>
    (rdL (s.2 (v0 + 1)) 60 (q + (1 : Int32))).bind fun x7 =>
    if ¬ (x7.toInt32 < 0 ∨ 21 ≤ x7.toInt32.toNatClampNeg) then
      (rdI (s.1 (v1 + 28 + x7.toInt32.toNatClampNeg)) 5 x5.toInt32).bind fun x10 =>
      (rdL (s.2 (v0 + 1)) 60 (q + (2 : Int32))).bind fun x12 =>
      if (lg_cmp x10.toInt64 x12) = 0 then
        some (.inl (q + (3 : Int32)))
      else
        some (.inr ((0 : Int32)))
    else none
set_option maxRecDepth 8000 in
theorem gW_agreesWith_h2_ok {L d : Nat} (hd : 1 ≤ d + 1) {v0 : Nat} {v1 : Nat} {s : mT} (i0 : isRw v0) (i1 : isCo v1) : ∀ (q : Int32) (x : (Int32) ⊕ (Int32)), gW_agreesWith_h2 v0 v1 s q = some x → ∀ o, sK (fun q => Ev (d + 1) 68 2 [(0, .ref v0), (1, .ref v1), (2, .int q)] [] (uS L s) o) (fun r => o = (some (.int r), uS L s)) x → Ev (d + 1) 68 2 [(0, .ref v0), (1, .ref v1), (2, .int q)] [] (uS L s) o := by
  intro q x h o ho
  unfold gW_agreesWith_h2 at h
  refine Ev.seg D_68 [(.iload_n 2, 1), (.iconst 2, 1), (.iadd, 1), (.aload_n 0, 1)] (by decide +kernel) (j := 0) (pc' := 6) (lv' := [(0, .ref v0), (1, .ref v1), (2, .int q)]) (st' := [.ref v0, .int (q + (2 : Int32))]) rfl ?_
  refine Ev.getI D_68 (by decide +kernel) F_4_23 (Or.inl T_4_3) (S_oI (rw_o i0)) ?_
  refine Ev.icmp D_68 (c := .ge) (off := 52) (by decide +kernel) (t := 61) rfl (fun c2 => ?_) (fun c2 => ?_)
  · have c2 : (s.1 v0 3) ≤ (q + (2 : Int32)) := of_decide_eq_true c2
    rw [if_pos c2] at h
    refine Ev.seg D_68 [(.iconst 1, 1)] (by decide +kernel) (j := 0) (pc' := 62) (lv' := [(0, .ref v0), (1, .ref v1), (2, .int q)]) (st' := [.int (1 : Int32)]) rfl ?_
    cases h
    obtain rfl : o = _ := ho
    exact Ev.zret D_68 (by decide) (by decide +kernel)
  · have c2 : ¬ (s.1 v0 3) ≤ (q + (2 : Int32)) := of_decide_eq_false c2
    rw [if_neg c2] at h
    refine Ev.seg D_68 [(.aload_n 0, 1)] (by decide +kernel) (j := 0) (pc' := 13) (lv' := [(0, .ref v0), (1, .ref v1), (2, .int q)]) (st' := [.ref v0]) rfl ?_
    refine Ev.getR D_68 (by decide +kernel) F_4_9 T_4_0 (x := (v0 + 1)) (S_oR (rw_o i0) (rw_r2 i0 0 1 (by decide +kernel))) ?_
    refine Ev.seg D_68 [(.iload_n 2, 1)] (by decide +kernel) (j := 0) (pc' := 17) (lv' := [(0, .ref v0), (1, .ref v1), (2, .int q)]) (st' := [.int q, .ref (v0 + 1)]) rfl ?_
    obtain ⟨x5, e5, h⟩ := bd h
    refine Ev.lald D_68 (by decide +kernel) (S_aL (rw_k i0 1 _ (by decide +kernel)) e5) ?_
    refine Ev.seg D_68 [(.l2i, 1), (.istore_n 3, 1), (.aload_n 0, 1)] (by decide +kernel) (j := 0) (pc' := 21) (lv' := [(3, .int x5.toInt32), (0, .ref v0), (1, .ref v1), (2, .int q)]) (st' := [.ref v0]) rfl ?_
    refine Ev.getR D_68 (by decide +kernel) F_4_9 T_4_0 (x := (v0 + 1)) (S_oR (rw_o i0) (rw_r2 i0 0 1 (by decide +kernel))) ?_
    refine Ev.seg D_68 [(.iload_n 2, 1), (.iconst 1, 1), (.iadd, 1)] (by decide +kernel) (j := 0) (pc' := 27) (lv' := [(3, .int x5.toInt32), (0, .ref v0), (1, .ref v1), (2, .int q)]) (st' := [.int (q + (1 : Int32)), .ref (v0 + 1)]) rfl ?_
    obtain ⟨x7, e7, h⟩ := bd h
    refine Ev.lald D_68 (by decide +kernel) (S_aL (rw_k i0 1 _ (by decide +kernel)) e7) ?_
    refine Ev.seg D_68 [(.l2i, 1), (.istore 4, 2), (.aload_n 1, 1)] (by decide +kernel) (j := 0) (pc' := 32) (lv' := [(4, .int x7.toInt32), (3, .int x5.toInt32), (0, .ref v0), (1, .ref v1), (2, .int q)]) (st' := [.ref v1]) rfl ?_
    refine Ev.getR D_68 (by decide +kernel) F_4_49 T_0_7 (x := (v1 + 27)) (S_oR (co_o i1) (co_r2 i1 7 27 (by decide +kernel))) ?_
    refine Ev.seg D_68 [(.iload 4, 2)] (by decide +kernel) (j := 0) (pc' := 37) (lv' := [(4, .int x7.toInt32), (3, .int x5.toInt32), (0, .ref v0), (1, .ref v1), (2, .int q)]) (st' := [.int x7.toInt32, .ref (v1 + 27)]) rfl ?_
    by_cases b37 : ¬ (x7.toInt32 < 0 ∨ 21 ≤ x7.toInt32.toNatClampNeg)
    rotate_left
    · rw [if_neg b37] at h; cases h
    rw [if_pos b37] at h
    refine Ev.aald D_68 (by decide +kernel) (kd := 26) ⟨by decide, by decide⟩ (x := (v1 + 28 + x7.toInt32.toNatClampNeg)) (S_aR (co_k i1 27 _ (by decide +kernel)) b37 (co_aa i1 27 21 (by decide +kernel) b37)) ?_
    refine Ev.seg D_68 [(.iload_n 3, 1)] (by decide +kernel) (j := 0) (pc' := 39) (lv' := [(4, .int x7.toInt32), (3, .int x5.toInt32), (0, .ref v0), (1, .ref v1), (2, .int q)]) (st' := [.int x5.toInt32, .ref (v1 + 28 + x7.toInt32.toNatClampNeg)]) rfl ?_
    obtain ⟨x10, e10, h⟩ := bd h
    refine Ev.iald D_68 (by decide +kernel) (S_aI (co_row i1 28 21 (by decide +kernel) b37) e10) ?_
    refine Ev.seg D_68 [(.i2l, 1), (.aload_n 0, 1)] (by decide +kernel) (j := 0) (pc' := 42) (lv' := [(4, .int x7.toInt32), (3, .int x5.toInt32), (0, .ref v0), (1, .ref v1), (2, .int q)]) (st' := [.ref v0, .long x10.toInt64]) rfl ?_
    refine Ev.getR D_68 (by decide +kernel) F_4_9 T_4_0 (x := (v0 + 1)) (S_oR (rw_o i0) (rw_r2 i0 0 1 (by decide +kernel))) ?_
    refine Ev.seg D_68 [(.iload_n 2, 1), (.iconst 2, 1), (.iadd, 1)] (by decide +kernel) (j := 0) (pc' := 48) (lv' := [(4, .int x7.toInt32), (3, .int x5.toInt32), (0, .ref v0), (1, .ref v1), (2, .int q)]) (st' := [.int (q + (2 : Int32)), .ref (v0 + 1), .long x10.toInt64]) rfl ?_
    obtain ⟨x12, e12, h⟩ := bd h
    refine Ev.lald D_68 (by decide +kernel) (S_aL (rw_k i0 1 _ (by decide +kernel)) e12) ?_
    refine Ev.seg D_68 [(.lcmp, 1)] (by decide +kernel) (j := 0) (pc' := 50) (lv' := [(4, .int x7.toInt32), (3, .int x5.toInt32), (0, .ref v0), (1, .ref v1), (2, .int q)]) (st' := [.int (lg_cmp x10.toInt64 x12)]) rfl ?_
    refine Ev.if_ D_68 (c := .eq) (off := 5) (by decide +kernel) (t := 55) rfl (fun c13 => ?_) (fun c13 => ?_)
    · have c13 : (lg_cmp x10.toInt64 x12) = 0 := of_decide_eq_true c13
      rw [if_pos c13] at h
      refine Ev.seg D_68 [(.iinc 2 3, 3), (.goto (-56), 3)] (by decide +kernel) (j := 0) (pc' := 2) (lv' := [(2, .int (q + (3 : Int32))), (4, .int x7.toInt32), (3, .int x5.toInt32), (0, .ref v0), (1, .ref v1)]) (st' := []) rfl ?_
      cases h
      exact Ev.sub (lv' := [(0, .ref v0), (1, .ref v1), (2, .int (q + (3 : Int32)))]) (subL_cons rfl (subL_cons rfl (subL_cons rfl subL_nil))) ho
    · have c13 : ¬ (lg_cmp x10.toInt64 x12) = 0 := of_decide_eq_false c13
      rw [if_neg c13] at h
      refine Ev.seg D_68 [(.iconst 0, 1)] (by decide +kernel) (j := 0) (pc' := 54) (lv' := [(4, .int x7.toInt32), (3, .int x5.toInt32), (0, .ref v0), (1, .ref v1), (2, .int q)]) (st' := [.int (0 : Int32)]) rfl ?_
      cases h
      obtain rfl : o = _ := ho
      exact Ev.zret D_68 (by decide) (by decide +kernel)
theorem gW_agreesWith_h2_w {L d : Nat} (hd : 1 ≤ d + 1) {v0 : Nat} {v1 : Nat} {s : mT} (i0 : isRw v0) (i1 : isCo v1) : ∀ (n : Nat) (q : Int32) (r : Int32), wh n (gW_agreesWith_h2 v0 v1 s) q = some r → ∀ o, (fun r => o = (some (.int r), uS L s)) r → Ev (d + 1) 68 2 [(0, .ref v0), (1, .ref v1), (2, .int q)] [] (uS L s) o :=
  fun n q r h o hc => wh_ev (E := fun (q : Int32) o => Ev (d + 1) 68 2 [(0, .ref v0), (1, .ref v1), (2, .int q)] [] (uS L s) o) (C := fun (r : Int32) o => (fun r => o = (some (.int r), uS L s)) r) (gW_agreesWith_h2_ok hd i0 i1 ) n q r h o hc
def gW_agreesWith (v0 : Nat) (v1 : Nat) (s : mT) : Option (Int32) :=
  wh FU (gW_agreesWith_h2 v0 v1 s) (0 : Int32)
set_option maxRecDepth 8000 in
theorem gW_agreesWith_ok {L d : Nat} (hd : 1 ≤ d) {v0 : Nat} {v1 : Nat} {s : mT} (i0 : isRw v0) (i1 : isCo v1) {p : Int32} (h : gW_agreesWith v0 v1 s = some p) : Ev d 68 0 [(0, .ref v0), (1, .ref v1)] [] (uS L s) (some (.int p), uS L s) := by
  obtain ⟨d, rfl⟩ : ∃ e, d = e + 1 := ⟨d - 1, by omega⟩
  obtain ⟨o, ho⟩ : ∃ o : Option Value × mS, o = (some (.int p), uS L s) := ⟨_, rfl⟩
  rw [← ho]
  unfold gW_agreesWith at h
  refine Ev.seg D_68 [(.iconst 0, 1), (.istore_n 2, 1)] (by decide +kernel) (j := 0) (pc' := 2) (lv' := [(2, .int (0 : Int32)), (0, .ref v0), (1, .ref v1)]) (st' := []) rfl ?_
  exact Ev.sub (lv' := [(0, .ref v0), (1, .ref v1), (2, .int (0 : Int32))]) (subL_cons rfl (subL_cons rfl (subL_cons rfl subL_nil))) (gW_agreesWith_h2_w hd i0 i1  _ _ _ h _ ho)
/- Row lay: 69 -/
def gW_lay_h17 (v0 : Nat) (q : Int32 × mT) : Option ((Int32 × mT) ⊕ (mT)) :=
  if (q.2.1 v0 3) ≤ q.1 then
    some (.inr q.2)
  else
    (wrL q.2 (v0 + 1) 60 q.1 (0 : Int64)).bind fun s4 =>
    some (.inl (q.1 + (1 : Int32), s4))
set_option maxRecDepth 8000 in
theorem gW_lay_h17_ok {L d : Nat} (hd : 1 ≤ d + 1) {v0 : Nat} (i0 : isRw v0) : ∀ (q : Int32 × mT) (x : (Int32 × mT) ⊕ (mT)), gW_lay_h17 v0 q = some x → ∀ o, sK (fun q => Ev (d + 1) 69 17 [(0, .ref v0), (3, .int q.1)] [] (uS L q.2) o) (fun r => Ev (d + 1) 69 38 [] [] (uS L r) o) x → Ev (d + 1) 69 17 [(0, .ref v0), (3, .int q.1)] [] (uS L q.2) o := by
  intro q x h o ho
  unfold gW_lay_h17 at h
  refine Ev.seg D_69 [(.iload_n 3, 1), (.aload_n 0, 1)] (by decide +kernel) (j := 0) (pc' := 19) (lv' := [(0, .ref v0), (3, .int q.1)]) (st' := [.ref v0, .int q.1]) rfl ?_
  refine Ev.getI D_69 (by decide +kernel) F_4_23 (Or.inl T_4_3) (S_oI (rw_o i0)) ?_
  refine Ev.icmp D_69 (c := .ge) (off := 16) (by decide +kernel) (t := 38) rfl (fun c2 => ?_) (fun c2 => ?_)
  · have c2 : (q.2.1 v0 3) ≤ q.1 := of_decide_eq_true c2
    rw [if_pos c2] at h
    cases h
    exact Ev.sub (lv' := []) subL_nil ho
  · have c2 : ¬ (q.2.1 v0 3) ≤ q.1 := of_decide_eq_false c2
    rw [if_neg c2] at h
    refine Ev.seg D_69 [(.aload_n 0, 1)] (by decide +kernel) (j := 0) (pc' := 26) (lv' := [(0, .ref v0), (3, .int q.1)]) (st' := [.ref v0]) rfl ?_
    refine Ev.getR D_69 (by decide +kernel) F_4_9 T_4_0 (x := (v0 + 1)) (S_oR (rw_o i0) (rw_r2 i0 0 1 (by decide +kernel))) ?_
    refine Ev.seg D_69 [(.iload_n 3, 1), (.lconst 0, 1)] (by decide +kernel) (j := 0) (pc' := 31) (lv' := [(0, .ref v0), (3, .int q.1)]) (st' := [.long (0 : Int64), .int q.1, .ref (v0 + 1)]) rfl ?_
    obtain ⟨s4, e4, h⟩ := bd h
    refine Ev.last D_69 (by decide +kernel) (S_sL (rw_k i0 1 _ (by decide +kernel)) e4) ?_
    refine Ev.seg D_69 [(.iinc 3 1, 3), (.goto (-18), 3)] (by decide +kernel) (j := 0) (pc' := 17) (lv' := [(3, .int (q.1 + (1 : Int32))), (0, .ref v0)]) (st' := []) rfl ?_
    cases h
    exact Ev.sub (lv' := [(0, .ref v0), (3, .int (q.1 + (1 : Int32)))]) (subL_cons rfl (subL_cons rfl subL_nil)) ho
theorem gW_lay_h17_w {L d : Nat} (hd : 1 ≤ d + 1) {v0 : Nat} (i0 : isRw v0) : ∀ (n : Nat) (q : Int32 × mT) (r : mT), wh n (gW_lay_h17 v0) q = some r → ∀ o, (fun r => Ev (d + 1) 69 38 [] [] (uS L r) o) r → Ev (d + 1) 69 17 [(0, .ref v0), (3, .int q.1)] [] (uS L q.2) o :=
  fun n q r h o hc => wh_ev (E := fun (q : Int32 × mT) o => Ev (d + 1) 69 17 [(0, .ref v0), (3, .int q.1)] [] (uS L q.2) o) (C := fun (r : mT) o => (fun r => Ev (d + 1) 69 38 [] [] (uS L r) o) r) (gW_lay_h17_ok hd i0 ) n q r h o hc
def gW_lay (v0 : Nat) (v1 : Int32) (v2 : Int32) (s : mT) : Option (mT) :=
  (some (stI (stI (stI s v0 1 (1 : Int32)) v0 2 v1) v0 3 v2)).bind fun s3 =>
  (wh FU (gW_lay_h17 v0) ((0 : Int32), s3)).bind fun x5 =>
  some (x5)
set_option maxRecDepth 8000 in
theorem gW_lay_ok {L d : Nat} (hd : 1 ≤ d) {v0 : Nat} {v1 : Int32} {v2 : Int32} {s : mT} (i0 : isRw v0) {p : mT} (h : gW_lay v0 v1 v2 s = some p) : Ev d 69 0 [(0, .ref v0), (1, .int v1), (2, .int v2)] [] (uS L s) (none, uS L p) := by
  obtain ⟨d, rfl⟩ : ∃ e, d = e + 1 := ⟨d - 1, by omega⟩
  obtain ⟨o, ho⟩ : ∃ o : Option Value × mS, o = (none, uS L p) := ⟨_, rfl⟩
  rw [← ho]
  unfold gW_lay at h
  refine Ev.seg D_69 [(.aload_n 0, 1), (.iconst 1, 1)] (by decide +kernel) (j := 0) (pc' := 2) (lv' := [(0, .ref v0), (1, .int v1), (2, .int v2)]) (st' := [.int (1 : Int32), .ref v0]) rfl ?_
  refine Ev.putZ D_69 (by decide +kernel) F_4_15 N_4_1 T_4_1 (S_pZ (rw_o i0) (by decide)) ?_
  refine Ev.seg D_69 [(.aload_n 0, 1), (.iload_n 1, 1)] (by decide +kernel) (j := 0) (pc' := 7) (lv' := [(0, .ref v0), (1, .int v1), (2, .int v2)]) (st' := [.int v1, .ref v0]) rfl ?_
  refine Ev.putI D_69 (by decide +kernel) F_4_19 N_4_2 T_4_2 (S_pI (rw_o i0)) ?_
  refine Ev.seg D_69 [(.aload_n 0, 1), (.iload_n 2, 1)] (by decide +kernel) (j := 0) (pc' := 12) (lv' := [(0, .ref v0), (1, .int v1), (2, .int v2)]) (st' := [.int v2, .ref v0]) rfl ?_
  obtain ⟨s3, e3, h⟩ := bd h
  refine Ev.putI D_69 (by decide +kernel) F_4_23 N_4_3 T_4_3 (S_pIb (rw_o i0) e3) ?_
  refine Ev.seg D_69 [(.iconst 0, 1), (.istore_n 3, 1)] (by decide +kernel) (j := 0) (pc' := 17) (lv' := [(3, .int (0 : Int32)), (0, .ref v0), (1, .int v1), (2, .int v2)]) (st' := []) rfl ?_
  obtain ⟨x5, w5, h⟩ := bd h
  have j5 : Ev (d + 1) 69 38 [] [] (uS L x5) o := by
    clear w5
    cases h
    obtain rfl : o = _ := ho
    exact Ev.vret D_69 (by decide +kernel)
  exact Ev.sub (lv' := [(0, .ref v0), (3, .int (0 : Int32))]) (subL_cons rfl (subL_cons rfl subL_nil)) (gW_lay_h17_w hd i0  _ _ _ w5 _ j5)
/- Row put: 70 -/
def gW_put (v0 : Nat) (v1 : Int32) (v2 : Int64) (s : mT) : Option (mT) :=
  (
    if (s.1 v0 2) = 0 then
      (wrL s (v0 + 1) 60 v1 v2.toInt32.toInt8.toInt32.toInt64).bind fun s14 =>
      some (s14)
    else
      if (s.1 v0 2) = (1 : Int32) then
        (wrL s (v0 + 1) 60 v1 v2.toInt32.toInt16.toInt32.toInt64).bind fun s12 =>
        some (s12)
      else
        if (s.1 v0 2) = (2 : Int32) then
          (wrL s (v0 + 1) 60 v1 v2.toInt32.toInt64).bind fun s10 =>
          some (s10)
        else
          (wrL s (v0 + 1) 60 v1 v2).bind fun s8 =>
          some (s8) : Option (mT)).bind fun x2 =>
  some (x2)
set_option maxRecDepth 8000 in
theorem gW_put_ok {L d : Nat} (hd : 1 ≤ d) {v0 : Nat} {v1 : Int32} {v2 : Int64} {s : mT} (i0 : isRw v0) {p : mT} (h : gW_put v0 v1 v2 s = some p) : Ev d 70 0 [(0, .ref v0), (1, .int v1), (2, .long v2)] [] (uS L s) (none, uS L p) := by
  obtain ⟨d, rfl⟩ : ∃ e, d = e + 1 := ⟨d - 1, by omega⟩
  obtain ⟨o, ho⟩ : ∃ o : Option Value × mS, o = (none, uS L p) := ⟨_, rfl⟩
  rw [← ho]
  unfold gW_put at h
  refine Ev.seg D_70 [(.aload_n 0, 1)] (by decide +kernel) (j := 0) (pc' := 1) (lv' := [(0, .ref v0), (1, .int v1), (2, .long v2)]) (st' := [.ref v0]) rfl ?_
  refine Ev.getI D_70 (by decide +kernel) F_4_19 (Or.inl T_4_2) (S_oI (rw_o i0)) ?_
  obtain ⟨x2, g2, h⟩ := bd h
  have j2 : Ev (d + 1) 70 68 [] [] (uS L x2) o := by
    clear g2
    cases h
    obtain rfl : o = _ := ho
    exact Ev.vret D_70 (by decide +kernel)
  clear h
  refine Ev.if_ D_70 (c := .ne) (off := 16) (by decide +kernel) (t := 20) rfl (fun c2 => ?_) (fun c2 => ?_)
  · have c2 : ¬ (s.1 v0 2) = 0 := of_decide_eq_true c2
    rw [if_neg c2] at g2
    refine Ev.seg D_70 [(.aload_n 0, 1)] (by decide +kernel) (j := 0) (pc' := 21) (lv' := [(0, .ref v0), (1, .int v1), (2, .long v2)]) (st' := [.ref v0]) rfl ?_
    refine Ev.getI D_70 (by decide +kernel) F_4_19 (Or.inl T_4_2) (S_oI (rw_o i0)) ?_
    refine Ev.seg D_70 [(.iconst 1, 1)] (by decide +kernel) (j := 0) (pc' := 25) (lv' := [(0, .ref v0), (1, .int v1), (2, .long v2)]) (st' := [.int (1 : Int32), .int (s.1 v0 2)]) rfl ?_
    refine Ev.icmp D_70 (c := .ne) (off := 16) (by decide +kernel) (t := 41) rfl (fun c4 => ?_) (fun c4 => ?_)
    · have c4 : ¬ (s.1 v0 2) = (1 : Int32) := of_decide_eq_true c4
      rw [if_neg c4] at g2
      refine Ev.seg D_70 [(.aload_n 0, 1)] (by decide +kernel) (j := 0) (pc' := 42) (lv' := [(0, .ref v0), (1, .int v1), (2, .long v2)]) (st' := [.ref v0]) rfl ?_
      refine Ev.getI D_70 (by decide +kernel) F_4_19 (Or.inl T_4_2) (S_oI (rw_o i0)) ?_
      refine Ev.seg D_70 [(.iconst 2, 1)] (by decide +kernel) (j := 0) (pc' := 46) (lv' := [(0, .ref v0), (1, .int v1), (2, .long v2)]) (st' := [.int (2 : Int32), .int (s.1 v0 2)]) rfl ?_
      refine Ev.icmp D_70 (c := .ne) (off := 15) (by decide +kernel) (t := 61) rfl (fun c6 => ?_) (fun c6 => ?_)
      · have c6 : ¬ (s.1 v0 2) = (2 : Int32) := of_decide_eq_true c6
        rw [if_neg c6] at g2
        refine Ev.seg D_70 [(.aload_n 0, 1)] (by decide +kernel) (j := 0) (pc' := 62) (lv' := [(0, .ref v0), (1, .int v1), (2, .long v2)]) (st' := [.ref v0]) rfl ?_
        refine Ev.getR D_70 (by decide +kernel) F_4_9 T_4_0 (x := (v0 + 1)) (S_oR (rw_o i0) (rw_r2 i0 0 1 (by decide +kernel))) ?_
        refine Ev.seg D_70 [(.iload_n 1, 1), (.lload_n 2, 1)] (by decide +kernel) (j := 0) (pc' := 67) (lv' := [(0, .ref v0), (1, .int v1), (2, .long v2)]) (st' := [.long v2, .int v1, .ref (v0 + 1)]) rfl ?_
        obtain ⟨s8, e8, g2⟩ := bd g2
        refine Ev.last D_70 (by decide +kernel) (S_sL (rw_k i0 1 _ (by decide +kernel)) e8) ?_
        cases g2
        exact Ev.sub2 j2 subL_nil
      · have c6 : (s.1 v0 2) = (2 : Int32) := Decidable.of_not_not (of_decide_eq_false c6)
        rw [if_pos c6] at g2
        refine Ev.seg D_70 [(.aload_n 0, 1)] (by decide +kernel) (j := 0) (pc' := 50) (lv' := [(0, .ref v0), (1, .int v1), (2, .long v2)]) (st' := [.ref v0]) rfl ?_
        refine Ev.getR D_70 (by decide +kernel) F_4_9 T_4_0 (x := (v0 + 1)) (S_oR (rw_o i0) (rw_r2 i0 0 1 (by decide +kernel))) ?_
        refine Ev.seg D_70 [(.iload_n 1, 1), (.lload_n 2, 1), (.l2i, 1), (.i2l, 1)] (by decide +kernel) (j := 0) (pc' := 57) (lv' := [(0, .ref v0), (1, .int v1), (2, .long v2)]) (st' := [.long v2.toInt32.toInt64, .int v1, .ref (v0 + 1)]) rfl ?_
        obtain ⟨s10, e10, g2⟩ := bd g2
        refine Ev.last D_70 (by decide +kernel) (S_sL (rw_k i0 1 _ (by decide +kernel)) e10) ?_
        refine Ev.seg D_70 [(.goto 10, 3)] (by decide +kernel) (j := 0) (pc' := 68) (lv' := [(0, .ref v0), (1, .int v1), (2, .long v2)]) (st' := []) rfl ?_
        cases g2
        exact Ev.sub2 j2 subL_nil
    · have c4 : (s.1 v0 2) = (1 : Int32) := Decidable.of_not_not (of_decide_eq_false c4)
      rw [if_pos c4] at g2
      refine Ev.seg D_70 [(.aload_n 0, 1)] (by decide +kernel) (j := 0) (pc' := 29) (lv' := [(0, .ref v0), (1, .int v1), (2, .long v2)]) (st' := [.ref v0]) rfl ?_
      refine Ev.getR D_70 (by decide +kernel) F_4_9 T_4_0 (x := (v0 + 1)) (S_oR (rw_o i0) (rw_r2 i0 0 1 (by decide +kernel))) ?_
      refine Ev.seg D_70 [(.iload_n 1, 1), (.lload_n 2, 1), (.l2i, 1), (.i2s, 1), (.i2l, 1)] (by decide +kernel) (j := 0) (pc' := 37) (lv' := [(0, .ref v0), (1, .int v1), (2, .long v2)]) (st' := [.long v2.toInt32.toInt16.toInt32.toInt64, .int v1, .ref (v0 + 1)]) rfl ?_
      obtain ⟨s12, e12, g2⟩ := bd g2
      refine Ev.last D_70 (by decide +kernel) (S_sL (rw_k i0 1 _ (by decide +kernel)) e12) ?_
      refine Ev.seg D_70 [(.goto 30, 3)] (by decide +kernel) (j := 0) (pc' := 68) (lv' := [(0, .ref v0), (1, .int v1), (2, .long v2)]) (st' := []) rfl ?_
      cases g2
      exact Ev.sub2 j2 subL_nil
  · have c2 : (s.1 v0 2) = 0 := Decidable.of_not_not (of_decide_eq_false c2)
    rw [if_pos c2] at g2
    refine Ev.seg D_70 [(.aload_n 0, 1)] (by decide +kernel) (j := 0) (pc' := 8) (lv' := [(0, .ref v0), (1, .int v1), (2, .long v2)]) (st' := [.ref v0]) rfl ?_
    refine Ev.getR D_70 (by decide +kernel) F_4_9 T_4_0 (x := (v0 + 1)) (S_oR (rw_o i0) (rw_r2 i0 0 1 (by decide +kernel))) ?_
    refine Ev.seg D_70 [(.iload_n 1, 1), (.lload_n 2, 1), (.l2i, 1), (.i2b, 1), (.i2l, 1)] (by decide +kernel) (j := 0) (pc' := 16) (lv' := [(0, .ref v0), (1, .int v1), (2, .long v2)]) (st' := [.long v2.toInt32.toInt8.toInt32.toInt64, .int v1, .ref (v0 + 1)]) rfl ?_
    obtain ⟨s14, e14, g2⟩ := bd g2
    refine Ev.last D_70 (by decide +kernel) (S_sL (rw_k i0 1 _ (by decide +kernel)) e14) ?_
    refine Ev.seg D_70 [(.goto 51, 3)] (by decide +kernel) (j := 0) (pc' := 68) (lv' := [(0, .ref v0), (1, .int v1), (2, .long v2)]) (st' := []) rfl ?_
    cases g2
    exact Ev.sub2 j2 subL_nil
/- Row hasSpan: 71 -/
def gW_hasSpan (v0 : Nat) (v1 : Int32) (v2 : Int32) (s : mT) : Option (Int32) :=
  (
    if v1 < 0 then
      some ((0 : Int32))
    else
      if v2 < 0 then
        some ((0 : Int32))
      else
        if (s.1 v0 3) < v1 then
          some ((0 : Int32))
        else
          if ((s.1 v0 3) - v1) < v2 then
            some ((0 : Int32))
          else
            some ((1 : Int32)) : Option (Int32)).bind fun x1 =>
  if x1 = 0 ∨ x1 = 1 then some (x1) else none
set_option maxRecDepth 8000 in
theorem gW_hasSpan_ok {L d : Nat} (hd : 1 ≤ d) {v0 : Nat} {v1 : Int32} {v2 : Int32} {s : mT} (i0 : isRw v0) {p : Int32} (h : gW_hasSpan v0 v1 v2 s = some p) : Ev d 71 0 [(0, .ref v0), (1, .int v1), (2, .int v2)] [] (uS L s) (some (.int p), uS L s) := by
  obtain ⟨d, rfl⟩ : ∃ e, d = e + 1 := ⟨d - 1, by omega⟩
  obtain ⟨o, ho⟩ : ∃ o : Option Value × mS, o = (some (.int p), uS L s) := ⟨_, rfl⟩
  rw [← ho]
  unfold gW_hasSpan at h
  refine Ev.seg D_71 [(.iload_n 1, 1)] (by decide +kernel) (j := 0) (pc' := 1) (lv' := [(0, .ref v0), (1, .int v1), (2, .int v2)]) (st' := [.int v1]) rfl ?_
  obtain ⟨x1, g1, h⟩ := bd h
  have j1 : Ev (d + 1) 71 31 [] [.int x1] (uS L s) o := by
    clear g1
    by_cases c7 : x1 = 0 ∨ x1 = 1
    · rw [if_pos c7] at h
      cases h
      obtain rfl : o = _ := ho
      exact Ev.zret D_71 c7 (by decide +kernel)
    · rw [if_neg c7] at h; cases h
  clear h
  refine Ev.if_ D_71 (c := .lt) (off := 29) (by decide +kernel) (t := 30) rfl (fun c1 => ?_) (fun c1 => ?_)
  · have c1 : v1 < 0 := of_decide_eq_true c1
    rw [if_pos c1] at g1
    refine Ev.seg D_71 [(.iconst 0, 1)] (by decide +kernel) (j := 0) (pc' := 31) (lv' := [(0, .ref v0), (1, .int v1), (2, .int v2)]) (st' := [.int (0 : Int32)]) rfl ?_
    cases g1
    exact Ev.sub2 j1 subL_nil
  · have c1 : ¬ v1 < 0 := of_decide_eq_false c1
    rw [if_neg c1] at g1
    refine Ev.seg D_71 [(.iload_n 2, 1)] (by decide +kernel) (j := 0) (pc' := 5) (lv' := [(0, .ref v0), (1, .int v1), (2, .int v2)]) (st' := [.int v2]) rfl ?_
    refine Ev.if_ D_71 (c := .lt) (off := 25) (by decide +kernel) (t := 30) rfl (fun c2 => ?_) (fun c2 => ?_)
    · have c2 : v2 < 0 := of_decide_eq_true c2
      rw [if_pos c2] at g1
      refine Ev.seg D_71 [(.iconst 0, 1)] (by decide +kernel) (j := 0) (pc' := 31) (lv' := [(0, .ref v0), (1, .int v1), (2, .int v2)]) (st' := [.int (0 : Int32)]) rfl ?_
      cases g1
      exact Ev.sub2 j1 subL_nil
    · have c2 : ¬ v2 < 0 := of_decide_eq_false c2
      rw [if_neg c2] at g1
      refine Ev.seg D_71 [(.iload_n 1, 1), (.aload_n 0, 1)] (by decide +kernel) (j := 0) (pc' := 10) (lv' := [(0, .ref v0), (1, .int v1), (2, .int v2)]) (st' := [.ref v0, .int v1]) rfl ?_
      refine Ev.getI D_71 (by decide +kernel) F_4_23 (Or.inl T_4_3) (S_oI (rw_o i0)) ?_
      refine Ev.icmp D_71 (c := .gt) (off := 17) (by decide +kernel) (t := 30) rfl (fun c4 => ?_) (fun c4 => ?_)
      · have c4 : (s.1 v0 3) < v1 := of_decide_eq_true c4
        rw [if_pos c4] at g1
        refine Ev.seg D_71 [(.iconst 0, 1)] (by decide +kernel) (j := 0) (pc' := 31) (lv' := [(0, .ref v0), (1, .int v1), (2, .int v2)]) (st' := [.int (0 : Int32)]) rfl ?_
        cases g1
        exact Ev.sub2 j1 subL_nil
      · have c4 : ¬ (s.1 v0 3) < v1 := of_decide_eq_false c4
        rw [if_neg c4] at g1
        refine Ev.seg D_71 [(.iload_n 2, 1), (.aload_n 0, 1)] (by decide +kernel) (j := 0) (pc' := 18) (lv' := [(0, .ref v0), (1, .int v1), (2, .int v2)]) (st' := [.ref v0, .int v2]) rfl ?_
        refine Ev.getI D_71 (by decide +kernel) F_4_23 (Or.inl T_4_3) (S_oI (rw_o i0)) ?_
        refine Ev.seg D_71 [(.iload_n 1, 1), (.isub, 1)] (by decide +kernel) (j := 0) (pc' := 23) (lv' := [(0, .ref v0), (1, .int v1), (2, .int v2)]) (st' := [.int ((s.1 v0 3) - v1), .int v2]) rfl ?_
        refine Ev.icmp D_71 (c := .gt) (off := 7) (by decide +kernel) (t := 30) rfl (fun c6 => ?_) (fun c6 => ?_)
        · have c6 : ((s.1 v0 3) - v1) < v2 := of_decide_eq_true c6
          rw [if_pos c6] at g1
          refine Ev.seg D_71 [(.iconst 0, 1)] (by decide +kernel) (j := 0) (pc' := 31) (lv' := [(0, .ref v0), (1, .int v1), (2, .int v2)]) (st' := [.int (0 : Int32)]) rfl ?_
          cases g1
          exact Ev.sub2 j1 subL_nil
        · have c6 : ¬ ((s.1 v0 3) - v1) < v2 := of_decide_eq_false c6
          rw [if_neg c6] at g1
          refine Ev.seg D_71 [(.iconst 1, 1), (.goto 4, 3)] (by decide +kernel) (j := 0) (pc' := 31) (lv' := [(0, .ref v0), (1, .int v1), (2, .int v2)]) (st' := [.int (1 : Int32)]) rfl ?_
          cases g1
          exact Ev.sub2 j1 subL_nil
/- Seen forget: 74 -/
def gE_forget_h14 (v1 : Int32) (q : Int32 × mT) : Option ((Int32 × mT) ⊕ (mT)) :=
  if (5 : Int32) ≤ q.1 then
    some (.inr q.2)
  else
    if ¬ (v1 < 0 ∨ 5 ≤ v1.toNatClampNeg) then
      (wrI q.2 (227 + v1.toNatClampNeg) 5 q.1 (0 : Int32)).bind fun s4 =>
      some (.inl (q.1 + (1 : Int32), s4))
    else none
set_option maxRecDepth 8000 in
theorem gE_forget_h14_ok {L d : Nat} (hd : 1 ≤ d + 1) {v1 : Int32} : ∀ (q : Int32 × mT) (x : (Int32 × mT) ⊕ (mT)), gE_forget_h14 v1 q = some x → ∀ o, sK (fun q => Ev (d + 1) 74 14 [(0, .ref 225), (1, .int v1), (2, .int q.1)] [] (uS L q.2) o) (fun r => Ev (d + 1) 74 34 [(0, .ref 225), (1, .int v1)] [] (uS L r) o) x → Ev (d + 1) 74 14 [(0, .ref 225), (1, .int v1), (2, .int q.1)] [] (uS L q.2) o := by
  intro q x h o ho
  unfold gE_forget_h14 at h
  refine Ev.seg D_74 [(.iload_n 2, 1), (.iconst 5, 1)] (by decide +kernel) (j := 0) (pc' := 16) (lv' := [(0, .ref 225), (1, .int v1), (2, .int q.1)]) (st' := [.int (5 : Int32), .int q.1]) rfl ?_
  refine Ev.icmp D_74 (c := .ge) (off := 18) (by decide +kernel) (t := 34) rfl (fun c1 => ?_) (fun c1 => ?_)
  · have c1 : (5 : Int32) ≤ q.1 := of_decide_eq_true c1
    rw [if_pos c1] at h
    cases h
    exact Ev.sub (lv' := [(0, .ref 225), (1, .int v1)]) (subL_cons rfl (subL_cons rfl subL_nil)) ho
  · have c1 : ¬ (5 : Int32) ≤ q.1 := of_decide_eq_false c1
    rw [if_neg c1] at h
    refine Ev.seg D_74 [(.aload_n 0, 1)] (by decide +kernel) (j := 0) (pc' := 20) (lv' := [(0, .ref 225), (1, .int v1), (2, .int q.1)]) (st' := [.ref 225]) rfl ?_
    refine Ev.getR D_74 (by decide +kernel) F_5_20 T_5_4 (x := 226) (S_oR k_225 (by decide +kernel)) ?_
    refine Ev.seg D_74 [(.iload_n 1, 1)] (by decide +kernel) (j := 0) (pc' := 24) (lv' := [(0, .ref 225), (1, .int v1), (2, .int q.1)]) (st' := [.int v1, .ref 226]) rfl ?_
    by_cases b24 : ¬ (v1 < 0 ∨ 5 ≤ v1.toNatClampNeg)
    rotate_left
    · rw [if_neg b24] at h; cases h
    rw [if_pos b24] at h
    refine Ev.aald D_74 (by decide +kernel) (kd := 26) ⟨by decide, by decide⟩ (x := (227 + v1.toNatClampNeg)) (S_aR k_226 b24 (lit_aa (e := 227) (n := 5) (by decide +kernel) b24)) ?_
    refine Ev.seg D_74 [(.iload_n 2, 1), (.iconst 0, 1)] (by decide +kernel) (j := 0) (pc' := 27) (lv' := [(0, .ref 225), (1, .int v1), (2, .int q.1)]) (st' := [.int (0 : Int32), .int q.1, .ref (227 + v1.toNatClampNeg)]) rfl ?_
    obtain ⟨s4, e4, h⟩ := bd h
    refine Ev.iast D_74 (by decide +kernel) (S_sI (lit_row (e := 227) (n := 5) (by decide +kernel) b24) e4) ?_
    refine Ev.seg D_74 [(.iinc 2 1, 3), (.goto (-17), 3)] (by decide +kernel) (j := 0) (pc' := 14) (lv' := [(2, .int (q.1 + (1 : Int32))), (0, .ref 225), (1, .int v1)]) (st' := []) rfl ?_
    cases h
    exact Ev.sub (lv' := [(0, .ref 225), (1, .int v1), (2, .int (q.1 + (1 : Int32)))]) (subL_cons rfl (subL_cons rfl (subL_cons rfl subL_nil))) ho
theorem gE_forget_h14_w {L d : Nat} (hd : 1 ≤ d + 1) {v1 : Int32} : ∀ (n : Nat) (q : Int32 × mT) (r : mT), wh n (gE_forget_h14 v1) q = some r → ∀ o, (fun r => Ev (d + 1) 74 34 [(0, .ref 225), (1, .int v1)] [] (uS L r) o) r → Ev (d + 1) 74 14 [(0, .ref 225), (1, .int v1), (2, .int q.1)] [] (uS L q.2) o :=
  fun n q r h o hc => wh_ev (E := fun (q : Int32 × mT) o => Ev (d + 1) 74 14 [(0, .ref 225), (1, .int v1), (2, .int q.1)] [] (uS L q.2) o) (C := fun (r : mT) o => (fun r => Ev (d + 1) 74 34 [(0, .ref 225), (1, .int v1)] [] (uS L r) o) r) (gE_forget_h14_ok hd  ) n q r h o hc
def gE_forget_h7  (q : Int32 × mT) : Option ((Int32 × mT) ⊕ (mT)) :=
  if (5 : Int32) ≤ q.1 then
    some (.inr q.2)
  else
    (wh FU (gE_forget_h14 q.1) ((0 : Int32), q.2)).bind fun x5 =>
    some (.inl (q.1 + (1 : Int32), x5))
set_option maxRecDepth 8000 in
theorem gE_forget_h7_ok {L d : Nat} (hd : 1 ≤ d + 1)  : ∀ (q : Int32 × mT) (x : (Int32 × mT) ⊕ (mT)), gE_forget_h7 q = some x → ∀ o, sK (fun q => Ev (d + 1) 74 7 [(0, .ref 225), (1, .int q.1)] [] (uS L q.2) o) (fun r => Ev (d + 1) 74 40 [] [] (uS L r) o) x → Ev (d + 1) 74 7 [(0, .ref 225), (1, .int q.1)] [] (uS L q.2) o := by
  intro q x h o ho
  unfold gE_forget_h7 at h
  refine Ev.seg D_74 [(.iload_n 1, 1), (.iconst 5, 1)] (by decide +kernel) (j := 0) (pc' := 9) (lv' := [(0, .ref 225), (1, .int q.1)]) (st' := [.int (5 : Int32), .int q.1]) rfl ?_
  refine Ev.icmp D_74 (c := .ge) (off := 31) (by decide +kernel) (t := 40) rfl (fun c1 => ?_) (fun c1 => ?_)
  · have c1 : (5 : Int32) ≤ q.1 := of_decide_eq_true c1
    rw [if_pos c1] at h
    cases h
    exact Ev.sub (lv' := []) subL_nil ho
  · have c1 : ¬ (5 : Int32) ≤ q.1 := of_decide_eq_false c1
    rw [if_neg c1] at h
    refine Ev.seg D_74 [(.iconst 0, 1), (.istore_n 2, 1)] (by decide +kernel) (j := 0) (pc' := 14) (lv' := [(2, .int (0 : Int32)), (0, .ref 225), (1, .int q.1)]) (st' := []) rfl ?_
    obtain ⟨x5, w5, h⟩ := bd h
    have j5 : Ev (d + 1) 74 34 [(0, .ref 225), (1, .int q.1)] [] (uS L x5) o := by
      clear w5
      refine Ev.seg D_74 [(.iinc 1 1, 3), (.goto (-30), 3)] (by decide +kernel) (j := 0) (pc' := 7) (lv' := [(1, .int (q.1 + (1 : Int32))), (0, .ref 225)]) (st' := []) rfl ?_
      cases h
      exact Ev.sub (lv' := [(0, .ref 225), (1, .int (q.1 + (1 : Int32)))]) (subL_cons rfl (subL_cons rfl subL_nil)) ho
    exact Ev.sub (lv' := [(0, .ref 225), (1, .int q.1), (2, .int (0 : Int32))]) (subL_cons rfl (subL_cons rfl (subL_cons rfl subL_nil))) (gE_forget_h14_w hd   _ _ _ w5 _ j5)
theorem gE_forget_h7_w {L d : Nat} (hd : 1 ≤ d + 1)  : ∀ (n : Nat) (q : Int32 × mT) (r : mT), wh n (gE_forget_h7) q = some r → ∀ o, (fun r => Ev (d + 1) 74 40 [] [] (uS L r) o) r → Ev (d + 1) 74 7 [(0, .ref 225), (1, .int q.1)] [] (uS L q.2) o :=
  fun n q r h o hc => wh_ev (E := fun (q : Int32 × mT) o => Ev (d + 1) 74 7 [(0, .ref 225), (1, .int q.1)] [] (uS L q.2) o) (C := fun (r : mT) o => (fun r => Ev (d + 1) 74 40 [] [] (uS L r) o) r) (gE_forget_h7_ok hd  ) n q r h o hc
def gE_forget (s : mT) : Option (mT) :=
  (wh FU (gE_forget_h7) ((0 : Int32), (stI s 225 3 (0 : Int32)))).bind fun x6 =>
  some (x6)
set_option maxRecDepth 8000 in
theorem gE_forget_ok {L d : Nat} (hd : 1 ≤ d) {s : mT} {p : mT} (h : gE_forget s = some p) : Ev d 74 0 [(0, .ref 225)] [] (uS L s) (none, uS L p) := by
  obtain ⟨d, rfl⟩ : ∃ e, d = e + 1 := ⟨d - 1, by omega⟩
  obtain ⟨o, ho⟩ : ∃ o : Option Value × mS, o = (none, uS L p) := ⟨_, rfl⟩
  rw [← ho]
  unfold gE_forget at h
  refine Ev.seg D_74 [(.aload_n 0, 1), (.iconst 0, 1)] (by decide +kernel) (j := 0) (pc' := 2) (lv' := [(0, .ref 225)]) (st' := [.int (0 : Int32), .ref 225]) rfl ?_
  refine Ev.putI D_74 (by decide +kernel) F_5_15 N_5_3 T_5_3 (S_pI k_225) ?_
  refine Ev.seg D_74 [(.iconst 0, 1), (.istore_n 1, 1)] (by decide +kernel) (j := 0) (pc' := 7) (lv' := [(1, .int (0 : Int32)), (0, .ref 225)]) (st' := []) rfl ?_
  obtain ⟨x6, w6, h⟩ := bd h
  have j6 : Ev (d + 1) 74 40 [] [] (uS L x6) o := by
    clear w6
    cases h
    obtain rfl : o = _ := ho
    exact Ev.vret D_74 (by decide +kernel)
  exact Ev.sub (lv' := [(0, .ref 225), (1, .int (0 : Int32))]) (subL_cons rfl (subL_cons rfl subL_nil)) (gE_forget_h7_w hd   _ _ _ w6 _ j6)
/- Seen tally: 75 -/
def gE_tally_h12  (q : Int32 × mT) : Option ((Int32 × mT) ⊕ (mT)) :=
  if (q.2.1 16 6) ≤ q.1 then
    some (.inr q.2)
  else
    if ¬ (q.1 < 0 ∨ 5 ≤ q.1.toNatClampNeg) then
      (rdI (q.2.1 124) 5 q.1).bind fun x8 =>
      (rdI (q.2.1 (227 + q.1.toNatClampNeg)) 5 x8).bind fun x9 =>
      (wrI q.2 (227 + q.1.toNatClampNeg) 5 x8 (x9 + (1 : Int32))).bind fun s10 =>
      some (.inl (q.1 + (1 : Int32), s10))
    else none
set_option maxRecDepth 8000 in
theorem gE_tally_h12_ok {L d : Nat} (hd : 1 ≤ d + 1)  : ∀ (q : Int32 × mT) (x : (Int32 × mT) ⊕ (mT)), gE_tally_h12 q = some x → ∀ o, sK (fun q => Ev (d + 1) 75 12 [(0, .ref 225), (1, .int q.1)] [] (uS L q.2) o) (fun r => Ev (d + 1) 75 49 [] [] (uS L r) o) x → Ev (d + 1) 75 12 [(0, .ref 225), (1, .int q.1)] [] (uS L q.2) o := by
  intro q x h o ho
  unfold gE_tally_h12 at h
  refine Ev.seg D_75 [(.iload_n 1, 1), (.aload_n 0, 1)] (by decide +kernel) (j := 0) (pc' := 14) (lv' := [(0, .ref 225), (1, .int q.1)]) (st' := [.ref 225, .int q.1]) rfl ?_
  refine Ev.getR D_75 (by decide +kernel) F_5_23 T_5_0 (x := 16) (S_oR k_225 (by decide +kernel)) ?_
  refine Ev.getI D_75 (by decide +kernel) F_5_63 (Or.inl T_2_6) (S_oI k_16) ?_
  refine Ev.icmp D_75 (c := .ge) (off := 29) (by decide +kernel) (t := 49) rfl (fun c3 => ?_) (fun c3 => ?_)
  · have c3 : (q.2.1 16 6) ≤ q.1 := of_decide_eq_true c3
    rw [if_pos c3] at h
    cases h
    exact Ev.sub (lv' := []) subL_nil ho
  · have c3 : ¬ (q.2.1 16 6) ≤ q.1 := of_decide_eq_false c3
    rw [if_neg c3] at h
    refine Ev.seg D_75 [(.aload_n 0, 1)] (by decide +kernel) (j := 0) (pc' := 24) (lv' := [(0, .ref 225), (1, .int q.1)]) (st' := [.ref 225]) rfl ?_
    refine Ev.getR D_75 (by decide +kernel) F_5_20 T_5_4 (x := 226) (S_oR k_225 (by decide +kernel)) ?_
    refine Ev.seg D_75 [(.iload_n 1, 1)] (by decide +kernel) (j := 0) (pc' := 28) (lv' := [(0, .ref 225), (1, .int q.1)]) (st' := [.int q.1, .ref 226]) rfl ?_
    by_cases b28 : ¬ (q.1 < 0 ∨ 5 ≤ q.1.toNatClampNeg)
    rotate_left
    · rw [if_neg b28] at h; cases h
    rw [if_pos b28] at h
    refine Ev.aald D_75 (by decide +kernel) (kd := 26) ⟨by decide, by decide⟩ (x := (227 + q.1.toNatClampNeg)) (S_aR k_226 b28 (lit_aa (e := 227) (n := 5) (by decide +kernel) b28)) ?_
    refine Ev.seg D_75 [(.aload_n 0, 1)] (by decide +kernel) (j := 0) (pc' := 30) (lv' := [(0, .ref 225), (1, .int q.1)]) (st' := [.ref 225, .ref (227 + q.1.toNatClampNeg)]) rfl ?_
    refine Ev.getR D_75 (by decide +kernel) F_5_27 T_5_1 (x := 121) (S_oR k_225 (by decide +kernel)) ?_
    refine Ev.getR D_75 (by decide +kernel) F_5_68 T_0_4 (x := 124) (S_oR k_121 (by decide +kernel)) ?_
    refine Ev.seg D_75 [(.iload_n 1, 1)] (by decide +kernel) (j := 0) (pc' := 37) (lv' := [(0, .ref 225), (1, .int q.1)]) (st' := [.int q.1, .ref 124, .ref (227 + q.1.toNatClampNeg)]) rfl ?_
    obtain ⟨x8, e8, h⟩ := bd h
    refine Ev.iald D_75 (by decide +kernel) (S_aI k_124 e8) ?_
    refine Ev.seg D_75 [(.dup2, 1)] (by decide +kernel) (j := 0) (pc' := 39) (lv' := [(0, .ref 225), (1, .int q.1)]) (st' := [.int x8, .ref (227 + q.1.toNatClampNeg), .int x8, .ref (227 + q.1.toNatClampNeg)]) rfl ?_
    obtain ⟨x9, e9, h⟩ := bd h
    refine Ev.iald D_75 (by decide +kernel) (S_aI (lit_row (e := 227) (n := 5) (by decide +kernel) b28) e9) ?_
    refine Ev.seg D_75 [(.iconst 1, 1), (.iadd, 1)] (by decide +kernel) (j := 0) (pc' := 42) (lv' := [(0, .ref 225), (1, .int q.1)]) (st' := [.int (x9 + (1 : Int32)), .int x8, .ref (227 + q.1.toNatClampNeg)]) rfl ?_
    obtain ⟨s10, e10, h⟩ := bd h
    refine Ev.iast D_75 (by decide +kernel) (S_sI (lit_row (e := 227) (n := 5) (by decide +kernel) b28) e10) ?_
    refine Ev.seg D_75 [(.iinc 1 1, 3), (.goto (-34), 3)] (by decide +kernel) (j := 0) (pc' := 12) (lv' := [(1, .int (q.1 + (1 : Int32))), (0, .ref 225)]) (st' := []) rfl ?_
    cases h
    exact Ev.sub (lv' := [(0, .ref 225), (1, .int (q.1 + (1 : Int32)))]) (subL_cons rfl (subL_cons rfl subL_nil)) ho
theorem gE_tally_h12_w {L d : Nat} (hd : 1 ≤ d + 1)  : ∀ (n : Nat) (q : Int32 × mT) (r : mT), wh n (gE_tally_h12) q = some r → ∀ o, (fun r => Ev (d + 1) 75 49 [] [] (uS L r) o) r → Ev (d + 1) 75 12 [(0, .ref 225), (1, .int q.1)] [] (uS L q.2) o :=
  fun n q r h o hc => wh_ev (E := fun (q : Int32 × mT) o => Ev (d + 1) 75 12 [(0, .ref 225), (1, .int q.1)] [] (uS L q.2) o) (C := fun (r : mT) o => (fun r => Ev (d + 1) 75 49 [] [] (uS L r) o) r) (gE_tally_h12_ok hd  ) n q r h o hc
def gE_tally (s : mT) : Option (mT) :=
  (wh FU (gE_tally_h12) ((0 : Int32), (stI s 225 3 ((s.1 225 3) + (1 : Int32))))).bind fun x11 =>
  some (x11)
set_option maxRecDepth 8000 in
theorem gE_tally_ok {L d : Nat} (hd : 1 ≤ d) {s : mT} {p : mT} (h : gE_tally s = some p) : Ev d 75 0 [(0, .ref 225)] [] (uS L s) (none, uS L p) := by
  obtain ⟨d, rfl⟩ : ∃ e, d = e + 1 := ⟨d - 1, by omega⟩
  obtain ⟨o, ho⟩ : ∃ o : Option Value × mS, o = (none, uS L p) := ⟨_, rfl⟩
  rw [← ho]
  unfold gE_tally at h
  refine Ev.seg D_75 [(.aload_n 0, 1), (.dup, 1)] (by decide +kernel) (j := 0) (pc' := 2) (lv' := [(0, .ref 225)]) (st' := [.ref 225, .ref 225]) rfl ?_
  refine Ev.getI D_75 (by decide +kernel) F_5_15 (Or.inl T_5_3) (S_oI k_225) ?_
  refine Ev.seg D_75 [(.iconst 1, 1), (.iadd, 1)] (by decide +kernel) (j := 0) (pc' := 7) (lv' := [(0, .ref 225)]) (st' := [.int ((s.1 225 3) + (1 : Int32)), .ref 225]) rfl ?_
  refine Ev.putI D_75 (by decide +kernel) F_5_15 N_5_3 T_5_3 (S_pI k_225) ?_
  refine Ev.seg D_75 [(.iconst 0, 1), (.istore_n 1, 1)] (by decide +kernel) (j := 0) (pc' := 12) (lv' := [(1, .int (0 : Int32)), (0, .ref 225)]) (st' := []) rfl ?_
  obtain ⟨x11, w11, h⟩ := bd h
  have j11 : Ev (d + 1) 75 49 [] [] (uS L x11) o := by
    clear w11
    cases h
    obtain rfl : o = _ := ho
    exact Ev.vret D_75 (by decide +kernel)
  exact Ev.sub (lv' := [(0, .ref 225), (1, .int (0 : Int32))]) (subL_cons rfl (subL_cons rfl subL_nil)) (gE_tally_h12_w hd   _ _ _ w11 _ j11)
/- Seen makeIfStale: 73 -/
def gE_makeIfStale_h47 (v2 : Nat) (v3 : Int32) (q : Int32 × Int32 × mT) : Option ((Int32 × Int32 × mT) ⊕ (mT)) :=
  if (3125 : Int32) ≤ q.2.1 then
    some (.inr q.2.2)
  else
    if q.1 = 0 then
      some (.inr q.2.2)
    else
      (gC_sail 121 v3 q.2.2).bind fun p4 =>
      (gW_agreesWith v2 121 p4).bind fun p6 =>
      (
        if p6 = 0 then
          some (p4)
        else
          (gE_tally p4).bind fun p8 =>
          some (p8) : Option (mT)).bind fun x7 =>
      (gC_nextLooks 121 x7).bind fun p10 =>
      some (.inl (p10.1, q.2.1 + (1 : Int32), p10.2))
set_option maxRecDepth 8000 in
theorem gE_makeIfStale_h47_ok {L d : Nat} (hd : 5 ≤ d + 1) {v2 : Nat} {v3 : Int32} (i2 : isRw v2) : ∀ (q : Int32 × Int32 × mT) (x : (Int32 × Int32 × mT) ⊕ (mT)), gE_makeIfStale_h47 v2 v3 q = some x → ∀ o, sK (fun q => Ev (d + 1) 73 47 [(0, .ref 225), (2, .ref v2), (3, .int v3), (4, .int q.1), (5, .int q.2.1)] [] (uS L q.2.2) o) (fun r => Ev (d + 1) 73 98 [] [] (uS L r) o) x → Ev (d + 1) 73 47 [(0, .ref 225), (2, .ref v2), (3, .int v3), (4, .int q.1), (5, .int q.2.1)] [] (uS L q.2.2) o := by
  intro q x h o ho
  unfold gE_makeIfStale_h47 at h
  refine Ev.seg D_73 [(.iload 5, 2), (.sipush 3125, 3)] (by decide +kernel) (j := 0) (pc' := 52) (lv' := [(0, .ref 225), (2, .ref v2), (3, .int v3), (4, .int q.1), (5, .int q.2.1)]) (st' := [.int (3125 : Int32), .int q.2.1]) rfl ?_
  refine Ev.icmp D_73 (c := .ge) (off := 46) (by decide +kernel) (t := 98) rfl (fun c1 => ?_) (fun c1 => ?_)
  · have c1 : (3125 : Int32) ≤ q.2.1 := of_decide_eq_true c1
    rw [if_pos c1] at h
    cases h
    exact Ev.sub (lv' := []) subL_nil ho
  · have c1 : ¬ (3125 : Int32) ≤ q.2.1 := of_decide_eq_false c1
    rw [if_neg c1] at h
    refine Ev.seg D_73 [(.iload 4, 2)] (by decide +kernel) (j := 0) (pc' := 57) (lv' := [(0, .ref 225), (2, .ref v2), (3, .int v3), (4, .int q.1), (5, .int q.2.1)]) (st' := [.int q.1]) rfl ?_
    refine Ev.if_ D_73 (c := .eq) (off := 41) (by decide +kernel) (t := 98) rfl (fun c2 => ?_) (fun c2 => ?_)
    · have c2 : q.1 = 0 := of_decide_eq_true c2
      rw [if_pos c2] at h
      cases h
      exact Ev.sub (lv' := []) subL_nil ho
    · have c2 : ¬ q.1 = 0 := of_decide_eq_false c2
      rw [if_neg c2] at h
      refine Ev.seg D_73 [(.aload_n 0, 1)] (by decide +kernel) (j := 0) (pc' := 61) (lv' := [(0, .ref 225), (2, .ref v2), (3, .int v3), (4, .int q.1), (5, .int q.2.1)]) (st' := [.ref 225]) rfl ?_
      refine Ev.getR D_73 (by decide +kernel) F_5_27 T_5_1 (x := 121) (S_oR k_225 (by decide +kernel)) ?_
      refine Ev.seg D_73 [(.iload_n 3, 1)] (by decide +kernel) (j := 0) (pc' := 65) (lv' := [(0, .ref 225), (2, .ref v2), (3, .int v3), (4, .int q.1), (5, .int q.2.1)]) (st' := [.int v3, .ref 121]) rfl ?_
      obtain ⟨p4, e4, h⟩ := bd h
      refine Ev.callv D_73 E_5 (by decide +kernel) C_5_48 121 [.int v3] (r := []) rfl (gd_o k_121 (by decide)) rfl (Nat.le_of_ble_eq_true rfl) (Nat.le_of_ble_eq_true rfl) (gC_sail_ok (by omega) (by decide) e4) ?_
      refine Ev.seg D_73 [(.aload_n 2, 1), (.aload_n 0, 1)] (by decide +kernel) (j := 0) (pc' := 70) (lv' := [(0, .ref 225), (2, .ref v2), (3, .int v3), (4, .int q.1), (5, .int q.2.1)]) (st' := [.ref 225, .ref v2]) rfl ?_
      refine Ev.getR D_73 (by decide +kernel) F_5_27 T_5_1 (x := 121) (S_oR k_225 (by decide +kernel)) ?_
      obtain ⟨p6, e6, h⟩ := bd h
      refine Ev.callv D_73 E_68 (by decide +kernel) C_5_52 v2 [.ref 121] (r := []) rfl (gd_o (rw_o i2) (by decide)) rfl (Nat.le_of_ble_eq_true rfl) (Nat.le_of_ble_eq_true rfl) (gW_agreesWith_ok (by omega) i2 (by decide) e6) ?_
      obtain ⟨x7, g7, h⟩ := bd h
      have j7 : Ev (d + 1) 73 83 [(0, .ref 225), (2, .ref v2), (3, .int v3), (5, .int q.2.1)] [] (uS L x7) o := by
        clear g7
        refine Ev.seg D_73 [(.aload_n 0, 1)] (by decide +kernel) (j := 0) (pc' := 84) (lv' := [(0, .ref 225), (2, .ref v2), (3, .int v3), (5, .int q.2.1)]) (st' := [.ref 225]) rfl ?_
        refine Ev.getR D_73 (by decide +kernel) F_5_27 T_5_1 (x := 121) (S_oR k_225 (by decide +kernel)) ?_
        obtain ⟨p10, e10, h⟩ := bd h
        refine Ev.callv D_73 E_26 (by decide +kernel) C_5_59 121 [] (r := []) rfl (gd_o k_121 (by decide)) rfl (Nat.le_of_ble_eq_true rfl) (Nat.le_of_ble_eq_true rfl) (gC_nextLooks_ok (by omega) (by decide) e10) ?_
        refine Ev.seg D_73 [(.istore 4, 2), (.iinc 5 1, 3), (.goto (-48), 3)] (by decide +kernel) (j := 0) (pc' := 47) (lv' := [(5, .int (q.2.1 + (1 : Int32))), (4, .int p10.1), (0, .ref 225), (2, .ref v2), (3, .int v3)]) (st' := []) rfl ?_
        cases h
        exact Ev.sub (lv' := [(0, .ref 225), (2, .ref v2), (3, .int v3), (4, .int (p10.1)), (5, .int (q.2.1 + (1 : Int32)))]) (subL_cons rfl (subL_cons rfl (subL_cons rfl (subL_cons rfl (subL_cons rfl subL_nil))))) ho
      clear h
      refine Ev.if_ D_73 (c := .eq) (off := 7) (by decide +kernel) (t := 83) rfl (fun c7 => ?_) (fun c7 => ?_)
      · have c7 : p6 = 0 := of_decide_eq_true c7
        rw [if_pos c7] at g7
        cases g7
        exact Ev.sub2 j7 (subL_cons rfl (subL_cons rfl (subL_cons rfl (subL_cons rfl subL_nil))))
      · have c7 : ¬ p6 = 0 := of_decide_eq_false c7
        rw [if_neg c7] at g7
        refine Ev.seg D_73 [(.aload_n 0, 1)] (by decide +kernel) (j := 0) (pc' := 80) (lv' := [(0, .ref 225), (2, .ref v2), (3, .int v3), (4, .int q.1), (5, .int q.2.1)]) (st' := [.ref 225]) rfl ?_
        obtain ⟨p8, e8, g7⟩ := bd g7
        refine Ev.callv D_73 E_75 (by decide +kernel) C_5_56 225 [] (r := []) rfl (gd_o k_225 (by decide)) rfl (Nat.le_of_ble_eq_true rfl) (Nat.le_of_ble_eq_true rfl) (gE_tally_ok (by omega)  e8) ?_
        cases g7
        exact Ev.sub2 j7 (subL_cons rfl (subL_cons rfl (subL_cons rfl (subL_cons rfl subL_nil))))
theorem gE_makeIfStale_h47_w {L d : Nat} (hd : 5 ≤ d + 1) {v2 : Nat} {v3 : Int32} (i2 : isRw v2) : ∀ (n : Nat) (q : Int32 × Int32 × mT) (r : mT), wh n (gE_makeIfStale_h47 v2 v3) q = some r → ∀ o, (fun r => Ev (d + 1) 73 98 [] [] (uS L r) o) r → Ev (d + 1) 73 47 [(0, .ref 225), (2, .ref v2), (3, .int v3), (4, .int q.1), (5, .int q.2.1)] [] (uS L q.2.2) o :=
  fun n q r h o hc => wh_ev (E := fun (q : Int32 × Int32 × mT) o => Ev (d + 1) 73 47 [(0, .ref 225), (2, .ref v2), (3, .int v3), (4, .int q.1), (5, .int q.2.1)] [] (uS L q.2.2) o) (C := fun (r : mT) o => (fun r => Ev (d + 1) 73 98 [] [] (uS L r) o) r) (gE_makeIfStale_h47_ok hd i2 ) n q r h o hc
def gE_makeIfStale (v1 : Int32) (v2 : Nat) (s : mT) : Option (mT) :=
  if (s.1 225 2) = v1 then
    some (s)
  else
    (gE_forget (stI s 225 2 v1)).bind fun p4 =>
    (gW_lastStepTold v2 16 p4).bind fun p6 =>
    (gC_prepare 121 p4).bind fun p8 =>
    (gC_startLooks 121 p8).bind fun p10 =>
    (wh FU (gE_makeIfStale_h47 v2 p6) ((1 : Int32), (0 : Int32), p10)).bind fun x11 =>
    some (x11)
set_option maxRecDepth 8000 in
theorem gE_makeIfStale_ok {L d : Nat} (hd : 5 ≤ d) {v1 : Int32} {v2 : Nat} {s : mT} (i2 : isRw v2) {p : mT} (h : gE_makeIfStale v1 v2 s = some p) : Ev d 73 0 [(0, .ref 225), (1, .int v1), (2, .ref v2)] [] (uS L s) (none, uS L p) := by
  obtain ⟨d, rfl⟩ : ∃ e, d = e + 1 := ⟨d - 1, by omega⟩
  obtain ⟨o, ho⟩ : ∃ o : Option Value × mS, o = (none, uS L p) := ⟨_, rfl⟩
  rw [← ho]
  unfold gE_makeIfStale at h
  refine Ev.seg D_73 [(.aload_n 0, 1)] (by decide +kernel) (j := 0) (pc' := 1) (lv' := [(0, .ref 225), (1, .int v1), (2, .ref v2)]) (st' := [.ref 225]) rfl ?_
  refine Ev.getI D_73 (by decide +kernel) F_5_9 (Or.inl T_5_2) (S_oI k_225) ?_
  refine Ev.seg D_73 [(.iload_n 1, 1)] (by decide +kernel) (j := 0) (pc' := 5) (lv' := [(0, .ref 225), (1, .int v1), (2, .ref v2)]) (st' := [.int v1, .int (s.1 225 2)]) rfl ?_
  refine Ev.icmp D_73 (c := .ne) (off := 4) (by decide +kernel) (t := 9) rfl (fun c2 => ?_) (fun c2 => ?_)
  · have c2 : ¬ (s.1 225 2) = v1 := of_decide_eq_true c2
    rw [if_neg c2] at h
    refine Ev.seg D_73 [(.aload_n 0, 1), (.iload_n 1, 1)] (by decide +kernel) (j := 0) (pc' := 11) (lv' := [(0, .ref 225), (1, .int v1), (2, .ref v2)]) (st' := [.int v1, .ref 225]) rfl ?_
    refine Ev.putI D_73 (by decide +kernel) F_5_9 N_5_2 T_5_2 (S_pI k_225) ?_
    refine Ev.seg D_73 [(.aload_n 0, 1)] (by decide +kernel) (j := 0) (pc' := 15) (lv' := [(0, .ref 225), (1, .int v1), (2, .ref v2)]) (st' := [.ref 225]) rfl ?_
    obtain ⟨p4, e4, h⟩ := bd h
    refine Ev.callv D_73 E_74 (by decide +kernel) C_5_31 225 [] (r := []) rfl (gd_o k_225 (by decide)) rfl (Nat.le_of_ble_eq_true rfl) (Nat.le_of_ble_eq_true rfl) (gE_forget_ok (by omega)  e4) ?_
    refine Ev.seg D_73 [(.aload_n 2, 1), (.aload_n 0, 1)] (by decide +kernel) (j := 0) (pc' := 20) (lv' := [(0, .ref 225), (1, .int v1), (2, .ref v2)]) (st' := [.ref 225, .ref v2]) rfl ?_
    refine Ev.getR D_73 (by decide +kernel) F_5_23 T_5_0 (x := 16) (S_oR k_225 (by decide +kernel)) ?_
    obtain ⟨p6, e6, h⟩ := bd h
    refine Ev.callv D_73 E_67 (by decide +kernel) C_5_34 v2 [.ref 16] (r := []) rfl (gd_o (rw_o i2) (by decide)) rfl (Nat.le_of_ble_eq_true rfl) (Nat.le_of_ble_eq_true rfl) (gW_lastStepTold_ok (by omega) i2 (by decide) e6) ?_
    refine Ev.seg D_73 [(.istore_n 3, 1), (.aload_n 0, 1)] (by decide +kernel) (j := 0) (pc' := 28) (lv' := [(3, .int p6), (0, .ref 225), (1, .int v1), (2, .ref v2)]) (st' := [.ref 225]) rfl ?_
    refine Ev.getR D_73 (by decide +kernel) F_5_27 T_5_1 (x := 121) (S_oR k_225 (by decide +kernel)) ?_
    obtain ⟨p8, e8, h⟩ := bd h
    refine Ev.callv D_73 E_1 (by decide +kernel) C_5_40 121 [] (r := []) rfl (gd_o k_121 (by decide)) rfl (Nat.le_of_ble_eq_true rfl) (Nat.le_of_ble_eq_true rfl) (gC_prepare_ok (by omega) (by decide) e8) ?_
    refine Ev.seg D_73 [(.aload_n 0, 1)] (by decide +kernel) (j := 0) (pc' := 35) (lv' := [(3, .int p6), (0, .ref 225), (1, .int v1), (2, .ref v2)]) (st' := [.ref 225]) rfl ?_
    refine Ev.getR D_73 (by decide +kernel) F_5_27 T_5_1 (x := 121) (S_oR k_225 (by decide +kernel)) ?_
    obtain ⟨p10, e10, h⟩ := bd h
    refine Ev.callv D_73 E_25 (by decide +kernel) C_5_45 121 [] (r := []) rfl (gd_o k_121 (by decide)) rfl (Nat.le_of_ble_eq_true rfl) (Nat.le_of_ble_eq_true rfl) (gC_startLooks_ok (by omega) (by decide) e10) ?_
    refine Ev.seg D_73 [(.iconst 1, 1), (.istore 4, 2), (.iconst 0, 1), (.istore 5, 2)] (by decide +kernel) (j := 0) (pc' := 47) (lv' := [(5, .int (0 : Int32)), (4, .int (1 : Int32)), (3, .int p6), (0, .ref 225), (1, .int v1), (2, .ref v2)]) (st' := []) rfl ?_
    obtain ⟨x11, w11, h⟩ := bd h
    have j11 : Ev (d + 1) 73 98 [] [] (uS L x11) o := by
      clear w11
      cases h
      obtain rfl : o = _ := ho
      exact Ev.vret D_73 (by decide +kernel)
    exact Ev.sub (lv' := [(0, .ref 225), (2, .ref v2), (3, .int p6), (4, .int (1 : Int32)), (5, .int (0 : Int32))]) (subL_cons rfl (subL_cons rfl (subL_cons rfl (subL_cons rfl (subL_cons rfl subL_nil))))) (gE_makeIfStale_h47_w hd i2  _ _ _ w11 _ j11)
  · have c2 : (s.1 225 2) = v1 := Decidable.of_not_not (of_decide_eq_false c2)
    rw [if_pos c2] at h
    cases h
    obtain rfl : o = _ := ho
    exact Ev.vret D_73 (by decide +kernel)
/- Seen boatsOf: 76 -/
def gE_boatsOf_h4 (v1 : Int32) (s : mT) (q : Int32 × Int32) : Option ((Int32 × Int32) ⊕ (Int32)) :=
  if (5 : Int32) ≤ q.2 then
    some (.inr q.1)
  else
    if ¬ (v1 < 0 ∨ 5 ≤ v1.toNatClampNeg) then
      (rdI (s.1 (227 + v1.toNatClampNeg)) 5 q.2).bind fun x4 =>
      (
        if x4 ≤ 0 then
          some (q.1)
        else
          some (q.1 ||| ((1 : Int32) <<< (q.2 &&& 31))) : Option (Int32)).bind fun x5 =>
      some (.inl (x5, q.2 + (1 : Int32)))
    else none
set_option maxRecDepth 8000 in
theorem gE_boatsOf_h4_ok {L d : Nat} (hd : 1 ≤ d + 1) {v1 : Int32} {s : mT} : ∀ (q : Int32 × Int32) (x : (Int32 × Int32) ⊕ (Int32)), gE_boatsOf_h4 v1 s q = some x → ∀ o, sK (fun q => Ev (d + 1) 76 4 [(0, .ref 225), (1, .int v1), (2, .int q.1), (3, .int q.2)] [] (uS L s) o) (fun r => Ev (d + 1) 76 32 [(2, .int r)] [] (uS L s) o) x → Ev (d + 1) 76 4 [(0, .ref 225), (1, .int v1), (2, .int q.1), (3, .int q.2)] [] (uS L s) o := by
  intro q x h o ho
  unfold gE_boatsOf_h4 at h
  refine Ev.seg D_76 [(.iload_n 3, 1), (.iconst 5, 1)] (by decide +kernel) (j := 0) (pc' := 6) (lv' := [(0, .ref 225), (1, .int v1), (2, .int q.1), (3, .int q.2)]) (st' := [.int (5 : Int32), .int q.2]) rfl ?_
  refine Ev.icmp D_76 (c := .ge) (off := 26) (by decide +kernel) (t := 32) rfl (fun c1 => ?_) (fun c1 => ?_)
  · have c1 : (5 : Int32) ≤ q.2 := of_decide_eq_true c1
    rw [if_pos c1] at h
    cases h
    exact Ev.sub (lv' := [(2, .int q.1)]) (subL_cons rfl subL_nil) ho
  · have c1 : ¬ (5 : Int32) ≤ q.2 := of_decide_eq_false c1
    rw [if_neg c1] at h
    refine Ev.seg D_76 [(.aload_n 0, 1)] (by decide +kernel) (j := 0) (pc' := 10) (lv' := [(0, .ref 225), (1, .int v1), (2, .int q.1), (3, .int q.2)]) (st' := [.ref 225]) rfl ?_
    refine Ev.getR D_76 (by decide +kernel) F_5_20 T_5_4 (x := 226) (S_oR k_225 (by decide +kernel)) ?_
    refine Ev.seg D_76 [(.iload_n 1, 1)] (by decide +kernel) (j := 0) (pc' := 14) (lv' := [(0, .ref 225), (1, .int v1), (2, .int q.1), (3, .int q.2)]) (st' := [.int v1, .ref 226]) rfl ?_
    by_cases b14 : ¬ (v1 < 0 ∨ 5 ≤ v1.toNatClampNeg)
    rotate_left
    · rw [if_neg b14] at h; cases h
    rw [if_pos b14] at h
    refine Ev.aald D_76 (by decide +kernel) (kd := 26) ⟨by decide, by decide⟩ (x := (227 + v1.toNatClampNeg)) (S_aR k_226 b14 (lit_aa (e := 227) (n := 5) (by decide +kernel) b14)) ?_
    refine Ev.seg D_76 [(.iload_n 3, 1)] (by decide +kernel) (j := 0) (pc' := 16) (lv' := [(0, .ref 225), (1, .int v1), (2, .int q.1), (3, .int q.2)]) (st' := [.int q.2, .ref (227 + v1.toNatClampNeg)]) rfl ?_
    obtain ⟨x4, e4, h⟩ := bd h
    refine Ev.iald D_76 (by decide +kernel) (S_aI (lit_row (e := 227) (n := 5) (by decide +kernel) b14) e4) ?_
    obtain ⟨x5, g5, h⟩ := bd h
    have j5 : Ev (d + 1) 76 26 [(0, .ref 225), (1, .int v1), (2, .int x5), (3, .int q.2)] [] (uS L s) o := by
      clear g5
      refine Ev.seg D_76 [(.iinc 3 1, 3), (.goto (-25), 3)] (by decide +kernel) (j := 0) (pc' := 4) (lv' := [(3, .int (q.2 + (1 : Int32))), (0, .ref 225), (1, .int v1), (2, .int x5)]) (st' := []) rfl ?_
      cases h
      exact Ev.sub (lv' := [(0, .ref 225), (1, .int v1), (2, .int (x5)), (3, .int (q.2 + (1 : Int32)))]) (subL_cons rfl (subL_cons rfl (subL_cons rfl (subL_cons rfl subL_nil)))) ho
    clear h
    refine Ev.if_ D_76 (c := .le) (off := 9) (by decide +kernel) (t := 26) rfl (fun c5 => ?_) (fun c5 => ?_)
    · have c5 : x4 ≤ 0 := of_decide_eq_true c5
      rw [if_pos c5] at g5
      cases g5
      exact Ev.sub2 j5 (subL_cons rfl (subL_cons rfl (subL_cons rfl (subL_cons rfl subL_nil))))
    · have c5 : ¬ x4 ≤ 0 := of_decide_eq_false c5
      rw [if_neg c5] at g5
      refine Ev.seg D_76 [(.iload_n 2, 1), (.iconst 1, 1), (.iload_n 3, 1), (.ishl, 1), (.ior, 1), (.istore_n 2, 1)] (by decide +kernel) (j := 0) (pc' := 26) (lv' := [(2, .int (q.1 ||| ((1 : Int32) <<< (q.2 &&& 31)))), (0, .ref 225), (1, .int v1), (3, .int q.2)]) (st' := []) rfl ?_
      cases g5
      exact Ev.sub2 j5 (subL_cons rfl (subL_cons rfl (subL_cons rfl (subL_cons rfl subL_nil))))
theorem gE_boatsOf_h4_w {L d : Nat} (hd : 1 ≤ d + 1) {v1 : Int32} {s : mT} : ∀ (n : Nat) (q : Int32 × Int32) (r : Int32), wh n (gE_boatsOf_h4 v1 s) q = some r → ∀ o, (fun r => Ev (d + 1) 76 32 [(2, .int r)] [] (uS L s) o) r → Ev (d + 1) 76 4 [(0, .ref 225), (1, .int v1), (2, .int q.1), (3, .int q.2)] [] (uS L s) o :=
  fun n q r h o hc => wh_ev (E := fun (q : Int32 × Int32) o => Ev (d + 1) 76 4 [(0, .ref 225), (1, .int v1), (2, .int q.1), (3, .int q.2)] [] (uS L s) o) (C := fun (r : Int32) o => (fun r => Ev (d + 1) 76 32 [(2, .int r)] [] (uS L s) o) r) (gE_boatsOf_h4_ok hd  ) n q r h o hc
def gE_boatsOf (v1 : Int32) (s : mT) : Option (Int32) :=
  (wh FU (gE_boatsOf_h4 v1 s) ((0 : Int32), (0 : Int32))).bind fun x6 =>
  some (x6)
set_option maxRecDepth 8000 in
theorem gE_boatsOf_ok {L d : Nat} (hd : 1 ≤ d) {v1 : Int32} {s : mT} {p : Int32} (h : gE_boatsOf v1 s = some p) : Ev d 76 0 [(0, .ref 225), (1, .int v1)] [] (uS L s) (some (.int p), uS L s) := by
  obtain ⟨d, rfl⟩ : ∃ e, d = e + 1 := ⟨d - 1, by omega⟩
  obtain ⟨o, ho⟩ : ∃ o : Option Value × mS, o = (some (.int p), uS L s) := ⟨_, rfl⟩
  rw [← ho]
  unfold gE_boatsOf at h
  refine Ev.seg D_76 [(.iconst 0, 1), (.istore_n 2, 1), (.iconst 0, 1), (.istore_n 3, 1)] (by decide +kernel) (j := 0) (pc' := 4) (lv' := [(3, .int (0 : Int32)), (2, .int (0 : Int32)), (0, .ref 225), (1, .int v1)]) (st' := []) rfl ?_
  obtain ⟨x6, w6, h⟩ := bd h
  have j6 : Ev (d + 1) 76 32 [(2, .int x6)] [] (uS L s) o := by
    clear w6
    refine Ev.seg D_76 [(.iload_n 2, 1)] (by decide +kernel) (j := 0) (pc' := 33) (lv' := [(2, .int x6)]) (st' := [.int x6]) rfl ?_
    cases h
    obtain rfl : o = _ := ho
    exact Ev.iret D_76 (by decide +kernel)
  exact Ev.sub (lv' := [(0, .ref 225), (1, .int v1), (2, .int (0 : Int32)), (3, .int (0 : Int32))]) (subL_cons rfl (subL_cons rfl (subL_cons rfl (subL_cons rfl subL_nil)))) (gE_boatsOf_h4_w hd   _ _ _ w6 _ j6)
/- Seen worstOf: 78 -/
def gE_worstOf_h4 (v1 : Int32) (s : mT) (q : Int32 × Int32) : Option ((Int32 × Int32) ⊕ (Int32)) :=
  if (5 : Int32) ≤ q.2 then
    some (.inr q.1)
  else
    if ¬ (v1 < 0 ∨ 5 ≤ v1.toNatClampNeg) then
      (rdI (s.1 (227 + v1.toNatClampNeg)) 5 q.2).bind fun x4 =>
      some (.inl (imax q.1 x4, q.2 + (1 : Int32)))
    else none
set_option maxRecDepth 8000 in
theorem gE_worstOf_h4_ok {L d : Nat} (hd : 1 ≤ d + 1) {v1 : Int32} {s : mT} : ∀ (q : Int32 × Int32) (x : (Int32 × Int32) ⊕ (Int32)), gE_worstOf_h4 v1 s q = some x → ∀ o, sK (fun q => Ev (d + 1) 78 4 [(0, .ref 225), (1, .int v1), (2, .int q.1), (3, .int q.2)] [] (uS L s) o) (fun r => Ev (d + 1) 78 28 [(2, .int r)] [] (uS L s) o) x → Ev (d + 1) 78 4 [(0, .ref 225), (1, .int v1), (2, .int q.1), (3, .int q.2)] [] (uS L s) o := by
  intro q x h o ho
  unfold gE_worstOf_h4 at h
  refine Ev.seg D_78 [(.iload_n 3, 1), (.iconst 5, 1)] (by decide +kernel) (j := 0) (pc' := 6) (lv' := [(0, .ref 225), (1, .int v1), (2, .int q.1), (3, .int q.2)]) (st' := [.int (5 : Int32), .int q.2]) rfl ?_
  refine Ev.icmp D_78 (c := .ge) (off := 22) (by decide +kernel) (t := 28) rfl (fun c1 => ?_) (fun c1 => ?_)
  · have c1 : (5 : Int32) ≤ q.2 := of_decide_eq_true c1
    rw [if_pos c1] at h
    cases h
    exact Ev.sub (lv' := [(2, .int q.1)]) (subL_cons rfl subL_nil) ho
  · have c1 : ¬ (5 : Int32) ≤ q.2 := of_decide_eq_false c1
    rw [if_neg c1] at h
    refine Ev.seg D_78 [(.iload_n 2, 1), (.aload_n 0, 1)] (by decide +kernel) (j := 0) (pc' := 11) (lv' := [(0, .ref 225), (1, .int v1), (2, .int q.1), (3, .int q.2)]) (st' := [.ref 225, .int q.1]) rfl ?_
    refine Ev.getR D_78 (by decide +kernel) F_5_20 T_5_4 (x := 226) (S_oR k_225 (by decide +kernel)) ?_
    refine Ev.seg D_78 [(.iload_n 1, 1)] (by decide +kernel) (j := 0) (pc' := 15) (lv' := [(0, .ref 225), (1, .int v1), (2, .int q.1), (3, .int q.2)]) (st' := [.int v1, .ref 226, .int q.1]) rfl ?_
    by_cases b15 : ¬ (v1 < 0 ∨ 5 ≤ v1.toNatClampNeg)
    rotate_left
    · rw [if_neg b15] at h; cases h
    rw [if_pos b15] at h
    refine Ev.aald D_78 (by decide +kernel) (kd := 26) ⟨by decide, by decide⟩ (x := (227 + v1.toNatClampNeg)) (S_aR k_226 b15 (lit_aa (e := 227) (n := 5) (by decide +kernel) b15)) ?_
    refine Ev.seg D_78 [(.iload_n 3, 1)] (by decide +kernel) (j := 0) (pc' := 17) (lv' := [(0, .ref 225), (1, .int v1), (2, .int q.1), (3, .int q.2)]) (st' := [.int q.2, .ref (227 + v1.toNatClampNeg), .int q.1]) rfl ?_
    obtain ⟨x4, e4, h⟩ := bd h
    refine Ev.iald D_78 (by decide +kernel) (S_aI (lit_row (e := 227) (n := 5) (by decide +kernel) b15) e4) ?_
    refine Ev.max D_78 (by decide +kernel) (Nat.succ_pos _) C_5_72 (Nat.le_of_ble_eq_true rfl) ?_
    refine Ev.seg D_78 [(.istore_n 2, 1), (.iinc 3 1, 3), (.goto (-21), 3)] (by decide +kernel) (j := 0) (pc' := 4) (lv' := [(3, .int (q.2 + (1 : Int32))), (2, .int (imax q.1 x4)), (0, .ref 225), (1, .int v1)]) (st' := []) rfl ?_
    cases h
    exact Ev.sub (lv' := [(0, .ref 225), (1, .int v1), (2, .int (imax q.1 x4)), (3, .int (q.2 + (1 : Int32)))]) (subL_cons rfl (subL_cons rfl (subL_cons rfl (subL_cons rfl subL_nil)))) ho
theorem gE_worstOf_h4_w {L d : Nat} (hd : 1 ≤ d + 1) {v1 : Int32} {s : mT} : ∀ (n : Nat) (q : Int32 × Int32) (r : Int32), wh n (gE_worstOf_h4 v1 s) q = some r → ∀ o, (fun r => Ev (d + 1) 78 28 [(2, .int r)] [] (uS L s) o) r → Ev (d + 1) 78 4 [(0, .ref 225), (1, .int v1), (2, .int q.1), (3, .int q.2)] [] (uS L s) o :=
  fun n q r h o hc => wh_ev (E := fun (q : Int32 × Int32) o => Ev (d + 1) 78 4 [(0, .ref 225), (1, .int v1), (2, .int q.1), (3, .int q.2)] [] (uS L s) o) (C := fun (r : Int32) o => (fun r => Ev (d + 1) 78 28 [(2, .int r)] [] (uS L s) o) r) (gE_worstOf_h4_ok hd  ) n q r h o hc
def gE_worstOf (v1 : Int32) (s : mT) : Option (Int32) :=
  (wh FU (gE_worstOf_h4 v1 s) ((0 : Int32), (0 : Int32))).bind fun x6 =>
  some (x6)
set_option maxRecDepth 8000 in
theorem gE_worstOf_ok {L d : Nat} (hd : 1 ≤ d) {v1 : Int32} {s : mT} {p : Int32} (h : gE_worstOf v1 s = some p) : Ev d 78 0 [(0, .ref 225), (1, .int v1)] [] (uS L s) (some (.int p), uS L s) := by
  obtain ⟨d, rfl⟩ : ∃ e, d = e + 1 := ⟨d - 1, by omega⟩
  obtain ⟨o, ho⟩ : ∃ o : Option Value × mS, o = (some (.int p), uS L s) := ⟨_, rfl⟩
  rw [← ho]
  unfold gE_worstOf at h
  refine Ev.seg D_78 [(.iconst 0, 1), (.istore_n 2, 1), (.iconst 0, 1), (.istore_n 3, 1)] (by decide +kernel) (j := 0) (pc' := 4) (lv' := [(3, .int (0 : Int32)), (2, .int (0 : Int32)), (0, .ref 225), (1, .int v1)]) (st' := []) rfl ?_
  obtain ⟨x6, w6, h⟩ := bd h
  have j6 : Ev (d + 1) 78 28 [(2, .int x6)] [] (uS L s) o := by
    clear w6
    refine Ev.seg D_78 [(.iload_n 2, 1)] (by decide +kernel) (j := 0) (pc' := 29) (lv' := [(2, .int x6)]) (st' := [.int x6]) rfl ?_
    cases h
    obtain rfl : o = _ := ho
    exact Ev.iret D_78 (by decide +kernel)
  exact Ev.sub (lv' := [(0, .ref 225), (1, .int v1), (2, .int (0 : Int32)), (3, .int (0 : Int32))]) (subL_cons rfl (subL_cons rfl (subL_cons rfl (subL_cons rfl subL_nil)))) (gE_worstOf_h4_w hd   _ _ _ w6 _ j6)
/- Seen bestAsked: 77 -/
def gE_bestAsked_h9 (s : mT) (q : Int32 × Int32 × Int32) : Option ((Int32 × Int32 × Int32) ⊕ (Int32)) :=
  if (s.1 16 6) ≤ q.2.2 then
    some (.inr q.1)
  else
    (gE_worstOf q.2.2 s).bind fun p4 =>
    (
      if q.2.1 ≤ p4 then
        some ((q.1, q.2.1))
      else
        some ((q.2.2, p4)) : Option (Int32 × Int32)).bind fun x5 =>
    some (.inl (x5.1, x5.2, q.2.2 + (1 : Int32)))
set_option maxRecDepth 8000 in
theorem gE_bestAsked_h9_ok {L d : Nat} (hd : 2 ≤ d + 1) {s : mT} : ∀ (q : Int32 × Int32 × Int32) (x : (Int32 × Int32 × Int32) ⊕ (Int32)), gE_bestAsked_h9 s q = some x → ∀ o, sK (fun q => Ev (d + 1) 77 9 [(0, .ref 225), (1, .int q.1), (2, .int q.2.1), (3, .int q.2.2)] [] (uS L s) o) (fun r => Ev (d + 1) 77 44 [(1, .int r)] [] (uS L s) o) x → Ev (d + 1) 77 9 [(0, .ref 225), (1, .int q.1), (2, .int q.2.1), (3, .int q.2.2)] [] (uS L s) o := by
  intro q x h o ho
  unfold gE_bestAsked_h9 at h
  refine Ev.seg D_77 [(.iload_n 3, 1), (.aload_n 0, 1)] (by decide +kernel) (j := 0) (pc' := 11) (lv' := [(0, .ref 225), (1, .int q.1), (2, .int q.2.1), (3, .int q.2.2)]) (st' := [.ref 225, .int q.2.2]) rfl ?_
  refine Ev.getR D_77 (by decide +kernel) F_5_23 T_5_0 (x := 16) (S_oR k_225 (by decide +kernel)) ?_
  refine Ev.getI D_77 (by decide +kernel) F_5_63 (Or.inl T_2_6) (S_oI k_16) ?_
  refine Ev.icmp D_77 (c := .ge) (off := 27) (by decide +kernel) (t := 44) rfl (fun c3 => ?_) (fun c3 => ?_)
  · have c3 : (s.1 16 6) ≤ q.2.2 := of_decide_eq_true c3
    rw [if_pos c3] at h
    cases h
    exact Ev.sub (lv' := [(1, .int q.1)]) (subL_cons rfl subL_nil) ho
  · have c3 : ¬ (s.1 16 6) ≤ q.2.2 := of_decide_eq_false c3
    rw [if_neg c3] at h
    refine Ev.seg D_77 [(.aload_n 0, 1), (.iload_n 3, 1)] (by decide +kernel) (j := 0) (pc' := 22) (lv' := [(0, .ref 225), (1, .int q.1), (2, .int q.2.1), (3, .int q.2.2)]) (st' := [.int q.2.2, .ref 225]) rfl ?_
    obtain ⟨p4, e4, h⟩ := bd h
    refine Ev.callv D_77 E_78 (by decide +kernel) C_5_78 225 [.int q.2.2] (r := []) rfl (gd_o k_225 (by decide)) rfl (Nat.le_of_ble_eq_true rfl) (Nat.le_of_ble_eq_true rfl) (gE_worstOf_ok (by omega)  e4) ?_
    refine Ev.seg D_77 [(.istore 4, 2), (.iload 4, 2), (.iload_n 2, 1)] (by decide +kernel) (j := 0) (pc' := 30) (lv' := [(4, .int p4), (0, .ref 225), (1, .int q.1), (2, .int q.2.1), (3, .int q.2.2)]) (st' := [.int q.2.1, .int p4]) rfl ?_
    obtain ⟨x5, g5, h⟩ := bd h
    have j5 : Ev (d + 1) 77 38 [(0, .ref 225), (1, .int x5.1), (2, .int x5.2), (3, .int q.2.2)] [] (uS L s) o := by
      clear g5
      refine Ev.seg D_77 [(.iinc 3 1, 3), (.goto (-32), 3)] (by decide +kernel) (j := 0) (pc' := 9) (lv' := [(3, .int (q.2.2 + (1 : Int32))), (0, .ref 225), (1, .int x5.1), (2, .int x5.2)]) (st' := []) rfl ?_
      cases h
      exact Ev.sub (lv' := [(0, .ref 225), (1, .int (x5.1)), (2, .int (x5.2)), (3, .int (q.2.2 + (1 : Int32)))]) (subL_cons rfl (subL_cons rfl (subL_cons rfl (subL_cons rfl subL_nil)))) ho
    clear h
    refine Ev.icmp D_77 (c := .ge) (off := 8) (by decide +kernel) (t := 38) rfl (fun c5 => ?_) (fun c5 => ?_)
    · have c5 : q.2.1 ≤ p4 := of_decide_eq_true c5
      rw [if_pos c5] at g5
      cases g5
      exact Ev.sub2 j5 (subL_cons rfl (subL_cons rfl (subL_cons rfl (subL_cons rfl subL_nil))))
    · have c5 : ¬ q.2.1 ≤ p4 := of_decide_eq_false c5
      rw [if_neg c5] at g5
      refine Ev.seg D_77 [(.iload_n 3, 1), (.istore_n 1, 1), (.iload 4, 2), (.istore_n 2, 1)] (by decide +kernel) (j := 0) (pc' := 38) (lv' := [(2, .int p4), (1, .int q.2.2), (4, .int p4), (0, .ref 225), (3, .int q.2.2)]) (st' := []) rfl ?_
      cases g5
      exact Ev.sub2 j5 (subL_cons rfl (subL_cons rfl (subL_cons rfl (subL_cons rfl subL_nil))))
theorem gE_bestAsked_h9_w {L d : Nat} (hd : 2 ≤ d + 1) {s : mT} : ∀ (n : Nat) (q : Int32 × Int32 × Int32) (r : Int32), wh n (gE_bestAsked_h9 s) q = some r → ∀ o, (fun r => Ev (d + 1) 77 44 [(1, .int r)] [] (uS L s) o) r → Ev (d + 1) 77 9 [(0, .ref 225), (1, .int q.1), (2, .int q.2.1), (3, .int q.2.2)] [] (uS L s) o :=
  fun n q r h o hc => wh_ev (E := fun (q : Int32 × Int32 × Int32) o => Ev (d + 1) 77 9 [(0, .ref 225), (1, .int q.1), (2, .int q.2.1), (3, .int q.2.2)] [] (uS L s) o) (C := fun (r : Int32) o => (fun r => Ev (d + 1) 77 44 [(1, .int r)] [] (uS L s) o) r) (gE_bestAsked_h9_ok hd  ) n q r h o hc
def gE_bestAsked (s : mT) : Option (Int32) :=
  (wh FU (gE_bestAsked_h9 s) ((-1 : Int32), s.1 225 3, (0 : Int32))).bind fun x6 =>
  some (x6)
set_option maxRecDepth 8000 in
theorem gE_bestAsked_ok {L d : Nat} (hd : 2 ≤ d) {s : mT} {p : Int32} (h : gE_bestAsked s = some p) : Ev d 77 0 [(0, .ref 225)] [] (uS L s) (some (.int p), uS L s) := by
  obtain ⟨d, rfl⟩ : ∃ e, d = e + 1 := ⟨d - 1, by omega⟩
  obtain ⟨o, ho⟩ : ∃ o : Option Value × mS, o = (some (.int p), uS L s) := ⟨_, rfl⟩
  rw [← ho]
  unfold gE_bestAsked at h
  refine Ev.seg D_77 [(.iconst (-1), 1), (.istore_n 1, 1), (.aload_n 0, 1)] (by decide +kernel) (j := 0) (pc' := 3) (lv' := [(1, .int (-1 : Int32)), (0, .ref 225)]) (st' := [.ref 225]) rfl ?_
  refine Ev.getI D_77 (by decide +kernel) F_5_15 (Or.inl T_5_3) (S_oI k_225) ?_
  refine Ev.seg D_77 [(.istore_n 2, 1), (.iconst 0, 1), (.istore_n 3, 1)] (by decide +kernel) (j := 0) (pc' := 9) (lv' := [(3, .int (0 : Int32)), (2, .int (s.1 225 3)), (1, .int (-1 : Int32)), (0, .ref 225)]) (st' := []) rfl ?_
  obtain ⟨x6, w6, h⟩ := bd h
  have j6 : Ev (d + 1) 77 44 [(1, .int x6)] [] (uS L s) o := by
    clear w6
    refine Ev.seg D_77 [(.iload_n 1, 1)] (by decide +kernel) (j := 0) (pc' := 45) (lv' := [(1, .int x6)]) (st' := [.int x6]) rfl ?_
    cases h
    obtain rfl : o = _ := ho
    exact Ev.iret D_77 (by decide +kernel)
  exact Ev.sub (lv' := [(0, .ref 225), (1, .int (-1 : Int32)), (2, .int (s.1 225 3)), (3, .int (0 : Int32))]) (subL_cons rfl (subL_cons rfl (subL_cons rfl (subL_cons rfl subL_nil)))) (gE_bestAsked_h9_w hd   _ _ _ w6 _ j6)
/- Shares makeFor: 80 -/
def gH_makeFor_h2 (v1 : Int32) (q : Int32 × mT) : Option ((Int32 × mT) ⊕ (mT)) :=
  if ((1 : Int32) <<< ((q.2.1 16 6) &&& 31)) ≤ q.1 then
    some (.inr q.2)
  else
    (gC_prepare 121 q.2).bind fun p5 =>
    (gC_hush 121 (q.1 ^^^ (-1 : Int32)) p5).bind fun p7 =>
    (gC_sail 121 (p7.1 16 0) p7).bind fun p11 =>
    if ¬ ((p11.1 16 0) < 0 ∨ 21 ≤ (p11.1 16 0).toNatClampNeg) then
      (rdI (p11.1 (149 + (p11.1 16 0).toNatClampNeg)) 5 v1).bind fun x18 =>
      if ¬ ((0 : Int32) < 0 ∨ 21 ≤ (0 : Int32).toNatClampNeg) then
        (rdI (p11.1 (149 + (0 : Int32).toNatClampNeg)) 5 v1).bind fun x22 =>
        (wrI p11 233 32 q.1 (x18 - x22)).bind fun s23 =>
        some (.inl (q.1 + (1 : Int32), s23))
      else none
    else none
set_option maxRecDepth 8000 in
theorem gH_makeFor_h2_ok {L d : Nat} (hd : 5 ≤ d + 1) {v1 : Int32} : ∀ (q : Int32 × mT) (x : (Int32 × mT) ⊕ (mT)), gH_makeFor_h2 v1 q = some x → ∀ o, sK (fun q => Ev (d + 1) 80 2 [(0, .ref 232), (1, .int v1), (2, .int q.1)] [] (uS L q.2) o) (fun r => Ev (d + 1) 80 87 [] [] (uS L r) o) x → Ev (d + 1) 80 2 [(0, .ref 232), (1, .int v1), (2, .int q.1)] [] (uS L q.2) o := by
  intro q x h o ho
  unfold gH_makeFor_h2 at h
  refine Ev.seg D_80 [(.iload_n 2, 1), (.iconst 1, 1), (.aload_n 0, 1)] (by decide +kernel) (j := 0) (pc' := 5) (lv' := [(0, .ref 232), (1, .int v1), (2, .int q.1)]) (st' := [.ref 232, .int (1 : Int32), .int q.1]) rfl ?_
  refine Ev.getR D_80 (by decide +kernel) F_6_15 T_6_0 (x := 16) (S_oR k_232 (by decide +kernel)) ?_
  refine Ev.getI D_80 (by decide +kernel) F_6_23 (Or.inl T_2_6) (S_oI k_16) ?_
  refine Ev.seg D_80 [(.ishl, 1)] (by decide +kernel) (j := 0) (pc' := 12) (lv' := [(0, .ref 232), (1, .int v1), (2, .int q.1)]) (st' := [.int ((1 : Int32) <<< ((q.2.1 16 6) &&& 31)), .int q.1]) rfl ?_
  refine Ev.icmp D_80 (c := .ge) (off := 75) (by decide +kernel) (t := 87) rfl (fun c3 => ?_) (fun c3 => ?_)
  · have c3 : ((1 : Int32) <<< ((q.2.1 16 6) &&& 31)) ≤ q.1 := of_decide_eq_true c3
    rw [if_pos c3] at h
    cases h
    exact Ev.sub (lv' := []) subL_nil ho
  · have c3 : ¬ ((1 : Int32) <<< ((q.2.1 16 6) &&& 31)) ≤ q.1 := of_decide_eq_false c3
    rw [if_neg c3] at h
    refine Ev.seg D_80 [(.aload_n 0, 1)] (by decide +kernel) (j := 0) (pc' := 16) (lv' := [(0, .ref 232), (1, .int v1), (2, .int q.1)]) (st' := [.ref 232]) rfl ?_
    refine Ev.getR D_80 (by decide +kernel) F_6_19 T_6_1 (x := 121) (S_oR k_232 (by decide +kernel)) ?_
    obtain ⟨p5, e5, h⟩ := bd h
    refine Ev.callv D_80 E_1 (by decide +kernel) C_6_29 121 [] (r := []) rfl (gd_o k_121 (by decide)) rfl (Nat.le_of_ble_eq_true rfl) (Nat.le_of_ble_eq_true rfl) (gC_prepare_ok (by omega) (by decide) e5) ?_
    refine Ev.seg D_80 [(.aload_n 0, 1)] (by decide +kernel) (j := 0) (pc' := 23) (lv' := [(0, .ref 232), (1, .int v1), (2, .int q.1)]) (st' := [.ref 232]) rfl ?_
    refine Ev.getR D_80 (by decide +kernel) F_6_19 T_6_1 (x := 121) (S_oR k_232 (by decide +kernel)) ?_
    refine Ev.seg D_80 [(.iload_n 2, 1), (.iconst (-1), 1), (.ixor, 1)] (by decide +kernel) (j := 0) (pc' := 29) (lv' := [(0, .ref 232), (1, .int v1), (2, .int q.1)]) (st' := [.int (q.1 ^^^ (-1 : Int32)), .ref 121]) rfl ?_
    obtain ⟨p7, e7, h⟩ := bd h
    refine Ev.callv D_80 E_24 (by decide +kernel) C_6_34 121 [.int (q.1 ^^^ (-1 : Int32))] (r := []) rfl (gd_o k_121 (by decide)) rfl (Nat.le_of_ble_eq_true rfl) (Nat.le_of_ble_eq_true rfl) (gC_hush_ok (by omega) (by decide) e7) ?_
    refine Ev.seg D_80 [(.aload_n 0, 1)] (by decide +kernel) (j := 0) (pc' := 33) (lv' := [(0, .ref 232), (1, .int v1), (2, .int q.1)]) (st' := [.ref 232]) rfl ?_
    refine Ev.getR D_80 (by decide +kernel) F_6_19 T_6_1 (x := 121) (S_oR k_232 (by decide +kernel)) ?_
    refine Ev.seg D_80 [(.aload_n 0, 1)] (by decide +kernel) (j := 0) (pc' := 37) (lv' := [(0, .ref 232), (1, .int v1), (2, .int q.1)]) (st' := [.ref 232, .ref 121]) rfl ?_
    refine Ev.getR D_80 (by decide +kernel) F_6_15 T_6_0 (x := 16) (S_oR k_232 (by decide +kernel)) ?_
    refine Ev.getI D_80 (by decide +kernel) F_6_38 (Or.inl T_2_0) (S_oI k_16) ?_
    obtain ⟨p11, e11, h⟩ := bd h
    refine Ev.callv D_80 E_5 (by decide +kernel) C_6_41 121 [.int (p7.1 16 0)] (r := []) rfl (gd_o k_121 (by decide)) rfl (Nat.le_of_ble_eq_true rfl) (Nat.le_of_ble_eq_true rfl) (gC_sail_ok (by omega) (by decide) e11) ?_
    refine Ev.seg D_80 [(.aload_n 0, 1)] (by decide +kernel) (j := 0) (pc' := 47) (lv' := [(0, .ref 232), (1, .int v1), (2, .int q.1)]) (st' := [.ref 232]) rfl ?_
    refine Ev.getR D_80 (by decide +kernel) F_6_9 T_6_2 (x := 233) (S_oR k_232 (by decide +kernel)) ?_
    refine Ev.seg D_80 [(.iload_n 2, 1), (.aload_n 0, 1)] (by decide +kernel) (j := 0) (pc' := 52) (lv' := [(0, .ref 232), (1, .int v1), (2, .int q.1)]) (st' := [.ref 232, .int q.1, .ref 233]) rfl ?_
    refine Ev.getR D_80 (by decide +kernel) F_6_19 T_6_1 (x := 121) (S_oR k_232 (by decide +kernel)) ?_
    refine Ev.getR D_80 (by decide +kernel) F_6_44 T_0_7 (x := 148) (S_oR k_121 (by decide +kernel)) ?_
    refine Ev.seg D_80 [(.aload_n 0, 1)] (by decide +kernel) (j := 0) (pc' := 59) (lv' := [(0, .ref 232), (1, .int v1), (2, .int q.1)]) (st' := [.ref 232, .ref 148, .int q.1, .ref 233]) rfl ?_
    refine Ev.getR D_80 (by decide +kernel) F_6_15 T_6_0 (x := 16) (S_oR k_232 (by decide +kernel)) ?_
    refine Ev.getI D_80 (by decide +kernel) F_6_38 (Or.inl T_2_0) (S_oI k_16) ?_
    by_cases b65 : ¬ ((p11.1 16 0) < 0 ∨ 21 ≤ (p11.1 16 0).toNatClampNeg)
    rotate_left
    · rw [if_neg b65] at h; cases h
    rw [if_pos b65] at h
    refine Ev.aald D_80 (by decide +kernel) (kd := 26) ⟨by decide, by decide⟩ (x := (149 + (p11.1 16 0).toNatClampNeg)) (S_aR k_148 b65 (lit_aa (e := 149) (n := 21) (by decide +kernel) b65)) ?_
    refine Ev.seg D_80 [(.iload_n 1, 1)] (by decide +kernel) (j := 0) (pc' := 67) (lv' := [(0, .ref 232), (1, .int v1), (2, .int q.1)]) (st' := [.int v1, .ref (149 + (p11.1 16 0).toNatClampNeg), .int q.1, .ref 233]) rfl ?_
    obtain ⟨x18, e18, h⟩ := bd h
    refine Ev.iald D_80 (by decide +kernel) (S_aI (lit_row (e := 149) (n := 21) (by decide +kernel) b65) e18) ?_
    refine Ev.seg D_80 [(.aload_n 0, 1)] (by decide +kernel) (j := 0) (pc' := 69) (lv' := [(0, .ref 232), (1, .int v1), (2, .int q.1)]) (st' := [.ref 232, .int x18, .int q.1, .ref 233]) rfl ?_
    refine Ev.getR D_80 (by decide +kernel) F_6_19 T_6_1 (x := 121) (S_oR k_232 (by decide +kernel)) ?_
    refine Ev.getR D_80 (by decide +kernel) F_6_44 T_0_7 (x := 148) (S_oR k_121 (by decide +kernel)) ?_
    refine Ev.seg D_80 [(.iconst 0, 1)] (by decide +kernel) (j := 0) (pc' := 76) (lv' := [(0, .ref 232), (1, .int v1), (2, .int q.1)]) (st' := [.int (0 : Int32), .ref 148, .int x18, .int q.1, .ref 233]) rfl ?_
    by_cases b76 : ¬ ((0 : Int32) < 0 ∨ 21 ≤ (0 : Int32).toNatClampNeg)
    rotate_left
    · rw [if_neg b76] at h; cases h
    rw [if_pos b76] at h
    refine Ev.aald D_80 (by decide +kernel) (kd := 26) ⟨by decide, by decide⟩ (x := (149 + (0 : Int32).toNatClampNeg)) (S_aR k_148 b76 (lit_aa (e := 149) (n := 21) (by decide +kernel) b76)) ?_
    refine Ev.seg D_80 [(.iload_n 1, 1)] (by decide +kernel) (j := 0) (pc' := 78) (lv' := [(0, .ref 232), (1, .int v1), (2, .int q.1)]) (st' := [.int v1, .ref (149 + (0 : Int32).toNatClampNeg), .int x18, .int q.1, .ref 233]) rfl ?_
    obtain ⟨x22, e22, h⟩ := bd h
    refine Ev.iald D_80 (by decide +kernel) (S_aI (lit_row (e := 149) (n := 21) (by decide +kernel) b76) e22) ?_
    refine Ev.seg D_80 [(.isub, 1)] (by decide +kernel) (j := 0) (pc' := 80) (lv' := [(0, .ref 232), (1, .int v1), (2, .int q.1)]) (st' := [.int (x18 - x22), .int q.1, .ref 233]) rfl ?_
    obtain ⟨s23, e23, h⟩ := bd h
    refine Ev.iast D_80 (by decide +kernel) (S_sI k_233 e23) ?_
    refine Ev.seg D_80 [(.iinc 2 1, 3), (.goto (-82), 3)] (by decide +kernel) (j := 0) (pc' := 2) (lv' := [(2, .int (q.1 + (1 : Int32))), (0, .ref 232), (1, .int v1)]) (st' := []) rfl ?_
    cases h
    exact Ev.sub (lv' := [(0, .ref 232), (1, .int v1), (2, .int (q.1 + (1 : Int32)))]) (subL_cons rfl (subL_cons rfl (subL_cons rfl subL_nil))) ho
theorem gH_makeFor_h2_w {L d : Nat} (hd : 5 ≤ d + 1) {v1 : Int32} : ∀ (n : Nat) (q : Int32 × mT) (r : mT), wh n (gH_makeFor_h2 v1) q = some r → ∀ o, (fun r => Ev (d + 1) 80 87 [] [] (uS L r) o) r → Ev (d + 1) 80 2 [(0, .ref 232), (1, .int v1), (2, .int q.1)] [] (uS L q.2) o :=
  fun n q r h o hc => wh_ev (E := fun (q : Int32 × mT) o => Ev (d + 1) 80 2 [(0, .ref 232), (1, .int v1), (2, .int q.1)] [] (uS L q.2) o) (C := fun (r : mT) o => (fun r => Ev (d + 1) 80 87 [] [] (uS L r) o) r) (gH_makeFor_h2_ok hd  ) n q r h o hc
def gH_makeFor (v1 : Int32) (s : mT) : Option (mT) :=
  (wh FU (gH_makeFor_h2 v1) ((0 : Int32), s)).bind fun x24 =>
  some (x24)
set_option maxRecDepth 8000 in
theorem gH_makeFor_ok {L d : Nat} (hd : 5 ≤ d) {v1 : Int32} {s : mT} {p : mT} (h : gH_makeFor v1 s = some p) : Ev d 80 0 [(0, .ref 232), (1, .int v1)] [] (uS L s) (none, uS L p) := by
  obtain ⟨d, rfl⟩ : ∃ e, d = e + 1 := ⟨d - 1, by omega⟩
  obtain ⟨o, ho⟩ : ∃ o : Option Value × mS, o = (none, uS L p) := ⟨_, rfl⟩
  rw [← ho]
  unfold gH_makeFor at h
  refine Ev.seg D_80 [(.iconst 0, 1), (.istore_n 2, 1)] (by decide +kernel) (j := 0) (pc' := 2) (lv' := [(2, .int (0 : Int32)), (0, .ref 232), (1, .int v1)]) (st' := []) rfl ?_
  obtain ⟨x24, w24, h⟩ := bd h
  have j24 : Ev (d + 1) 80 87 [] [] (uS L x24) o := by
    clear w24
    cases h
    obtain rfl : o = _ := ho
    exact Ev.vret D_80 (by decide +kernel)
  exact Ev.sub (lv' := [(0, .ref 232), (1, .int v1), (2, .int (0 : Int32))]) (subL_cons rfl (subL_cons rfl (subL_cons rfl subL_nil))) (gH_makeFor_h2_w hd   _ _ _ w24 _ j24)
/- java/lang/Integer bitCount: 327 -/
def gI_bitCount (v0 : Int32) (s : mT) : Option (Int32) :=
  some ((((((((v0 - (((v0.toUInt32 >>> ((1 : Int32).toUInt32 &&& Int32.toUInt32 31)).toInt32) &&& (1431655765 : Int32))) &&& (858993459 : Int32)) + ((((v0 - (((v0.toUInt32 >>> ((1 : Int32).toUInt32 &&& Int32.toUInt32 31)).toInt32) &&& (1431655765 : Int32))).toUInt32 >>> ((2 : Int32).toUInt32 &&& Int32.toUInt32 31)).toInt32) &&& (858993459 : Int32))) + (((((v0 - (((v0.toUInt32 >>> ((1 : Int32).toUInt32 &&& Int32.toUInt32 31)).toInt32) &&& (1431655765 : Int32))) &&& (858993459 : Int32)) + ((((v0 - (((v0.toUInt32 >>> ((1 : Int32).toUInt32 &&& Int32.toUInt32 31)).toInt32) &&& (1431655765 : Int32))).toUInt32 >>> ((2 : Int32).toUInt32 &&& Int32.toUInt32 31)).toInt32) &&& (858993459 : Int32))).toUInt32 >>> ((4 : Int32).toUInt32 &&& Int32.toUInt32 31)).toInt32)) &&& (252645135 : Int32)) + (((((((v0 - (((v0.toUInt32 >>> ((1 : Int32).toUInt32 &&& Int32.toUInt32 31)).toInt32) &&& (1431655765 : Int32))) &&& (858993459 : Int32)) + ((((v0 - (((v0.toUInt32 >>> ((1 : Int32).toUInt32 &&& Int32.toUInt32 31)).toInt32) &&& (1431655765 : Int32))).toUInt32 >>> ((2 : Int32).toUInt32 &&& Int32.toUInt32 31)).toInt32) &&& (858993459 : Int32))) + (((((v0 - (((v0.toUInt32 >>> ((1 : Int32).toUInt32 &&& Int32.toUInt32 31)).toInt32) &&& (1431655765 : Int32))) &&& (858993459 : Int32)) + ((((v0 - (((v0.toUInt32 >>> ((1 : Int32).toUInt32 &&& Int32.toUInt32 31)).toInt32) &&& (1431655765 : Int32))).toUInt32 >>> ((2 : Int32).toUInt32 &&& Int32.toUInt32 31)).toInt32) &&& (858993459 : Int32))).toUInt32 >>> ((4 : Int32).toUInt32 &&& Int32.toUInt32 31)).toInt32)) &&& (252645135 : Int32)).toUInt32 >>> ((8 : Int32).toUInt32 &&& Int32.toUInt32 31)).toInt32)) + ((((((((v0 - (((v0.toUInt32 >>> ((1 : Int32).toUInt32 &&& Int32.toUInt32 31)).toInt32) &&& (1431655765 : Int32))) &&& (858993459 : Int32)) + ((((v0 - (((v0.toUInt32 >>> ((1 : Int32).toUInt32 &&& Int32.toUInt32 31)).toInt32) &&& (1431655765 : Int32))).toUInt32 >>> ((2 : Int32).toUInt32 &&& Int32.toUInt32 31)).toInt32) &&& (858993459 : Int32))) + (((((v0 - (((v0.toUInt32 >>> ((1 : Int32).toUInt32 &&& Int32.toUInt32 31)).toInt32) &&& (1431655765 : Int32))) &&& (858993459 : Int32)) + ((((v0 - (((v0.toUInt32 >>> ((1 : Int32).toUInt32 &&& Int32.toUInt32 31)).toInt32) &&& (1431655765 : Int32))).toUInt32 >>> ((2 : Int32).toUInt32 &&& Int32.toUInt32 31)).toInt32) &&& (858993459 : Int32))).toUInt32 >>> ((4 : Int32).toUInt32 &&& Int32.toUInt32 31)).toInt32)) &&& (252645135 : Int32)) + (((((((v0 - (((v0.toUInt32 >>> ((1 : Int32).toUInt32 &&& Int32.toUInt32 31)).toInt32) &&& (1431655765 : Int32))) &&& (858993459 : Int32)) + ((((v0 - (((v0.toUInt32 >>> ((1 : Int32).toUInt32 &&& Int32.toUInt32 31)).toInt32) &&& (1431655765 : Int32))).toUInt32 >>> ((2 : Int32).toUInt32 &&& Int32.toUInt32 31)).toInt32) &&& (858993459 : Int32))) + (((((v0 - (((v0.toUInt32 >>> ((1 : Int32).toUInt32 &&& Int32.toUInt32 31)).toInt32) &&& (1431655765 : Int32))) &&& (858993459 : Int32)) + ((((v0 - (((v0.toUInt32 >>> ((1 : Int32).toUInt32 &&& Int32.toUInt32 31)).toInt32) &&& (1431655765 : Int32))).toUInt32 >>> ((2 : Int32).toUInt32 &&& Int32.toUInt32 31)).toInt32) &&& (858993459 : Int32))).toUInt32 >>> ((4 : Int32).toUInt32 &&& Int32.toUInt32 31)).toInt32)) &&& (252645135 : Int32)).toUInt32 >>> ((8 : Int32).toUInt32 &&& Int32.toUInt32 31)).toInt32)).toUInt32 >>> ((16 : Int32).toUInt32 &&& Int32.toUInt32 31)).toInt32)) &&& (63 : Int32))
set_option maxRecDepth 8000 in
theorem gI_bitCount_ok {L d : Nat} (hd : 1 ≤ d) {v0 : Int32} {s : mT} {p : Int32} (h : gI_bitCount v0 s = some p) : Ev d 327 0 [(0, .int v0)] [] (uS L s) (some (.int p), uS L s) := by
  obtain ⟨d, rfl⟩ : ∃ e, d = e + 1 := ⟨d - 1, by omega⟩
  obtain ⟨o, ho⟩ : ∃ o : Option Value × mS, o = (some (.int p), uS L s) := ⟨_, rfl⟩
  rw [← ho]
  unfold gI_bitCount at h
  refine Ev.seg D_327 [(.iload_n 0, 1), (.iload_n 0, 1), (.iconst 1, 1), (.iushr, 1)] (by decide +kernel) (j := 0) (pc' := 4) (lv' := [(0, .int v0)]) (st' := [.int ((v0.toUInt32 >>> ((1 : Int32).toUInt32 &&& Int32.toUInt32 31)).toInt32), .int v0]) rfl ?_
  refine Ev.ldcw D_327 (i := 265) (by decide +kernel) (x := (1431655765 : Int32)) (by decide +kernel) ?_
  refine Ev.seg D_327 [(.iand, 1), (.isub, 1), (.istore_n 0, 1), (.iload_n 0, 1)] (by decide +kernel) (j := 0) (pc' := 11) (lv' := [(0, .int (v0 - (((v0.toUInt32 >>> ((1 : Int32).toUInt32 &&& Int32.toUInt32 31)).toInt32) &&& (1431655765 : Int32))))]) (st' := [.int (v0 - (((v0.toUInt32 >>> ((1 : Int32).toUInt32 &&& Int32.toUInt32 31)).toInt32) &&& (1431655765 : Int32)))]) rfl ?_
  refine Ev.ldcw D_327 (i := 266) (by decide +kernel) (x := (858993459 : Int32)) (by decide +kernel) ?_
  refine Ev.seg D_327 [(.iand, 1), (.iload_n 0, 1), (.iconst 2, 1), (.iushr, 1)] (by decide +kernel) (j := 0) (pc' := 18) (lv' := [(0, .int (v0 - (((v0.toUInt32 >>> ((1 : Int32).toUInt32 &&& Int32.toUInt32 31)).toInt32) &&& (1431655765 : Int32))))]) (st' := [.int (((v0 - (((v0.toUInt32 >>> ((1 : Int32).toUInt32 &&& Int32.toUInt32 31)).toInt32) &&& (1431655765 : Int32))).toUInt32 >>> ((2 : Int32).toUInt32 &&& Int32.toUInt32 31)).toInt32), .int ((v0 - (((v0.toUInt32 >>> ((1 : Int32).toUInt32 &&& Int32.toUInt32 31)).toInt32) &&& (1431655765 : Int32))) &&& (858993459 : Int32))]) rfl ?_
  refine Ev.ldcw D_327 (i := 266) (by decide +kernel) (x := (858993459 : Int32)) (by decide +kernel) ?_
  refine Ev.seg D_327 [(.iand, 1), (.iadd, 1), (.istore_n 0, 1), (.iload_n 0, 1), (.iload_n 0, 1), (.iconst 4, 1), (.iushr, 1), (.iadd, 1)] (by decide +kernel) (j := 0) (pc' := 29) (lv' := [(0, .int (((v0 - (((v0.toUInt32 >>> ((1 : Int32).toUInt32 &&& Int32.toUInt32 31)).toInt32) &&& (1431655765 : Int32))) &&& (858993459 : Int32)) + ((((v0 - (((v0.toUInt32 >>> ((1 : Int32).toUInt32 &&& Int32.toUInt32 31)).toInt32) &&& (1431655765 : Int32))).toUInt32 >>> ((2 : Int32).toUInt32 &&& Int32.toUInt32 31)).toInt32) &&& (858993459 : Int32))))]) (st' := [.int ((((v0 - (((v0.toUInt32 >>> ((1 : Int32).toUInt32 &&& Int32.toUInt32 31)).toInt32) &&& (1431655765 : Int32))) &&& (858993459 : Int32)) + ((((v0 - (((v0.toUInt32 >>> ((1 : Int32).toUInt32 &&& Int32.toUInt32 31)).toInt32) &&& (1431655765 : Int32))).toUInt32 >>> ((2 : Int32).toUInt32 &&& Int32.toUInt32 31)).toInt32) &&& (858993459 : Int32))) + (((((v0 - (((v0.toUInt32 >>> ((1 : Int32).toUInt32 &&& Int32.toUInt32 31)).toInt32) &&& (1431655765 : Int32))) &&& (858993459 : Int32)) + ((((v0 - (((v0.toUInt32 >>> ((1 : Int32).toUInt32 &&& Int32.toUInt32 31)).toInt32) &&& (1431655765 : Int32))).toUInt32 >>> ((2 : Int32).toUInt32 &&& Int32.toUInt32 31)).toInt32) &&& (858993459 : Int32))).toUInt32 >>> ((4 : Int32).toUInt32 &&& Int32.toUInt32 31)).toInt32))]) rfl ?_
  refine Ev.ldcw D_327 (i := 267) (by decide +kernel) (x := (252645135 : Int32)) (by decide +kernel) ?_
  refine Ev.seg D_327 [(.iand, 1), (.istore_n 0, 1), (.iload_n 0, 1), (.iload_n 0, 1), (.bipush 8, 2), (.iushr, 1), (.iadd, 1), (.istore_n 0, 1), (.iload_n 0, 1), (.iload_n 0, 1), (.bipush 16, 2), (.iushr, 1), (.iadd, 1), (.istore_n 0, 1), (.iload_n 0, 1), (.bipush 63, 2), (.iand, 1)] (by decide +kernel) (j := 0) (pc' := 52) (lv' := [(0, .int (((((((v0 - (((v0.toUInt32 >>> ((1 : Int32).toUInt32 &&& Int32.toUInt32 31)).toInt32) &&& (1431655765 : Int32))) &&& (858993459 : Int32)) + ((((v0 - (((v0.toUInt32 >>> ((1 : Int32).toUInt32 &&& Int32.toUInt32 31)).toInt32) &&& (1431655765 : Int32))).toUInt32 >>> ((2 : Int32).toUInt32 &&& Int32.toUInt32 31)).toInt32) &&& (858993459 : Int32))) + (((((v0 - (((v0.toUInt32 >>> ((1 : Int32).toUInt32 &&& Int32.toUInt32 31)).toInt32) &&& (1431655765 : Int32))) &&& (858993459 : Int32)) + ((((v0 - (((v0.toUInt32 >>> ((1 : Int32).toUInt32 &&& Int32.toUInt32 31)).toInt32) &&& (1431655765 : Int32))).toUInt32 >>> ((2 : Int32).toUInt32 &&& Int32.toUInt32 31)).toInt32) &&& (858993459 : Int32))).toUInt32 >>> ((4 : Int32).toUInt32 &&& Int32.toUInt32 31)).toInt32)) &&& (252645135 : Int32)) + (((((((v0 - (((v0.toUInt32 >>> ((1 : Int32).toUInt32 &&& Int32.toUInt32 31)).toInt32) &&& (1431655765 : Int32))) &&& (858993459 : Int32)) + ((((v0 - (((v0.toUInt32 >>> ((1 : Int32).toUInt32 &&& Int32.toUInt32 31)).toInt32) &&& (1431655765 : Int32))).toUInt32 >>> ((2 : Int32).toUInt32 &&& Int32.toUInt32 31)).toInt32) &&& (858993459 : Int32))) + (((((v0 - (((v0.toUInt32 >>> ((1 : Int32).toUInt32 &&& Int32.toUInt32 31)).toInt32) &&& (1431655765 : Int32))) &&& (858993459 : Int32)) + ((((v0 - (((v0.toUInt32 >>> ((1 : Int32).toUInt32 &&& Int32.toUInt32 31)).toInt32) &&& (1431655765 : Int32))).toUInt32 >>> ((2 : Int32).toUInt32 &&& Int32.toUInt32 31)).toInt32) &&& (858993459 : Int32))).toUInt32 >>> ((4 : Int32).toUInt32 &&& Int32.toUInt32 31)).toInt32)) &&& (252645135 : Int32)).toUInt32 >>> ((8 : Int32).toUInt32 &&& Int32.toUInt32 31)).toInt32)) + ((((((((v0 - (((v0.toUInt32 >>> ((1 : Int32).toUInt32 &&& Int32.toUInt32 31)).toInt32) &&& (1431655765 : Int32))) &&& (858993459 : Int32)) + ((((v0 - (((v0.toUInt32 >>> ((1 : Int32).toUInt32 &&& Int32.toUInt32 31)).toInt32) &&& (1431655765 : Int32))).toUInt32 >>> ((2 : Int32).toUInt32 &&& Int32.toUInt32 31)).toInt32) &&& (858993459 : Int32))) + (((((v0 - (((v0.toUInt32 >>> ((1 : Int32).toUInt32 &&& Int32.toUInt32 31)).toInt32) &&& (1431655765 : Int32))) &&& (858993459 : Int32)) + ((((v0 - (((v0.toUInt32 >>> ((1 : Int32).toUInt32 &&& Int32.toUInt32 31)).toInt32) &&& (1431655765 : Int32))).toUInt32 >>> ((2 : Int32).toUInt32 &&& Int32.toUInt32 31)).toInt32) &&& (858993459 : Int32))).toUInt32 >>> ((4 : Int32).toUInt32 &&& Int32.toUInt32 31)).toInt32)) &&& (252645135 : Int32)) + (((((((v0 - (((v0.toUInt32 >>> ((1 : Int32).toUInt32 &&& Int32.toUInt32 31)).toInt32) &&& (1431655765 : Int32))) &&& (858993459 : Int32)) + ((((v0 - (((v0.toUInt32 >>> ((1 : Int32).toUInt32 &&& Int32.toUInt32 31)).toInt32) &&& (1431655765 : Int32))).toUInt32 >>> ((2 : Int32).toUInt32 &&& Int32.toUInt32 31)).toInt32) &&& (858993459 : Int32))) + (((((v0 - (((v0.toUInt32 >>> ((1 : Int32).toUInt32 &&& Int32.toUInt32 31)).toInt32) &&& (1431655765 : Int32))) &&& (858993459 : Int32)) + ((((v0 - (((v0.toUInt32 >>> ((1 : Int32).toUInt32 &&& Int32.toUInt32 31)).toInt32) &&& (1431655765 : Int32))).toUInt32 >>> ((2 : Int32).toUInt32 &&& Int32.toUInt32 31)).toInt32) &&& (858993459 : Int32))).toUInt32 >>> ((4 : Int32).toUInt32 &&& Int32.toUInt32 31)).toInt32)) &&& (252645135 : Int32)).toUInt32 >>> ((8 : Int32).toUInt32 &&& Int32.toUInt32 31)).toInt32)).toUInt32 >>> ((16 : Int32).toUInt32 &&& Int32.toUInt32 31)).toInt32)))]) (st' := [.int ((((((((v0 - (((v0.toUInt32 >>> ((1 : Int32).toUInt32 &&& Int32.toUInt32 31)).toInt32) &&& (1431655765 : Int32))) &&& (858993459 : Int32)) + ((((v0 - (((v0.toUInt32 >>> ((1 : Int32).toUInt32 &&& Int32.toUInt32 31)).toInt32) &&& (1431655765 : Int32))).toUInt32 >>> ((2 : Int32).toUInt32 &&& Int32.toUInt32 31)).toInt32) &&& (858993459 : Int32))) + (((((v0 - (((v0.toUInt32 >>> ((1 : Int32).toUInt32 &&& Int32.toUInt32 31)).toInt32) &&& (1431655765 : Int32))) &&& (858993459 : Int32)) + ((((v0 - (((v0.toUInt32 >>> ((1 : Int32).toUInt32 &&& Int32.toUInt32 31)).toInt32) &&& (1431655765 : Int32))).toUInt32 >>> ((2 : Int32).toUInt32 &&& Int32.toUInt32 31)).toInt32) &&& (858993459 : Int32))).toUInt32 >>> ((4 : Int32).toUInt32 &&& Int32.toUInt32 31)).toInt32)) &&& (252645135 : Int32)) + (((((((v0 - (((v0.toUInt32 >>> ((1 : Int32).toUInt32 &&& Int32.toUInt32 31)).toInt32) &&& (1431655765 : Int32))) &&& (858993459 : Int32)) + ((((v0 - (((v0.toUInt32 >>> ((1 : Int32).toUInt32 &&& Int32.toUInt32 31)).toInt32) &&& (1431655765 : Int32))).toUInt32 >>> ((2 : Int32).toUInt32 &&& Int32.toUInt32 31)).toInt32) &&& (858993459 : Int32))) + (((((v0 - (((v0.toUInt32 >>> ((1 : Int32).toUInt32 &&& Int32.toUInt32 31)).toInt32) &&& (1431655765 : Int32))) &&& (858993459 : Int32)) + ((((v0 - (((v0.toUInt32 >>> ((1 : Int32).toUInt32 &&& Int32.toUInt32 31)).toInt32) &&& (1431655765 : Int32))).toUInt32 >>> ((2 : Int32).toUInt32 &&& Int32.toUInt32 31)).toInt32) &&& (858993459 : Int32))).toUInt32 >>> ((4 : Int32).toUInt32 &&& Int32.toUInt32 31)).toInt32)) &&& (252645135 : Int32)).toUInt32 >>> ((8 : Int32).toUInt32 &&& Int32.toUInt32 31)).toInt32)) + ((((((((v0 - (((v0.toUInt32 >>> ((1 : Int32).toUInt32 &&& Int32.toUInt32 31)).toInt32) &&& (1431655765 : Int32))) &&& (858993459 : Int32)) + ((((v0 - (((v0.toUInt32 >>> ((1 : Int32).toUInt32 &&& Int32.toUInt32 31)).toInt32) &&& (1431655765 : Int32))).toUInt32 >>> ((2 : Int32).toUInt32 &&& Int32.toUInt32 31)).toInt32) &&& (858993459 : Int32))) + (((((v0 - (((v0.toUInt32 >>> ((1 : Int32).toUInt32 &&& Int32.toUInt32 31)).toInt32) &&& (1431655765 : Int32))) &&& (858993459 : Int32)) + ((((v0 - (((v0.toUInt32 >>> ((1 : Int32).toUInt32 &&& Int32.toUInt32 31)).toInt32) &&& (1431655765 : Int32))).toUInt32 >>> ((2 : Int32).toUInt32 &&& Int32.toUInt32 31)).toInt32) &&& (858993459 : Int32))).toUInt32 >>> ((4 : Int32).toUInt32 &&& Int32.toUInt32 31)).toInt32)) &&& (252645135 : Int32)) + (((((((v0 - (((v0.toUInt32 >>> ((1 : Int32).toUInt32 &&& Int32.toUInt32 31)).toInt32) &&& (1431655765 : Int32))) &&& (858993459 : Int32)) + ((((v0 - (((v0.toUInt32 >>> ((1 : Int32).toUInt32 &&& Int32.toUInt32 31)).toInt32) &&& (1431655765 : Int32))).toUInt32 >>> ((2 : Int32).toUInt32 &&& Int32.toUInt32 31)).toInt32) &&& (858993459 : Int32))) + (((((v0 - (((v0.toUInt32 >>> ((1 : Int32).toUInt32 &&& Int32.toUInt32 31)).toInt32) &&& (1431655765 : Int32))) &&& (858993459 : Int32)) + ((((v0 - (((v0.toUInt32 >>> ((1 : Int32).toUInt32 &&& Int32.toUInt32 31)).toInt32) &&& (1431655765 : Int32))).toUInt32 >>> ((2 : Int32).toUInt32 &&& Int32.toUInt32 31)).toInt32) &&& (858993459 : Int32))).toUInt32 >>> ((4 : Int32).toUInt32 &&& Int32.toUInt32 31)).toInt32)) &&& (252645135 : Int32)).toUInt32 >>> ((8 : Int32).toUInt32 &&& Int32.toUInt32 31)).toInt32)).toUInt32 >>> ((16 : Int32).toUInt32 &&& Int32.toUInt32 31)).toInt32)) &&& (63 : Int32))]) rfl ?_
  cases h
  obtain rfl : o = _ := ho
  exact Ev.iret D_327 (by decide +kernel)
/- Shares sumOf: 81 -/
def gH_sumOf_h4 (v1 : Int32) (s : mT) (q : Int32 × Int32) : Option ((Int32 × Int32) ⊕ (Int32)) :=
  if ((1 : Int32) <<< ((s.1 16 6) &&& 31)) ≤ q.2 then
    some (.inr q.1)
  else
    (
      if ((q.2 >>> (v1 &&& 31)) &&& (1 : Int32)) = 0 then
        (gI_bitCount q.2 s).bind fun p5 =>
        (rdI (s.1 (XB + 1)) 6 p5).bind fun x7 =>
        (rdI (s.1 (XB + 1)) 6 (((s.1 16 6) - (1 : Int32)) - p5)).bind fun x11 =>
        (rdI (s.1 233) 32 (q.2 ||| ((1 : Int32) <<< (v1 &&& 31)))).bind fun x13 =>
        (rdI (s.1 233) 32 q.2).bind fun x15 =>
        some (q.1 + ((x7 * x11) * (x13 - x15)))
      else
        some (q.1) : Option (Int32)).bind fun x4 =>
    some (.inl (x4, q.2 + (1 : Int32)))
set_option maxRecDepth 8000 in
theorem gH_sumOf_h4_ok {L d : Nat} (hd : 2 ≤ d + 1) {v1 : Int32} {s : mT} : ∀ (q : Int32 × Int32) (x : (Int32 × Int32) ⊕ (Int32)), gH_sumOf_h4 v1 s q = some x → ∀ o, sK (fun q => Ev (d + 1) 81 4 [(0, .ref 232), (1, .int v1), (2, .int q.1), (3, .int q.2)] [] (uS L s) o) (fun r => Ev (d + 1) 81 85 [(2, .int r)] [] (uS L s) o) x → Ev (d + 1) 81 4 [(0, .ref 232), (1, .int v1), (2, .int q.1), (3, .int q.2)] [] (uS L s) o := by
  intro q x h o ho
  unfold gH_sumOf_h4 at h
  refine Ev.seg D_81 [(.iload_n 3, 1), (.iconst 1, 1), (.aload_n 0, 1)] (by decide +kernel) (j := 0) (pc' := 7) (lv' := [(0, .ref 232), (1, .int v1), (2, .int q.1), (3, .int q.2)]) (st' := [.ref 232, .int (1 : Int32), .int q.2]) rfl ?_
  refine Ev.getR D_81 (by decide +kernel) F_6_15 T_6_0 (x := 16) (S_oR k_232 (by decide +kernel)) ?_
  refine Ev.getI D_81 (by decide +kernel) F_6_23 (Or.inl T_2_6) (S_oI k_16) ?_
  refine Ev.seg D_81 [(.ishl, 1)] (by decide +kernel) (j := 0) (pc' := 14) (lv' := [(0, .ref 232), (1, .int v1), (2, .int q.1), (3, .int q.2)]) (st' := [.int ((1 : Int32) <<< ((s.1 16 6) &&& 31)), .int q.2]) rfl ?_
  refine Ev.icmp D_81 (c := .ge) (off := 71) (by decide +kernel) (t := 85) rfl (fun c3 => ?_) (fun c3 => ?_)
  · have c3 : ((1 : Int32) <<< ((s.1 16 6) &&& 31)) ≤ q.2 := of_decide_eq_true c3
    rw [if_pos c3] at h
    cases h
    exact Ev.sub (lv' := [(2, .int q.1)]) (subL_cons rfl subL_nil) ho
  · have c3 : ¬ ((1 : Int32) <<< ((s.1 16 6) &&& 31)) ≤ q.2 := of_decide_eq_false c3
    rw [if_neg c3] at h
    refine Ev.seg D_81 [(.iload_n 3, 1), (.iload_n 1, 1), (.ishr, 1), (.iconst 1, 1), (.iand, 1)] (by decide +kernel) (j := 0) (pc' := 22) (lv' := [(0, .ref 232), (1, .int v1), (2, .int q.1), (3, .int q.2)]) (st' := [.int ((q.2 >>> (v1 &&& 31)) &&& (1 : Int32))]) rfl ?_
    obtain ⟨x4, g4, h⟩ := bd h
    have j4 : Ev (d + 1) 81 79 [(0, .ref 232), (1, .int v1), (2, .int x4), (3, .int q.2)] [] (uS L s) o := by
      clear g4
      refine Ev.seg D_81 [(.iinc 3 1, 3), (.goto (-78), 3)] (by decide +kernel) (j := 0) (pc' := 4) (lv' := [(3, .int (q.2 + (1 : Int32))), (0, .ref 232), (1, .int v1), (2, .int x4)]) (st' := []) rfl ?_
      cases h
      exact Ev.sub (lv' := [(0, .ref 232), (1, .int v1), (2, .int (x4)), (3, .int (q.2 + (1 : Int32)))]) (subL_cons rfl (subL_cons rfl (subL_cons rfl (subL_cons rfl subL_nil)))) ho
    clear h
    refine Ev.if_ D_81 (c := .ne) (off := 57) (by decide +kernel) (t := 79) rfl (fun c4 => ?_) (fun c4 => ?_)
    · have c4 : ¬ ((q.2 >>> (v1 &&& 31)) &&& (1 : Int32)) = 0 := of_decide_eq_true c4
      rw [if_neg c4] at g4
      cases g4
      exact Ev.sub2 j4 (subL_cons rfl (subL_cons rfl (subL_cons rfl (subL_cons rfl subL_nil))))
    · have c4 : ((q.2 >>> (v1 &&& 31)) &&& (1 : Int32)) = 0 := Decidable.of_not_not (of_decide_eq_false c4)
      rw [if_pos c4] at g4
      refine Ev.seg D_81 [(.iload_n 3, 1)] (by decide +kernel) (j := 0) (pc' := 26) (lv' := [(0, .ref 232), (1, .int v1), (2, .int q.1), (3, .int q.2)]) (st' := [.int q.2]) rfl ?_
      obtain ⟨p5, e5, g4⟩ := bd g4
      refine Ev.calls D_81 E_327 (by decide +kernel) C_6_48 [.int q.2] (r := []) rfl rfl (Nat.le_of_ble_eq_true rfl) (Nat.le_of_ble_eq_true rfl) (gI_bitCount_ok (by omega)  e5) ?_
      refine Ev.seg D_81 [(.istore 4, 2)] (by decide +kernel) (j := 0) (pc' := 31) (lv' := [(4, .int p5), (0, .ref 232), (1, .int v1), (2, .int q.1), (3, .int q.2)]) (st' := []) rfl ?_
      refine Ev.stat D_81 (i := 54) (by decide +kernel) (v := .ref (XB + 1)) (by decide +kernel) ?_
      refine Ev.seg D_81 [(.iload 4, 2)] (by decide +kernel) (j := 0) (pc' := 36) (lv' := [(4, .int p5), (0, .ref 232), (1, .int v1), (2, .int q.1), (3, .int q.2)]) (st' := [.int p5, .ref (XB + 1)]) rfl ?_
      obtain ⟨x7, e7, g4⟩ := bd g4
      refine Ev.iald D_81 (by decide +kernel) (S_aIx (by rfl) (Nat.le_add_right _ _) e7) ?_
      refine Ev.stat D_81 (i := 54) (by decide +kernel) (v := .ref (XB + 1)) (by decide +kernel) ?_
      refine Ev.seg D_81 [(.aload_n 0, 1)] (by decide +kernel) (j := 0) (pc' := 41) (lv' := [(4, .int p5), (0, .ref 232), (1, .int v1), (2, .int q.1), (3, .int q.2)]) (st' := [.ref 232, .ref (XB + 1), .int x7]) rfl ?_
      refine Ev.getR D_81 (by decide +kernel) F_6_15 T_6_0 (x := 16) (S_oR k_232 (by decide +kernel)) ?_
      refine Ev.getI D_81 (by decide +kernel) F_6_23 (Or.inl T_2_6) (S_oI k_16) ?_
      refine Ev.seg D_81 [(.iconst 1, 1), (.isub, 1), (.iload 4, 2), (.isub, 1)] (by decide +kernel) (j := 0) (pc' := 52) (lv' := [(4, .int p5), (0, .ref 232), (1, .int v1), (2, .int q.1), (3, .int q.2)]) (st' := [.int (((s.1 16 6) - (1 : Int32)) - p5), .ref (XB + 1), .int x7]) rfl ?_
      obtain ⟨x11, e11, g4⟩ := bd g4
      refine Ev.iald D_81 (by decide +kernel) (S_aIx (by rfl) (Nat.le_add_right _ _) e11) ?_
      refine Ev.seg D_81 [(.imul, 1), (.istore 5, 2), (.iload_n 2, 1), (.iload 5, 2), (.aload_n 0, 1)] (by decide +kernel) (j := 0) (pc' := 60) (lv' := [(5, .int (x7 * x11)), (4, .int p5), (0, .ref 232), (1, .int v1), (2, .int q.1), (3, .int q.2)]) (st' := [.ref 232, .int (x7 * x11), .int q.1]) rfl ?_
      refine Ev.getR D_81 (by decide +kernel) F_6_9 T_6_2 (x := 233) (S_oR k_232 (by decide +kernel)) ?_
      refine Ev.seg D_81 [(.iload_n 3, 1), (.iconst 1, 1), (.iload_n 1, 1), (.ishl, 1), (.ior, 1)] (by decide +kernel) (j := 0) (pc' := 68) (lv' := [(5, .int (x7 * x11)), (4, .int p5), (0, .ref 232), (1, .int v1), (2, .int q.1), (3, .int q.2)]) (st' := [.int (q.2 ||| ((1 : Int32) <<< (v1 &&& 31))), .ref 233, .int (x7 * x11), .int q.1]) rfl ?_
      obtain ⟨x13, e13, g4⟩ := bd g4
      refine Ev.iald D_81 (by decide +kernel) (S_aI k_233 e13) ?_
      refine Ev.seg D_81 [(.aload_n 0, 1)] (by decide +kernel) (j := 0) (pc' := 70) (lv' := [(5, .int (x7 * x11)), (4, .int p5), (0, .ref 232), (1, .int v1), (2, .int q.1), (3, .int q.2)]) (st' := [.ref 232, .int x13, .int (x7 * x11), .int q.1]) rfl ?_
      refine Ev.getR D_81 (by decide +kernel) F_6_9 T_6_2 (x := 233) (S_oR k_232 (by decide +kernel)) ?_
      refine Ev.seg D_81 [(.iload_n 3, 1)] (by decide +kernel) (j := 0) (pc' := 74) (lv' := [(5, .int (x7 * x11)), (4, .int p5), (0, .ref 232), (1, .int v1), (2, .int q.1), (3, .int q.2)]) (st' := [.int q.2, .ref 233, .int x13, .int (x7 * x11), .int q.1]) rfl ?_
      obtain ⟨x15, e15, g4⟩ := bd g4
      refine Ev.iald D_81 (by decide +kernel) (S_aI k_233 e15) ?_
      refine Ev.seg D_81 [(.isub, 1), (.imul, 1), (.iadd, 1), (.istore_n 2, 1)] (by decide +kernel) (j := 0) (pc' := 79) (lv' := [(2, .int (q.1 + ((x7 * x11) * (x13 - x15)))), (5, .int (x7 * x11)), (4, .int p5), (0, .ref 232), (1, .int v1), (3, .int q.2)]) (st' := []) rfl ?_
      cases g4
      exact Ev.sub2 j4 (subL_cons rfl (subL_cons rfl (subL_cons rfl (subL_cons rfl subL_nil))))
theorem gH_sumOf_h4_w {L d : Nat} (hd : 2 ≤ d + 1) {v1 : Int32} {s : mT} : ∀ (n : Nat) (q : Int32 × Int32) (r : Int32), wh n (gH_sumOf_h4 v1 s) q = some r → ∀ o, (fun r => Ev (d + 1) 81 85 [(2, .int r)] [] (uS L s) o) r → Ev (d + 1) 81 4 [(0, .ref 232), (1, .int v1), (2, .int q.1), (3, .int q.2)] [] (uS L s) o :=
  fun n q r h o hc => wh_ev (E := fun (q : Int32 × Int32) o => Ev (d + 1) 81 4 [(0, .ref 232), (1, .int v1), (2, .int q.1), (3, .int q.2)] [] (uS L s) o) (C := fun (r : Int32) o => (fun r => Ev (d + 1) 81 85 [(2, .int r)] [] (uS L s) o) r) (gH_sumOf_h4_ok hd  ) n q r h o hc
def gH_sumOf (v1 : Int32) (s : mT) : Option (Int32) :=
  (wh FU (gH_sumOf_h4 v1 s) ((0 : Int32), (0 : Int32))).bind fun x16 =>
  some (x16)
set_option maxRecDepth 8000 in
theorem gH_sumOf_ok {L d : Nat} (hd : 2 ≤ d) {v1 : Int32} {s : mT} {p : Int32} (h : gH_sumOf v1 s = some p) : Ev d 81 0 [(0, .ref 232), (1, .int v1)] [] (uS L s) (some (.int p), uS L s) := by
  obtain ⟨d, rfl⟩ : ∃ e, d = e + 1 := ⟨d - 1, by omega⟩
  obtain ⟨o, ho⟩ : ∃ o : Option Value × mS, o = (some (.int p), uS L s) := ⟨_, rfl⟩
  rw [← ho]
  unfold gH_sumOf at h
  refine Ev.seg D_81 [(.iconst 0, 1), (.istore_n 2, 1), (.iconst 0, 1), (.istore_n 3, 1)] (by decide +kernel) (j := 0) (pc' := 4) (lv' := [(3, .int (0 : Int32)), (2, .int (0 : Int32)), (0, .ref 232), (1, .int v1)]) (st' := []) rfl ?_
  obtain ⟨x16, w16, h⟩ := bd h
  have j16 : Ev (d + 1) 81 85 [(2, .int x16)] [] (uS L s) o := by
    clear w16
    refine Ev.seg D_81 [(.iload_n 2, 1)] (by decide +kernel) (j := 0) (pc' := 86) (lv' := [(2, .int x16)]) (st' := [.int x16]) rfl ?_
    cases h
    obtain rfl : o = _ := ho
    exact Ev.iret D_81 (by decide +kernel)
  exact Ev.sub (lv' := [(0, .ref 232), (1, .int v1), (2, .int (0 : Int32)), (3, .int (0 : Int32))]) (subL_cons rfl (subL_cons rfl (subL_cons rfl (subL_cons rfl subL_nil)))) (gH_sumOf_h4_w hd   _ _ _ w16 _ j16)
/- Survey forget: 84 -/
def gV_forget_h37 (v1 : Int32) (q : Int32 × mT) : Option ((Int32 × mT) ⊕ (mT)) :=
  if (5 : Int32) ≤ q.1 then
    some (.inr q.2)
  else
    if ¬ (v1 < 0 ∨ 5 ≤ v1.toNatClampNeg) then
      (wrI q.2 (220 + v1.toNatClampNeg) 5 q.1 (-1 : Int32)).bind fun s4 =>
      some (.inl (q.1 + (1 : Int32), s4))
    else none
set_option maxRecDepth 8000 in
theorem gV_forget_h37_ok {L d : Nat} (hd : 1 ≤ d + 1) {v1 : Int32} : ∀ (q : Int32 × mT) (x : (Int32 × mT) ⊕ (mT)), gV_forget_h37 v1 q = some x → ∀ o, sK (fun q => Ev (d + 1) 84 37 [(0, .ref 214), (1, .int v1), (2, .int q.1)] [] (uS L q.2) o) (fun r => Ev (d + 1) 84 57 [(0, .ref 214), (1, .int v1)] [] (uS L r) o) x → Ev (d + 1) 84 37 [(0, .ref 214), (1, .int v1), (2, .int q.1)] [] (uS L q.2) o := by
  intro q x h o ho
  unfold gV_forget_h37 at h
  refine Ev.seg D_84 [(.iload_n 2, 1), (.iconst 5, 1)] (by decide +kernel) (j := 0) (pc' := 39) (lv' := [(0, .ref 214), (1, .int v1), (2, .int q.1)]) (st' := [.int (5 : Int32), .int q.1]) rfl ?_
  refine Ev.icmp D_84 (c := .ge) (off := 18) (by decide +kernel) (t := 57) rfl (fun c1 => ?_) (fun c1 => ?_)
  · have c1 : (5 : Int32) ≤ q.1 := of_decide_eq_true c1
    rw [if_pos c1] at h
    cases h
    exact Ev.sub (lv' := [(0, .ref 214), (1, .int v1)]) (subL_cons rfl (subL_cons rfl subL_nil)) ho
  · have c1 : ¬ (5 : Int32) ≤ q.1 := of_decide_eq_false c1
    rw [if_neg c1] at h
    refine Ev.seg D_84 [(.aload_n 0, 1)] (by decide +kernel) (j := 0) (pc' := 43) (lv' := [(0, .ref 214), (1, .int v1), (2, .int q.1)]) (st' := [.ref 214]) rfl ?_
    refine Ev.getR D_84 (by decide +kernel) F_7_30 T_7_7 (x := 219) (S_oR k_214 (by decide +kernel)) ?_
    refine Ev.seg D_84 [(.iload_n 1, 1)] (by decide +kernel) (j := 0) (pc' := 47) (lv' := [(0, .ref 214), (1, .int v1), (2, .int q.1)]) (st' := [.int v1, .ref 219]) rfl ?_
    by_cases b47 : ¬ (v1 < 0 ∨ 5 ≤ v1.toNatClampNeg)
    rotate_left
    · rw [if_neg b47] at h; cases h
    rw [if_pos b47] at h
    refine Ev.aald D_84 (by decide +kernel) (kd := 26) ⟨by decide, by decide⟩ (x := (220 + v1.toNatClampNeg)) (S_aR k_219 b47 (lit_aa (e := 220) (n := 5) (by decide +kernel) b47)) ?_
    refine Ev.seg D_84 [(.iload_n 2, 1), (.iconst (-1), 1)] (by decide +kernel) (j := 0) (pc' := 50) (lv' := [(0, .ref 214), (1, .int v1), (2, .int q.1)]) (st' := [.int (-1 : Int32), .int q.1, .ref (220 + v1.toNatClampNeg)]) rfl ?_
    obtain ⟨s4, e4, h⟩ := bd h
    refine Ev.iast D_84 (by decide +kernel) (S_sI (lit_row (e := 220) (n := 5) (by decide +kernel) b47) e4) ?_
    refine Ev.seg D_84 [(.iinc 2 1, 3), (.goto (-17), 3)] (by decide +kernel) (j := 0) (pc' := 37) (lv' := [(2, .int (q.1 + (1 : Int32))), (0, .ref 214), (1, .int v1)]) (st' := []) rfl ?_
    cases h
    exact Ev.sub (lv' := [(0, .ref 214), (1, .int v1), (2, .int (q.1 + (1 : Int32)))]) (subL_cons rfl (subL_cons rfl (subL_cons rfl subL_nil))) ho
theorem gV_forget_h37_w {L d : Nat} (hd : 1 ≤ d + 1) {v1 : Int32} : ∀ (n : Nat) (q : Int32 × mT) (r : mT), wh n (gV_forget_h37 v1) q = some r → ∀ o, (fun r => Ev (d + 1) 84 57 [(0, .ref 214), (1, .int v1)] [] (uS L r) o) r → Ev (d + 1) 84 37 [(0, .ref 214), (1, .int v1), (2, .int q.1)] [] (uS L q.2) o :=
  fun n q r h o hc => wh_ev (E := fun (q : Int32 × mT) o => Ev (d + 1) 84 37 [(0, .ref 214), (1, .int v1), (2, .int q.1)] [] (uS L q.2) o) (C := fun (r : mT) o => (fun r => Ev (d + 1) 84 57 [(0, .ref 214), (1, .int v1)] [] (uS L r) o) r) (gV_forget_h37_ok hd  ) n q r h o hc
def gV_forget_h2  (q : Int32 × mT) : Option ((Int32 × mT) ⊕ (mT)) :=
  if (5 : Int32) ≤ q.1 then
    some (.inr q.2)
  else
    (wrI q.2 215 5 q.1 (0 : Int32)).bind fun s3 =>
    (wrI s3 216 5 q.1 (-1 : Int32)).bind fun s5 =>
    (wrI s5 217 5 q.1 (-1 : Int32)).bind fun s7 =>
    (wrI s7 218 5 q.1 (0 : Int32)).bind fun s9 =>
    (wh FU (gV_forget_h37 q.1) ((0 : Int32), s9)).bind fun x10 =>
    some (.inl (q.1 + (1 : Int32), x10))
set_option maxRecDepth 8000 in
theorem gV_forget_h2_ok {L d : Nat} (hd : 1 ≤ d + 1)  : ∀ (q : Int32 × mT) (x : (Int32 × mT) ⊕ (mT)), gV_forget_h2 q = some x → ∀ o, sK (fun q => Ev (d + 1) 84 2 [(0, .ref 214), (1, .int q.1)] [] (uS L q.2) o) (fun r => Ev (d + 1) 84 63 [] [] (uS L r) o) x → Ev (d + 1) 84 2 [(0, .ref 214), (1, .int q.1)] [] (uS L q.2) o := by
  intro q x h o ho
  unfold gV_forget_h2 at h
  refine Ev.seg D_84 [(.iload_n 1, 1), (.iconst 5, 1)] (by decide +kernel) (j := 0) (pc' := 4) (lv' := [(0, .ref 214), (1, .int q.1)]) (st' := [.int (5 : Int32), .int q.1]) rfl ?_
  refine Ev.icmp D_84 (c := .ge) (off := 59) (by decide +kernel) (t := 63) rfl (fun c1 => ?_) (fun c1 => ?_)
  · have c1 : (5 : Int32) ≤ q.1 := of_decide_eq_true c1
    rw [if_pos c1] at h
    cases h
    exact Ev.sub (lv' := []) subL_nil ho
  · have c1 : ¬ (5 : Int32) ≤ q.1 := of_decide_eq_false c1
    rw [if_neg c1] at h
    refine Ev.seg D_84 [(.aload_n 0, 1)] (by decide +kernel) (j := 0) (pc' := 8) (lv' := [(0, .ref 214), (1, .int q.1)]) (st' := [.ref 214]) rfl ?_
    refine Ev.getR D_84 (by decide +kernel) F_7_15 T_7_3 (x := 215) (S_oR k_214 (by decide +kernel)) ?_
    refine Ev.seg D_84 [(.iload_n 1, 1), (.iconst 0, 1)] (by decide +kernel) (j := 0) (pc' := 13) (lv' := [(0, .ref 214), (1, .int q.1)]) (st' := [.int (0 : Int32), .int q.1, .ref 215]) rfl ?_
    obtain ⟨s3, e3, h⟩ := bd h
    refine Ev.iast D_84 (by decide +kernel) (S_sI k_215 e3) ?_
    refine Ev.seg D_84 [(.aload_n 0, 1)] (by decide +kernel) (j := 0) (pc' := 15) (lv' := [(0, .ref 214), (1, .int q.1)]) (st' := [.ref 214]) rfl ?_
    refine Ev.getR D_84 (by decide +kernel) F_7_19 T_7_4 (x := 216) (S_oR k_214 (by decide +kernel)) ?_
    refine Ev.seg D_84 [(.iload_n 1, 1), (.iconst (-1), 1)] (by decide +kernel) (j := 0) (pc' := 20) (lv' := [(0, .ref 214), (1, .int q.1)]) (st' := [.int (-1 : Int32), .int q.1, .ref 216]) rfl ?_
    obtain ⟨s5, e5, h⟩ := bd h
    refine Ev.iast D_84 (by decide +kernel) (S_sI k_216 e5) ?_
    refine Ev.seg D_84 [(.aload_n 0, 1)] (by decide +kernel) (j := 0) (pc' := 22) (lv' := [(0, .ref 214), (1, .int q.1)]) (st' := [.ref 214]) rfl ?_
    refine Ev.getR D_84 (by decide +kernel) F_7_22 T_7_5 (x := 217) (S_oR k_214 (by decide +kernel)) ?_
    refine Ev.seg D_84 [(.iload_n 1, 1), (.iconst (-1), 1)] (by decide +kernel) (j := 0) (pc' := 27) (lv' := [(0, .ref 214), (1, .int q.1)]) (st' := [.int (-1 : Int32), .int q.1, .ref 217]) rfl ?_
    obtain ⟨s7, e7, h⟩ := bd h
    refine Ev.iast D_84 (by decide +kernel) (S_sI k_217 e7) ?_
    refine Ev.seg D_84 [(.aload_n 0, 1)] (by decide +kernel) (j := 0) (pc' := 29) (lv' := [(0, .ref 214), (1, .int q.1)]) (st' := [.ref 214]) rfl ?_
    refine Ev.getR D_84 (by decide +kernel) F_7_25 T_7_6 (x := 218) (S_oR k_214 (by decide +kernel)) ?_
    refine Ev.seg D_84 [(.iload_n 1, 1), (.iconst 0, 1)] (by decide +kernel) (j := 0) (pc' := 34) (lv' := [(0, .ref 214), (1, .int q.1)]) (st' := [.int (0 : Int32), .int q.1, .ref 218]) rfl ?_
    obtain ⟨s9, e9, h⟩ := bd h
    refine Ev.iast D_84 (by decide +kernel) (S_sI k_218 e9) ?_
    refine Ev.seg D_84 [(.iconst 0, 1), (.istore_n 2, 1)] (by decide +kernel) (j := 0) (pc' := 37) (lv' := [(2, .int (0 : Int32)), (0, .ref 214), (1, .int q.1)]) (st' := []) rfl ?_
    obtain ⟨x10, w10, h⟩ := bd h
    have j10 : Ev (d + 1) 84 57 [(0, .ref 214), (1, .int q.1)] [] (uS L x10) o := by
      clear w10
      refine Ev.seg D_84 [(.iinc 1 1, 3), (.goto (-58), 3)] (by decide +kernel) (j := 0) (pc' := 2) (lv' := [(1, .int (q.1 + (1 : Int32))), (0, .ref 214)]) (st' := []) rfl ?_
      cases h
      exact Ev.sub (lv' := [(0, .ref 214), (1, .int (q.1 + (1 : Int32)))]) (subL_cons rfl (subL_cons rfl subL_nil)) ho
    exact Ev.sub (lv' := [(0, .ref 214), (1, .int q.1), (2, .int (0 : Int32))]) (subL_cons rfl (subL_cons rfl (subL_cons rfl subL_nil))) (gV_forget_h37_w hd   _ _ _ w10 _ j10)
theorem gV_forget_h2_w {L d : Nat} (hd : 1 ≤ d + 1)  : ∀ (n : Nat) (q : Int32 × mT) (r : mT), wh n (gV_forget_h2) q = some r → ∀ o, (fun r => Ev (d + 1) 84 63 [] [] (uS L r) o) r → Ev (d + 1) 84 2 [(0, .ref 214), (1, .int q.1)] [] (uS L q.2) o :=
  fun n q r h o hc => wh_ev (E := fun (q : Int32 × mT) o => Ev (d + 1) 84 2 [(0, .ref 214), (1, .int q.1)] [] (uS L q.2) o) (C := fun (r : mT) o => (fun r => Ev (d + 1) 84 63 [] [] (uS L r) o) r) (gV_forget_h2_ok hd  ) n q r h o hc
def gV_forget (s : mT) : Option (mT) :=
  (wh FU (gV_forget_h2) ((0 : Int32), s)).bind fun x11 =>
  some (x11)
set_option maxRecDepth 8000 in
theorem gV_forget_ok {L d : Nat} (hd : 1 ≤ d) {s : mT} {p : mT} (h : gV_forget s = some p) : Ev d 84 0 [(0, .ref 214)] [] (uS L s) (none, uS L p) := by
  obtain ⟨d, rfl⟩ : ∃ e, d = e + 1 := ⟨d - 1, by omega⟩
  obtain ⟨o, ho⟩ : ∃ o : Option Value × mS, o = (none, uS L p) := ⟨_, rfl⟩
  rw [← ho]
  unfold gV_forget at h
  refine Ev.seg D_84 [(.iconst 0, 1), (.istore_n 1, 1)] (by decide +kernel) (j := 0) (pc' := 2) (lv' := [(1, .int (0 : Int32)), (0, .ref 214)]) (st' := []) rfl ?_
  obtain ⟨x11, w11, h⟩ := bd h
  have j11 : Ev (d + 1) 84 63 [] [] (uS L x11) o := by
    clear w11
    cases h
    obtain rfl : o = _ := ho
    exact Ev.vret D_84 (by decide +kernel)
  exact Ev.sub (lv' := [(0, .ref 214), (1, .int (0 : Int32))]) (subL_cons rfl (subL_cons rfl subL_nil)) (gV_forget_h2_w hd   _ _ _ w11 _ j11)
