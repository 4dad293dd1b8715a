/-! The program's methods as functions of ints and longs, each with its certificate (wip/whole/gen_emit.py writes this) -/
/- PennantLawn seers: 123 -/
def gL_seers_h19 (v1 : Int32) (s : mT) (q : Int32 × Int32) : Option ((Int32 × Int32) ⊕ (Int32)) :=
  if (s.1 16 6) ≤ q.2 then
    some (.inr q.1)
  else
    (gR_sees 16 q.2 v1 s).bind fun p5 =>
    (
      if p5 = 0 then
        some (q.1)
      else
        some (q.1 ||| ((1 : Int32) <<< (q.2 &&& 31))) : Option (Int32)).bind fun x6 =>
    some (.inl (x6, q.2 + (1 : Int32)))
set_option maxRecDepth 8000 in
theorem gL_seers_h19_ok {L d : Nat} (hd : 2 ≤ d + 1) {v1 : Int32} {s : mT} : ∀ (q : Int32 × Int32) (x : (Int32 × Int32) ⊕ (Int32)), gL_seers_h19 v1 s q = some x → ∀ o, sK (fun q => Ev (d + 1) 123 19 [(0, .ref 0), (1, .int v1), (2, .int q.1), (3, .int q.2)] [] (uS L s) o) (fun r => Ev (d + 1) 123 54 [(2, .int r)] [] (uS L s) o) x → Ev (d + 1) 123 19 [(0, .ref 0), (1, .int v1), (2, .int q.1), (3, .int q.2)] [] (uS L s) o := by
  intro q x h o ho
  unfold gL_seers_h19 at h
  refine Ev.seg D_123 [(.iload_n 3, 1), (.aload_n 0, 1)] (by decide +kernel) (j := 0) (pc' := 21) (lv' := [(0, .ref 0), (1, .int v1), (2, .int q.1), (3, .int q.2)]) (st' := [.ref 0, .int q.2]) rfl ?_
  refine Ev.getR D_123 (by decide +kernel) F_9_28 T_9_2 (x := 16) (S_oR k_0 (by decide +kernel)) ?_
  refine Ev.getI D_123 (by decide +kernel) F_9_218 (Or.inl T_2_6) (S_oI k_16) ?_
  refine Ev.icmp D_123 (c := .ge) (off := 27) (by decide +kernel) (t := 54) rfl (fun c3 => ?_) (fun c3 => ?_)
  · have c3 : (s.1 16 6) ≤ q.2 := of_decide_eq_true c3
    rw [if_pos c3] at h
    cases h
    exact Ev.sub (lv' := [(2, .int q.1)]) (subL_cons rfl subL_nil) ho
  · have c3 : ¬ (s.1 16 6) ≤ q.2 := of_decide_eq_false c3
    rw [if_neg c3] at h
    refine Ev.seg D_123 [(.aload_n 0, 1)] (by decide +kernel) (j := 0) (pc' := 31) (lv' := [(0, .ref 0), (1, .int v1), (2, .int q.1), (3, .int q.2)]) (st' := [.ref 0]) rfl ?_
    refine Ev.getR D_123 (by decide +kernel) F_9_28 T_9_2 (x := 16) (S_oR k_0 (by decide +kernel)) ?_
    refine Ev.seg D_123 [(.iload_n 3, 1), (.iload_n 1, 1)] (by decide +kernel) (j := 0) (pc' := 36) (lv' := [(0, .ref 0), (1, .int v1), (2, .int q.1), (3, .int q.2)]) (st' := [.int v1, .int q.2, .ref 16]) rfl ?_
    obtain ⟨p5, e5, h⟩ := bd h
    refine Ev.callv D_123 E_45 (by decide +kernel) C_9_221 16 [.int q.2, .int v1] (r := []) rfl (gd_o k_16 (by decide)) rfl (Nat.le_of_ble_eq_true rfl) (Nat.le_of_ble_eq_true rfl) (gR_sees_ok (by omega) (by decide) e5) ?_
    obtain ⟨x6, g6, h⟩ := bd h
    have j6 : Ev (d + 1) 123 48 [(0, .ref 0), (1, .int v1), (2, .int x6), (3, .int q.2)] [] (uS L s) o := by
      clear g6
      refine Ev.seg D_123 [(.iinc 3 1, 3), (.goto (-32), 3)] (by decide +kernel) (j := 0) (pc' := 19) (lv' := [(3, .int (q.2 + (1 : Int32))), (0, .ref 0), (1, .int v1), (2, .int x6)]) (st' := []) rfl ?_
      cases h
      exact Ev.sub (lv' := [(0, .ref 0), (1, .int v1), (2, .int (x6)), (3, .int (q.2 + (1 : Int32)))]) (subL_cons rfl (subL_cons rfl (subL_cons rfl (subL_cons rfl subL_nil)))) ho
    clear h
    refine Ev.if_ D_123 (c := .eq) (off := 9) (by decide +kernel) (t := 48) rfl (fun c6 => ?_) (fun c6 => ?_)
    · have c6 : p5 = 0 := of_decide_eq_true c6
      rw [if_pos c6] at g6
      cases g6
      exact Ev.sub2 j6 (subL_cons rfl (subL_cons rfl (subL_cons rfl (subL_cons rfl subL_nil))))
    · have c6 : ¬ p5 = 0 := of_decide_eq_false c6
      rw [if_neg c6] at g6
      refine Ev.seg D_123 [(.iload_n 2, 1), (.iconst 1, 1), (.iload_n 3, 1), (.ishl, 1), (.ior, 1), (.istore_n 2, 1)] (by decide +kernel) (j := 0) (pc' := 48) (lv' := [(2, .int (q.1 ||| ((1 : Int32) <<< (q.2 &&& 31)))), (0, .ref 0), (1, .int v1), (3, .int q.2)]) (st' := []) rfl ?_
      cases g6
      exact Ev.sub2 j6 (subL_cons rfl (subL_cons rfl (subL_cons rfl (subL_cons rfl subL_nil))))
theorem gL_seers_h19_w {L d : Nat} (hd : 2 ≤ d + 1) {v1 : Int32} {s : mT} : ∀ (n : Nat) (q : Int32 × Int32) (r : Int32), wh n (gL_seers_h19 v1 s) q = some r → ∀ o, (fun r => Ev (d + 1) 123 54 [(2, .int r)] [] (uS L s) o) r → Ev (d + 1) 123 19 [(0, .ref 0), (1, .int v1), (2, .int q.1), (3, .int q.2)] [] (uS L s) o :=
  fun n q r h o hc => wh_ev (E := fun (q : Int32 × Int32) o => Ev (d + 1) 123 19 [(0, .ref 0), (1, .int v1), (2, .int q.1), (3, .int q.2)] [] (uS L s) o) (C := fun (r : Int32) o => (fun r => Ev (d + 1) 123 54 [(2, .int r)] [] (uS L s) o) r) (gL_seers_h19_ok hd  ) n q r h o hc
def gL_seers (v1 : Int32) (s : mT) : Option (Int32) :=
  (gR_hasBoat 16 v1.toInt64 s).bind fun p2 =>
  if p2 = 0 then
    some ((-2 : Int32))
  else
    (wh FU (gL_seers_h19 v1 s) ((0 : Int32), (0 : Int32))).bind fun x7 =>
    some (x7)
set_option maxRecDepth 8000 in
theorem gL_seers_ok {L d : Nat} (hd : 2 ≤ d) {v1 : Int32} {s : mT} {p : Int32} (h : gL_seers v1 s = some p) : Ev d 123 0 [(0, .ref 0), (1, .int v1)] [] (uS L s) (some (.int p), uS L s) := by
  obtain ⟨d, rfl⟩ : ∃ e, d = e + 1 := ⟨d - 1, by omega⟩
  obtain ⟨o, ho⟩ : ∃ o : Option Value × mS, o = (some (.int p), uS L s) := ⟨_, rfl⟩
  rw [← ho]
  unfold gL_seers at h
  refine Ev.seg D_123 [(.aload_n 0, 1)] (by decide +kernel) (j := 0) (pc' := 1) (lv' := [(0, .ref 0), (1, .int v1)]) (st' := [.ref 0]) rfl ?_
  refine Ev.getR D_123 (by decide +kernel) F_9_28 T_9_2 (x := 16) (S_oR k_0 (by decide +kernel)) ?_
  refine Ev.seg D_123 [(.iload_n 1, 1), (.i2l, 1)] (by decide +kernel) (j := 0) (pc' := 6) (lv' := [(0, .ref 0), (1, .int v1)]) (st' := [.long v1.toInt64, .ref 16]) rfl ?_
  obtain ⟨p2, e2, h⟩ := bd h
  refine Ev.callv D_123 E_39 (by decide +kernel) C_9_119 16 [.long v1.toInt64] (r := []) rfl (gd_o k_16 (by decide)) rfl (Nat.le_of_ble_eq_true rfl) (Nat.le_of_ble_eq_true rfl) (gR_hasBoat_ok (by omega) (by decide) e2) ?_
  refine Ev.if_ D_123 (c := .ne) (off := 6) (by decide +kernel) (t := 15) rfl (fun c3 => ?_) (fun c3 => ?_)
  · have c3 : ¬ p2 = 0 := of_decide_eq_true c3
    rw [if_neg c3] at h
    refine Ev.seg D_123 [(.iconst 0, 1), (.istore_n 2, 1), (.iconst 0, 1), (.istore_n 3, 1)] (by decide +kernel) (j := 0) (pc' := 19) (lv' := [(3, .int (0 : Int32)), (2, .int (0 : Int32)), (0, .ref 0), (1, .int v1)]) (st' := []) rfl ?_
    obtain ⟨x7, w7, h⟩ := bd h
    have j7 : Ev (d + 1) 123 54 [(2, .int x7)] [] (uS L s) o := by
      clear w7
      refine Ev.seg D_123 [(.iload_n 2, 1)] (by decide +kernel) (j := 0) (pc' := 55) (lv' := [(2, .int x7)]) (st' := [.int x7]) rfl ?_
      cases h
      obtain rfl : o = _ := ho
      exact Ev.iret D_123 (by decide +kernel)
    exact Ev.sub (lv' := [(0, .ref 0), (1, .int v1), (2, .int (0 : Int32)), (3, .int (0 : Int32))]) (subL_cons rfl (subL_cons rfl (subL_cons rfl (subL_cons rfl subL_nil)))) (gL_seers_h19_w hd   _ _ _ w7 _ j7)
  · have c3 : p2 = 0 := Decidable.of_not_not (of_decide_eq_false c3)
    rw [if_pos c3] at h
    refine Ev.seg D_123 [(.bipush (-2), 2)] (by decide +kernel) (j := 0) (pc' := 14) (lv' := [(0, .ref 0), (1, .int v1)]) (st' := [.int (-2 : Int32)]) rfl ?_
    cases h
    obtain rfl : o = _ := ho
    exact Ev.iret D_123 (by decide +kernel)
/- PennantLawn order: 124 -/
def gL_order_h17 (v1 : Int32) (v2 : Int32) (s : mT) (q : Int32) : Option ((Int32) ⊕ (Int32)) :=
  if (s.1 16 5) ≤ q then
    some (.inr ((-2 : Int32)))
  else
    (gC_rank 28 q v2 s).bind fun p6 =>
    if p6 = v1 then
      some (.inr (q))
    else
      some (.inl (q + (1 : Int32)))
set_option maxRecDepth 8000 in
theorem gL_order_h17_ok {L d : Nat} (hd : 3 ≤ d + 1) {v1 : Int32} {v2 : Int32} {s : mT} : ∀ (q : Int32) (x : (Int32) ⊕ (Int32)), gL_order_h17 v1 v2 s q = some x → ∀ o, sK (fun q => Ev (d + 1) 124 17 [(0, .ref 0), (1, .int v1), (2, .int v2), (3, .int q)] [] (uS L s) o) (fun r => o = (some (.int r), uS L s)) x → Ev (d + 1) 124 17 [(0, .ref 0), (1, .int v1), (2, .int v2), (3, .int q)] [] (uS L s) o := by
  intro q x h o ho
  unfold gL_order_h17 at h
  refine Ev.seg D_124 [(.iload_n 3, 1), (.aload_n 0, 1)] (by decide +kernel) (j := 0) (pc' := 19) (lv' := [(0, .ref 0), (1, .int v1), (2, .int v2), (3, .int q)]) (st' := [.ref 0, .int q]) rfl ?_
  refine Ev.getR D_124 (by decide +kernel) F_9_28 T_9_2 (x := 16) (S_oR k_0 (by decide +kernel)) ?_
  refine Ev.getI D_124 (by decide +kernel) F_9_190 (Or.inl T_2_5) (S_oI k_16) ?_
  refine Ev.icmp D_124 (c := .ge) (off := 24) (by decide +kernel) (t := 49) rfl (fun c3 => ?_) (fun c3 => ?_)
  · have c3 : (s.1 16 5) ≤ q := of_decide_eq_true c3
    rw [if_pos c3] at h
    refine Ev.seg D_124 [(.bipush (-2), 2)] (by decide +kernel) (j := 0) (pc' := 51) (lv' := [(0, .ref 0), (1, .int v1), (2, .int v2), (3, .int q)]) (st' := [.int (-2 : Int32)]) rfl ?_
    cases h
    obtain rfl : o = _ := ho
    exact Ev.iret D_124 (by decide +kernel)
  · have c3 : ¬ (s.1 16 5) ≤ q := of_decide_eq_false c3
    rw [if_neg c3] at h
    refine Ev.seg D_124 [(.aload_n 0, 1)] (by decide +kernel) (j := 0) (pc' := 29) (lv' := [(0, .ref 0), (1, .int v1), (2, .int v2), (3, .int q)]) (st' := [.ref 0]) rfl ?_
    refine Ev.getR D_124 (by decide +kernel) F_9_37 T_9_5 (x := 28) (S_oR k_0 (by decide +kernel)) ?_
    refine Ev.seg D_124 [(.iload_n 3, 1), (.iload_n 2, 1)] (by decide +kernel) (j := 0) (pc' := 34) (lv' := [(0, .ref 0), (1, .int v1), (2, .int v2), (3, .int q)]) (st' := [.int v2, .int q, .ref 28]) rfl ?_
    obtain ⟨p6, e6, h⟩ := bd h
    refine Ev.callv D_124 E_22 (by decide +kernel) C_9_224 28 [.int q, .int v2] (r := []) rfl (gd_o k_28 (by decide)) rfl (Nat.le_of_ble_eq_true rfl) (Nat.le_of_ble_eq_true rfl) (gC_rank_ok (by omega) (by decide) e6) ?_
    refine Ev.seg D_124 [(.iload_n 1, 1)] (by decide +kernel) (j := 0) (pc' := 38) (lv' := [(0, .ref 0), (1, .int v1), (2, .int v2), (3, .int q)]) (st' := [.int v1, .int p6]) rfl ?_
    refine Ev.icmp D_124 (c := .ne) (off := 5) (by decide +kernel) (t := 43) rfl (fun c7 => ?_) (fun c7 => ?_)
    · have c7 : ¬ p6 = v1 := of_decide_eq_true c7
      rw [if_neg c7] at h
      refine Ev.seg D_124 [(.iinc 3 1, 3), (.goto (-29), 3)] (by decide +kernel) (j := 0) (pc' := 17) (lv' := [(3, .int (q + (1 : Int32))), (0, .ref 0), (1, .int v1), (2, .int v2)]) (st' := []) rfl ?_
      cases h
      exact Ev.sub (lv' := [(0, .ref 0), (1, .int v1), (2, .int v2), (3, .int (q + (1 : Int32)))]) (subL_cons rfl (subL_cons rfl (subL_cons rfl (subL_cons rfl subL_nil)))) ho
    · have c7 : p6 = v1 := Decidable.of_not_not (of_decide_eq_false c7)
      rw [if_pos c7] at h
      refine Ev.seg D_124 [(.iload_n 3, 1)] (by decide +kernel) (j := 0) (pc' := 42) (lv' := [(0, .ref 0), (1, .int v1), (2, .int v2), (3, .int q)]) (st' := [.int q]) rfl ?_
      cases h
      obtain rfl : o = _ := ho
      exact Ev.iret D_124 (by decide +kernel)
theorem gL_order_h17_w {L d : Nat} (hd : 3 ≤ d + 1) {v1 : Int32} {v2 : Int32} {s : mT} : ∀ (n : Nat) (q : Int32) (r : Int32), wh n (gL_order_h17 v1 v2 s) q = some r → ∀ o, (fun r => o = (some (.int r), uS L s)) r → Ev (d + 1) 124 17 [(0, .ref 0), (1, .int v1), (2, .int v2), (3, .int q)] [] (uS L s) o :=
  fun n q r h o hc => wh_ev (E := fun (q : Int32) o => Ev (d + 1) 124 17 [(0, .ref 0), (1, .int v1), (2, .int v2), (3, .int q)] [] (uS L s) o) (C := fun (r : Int32) o => (fun r => o = (some (.int r), uS L s)) r) (gL_order_h17_ok hd  ) n q r h o hc
def gL_order (v1 : Int32) (v2 : Int32) (s : mT) : Option (Int32) :=
  (gR_hasStep 16 v2.toInt64 s).bind fun p2 =>
  if p2 = 0 then
    some ((-2 : Int32))
  else
    wh FU (gL_order_h17 v1 v2 s) (0 : Int32)
set_option maxRecDepth 8000 in
theorem gL_order_ok {L d : Nat} (hd : 3 ≤ d) {v1 : Int32} {v2 : Int32} {s : mT} {p : Int32} (h : gL_order v1 v2 s = some p) : Ev d 124 0 [(0, .ref 0), (1, .int v1), (2, .int v2)] [] (uS L s) (some (.int p), uS L s) := by
  obtain ⟨d, rfl⟩ : ∃ e, d = e + 1 := ⟨d - 1, by omega⟩
  obtain ⟨o, ho⟩ : ∃ o : Option Value × mS, o = (some (.int p), uS L s) := ⟨_, rfl⟩
  rw [← ho]
  unfold gL_order at h
  refine Ev.seg D_124 [(.aload_n 0, 1)] (by decide +kernel) (j := 0) (pc' := 1) (lv' := [(0, .ref 0), (1, .int v1), (2, .int v2)]) (st' := [.ref 0]) rfl ?_
  refine Ev.getR D_124 (by decide +kernel) F_9_28 T_9_2 (x := 16) (S_oR k_0 (by decide +kernel)) ?_
  refine Ev.seg D_124 [(.iload_n 2, 1), (.i2l, 1)] (by decide +kernel) (j := 0) (pc' := 6) (lv' := [(0, .ref 0), (1, .int v1), (2, .int v2)]) (st' := [.long v2.toInt64, .ref 16]) rfl ?_
  obtain ⟨p2, e2, h⟩ := bd h
  refine Ev.callv D_124 E_42 (by decide +kernel) C_9_158 16 [.long v2.toInt64] (r := []) rfl (gd_o k_16 (by decide)) rfl (Nat.le_of_ble_eq_true rfl) (Nat.le_of_ble_eq_true rfl) (gR_hasStep_ok (by omega) (by decide) e2) ?_
  refine Ev.if_ D_124 (c := .ne) (off := 6) (by decide +kernel) (t := 15) rfl (fun c3 => ?_) (fun c3 => ?_)
  · have c3 : ¬ p2 = 0 := of_decide_eq_true c3
    rw [if_neg c3] at h
    refine Ev.seg D_124 [(.iconst 0, 1), (.istore_n 3, 1)] (by decide +kernel) (j := 0) (pc' := 17) (lv' := [(3, .int (0 : Int32)), (0, .ref 0), (1, .int v1), (2, .int v2)]) (st' := []) rfl ?_
    exact Ev.sub (lv' := [(0, .ref 0), (1, .int v1), (2, .int v2), (3, .int (0 : Int32))]) (subL_cons rfl (subL_cons rfl (subL_cons rfl (subL_cons rfl subL_nil)))) (gL_order_h17_w hd   _ _ _ h _ ho)
  · have c3 : p2 = 0 := Decidable.of_not_not (of_decide_eq_false c3)
    rw [if_pos c3] at h
    refine Ev.seg D_124 [(.bipush (-2), 2)] (by decide +kernel) (j := 0) (pc' := 14) (lv' := [(0, .ref 0), (1, .int v1), (2, .int v2)]) (st' := [.int (-2 : Int32)]) rfl ?_
    cases h
    obtain rfl : o = _ := ho
    exact Ev.iret D_124 (by decide +kernel)
/- PennantLawn even: 125 -/
def gL_even_h32 (v1 : Int32) (v2 : Int32) (s : mT) (q : Int32 × Int32) : Option ((Int32 × Int32) ⊕ (Int32)) :=
  if (s.1 16 0) < q.2 then
    some (.inr q.1)
  else
    if ¬ (q.2 < 0 ∨ 21 ≤ q.2.toNatClampNeg) then
      (rdI (s.1 (56 + q.2.toNatClampNeg)) 5 v1).bind fun x7 =>
      if ¬ (q.2 < 0 ∨ 21 ≤ q.2.toNatClampNeg) then
        (rdI (s.1 (56 + q.2.toNatClampNeg)) 5 v2).bind fun x11 =>
        (
          if x7 = x11 then
            some (q.1 + (1 : Int32))
          else
            some (q.1) : Option (Int32)).bind fun x12 =>
        some (.inl (x12, q.2 + (1 : Int32)))
      else none
    else none
set_option maxRecDepth 8000 in
theorem gL_even_h32_ok {L d : Nat} (hd : 2 ≤ d + 1) {v1 : Int32} {v2 : Int32} {s : mT} : ∀ (q : Int32 × Int32) (x : (Int32 × Int32) ⊕ (Int32)), gL_even_h32 v1 v2 s q = some x → ∀ o, sK (fun q => Ev (d + 1) 125 32 [(0, .ref 0), (1, .int v1), (2, .int v2), (3, .int q.1), (4, .int q.2)] [] (uS L s) o) (fun r => Ev (d + 1) 125 80 [(3, .int r)] [] (uS L s) o) x → Ev (d + 1) 125 32 [(0, .ref 0), (1, .int v1), (2, .int v2), (3, .int q.1), (4, .int q.2)] [] (uS L s) o := by
  intro q x h o ho
  unfold gL_even_h32 at h
  refine Ev.seg D_125 [(.iload 4, 2), (.aload_n 0, 1)] (by decide +kernel) (j := 0) (pc' := 35) (lv' := [(0, .ref 0), (1, .int v1), (2, .int v2), (3, .int q.1), (4, .int q.2)]) (st' := [.ref 0, .int q.2]) rfl ?_
  refine Ev.getR D_125 (by decide +kernel) F_9_28 T_9_2 (x := 16) (S_oR k_0 (by decide +kernel)) ?_
  refine Ev.getI D_125 (by decide +kernel) F_9_187 (Or.inl T_2_0) (S_oI k_16) ?_
  refine Ev.icmp D_125 (c := .gt) (off := 39) (by decide +kernel) (t := 80) rfl (fun c3 => ?_) (fun c3 => ?_)
  · have c3 : (s.1 16 0) < q.2 := of_decide_eq_true c3
    rw [if_pos c3] at h
    cases h
    exact Ev.sub (lv' := [(3, .int q.1)]) (subL_cons rfl subL_nil) ho
  · have c3 : ¬ (s.1 16 0) < q.2 := of_decide_eq_false c3
    rw [if_neg c3] at h
    refine Ev.seg D_125 [(.aload_n 0, 1)] (by decide +kernel) (j := 0) (pc' := 45) (lv' := [(0, .ref 0), (1, .int v1), (2, .int v2), (3, .int q.1), (4, .int q.2)]) (st' := [.ref 0]) rfl ?_
    refine Ev.getR D_125 (by decide +kernel) F_9_37 T_9_5 (x := 28) (S_oR k_0 (by decide +kernel)) ?_
    refine Ev.getR D_125 (by decide +kernel) F_9_161 T_0_7 (x := 55) (S_oR k_28 (by decide +kernel)) ?_
    refine Ev.seg D_125 [(.iload 4, 2)] (by decide +kernel) (j := 0) (pc' := 53) (lv' := [(0, .ref 0), (1, .int v1), (2, .int v2), (3, .int q.1), (4, .int q.2)]) (st' := [.int q.2, .ref 55]) rfl ?_
    by_cases b53 : ¬ (q.2 < 0 ∨ 21 ≤ q.2.toNatClampNeg)
    rotate_left
    · rw [if_neg b53] at h; cases h
    rw [if_pos b53] at h
    refine Ev.aald D_125 (by decide +kernel) (kd := 26) ⟨by decide, by decide⟩ (x := (56 + q.2.toNatClampNeg)) (S_aR k_55 b53 (lit_aa (e := 56) (n := 21) (by decide +kernel) b53)) ?_
    refine Ev.seg D_125 [(.iload_n 1, 1)] (by decide +kernel) (j := 0) (pc' := 55) (lv' := [(0, .ref 0), (1, .int v1), (2, .int v2), (3, .int q.1), (4, .int q.2)]) (st' := [.int v1, .ref (56 + q.2.toNatClampNeg)]) rfl ?_
    obtain ⟨x7, e7, h⟩ := bd h
    refine Ev.iald D_125 (by decide +kernel) (S_aI (lit_row (e := 56) (n := 21) (by decide +kernel) b53) e7) ?_
    refine Ev.seg D_125 [(.aload_n 0, 1)] (by decide +kernel) (j := 0) (pc' := 57) (lv' := [(0, .ref 0), (1, .int v1), (2, .int v2), (3, .int q.1), (4, .int q.2)]) (st' := [.ref 0, .int x7]) rfl ?_
    refine Ev.getR D_125 (by decide +kernel) F_9_37 T_9_5 (x := 28) (S_oR k_0 (by decide +kernel)) ?_
    refine Ev.getR D_125 (by decide +kernel) F_9_161 T_0_7 (x := 55) (S_oR k_28 (by decide +kernel)) ?_
    refine Ev.seg D_125 [(.iload 4, 2)] (by decide +kernel) (j := 0) (pc' := 65) (lv' := [(0, .ref 0), (1, .int v1), (2, .int v2), (3, .int q.1), (4, .int q.2)]) (st' := [.int q.2, .ref 55, .int x7]) rfl ?_
    by_cases b65 : ¬ (q.2 < 0 ∨ 21 ≤ q.2.toNatClampNeg)
    rotate_left
    · rw [if_neg b65] at h; cases h
    rw [if_pos b65] at h
    refine Ev.aald D_125 (by decide +kernel) (kd := 26) ⟨by decide, by decide⟩ (x := (56 + q.2.toNatClampNeg)) (S_aR k_55 b65 (lit_aa (e := 56) (n := 21) (by decide +kernel) b65)) ?_
    refine Ev.seg D_125 [(.iload_n 2, 1)] (by decide +kernel) (j := 0) (pc' := 67) (lv' := [(0, .ref 0), (1, .int v1), (2, .int v2), (3, .int q.1), (4, .int q.2)]) (st' := [.int v2, .ref (56 + q.2.toNatClampNeg), .int x7]) rfl ?_
    obtain ⟨x11, e11, h⟩ := bd h
    refine Ev.iald D_125 (by decide +kernel) (S_aI (lit_row (e := 56) (n := 21) (by decide +kernel) b65) e11) ?_
    obtain ⟨x12, g12, h⟩ := bd h
    have j12 : Ev (d + 1) 125 74 [(0, .ref 0), (1, .int v1), (2, .int v2), (3, .int x12), (4, .int q.2)] [] (uS L s) o := by
      clear g12
      refine Ev.seg D_125 [(.iinc 4 1, 3), (.goto (-45), 3)] (by decide +kernel) (j := 0) (pc' := 32) (lv' := [(4, .int (q.2 + (1 : Int32))), (0, .ref 0), (1, .int v1), (2, .int v2), (3, .int x12)]) (st' := []) rfl ?_
      cases h
      exact Ev.sub (lv' := [(0, .ref 0), (1, .int v1), (2, .int v2), (3, .int (x12)), (4, .int (q.2 + (1 : Int32)))]) (subL_cons rfl (subL_cons rfl (subL_cons rfl (subL_cons rfl (subL_cons rfl subL_nil))))) ho
    clear h
    refine Ev.icmp D_125 (c := .ne) (off := 6) (by decide +kernel) (t := 74) rfl (fun c12 => ?_) (fun c12 => ?_)
    · have c12 : ¬ x7 = x11 := of_decide_eq_true c12
      rw [if_neg c12] at g12
      cases g12
      exact Ev.sub2 j12 (subL_cons rfl (subL_cons rfl (subL_cons rfl (subL_cons rfl (subL_cons rfl subL_nil)))))
    · have c12 : x7 = x11 := Decidable.of_not_not (of_decide_eq_false c12)
      rw [if_pos c12] at g12
      refine Ev.seg D_125 [(.iinc 3 1, 3)] (by decide +kernel) (j := 0) (pc' := 74) (lv' := [(3, .int (q.1 + (1 : Int32))), (0, .ref 0), (1, .int v1), (2, .int v2), (4, .int q.2)]) (st' := []) rfl ?_
      cases g12
      exact Ev.sub2 j12 (subL_cons rfl (subL_cons rfl (subL_cons rfl (subL_cons rfl (subL_cons rfl subL_nil)))))
theorem gL_even_h32_w {L d : Nat} (hd : 2 ≤ d + 1) {v1 : Int32} {v2 : Int32} {s : mT} : ∀ (n : Nat) (q : Int32 × Int32) (r : Int32), wh n (gL_even_h32 v1 v2 s) q = some r → ∀ o, (fun r => Ev (d + 1) 125 80 [(3, .int r)] [] (uS L s) o) r → Ev (d + 1) 125 32 [(0, .ref 0), (1, .int v1), (2, .int v2), (3, .int q.1), (4, .int q.2)] [] (uS L s) o :=
  fun n q r h o hc => wh_ev (E := fun (q : Int32 × Int32) o => Ev (d + 1) 125 32 [(0, .ref 0), (1, .int v1), (2, .int v2), (3, .int q.1), (4, .int q.2)] [] (uS L s) o) (C := fun (r : Int32) o => (fun r => Ev (d + 1) 125 80 [(3, .int r)] [] (uS L s) o) r) (gL_even_h32_ok hd  ) n q r h o hc
def gL_even (v1 : Int32) (v2 : Int32) (s : mT) : Option (Int32) :=
  (gR_hasBoat 16 v1.toInt64 s).bind fun p2 =>
  if p2 = 0 then
    some ((-2 : Int32))
  else
    (gR_hasBoat 16 v2.toInt64 s).bind fun p6 =>
    if p6 = 0 then
      some ((-2 : Int32))
    else
      (wh FU (gL_even_h32 v1 v2 s) ((0 : Int32), (0 : Int32))).bind fun x13 =>
      some (x13)
set_option maxRecDepth 8000 in
theorem gL_even_ok {L d : Nat} (hd : 2 ≤ d) {v1 : Int32} {v2 : Int32} {s : mT} {p : Int32} (h : gL_even v1 v2 s = some p) : Ev d 125 0 [(0, .ref 0), (1, .int v1), (2, .int v2)] [] (uS L s) (some (.int p), uS L s) := by
  obtain ⟨d, rfl⟩ : ∃ e, d = e + 1 := ⟨d - 1, by omega⟩
  obtain ⟨o, ho⟩ : ∃ o : Option Value × mS, o = (some (.int p), uS L s) := ⟨_, rfl⟩
  rw [← ho]
  unfold gL_even at h
  refine Ev.seg D_125 [(.aload_n 0, 1)] (by decide +kernel) (j := 0) (pc' := 1) (lv' := [(0, .ref 0), (1, .int v1), (2, .int v2)]) (st' := [.ref 0]) rfl ?_
  refine Ev.getR D_125 (by decide +kernel) F_9_28 T_9_2 (x := 16) (S_oR k_0 (by decide +kernel)) ?_
  refine Ev.seg D_125 [(.iload_n 1, 1), (.i2l, 1)] (by decide +kernel) (j := 0) (pc' := 6) (lv' := [(0, .ref 0), (1, .int v1), (2, .int v2)]) (st' := [.long v1.toInt64, .ref 16]) rfl ?_
  obtain ⟨p2, e2, h⟩ := bd h
  refine Ev.callv D_125 E_39 (by decide +kernel) C_9_119 16 [.long v1.toInt64] (r := []) rfl (gd_o k_16 (by decide)) rfl (Nat.le_of_ble_eq_true rfl) (Nat.le_of_ble_eq_true rfl) (gR_hasBoat_ok (by omega) (by decide) e2) ?_
  refine Ev.if_ D_125 (c := .eq) (off := 15) (by decide +kernel) (t := 24) rfl (fun c3 => ?_) (fun c3 => ?_)
  · have c3 : p2 = 0 := of_decide_eq_true c3
    rw [if_pos c3] at h
    refine Ev.seg D_125 [(.bipush (-2), 2)] (by decide +kernel) (j := 0) (pc' := 26) (lv' := [(0, .ref 0), (1, .int v1), (2, .int v2)]) (st' := [.int (-2 : Int32)]) rfl ?_
    cases h
    obtain rfl : o = _ := ho
    exact Ev.iret D_125 (by decide +kernel)
  · have c3 : ¬ p2 = 0 := of_decide_eq_false c3
    rw [if_neg c3] at h
    refine Ev.seg D_125 [(.aload_n 0, 1)] (by decide +kernel) (j := 0) (pc' := 13) (lv' := [(0, .ref 0), (1, .int v1), (2, .int v2)]) (st' := [.ref 0]) rfl ?_
    refine Ev.getR D_125 (by decide +kernel) F_9_28 T_9_2 (x := 16) (S_oR k_0 (by decide +kernel)) ?_
    refine Ev.seg D_125 [(.iload_n 2, 1), (.i2l, 1)] (by decide +kernel) (j := 0) (pc' := 18) (lv' := [(0, .ref 0), (1, .int v1), (2, .int v2)]) (st' := [.long v2.toInt64, .ref 16]) rfl ?_
    obtain ⟨p6, e6, h⟩ := bd h
    refine Ev.callv D_125 E_39 (by decide +kernel) C_9_119 16 [.long v2.toInt64] (r := []) rfl (gd_o k_16 (by decide)) rfl (Nat.le_of_ble_eq_true rfl) (Nat.le_of_ble_eq_true rfl) (gR_hasBoat_ok (by omega) (by decide) e6) ?_
    refine Ev.if_ D_125 (c := .ne) (off := 6) (by decide +kernel) (t := 27) rfl (fun c7 => ?_) (fun c7 => ?_)
    · have c7 : ¬ p6 = 0 := of_decide_eq_true c7
      rw [if_neg c7] at h
      refine Ev.seg D_125 [(.iconst 0, 1), (.istore_n 3, 1), (.iconst 0, 1), (.istore 4, 2)] (by decide +kernel) (j := 0) (pc' := 32) (lv' := [(4, .int (0 : Int32)), (3, .int (0 : Int32)), (0, .ref 0), (1, .int v1), (2, .int v2)]) (st' := []) rfl ?_
      obtain ⟨x13, w13, h⟩ := bd h
      have j13 : Ev (d + 1) 125 80 [(3, .int x13)] [] (uS L s) o := by
        clear w13
        refine Ev.seg D_125 [(.iload_n 3, 1)] (by decide +kernel) (j := 0) (pc' := 81) (lv' := [(3, .int x13)]) (st' := [.int x13]) rfl ?_
        cases h
        obtain rfl : o = _ := ho
        exact Ev.iret D_125 (by decide +kernel)
      exact Ev.sub (lv' := [(0, .ref 0), (1, .int v1), (2, .int v2), (3, .int (0 : Int32)), (4, .int (0 : Int32))]) (subL_cons rfl (subL_cons rfl (subL_cons rfl (subL_cons rfl (subL_cons rfl subL_nil))))) (gL_even_h32_w hd   _ _ _ w13 _ j13)
    · have c7 : p6 = 0 := Decidable.of_not_not (of_decide_eq_false c7)
      rw [if_pos c7] at h
      refine Ev.seg D_125 [(.bipush (-2), 2)] (by decide +kernel) (j := 0) (pc' := 26) (lv' := [(0, .ref 0), (1, .int v1), (2, .int v2)]) (st' := [.int (-2 : Int32)]) rfl ?_
      cases h
      obtain rfl : o = _ := ho
      exact Ev.iret D_125 (by decide +kernel)
/- PennantLawn passes: 126 -/
def gL_passes_h29 (v1 : Int32) (v2 : Int32) (s : mT) (q : Int32) : Option ((Int32) ⊕ (Int32)) :=
  if (s.1 16 0) < q then
    some (.inr ((-1 : Int32)))
  else
    if ¬ (q < 0 ∨ 21 ≤ q.toNatClampNeg) then
      (rdI (s.1 (56 + q.toNatClampNeg)) 5 v1).bind fun x8 =>
      if ¬ (q < 0 ∨ 21 ≤ q.toNatClampNeg) then
        (rdI (s.1 (56 + q.toNatClampNeg)) 5 v2).bind fun x12 =>
        if x8 ≤ x12 then
          some (.inl (q + (1 : Int32)))
        else
          if ¬ ((q - (1 : Int32)) < 0 ∨ 21 ≤ (q - (1 : Int32)).toNatClampNeg) then
            (rdI (s.1 (56 + (q - (1 : Int32)).toNatClampNeg)) 5 v1).bind fun x17 =>
            if ¬ ((q - (1 : Int32)) < 0 ∨ 21 ≤ (q - (1 : Int32)).toNatClampNeg) then
              (rdI (s.1 (56 + (q - (1 : Int32)).toNatClampNeg)) 5 v2).bind fun x21 =>
              if x21 < x17 then
                some (.inl (q + (1 : Int32)))
              else
                some (.inr (q))
            else none
          else none
      else none
    else none
set_option maxRecDepth 8000 in
theorem gL_passes_h29_ok {L d : Nat} (hd : 2 ≤ d + 1) {v1 : Int32} {v2 : Int32} {s : mT} : ∀ (q : Int32) (x : (Int32) ⊕ (Int32)), gL_passes_h29 v1 v2 s q = some x → ∀ o, sK (fun q => Ev (d + 1) 126 29 [(0, .ref 0), (1, .int v1), (2, .int v2), (3, .int q)] [] (uS L s) o) (fun r => o = (some (.int r), uS L s)) x → Ev (d + 1) 126 29 [(0, .ref 0), (1, .int v1), (2, .int v2), (3, .int q)] [] (uS L s) o := by
  intro q x h o ho
  unfold gL_passes_h29 at h
  refine Ev.seg D_126 [(.iload_n 3, 1), (.aload_n 0, 1)] (by decide +kernel) (j := 0) (pc' := 31) (lv' := [(0, .ref 0), (1, .int v1), (2, .int v2), (3, .int q)]) (st' := [.ref 0, .int q]) rfl ?_
  refine Ev.getR D_126 (by decide +kernel) F_9_28 T_9_2 (x := 16) (S_oR k_0 (by decide +kernel)) ?_
  refine Ev.getI D_126 (by decide +kernel) F_9_187 (Or.inl T_2_0) (S_oI k_16) ?_
  refine Ev.icmp D_126 (c := .gt) (off := 65) (by decide +kernel) (t := 102) rfl (fun c3 => ?_) (fun c3 => ?_)
  · have c3 : (s.1 16 0) < q := of_decide_eq_true c3
    rw [if_pos c3] at h
    refine Ev.seg D_126 [(.iconst (-1), 1)] (by decide +kernel) (j := 0) (pc' := 103) (lv' := [(0, .ref 0), (1, .int v1), (2, .int v2), (3, .int q)]) (st' := [.int (-1 : Int32)]) rfl ?_
    cases h
    obtain rfl : o = _ := ho
    exact Ev.iret D_126 (by decide +kernel)
  · have c3 : ¬ (s.1 16 0) < q := of_decide_eq_false c3
    rw [if_neg c3] at h
    refine Ev.seg D_126 [(.aload_n 0, 1)] (by decide +kernel) (j := 0) (pc' := 41) (lv' := [(0, .ref 0), (1, .int v1), (2, .int v2), (3, .int q)]) (st' := [.ref 0]) rfl ?_
    refine Ev.getR D_126 (by decide +kernel) F_9_37 T_9_5 (x := 28) (S_oR k_0 (by decide +kernel)) ?_
    refine Ev.getR D_126 (by decide +kernel) F_9_161 T_0_7 (x := 55) (S_oR k_28 (by decide +kernel)) ?_
    refine Ev.seg D_126 [(.iload_n 3, 1)] (by decide +kernel) (j := 0) (pc' := 48) (lv' := [(0, .ref 0), (1, .int v1), (2, .int v2), (3, .int q)]) (st' := [.int q, .ref 55]) rfl ?_
    by_cases b48 : ¬ (q < 0 ∨ 21 ≤ q.toNatClampNeg)
    rotate_left
    · rw [if_neg b48] at h; cases h
    rw [if_pos b48] at h
    refine Ev.aald D_126 (by decide +kernel) (kd := 26) ⟨by decide, by decide⟩ (x := (56 + q.toNatClampNeg)) (S_aR k_55 b48 (lit_aa (e := 56) (n := 21) (by decide +kernel) b48)) ?_
    refine Ev.seg D_126 [(.iload_n 1, 1)] (by decide +kernel) (j := 0) (pc' := 50) (lv' := [(0, .ref 0), (1, .int v1), (2, .int v2), (3, .int q)]) (st' := [.int v1, .ref (56 + q.toNatClampNeg)]) rfl ?_
    obtain ⟨x8, e8, h⟩ := bd h
    refine Ev.iald D_126 (by decide +kernel) (S_aI (lit_row (e := 56) (n := 21) (by decide +kernel) b48) e8) ?_
    refine Ev.seg D_126 [(.aload_n 0, 1)] (by decide +kernel) (j := 0) (pc' := 52) (lv' := [(0, .ref 0), (1, .int v1), (2, .int v2), (3, .int q)]) (st' := [.ref 0, .int x8]) rfl ?_
    refine Ev.getR D_126 (by decide +kernel) F_9_37 T_9_5 (x := 28) (S_oR k_0 (by decide +kernel)) ?_
    refine Ev.getR D_126 (by decide +kernel) F_9_161 T_0_7 (x := 55) (S_oR k_28 (by decide +kernel)) ?_
    refine Ev.seg D_126 [(.iload_n 3, 1)] (by decide +kernel) (j := 0) (pc' := 59) (lv' := [(0, .ref 0), (1, .int v1), (2, .int v2), (3, .int q)]) (st' := [.int q, .ref 55, .int x8]) rfl ?_
    by_cases b59 : ¬ (q < 0 ∨ 21 ≤ q.toNatClampNeg)
    rotate_left
    · rw [if_neg b59] at h; cases h
    rw [if_pos b59] at h
    refine Ev.aald D_126 (by decide +kernel) (kd := 26) ⟨by decide, by decide⟩ (x := (56 + q.toNatClampNeg)) (S_aR k_55 b59 (lit_aa (e := 56) (n := 21) (by decide +kernel) b59)) ?_
    refine Ev.seg D_126 [(.iload_n 2, 1)] (by decide +kernel) (j := 0) (pc' := 61) (lv' := [(0, .ref 0), (1, .int v1), (2, .int v2), (3, .int q)]) (st' := [.int v2, .ref (56 + q.toNatClampNeg), .int x8]) rfl ?_
    obtain ⟨x12, e12, h⟩ := bd h
    refine Ev.iald D_126 (by decide +kernel) (S_aI (lit_row (e := 56) (n := 21) (by decide +kernel) b59) e12) ?_
    refine Ev.icmp D_126 (c := .le) (off := 34) (by decide +kernel) (t := 96) rfl (fun c13 => ?_) (fun c13 => ?_)
    · have c13 : x8 ≤ x12 := of_decide_eq_true c13
      rw [if_pos c13] at h
      refine Ev.seg D_126 [(.iinc 3 1, 3), (.goto (-70), 3)] (by decide +kernel) (j := 0) (pc' := 29) (lv' := [(3, .int (q + (1 : Int32))), (0, .ref 0), (1, .int v1), (2, .int v2)]) (st' := []) rfl ?_
      cases h
      exact Ev.sub (lv' := [(0, .ref 0), (1, .int v1), (2, .int v2), (3, .int (q + (1 : Int32)))]) (subL_cons rfl (subL_cons rfl (subL_cons rfl (subL_cons rfl subL_nil)))) ho
    · have c13 : ¬ x8 ≤ x12 := of_decide_eq_false c13
      rw [if_neg c13] at h
      refine Ev.seg D_126 [(.aload_n 0, 1)] (by decide +kernel) (j := 0) (pc' := 66) (lv' := [(0, .ref 0), (1, .int v1), (2, .int v2), (3, .int q)]) (st' := [.ref 0]) rfl ?_
      refine Ev.getR D_126 (by decide +kernel) F_9_37 T_9_5 (x := 28) (S_oR k_0 (by decide +kernel)) ?_
      refine Ev.getR D_126 (by decide +kernel) F_9_161 T_0_7 (x := 55) (S_oR k_28 (by decide +kernel)) ?_
      refine Ev.seg D_126 [(.iload_n 3, 1), (.iconst 1, 1), (.isub, 1)] (by decide +kernel) (j := 0) (pc' := 75) (lv' := [(0, .ref 0), (1, .int v1), (2, .int v2), (3, .int q)]) (st' := [.int (q - (1 : Int32)), .ref 55]) rfl ?_
      by_cases b75 : ¬ ((q - (1 : Int32)) < 0 ∨ 21 ≤ (q - (1 : Int32)).toNatClampNeg)
      rotate_left
      · rw [if_neg b75] at h; cases h
      rw [if_pos b75] at h
      refine Ev.aald D_126 (by decide +kernel) (kd := 26) ⟨by decide, by decide⟩ (x := (56 + (q - (1 : Int32)).toNatClampNeg)) (S_aR k_55 b75 (lit_aa (e := 56) (n := 21) (by decide +kernel) b75)) ?_
      refine Ev.seg D_126 [(.iload_n 1, 1)] (by decide +kernel) (j := 0) (pc' := 77) (lv' := [(0, .ref 0), (1, .int v1), (2, .int v2), (3, .int q)]) (st' := [.int v1, .ref (56 + (q - (1 : Int32)).toNatClampNeg)]) rfl ?_
      obtain ⟨x17, e17, h⟩ := bd h
      refine Ev.iald D_126 (by decide +kernel) (S_aI (lit_row (e := 56) (n := 21) (by decide +kernel) b75) e17) ?_
      refine Ev.seg D_126 [(.aload_n 0, 1)] (by decide +kernel) (j := 0) (pc' := 79) (lv' := [(0, .ref 0), (1, .int v1), (2, .int v2), (3, .int q)]) (st' := [.ref 0, .int x17]) rfl ?_
      refine Ev.getR D_126 (by decide +kernel) F_9_37 T_9_5 (x := 28) (S_oR k_0 (by decide +kernel)) ?_
      refine Ev.getR D_126 (by decide +kernel) F_9_161 T_0_7 (x := 55) (S_oR k_28 (by decide +kernel)) ?_
      refine Ev.seg D_126 [(.iload_n 3, 1), (.iconst 1, 1), (.isub, 1)] (by decide +kernel) (j := 0) (pc' := 88) (lv' := [(0, .ref 0), (1, .int v1), (2, .int v2), (3, .int q)]) (st' := [.int (q - (1 : Int32)), .ref 55, .int x17]) rfl ?_
      by_cases b88 : ¬ ((q - (1 : Int32)) < 0 ∨ 21 ≤ (q - (1 : Int32)).toNatClampNeg)
      rotate_left
      · rw [if_neg b88] at h; cases h
      rw [if_pos b88] at h
      refine Ev.aald D_126 (by decide +kernel) (kd := 26) ⟨by decide, by decide⟩ (x := (56 + (q - (1 : Int32)).toNatClampNeg)) (S_aR k_55 b88 (lit_aa (e := 56) (n := 21) (by decide +kernel) b88)) ?_
      refine Ev.seg D_126 [(.iload_n 2, 1)] (by decide +kernel) (j := 0) (pc' := 90) (lv' := [(0, .ref 0), (1, .int v1), (2, .int v2), (3, .int q)]) (st' := [.int v2, .ref (56 + (q - (1 : Int32)).toNatClampNeg), .int x17]) rfl ?_
      obtain ⟨x21, e21, h⟩ := bd h
      refine Ev.iald D_126 (by decide +kernel) (S_aI (lit_row (e := 56) (n := 21) (by decide +kernel) b88) e21) ?_
      refine Ev.icmp D_126 (c := .gt) (off := 5) (by decide +kernel) (t := 96) rfl (fun c22 => ?_) (fun c22 => ?_)
      · have c22 : x21 < x17 := of_decide_eq_true c22
        rw [if_pos c22] at h
        refine Ev.seg D_126 [(.iinc 3 1, 3), (.goto (-70), 3)] (by decide +kernel) (j := 0) (pc' := 29) (lv' := [(3, .int (q + (1 : Int32))), (0, .ref 0), (1, .int v1), (2, .int v2)]) (st' := []) rfl ?_
        cases h
        exact Ev.sub (lv' := [(0, .ref 0), (1, .int v1), (2, .int v2), (3, .int (q + (1 : Int32)))]) (subL_cons rfl (subL_cons rfl (subL_cons rfl (subL_cons rfl subL_nil)))) ho
      · have c22 : ¬ x21 < x17 := of_decide_eq_false c22
        rw [if_neg c22] at h
        refine Ev.seg D_126 [(.iload_n 3, 1)] (by decide +kernel) (j := 0) (pc' := 95) (lv' := [(0, .ref 0), (1, .int v1), (2, .int v2), (3, .int q)]) (st' := [.int q]) rfl ?_
        cases h
        obtain rfl : o = _ := ho
        exact Ev.iret D_126 (by decide +kernel)
theorem gL_passes_h29_w {L d : Nat} (hd : 2 ≤ d + 1) {v1 : Int32} {v2 : Int32} {s : mT} : ∀ (n : Nat) (q : Int32) (r : Int32), wh n (gL_passes_h29 v1 v2 s) q = some r → ∀ o, (fun r => o = (some (.int r), uS L s)) r → Ev (d + 1) 126 29 [(0, .ref 0), (1, .int v1), (2, .int v2), (3, .int q)] [] (uS L s) o :=
  fun n q r h o hc => wh_ev (E := fun (q : Int32) o => Ev (d + 1) 126 29 [(0, .ref 0), (1, .int v1), (2, .int v2), (3, .int q)] [] (uS L s) o) (C := fun (r : Int32) o => (fun r => o = (some (.int r), uS L s)) r) (gL_passes_h29_ok hd  ) n q r h o hc
def gL_passes (v1 : Int32) (v2 : Int32) (s : mT) : Option (Int32) :=
  (gR_hasBoat 16 v1.toInt64 s).bind fun p2 =>
  if p2 = 0 then
    some ((-2 : Int32))
  else
    (gR_hasBoat 16 v2.toInt64 s).bind fun p6 =>
    if p6 = 0 then
      some ((-2 : Int32))
    else
      wh FU (gL_passes_h29 v1 v2 s) (1 : Int32)
set_option maxRecDepth 8000 in
theorem gL_passes_ok {L d : Nat} (hd : 2 ≤ d) {v1 : Int32} {v2 : Int32} {s : mT} {p : Int32} (h : gL_passes v1 v2 s = some p) : Ev d 126 0 [(0, .ref 0), (1, .int v1), (2, .int v2)] [] (uS L s) (some (.int p), uS L s) := by
  obtain ⟨d, rfl⟩ : ∃ e, d = e + 1 := ⟨d - 1, by omega⟩
  obtain ⟨o, ho⟩ : ∃ o : Option Value × mS, o = (some (.int p), uS L s) := ⟨_, rfl⟩
  rw [← ho]
  unfold gL_passes at h
  refine Ev.seg D_126 [(.aload_n 0, 1)] (by decide +kernel) (j := 0) (pc' := 1) (lv' := [(0, .ref 0), (1, .int v1), (2, .int v2)]) (st' := [.ref 0]) rfl ?_
  refine Ev.getR D_126 (by decide +kernel) F_9_28 T_9_2 (x := 16) (S_oR k_0 (by decide +kernel)) ?_
  refine Ev.seg D_126 [(.iload_n 1, 1), (.i2l, 1)] (by decide +kernel) (j := 0) (pc' := 6) (lv' := [(0, .ref 0), (1, .int v1), (2, .int v2)]) (st' := [.long v1.toInt64, .ref 16]) rfl ?_
  obtain ⟨p2, e2, h⟩ := bd h
  refine Ev.callv D_126 E_39 (by decide +kernel) C_9_119 16 [.long v1.toInt64] (r := []) rfl (gd_o k_16 (by decide)) rfl (Nat.le_of_ble_eq_true rfl) (Nat.le_of_ble_eq_true rfl) (gR_hasBoat_ok (by omega) (by decide) e2) ?_
  refine Ev.if_ D_126 (c := .eq) (off := 15) (by decide +kernel) (t := 24) rfl (fun c3 => ?_) (fun c3 => ?_)
  · have c3 : p2 = 0 := of_decide_eq_true c3
    rw [if_pos c3] at h
    refine Ev.seg D_126 [(.bipush (-2), 2)] (by decide +kernel) (j := 0) (pc' := 26) (lv' := [(0, .ref 0), (1, .int v1), (2, .int v2)]) (st' := [.int (-2 : Int32)]) rfl ?_
    cases h
    obtain rfl : o = _ := ho
    exact Ev.iret D_126 (by decide +kernel)
  · have c3 : ¬ p2 = 0 := of_decide_eq_false c3
    rw [if_neg c3] at h
    refine Ev.seg D_126 [(.aload_n 0, 1)] (by decide +kernel) (j := 0) (pc' := 13) (lv' := [(0, .ref 0), (1, .int v1), (2, .int v2)]) (st' := [.ref 0]) rfl ?_
    refine Ev.getR D_126 (by decide +kernel) F_9_28 T_9_2 (x := 16) (S_oR k_0 (by decide +kernel)) ?_
    refine Ev.seg D_126 [(.iload_n 2, 1), (.i2l, 1)] (by decide +kernel) (j := 0) (pc' := 18) (lv' := [(0, .ref 0), (1, .int v1), (2, .int v2)]) (st' := [.long v2.toInt64, .ref 16]) rfl ?_
    obtain ⟨p6, e6, h⟩ := bd h
    refine Ev.callv D_126 E_39 (by decide +kernel) C_9_119 16 [.long v2.toInt64] (r := []) rfl (gd_o k_16 (by decide)) rfl (Nat.le_of_ble_eq_true rfl) (Nat.le_of_ble_eq_true rfl) (gR_hasBoat_ok (by omega) (by decide) e6) ?_
    refine Ev.if_ D_126 (c := .ne) (off := 6) (by decide +kernel) (t := 27) rfl (fun c7 => ?_) (fun c7 => ?_)
    · have c7 : ¬ p6 = 0 := of_decide_eq_true c7
      rw [if_neg c7] at h
      refine Ev.seg D_126 [(.iconst 1, 1), (.istore_n 3, 1)] (by decide +kernel) (j := 0) (pc' := 29) (lv' := [(3, .int (1 : Int32)), (0, .ref 0), (1, .int v1), (2, .int v2)]) (st' := []) rfl ?_
      exact Ev.sub (lv' := [(0, .ref 0), (1, .int v1), (2, .int v2), (3, .int (1 : Int32))]) (subL_cons rfl (subL_cons rfl (subL_cons rfl (subL_cons rfl subL_nil)))) (gL_passes_h29_w hd   _ _ _ h _ ho)
    · have c7 : p6 = 0 := Decidable.of_not_not (of_decide_eq_false c7)
      rw [if_pos c7] at h
      refine Ev.seg D_126 [(.bipush (-2), 2)] (by decide +kernel) (j := 0) (pc' := 26) (lv' := [(0, .ref 0), (1, .int v1), (2, .int v2)]) (st' := [.int (-2 : Int32)]) rfl ?_
      cases h
      obtain rfl : o = _ := ho
      exact Ev.iret D_126 (by decide +kernel)
/- PennantLawn arrived: 127 -/
def gL_arrived_h19 (v1 : Int32) (s : mT) (q : Int32 × Int32) : Option ((Int32 × Int32) ⊕ (Int32)) :=
  if (s.1 16 5) ≤ q.2 then
    some (.inr q.1)
  else
    (gC_isHome 28 q.2 v1 s).bind fun p5 =>
    (
      if p5 = 0 then
        some (q.1)
      else
        some (q.1 ||| ((1 : Int32) <<< (q.2 &&& 31))) : Option (Int32)).bind fun x6 =>
    some (.inl (x6, q.2 + (1 : Int32)))
set_option maxRecDepth 8000 in
theorem gL_arrived_h19_ok {L d : Nat} (hd : 3 ≤ d + 1) {v1 : Int32} {s : mT} : ∀ (q : Int32 × Int32) (x : (Int32 × Int32) ⊕ (Int32)), gL_arrived_h19 v1 s q = some x → ∀ o, sK (fun q => Ev (d + 1) 127 19 [(0, .ref 0), (1, .int v1), (2, .int q.1), (3, .int q.2)] [] (uS L s) o) (fun r => Ev (d + 1) 127 54 [(2, .int r)] [] (uS L s) o) x → Ev (d + 1) 127 19 [(0, .ref 0), (1, .int v1), (2, .int q.1), (3, .int q.2)] [] (uS L s) o := by
  intro q x h o ho
  unfold gL_arrived_h19 at h
  refine Ev.seg D_127 [(.iload_n 3, 1), (.aload_n 0, 1)] (by decide +kernel) (j := 0) (pc' := 21) (lv' := [(0, .ref 0), (1, .int v1), (2, .int q.1), (3, .int q.2)]) (st' := [.ref 0, .int q.2]) rfl ?_
  refine Ev.getR D_127 (by decide +kernel) F_9_28 T_9_2 (x := 16) (S_oR k_0 (by decide +kernel)) ?_
  refine Ev.getI D_127 (by decide +kernel) F_9_190 (Or.inl T_2_5) (S_oI k_16) ?_
  refine Ev.icmp D_127 (c := .ge) (off := 27) (by decide +kernel) (t := 54) rfl (fun c3 => ?_) (fun c3 => ?_)
  · have c3 : (s.1 16 5) ≤ q.2 := of_decide_eq_true c3
    rw [if_pos c3] at h
    cases h
    exact Ev.sub (lv' := [(2, .int q.1)]) (subL_cons rfl subL_nil) ho
  · have c3 : ¬ (s.1 16 5) ≤ q.2 := of_decide_eq_false c3
    rw [if_neg c3] at h
    refine Ev.seg D_127 [(.aload_n 0, 1)] (by decide +kernel) (j := 0) (pc' := 31) (lv' := [(0, .ref 0), (1, .int v1), (2, .int q.1), (3, .int q.2)]) (st' := [.ref 0]) rfl ?_
    refine Ev.getR D_127 (by decide +kernel) F_9_37 T_9_5 (x := 28) (S_oR k_0 (by decide +kernel)) ?_
    refine Ev.seg D_127 [(.iload_n 3, 1), (.iload_n 1, 1)] (by decide +kernel) (j := 0) (pc' := 36) (lv' := [(0, .ref 0), (1, .int v1), (2, .int q.1), (3, .int q.2)]) (st' := [.int v1, .int q.2, .ref 28]) rfl ?_
    obtain ⟨p5, e5, h⟩ := bd h
    refine Ev.callv D_127 E_18 (by decide +kernel) C_9_227 28 [.int q.2, .int v1] (r := []) rfl (gd_o k_28 (by decide)) rfl (Nat.le_of_ble_eq_true rfl) (Nat.le_of_ble_eq_true rfl) (gC_isHome_ok (by omega) (by decide) e5) ?_
    obtain ⟨x6, g6, h⟩ := bd h
    have j6 : Ev (d + 1) 127 48 [(0, .ref 0), (1, .int v1), (2, .int x6), (3, .int q.2)] [] (uS L s) o := by
      clear g6
      refine Ev.seg D_127 [(.iinc 3 1, 3), (.goto (-32), 3)] (by decide +kernel) (j := 0) (pc' := 19) (lv' := [(3, .int (q.2 + (1 : Int32))), (0, .ref 0), (1, .int v1), (2, .int x6)]) (st' := []) rfl ?_
      cases h
      exact Ev.sub (lv' := [(0, .ref 0), (1, .int v1), (2, .int (x6)), (3, .int (q.2 + (1 : Int32)))]) (subL_cons rfl (subL_cons rfl (subL_cons rfl (subL_cons rfl subL_nil)))) ho
    clear h
    refine Ev.if_ D_127 (c := .eq) (off := 9) (by decide +kernel) (t := 48) rfl (fun c6 => ?_) (fun c6 => ?_)
    · have c6 : p5 = 0 := of_decide_eq_true c6
      rw [if_pos c6] at g6
      cases g6
      exact Ev.sub2 j6 (subL_cons rfl (subL_cons rfl (subL_cons rfl (subL_cons rfl subL_nil))))
    · have c6 : ¬ p5 = 0 := of_decide_eq_false c6
      rw [if_neg c6] at g6
      refine Ev.seg D_127 [(.iload_n 2, 1), (.iconst 1, 1), (.iload_n 3, 1), (.ishl, 1), (.ior, 1), (.istore_n 2, 1)] (by decide +kernel) (j := 0) (pc' := 48) (lv' := [(2, .int (q.1 ||| ((1 : Int32) <<< (q.2 &&& 31)))), (0, .ref 0), (1, .int v1), (3, .int q.2)]) (st' := []) rfl ?_
      cases g6
      exact Ev.sub2 j6 (subL_cons rfl (subL_cons rfl (subL_cons rfl (subL_cons rfl subL_nil))))
theorem gL_arrived_h19_w {L d : Nat} (hd : 3 ≤ d + 1) {v1 : Int32} {s : mT} : ∀ (n : Nat) (q : Int32 × Int32) (r : Int32), wh n (gL_arrived_h19 v1 s) q = some r → ∀ o, (fun r => Ev (d + 1) 127 54 [(2, .int r)] [] (uS L s) o) r → Ev (d + 1) 127 19 [(0, .ref 0), (1, .int v1), (2, .int q.1), (3, .int q.2)] [] (uS L s) o :=
  fun n q r h o hc => wh_ev (E := fun (q : Int32 × Int32) o => Ev (d + 1) 127 19 [(0, .ref 0), (1, .int v1), (2, .int q.1), (3, .int q.2)] [] (uS L s) o) (C := fun (r : Int32) o => (fun r => Ev (d + 1) 127 54 [(2, .int r)] [] (uS L s) o) r) (gL_arrived_h19_ok hd  ) n q r h o hc
def gL_arrived (v1 : Int32) (s : mT) : Option (Int32) :=
  (gR_hasStep 16 v1.toInt64 s).bind fun p2 =>
  if p2 = 0 then
    some ((-2 : Int32))
  else
    (wh FU (gL_arrived_h19 v1 s) ((0 : Int32), (0 : Int32))).bind fun x7 =>
    some (x7)
set_option maxRecDepth 8000 in
theorem gL_arrived_ok {L d : Nat} (hd : 3 ≤ d) {v1 : Int32} {s : mT} {p : Int32} (h : gL_arrived v1 s = some p) : Ev d 127 0 [(0, .ref 0), (1, .int v1)] [] (uS L s) (some (.int p), uS L s) := by
  obtain ⟨d, rfl⟩ : ∃ e, d = e + 1 := ⟨d - 1, by omega⟩
  obtain ⟨o, ho⟩ : ∃ o : Option Value × mS, o = (some (.int p), uS L s) := ⟨_, rfl⟩
  rw [← ho]
  unfold gL_arrived at h
  refine Ev.seg D_127 [(.aload_n 0, 1)] (by decide +kernel) (j := 0) (pc' := 1) (lv' := [(0, .ref 0), (1, .int v1)]) (st' := [.ref 0]) rfl ?_
  refine Ev.getR D_127 (by decide +kernel) F_9_28 T_9_2 (x := 16) (S_oR k_0 (by decide +kernel)) ?_
  refine Ev.seg D_127 [(.iload_n 1, 1), (.i2l, 1)] (by decide +kernel) (j := 0) (pc' := 6) (lv' := [(0, .ref 0), (1, .int v1)]) (st' := [.long v1.toInt64, .ref 16]) rfl ?_
  obtain ⟨p2, e2, h⟩ := bd h
  refine Ev.callv D_127 E_42 (by decide +kernel) C_9_158 16 [.long v1.toInt64] (r := []) rfl (gd_o k_16 (by decide)) rfl (Nat.le_of_ble_eq_true rfl) (Nat.le_of_ble_eq_true rfl) (gR_hasStep_ok (by omega) (by decide) e2) ?_
  refine Ev.if_ D_127 (c := .ne) (off := 6) (by decide +kernel) (t := 15) rfl (fun c3 => ?_) (fun c3 => ?_)
  · have c3 : ¬ p2 = 0 := of_decide_eq_true c3
    rw [if_neg c3] at h
    refine Ev.seg D_127 [(.iconst 0, 1), (.istore_n 2, 1), (.iconst 0, 1), (.istore_n 3, 1)] (by decide +kernel) (j := 0) (pc' := 19) (lv' := [(3, .int (0 : Int32)), (2, .int (0 : Int32)), (0, .ref 0), (1, .int v1)]) (st' := []) rfl ?_
    obtain ⟨x7, w7, h⟩ := bd h
    have j7 : Ev (d + 1) 127 54 [(2, .int x7)] [] (uS L s) o := by
      clear w7
      refine Ev.seg D_127 [(.iload_n 2, 1)] (by decide +kernel) (j := 0) (pc' := 55) (lv' := [(2, .int x7)]) (st' := [.int x7]) rfl ?_
      cases h
      obtain rfl : o = _ := ho
      exact Ev.iret D_127 (by decide +kernel)
    exact Ev.sub (lv' := [(0, .ref 0), (1, .int v1), (2, .int (0 : Int32)), (3, .int (0 : Int32))]) (subL_cons rfl (subL_cons rfl (subL_cons rfl (subL_cons rfl subL_nil)))) (gL_arrived_h19_w hd   _ _ _ w7 _ j7)
  · have c3 : p2 = 0 := Decidable.of_not_not (of_decide_eq_false c3)
    rw [if_pos c3] at h
    refine Ev.seg D_127 [(.bipush (-2), 2)] (by decide +kernel) (j := 0) (pc' := 14) (lv' := [(0, .ref 0), (1, .int v1)]) (st' := [.int (-2 : Int32)]) rfl ?_
    cases h
    obtain rfl : o = _ := ho
    exact Ev.iret D_127 (by decide +kernel)
/- PennantLawn calmest: 128 -/
def gL_calmest_h19 (s : mT) (q : Int32 × Int32 × Int32) : Option ((Int32 × Int32 × Int32) ⊕ (Int32)) :=
  if (s.1 16 5) ≤ q.2.2 then
    some (.inr q.1)
  else
    (gC_calmSteps 28 q.2.2 s).bind fun p5 =>
    (gI_bitCount p5 s).bind fun p6 =>
    (
      if p6 ≤ q.2.1 then
        some ((q.1, q.2.1))
      else
        some ((q.2.2, p6)) : Option (Int32 × Int32)).bind fun x7 =>
    some (.inl (x7.1, x7.2, q.2.2 + (1 : Int32)))
set_option maxRecDepth 8000 in
theorem gL_calmest_h19_ok {L d : Nat} (hd : 4 ≤ d + 1) {s : mT} : ∀ (q : Int32 × Int32 × Int32) (x : (Int32 × Int32 × Int32) ⊕ (Int32)), gL_calmest_h19 s q = some x → ∀ o, sK (fun q => Ev (d + 1) 128 19 [(0, .ref 0), (1, .int q.1), (2, .int q.2.1), (3, .int q.2.2)] [] (uS L s) o) (fun r => Ev (d + 1) 128 60 [(1, .int r)] [] (uS L s) o) x → Ev (d + 1) 128 19 [(0, .ref 0), (1, .int q.1), (2, .int q.2.1), (3, .int q.2.2)] [] (uS L s) o := by
  intro q x h o ho
  unfold gL_calmest_h19 at h
  refine Ev.seg D_128 [(.iload_n 3, 1), (.aload_n 0, 1)] (by decide +kernel) (j := 0) (pc' := 21) (lv' := [(0, .ref 0), (1, .int q.1), (2, .int q.2.1), (3, .int q.2.2)]) (st' := [.ref 0, .int q.2.2]) rfl ?_
  refine Ev.getR D_128 (by decide +kernel) F_9_28 T_9_2 (x := 16) (S_oR k_0 (by decide +kernel)) ?_
  refine Ev.getI D_128 (by decide +kernel) F_9_190 (Or.inl T_2_5) (S_oI k_16) ?_
  refine Ev.icmp D_128 (c := .ge) (off := 33) (by decide +kernel) (t := 60) rfl (fun c3 => ?_) (fun c3 => ?_)
  · have c3 : (s.1 16 5) ≤ q.2.2 := of_decide_eq_true c3
    rw [if_pos c3] at h
    cases h
    exact Ev.sub (lv' := [(1, .int q.1)]) (subL_cons rfl subL_nil) ho
  · have c3 : ¬ (s.1 16 5) ≤ q.2.2 := of_decide_eq_false c3
    rw [if_neg c3] at h
    refine Ev.seg D_128 [(.aload_n 0, 1)] (by decide +kernel) (j := 0) (pc' := 31) (lv' := [(0, .ref 0), (1, .int q.1), (2, .int q.2.1), (3, .int q.2.2)]) (st' := [.ref 0]) rfl ?_
    refine Ev.getR D_128 (by decide +kernel) F_9_37 T_9_5 (x := 28) (S_oR k_0 (by decide +kernel)) ?_
    refine Ev.seg D_128 [(.iload_n 3, 1)] (by decide +kernel) (j := 0) (pc' := 35) (lv' := [(0, .ref 0), (1, .int q.1), (2, .int q.2.1), (3, .int q.2.2)]) (st' := [.int q.2.2, .ref 28]) rfl ?_
    obtain ⟨p5, e5, h⟩ := bd h
    refine Ev.callv D_128 E_16 (by decide +kernel) C_9_193 28 [.int q.2.2] (r := []) rfl (gd_o k_28 (by decide)) rfl (Nat.le_of_ble_eq_true rfl) (Nat.le_of_ble_eq_true rfl) (gC_calmSteps_ok (by omega) (by decide) e5) ?_
    obtain ⟨p6, e6, h⟩ := bd h
    refine Ev.calls D_128 E_327 (by decide +kernel) C_9_230 [.int p5] (r := []) rfl rfl (Nat.le_of_ble_eq_true rfl) (Nat.le_of_ble_eq_true rfl) (gI_bitCount_ok (by omega)  e6) ?_
    refine Ev.seg D_128 [(.istore 4, 2), (.iload 4, 2), (.iload_n 2, 1)] (by decide +kernel) (j := 0) (pc' := 46) (lv' := [(4, .int p6), (0, .ref 0), (1, .int q.1), (2, .int q.2.1), (3, .int q.2.2)]) (st' := [.int q.2.1, .int p6]) rfl ?_
    obtain ⟨x7, g7, h⟩ := bd h
    have j7 : Ev (d + 1) 128 54 [(0, .ref 0), (1, .int x7.1), (2, .int x7.2), (3, .int q.2.2)] [] (uS L s) o := by
      clear g7
      refine Ev.seg D_128 [(.iinc 3 1, 3), (.goto (-38), 3)] (by decide +kernel) (j := 0) (pc' := 19) (lv' := [(3, .int (q.2.2 + (1 : Int32))), (0, .ref 0), (1, .int x7.1), (2, .int x7.2)]) (st' := []) rfl ?_
      cases h
      exact Ev.sub (lv' := [(0, .ref 0), (1, .int (x7.1)), (2, .int (x7.2)), (3, .int (q.2.2 + (1 : Int32)))]) (subL_cons rfl (subL_cons rfl (subL_cons rfl (subL_cons rfl subL_nil)))) ho
    clear h
    refine Ev.icmp D_128 (c := .le) (off := 8) (by decide +kernel) (t := 54) rfl (fun c7 => ?_) (fun c7 => ?_)
    · have c7 : p6 ≤ q.2.1 := of_decide_eq_true c7
      rw [if_pos c7] at g7
      cases g7
      exact Ev.sub2 j7 (subL_cons rfl (subL_cons rfl (subL_cons rfl (subL_cons rfl subL_nil))))
    · have c7 : ¬ p6 ≤ q.2.1 := of_decide_eq_false c7
      rw [if_neg c7] at g7
      refine Ev.seg D_128 [(.iload_n 3, 1), (.istore_n 1, 1), (.iload 4, 2), (.istore_n 2, 1)] (by decide +kernel) (j := 0) (pc' := 54) (lv' := [(2, .int p6), (1, .int q.2.2), (4, .int p6), (0, .ref 0), (3, .int q.2.2)]) (st' := []) rfl ?_
      cases g7
      exact Ev.sub2 j7 (subL_cons rfl (subL_cons rfl (subL_cons rfl (subL_cons rfl subL_nil))))
theorem gL_calmest_h19_w {L d : Nat} (hd : 4 ≤ d + 1) {s : mT} : ∀ (n : Nat) (q : Int32 × Int32 × Int32) (r : Int32), wh n (gL_calmest_h19 s) q = some r → ∀ o, (fun r => Ev (d + 1) 128 60 [(1, .int r)] [] (uS L s) o) r → Ev (d + 1) 128 19 [(0, .ref 0), (1, .int q.1), (2, .int q.2.1), (3, .int q.2.2)] [] (uS L s) o :=
  fun n q r h o hc => wh_ev (E := fun (q : Int32 × Int32 × Int32) o => Ev (d + 1) 128 19 [(0, .ref 0), (1, .int q.1), (2, .int q.2.1), (3, .int q.2.2)] [] (uS L s) o) (C := fun (r : Int32) o => (fun r => Ev (d + 1) 128 60 [(1, .int r)] [] (uS L s) o) r) (gL_calmest_h19_ok hd  ) n q r h o hc
def gL_calmest (s : mT) : Option (Int32) :=
  (gR_exists 16 s).bind fun p2 =>
  if p2 = 0 then
    some ((-2 : Int32))
  else
    (wh FU (gL_calmest_h19 s) ((-1 : Int32), (0 : Int32), (0 : Int32))).bind fun x8 =>
    some (x8)
set_option maxRecDepth 8000 in
theorem gL_calmest_ok {L d : Nat} (hd : 4 ≤ d) {s : mT} {p : Int32} (h : gL_calmest s = some p) : Ev d 128 0 [(0, .ref 0)] [] (uS L s) (some (.int p), uS L s) := by
  obtain ⟨d, rfl⟩ : ∃ e, d = e + 1 := ⟨d - 1, by omega⟩
  obtain ⟨o, ho⟩ : ∃ o : Option Value × mS, o = (some (.int p), uS L s) := ⟨_, rfl⟩
  rw [← ho]
  unfold gL_calmest at h
  refine Ev.seg D_128 [(.aload_n 0, 1)] (by decide +kernel) (j := 0) (pc' := 1) (lv' := [(0, .ref 0)]) (st' := [.ref 0]) rfl ?_
  refine Ev.getR D_128 (by decide +kernel) F_9_28 T_9_2 (x := 16) (S_oR k_0 (by decide +kernel)) ?_
  obtain ⟨p2, e2, h⟩ := bd h
  refine Ev.callv D_128 E_43 (by decide +kernel) C_9_196 16 [] (r := []) rfl (gd_o k_16 (by decide)) rfl (Nat.le_of_ble_eq_true rfl) (Nat.le_of_ble_eq_true rfl) (gR_exists_ok (by omega) (by decide) e2) ?_
  refine Ev.if_ D_128 (c := .ne) (off := 6) (by decide +kernel) (t := 13) rfl (fun c3 => ?_) (fun c3 => ?_)
  · have c3 : ¬ p2 = 0 := of_decide_eq_true c3
    rw [if_neg c3] at h
    refine Ev.seg D_128 [(.iconst (-1), 1), (.istore_n 1, 1), (.iconst 0, 1), (.istore_n 2, 1), (.iconst 0, 1), (.istore_n 3, 1)] (by decide +kernel) (j := 0) (pc' := 19) (lv' := [(3, .int (0 : Int32)), (2, .int (0 : Int32)), (1, .int (-1 : Int32)), (0, .ref 0)]) (st' := []) rfl ?_
    obtain ⟨x8, w8, h⟩ := bd h
    have j8 : Ev (d + 1) 128 60 [(1, .int x8)] [] (uS L s) o := by
      clear w8
      refine Ev.seg D_128 [(.iload_n 1, 1)] (by decide +kernel) (j := 0) (pc' := 61) (lv' := [(1, .int x8)]) (st' := [.int x8]) rfl ?_
      cases h
      obtain rfl : o = _ := ho
      exact Ev.iret D_128 (by decide +kernel)
    exact Ev.sub (lv' := [(0, .ref 0), (1, .int (-1 : Int32)), (2, .int (0 : Int32)), (3, .int (0 : Int32))]) (subL_cons rfl (subL_cons rfl (subL_cons rfl (subL_cons rfl subL_nil)))) (gL_calmest_h19_w hd   _ _ _ w8 _ j8)
  · have c3 : p2 = 0 := Decidable.of_not_not (of_decide_eq_false c3)
    rw [if_pos c3] at h
    refine Ev.seg D_128 [(.bipush (-2), 2)] (by decide +kernel) (j := 0) (pc' := 12) (lv' := [(0, .ref 0)]) (st' := [.int (-2 : Int32)]) rfl ?_
    cases h
    obtain rfl : o = _ := ho
    exact Ev.iret D_128 (by decide +kernel)
/- PennantLawn clear: 129 -/
def gL_clear (v1 : Int32) (s : mT) : Option (Int32 × mT) :=
  (gR_hasShow 16 v1 s).bind fun p2 =>
  if p2 = 0 then
    some (((-2 : Int32), s))
  else
    (gC_prepareWithout 121 v1 s).bind fun p5 =>
    (gC_sailToWinner 121 p5).bind fun p7 =>
    some ((p7.1, p7.2))
set_option maxRecDepth 8000 in
theorem gL_clear_ok {L d : Nat} (hd : 6 ≤ d) {v1 : Int32} {s : mT} {p : Int32 × mT} (h : gL_clear v1 s = some p) : Ev d 129 0 [(0, .ref 0), (1, .int v1)] [] (uS L s) (some (.int p.1), uS L p.2) := by
  obtain ⟨d, rfl⟩ : ∃ e, d = e + 1 := ⟨d - 1, by omega⟩
  obtain ⟨o, ho⟩ : ∃ o : Option Value × mS, o = (some (.int p.1), uS L p.2) := ⟨_, rfl⟩
  rw [← ho]
  unfold gL_clear at h
  refine Ev.seg D_129 [(.aload_n 0, 1)] (by decide +kernel) (j := 0) (pc' := 1) (lv' := [(0, .ref 0), (1, .int v1)]) (st' := [.ref 0]) rfl ?_
  refine Ev.getR D_129 (by decide +kernel) F_9_28 T_9_2 (x := 16) (S_oR k_0 (by decide +kernel)) ?_
  refine Ev.seg D_129 [(.iload_n 1, 1)] (by decide +kernel) (j := 0) (pc' := 5) (lv' := [(0, .ref 0), (1, .int v1)]) (st' := [.int v1, .ref 16]) rfl ?_
  obtain ⟨p2, e2, h⟩ := bd h
  refine Ev.callv D_129 E_41 (by decide +kernel) C_9_149 16 [.int v1] (r := []) rfl (gd_o k_16 (by decide)) rfl (Nat.le_of_ble_eq_true rfl) (Nat.le_of_ble_eq_true rfl) (gR_hasShow_ok (by omega) (by decide) e2) ?_
  refine Ev.if_ D_129 (c := .ne) (off := 6) (by decide +kernel) (t := 14) rfl (fun c3 => ?_) (fun c3 => ?_)
  · have c3 : ¬ p2 = 0 := of_decide_eq_true c3
    rw [if_neg c3] at h
    refine Ev.seg D_129 [(.aload_n 0, 1)] (by decide +kernel) (j := 0) (pc' := 15) (lv' := [(0, .ref 0), (1, .int v1)]) (st' := [.ref 0]) rfl ?_
    refine Ev.getR D_129 (by decide +kernel) F_9_41 T_9_6 (x := 121) (S_oR k_0 (by decide +kernel)) ?_
    refine Ev.seg D_129 [(.iload_n 1, 1)] (by decide +kernel) (j := 0) (pc' := 19) (lv' := [(0, .ref 0), (1, .int v1)]) (st' := [.int v1, .ref 121]) rfl ?_
    obtain ⟨p5, e5, h⟩ := bd h
    refine Ev.callv D_129 E_2 (by decide +kernel) C_9_235 121 [.int v1] (r := []) rfl (gd_o k_121 (by decide)) rfl (Nat.le_of_ble_eq_true rfl) (Nat.le_of_ble_eq_true rfl) (gC_prepareWithout_ok (by omega) (by decide) e5) ?_
    refine Ev.seg D_129 [(.aload_n 0, 1)] (by decide +kernel) (j := 0) (pc' := 23) (lv' := [(0, .ref 0), (1, .int v1)]) (st' := [.ref 0]) rfl ?_
    refine Ev.getR D_129 (by decide +kernel) F_9_41 T_9_6 (x := 121) (S_oR k_0 (by decide +kernel)) ?_
    obtain ⟨p7, e7, h⟩ := bd h
    refine Ev.callv D_129 E_23 (by decide +kernel) C_9_238 121 [] (r := []) rfl (gd_o k_121 (by decide)) rfl (Nat.le_of_ble_eq_true rfl) (Nat.le_of_ble_eq_true rfl) (gC_sailToWinner_ok (by omega) (by decide) e7) ?_
    cases h
    obtain rfl : o = _ := ho
    exact Ev.iret D_129 (by decide +kernel)
  · have c3 : p2 = 0 := Decidable.of_not_not (of_decide_eq_false c3)
    rw [if_pos c3] at h
    refine Ev.seg D_129 [(.bipush (-2), 2)] (by decide +kernel) (j := 0) (pc' := 13) (lv' := [(0, .ref 0), (1, .int v1)]) (st' := [.int (-2 : Int32)]) rfl ?_
    cases h
    obtain rfl : o = _ := ho
    exact Ev.iret D_129 (by decide +kernel)
/- PennantLawn key: 130 -/
def gL_key_h30 (v1 : Int32) (q : Int32 × mT) : Option ((Int32 × mT) ⊕ (Int32 × mT)) :=
  if (q.2.1 16 6) ≤ q.1 then
    some (.inr (((-1 : Int32), q.2)))
  else
    (gC_prepare 121 q.2).bind fun p6 =>
    (gC_hush 121 ((1 : Int32) <<< (q.1 &&& 31)) p6).bind fun p8 =>
    (gC_sailToWinner 121 p8).bind fun p10 =>
    if p10.1 = v1 then
      some (.inl (q.1 + (1 : Int32), p10.2))
    else
      some (.inr ((q.1, p10.2)))
set_option maxRecDepth 8000 in
theorem gL_key_h30_ok {L d : Nat} (hd : 6 ≤ d + 1) {v1 : Int32} : ∀ (q : Int32 × mT) (x : (Int32 × mT) ⊕ (Int32 × mT)), gL_key_h30 v1 q = some x → ∀ o, sK (fun q => Ev (d + 1) 130 30 [(0, .ref 0), (1, .int v1), (2, .int q.1)] [] (uS L q.2) o) (fun r => o = (some (.int r.1), uS L r.2)) x → Ev (d + 1) 130 30 [(0, .ref 0), (1, .int v1), (2, .int q.1)] [] (uS L q.2) o := by
  intro q x h o ho
  unfold gL_key_h30 at h
  refine Ev.seg D_130 [(.iload_n 2, 1), (.aload_n 0, 1)] (by decide +kernel) (j := 0) (pc' := 32) (lv' := [(0, .ref 0), (1, .int v1), (2, .int q.1)]) (st' := [.ref 0, .int q.1]) rfl ?_
  refine Ev.getR D_130 (by decide +kernel) F_9_28 T_9_2 (x := 16) (S_oR k_0 (by decide +kernel)) ?_
  refine Ev.getI D_130 (by decide +kernel) F_9_218 (Or.inl T_2_6) (S_oI k_16) ?_
  refine Ev.icmp D_130 (c := .ge) (off := 39) (by decide +kernel) (t := 77) rfl (fun c3 => ?_) (fun c3 => ?_)
  · have c3 : (q.2.1 16 6) ≤ q.1 := of_decide_eq_true c3
    rw [if_pos c3] at h
    refine Ev.seg D_130 [(.iconst (-1), 1)] (by decide +kernel) (j := 0) (pc' := 78) (lv' := [(0, .ref 0), (1, .int v1), (2, .int q.1)]) (st' := [.int (-1 : Int32)]) rfl ?_
    cases h
    obtain rfl : o = _ := ho
    exact Ev.iret D_130 (by decide +kernel)
  · have c3 : ¬ (q.2.1 16 6) ≤ q.1 := of_decide_eq_false c3
    rw [if_neg c3] at h
    refine Ev.seg D_130 [(.aload_n 0, 1)] (by decide +kernel) (j := 0) (pc' := 42) (lv' := [(0, .ref 0), (1, .int v1), (2, .int q.1)]) (st' := [.ref 0]) rfl ?_
    refine Ev.getR D_130 (by decide +kernel) F_9_41 T_9_6 (x := 121) (S_oR k_0 (by decide +kernel)) ?_
    obtain ⟨p6, e6, h⟩ := bd h
    refine Ev.callv D_130 E_1 (by decide +kernel) C_9_241 121 [] (r := []) rfl (gd_o k_121 (by decide)) rfl (Nat.le_of_ble_eq_true rfl) (Nat.le_of_ble_eq_true rfl) (gC_prepare_ok (by omega) (by decide) e6) ?_
    refine Ev.seg D_130 [(.aload_n 0, 1)] (by decide +kernel) (j := 0) (pc' := 49) (lv' := [(0, .ref 0), (1, .int v1), (2, .int q.1)]) (st' := [.ref 0]) rfl ?_
    refine Ev.getR D_130 (by decide +kernel) F_9_41 T_9_6 (x := 121) (S_oR k_0 (by decide +kernel)) ?_
    refine Ev.seg D_130 [(.iconst 1, 1), (.iload_n 2, 1), (.ishl, 1)] (by decide +kernel) (j := 0) (pc' := 55) (lv' := [(0, .ref 0), (1, .int v1), (2, .int q.1)]) (st' := [.int ((1 : Int32) <<< (q.1 &&& 31)), .ref 121]) rfl ?_
    obtain ⟨p8, e8, h⟩ := bd h
    refine Ev.callv D_130 E_24 (by decide +kernel) C_9_244 121 [.int ((1 : Int32) <<< (q.1 &&& 31))] (r := []) rfl (gd_o k_121 (by decide)) rfl (Nat.le_of_ble_eq_true rfl) (Nat.le_of_ble_eq_true rfl) (gC_hush_ok (by omega) (by decide) e8) ?_
    refine Ev.seg D_130 [(.aload_n 0, 1)] (by decide +kernel) (j := 0) (pc' := 59) (lv' := [(0, .ref 0), (1, .int v1), (2, .int q.1)]) (st' := [.ref 0]) rfl ?_
    refine Ev.getR D_130 (by decide +kernel) F_9_41 T_9_6 (x := 121) (S_oR k_0 (by decide +kernel)) ?_
    obtain ⟨p10, e10, h⟩ := bd h
    refine Ev.callv D_130 E_23 (by decide +kernel) C_9_238 121 [] (r := []) rfl (gd_o k_121 (by decide)) rfl (Nat.le_of_ble_eq_true rfl) (Nat.le_of_ble_eq_true rfl) (gC_sailToWinner_ok (by omega) (by decide) e10) ?_
    refine Ev.seg D_130 [(.iload_n 1, 1)] (by decide +kernel) (j := 0) (pc' := 66) (lv' := [(0, .ref 0), (1, .int v1), (2, .int q.1)]) (st' := [.int v1, .int p10.1]) rfl ?_
    refine Ev.icmp D_130 (c := .eq) (off := 5) (by decide +kernel) (t := 71) rfl (fun c11 => ?_) (fun c11 => ?_)
    · have c11 : p10.1 = v1 := of_decide_eq_true c11
      rw [if_pos c11] at h
      refine Ev.seg D_130 [(.iinc 2 1, 3), (.goto (-44), 3)] (by decide +kernel) (j := 0) (pc' := 30) (lv' := [(2, .int (q.1 + (1 : Int32))), (0, .ref 0), (1, .int v1)]) (st' := []) rfl ?_
      cases h
      exact Ev.sub (lv' := [(0, .ref 0), (1, .int v1), (2, .int (q.1 + (1 : Int32)))]) (subL_cons rfl (subL_cons rfl (subL_cons rfl subL_nil))) ho
    · have c11 : ¬ p10.1 = v1 := of_decide_eq_false c11
      rw [if_neg c11] at h
      refine Ev.seg D_130 [(.iload_n 2, 1)] (by decide +kernel) (j := 0) (pc' := 70) (lv' := [(0, .ref 0), (1, .int v1), (2, .int q.1)]) (st' := [.int q.1]) rfl ?_
      cases h
      obtain rfl : o = _ := ho
      exact Ev.iret D_130 (by decide +kernel)
theorem gL_key_h30_w {L d : Nat} (hd : 6 ≤ d + 1) {v1 : Int32} : ∀ (n : Nat) (q : Int32 × mT) (r : Int32 × mT), wh n (gL_key_h30 v1) q = some r → ∀ o, (fun r => o = (some (.int r.1), uS L r.2)) r → Ev (d + 1) 130 30 [(0, .ref 0), (1, .int v1), (2, .int q.1)] [] (uS L q.2) o :=
  fun n q r h o hc => wh_ev (E := fun (q : Int32 × mT) o => Ev (d + 1) 130 30 [(0, .ref 0), (1, .int v1), (2, .int q.1)] [] (uS L q.2) o) (C := fun (r : Int32 × mT) o => (fun r => o = (some (.int r.1), uS L r.2)) r) (gL_key_h30_ok hd  ) n q r h o hc
def gL_key (s : mT) : Option (Int32 × mT) :=
  (gR_exists 16 s).bind fun p2 =>
  if p2 = 0 then
    some (((-2 : Int32), s))
  else
    (gC_winner 28 s).bind fun p5 =>
    if p5 = (-1 : Int32) then
      some (((-1 : Int32), s))
    else
      wh FU (gL_key_h30 p5) ((0 : Int32), s)
set_option maxRecDepth 8000 in
theorem gL_key_ok {L d : Nat} (hd : 6 ≤ d) {s : mT} {p : Int32 × mT} (h : gL_key s = some p) : Ev d 130 0 [(0, .ref 0)] [] (uS L s) (some (.int p.1), uS L p.2) := by
  obtain ⟨d, rfl⟩ : ∃ e, d = e + 1 := ⟨d - 1, by omega⟩
  obtain ⟨o, ho⟩ : ∃ o : Option Value × mS, o = (some (.int p.1), uS L p.2) := ⟨_, rfl⟩
  rw [← ho]
  unfold gL_key at h
  refine Ev.seg D_130 [(.aload_n 0, 1)] (by decide +kernel) (j := 0) (pc' := 1) (lv' := [(0, .ref 0)]) (st' := [.ref 0]) rfl ?_
  refine Ev.getR D_130 (by decide +kernel) F_9_28 T_9_2 (x := 16) (S_oR k_0 (by decide +kernel)) ?_
  obtain ⟨p2, e2, h⟩ := bd h
  refine Ev.callv D_130 E_43 (by decide +kernel) C_9_196 16 [] (r := []) rfl (gd_o k_16 (by decide)) rfl (Nat.le_of_ble_eq_true rfl) (Nat.le_of_ble_eq_true rfl) (gR_exists_ok (by omega) (by decide) e2) ?_
  refine Ev.if_ D_130 (c := .ne) (off := 6) (by decide +kernel) (t := 13) rfl (fun c3 => ?_) (fun c3 => ?_)
  · have c3 : ¬ p2 = 0 := of_decide_eq_true c3
    rw [if_neg c3] at h
    refine Ev.seg D_130 [(.aload_n 0, 1)] (by decide +kernel) (j := 0) (pc' := 14) (lv' := [(0, .ref 0)]) (st' := [.ref 0]) rfl ?_
    refine Ev.getR D_130 (by decide +kernel) F_9_37 T_9_5 (x := 28) (S_oR k_0 (by decide +kernel)) ?_
    obtain ⟨p5, e5, h⟩ := bd h
    refine Ev.callv D_130 E_20 (by decide +kernel) C_9_206 28 [] (r := []) rfl (gd_o k_28 (by decide)) rfl (Nat.le_of_ble_eq_true rfl) (Nat.le_of_ble_eq_true rfl) (gC_winner_ok (by omega) (by decide) e5) ?_
    refine Ev.seg D_130 [(.istore_n 1, 1), (.iload_n 1, 1), (.iconst (-1), 1)] (by decide +kernel) (j := 0) (pc' := 23) (lv' := [(1, .int p5), (0, .ref 0)]) (st' := [.int (-1 : Int32), .int p5]) rfl ?_
    refine Ev.icmp D_130 (c := .ne) (off := 5) (by decide +kernel) (t := 28) rfl (fun c6 => ?_) (fun c6 => ?_)
    · have c6 : ¬ p5 = (-1 : Int32) := of_decide_eq_true c6
      rw [if_neg c6] at h
      refine Ev.seg D_130 [(.iconst 0, 1), (.istore_n 2, 1)] (by decide +kernel) (j := 0) (pc' := 30) (lv' := [(2, .int (0 : Int32)), (1, .int p5), (0, .ref 0)]) (st' := []) rfl ?_
      exact Ev.sub (lv' := [(0, .ref 0), (1, .int p5), (2, .int (0 : Int32))]) (subL_cons rfl (subL_cons rfl (subL_cons rfl subL_nil))) (gL_key_h30_w hd   _ _ _ h _ ho)
    · have c6 : p5 = (-1 : Int32) := Decidable.of_not_not (of_decide_eq_false c6)
      rw [if_pos c6] at h
      refine Ev.seg D_130 [(.iconst (-1), 1)] (by decide +kernel) (j := 0) (pc' := 27) (lv' := [(1, .int p5), (0, .ref 0)]) (st' := [.int (-1 : Int32)]) rfl ?_
      cases h
      obtain rfl : o = _ := ho
      exact Ev.iret D_130 (by decide +kernel)
  · have c3 : p2 = 0 := Decidable.of_not_not (of_decide_eq_false c3)
    rw [if_pos c3] at h
    refine Ev.seg D_130 [(.bipush (-2), 2)] (by decide +kernel) (j := 0) (pc' := 12) (lv' := [(0, .ref 0)]) (st' := [.int (-2 : Int32)]) rfl ?_
    cases h
    obtain rfl : o = _ := ho
    exact Ev.iret D_130 (by decide +kernel)
/- PennantLawn handicap: 131 -/
def gL_handicap_h24 (v1 : Int32) (q : Int32 × mT) : Option ((Int32 × mT) ⊕ (Int32 × mT)) :=
  if (9 : Int32) < q.1 then
    some (.inr (((-1 : Int32), q.2)))
  else
    (wrI q.2 123 5 v1 q.1).bind fun s5 =>
    (gC_sailToWinner 121 s5).bind fun p7 =>
    if p7.1 = v1 then
      some (.inl (q.1 + (1 : Int32), p7.2))
    else
      some (.inr ((q.1, p7.2)))
set_option maxRecDepth 8000 in
theorem gL_handicap_h24_ok {L d : Nat} (hd : 6 ≤ d + 1) {v1 : Int32} : ∀ (q : Int32 × mT) (x : (Int32 × mT) ⊕ (Int32 × mT)), gL_handicap_h24 v1 q = some x → ∀ o, sK (fun q => Ev (d + 1) 131 24 [(0, .ref 0), (1, .int v1), (2, .int q.1)] [] (uS L q.2) o) (fun r => o = (some (.int r.1), uS L r.2)) x → Ev (d + 1) 131 24 [(0, .ref 0), (1, .int v1), (2, .int q.1)] [] (uS L q.2) o := by
  intro q x h o ho
  unfold gL_handicap_h24 at h
  refine Ev.seg D_131 [(.iload_n 2, 1), (.bipush 9, 2)] (by decide +kernel) (j := 0) (pc' := 27) (lv' := [(0, .ref 0), (1, .int v1), (2, .int q.1)]) (st' := [.int (9 : Int32), .int q.1]) rfl ?_
  refine Ev.icmp D_131 (c := .gt) (off := 32) (by decide +kernel) (t := 59) rfl (fun c1 => ?_) (fun c1 => ?_)
  · have c1 : (9 : Int32) < q.1 := of_decide_eq_true c1
    rw [if_pos c1] at h
    refine Ev.seg D_131 [(.iconst (-1), 1)] (by decide +kernel) (j := 0) (pc' := 60) (lv' := [(0, .ref 0), (1, .int v1), (2, .int q.1)]) (st' := [.int (-1 : Int32)]) rfl ?_
    cases h
    obtain rfl : o = _ := ho
    exact Ev.iret D_131 (by decide +kernel)
  · have c1 : ¬ (9 : Int32) < q.1 := of_decide_eq_false c1
    rw [if_neg c1] at h
    refine Ev.seg D_131 [(.aload_n 0, 1)] (by decide +kernel) (j := 0) (pc' := 31) (lv' := [(0, .ref 0), (1, .int v1), (2, .int q.1)]) (st' := [.ref 0]) rfl ?_
    refine Ev.getR D_131 (by decide +kernel) F_9_41 T_9_6 (x := 121) (S_oR k_0 (by decide +kernel)) ?_
    refine Ev.getR D_131 (by decide +kernel) F_9_247 T_0_3 (x := 123) (S_oR k_121 (by decide +kernel)) ?_
    refine Ev.seg D_131 [(.iload_n 1, 1), (.iload_n 2, 1)] (by decide +kernel) (j := 0) (pc' := 39) (lv' := [(0, .ref 0), (1, .int v1), (2, .int q.1)]) (st' := [.int q.1, .int v1, .ref 123]) rfl ?_
    obtain ⟨s5, e5, h⟩ := bd h
    refine Ev.iast D_131 (by decide +kernel) (S_sI k_123 e5) ?_
    refine Ev.seg D_131 [(.aload_n 0, 1)] (by decide +kernel) (j := 0) (pc' := 41) (lv' := [(0, .ref 0), (1, .int v1), (2, .int q.1)]) (st' := [.ref 0]) rfl ?_
    refine Ev.getR D_131 (by decide +kernel) F_9_41 T_9_6 (x := 121) (S_oR k_0 (by decide +kernel)) ?_
    obtain ⟨p7, e7, h⟩ := bd h
    refine Ev.callv D_131 E_23 (by decide +kernel) C_9_238 121 [] (r := []) rfl (gd_o k_121 (by decide)) rfl (Nat.le_of_ble_eq_true rfl) (Nat.le_of_ble_eq_true rfl) (gC_sailToWinner_ok (by omega) (by decide) e7) ?_
    refine Ev.seg D_131 [(.iload_n 1, 1)] (by decide +kernel) (j := 0) (pc' := 48) (lv' := [(0, .ref 0), (1, .int v1), (2, .int q.1)]) (st' := [.int v1, .int p7.1]) rfl ?_
    refine Ev.icmp D_131 (c := .eq) (off := 5) (by decide +kernel) (t := 53) rfl (fun c8 => ?_) (fun c8 => ?_)
    · have c8 : p7.1 = v1 := of_decide_eq_true c8
      rw [if_pos c8] at h
      refine Ev.seg D_131 [(.iinc 2 1, 3), (.goto (-32), 3)] (by decide +kernel) (j := 0) (pc' := 24) (lv' := [(2, .int (q.1 + (1 : Int32))), (0, .ref 0), (1, .int v1)]) (st' := []) rfl ?_
      cases h
      exact Ev.sub (lv' := [(0, .ref 0), (1, .int v1), (2, .int (q.1 + (1 : Int32)))]) (subL_cons rfl (subL_cons rfl (subL_cons rfl subL_nil))) ho
    · have c8 : ¬ p7.1 = v1 := of_decide_eq_false c8
      rw [if_neg c8] at h
      refine Ev.seg D_131 [(.iload_n 2, 1)] (by decide +kernel) (j := 0) (pc' := 52) (lv' := [(0, .ref 0), (1, .int v1), (2, .int q.1)]) (st' := [.int q.1]) rfl ?_
      cases h
      obtain rfl : o = _ := ho
      exact Ev.iret D_131 (by decide +kernel)
theorem gL_handicap_h24_w {L d : Nat} (hd : 6 ≤ d + 1) {v1 : Int32} : ∀ (n : Nat) (q : Int32 × mT) (r : Int32 × mT), wh n (gL_handicap_h24 v1) q = some r → ∀ o, (fun r => o = (some (.int r.1), uS L r.2)) r → Ev (d + 1) 131 24 [(0, .ref 0), (1, .int v1), (2, .int q.1)] [] (uS L q.2) o :=
  fun n q r h o hc => wh_ev (E := fun (q : Int32 × mT) o => Ev (d + 1) 131 24 [(0, .ref 0), (1, .int v1), (2, .int q.1)] [] (uS L q.2) o) (C := fun (r : Int32 × mT) o => (fun r => o = (some (.int r.1), uS L r.2)) r) (gL_handicap_h24_ok hd  ) n q r h o hc
def gL_handicap (v1 : Int32) (s : mT) : Option (Int32 × mT) :=
  (gR_hasBoat 16 v1.toInt64 s).bind fun p2 =>
  if p2 = 0 then
    some (((-2 : Int32), s))
  else
    (gC_prepare 121 s).bind fun p5 =>
    wh FU (gL_handicap_h24 v1) ((1 : Int32), p5)
set_option maxRecDepth 8000 in
theorem gL_handicap_ok {L d : Nat} (hd : 6 ≤ d) {v1 : Int32} {s : mT} {p : Int32 × mT} (h : gL_handicap v1 s = some p) : Ev d 131 0 [(0, .ref 0), (1, .int v1)] [] (uS L s) (some (.int p.1), uS L p.2) := by
  obtain ⟨d, rfl⟩ : ∃ e, d = e + 1 := ⟨d - 1, by omega⟩
  obtain ⟨o, ho⟩ : ∃ o : Option Value × mS, o = (some (.int p.1), uS L p.2) := ⟨_, rfl⟩
  rw [← ho]
  unfold gL_handicap at h
  refine Ev.seg D_131 [(.aload_n 0, 1)] (by decide +kernel) (j := 0) (pc' := 1) (lv' := [(0, .ref 0), (1, .int v1)]) (st' := [.ref 0]) rfl ?_
  refine Ev.getR D_131 (by decide +kernel) F_9_28 T_9_2 (x := 16) (S_oR k_0 (by decide +kernel)) ?_
  refine Ev.seg D_131 [(.iload_n 1, 1), (.i2l, 1)] (by decide +kernel) (j := 0) (pc' := 6) (lv' := [(0, .ref 0), (1, .int v1)]) (st' := [.long v1.toInt64, .ref 16]) rfl ?_
  obtain ⟨p2, e2, h⟩ := bd h
  refine Ev.callv D_131 E_39 (by decide +kernel) C_9_119 16 [.long v1.toInt64] (r := []) rfl (gd_o k_16 (by decide)) rfl (Nat.le_of_ble_eq_true rfl) (Nat.le_of_ble_eq_true rfl) (gR_hasBoat_ok (by omega) (by decide) e2) ?_
  refine Ev.if_ D_131 (c := .ne) (off := 6) (by decide +kernel) (t := 15) rfl (fun c3 => ?_) (fun c3 => ?_)
  · have c3 : ¬ p2 = 0 := of_decide_eq_true c3
    rw [if_neg c3] at h
    refine Ev.seg D_131 [(.aload_n 0, 1)] (by decide +kernel) (j := 0) (pc' := 16) (lv' := [(0, .ref 0), (1, .int v1)]) (st' := [.ref 0]) rfl ?_
    refine Ev.getR D_131 (by decide +kernel) F_9_41 T_9_6 (x := 121) (S_oR k_0 (by decide +kernel)) ?_
    obtain ⟨p5, e5, h⟩ := bd h
    refine Ev.callv D_131 E_1 (by decide +kernel) C_9_241 121 [] (r := []) rfl (gd_o k_121 (by decide)) rfl (Nat.le_of_ble_eq_true rfl) (Nat.le_of_ble_eq_true rfl) (gC_prepare_ok (by omega) (by decide) e5) ?_
    refine Ev.seg D_131 [(.iconst 1, 1), (.istore_n 2, 1)] (by decide +kernel) (j := 0) (pc' := 24) (lv' := [(2, .int (1 : Int32)), (0, .ref 0), (1, .int v1)]) (st' := []) rfl ?_
    exact Ev.sub (lv' := [(0, .ref 0), (1, .int v1), (2, .int (1 : Int32))]) (subL_cons rfl (subL_cons rfl (subL_cons rfl subL_nil))) (gL_handicap_h24_w hd   _ _ _ h _ ho)
  · have c3 : p2 = 0 := Decidable.of_not_not (of_decide_eq_false c3)
    rw [if_pos c3] at h
    refine Ev.seg D_131 [(.bipush (-2), 2)] (by decide +kernel) (j := 0) (pc' := 14) (lv' := [(0, .ref 0), (1, .int v1)]) (st' := [.int (-2 : Int32)]) rfl ?_
    cases h
    obtain rfl : o = _ := ho
    exact Ev.iret D_131 (by decide +kernel)
/- PennantLawn start: 132 -/
def gL_start_h24 (v1 : Int32) (q : Int32 × mT) : Option ((Int32 × mT) ⊕ (Int32 × mT)) :=
  if (30 : Int32) < q.1 then
    some (.inr (((-1 : Int32), q.2)))
  else
    (wrI q.2 122 5 v1 q.1).bind fun s5 =>
    (gC_sailToWinner 121 s5).bind fun p7 =>
    if p7.1 = v1 then
      some (.inr ((q.1, p7.2)))
    else
      some (.inl (q.1 + (1 : Int32), p7.2))
set_option maxRecDepth 8000 in
theorem gL_start_h24_ok {L d : Nat} (hd : 6 ≤ d + 1) {v1 : Int32} : ∀ (q : Int32 × mT) (x : (Int32 × mT) ⊕ (Int32 × mT)), gL_start_h24 v1 q = some x → ∀ o, sK (fun q => Ev (d + 1) 132 24 [(0, .ref 0), (1, .int v1), (2, .int q.1)] [] (uS L q.2) o) (fun r => o = (some (.int r.1), uS L r.2)) x → Ev (d + 1) 132 24 [(0, .ref 0), (1, .int v1), (2, .int q.1)] [] (uS L q.2) o := by
  intro q x h o ho
  unfold gL_start_h24 at h
  refine Ev.seg D_132 [(.iload_n 2, 1), (.bipush 30, 2)] (by decide +kernel) (j := 0) (pc' := 27) (lv' := [(0, .ref 0), (1, .int v1), (2, .int q.1)]) (st' := [.int (30 : Int32), .int q.1]) rfl ?_
  refine Ev.icmp D_132 (c := .gt) (off := 32) (by decide +kernel) (t := 59) rfl (fun c1 => ?_) (fun c1 => ?_)
  · have c1 : (30 : Int32) < q.1 := of_decide_eq_true c1
    rw [if_pos c1] at h
    refine Ev.seg D_132 [(.iconst (-1), 1)] (by decide +kernel) (j := 0) (pc' := 60) (lv' := [(0, .ref 0), (1, .int v1), (2, .int q.1)]) (st' := [.int (-1 : Int32)]) rfl ?_
    cases h
    obtain rfl : o = _ := ho
    exact Ev.iret D_132 (by decide +kernel)
  · have c1 : ¬ (30 : Int32) < q.1 := of_decide_eq_false c1
    rw [if_neg c1] at h
    refine Ev.seg D_132 [(.aload_n 0, 1)] (by decide +kernel) (j := 0) (pc' := 31) (lv' := [(0, .ref 0), (1, .int v1), (2, .int q.1)]) (st' := [.ref 0]) rfl ?_
    refine Ev.getR D_132 (by decide +kernel) F_9_41 T_9_6 (x := 121) (S_oR k_0 (by decide +kernel)) ?_
    refine Ev.getR D_132 (by decide +kernel) F_9_248 T_0_2 (x := 122) (S_oR k_121 (by decide +kernel)) ?_
    refine Ev.seg D_132 [(.iload_n 1, 1), (.iload_n 2, 1)] (by decide +kernel) (j := 0) (pc' := 39) (lv' := [(0, .ref 0), (1, .int v1), (2, .int q.1)]) (st' := [.int q.1, .int v1, .ref 122]) rfl ?_
    obtain ⟨s5, e5, h⟩ := bd h
    refine Ev.iast D_132 (by decide +kernel) (S_sI k_122 e5) ?_
    refine Ev.seg D_132 [(.aload_n 0, 1)] (by decide +kernel) (j := 0) (pc' := 41) (lv' := [(0, .ref 0), (1, .int v1), (2, .int q.1)]) (st' := [.ref 0]) rfl ?_
    refine Ev.getR D_132 (by decide +kernel) F_9_41 T_9_6 (x := 121) (S_oR k_0 (by decide +kernel)) ?_
    obtain ⟨p7, e7, h⟩ := bd h
    refine Ev.callv D_132 E_23 (by decide +kernel) C_9_238 121 [] (r := []) rfl (gd_o k_121 (by decide)) rfl (Nat.le_of_ble_eq_true rfl) (Nat.le_of_ble_eq_true rfl) (gC_sailToWinner_ok (by omega) (by decide) e7) ?_
    refine Ev.seg D_132 [(.iload_n 1, 1)] (by decide +kernel) (j := 0) (pc' := 48) (lv' := [(0, .ref 0), (1, .int v1), (2, .int q.1)]) (st' := [.int v1, .int p7.1]) rfl ?_
    refine Ev.icmp D_132 (c := .ne) (off := 5) (by decide +kernel) (t := 53) rfl (fun c8 => ?_) (fun c8 => ?_)
    · have c8 : ¬ p7.1 = v1 := of_decide_eq_true c8
      rw [if_neg c8] at h
      refine Ev.seg D_132 [(.iinc 2 1, 3), (.goto (-32), 3)] (by decide +kernel) (j := 0) (pc' := 24) (lv' := [(2, .int (q.1 + (1 : Int32))), (0, .ref 0), (1, .int v1)]) (st' := []) rfl ?_
      cases h
      exact Ev.sub (lv' := [(0, .ref 0), (1, .int v1), (2, .int (q.1 + (1 : Int32)))]) (subL_cons rfl (subL_cons rfl (subL_cons rfl subL_nil))) ho
    · have c8 : p7.1 = v1 := Decidable.of_not_not (of_decide_eq_false c8)
      rw [if_pos c8] at h
      refine Ev.seg D_132 [(.iload_n 2, 1)] (by decide +kernel) (j := 0) (pc' := 52) (lv' := [(0, .ref 0), (1, .int v1), (2, .int q.1)]) (st' := [.int q.1]) rfl ?_
      cases h
      obtain rfl : o = _ := ho
      exact Ev.iret D_132 (by decide +kernel)
theorem gL_start_h24_w {L d : Nat} (hd : 6 ≤ d + 1) {v1 : Int32} : ∀ (n : Nat) (q : Int32 × mT) (r : Int32 × mT), wh n (gL_start_h24 v1) q = some r → ∀ o, (fun r => o = (some (.int r.1), uS L r.2)) r → Ev (d + 1) 132 24 [(0, .ref 0), (1, .int v1), (2, .int q.1)] [] (uS L q.2) o :=
  fun n q r h o hc => wh_ev (E := fun (q : Int32 × mT) o => Ev (d + 1) 132 24 [(0, .ref 0), (1, .int v1), (2, .int q.1)] [] (uS L q.2) o) (C := fun (r : Int32 × mT) o => (fun r => o = (some (.int r.1), uS L r.2)) r) (gL_start_h24_ok hd  ) n q r h o hc
def gL_start (v1 : Int32) (s : mT) : Option (Int32 × mT) :=
  (gR_hasBoat 16 v1.toInt64 s).bind fun p2 =>
  if p2 = 0 then
    some (((-2 : Int32), s))
  else
    (gC_prepare 121 s).bind fun p5 =>
    wh FU (gL_start_h24 v1) ((0 : Int32), p5)
set_option maxRecDepth 8000 in
theorem gL_start_ok {L d : Nat} (hd : 6 ≤ d) {v1 : Int32} {s : mT} {p : Int32 × mT} (h : gL_start v1 s = some p) : Ev d 132 0 [(0, .ref 0), (1, .int v1)] [] (uS L s) (some (.int p.1), uS L p.2) := by
  obtain ⟨d, rfl⟩ : ∃ e, d = e + 1 := ⟨d - 1, by omega⟩
  obtain ⟨o, ho⟩ : ∃ o : Option Value × mS, o = (some (.int p.1), uS L p.2) := ⟨_, rfl⟩
  rw [← ho]
  unfold gL_start at h
  refine Ev.seg D_132 [(.aload_n 0, 1)] (by decide +kernel) (j := 0) (pc' := 1) (lv' := [(0, .ref 0), (1, .int v1)]) (st' := [.ref 0]) rfl ?_
  refine Ev.getR D_132 (by decide +kernel) F_9_28 T_9_2 (x := 16) (S_oR k_0 (by decide +kernel)) ?_
  refine Ev.seg D_132 [(.iload_n 1, 1), (.i2l, 1)] (by decide +kernel) (j := 0) (pc' := 6) (lv' := [(0, .ref 0), (1, .int v1)]) (st' := [.long v1.toInt64, .ref 16]) rfl ?_
  obtain ⟨p2, e2, h⟩ := bd h
  refine Ev.callv D_132 E_39 (by decide +kernel) C_9_119 16 [.long v1.toInt64] (r := []) rfl (gd_o k_16 (by decide)) rfl (Nat.le_of_ble_eq_true rfl) (Nat.le_of_ble_eq_true rfl) (gR_hasBoat_ok (by omega) (by decide) e2) ?_
  refine Ev.if_ D_132 (c := .ne) (off := 6) (by decide +kernel) (t := 15) rfl (fun c3 => ?_) (fun c3 => ?_)
  · have c3 : ¬ p2 = 0 := of_decide_eq_true c3
    rw [if_neg c3] at h
    refine Ev.seg D_132 [(.aload_n 0, 1)] (by decide +kernel) (j := 0) (pc' := 16) (lv' := [(0, .ref 0), (1, .int v1)]) (st' := [.ref 0]) rfl ?_
    refine Ev.getR D_132 (by decide +kernel) F_9_41 T_9_6 (x := 121) (S_oR k_0 (by decide +kernel)) ?_
    obtain ⟨p5, e5, h⟩ := bd h
    refine Ev.callv D_132 E_1 (by decide +kernel) C_9_241 121 [] (r := []) rfl (gd_o k_121 (by decide)) rfl (Nat.le_of_ble_eq_true rfl) (Nat.le_of_ble_eq_true rfl) (gC_prepare_ok (by omega) (by decide) e5) ?_
    refine Ev.seg D_132 [(.iconst 0, 1), (.istore_n 2, 1)] (by decide +kernel) (j := 0) (pc' := 24) (lv' := [(2, .int (0 : Int32)), (0, .ref 0), (1, .int v1)]) (st' := []) rfl ?_
    exact Ev.sub (lv' := [(0, .ref 0), (1, .int v1), (2, .int (0 : Int32))]) (subL_cons rfl (subL_cons rfl (subL_cons rfl subL_nil))) (gL_start_h24_w hd   _ _ _ h _ ho)
  · have c3 : p2 = 0 := Decidable.of_not_not (of_decide_eq_false c3)
    rw [if_pos c3] at h
    refine Ev.seg D_132 [(.bipush (-2), 2)] (by decide +kernel) (j := 0) (pc' := 14) (lv' := [(0, .ref 0), (1, .int v1)]) (st' := [.int (-2 : Int32)]) rfl ?_
    cases h
    obtain rfl : o = _ := ho
    exact Ev.iret D_132 (by decide +kernel)
/- PennantLawn by: 133 -/
def gL_by (v1 : Int32) (s : mT) : Option (Int32 × mT) :=
  (gR_exists 16 s).bind fun p2 =>
  if p2 = 0 then
    some (((-2 : Int32), s))
  else
    if v1 < 0 then
      some (((-2 : Int32), s))
    else
      if v1 < (4 : Int32) then
        (gC_prepare 121 s).bind fun p9 =>
        (gC_sailToWinner 121 (stI p9 121 1 v1)).bind fun p13 =>
        some ((p13.1, p13.2))
      else
        some (((-2 : Int32), s))
set_option maxRecDepth 8000 in
theorem gL_by_ok {L d : Nat} (hd : 6 ≤ d) {v1 : Int32} {s : mT} {p : Int32 × mT} (h : gL_by v1 s = some p) : Ev d 133 0 [(0, .ref 0), (1, .int v1)] [] (uS L s) (some (.int p.1), uS L p.2) := by
  obtain ⟨d, rfl⟩ : ∃ e, d = e + 1 := ⟨d - 1, by omega⟩
  obtain ⟨o, ho⟩ : ∃ o : Option Value × mS, o = (some (.int p.1), uS L p.2) := ⟨_, rfl⟩
  rw [← ho]
  unfold gL_by at h
  refine Ev.seg D_133 [(.aload_n 0, 1)] (by decide +kernel) (j := 0) (pc' := 1) (lv' := [(0, .ref 0), (1, .int v1)]) (st' := [.ref 0]) rfl ?_
  refine Ev.getR D_133 (by decide +kernel) F_9_28 T_9_2 (x := 16) (S_oR k_0 (by decide +kernel)) ?_
  obtain ⟨p2, e2, h⟩ := bd h
  refine Ev.callv D_133 E_43 (by decide +kernel) C_9_196 16 [] (r := []) rfl (gd_o k_16 (by decide)) rfl (Nat.le_of_ble_eq_true rfl) (Nat.le_of_ble_eq_true rfl) (gR_exists_ok (by omega) (by decide) e2) ?_
  refine Ev.if_ D_133 (c := .eq) (off := 12) (by decide +kernel) (t := 19) rfl (fun c3 => ?_) (fun c3 => ?_)
  · have c3 : p2 = 0 := of_decide_eq_true c3
    rw [if_pos c3] at h
    refine Ev.seg D_133 [(.bipush (-2), 2)] (by decide +kernel) (j := 0) (pc' := 21) (lv' := [(0, .ref 0), (1, .int v1)]) (st' := [.int (-2 : Int32)]) rfl ?_
    cases h
    obtain rfl : o = _ := ho
    exact Ev.iret D_133 (by decide +kernel)
  · have c3 : ¬ p2 = 0 := of_decide_eq_false c3
    rw [if_neg c3] at h
    refine Ev.seg D_133 [(.iload_n 1, 1)] (by decide +kernel) (j := 0) (pc' := 11) (lv' := [(0, .ref 0), (1, .int v1)]) (st' := [.int v1]) rfl ?_
    refine Ev.if_ D_133 (c := .lt) (off := 8) (by decide +kernel) (t := 19) rfl (fun c5 => ?_) (fun c5 => ?_)
    · have c5 : v1 < 0 := of_decide_eq_true c5
      rw [if_pos c5] at h
      refine Ev.seg D_133 [(.bipush (-2), 2)] (by decide +kernel) (j := 0) (pc' := 21) (lv' := [(0, .ref 0), (1, .int v1)]) (st' := [.int (-2 : Int32)]) rfl ?_
      cases h
      obtain rfl : o = _ := ho
      exact Ev.iret D_133 (by decide +kernel)
    · have c5 : ¬ v1 < 0 := of_decide_eq_false c5
      rw [if_neg c5] at h
      refine Ev.seg D_133 [(.iload_n 1, 1), (.iconst 4, 1)] (by decide +kernel) (j := 0) (pc' := 16) (lv' := [(0, .ref 0), (1, .int v1)]) (st' := [.int (4 : Int32), .int v1]) rfl ?_
      refine Ev.icmp D_133 (c := .lt) (off := 6) (by decide +kernel) (t := 22) rfl (fun c7 => ?_) (fun c7 => ?_)
      · have c7 : v1 < (4 : Int32) := of_decide_eq_true c7
        rw [if_pos c7] at h
        refine Ev.seg D_133 [(.aload_n 0, 1)] (by decide +kernel) (j := 0) (pc' := 23) (lv' := [(0, .ref 0), (1, .int v1)]) (st' := [.ref 0]) rfl ?_
        refine Ev.getR D_133 (by decide +kernel) F_9_41 T_9_6 (x := 121) (S_oR k_0 (by decide +kernel)) ?_
        obtain ⟨p9, e9, h⟩ := bd h
        refine Ev.callv D_133 E_1 (by decide +kernel) C_9_241 121 [] (r := []) rfl (gd_o k_121 (by decide)) rfl (Nat.le_of_ble_eq_true rfl) (Nat.le_of_ble_eq_true rfl) (gC_prepare_ok (by omega) (by decide) e9) ?_
        refine Ev.seg D_133 [(.aload_n 0, 1)] (by decide +kernel) (j := 0) (pc' := 30) (lv' := [(0, .ref 0), (1, .int v1)]) (st' := [.ref 0]) rfl ?_
        refine Ev.getR D_133 (by decide +kernel) F_9_41 T_9_6 (x := 121) (S_oR k_0 (by decide +kernel)) ?_
        refine Ev.seg D_133 [(.iload_n 1, 1)] (by decide +kernel) (j := 0) (pc' := 34) (lv' := [(0, .ref 0), (1, .int v1)]) (st' := [.int v1, .ref 121]) rfl ?_
        refine Ev.putI D_133 (by decide +kernel) F_9_249 N_0_1 T_0_1 (S_pI k_121) ?_
        refine Ev.seg D_133 [(.aload_n 0, 1)] (by decide +kernel) (j := 0) (pc' := 38) (lv' := [(0, .ref 0), (1, .int v1)]) (st' := [.ref 0]) rfl ?_
        refine Ev.getR D_133 (by decide +kernel) F_9_41 T_9_6 (x := 121) (S_oR k_0 (by decide +kernel)) ?_
        obtain ⟨p13, e13, h⟩ := bd h
        refine Ev.callv D_133 E_23 (by decide +kernel) C_9_238 121 [] (r := []) rfl (gd_o k_121 (by decide)) rfl (Nat.le_of_ble_eq_true rfl) (Nat.le_of_ble_eq_true rfl) (gC_sailToWinner_ok (by omega) (by decide) e13) ?_
        cases h
        obtain rfl : o = _ := ho
        exact Ev.iret D_133 (by decide +kernel)
      · have c7 : ¬ v1 < (4 : Int32) := of_decide_eq_false c7
        rw [if_neg c7] at h
        refine Ev.seg D_133 [(.bipush (-2), 2)] (by decide +kernel) (j := 0) (pc' := 21) (lv' := [(0, .ref 0), (1, .int v1)]) (st' := [.int (-2 : Int32)]) rfl ?_
        cases h
        obtain rfl : o = _ := ho
        exact Ev.iret D_133 (by decide +kernel)
/- PennantLawn ways: 134 -/
def gL_ways (v1 : Int32) (s : mT) : Option (Int32 × mT) :=
  (gR_hasBoat 16 v1.toInt64 s).bind fun p2 =>
  if p2 = 0 then
    some (((-2 : Int32), s))
  else
    (gV_makeIfStale s).bind fun p5 =>
    (rdI (p5.1 215) 5 v1).bind fun x8 =>
    some ((x8, p5))
set_option maxRecDepth 8000 in
theorem gL_ways_ok {L d : Nat} (hd : 7 ≤ d) {v1 : Int32} {s : mT} {p : Int32 × mT} (h : gL_ways v1 s = some p) : Ev d 134 0 [(0, .ref 0), (1, .int v1)] [] (uS L s) (some (.int p.1), uS L p.2) := by
  obtain ⟨d, rfl⟩ : ∃ e, d = e + 1 := ⟨d - 1, by omega⟩
  obtain ⟨o, ho⟩ : ∃ o : Option Value × mS, o = (some (.int p.1), uS L p.2) := ⟨_, rfl⟩
  rw [← ho]
  unfold gL_ways at h
  refine Ev.seg D_134 [(.aload_n 0, 1)] (by decide +kernel) (j := 0) (pc' := 1) (lv' := [(0, .ref 0), (1, .int v1)]) (st' := [.ref 0]) rfl ?_
  refine Ev.getR D_134 (by decide +kernel) F_9_28 T_9_2 (x := 16) (S_oR k_0 (by decide +kernel)) ?_
  refine Ev.seg D_134 [(.iload_n 1, 1), (.i2l, 1)] (by decide +kernel) (j := 0) (pc' := 6) (lv' := [(0, .ref 0), (1, .int v1)]) (st' := [.long v1.toInt64, .ref 16]) rfl ?_
  obtain ⟨p2, e2, h⟩ := bd h
  refine Ev.callv D_134 E_39 (by decide +kernel) C_9_119 16 [.long v1.toInt64] (r := []) rfl (gd_o k_16 (by decide)) rfl (Nat.le_of_ble_eq_true rfl) (Nat.le_of_ble_eq_true rfl) (gR_hasBoat_ok (by omega) (by decide) e2) ?_
  refine Ev.if_ D_134 (c := .ne) (off := 6) (by decide +kernel) (t := 15) rfl (fun c3 => ?_) (fun c3 => ?_)
  · have c3 : ¬ p2 = 0 := of_decide_eq_true c3
    rw [if_neg c3] at h
    refine Ev.seg D_134 [(.aload_n 0, 1)] (by decide +kernel) (j := 0) (pc' := 16) (lv' := [(0, .ref 0), (1, .int v1)]) (st' := [.ref 0]) rfl ?_
    refine Ev.getR D_134 (by decide +kernel) F_9_49 T_9_7 (x := 214) (S_oR k_0 (by decide +kernel)) ?_
    obtain ⟨p5, e5, h⟩ := bd h
    refine Ev.callv D_134 E_83 (by decide +kernel) C_9_252 214 [] (r := []) rfl (gd_o k_214 (by decide)) rfl (Nat.le_of_ble_eq_true rfl) (Nat.le_of_ble_eq_true rfl) (gV_makeIfStale_ok (by omega)  e5) ?_
    refine Ev.seg D_134 [(.aload_n 0, 1)] (by decide +kernel) (j := 0) (pc' := 23) (lv' := [(0, .ref 0), (1, .int v1)]) (st' := [.ref 0]) rfl ?_
    refine Ev.getR D_134 (by decide +kernel) F_9_49 T_9_7 (x := 214) (S_oR k_0 (by decide +kernel)) ?_
    refine Ev.getR D_134 (by decide +kernel) F_9_255 T_7_3 (x := 215) (S_oR k_214 (by decide +kernel)) ?_
    refine Ev.seg D_134 [(.iload_n 1, 1)] (by decide +kernel) (j := 0) (pc' := 30) (lv' := [(0, .ref 0), (1, .int v1)]) (st' := [.int v1, .ref 215]) rfl ?_
    obtain ⟨x8, e8, h⟩ := bd h
    refine Ev.iald D_134 (by decide +kernel) (S_aI k_215 e8) ?_
    cases h
    obtain rfl : o = _ := ho
    exact Ev.iret D_134 (by decide +kernel)
  · have c3 : p2 = 0 := Decidable.of_not_not (of_decide_eq_false c3)
    rw [if_pos c3] at h
    refine Ev.seg D_134 [(.bipush (-2), 2)] (by decide +kernel) (j := 0) (pc' := 14) (lv' := [(0, .ref 0), (1, .int v1)]) (st' := [.int (-2 : Int32)]) rfl ?_
    cases h
    obtain rfl : o = _ := ho
    exact Ev.iret D_134 (by decide +kernel)
/- PennantLawn plan: 135 -/
def gL_plan (v1 : Int32) (v2 : Int32) (s : mT) : Option (Int32 × mT) :=
  (gR_hasBoat 16 v1.toInt64 s).bind fun p2 =>
  if p2 = 0 then
    some (((-2 : Int32), s))
  else
    (gR_hasWatcher 16 v2 s).bind fun p6 =>
    if p6 = 0 then
      some (((-2 : Int32), s))
    else
      (gV_makeIfStale s).bind fun p9 =>
      if ¬ (v1 < 0 ∨ 5 ≤ v1.toNatClampNeg) then
        (rdI (p9.1 (220 + v1.toNatClampNeg)) 5 v2).bind fun x13 =>
        some ((x13, p9))
      else none
set_option maxRecDepth 8000 in
theorem gL_plan_ok {L d : Nat} (hd : 7 ≤ d) {v1 : Int32} {v2 : Int32} {s : mT} {p : Int32 × mT} (h : gL_plan v1 v2 s = some p) : Ev d 135 0 [(0, .ref 0), (1, .int v1), (2, .int v2)] [] (uS L s) (some (.int p.1), uS L p.2) := by
  obtain ⟨d, rfl⟩ : ∃ e, d = e + 1 := ⟨d - 1, by omega⟩
  obtain ⟨o, ho⟩ : ∃ o : Option Value × mS, o = (some (.int p.1), uS L p.2) := ⟨_, rfl⟩
  rw [← ho]
  unfold gL_plan at h
  refine Ev.seg D_135 [(.aload_n 0, 1)] (by decide +kernel) (j := 0) (pc' := 1) (lv' := [(0, .ref 0), (1, .int v1), (2, .int v2)]) (st' := [.ref 0]) rfl ?_
  refine Ev.getR D_135 (by decide +kernel) F_9_28 T_9_2 (x := 16) (S_oR k_0 (by decide +kernel)) ?_
  refine Ev.seg D_135 [(.iload_n 1, 1), (.i2l, 1)] (by decide +kernel) (j := 0) (pc' := 6) (lv' := [(0, .ref 0), (1, .int v1), (2, .int v2)]) (st' := [.long v1.toInt64, .ref 16]) rfl ?_
  obtain ⟨p2, e2, h⟩ := bd h
  refine Ev.callv D_135 E_39 (by decide +kernel) C_9_119 16 [.long v1.toInt64] (r := []) rfl (gd_o k_16 (by decide)) rfl (Nat.le_of_ble_eq_true rfl) (Nat.le_of_ble_eq_true rfl) (gR_hasBoat_ok (by omega) (by decide) e2) ?_
  refine Ev.if_ D_135 (c := .eq) (off := 14) (by decide +kernel) (t := 23) rfl (fun c3 => ?_) (fun c3 => ?_)
  · have c3 : p2 = 0 := of_decide_eq_true c3
    rw [if_pos c3] at h
    refine Ev.seg D_135 [(.bipush (-2), 2)] (by decide +kernel) (j := 0) (pc' := 25) (lv' := [(0, .ref 0), (1, .int v1), (2, .int v2)]) (st' := [.int (-2 : Int32)]) rfl ?_
    cases h
    obtain rfl : o = _ := ho
    exact Ev.iret D_135 (by decide +kernel)
  · have c3 : ¬ p2 = 0 := of_decide_eq_false c3
    rw [if_neg c3] at h
    refine Ev.seg D_135 [(.aload_n 0, 1)] (by decide +kernel) (j := 0) (pc' := 13) (lv' := [(0, .ref 0), (1, .int v1), (2, .int v2)]) (st' := [.ref 0]) rfl ?_
    refine Ev.getR D_135 (by decide +kernel) F_9_28 T_9_2 (x := 16) (S_oR k_0 (by decide +kernel)) ?_
    refine Ev.seg D_135 [(.iload_n 2, 1)] (by decide +kernel) (j := 0) (pc' := 17) (lv' := [(0, .ref 0), (1, .int v1), (2, .int v2)]) (st' := [.int v2, .ref 16]) rfl ?_
    obtain ⟨p6, e6, h⟩ := bd h
    refine Ev.callv D_135 E_40 (by decide +kernel) C_9_134 16 [.int v2] (r := []) rfl (gd_o k_16 (by decide)) rfl (Nat.le_of_ble_eq_true rfl) (Nat.le_of_ble_eq_true rfl) (gR_hasWatcher_ok (by omega) (by decide) e6) ?_
    refine Ev.if_ D_135 (c := .ne) (off := 6) (by decide +kernel) (t := 26) rfl (fun c7 => ?_) (fun c7 => ?_)
    · have c7 : ¬ p6 = 0 := of_decide_eq_true c7
      rw [if_neg c7] at h
      refine Ev.seg D_135 [(.aload_n 0, 1)] (by decide +kernel) (j := 0) (pc' := 27) (lv' := [(0, .ref 0), (1, .int v1), (2, .int v2)]) (st' := [.ref 0]) rfl ?_
      refine Ev.getR D_135 (by decide +kernel) F_9_49 T_9_7 (x := 214) (S_oR k_0 (by decide +kernel)) ?_
      obtain ⟨p9, e9, h⟩ := bd h
      refine Ev.callv D_135 E_83 (by decide +kernel) C_9_252 214 [] (r := []) rfl (gd_o k_214 (by decide)) rfl (Nat.le_of_ble_eq_true rfl) (Nat.le_of_ble_eq_true rfl) (gV_makeIfStale_ok (by omega)  e9) ?_
      refine Ev.seg D_135 [(.aload_n 0, 1)] (by decide +kernel) (j := 0) (pc' := 34) (lv' := [(0, .ref 0), (1, .int v1), (2, .int v2)]) (st' := [.ref 0]) rfl ?_
      refine Ev.getR D_135 (by decide +kernel) F_9_49 T_9_7 (x := 214) (S_oR k_0 (by decide +kernel)) ?_
      refine Ev.getR D_135 (by decide +kernel) F_9_258 T_7_7 (x := 219) (S_oR k_214 (by decide +kernel)) ?_
      refine Ev.seg D_135 [(.iload_n 1, 1)] (by decide +kernel) (j := 0) (pc' := 41) (lv' := [(0, .ref 0), (1, .int v1), (2, .int v2)]) (st' := [.int v1, .ref 219]) rfl ?_
      by_cases b41 : ¬ (v1 < 0 ∨ 5 ≤ v1.toNatClampNeg)
      rotate_left
      · rw [if_neg b41] at h; cases h
      rw [if_pos b41] at h
      refine Ev.aald D_135 (by decide +kernel) (kd := 26) ⟨by decide, by decide⟩ (x := (220 + v1.toNatClampNeg)) (S_aR k_219 b41 (lit_aa (e := 220) (n := 5) (by decide +kernel) b41)) ?_
      refine Ev.seg D_135 [(.iload_n 2, 1)] (by decide +kernel) (j := 0) (pc' := 43) (lv' := [(0, .ref 0), (1, .int v1), (2, .int v2)]) (st' := [.int v2, .ref (220 + v1.toNatClampNeg)]) rfl ?_
      obtain ⟨x13, e13, h⟩ := bd h
      refine Ev.iald D_135 (by decide +kernel) (S_aI (lit_row (e := 220) (n := 5) (by decide +kernel) b41) e13) ?_
      cases h
      obtain rfl : o = _ := ho
      exact Ev.iret D_135 (by decide +kernel)
    · have c7 : p6 = 0 := Decidable.of_not_not (of_decide_eq_false c7)
      rw [if_pos c7] at h
      refine Ev.seg D_135 [(.bipush (-2), 2)] (by decide +kernel) (j := 0) (pc' := 25) (lv' := [(0, .ref 0), (1, .int v1), (2, .int v2)]) (st' := [.int (-2 : Int32)]) rfl ?_
      cases h
      obtain rfl : o = _ := ho
      exact Ev.iret D_135 (by decide +kernel)
/- PennantLawn fewest: 136 -/
def gL_fewest (v1 : Int32) (s : mT) : Option (Int32 × mT) :=
  (gR_hasBoat 16 v1.toInt64 s).bind fun p2 =>
  if p2 = 0 then
    some (((-2 : Int32), s))
  else
    (gV_makeIfStale s).bind fun p5 =>
    (rdI (p5.1 216) 5 v1).bind fun x8 =>
    some ((x8, p5))
set_option maxRecDepth 8000 in
theorem gL_fewest_ok {L d : Nat} (hd : 7 ≤ d) {v1 : Int32} {s : mT} {p : Int32 × mT} (h : gL_fewest v1 s = some p) : Ev d 136 0 [(0, .ref 0), (1, .int v1)] [] (uS L s) (some (.int p.1), uS L p.2) := by
  obtain ⟨d, rfl⟩ : ∃ e, d = e + 1 := ⟨d - 1, by omega⟩
  obtain ⟨o, ho⟩ : ∃ o : Option Value × mS, o = (some (.int p.1), uS L p.2) := ⟨_, rfl⟩
  rw [← ho]
  unfold gL_fewest at h
  refine Ev.seg D_136 [(.aload_n 0, 1)] (by decide +kernel) (j := 0) (pc' := 1) (lv' := [(0, .ref 0), (1, .int v1)]) (st' := [.ref 0]) rfl ?_
  refine Ev.getR D_136 (by decide +kernel) F_9_28 T_9_2 (x := 16) (S_oR k_0 (by decide +kernel)) ?_
  refine Ev.seg D_136 [(.iload_n 1, 1), (.i2l, 1)] (by decide +kernel) (j := 0) (pc' := 6) (lv' := [(0, .ref 0), (1, .int v1)]) (st' := [.long v1.toInt64, .ref 16]) rfl ?_
  obtain ⟨p2, e2, h⟩ := bd h
  refine Ev.callv D_136 E_39 (by decide +kernel) C_9_119 16 [.long v1.toInt64] (r := []) rfl (gd_o k_16 (by decide)) rfl (Nat.le_of_ble_eq_true rfl) (Nat.le_of_ble_eq_true rfl) (gR_hasBoat_ok (by omega) (by decide) e2) ?_
  refine Ev.if_ D_136 (c := .ne) (off := 6) (by decide +kernel) (t := 15) rfl (fun c3 => ?_) (fun c3 => ?_)
  · have c3 : ¬ p2 = 0 := of_decide_eq_true c3
    rw [if_neg c3] at h
    refine Ev.seg D_136 [(.aload_n 0, 1)] (by decide +kernel) (j := 0) (pc' := 16) (lv' := [(0, .ref 0), (1, .int v1)]) (st' := [.ref 0]) rfl ?_
    refine Ev.getR D_136 (by decide +kernel) F_9_49 T_9_7 (x := 214) (S_oR k_0 (by decide +kernel)) ?_
    obtain ⟨p5, e5, h⟩ := bd h
    refine Ev.callv D_136 E_83 (by decide +kernel) C_9_252 214 [] (r := []) rfl (gd_o k_214 (by decide)) rfl (Nat.le_of_ble_eq_true rfl) (Nat.le_of_ble_eq_true rfl) (gV_makeIfStale_ok (by omega)  e5) ?_
    refine Ev.seg D_136 [(.aload_n 0, 1)] (by decide +kernel) (j := 0) (pc' := 23) (lv' := [(0, .ref 0), (1, .int v1)]) (st' := [.ref 0]) rfl ?_
    refine Ev.getR D_136 (by decide +kernel) F_9_49 T_9_7 (x := 214) (S_oR k_0 (by decide +kernel)) ?_
    refine Ev.getR D_136 (by decide +kernel) F_9_261 T_7_4 (x := 216) (S_oR k_214 (by decide +kernel)) ?_
    refine Ev.seg D_136 [(.iload_n 1, 1)] (by decide +kernel) (j := 0) (pc' := 30) (lv' := [(0, .ref 0), (1, .int v1)]) (st' := [.int v1, .ref 216]) rfl ?_
    obtain ⟨x8, e8, h⟩ := bd h
    refine Ev.iald D_136 (by decide +kernel) (S_aI k_216 e8) ?_
    cases h
    obtain rfl : o = _ := ho
    exact Ev.iret D_136 (by decide +kernel)
  · have c3 : p2 = 0 := Decidable.of_not_not (of_decide_eq_false c3)
    rw [if_pos c3] at h
    refine Ev.seg D_136 [(.bipush (-2), 2)] (by decide +kernel) (j := 0) (pc' := 14) (lv' := [(0, .ref 0), (1, .int v1)]) (st' := [.int (-2 : Int32)]) rfl ?_
    cases h
    obtain rfl : o = _ := ho
    exact Ev.iret D_136 (by decide +kernel)
/- PennantLawn soonest: 137 -/
def gL_soonest (v1 : Int32) (s : mT) : Option (Int32 × mT) :=
  (gR_hasBoat 16 v1.toInt64 s).bind fun p2 =>
  if p2 = 0 then
    some (((-2 : Int32), s))
  else
    (gV_makeIfStale s).bind fun p5 =>
    (rdI (p5.1 217) 5 v1).bind fun x8 =>
    some ((x8, p5))
set_option maxRecDepth 8000 in
theorem gL_soonest_ok {L d : Nat} (hd : 7 ≤ d) {v1 : Int32} {s : mT} {p : Int32 × mT} (h : gL_soonest v1 s = some p) : Ev d 137 0 [(0, .ref 0), (1, .int v1)] [] (uS L s) (some (.int p.1), uS L p.2) := by
  obtain ⟨d, rfl⟩ : ∃ e, d = e + 1 := ⟨d - 1, by omega⟩
  obtain ⟨o, ho⟩ : ∃ o : Option Value × mS, o = (some (.int p.1), uS L p.2) := ⟨_, rfl⟩
  rw [← ho]
  unfold gL_soonest at h
  refine Ev.seg D_137 [(.aload_n 0, 1)] (by decide +kernel) (j := 0) (pc' := 1) (lv' := [(0, .ref 0), (1, .int v1)]) (st' := [.ref 0]) rfl ?_
  refine Ev.getR D_137 (by decide +kernel) F_9_28 T_9_2 (x := 16) (S_oR k_0 (by decide +kernel)) ?_
  refine Ev.seg D_137 [(.iload_n 1, 1), (.i2l, 1)] (by decide +kernel) (j := 0) (pc' := 6) (lv' := [(0, .ref 0), (1, .int v1)]) (st' := [.long v1.toInt64, .ref 16]) rfl ?_
  obtain ⟨p2, e2, h⟩ := bd h
  refine Ev.callv D_137 E_39 (by decide +kernel) C_9_119 16 [.long v1.toInt64] (r := []) rfl (gd_o k_16 (by decide)) rfl (Nat.le_of_ble_eq_true rfl) (Nat.le_of_ble_eq_true rfl) (gR_hasBoat_ok (by omega) (by decide) e2) ?_
  refine Ev.if_ D_137 (c := .ne) (off := 6) (by decide +kernel) (t := 15) rfl (fun c3 => ?_) (fun c3 => ?_)
  · have c3 : ¬ p2 = 0 := of_decide_eq_true c3
    rw [if_neg c3] at h
    refine Ev.seg D_137 [(.aload_n 0, 1)] (by decide +kernel) (j := 0) (pc' := 16) (lv' := [(0, .ref 0), (1, .int v1)]) (st' := [.ref 0]) rfl ?_
    refine Ev.getR D_137 (by decide +kernel) F_9_49 T_9_7 (x := 214) (S_oR k_0 (by decide +kernel)) ?_
    obtain ⟨p5, e5, h⟩ := bd h
    refine Ev.callv D_137 E_83 (by decide +kernel) C_9_252 214 [] (r := []) rfl (gd_o k_214 (by decide)) rfl (Nat.le_of_ble_eq_true rfl) (Nat.le_of_ble_eq_true rfl) (gV_makeIfStale_ok (by omega)  e5) ?_
    refine Ev.seg D_137 [(.aload_n 0, 1)] (by decide +kernel) (j := 0) (pc' := 23) (lv' := [(0, .ref 0), (1, .int v1)]) (st' := [.ref 0]) rfl ?_
    refine Ev.getR D_137 (by decide +kernel) F_9_49 T_9_7 (x := 214) (S_oR k_0 (by decide +kernel)) ?_
    refine Ev.getR D_137 (by decide +kernel) F_9_264 T_7_5 (x := 217) (S_oR k_214 (by decide +kernel)) ?_
    refine Ev.seg D_137 [(.iload_n 1, 1)] (by decide +kernel) (j := 0) (pc' := 30) (lv' := [(0, .ref 0), (1, .int v1)]) (st' := [.int v1, .ref 217]) rfl ?_
    obtain ⟨x8, e8, h⟩ := bd h
    refine Ev.iald D_137 (by decide +kernel) (S_aI k_217 e8) ?_
    cases h
    obtain rfl : o = _ := ho
    exact Ev.iret D_137 (by decide +kernel)
  · have c3 : p2 = 0 := Decidable.of_not_not (of_decide_eq_false c3)
    rw [if_pos c3] at h
    refine Ev.seg D_137 [(.bipush (-2), 2)] (by decide +kernel) (j := 0) (pc' := 14) (lv' := [(0, .ref 0), (1, .int v1)]) (st' := [.int (-2 : Int32)]) rfl ?_
    cases h
    obtain rfl : o = _ := ho
    exact Ev.iret D_137 (by decide +kernel)
/- PennantLawn far: 138 -/
def gL_far (v1 : Int32) (s : mT) : Option (Int32 × mT) :=
  (gR_hasBoat 16 v1.toInt64 s).bind fun p2 =>
  if p2 = 0 then
    some (((-2 : Int32), s))
  else
    (gV_makeIfStale s).bind fun p5 =>
    (rdI (p5.1 218) 5 v1).bind fun x8 =>
    some ((x8, p5))
set_option maxRecDepth 8000 in
theorem gL_far_ok {L d : Nat} (hd : 7 ≤ d) {v1 : Int32} {s : mT} {p : Int32 × mT} (h : gL_far v1 s = some p) : Ev d 138 0 [(0, .ref 0), (1, .int v1)] [] (uS L s) (some (.int p.1), uS L p.2) := by
  obtain ⟨d, rfl⟩ : ∃ e, d = e + 1 := ⟨d - 1, by omega⟩
  obtain ⟨o, ho⟩ : ∃ o : Option Value × mS, o = (some (.int p.1), uS L p.2) := ⟨_, rfl⟩
  rw [← ho]
  unfold gL_far at h
  refine Ev.seg D_138 [(.aload_n 0, 1)] (by decide +kernel) (j := 0) (pc' := 1) (lv' := [(0, .ref 0), (1, .int v1)]) (st' := [.ref 0]) rfl ?_
  refine Ev.getR D_138 (by decide +kernel) F_9_28 T_9_2 (x := 16) (S_oR k_0 (by decide +kernel)) ?_
  refine Ev.seg D_138 [(.iload_n 1, 1), (.i2l, 1)] (by decide +kernel) (j := 0) (pc' := 6) (lv' := [(0, .ref 0), (1, .int v1)]) (st' := [.long v1.toInt64, .ref 16]) rfl ?_
  obtain ⟨p2, e2, h⟩ := bd h
  refine Ev.callv D_138 E_39 (by decide +kernel) C_9_119 16 [.long v1.toInt64] (r := []) rfl (gd_o k_16 (by decide)) rfl (Nat.le_of_ble_eq_true rfl) (Nat.le_of_ble_eq_true rfl) (gR_hasBoat_ok (by omega) (by decide) e2) ?_
  refine Ev.if_ D_138 (c := .ne) (off := 6) (by decide +kernel) (t := 15) rfl (fun c3 => ?_) (fun c3 => ?_)
  · have c3 : ¬ p2 = 0 := of_decide_eq_true c3
    rw [if_neg c3] at h
    refine Ev.seg D_138 [(.aload_n 0, 1)] (by decide +kernel) (j := 0) (pc' := 16) (lv' := [(0, .ref 0), (1, .int v1)]) (st' := [.ref 0]) rfl ?_
    refine Ev.getR D_138 (by decide +kernel) F_9_49 T_9_7 (x := 214) (S_oR k_0 (by decide +kernel)) ?_
    obtain ⟨p5, e5, h⟩ := bd h
    refine Ev.callv D_138 E_83 (by decide +kernel) C_9_252 214 [] (r := []) rfl (gd_o k_214 (by decide)) rfl (Nat.le_of_ble_eq_true rfl) (Nat.le_of_ble_eq_true rfl) (gV_makeIfStale_ok (by omega)  e5) ?_
    refine Ev.seg D_138 [(.aload_n 0, 1)] (by decide +kernel) (j := 0) (pc' := 23) (lv' := [(0, .ref 0), (1, .int v1)]) (st' := [.ref 0]) rfl ?_
    refine Ev.getR D_138 (by decide +kernel) F_9_49 T_9_7 (x := 214) (S_oR k_0 (by decide +kernel)) ?_
    refine Ev.getR D_138 (by decide +kernel) F_9_267 T_7_6 (x := 218) (S_oR k_214 (by decide +kernel)) ?_
    refine Ev.seg D_138 [(.iload_n 1, 1)] (by decide +kernel) (j := 0) (pc' := 30) (lv' := [(0, .ref 0), (1, .int v1)]) (st' := [.int v1, .ref 218]) rfl ?_
    obtain ⟨x8, e8, h⟩ := bd h
    refine Ev.iald D_138 (by decide +kernel) (S_aI k_218 e8) ?_
    cases h
    obtain rfl : o = _ := ho
    exact Ev.iret D_138 (by decide +kernel)
  · have c3 : p2 = 0 := Decidable.of_not_not (of_decide_eq_false c3)
    rw [if_pos c3] at h
    refine Ev.seg D_138 [(.bipush (-2), 2)] (by decide +kernel) (j := 0) (pc' := 14) (lv' := [(0, .ref 0), (1, .int v1)]) (st' := [.int (-2 : Int32)]) rfl ?_
    cases h
    obtain rfl : o = _ := ho
    exact Ev.iret D_138 (by decide +kernel)
/- PennantLawn can: 139 -/
def gL_can_h24 (s : mT) (q : Int32 × Int32) : Option ((Int32 × Int32) ⊕ (Int32)) :=
  if (s.1 16 5) ≤ q.2 then
    some (.inr q.1)
  else
    (rdI (s.1 215) 5 q.2).bind fun x6 =>
    (
      if x6 ≤ 0 then
        some (q.1)
      else
        some (q.1 ||| ((1 : Int32) <<< (q.2 &&& 31))) : Option (Int32)).bind fun x7 =>
    some (.inl (x7, q.2 + (1 : Int32)))
set_option maxRecDepth 8000 in
theorem gL_can_h24_ok {L d : Nat} (hd : 7 ≤ d + 1) {s : mT} : ∀ (q : Int32 × Int32) (x : (Int32 × Int32) ⊕ (Int32)), gL_can_h24 s q = some x → ∀ o, sK (fun q => Ev (d + 1) 139 24 [(0, .ref 0), (1, .int q.1), (2, .int q.2)] [] (uS L s) o) (fun r => Ev (d + 1) 139 59 [(1, .int r)] [] (uS L s) o) x → Ev (d + 1) 139 24 [(0, .ref 0), (1, .int q.1), (2, .int q.2)] [] (uS L s) o := by
  intro q x h o ho
  unfold gL_can_h24 at h
  refine Ev.seg D_139 [(.iload_n 2, 1), (.aload_n 0, 1)] (by decide +kernel) (j := 0) (pc' := 26) (lv' := [(0, .ref 0), (1, .int q.1), (2, .int q.2)]) (st' := [.ref 0, .int q.2]) rfl ?_
  refine Ev.getR D_139 (by decide +kernel) F_9_28 T_9_2 (x := 16) (S_oR k_0 (by decide +kernel)) ?_
  refine Ev.getI D_139 (by decide +kernel) F_9_190 (Or.inl T_2_5) (S_oI k_16) ?_
  refine Ev.icmp D_139 (c := .ge) (off := 27) (by decide +kernel) (t := 59) rfl (fun c3 => ?_) (fun c3 => ?_)
  · have c3 : (s.1 16 5) ≤ q.2 := of_decide_eq_true c3
    rw [if_pos c3] at h
    cases h
    exact Ev.sub (lv' := [(1, .int q.1)]) (subL_cons rfl subL_nil) ho
  · have c3 : ¬ (s.1 16 5) ≤ q.2 := of_decide_eq_false c3
    rw [if_neg c3] at h
    refine Ev.seg D_139 [(.aload_n 0, 1)] (by decide +kernel) (j := 0) (pc' := 36) (lv' := [(0, .ref 0), (1, .int q.1), (2, .int q.2)]) (st' := [.ref 0]) rfl ?_
    refine Ev.getR D_139 (by decide +kernel) F_9_49 T_9_7 (x := 214) (S_oR k_0 (by decide +kernel)) ?_
    refine Ev.getR D_139 (by decide +kernel) F_9_255 T_7_3 (x := 215) (S_oR k_214 (by decide +kernel)) ?_
    refine Ev.seg D_139 [(.iload_n 2, 1)] (by decide +kernel) (j := 0) (pc' := 43) (lv' := [(0, .ref 0), (1, .int q.1), (2, .int q.2)]) (st' := [.int q.2, .ref 215]) rfl ?_
    obtain ⟨x6, e6, h⟩ := bd h
    refine Ev.iald D_139 (by decide +kernel) (S_aI k_215 e6) ?_
    obtain ⟨x7, g7, h⟩ := bd h
    have j7 : Ev (d + 1) 139 53 [(0, .ref 0), (1, .int x7), (2, .int q.2)] [] (uS L s) o := by
      clear g7
      refine Ev.seg D_139 [(.iinc 2 1, 3), (.goto (-32), 3)] (by decide +kernel) (j := 0) (pc' := 24) (lv' := [(2, .int (q.2 + (1 : Int32))), (0, .ref 0), (1, .int x7)]) (st' := []) rfl ?_
      cases h
      exact Ev.sub (lv' := [(0, .ref 0), (1, .int (x7)), (2, .int (q.2 + (1 : Int32)))]) (subL_cons rfl (subL_cons rfl (subL_cons rfl subL_nil))) ho
    clear h
    refine Ev.if_ D_139 (c := .le) (off := 9) (by decide +kernel) (t := 53) rfl (fun c7 => ?_) (fun c7 => ?_)
    · have c7 : x6 ≤ 0 := of_decide_eq_true c7
      rw [if_pos c7] at g7
      cases g7
      exact Ev.sub2 j7 (subL_cons rfl (subL_cons rfl (subL_cons rfl subL_nil)))
    · have c7 : ¬ x6 ≤ 0 := of_decide_eq_false c7
      rw [if_neg c7] at g7
      refine Ev.seg D_139 [(.iload_n 1, 1), (.iconst 1, 1), (.iload_n 2, 1), (.ishl, 1), (.ior, 1), (.istore_n 1, 1)] (by decide +kernel) (j := 0) (pc' := 53) (lv' := [(1, .int (q.1 ||| ((1 : Int32) <<< (q.2 &&& 31)))), (0, .ref 0), (2, .int q.2)]) (st' := []) rfl ?_
      cases g7
      exact Ev.sub2 j7 (subL_cons rfl (subL_cons rfl (subL_cons rfl subL_nil)))
theorem gL_can_h24_w {L d : Nat} (hd : 7 ≤ d + 1) {s : mT} : ∀ (n : Nat) (q : Int32 × Int32) (r : Int32), wh n (gL_can_h24 s) q = some r → ∀ o, (fun r => Ev (d + 1) 139 59 [(1, .int r)] [] (uS L s) o) r → Ev (d + 1) 139 24 [(0, .ref 0), (1, .int q.1), (2, .int q.2)] [] (uS L s) o :=
  fun n q r h o hc => wh_ev (E := fun (q : Int32 × Int32) o => Ev (d + 1) 139 24 [(0, .ref 0), (1, .int q.1), (2, .int q.2)] [] (uS L s) o) (C := fun (r : Int32) o => (fun r => Ev (d + 1) 139 59 [(1, .int r)] [] (uS L s) o) r) (gL_can_h24_ok hd  ) n q r h o hc
def gL_can (s : mT) : Option (Int32 × mT) :=
  (gR_exists 16 s).bind fun p2 =>
  if p2 = 0 then
    some (((-2 : Int32), s))
  else
    (gV_makeIfStale s).bind fun p5 =>
    (wh FU (gL_can_h24 p5) ((0 : Int32), (0 : Int32))).bind fun x8 =>
    some ((x8, p5))
set_option maxRecDepth 8000 in
theorem gL_can_ok {L d : Nat} (hd : 7 ≤ d) {s : mT} {p : Int32 × mT} (h : gL_can s = some p) : Ev d 139 0 [(0, .ref 0)] [] (uS L s) (some (.int p.1), uS L p.2) := by
  obtain ⟨d, rfl⟩ : ∃ e, d = e + 1 := ⟨d - 1, by omega⟩
  obtain ⟨o, ho⟩ : ∃ o : Option Value × mS, o = (some (.int p.1), uS L p.2) := ⟨_, rfl⟩
  rw [← ho]
  unfold gL_can at h
  refine Ev.seg D_139 [(.aload_n 0, 1)] (by decide +kernel) (j := 0) (pc' := 1) (lv' := [(0, .ref 0)]) (st' := [.ref 0]) rfl ?_
  refine Ev.getR D_139 (by decide +kernel) F_9_28 T_9_2 (x := 16) (S_oR k_0 (by decide +kernel)) ?_
  obtain ⟨p2, e2, h⟩ := bd h
  refine Ev.callv D_139 E_43 (by decide +kernel) C_9_196 16 [] (r := []) rfl (gd_o k_16 (by decide)) rfl (Nat.le_of_ble_eq_true rfl) (Nat.le_of_ble_eq_true rfl) (gR_exists_ok (by omega) (by decide) e2) ?_
  refine Ev.if_ D_139 (c := .ne) (off := 6) (by decide +kernel) (t := 13) rfl (fun c3 => ?_) (fun c3 => ?_)
  · have c3 : ¬ p2 = 0 := of_decide_eq_true c3
    rw [if_neg c3] at h
    refine Ev.seg D_139 [(.aload_n 0, 1)] (by decide +kernel) (j := 0) (pc' := 14) (lv' := [(0, .ref 0)]) (st' := [.ref 0]) rfl ?_
    refine Ev.getR D_139 (by decide +kernel) F_9_49 T_9_7 (x := 214) (S_oR k_0 (by decide +kernel)) ?_
    obtain ⟨p5, e5, h⟩ := bd h
    refine Ev.callv D_139 E_83 (by decide +kernel) C_9_252 214 [] (r := []) rfl (gd_o k_214 (by decide)) rfl (Nat.le_of_ble_eq_true rfl) (Nat.le_of_ble_eq_true rfl) (gV_makeIfStale_ok (by omega)  e5) ?_
    refine Ev.seg D_139 [(.iconst 0, 1), (.istore_n 1, 1), (.iconst 0, 1), (.istore_n 2, 1)] (by decide +kernel) (j := 0) (pc' := 24) (lv' := [(2, .int (0 : Int32)), (1, .int (0 : Int32)), (0, .ref 0)]) (st' := []) rfl ?_
    obtain ⟨x8, w8, h⟩ := bd h
    have j8 : Ev (d + 1) 139 59 [(1, .int x8)] [] (uS L p5) o := by
      clear w8
      refine Ev.seg D_139 [(.iload_n 1, 1)] (by decide +kernel) (j := 0) (pc' := 60) (lv' := [(1, .int x8)]) (st' := [.int x8]) rfl ?_
      cases h
      obtain rfl : o = _ := ho
      exact Ev.iret D_139 (by decide +kernel)
    exact Ev.sub (lv' := [(0, .ref 0), (1, .int (0 : Int32)), (2, .int (0 : Int32))]) (subL_cons rfl (subL_cons rfl (subL_cons rfl subL_nil))) (gL_can_h24_w hd   _ _ _ w8 _ j8)
  · have c3 : p2 = 0 := Decidable.of_not_not (of_decide_eq_false c3)
    rw [if_pos c3] at h
    refine Ev.seg D_139 [(.bipush (-2), 2)] (by decide +kernel) (j := 0) (pc' := 12) (lv' := [(0, .ref 0)]) (st' := [.int (-2 : Int32)]) rfl ?_
    cases h
    obtain rfl : o = _ := ho
    exact Ev.iret D_139 (by decide +kernel)
/- PennantLawn winnerWithShow: 141 -/
def gL_winnerWithShow (v1 : Int32) (v2 : Int32) (s : mT) : Option (Int32 × mT) :=
  (gC_prepare 121 s).bind fun p2 =>
  (gC_draw 121 v1 v2 p2).bind fun p4 =>
  (gC_sailToWinner 121 p4).bind fun p6 =>
  some ((p6.1, p6.2))
set_option maxRecDepth 8000 in
theorem gL_winnerWithShow_ok {L d : Nat} (hd : 6 ≤ d) {v1 : Int32} {v2 : Int32} {s : mT} {p : Int32 × mT} (h : gL_winnerWithShow v1 v2 s = some p) : Ev d 141 0 [(0, .ref 0), (1, .int v1), (2, .int v2)] [] (uS L s) (some (.int p.1), uS L p.2) := by
  obtain ⟨d, rfl⟩ : ∃ e, d = e + 1 := ⟨d - 1, by omega⟩
  obtain ⟨o, ho⟩ : ∃ o : Option Value × mS, o = (some (.int p.1), uS L p.2) := ⟨_, rfl⟩
  rw [← ho]
  unfold gL_winnerWithShow at h
  refine Ev.seg D_141 [(.aload_n 0, 1)] (by decide +kernel) (j := 0) (pc' := 1) (lv' := [(0, .ref 0), (1, .int v1), (2, .int v2)]) (st' := [.ref 0]) rfl ?_
  refine Ev.getR D_141 (by decide +kernel) F_9_41 T_9_6 (x := 121) (S_oR k_0 (by decide +kernel)) ?_
  obtain ⟨p2, e2, h⟩ := bd h
  refine Ev.callv D_141 E_1 (by decide +kernel) C_9_241 121 [] (r := []) rfl (gd_o k_121 (by decide)) rfl (Nat.le_of_ble_eq_true rfl) (Nat.le_of_ble_eq_true rfl) (gC_prepare_ok (by omega) (by decide) e2) ?_
  refine Ev.seg D_141 [(.aload_n 0, 1)] (by decide +kernel) (j := 0) (pc' := 8) (lv' := [(0, .ref 0), (1, .int v1), (2, .int v2)]) (st' := [.ref 0]) rfl ?_
  refine Ev.getR D_141 (by decide +kernel) F_9_41 T_9_6 (x := 121) (S_oR k_0 (by decide +kernel)) ?_
  refine Ev.seg D_141 [(.iload_n 1, 1), (.iload_n 2, 1)] (by decide +kernel) (j := 0) (pc' := 13) (lv' := [(0, .ref 0), (1, .int v1), (2, .int v2)]) (st' := [.int v2, .int v1, .ref 121]) rfl ?_
  obtain ⟨p4, e4, h⟩ := bd h
  refine Ev.callv D_141 E_3 (by decide +kernel) C_9_273 121 [.int v1, .int v2] (r := []) rfl (gd_o k_121 (by decide)) rfl (Nat.le_of_ble_eq_true rfl) (Nat.le_of_ble_eq_true rfl) (gC_draw_ok (by omega) (by decide) e4) ?_
  refine Ev.seg D_141 [(.aload_n 0, 1)] (by decide +kernel) (j := 0) (pc' := 17) (lv' := [(0, .ref 0), (1, .int v1), (2, .int v2)]) (st' := [.ref 0]) rfl ?_
  refine Ev.getR D_141 (by decide +kernel) F_9_41 T_9_6 (x := 121) (S_oR k_0 (by decide +kernel)) ?_
  obtain ⟨p6, e6, h⟩ := bd h
  refine Ev.callv D_141 E_23 (by decide +kernel) C_9_238 121 [] (r := []) rfl (gd_o k_121 (by decide)) rfl (Nat.le_of_ble_eq_true rfl) (Nat.le_of_ble_eq_true rfl) (gC_sailToWinner_ok (by omega) (by decide) e6) ?_
  cases h
  obtain rfl : o = _ := ho
  exact Ev.iret D_141 (by decide +kernel)
