/-! The program's methods as functions of ints and longs, each with its certificate (wip/whole/gen_emit.py writes this) -/
/- PennantLawnModel askOf: 297 -/
def gM_askOf_h44 (v1 : Int32) (v2 : Int32) (v3 : Int32) (v4 : Int32) (s : mT) (q : Int32 × Int32) : Option ((Int32 × Int32) ⊕ (Int32)) :=
  if (s.1 294 34) ≤ q.2 then
    some (.inr q.1)
  else
    (rdI (s.1 310) 15625 (((5 : Int32) * q.2) + v2)).bind fun x4 =>
    (
      if x4 = v4 then
        some ((1 : Int32))
      else
        some ((0 : Int32)) : Option (Int32)).bind fun x5 =>
    some (.inl (q.1 + x5, q.2 + (1 : Int32)))
set_option maxRecDepth 8000 in
theorem gM_askOf_h44_ok {L d : Nat} (hd : 1 ≤ d + 1) {v1 : Int32} {v2 : Int32} {v3 : Int32} {v4 : Int32} {s : mT} : ∀ (q : Int32 × Int32) (x : (Int32 × Int32) ⊕ (Int32)), gM_askOf_h44 v1 v2 v3 v4 s q = some x → ∀ o, sK (fun q => Ev (d + 1) 297 44 [(0, .ref 294), (1, .int v1), (2, .int v2), (3, .int v3), (4, .int v4), (5, .int q.1), (6, .int q.2)] [] (uS L s) o) (fun r => Ev (d + 1) 297 85 [(0, .ref 294), (1, .int v1), (2, .int v2), (3, .int v3), (4, .int v4), (5, .int r)] [] (uS L s) o) x → Ev (d + 1) 297 44 [(0, .ref 294), (1, .int v1), (2, .int v2), (3, .int v3), (4, .int v4), (5, .int q.1), (6, .int q.2)] [] (uS L s) o := by
  intro q x h o ho
  unfold gM_askOf_h44 at h
  refine Ev.seg D_297 [(.iload 6, 2), (.aload_n 0, 1)] (by decide +kernel) (j := 0) (pc' := 47) (lv' := [(0, .ref 294), (1, .int v1), (2, .int v2), (3, .int v3), (4, .int v4), (5, .int q.1), (6, .int q.2)]) (st' := [.ref 294, .int q.2]) rfl ?_
  refine Ev.getI D_297 (by decide +kernel) F_10_375 (Or.inl T_10_34) (S_oI k_294) ?_
  refine Ev.icmp D_297 (c := .ge) (off := 35) (by decide +kernel) (t := 85) rfl (fun c2 => ?_) (fun c2 => ?_)
  · have c2 : (s.1 294 34) ≤ q.2 := of_decide_eq_true c2
    rw [if_pos c2] at h
    cases h
    exact Ev.sub (lv' := [(0, .ref 294), (1, .int v1), (2, .int v2), (3, .int v3), (4, .int v4), (5, .int q.1)]) (subL_cons rfl (subL_cons rfl (subL_cons rfl (subL_cons rfl (subL_cons rfl (subL_cons rfl subL_nil)))))) ho
  · have c2 : ¬ (s.1 294 34) ≤ q.2 := of_decide_eq_false c2
    rw [if_neg c2] at h
    refine Ev.seg D_297 [(.iload 5, 2), (.aload_n 0, 1)] (by decide +kernel) (j := 0) (pc' := 56) (lv' := [(0, .ref 294), (1, .int v1), (2, .int v2), (3, .int v3), (4, .int v4), (5, .int q.1), (6, .int q.2)]) (st' := [.ref 294, .int q.1]) rfl ?_
    refine Ev.getR D_297 (by decide +kernel) F_10_61 T_10_33 (x := 310) (S_oR k_294 (by decide +kernel)) ?_
    refine Ev.seg D_297 [(.iconst 5, 1), (.iload 6, 2), (.imul, 1), (.iload_n 2, 1), (.iadd, 1)] (by decide +kernel) (j := 0) (pc' := 65) (lv' := [(0, .ref 294), (1, .int v1), (2, .int v2), (3, .int v3), (4, .int v4), (5, .int q.1), (6, .int q.2)]) (st' := [.int (((5 : Int32) * q.2) + v2), .ref 310, .int q.1]) rfl ?_
    obtain ⟨x4, e4, h⟩ := bd h
    refine Ev.bald D_297 (by decide +kernel) (S_aI k_310 e4) ?_
    refine Ev.seg D_297 [(.iload 4, 2)] (by decide +kernel) (j := 0) (pc' := 68) (lv' := [(0, .ref 294), (1, .int v1), (2, .int v2), (3, .int v3), (4, .int v4), (5, .int q.1), (6, .int q.2)]) (st' := [.int v4, .int x4, .int q.1]) rfl ?_
    obtain ⟨x5, g5, h⟩ := bd h
    have j5 : Ev (d + 1) 297 76 [(0, .ref 294), (1, .int v1), (2, .int v2), (3, .int v3), (4, .int v4), (6, .int q.2)] [.int x5, .int q.1] (uS L s) o := by
      clear g5
      refine Ev.seg D_297 [(.iadd, 1), (.istore 5, 2), (.iinc 6 1, 3), (.goto (-38), 3)] (by decide +kernel) (j := 0) (pc' := 44) (lv' := [(6, .int (q.2 + (1 : Int32))), (5, .int (q.1 + x5)), (0, .ref 294), (1, .int v1), (2, .int v2), (3, .int v3), (4, .int v4)]) (st' := []) rfl ?_
      cases h
      exact Ev.sub (lv' := [(0, .ref 294), (1, .int v1), (2, .int v2), (3, .int v3), (4, .int v4), (5, .int (q.1 + x5)), (6, .int (q.2 + (1 : Int32)))]) (subL_cons rfl (subL_cons rfl (subL_cons rfl (subL_cons rfl (subL_cons rfl (subL_cons rfl (subL_cons rfl subL_nil))))))) ho
    clear h
    refine Ev.icmp D_297 (c := .ne) (off := 7) (by decide +kernel) (t := 75) rfl (fun c5 => ?_) (fun c5 => ?_)
    · have c5 : ¬ x4 = v4 := of_decide_eq_true c5
      rw [if_neg c5] at g5
      refine Ev.seg D_297 [(.iconst 0, 1)] (by decide +kernel) (j := 0) (pc' := 76) (lv' := [(0, .ref 294), (1, .int v1), (2, .int v2), (3, .int v3), (4, .int v4), (5, .int q.1), (6, .int q.2)]) (st' := [.int (0 : Int32), .int q.1]) rfl ?_
      cases g5
      exact Ev.sub2 j5 (subL_cons rfl (subL_cons rfl (subL_cons rfl (subL_cons rfl (subL_cons rfl (subL_cons rfl subL_nil))))))
    · have c5 : x4 = v4 := Decidable.of_not_not (of_decide_eq_false c5)
      rw [if_pos c5] at g5
      refine Ev.seg D_297 [(.iconst 1, 1), (.goto 4, 3)] (by decide +kernel) (j := 0) (pc' := 76) (lv' := [(0, .ref 294), (1, .int v1), (2, .int v2), (3, .int v3), (4, .int v4), (5, .int q.1), (6, .int q.2)]) (st' := [.int (1 : Int32), .int q.1]) rfl ?_
      cases g5
      exact Ev.sub2 j5 (subL_cons rfl (subL_cons rfl (subL_cons rfl (subL_cons rfl (subL_cons rfl (subL_cons rfl subL_nil))))))
theorem gM_askOf_h44_w {L d : Nat} (hd : 1 ≤ d + 1) {v1 : Int32} {v2 : Int32} {v3 : Int32} {v4 : Int32} {s : mT} : ∀ (n : Nat) (q : Int32 × Int32) (r : Int32), wh n (gM_askOf_h44 v1 v2 v3 v4 s) q = some r → ∀ o, (fun r => Ev (d + 1) 297 85 [(0, .ref 294), (1, .int v1), (2, .int v2), (3, .int v3), (4, .int v4), (5, .int r)] [] (uS L s) o) r → Ev (d + 1) 297 44 [(0, .ref 294), (1, .int v1), (2, .int v2), (3, .int v3), (4, .int v4), (5, .int q.1), (6, .int q.2)] [] (uS L s) o :=
  fun n q r h o hc => wh_ev (E := fun (q : Int32 × Int32) o => Ev (d + 1) 297 44 [(0, .ref 294), (1, .int v1), (2, .int v2), (3, .int v3), (4, .int v4), (5, .int q.1), (6, .int q.2)] [] (uS L s) o) (C := fun (r : Int32) o => (fun r => Ev (d + 1) 297 85 [(0, .ref 294), (1, .int v1), (2, .int v2), (3, .int v3), (4, .int v4), (5, .int r)] [] (uS L s) o) r) (gM_askOf_h44_ok hd  ) n q r h o hc
def gM_askOf_h27 (v1 : Int32) (v2 : Int32) (s : mT) (q : Int32 × Int32) : Option ((Int32 × Int32) ⊕ (Int32)) :=
  (rdI (s.1 295) 79 (4 : Int32)).bind fun x2 =>
  if x2 ≤ q.2 then
    some (.inr q.1)
  else
    (wh FU (gM_askOf_h44 v1 v2 q.1 q.2 s) ((0 : Int32), (0 : Int32))).bind fun x6 =>
    some (.inl (imax q.1 x6, q.2 + (1 : Int32)))
set_option maxRecDepth 8000 in
theorem gM_askOf_h27_ok {L d : Nat} (hd : 1 ≤ d + 1) {v1 : Int32} {v2 : Int32} {s : mT} : ∀ (q : Int32 × Int32) (x : (Int32 × Int32) ⊕ (Int32)), gM_askOf_h27 v1 v2 s q = some x → ∀ o, sK (fun q => Ev (d + 1) 297 27 [(0, .ref 294), (1, .int v1), (2, .int v2), (3, .int q.1), (4, .int q.2)] [] (uS L s) o) (fun r => Ev (d + 1) 297 98 [(0, .ref 294), (1, .int v1), (2, .int v2), (3, .int r)] [] (uS L s) o) x → Ev (d + 1) 297 27 [(0, .ref 294), (1, .int v1), (2, .int v2), (3, .int q.1), (4, .int q.2)] [] (uS L s) o := by
  intro q x h o ho
  unfold gM_askOf_h27 at h
  refine Ev.seg D_297 [(.iload 4, 2), (.aload_n 0, 1)] (by decide +kernel) (j := 0) (pc' := 30) (lv' := [(0, .ref 294), (1, .int v1), (2, .int v2), (3, .int q.1), (4, .int q.2)]) (st' := [.ref 294, .int q.2]) rfl ?_
  refine Ev.getR D_297 (by decide +kernel) F_10_9 T_10_1 (x := 295) (S_oR k_294 (by decide +kernel)) ?_
  refine Ev.seg D_297 [(.iconst 4, 1)] (by decide +kernel) (j := 0) (pc' := 34) (lv' := [(0, .ref 294), (1, .int v1), (2, .int v2), (3, .int q.1), (4, .int q.2)]) (st' := [.int (4 : Int32), .ref 295, .int q.2]) rfl ?_
  obtain ⟨x2, e2, h⟩ := bd h
  refine Ev.iald D_297 (by decide +kernel) (S_aI k_295 e2) ?_
  refine Ev.icmp D_297 (c := .ge) (off := 63) (by decide +kernel) (t := 98) rfl (fun c3 => ?_) (fun c3 => ?_)
  · have c3 : x2 ≤ q.2 := of_decide_eq_true c3
    rw [if_pos c3] at h
    cases h
    exact Ev.sub (lv' := [(0, .ref 294), (1, .int v1), (2, .int v2), (3, .int q.1)]) (subL_cons rfl (subL_cons rfl (subL_cons rfl (subL_cons rfl subL_nil)))) ho
  · have c3 : ¬ x2 ≤ q.2 := of_decide_eq_false c3
    rw [if_neg c3] at h
    refine Ev.seg D_297 [(.iconst 0, 1), (.istore 5, 2), (.iconst 0, 1), (.istore 6, 2)] (by decide +kernel) (j := 0) (pc' := 44) (lv' := [(6, .int (0 : Int32)), (5, .int (0 : Int32)), (0, .ref 294), (1, .int v1), (2, .int v2), (3, .int q.1), (4, .int q.2)]) (st' := []) rfl ?_
    obtain ⟨x6, w6, h⟩ := bd h
    have j6 : Ev (d + 1) 297 85 [(0, .ref 294), (1, .int v1), (2, .int v2), (3, .int q.1), (4, .int q.2), (5, .int x6)] [] (uS L s) o := by
      clear w6
      refine Ev.seg D_297 [(.iload_n 3, 1), (.iload 5, 2)] (by decide +kernel) (j := 0) (pc' := 88) (lv' := [(0, .ref 294), (1, .int v1), (2, .int v2), (3, .int q.1), (4, .int q.2), (5, .int x6)]) (st' := [.int x6, .int q.1]) rfl ?_
      refine Ev.max D_297 (by decide +kernel) (Nat.succ_pos _) C_10_237 (Nat.le_of_ble_eq_true rfl) ?_
      refine Ev.seg D_297 [(.istore_n 3, 1), (.iinc 4 1, 3), (.goto (-68), 3)] (by decide +kernel) (j := 0) (pc' := 27) (lv' := [(4, .int (q.2 + (1 : Int32))), (3, .int (imax q.1 x6)), (0, .ref 294), (1, .int v1), (2, .int v2), (5, .int x6)]) (st' := []) rfl ?_
      cases h
      exact Ev.sub (lv' := [(0, .ref 294), (1, .int v1), (2, .int v2), (3, .int (imax q.1 x6)), (4, .int (q.2 + (1 : Int32)))]) (subL_cons rfl (subL_cons rfl (subL_cons rfl (subL_cons rfl (subL_cons rfl subL_nil))))) ho
    exact Ev.sub (lv' := [(0, .ref 294), (1, .int v1), (2, .int v2), (3, .int q.1), (4, .int q.2), (5, .int (0 : Int32)), (6, .int (0 : Int32))]) (subL_cons rfl (subL_cons rfl (subL_cons rfl (subL_cons rfl (subL_cons rfl (subL_cons rfl (subL_cons rfl subL_nil))))))) (gM_askOf_h44_w hd   _ _ _ w6 _ j6)
theorem gM_askOf_h27_w {L d : Nat} (hd : 1 ≤ d + 1) {v1 : Int32} {v2 : Int32} {s : mT} : ∀ (n : Nat) (q : Int32 × Int32) (r : Int32), wh n (gM_askOf_h27 v1 v2 s) q = some r → ∀ o, (fun r => Ev (d + 1) 297 98 [(0, .ref 294), (1, .int v1), (2, .int v2), (3, .int r)] [] (uS L s) o) r → Ev (d + 1) 297 27 [(0, .ref 294), (1, .int v1), (2, .int v2), (3, .int q.1), (4, .int q.2)] [] (uS L s) o :=
  fun n q r h o hc => wh_ev (E := fun (q : Int32 × Int32) o => Ev (d + 1) 297 27 [(0, .ref 294), (1, .int v1), (2, .int v2), (3, .int q.1), (4, .int q.2)] [] (uS L s) o) (C := fun (r : Int32) o => (fun r => Ev (d + 1) 297 98 [(0, .ref 294), (1, .int v1), (2, .int v2), (3, .int r)] [] (uS L s) o) r) (gM_askOf_h27_ok hd  ) n q r h o hc
def gM_askOf_h12  (q : Int32 × Int32 × mT) : Option ((Int32 × Int32 × mT) ⊕ (Int32 × mT)) :=
  (rdI (q.2.2.1 295) 79 (5 : Int32)).bind fun x2 =>
  if x2 ≤ q.2.1 then
    some (.inr (q.1, q.2.2))
  else
    (wh FU (gM_askOf_h27 q.1 q.2.1 q.2.2) ((0 : Int32), (0 : Int32))).bind fun x8 =>
    (
      if x8 < (q.2.2.1 294 35) then
        some ((q.2.1, (stI q.2.2 294 35 x8)))
      else
        some ((q.1, q.2.2)) : Option (Int32 × mT)).bind fun x10 =>
    some (.inl (x10.1, q.2.1 + (1 : Int32), x10.2))
set_option maxRecDepth 8000 in
theorem gM_askOf_h12_ok {L d : Nat} (hd : 1 ≤ d + 1)  : ∀ (q : Int32 × Int32 × mT) (x : (Int32 × Int32 × mT) ⊕ (Int32 × mT)), gM_askOf_h12 q = some x → ∀ o, sK (fun q => Ev (d + 1) 297 12 [(0, .ref 294), (1, .int q.1), (2, .int q.2.1)] [] (uS L q.2.2) o) (fun r => Ev (d + 1) 297 122 [(1, .int r.1)] [] (uS L r.2) o) x → Ev (d + 1) 297 12 [(0, .ref 294), (1, .int q.1), (2, .int q.2.1)] [] (uS L q.2.2) o := by
  intro q x h o ho
  unfold gM_askOf_h12 at h
  refine Ev.seg D_297 [(.iload_n 2, 1), (.aload_n 0, 1)] (by decide +kernel) (j := 0) (pc' := 14) (lv' := [(0, .ref 294), (1, .int q.1), (2, .int q.2.1)]) (st' := [.ref 294, .int q.2.1]) rfl ?_
  refine Ev.getR D_297 (by decide +kernel) F_10_9 T_10_1 (x := 295) (S_oR k_294 (by decide +kernel)) ?_
  refine Ev.seg D_297 [(.iconst 5, 1)] (by decide +kernel) (j := 0) (pc' := 18) (lv' := [(0, .ref 294), (1, .int q.1), (2, .int q.2.1)]) (st' := [.int (5 : Int32), .ref 295, .int q.2.1]) rfl ?_
  obtain ⟨x2, e2, h⟩ := bd h
  refine Ev.iald D_297 (by decide +kernel) (S_aI k_295 e2) ?_
  refine Ev.icmp D_297 (c := .ge) (off := 103) (by decide +kernel) (t := 122) rfl (fun c3 => ?_) (fun c3 => ?_)
  · have c3 : x2 ≤ q.2.1 := of_decide_eq_true c3
    rw [if_pos c3] at h
    cases h
    exact Ev.sub (lv' := [(1, .int q.1)]) (subL_cons rfl subL_nil) ho
  · have c3 : ¬ x2 ≤ q.2.1 := of_decide_eq_false c3
    rw [if_neg c3] at h
    refine Ev.seg D_297 [(.iconst 0, 1), (.istore_n 3, 1), (.iconst 0, 1), (.istore 4, 2)] (by decide +kernel) (j := 0) (pc' := 27) (lv' := [(4, .int (0 : Int32)), (3, .int (0 : Int32)), (0, .ref 294), (1, .int q.1), (2, .int q.2.1)]) (st' := []) rfl ?_
    obtain ⟨x8, w8, h⟩ := bd h
    have j8 : Ev (d + 1) 297 98 [(0, .ref 294), (1, .int q.1), (2, .int q.2.1), (3, .int x8)] [] (uS L q.2.2) o := by
      clear w8
      refine Ev.seg D_297 [(.iload_n 3, 1), (.aload_n 0, 1)] (by decide +kernel) (j := 0) (pc' := 100) (lv' := [(0, .ref 294), (1, .int q.1), (2, .int q.2.1), (3, .int x8)]) (st' := [.ref 294, .int x8]) rfl ?_
      refine Ev.getI D_297 (by decide +kernel) F_10_384 (Or.inl T_10_35) (S_oI k_294) ?_
      obtain ⟨x10, g10, h⟩ := bd h
      have j10 : Ev (d + 1) 297 116 [(0, .ref 294), (1, .int x10.1), (2, .int q.2.1)] [] (uS L x10.2) o := by
        clear g10
        refine Ev.seg D_297 [(.iinc 2 1, 3), (.goto (-107), 3)] (by decide +kernel) (j := 0) (pc' := 12) (lv' := [(2, .int (q.2.1 + (1 : Int32))), (0, .ref 294), (1, .int x10.1)]) (st' := []) rfl ?_
        cases h
        exact Ev.sub (lv' := [(0, .ref 294), (1, .int (x10.1)), (2, .int (q.2.1 + (1 : Int32)))]) (subL_cons rfl (subL_cons rfl (subL_cons rfl subL_nil))) ho
      clear h
      refine Ev.icmp D_297 (c := .lt) (off := 6) (by decide +kernel) (t := 109) rfl (fun c10 => ?_) (fun c10 => ?_)
      · have c10 : x8 < (q.2.2.1 294 35) := of_decide_eq_true c10
        rw [if_pos c10] at g10
        refine Ev.seg D_297 [(.aload_n 0, 1), (.iload_n 3, 1)] (by decide +kernel) (j := 0) (pc' := 111) (lv' := [(0, .ref 294), (1, .int q.1), (2, .int q.2.1), (3, .int x8)]) (st' := [.int x8, .ref 294]) rfl ?_
        refine Ev.putI D_297 (by decide +kernel) F_10_384 N_10_35 T_10_35 (S_pI k_294) ?_
        refine Ev.seg D_297 [(.iload_n 2, 1), (.istore_n 1, 1)] (by decide +kernel) (j := 0) (pc' := 116) (lv' := [(1, .int q.2.1), (0, .ref 294), (2, .int q.2.1), (3, .int x8)]) (st' := []) rfl ?_
        cases g10
        exact Ev.sub2 j10 (subL_cons rfl (subL_cons rfl (subL_cons rfl subL_nil)))
      · have c10 : ¬ x8 < (q.2.2.1 294 35) := of_decide_eq_false c10
        rw [if_neg c10] at g10
        refine Ev.seg D_297 [(.goto 10, 3)] (by decide +kernel) (j := 0) (pc' := 116) (lv' := [(0, .ref 294), (1, .int q.1), (2, .int q.2.1), (3, .int x8)]) (st' := []) rfl ?_
        cases g10
        exact Ev.sub2 j10 (subL_cons rfl (subL_cons rfl (subL_cons rfl subL_nil)))
    exact Ev.sub (lv' := [(0, .ref 294), (1, .int q.1), (2, .int q.2.1), (3, .int (0 : Int32)), (4, .int (0 : Int32))]) (subL_cons rfl (subL_cons rfl (subL_cons rfl (subL_cons rfl (subL_cons rfl subL_nil))))) (gM_askOf_h27_w hd   _ _ _ w8 _ j8)
theorem gM_askOf_h12_w {L d : Nat} (hd : 1 ≤ d + 1)  : ∀ (n : Nat) (q : Int32 × Int32 × mT) (r : Int32 × mT), wh n (gM_askOf_h12) q = some r → ∀ o, (fun r => Ev (d + 1) 297 122 [(1, .int r.1)] [] (uS L r.2) o) r → Ev (d + 1) 297 12 [(0, .ref 294), (1, .int q.1), (2, .int q.2.1)] [] (uS L q.2.2) o :=
  fun n q r h o hc => wh_ev (E := fun (q : Int32 × Int32 × mT) o => Ev (d + 1) 297 12 [(0, .ref 294), (1, .int q.1), (2, .int q.2.1)] [] (uS L q.2.2) o) (C := fun (r : Int32 × mT) o => (fun r => Ev (d + 1) 297 122 [(1, .int r.1)] [] (uS L r.2) o) r) (gM_askOf_h12_ok hd  ) n q r h o hc
def gM_askOf (s : mT) : Option (Int32 × mT) :=
  (wh FU (gM_askOf_h12) ((-1 : Int32), (0 : Int32), (stI s 294 35 (s.1 294 34)))).bind fun x12 =>
  some ((x12.1, x12.2))
set_option maxRecDepth 8000 in
theorem gM_askOf_ok {L d : Nat} (hd : 1 ≤ d) {s : mT} {p : Int32 × mT} (h : gM_askOf s = some p) : Ev d 297 0 [(0, .ref 294)] [] (uS L s) (some (.int p.1), uS L p.2) := by
  obtain ⟨d, rfl⟩ : ∃ e, d = e + 1 := ⟨d - 1, by omega⟩
  obtain ⟨o, ho⟩ : ∃ o : Option Value × mS, o = (some (.int p.1), uS L p.2) := ⟨_, rfl⟩
  rw [← ho]
  unfold gM_askOf at h
  refine Ev.seg D_297 [(.aload_n 0, 1), (.aload_n 0, 1)] (by decide +kernel) (j := 0) (pc' := 2) (lv' := [(0, .ref 294)]) (st' := [.ref 294, .ref 294]) rfl ?_
  refine Ev.getI D_297 (by decide +kernel) F_10_375 (Or.inl T_10_34) (S_oI k_294) ?_
  refine Ev.putI D_297 (by decide +kernel) F_10_384 N_10_35 T_10_35 (S_pI k_294) ?_
  refine Ev.seg D_297 [(.iconst (-1), 1), (.istore_n 1, 1), (.iconst 0, 1), (.istore_n 2, 1)] (by decide +kernel) (j := 0) (pc' := 12) (lv' := [(2, .int (0 : Int32)), (1, .int (-1 : Int32)), (0, .ref 294)]) (st' := []) rfl ?_
  obtain ⟨x12, w12, h⟩ := bd h
  have j12 : Ev (d + 1) 297 122 [(1, .int x12.1)] [] (uS L x12.2) o := by
    clear w12
    refine Ev.seg D_297 [(.iload_n 1, 1)] (by decide +kernel) (j := 0) (pc' := 123) (lv' := [(1, .int x12.1)]) (st' := [.int x12.1]) rfl ?_
    cases h
    obtain rfl : o = _ := ho
    exact Ev.iret D_297 (by decide +kernel)
  exact Ev.sub (lv' := [(0, .ref 294), (1, .int (-1 : Int32)), (2, .int (0 : Int32))]) (subL_cons rfl (subL_cons rfl (subL_cons rfl subL_nil))) (gM_askOf_h12_w hd   _ _ _ w12 _ j12)
/- PennantLawnModel ask: 296 -/
def gM_ask (v1 : Int32) (s : mT) : Option (Int32 × mT) :=
  (gM_layFits v1 s).bind fun p1 =>
  (
    if 0 ≤ p1.1 then
      (gM_askOf p1.2).bind fun p3 =>
      some ((p3.1, p3.2))
    else
      some ((p1.1, p1.2)) : Option (Int32 × mT)).bind fun x2 =>
  some ((x2.1, x2.2))
set_option maxRecDepth 8000 in
theorem gM_ask_ok {L d : Nat} (hd : 7 ≤ d) {v1 : Int32} {s : mT} {p : Int32 × mT} (h : gM_ask v1 s = some p) : Ev d 296 0 [(0, .ref 294), (1, .int v1)] [] (uS L s) (some (.int p.1), uS L p.2) := by
  obtain ⟨d, rfl⟩ : ∃ e, d = e + 1 := ⟨d - 1, by omega⟩
  obtain ⟨o, ho⟩ : ∃ o : Option Value × mS, o = (some (.int p.1), uS L p.2) := ⟨_, rfl⟩
  rw [← ho]
  unfold gM_ask at h
  refine Ev.seg D_296 [(.aload_n 0, 1), (.iload_n 1, 1)] (by decide +kernel) (j := 0) (pc' := 2) (lv' := [(0, .ref 294), (1, .int v1)]) (st' := [.int v1, .ref 294]) rfl ?_
  obtain ⟨p1, e1, h⟩ := bd h
  refine Ev.callv D_296 E_290 (by decide +kernel) C_10_381 294 [.int v1] (r := []) rfl (gd_o k_294 (by decide)) rfl (Nat.le_of_ble_eq_true rfl) (Nat.le_of_ble_eq_true rfl) (gM_layFits_ok (by omega)  e1) ?_
  refine Ev.seg D_296 [(.istore_n 2, 1), (.iload_n 2, 1)] (by decide +kernel) (j := 0) (pc' := 7) (lv' := [(2, .int p1.1), (0, .ref 294), (1, .int v1)]) (st' := [.int p1.1]) rfl ?_
  obtain ⟨x2, g2, h⟩ := bd h
  have j2 : Ev (d + 1) 296 18 [] [.int x2.1] (uS L x2.2) o := by
    clear g2
    cases h
    obtain rfl : o = _ := ho
    exact Ev.iret D_296 (by decide +kernel)
  clear h
  refine Ev.if_ D_296 (c := .ge) (off := 7) (by decide +kernel) (t := 14) rfl (fun c2 => ?_) (fun c2 => ?_)
  · have c2 : 0 ≤ p1.1 := of_decide_eq_true c2
    rw [if_pos c2] at g2
    refine Ev.seg D_296 [(.aload_n 0, 1)] (by decide +kernel) (j := 0) (pc' := 15) (lv' := [(2, .int p1.1), (0, .ref 294), (1, .int v1)]) (st' := [.ref 294]) rfl ?_
    obtain ⟨p3, e3, g2⟩ := bd g2
    refine Ev.callv D_296 E_297 (by decide +kernel) C_10_387 294 [] (r := []) rfl (gd_o k_294 (by decide)) rfl (Nat.le_of_ble_eq_true rfl) (Nat.le_of_ble_eq_true rfl) (gM_askOf_ok (by omega)  e3) ?_
    cases g2
    exact Ev.sub2 j2 subL_nil
  · have c2 : ¬ 0 ≤ p1.1 := of_decide_eq_false c2
    rw [if_neg c2] at g2
    refine Ev.seg D_296 [(.iload_n 2, 1), (.goto 7, 3)] (by decide +kernel) (j := 0) (pc' := 18) (lv' := [(2, .int p1.1), (0, .ref 294), (1, .int v1)]) (st' := [.int p1.1]) rfl ?_
    cases g2
    exact Ev.sub2 j2 subL_nil
/- PennantLawnModel leaves: 298 -/
def gM_leaves (v1 : Int32) (s : mT) : Option (Int32 × mT) :=
  (gM_layFits v1 s).bind fun p1 =>
  if 0 ≤ p1.1 then
    (gM_askOf p1.2).bind fun p3 =>
    some ((p3.2.1 294 35, p3.2))
  else
    some ((p1.1, p1.2))
set_option maxRecDepth 8000 in
theorem gM_leaves_ok {L d : Nat} (hd : 7 ≤ d) {v1 : Int32} {s : mT} {p : Int32 × mT} (h : gM_leaves v1 s = some p) : Ev d 298 0 [(0, .ref 294), (1, .int v1)] [] (uS L s) (some (.int p.1), uS L p.2) := by
  obtain ⟨d, rfl⟩ : ∃ e, d = e + 1 := ⟨d - 1, by omega⟩
  obtain ⟨o, ho⟩ : ∃ o : Option Value × mS, o = (some (.int p.1), uS L p.2) := ⟨_, rfl⟩
  rw [← ho]
  unfold gM_leaves at h
  refine Ev.seg D_298 [(.aload_n 0, 1), (.iload_n 1, 1)] (by decide +kernel) (j := 0) (pc' := 2) (lv' := [(0, .ref 294), (1, .int v1)]) (st' := [.int v1, .ref 294]) rfl ?_
  obtain ⟨p1, e1, h⟩ := bd h
  refine Ev.callv D_298 E_290 (by decide +kernel) C_10_381 294 [.int v1] (r := []) rfl (gd_o k_294 (by decide)) rfl (Nat.le_of_ble_eq_true rfl) (Nat.le_of_ble_eq_true rfl) (gM_layFits_ok (by omega)  e1) ?_
  refine Ev.seg D_298 [(.istore_n 2, 1), (.iload_n 2, 1)] (by decide +kernel) (j := 0) (pc' := 7) (lv' := [(2, .int p1.1), (0, .ref 294), (1, .int v1)]) (st' := [.int p1.1]) rfl ?_
  refine Ev.if_ D_298 (c := .ge) (off := 5) (by decide +kernel) (t := 12) rfl (fun c2 => ?_) (fun c2 => ?_)
  · have c2 : 0 ≤ p1.1 := of_decide_eq_true c2
    rw [if_pos c2] at h
    refine Ev.seg D_298 [(.aload_n 0, 1)] (by decide +kernel) (j := 0) (pc' := 13) (lv' := [(2, .int p1.1), (0, .ref 294), (1, .int v1)]) (st' := [.ref 294]) rfl ?_
    obtain ⟨p3, e3, h⟩ := bd h
    refine Ev.callv D_298 E_297 (by decide +kernel) C_10_387 294 [] (r := []) rfl (gd_o k_294 (by decide)) rfl (Nat.le_of_ble_eq_true rfl) (Nat.le_of_ble_eq_true rfl) (gM_askOf_ok (by omega)  e3) ?_
    refine Ev.seg D_298 [(.pop, 1), (.aload_n 0, 1)] (by decide +kernel) (j := 0) (pc' := 18) (lv' := [(2, .int p1.1), (0, .ref 294), (1, .int v1)]) (st' := [.ref 294]) rfl ?_
    refine Ev.getI D_298 (by decide +kernel) F_10_384 (Or.inl T_10_35) (S_oI k_294) ?_
    cases h
    obtain rfl : o = _ := ho
    exact Ev.iret D_298 (by decide +kernel)
  · have c2 : ¬ 0 ≤ p1.1 := of_decide_eq_false c2
    rw [if_neg c2] at h
    refine Ev.seg D_298 [(.iload_n 2, 1)] (by decide +kernel) (j := 0) (pc' := 11) (lv' := [(2, .int p1.1), (0, .ref 294), (1, .int v1)]) (st' := [.int p1.1]) rfl ?_
    cases h
    obtain rfl : o = _ := ho
    exact Ev.iret D_298 (by decide +kernel)
/- PennantLawnModel laws: 299 -/
def gM_laws_h19 (v1 : Int32) (q : Int32 × mT) : Option ((Int32 × mT) ⊕ (Int32 × mT)) :=
  if (4 : Int32) ≤ (q.2.1 294 19) then
    some (.inr (q.1, q.2))
  else
    (gM_isSeen v1 q.2).bind fun p3 =>
    (
      if p3.1 = 0 then
        some ((0 : Int32))
      else
        some ((1 : Int32) <<< ((p3.2.1 294 19) &&& 31)) : Option (Int32)).bind fun x4 =>
    some (.inl (q.1 ||| x4, (stI p3.2 294 19 ((p3.2.1 294 19) + (1 : Int32)))))
set_option maxRecDepth 8000 in
theorem gM_laws_h19_ok {L d : Nat} (hd : 6 ≤ d + 1) {v1 : Int32} : ∀ (q : Int32 × mT) (x : (Int32 × mT) ⊕ (Int32 × mT)), gM_laws_h19 v1 q = some x → ∀ o, sK (fun q => Ev (d + 1) 299 19 [(0, .ref 294), (1, .int v1), (3, .int q.1)] [] (uS L q.2) o) (fun r => Ev (d + 1) 299 61 [(3, .int r.1)] [] (uS L r.2) o) x → Ev (d + 1) 299 19 [(0, .ref 294), (1, .int v1), (3, .int q.1)] [] (uS L q.2) o := by
  intro q x h o ho
  unfold gM_laws_h19 at h
  refine Ev.seg D_299 [(.aload_n 0, 1)] (by decide +kernel) (j := 0) (pc' := 20) (lv' := [(0, .ref 294), (1, .int v1), (3, .int q.1)]) (st' := [.ref 294]) rfl ?_
  refine Ev.getI D_299 (by decide +kernel) F_10_228 (Or.inl T_10_19) (S_oI k_294) ?_
  refine Ev.seg D_299 [(.iconst 4, 1)] (by decide +kernel) (j := 0) (pc' := 24) (lv' := [(0, .ref 294), (1, .int v1), (3, .int q.1)]) (st' := [.int (4 : Int32), .int (q.2.1 294 19)]) rfl ?_
  refine Ev.icmp D_299 (c := .ge) (off := 37) (by decide +kernel) (t := 61) rfl (fun c2 => ?_) (fun c2 => ?_)
  · have c2 : (4 : Int32) ≤ (q.2.1 294 19) := of_decide_eq_true c2
    rw [if_pos c2] at h
    cases h
    exact Ev.sub (lv' := [(3, .int q.1)]) (subL_cons rfl subL_nil) ho
  · have c2 : ¬ (4 : Int32) ≤ (q.2.1 294 19) := of_decide_eq_false c2
    rw [if_neg c2] at h
    refine Ev.seg D_299 [(.iload_n 3, 1), (.aload_n 0, 1), (.iload_n 1, 1)] (by decide +kernel) (j := 0) (pc' := 30) (lv' := [(0, .ref 294), (1, .int v1), (3, .int q.1)]) (st' := [.int v1, .ref 294, .int q.1]) rfl ?_
    obtain ⟨p3, e3, h⟩ := bd h
    refine Ev.callv D_299 E_294 (by decide +kernel) C_10_378 294 [.int v1] (r := [.int q.1]) rfl (gd_o k_294 (by decide)) rfl (Nat.le_of_ble_eq_true rfl) (Nat.le_of_ble_eq_true rfl) (gM_isSeen_ok (by omega)  e3) ?_
    obtain ⟨x4, g4, h⟩ := bd h
    have j4 : Ev (d + 1) 299 46 [(0, .ref 294), (1, .int v1)] [.int x4, .int q.1] (uS L p3.2) o := by
      clear g4
      refine Ev.seg D_299 [(.ior, 1), (.istore_n 3, 1), (.aload_n 0, 1), (.dup, 1)] (by decide +kernel) (j := 0) (pc' := 50) (lv' := [(3, .int (q.1 ||| x4)), (0, .ref 294), (1, .int v1)]) (st' := [.ref 294, .ref 294]) rfl ?_
      refine Ev.getI D_299 (by decide +kernel) F_10_228 (Or.inl T_10_19) (S_oI k_294) ?_
      refine Ev.seg D_299 [(.iconst 1, 1), (.iadd, 1)] (by decide +kernel) (j := 0) (pc' := 55) (lv' := [(3, .int (q.1 ||| x4)), (0, .ref 294), (1, .int v1)]) (st' := [.int ((p3.2.1 294 19) + (1 : Int32)), .ref 294]) rfl ?_
      refine Ev.putI D_299 (by decide +kernel) F_10_228 N_10_19 T_10_19 (S_pI k_294) ?_
      refine Ev.seg D_299 [(.goto (-39), 3)] (by decide +kernel) (j := 0) (pc' := 19) (lv' := [(3, .int (q.1 ||| x4)), (0, .ref 294), (1, .int v1)]) (st' := []) rfl ?_
      cases h
      exact Ev.sub (lv' := [(0, .ref 294), (1, .int v1), (3, .int (q.1 ||| x4))]) (subL_cons rfl (subL_cons rfl (subL_cons rfl subL_nil))) ho
    clear h
    refine Ev.if_ D_299 (c := .eq) (off := 12) (by decide +kernel) (t := 45) rfl (fun c4 => ?_) (fun c4 => ?_)
    · have c4 : p3.1 = 0 := of_decide_eq_true c4
      rw [if_pos c4] at g4
      refine Ev.seg D_299 [(.iconst 0, 1)] (by decide +kernel) (j := 0) (pc' := 46) (lv' := [(0, .ref 294), (1, .int v1), (3, .int q.1)]) (st' := [.int (0 : Int32), .int q.1]) rfl ?_
      cases g4
      exact Ev.sub2 j4 (subL_cons rfl (subL_cons rfl subL_nil))
    · have c4 : ¬ p3.1 = 0 := of_decide_eq_false c4
      rw [if_neg c4] at g4
      refine Ev.seg D_299 [(.iconst 1, 1), (.aload_n 0, 1)] (by decide +kernel) (j := 0) (pc' := 38) (lv' := [(0, .ref 294), (1, .int v1), (3, .int q.1)]) (st' := [.ref 294, .int (1 : Int32), .int q.1]) rfl ?_
      refine Ev.getI D_299 (by decide +kernel) F_10_228 (Or.inl T_10_19) (S_oI k_294) ?_
      refine Ev.seg D_299 [(.ishl, 1), (.goto 4, 3)] (by decide +kernel) (j := 0) (pc' := 46) (lv' := [(0, .ref 294), (1, .int v1), (3, .int q.1)]) (st' := [.int ((1 : Int32) <<< ((p3.2.1 294 19) &&& 31)), .int q.1]) rfl ?_
      cases g4
      exact Ev.sub2 j4 (subL_cons rfl (subL_cons rfl subL_nil))
theorem gM_laws_h19_w {L d : Nat} (hd : 6 ≤ d + 1) {v1 : Int32} : ∀ (n : Nat) (q : Int32 × mT) (r : Int32 × mT), wh n (gM_laws_h19 v1) q = some r → ∀ o, (fun r => Ev (d + 1) 299 61 [(3, .int r.1)] [] (uS L r.2) o) r → Ev (d + 1) 299 19 [(0, .ref 294), (1, .int v1), (3, .int q.1)] [] (uS L q.2) o :=
  fun n q r h o hc => wh_ev (E := fun (q : Int32 × mT) o => Ev (d + 1) 299 19 [(0, .ref 294), (1, .int v1), (3, .int q.1)] [] (uS L q.2) o) (C := fun (r : Int32 × mT) o => (fun r => Ev (d + 1) 299 61 [(3, .int r.1)] [] (uS L r.2) o) r) (gM_laws_h19_ok hd  ) n q r h o hc
def gM_laws (v1 : Int32) (s : mT) : Option (Int32 × mT) :=
  (gM_askSeen v1 s).bind fun p1 =>
  if 0 ≤ p1.1 then
    (wh FU (gM_laws_h19 v1) ((0 : Int32), (stI p1.2 294 19 (0 : Int32)))).bind fun x8 =>
    some ((x8.1, x8.2))
  else
    some ((p1.1, p1.2))
set_option maxRecDepth 8000 in
theorem gM_laws_ok {L d : Nat} (hd : 6 ≤ d) {v1 : Int32} {s : mT} {p : Int32 × mT} (h : gM_laws v1 s = some p) : Ev d 299 0 [(0, .ref 294), (1, .int v1)] [] (uS L s) (some (.int p.1), uS L p.2) := by
  obtain ⟨d, rfl⟩ : ∃ e, d = e + 1 := ⟨d - 1, by omega⟩
  obtain ⟨o, ho⟩ : ∃ o : Option Value × mS, o = (some (.int p.1), uS L p.2) := ⟨_, rfl⟩
  rw [← ho]
  unfold gM_laws at h
  refine Ev.seg D_299 [(.aload_n 0, 1), (.iload_n 1, 1)] (by decide +kernel) (j := 0) (pc' := 2) (lv' := [(0, .ref 294), (1, .int v1)]) (st' := [.int v1, .ref 294]) rfl ?_
  obtain ⟨p1, e1, h⟩ := bd h
  refine Ev.callv D_299 E_291 (by decide +kernel) C_10_372 294 [.int v1] (r := []) rfl (gd_o k_294 (by decide)) rfl (Nat.le_of_ble_eq_true rfl) (Nat.le_of_ble_eq_true rfl) (gM_askSeen_ok (by omega)  e1) ?_
  refine Ev.seg D_299 [(.istore_n 2, 1), (.iload_n 2, 1)] (by decide +kernel) (j := 0) (pc' := 7) (lv' := [(2, .int p1.1), (0, .ref 294), (1, .int v1)]) (st' := [.int p1.1]) rfl ?_
  refine Ev.if_ D_299 (c := .ge) (off := 5) (by decide +kernel) (t := 12) rfl (fun c2 => ?_) (fun c2 => ?_)
  · have c2 : 0 ≤ p1.1 := of_decide_eq_true c2
    rw [if_pos c2] at h
    refine Ev.seg D_299 [(.iconst 0, 1), (.istore_n 3, 1), (.aload_n 0, 1), (.iconst 0, 1)] (by decide +kernel) (j := 0) (pc' := 16) (lv' := [(3, .int (0 : Int32)), (2, .int p1.1), (0, .ref 294), (1, .int v1)]) (st' := [.int (0 : Int32), .ref 294]) rfl ?_
    refine Ev.putI D_299 (by decide +kernel) F_10_228 N_10_19 T_10_19 (S_pI k_294) ?_
    obtain ⟨x8, w8, h⟩ := bd h
    have j8 : Ev (d + 1) 299 61 [(3, .int x8.1)] [] (uS L x8.2) o := by
      clear w8
      refine Ev.seg D_299 [(.iload_n 3, 1)] (by decide +kernel) (j := 0) (pc' := 62) (lv' := [(3, .int x8.1)]) (st' := [.int x8.1]) rfl ?_
      cases h
      obtain rfl : o = _ := ho
      exact Ev.iret D_299 (by decide +kernel)
    exact Ev.sub (lv' := [(0, .ref 294), (1, .int v1), (3, .int (0 : Int32))]) (subL_cons rfl (subL_cons rfl (subL_cons rfl subL_nil))) (gM_laws_h19_w hd   _ _ _ w8 _ j8)
  · have c2 : ¬ 0 ≤ p1.1 := of_decide_eq_false c2
    rw [if_neg c2] at h
    refine Ev.seg D_299 [(.iload_n 2, 1)] (by decide +kernel) (j := 0) (pc' := 11) (lv' := [(2, .int p1.1), (0, .ref 294), (1, .int v1)]) (st' := [.int p1.1]) rfl ?_
    cases h
    obtain rfl : o = _ := ho
    exact Ev.iret D_299 (by decide +kernel)
/- PennantLawnModel factorial: 301 -/
def gM_factorial_h4 (v0 : Int32) (s : mT) (q : Int32 × Int32) : Option ((Int32 × Int32) ⊕ (Int32)) :=
  if v0 < q.2 then
    some (.inr q.1)
  else
    some (.inl (q.1 * q.2, q.2 + (1 : Int32)))
set_option maxRecDepth 8000 in
theorem gM_factorial_h4_ok {L d : Nat} (hd : 1 ≤ d + 1) {v0 : Int32} {s : mT} : ∀ (q : Int32 × Int32) (x : (Int32 × Int32) ⊕ (Int32)), gM_factorial_h4 v0 s q = some x → ∀ o, sK (fun q => Ev (d + 1) 301 4 [(0, .int v0), (1, .int q.1), (2, .int q.2)] [] (uS L s) o) (fun r => Ev (d + 1) 301 19 [(1, .int r)] [] (uS L s) o) x → Ev (d + 1) 301 4 [(0, .int v0), (1, .int q.1), (2, .int q.2)] [] (uS L s) o := by
  intro q x h o ho
  unfold gM_factorial_h4 at h
  refine Ev.seg D_301 [(.iload_n 2, 1), (.iload_n 0, 1)] (by decide +kernel) (j := 0) (pc' := 6) (lv' := [(0, .int v0), (1, .int q.1), (2, .int q.2)]) (st' := [.int v0, .int q.2]) rfl ?_
  refine Ev.icmp D_301 (c := .gt) (off := 13) (by decide +kernel) (t := 19) rfl (fun c1 => ?_) (fun c1 => ?_)
  · have c1 : v0 < q.2 := of_decide_eq_true c1
    rw [if_pos c1] at h
    cases h
    exact Ev.sub (lv' := [(1, .int q.1)]) (subL_cons rfl subL_nil) ho
  · have c1 : ¬ v0 < q.2 := of_decide_eq_false c1
    rw [if_neg c1] at h
    refine Ev.seg D_301 [(.iload_n 1, 1), (.iload_n 2, 1), (.imul, 1), (.istore_n 1, 1), (.iinc 2 1, 3), (.goto (-12), 3)] (by decide +kernel) (j := 0) (pc' := 4) (lv' := [(2, .int (q.2 + (1 : Int32))), (1, .int (q.1 * q.2)), (0, .int v0)]) (st' := []) rfl ?_
    cases h
    exact Ev.sub (lv' := [(0, .int v0), (1, .int (q.1 * q.2)), (2, .int (q.2 + (1 : Int32)))]) (subL_cons rfl (subL_cons rfl (subL_cons rfl subL_nil))) ho
theorem gM_factorial_h4_w {L d : Nat} (hd : 1 ≤ d + 1) {v0 : Int32} {s : mT} : ∀ (n : Nat) (q : Int32 × Int32) (r : Int32), wh n (gM_factorial_h4 v0 s) q = some r → ∀ o, (fun r => Ev (d + 1) 301 19 [(1, .int r)] [] (uS L s) o) r → Ev (d + 1) 301 4 [(0, .int v0), (1, .int q.1), (2, .int q.2)] [] (uS L s) o :=
  fun n q r h o hc => wh_ev (E := fun (q : Int32 × Int32) o => Ev (d + 1) 301 4 [(0, .int v0), (1, .int q.1), (2, .int q.2)] [] (uS L s) o) (C := fun (r : Int32) o => (fun r => Ev (d + 1) 301 19 [(1, .int r)] [] (uS L s) o) r) (gM_factorial_h4_ok hd  ) n q r h o hc
def gM_factorial (v0 : Int32) (s : mT) : Option (Int32) :=
  (wh FU (gM_factorial_h4 v0 s) ((1 : Int32), (2 : Int32))).bind fun x2 =>
  some (x2)
set_option maxRecDepth 8000 in
theorem gM_factorial_ok {L d : Nat} (hd : 1 ≤ d) {v0 : Int32} {s : mT} {p : Int32} (h : gM_factorial v0 s = some p) : Ev d 301 0 [(0, .int v0)] [] (uS L s) (some (.int p), uS L s) := by
  obtain ⟨d, rfl⟩ : ∃ e, d = e + 1 := ⟨d - 1, by omega⟩
  obtain ⟨o, ho⟩ : ∃ o : Option Value × mS, o = (some (.int p), uS L s) := ⟨_, rfl⟩
  rw [← ho]
  unfold gM_factorial at h
  refine Ev.seg D_301 [(.iconst 1, 1), (.istore_n 1, 1), (.iconst 2, 1), (.istore_n 2, 1)] (by decide +kernel) (j := 0) (pc' := 4) (lv' := [(2, .int (2 : Int32)), (1, .int (1 : Int32)), (0, .int v0)]) (st' := []) rfl ?_
  obtain ⟨x2, w2, h⟩ := bd h
  have j2 : Ev (d + 1) 301 19 [(1, .int x2)] [] (uS L s) o := by
    clear w2
    refine Ev.seg D_301 [(.iload_n 1, 1)] (by decide +kernel) (j := 0) (pc' := 20) (lv' := [(1, .int x2)]) (st' := [.int x2]) rfl ?_
    cases h
    obtain rfl : o = _ := ho
    exact Ev.iret D_301 (by decide +kernel)
  exact Ev.sub (lv' := [(0, .int v0), (1, .int (1 : Int32)), (2, .int (2 : Int32))]) (subL_cons rfl (subL_cons rfl (subL_cons rfl subL_nil))) (gM_factorial_h4_w hd   _ _ _ w2 _ j2)
/- PennantLawnModel divisor: 303 -/
def gM_divisor_h9 (s : mT) (q : Int64 × Int64) : Option ((Int64 × Int64) ⊕ (Int64)) :=
  if (lg_cmp q.2 (0 : Int64)) = 0 then
    some (.inr q.1)
  else
    if q.2 = 0 then none else
    some (.inl (q.2, q.1 - q.1 / q.2 * q.2))
set_option maxRecDepth 8000 in
theorem gM_divisor_h9_ok {L d : Nat} (hd : 1 ≤ d + 1) {s : mT} : ∀ (q : Int64 × Int64) (x : (Int64 × Int64) ⊕ (Int64)), gM_divisor_h9 s q = some x → ∀ o, sK (fun q => Ev (d + 1) 303 9 [(4, .long q.1), (6, .long q.2)] [] (uS L s) o) (fun r => Ev (d + 1) 303 34 [(4, .long r)] [] (uS L s) o) x → Ev (d + 1) 303 9 [(4, .long q.1), (6, .long q.2)] [] (uS L s) o := by
  intro q x h o ho
  unfold gM_divisor_h9 at h
  refine Ev.seg D_303 [(.lload 6, 2), (.lconst 0, 1), (.lcmp, 1)] (by decide +kernel) (j := 0) (pc' := 13) (lv' := [(4, .long q.1), (6, .long q.2)]) (st' := [.int (lg_cmp q.2 (0 : Int64))]) rfl ?_
  refine Ev.if_ D_303 (c := .eq) (off := 21) (by decide +kernel) (t := 34) rfl (fun c1 => ?_) (fun c1 => ?_)
  · have c1 : (lg_cmp q.2 (0 : Int64)) = 0 := of_decide_eq_true c1
    rw [if_pos c1] at h
    cases h
    exact Ev.sub (lv' := [(4, .long q.1)]) (subL_cons rfl subL_nil) ho
  · have c1 : ¬ (lg_cmp q.2 (0 : Int64)) = 0 := of_decide_eq_false c1
    rw [if_neg c1] at h
    refine Ev.seg D_303 [(.lload 4, 2), (.lload 6, 2)] (by decide +kernel) (j := 0) (pc' := 20) (lv' := [(4, .long q.1), (6, .long q.2)]) (st' := [.long q.2, .long q.1]) rfl ?_
    by_cases c2 : q.2 = 0
    · rw [if_pos c2] at h; cases h
    rw [if_neg c2] at h
    refine Ev.lrem D_303 (by decide +kernel) c2 ?_
    refine Ev.seg D_303 [(.lstore 8, 2), (.lload 6, 2), (.lstore 4, 2), (.lload 8, 2), (.lstore 6, 2), (.goto (-22), 3)] (by decide +kernel) (j := 0) (pc' := 9) (lv' := [(6, .long (q.1 - q.1 / q.2 * q.2)), (4, .long q.2), (8, .long (q.1 - q.1 / q.2 * q.2))]) (st' := []) rfl ?_
    cases h
    exact Ev.sub (lv' := [(4, .long (q.2)), (6, .long (q.1 - q.1 / q.2 * q.2))]) (subL_cons rfl (subL_cons rfl subL_nil)) ho
theorem gM_divisor_h9_w {L d : Nat} (hd : 1 ≤ d + 1) {s : mT} : ∀ (n : Nat) (q : Int64 × Int64) (r : Int64), wh n (gM_divisor_h9 s) q = some r → ∀ o, (fun r => Ev (d + 1) 303 34 [(4, .long r)] [] (uS L s) o) r → Ev (d + 1) 303 9 [(4, .long q.1), (6, .long q.2)] [] (uS L s) o :=
  fun n q r h o hc => wh_ev (E := fun (q : Int64 × Int64) o => Ev (d + 1) 303 9 [(4, .long q.1), (6, .long q.2)] [] (uS L s) o) (C := fun (r : Int64) o => (fun r => Ev (d + 1) 303 34 [(4, .long r)] [] (uS L s) o) r) (gM_divisor_h9_ok hd  ) n q r h o hc
def gM_divisor (v0 : Int64) (v2 : Int64) (s : mT) : Option (Int64) :=
  (wh FU (gM_divisor_h9 s) (labs v0, v2)).bind fun x3 =>
  some (x3)
set_option maxRecDepth 8000 in
theorem gM_divisor_ok {L d : Nat} (hd : 1 ≤ d) {v0 : Int64} {v2 : Int64} {s : mT} {p : Int64} (h : gM_divisor v0 v2 s = some p) : Ev d 303 0 [(0, .long v0), (2, .long v2)] [] (uS L s) (some (.long p), uS L s) := by
  obtain ⟨d, rfl⟩ : ∃ e, d = e + 1 := ⟨d - 1, by omega⟩
  obtain ⟨o, ho⟩ : ∃ o : Option Value × mS, o = (some (.long p), uS L s) := ⟨_, rfl⟩
  rw [← ho]
  unfold gM_divisor at h
  refine Ev.seg D_303 [(.lload_n 0, 1)] (by decide +kernel) (j := 0) (pc' := 1) (lv' := [(0, .long v0), (2, .long v2)]) (st' := [.long v0]) rfl ?_
  refine Ev.abs D_303 (by decide +kernel) (Nat.succ_pos _) C_10_390 (Nat.le_of_ble_eq_true rfl) ?_
  refine Ev.seg D_303 [(.lstore 4, 2), (.lload_n 2, 1), (.lstore 6, 2)] (by decide +kernel) (j := 0) (pc' := 9) (lv' := [(6, .long v2), (4, .long (labs v0)), (0, .long v0), (2, .long v2)]) (st' := []) rfl ?_
  obtain ⟨x3, w3, h⟩ := bd h
  have j3 : Ev (d + 1) 303 34 [(4, .long x3)] [] (uS L s) o := by
    clear w3
    refine Ev.seg D_303 [(.lload 4, 2)] (by decide +kernel) (j := 0) (pc' := 36) (lv' := [(4, .long x3)]) (st' := [.long x3]) rfl ?_
    cases h
    obtain rfl : o = _ := ho
    exact Ev.lret D_303 (by decide +kernel)
  exact Ev.sub (lv' := [(4, .long (labs v0)), (6, .long v2)]) (subL_cons rfl (subL_cons rfl subL_nil)) (gM_divisor_h9_w hd   _ _ _ w3 _ j3)
/- PennantLawnModel part: 302 -/
def gM_part (v0 : Int64) (v2 : Int64) (v4 : Int32) (s : mT) : Option (Int64) :=
  (
    if v4 = 0 then
      some (v0)
    else
      some (v2) : Option (Int64)).bind fun x1 =>
  (gM_divisor v0 v2 s).bind fun p2 =>
  if p2 = 0 then none else
  some (x1 / p2)
set_option maxRecDepth 8000 in
theorem gM_part_ok {L d : Nat} (hd : 2 ≤ d) {v0 : Int64} {v2 : Int64} {v4 : Int32} {s : mT} {p : Int64} (h : gM_part v0 v2 v4 s = some p) : Ev d 302 0 [(0, .long v0), (2, .long v2), (4, .int v4)] [] (uS L s) (some (.long p), uS L s) := by
  obtain ⟨d, rfl⟩ : ∃ e, d = e + 1 := ⟨d - 1, by omega⟩
  obtain ⟨o, ho⟩ : ∃ o : Option Value × mS, o = (some (.long p), uS L s) := ⟨_, rfl⟩
  rw [← ho]
  unfold gM_part at h
  refine Ev.seg D_302 [(.iload 4, 2)] (by decide +kernel) (j := 0) (pc' := 2) (lv' := [(0, .long v0), (2, .long v2), (4, .int v4)]) (st' := [.int v4]) rfl ?_
  obtain ⟨x1, g1, h⟩ := bd h
  have j1 : Ev (d + 1) 302 10 [(0, .long v0), (2, .long v2)] [.long x1] (uS L s) o := by
    clear g1
    refine Ev.seg D_302 [(.lload_n 0, 1), (.lload_n 2, 1)] (by decide +kernel) (j := 0) (pc' := 12) (lv' := [(0, .long v0), (2, .long v2)]) (st' := [.long v2, .long v0, .long x1]) rfl ?_
    obtain ⟨p2, e2, h⟩ := bd h
    refine Ev.calls D_302 E_303 (by decide +kernel) C_10_394 [.long v0, .long v2] (r := [.long x1]) rfl rfl (Nat.le_of_ble_eq_true rfl) (Nat.le_of_ble_eq_true rfl) (gM_divisor_ok (by omega)  e2) ?_
    by_cases c3 : p2 = 0
    · rw [if_pos c3] at h; cases h
    rw [if_neg c3] at h
    refine Ev.ldiv D_302 (by decide +kernel) c3 ?_
    cases h
    obtain rfl : o = _ := ho
    exact Ev.lret D_302 (by decide +kernel)
  clear h
  refine Ev.if_ D_302 (c := .ne) (off := 7) (by decide +kernel) (t := 9) rfl (fun c1 => ?_) (fun c1 => ?_)
  · have c1 : ¬ v4 = 0 := of_decide_eq_true c1
    rw [if_neg c1] at g1
    refine Ev.seg D_302 [(.lload_n 2, 1)] (by decide +kernel) (j := 0) (pc' := 10) (lv' := [(0, .long v0), (2, .long v2), (4, .int v4)]) (st' := [.long v2]) rfl ?_
    cases g1
    exact Ev.sub2 j1 (subL_cons rfl (subL_cons rfl subL_nil))
  · have c1 : v4 = 0 := Decidable.of_not_not (of_decide_eq_false c1)
    rw [if_pos c1] at g1
    refine Ev.seg D_302 [(.lload_n 0, 1), (.goto 4, 3)] (by decide +kernel) (j := 0) (pc' := 10) (lv' := [(0, .long v0), (2, .long v2), (4, .int v4)]) (st' := [.long v0]) rfl ?_
    cases g1
    exact Ev.sub2 j1 (subL_cons rfl (subL_cons rfl subL_nil))
/- PennantLawnModel share: 300 -/
def gM_share_h53 (v1 : Int32) (v2 : Int32) (v3 : Int32) (v4 : Int32) (v5 : Int32) (q : Int32 × mT) : Option ((Int32 × mT) ⊕ (mT)) :=
  if v5 < q.1 then
    some (.inr q.2)
  else
    (gM_goAll (stI q.2 294 20 (v5 &&& (q.1 ^^^ (-1 : Int32))))).bind fun p3 =>
    (gM_last p3).bind fun p5 =>
    (gM_placeOf v1 p5 p3).bind fun p6 =>
    (gM_placeOf v1 (0 : Int32) p3).bind fun p7 =>
    (wrI p3 311 32 q.1 (p6 - p7)).bind fun s8 =>
    some (.inl (q.1 + (1 : Int32), s8))
set_option maxRecDepth 8000 in
theorem gM_share_h53_ok {L d : Nat} (hd : 5 ≤ d + 1) {v1 : Int32} {v2 : Int32} {v3 : Int32} {v4 : Int32} {v5 : Int32} : ∀ (q : Int32 × mT) (x : (Int32 × mT) ⊕ (mT)), gM_share_h53 v1 v2 v3 v4 v5 q = some x → ∀ o, sK (fun q => Ev (d + 1) 300 53 [(0, .ref 294), (1, .int v1), (2, .int v2), (3, .int v3), (4, .int v4), (5, .int v5), (6, .int q.1)] [] (uS L q.2) o) (fun r => Ev (d + 1) 300 104 [(0, .ref 294), (2, .int v2), (3, .int v3), (4, .int v4), (5, .int v5)] [] (uS L r) o) x → Ev (d + 1) 300 53 [(0, .ref 294), (1, .int v1), (2, .int v2), (3, .int v3), (4, .int v4), (5, .int v5), (6, .int q.1)] [] (uS L q.2) o := by
  intro q x h o ho
  unfold gM_share_h53 at h
  refine Ev.seg D_300 [(.iload 6, 2), (.iload 5, 2)] (by decide +kernel) (j := 0) (pc' := 57) (lv' := [(0, .ref 294), (1, .int v1), (2, .int v2), (3, .int v3), (4, .int v4), (5, .int v5), (6, .int q.1)]) (st' := [.int v5, .int q.1]) rfl ?_
  refine Ev.icmp D_300 (c := .gt) (off := 47) (by decide +kernel) (t := 104) rfl (fun c1 => ?_) (fun c1 => ?_)
  · have c1 : v5 < q.1 := of_decide_eq_true c1
    rw [if_pos c1] at h
    cases h
    exact Ev.sub (lv' := [(0, .ref 294), (2, .int v2), (3, .int v3), (4, .int v4), (5, .int v5)]) (subL_cons rfl (subL_cons rfl (subL_cons rfl (subL_cons rfl (subL_cons rfl subL_nil))))) ho
  · have c1 : ¬ v5 < q.1 := of_decide_eq_false c1
    rw [if_neg c1] at h
    refine Ev.seg D_300 [(.aload_n 0, 1), (.iload 5, 2), (.iload 6, 2), (.iconst (-1), 1), (.ixor, 1), (.iand, 1)] (by decide +kernel) (j := 0) (pc' := 68) (lv' := [(0, .ref 294), (1, .int v1), (2, .int v2), (3, .int v3), (4, .int v4), (5, .int v5), (6, .int q.1)]) (st' := [.int (v5 &&& (q.1 ^^^ (-1 : Int32))), .ref 294]) rfl ?_
    refine Ev.putI D_300 (by decide +kernel) F_10_231 N_10_20 T_10_20 (S_pI k_294) ?_
    refine Ev.seg D_300 [(.aload_n 0, 1)] (by decide +kernel) (j := 0) (pc' := 72) (lv' := [(0, .ref 294), (1, .int v1), (2, .int v2), (3, .int v3), (4, .int v4), (5, .int v5), (6, .int q.1)]) (st' := [.ref 294]) rfl ?_
    obtain ⟨p3, e3, h⟩ := bd h
    refine Ev.callv D_300 E_215 (by decide +kernel) C_10_266 294 [] (r := []) rfl (gd_o k_294 (by decide)) rfl (Nat.le_of_ble_eq_true rfl) (Nat.le_of_ble_eq_true rfl) (gM_goAll_ok (by omega)  e3) ?_
    refine Ev.seg D_300 [(.aload_n 0, 1)] (by decide +kernel) (j := 0) (pc' := 76) (lv' := [(0, .ref 294), (1, .int v1), (2, .int v2), (3, .int v3), (4, .int v4), (5, .int v5), (6, .int q.1)]) (st' := [.ref 294]) rfl ?_
    refine Ev.getR D_300 (by decide +kernel) F_10_64 T_10_36 (x := 311) (S_oR k_294 (by decide +kernel)) ?_
    refine Ev.seg D_300 [(.iload 6, 2), (.aload_n 0, 1), (.iload_n 1, 1), (.aload_n 0, 1)] (by decide +kernel) (j := 0) (pc' := 84) (lv' := [(0, .ref 294), (1, .int v1), (2, .int v2), (3, .int v3), (4, .int v4), (5, .int v5), (6, .int q.1)]) (st' := [.ref 294, .int v1, .ref 294, .int q.1, .ref 311]) rfl ?_
    obtain ⟨p5, e5, h⟩ := bd h
    refine Ev.callv D_300 E_216 (by decide +kernel) C_10_96 294 [] (r := [.int v1, .ref 294, .int q.1, .ref 311]) rfl (gd_o k_294 (by decide)) rfl (Nat.le_of_ble_eq_true rfl) (Nat.le_of_ble_eq_true rfl) (gM_last_ok (by omega)  e5) ?_
    obtain ⟨p6, e6, h⟩ := bd h
    refine Ev.callv D_300 E_220 (by decide +kernel) C_10_240 294 [.int v1, .int p5] (r := [.int q.1, .ref 311]) rfl (gd_o k_294 (by decide)) rfl (Nat.le_of_ble_eq_true rfl) (Nat.le_of_ble_eq_true rfl) (gM_placeOf_ok (by omega)  e6) ?_
    refine Ev.seg D_300 [(.aload_n 0, 1), (.iload_n 1, 1), (.iconst 0, 1)] (by decide +kernel) (j := 0) (pc' := 93) (lv' := [(0, .ref 294), (1, .int v1), (2, .int v2), (3, .int v3), (4, .int v4), (5, .int v5), (6, .int q.1)]) (st' := [.int (0 : Int32), .int v1, .ref 294, .int p6, .int q.1, .ref 311]) rfl ?_
    obtain ⟨p7, e7, h⟩ := bd h
    refine Ev.callv D_300 E_220 (by decide +kernel) C_10_240 294 [.int v1, .int (0 : Int32)] (r := [.int p6, .int q.1, .ref 311]) rfl (gd_o k_294 (by decide)) rfl (Nat.le_of_ble_eq_true rfl) (Nat.le_of_ble_eq_true rfl) (gM_placeOf_ok (by omega)  e7) ?_
    refine Ev.seg D_300 [(.isub, 1)] (by decide +kernel) (j := 0) (pc' := 97) (lv' := [(0, .ref 294), (1, .int v1), (2, .int v2), (3, .int v3), (4, .int v4), (5, .int v5), (6, .int q.1)]) (st' := [.int (p6 - p7), .int q.1, .ref 311]) rfl ?_
    obtain ⟨s8, e8, h⟩ := bd h
    refine Ev.iast D_300 (by decide +kernel) (S_sI k_311 e8) ?_
    refine Ev.seg D_300 [(.iinc 6 1, 3), (.goto (-48), 3)] (by decide +kernel) (j := 0) (pc' := 53) (lv' := [(6, .int (q.1 + (1 : Int32))), (0, .ref 294), (1, .int v1), (2, .int v2), (3, .int v3), (4, .int v4), (5, .int v5)]) (st' := []) rfl ?_
    cases h
    exact Ev.sub (lv' := [(0, .ref 294), (1, .int v1), (2, .int v2), (3, .int v3), (4, .int v4), (5, .int v5), (6, .int (q.1 + (1 : Int32)))]) (subL_cons rfl (subL_cons rfl (subL_cons rfl (subL_cons rfl (subL_cons rfl (subL_cons rfl (subL_cons rfl subL_nil))))))) ho
theorem gM_share_h53_w {L d : Nat} (hd : 5 ≤ d + 1) {v1 : Int32} {v2 : Int32} {v3 : Int32} {v4 : Int32} {v5 : Int32} : ∀ (n : Nat) (q : Int32 × mT) (r : mT), wh n (gM_share_h53 v1 v2 v3 v4 v5) q = some r → ∀ o, (fun r => Ev (d + 1) 300 104 [(0, .ref 294), (2, .int v2), (3, .int v3), (4, .int v4), (5, .int v5)] [] (uS L r) o) r → Ev (d + 1) 300 53 [(0, .ref 294), (1, .int v1), (2, .int v2), (3, .int v3), (4, .int v4), (5, .int v5), (6, .int q.1)] [] (uS L q.2) o :=
  fun n q r h o hc => wh_ev (E := fun (q : Int32 × mT) o => Ev (d + 1) 300 53 [(0, .ref 294), (1, .int v1), (2, .int v2), (3, .int v3), (4, .int v4), (5, .int v5), (6, .int q.1)] [] (uS L q.2) o) (C := fun (r : mT) o => (fun r => Ev (d + 1) 300 104 [(0, .ref 294), (2, .int v2), (3, .int v3), (4, .int v4), (5, .int v5)] [] (uS L r) o) r) (gM_share_h53_ok hd  ) n q r h o hc
def gM_share_h110 (v2 : Int32) (v3 : Int32) (v4 : Int32) (v5 : Int32) (s : mT) (q : Int32 × Int32) : Option ((Int32 × Int32) ⊕ (Int32)) :=
  if v5 < q.2 then
    some (.inr q.1)
  else
    (gM_bits q.2 s).bind fun p2 =>
    (gM_bit q.2 v2 s).bind fun p3 =>
    (
      if p3 = 0 then
        (gM_factorial p2 s).bind fun p5 =>
        (gM_factorial ((v4 - (1 : Int32)) - p2) s).bind fun p6 =>
        (rdI (s.1 311) 32 (q.2 ||| ((1 : Int32) <<< (v2 &&& 31)))).bind fun x8 =>
        (rdI (s.1 311) 32 q.2).bind fun x10 =>
        some (q.1 + ((p5 * p6) * (x8 - x10)))
      else
        some (q.1) : Option (Int32)).bind fun x4 =>
    some (.inl (x4, q.2 + (1 : Int32)))
set_option maxRecDepth 8000 in
theorem gM_share_h110_ok {L d : Nat} (hd : 5 ≤ d + 1) {v2 : Int32} {v3 : Int32} {v4 : Int32} {v5 : Int32} {s : mT} : ∀ (q : Int32 × Int32) (x : (Int32 × Int32) ⊕ (Int32)), gM_share_h110 v2 v3 v4 v5 s q = some x → ∀ o, sK (fun q => Ev (d + 1) 300 110 [(0, .ref 294), (2, .int v2), (3, .int v3), (4, .int v4), (5, .int v5), (6, .int q.1), (7, .int q.2)] [] (uS L s) o) (fun r => Ev (d + 1) 300 180 [(3, .int v3), (4, .int v4), (6, .int r)] [] (uS L s) o) x → Ev (d + 1) 300 110 [(0, .ref 294), (2, .int v2), (3, .int v3), (4, .int v4), (5, .int v5), (6, .int q.1), (7, .int q.2)] [] (uS L s) o := by
  intro q x h o ho
  unfold gM_share_h110 at h
  refine Ev.seg D_300 [(.iload 7, 2), (.iload 5, 2)] (by decide +kernel) (j := 0) (pc' := 114) (lv' := [(0, .ref 294), (2, .int v2), (3, .int v3), (4, .int v4), (5, .int v5), (6, .int q.1), (7, .int q.2)]) (st' := [.int v5, .int q.2]) rfl ?_
  refine Ev.icmp D_300 (c := .gt) (off := 66) (by decide +kernel) (t := 180) rfl (fun c1 => ?_) (fun c1 => ?_)
  · have c1 : v5 < q.2 := of_decide_eq_true c1
    rw [if_pos c1] at h
    cases h
    exact Ev.sub (lv' := [(3, .int v3), (4, .int v4), (6, .int q.1)]) (subL_cons rfl (subL_cons rfl (subL_cons rfl subL_nil))) ho
  · have c1 : ¬ v5 < q.2 := of_decide_eq_false c1
    rw [if_neg c1] at h
    refine Ev.seg D_300 [(.iload 7, 2)] (by decide +kernel) (j := 0) (pc' := 119) (lv' := [(0, .ref 294), (2, .int v2), (3, .int v3), (4, .int v4), (5, .int v5), (6, .int q.1), (7, .int q.2)]) (st' := [.int q.2]) rfl ?_
    obtain ⟨p2, e2, h⟩ := bd h
    refine Ev.calls D_300 E_262 (by decide +kernel) C_10_311 [.int q.2] (r := []) rfl rfl (Nat.le_of_ble_eq_true rfl) (Nat.le_of_ble_eq_true rfl) (gM_bits_ok (by omega)  e2) ?_
    refine Ev.seg D_300 [(.istore 8, 2), (.iload 7, 2), (.iload_n 2, 1)] (by decide +kernel) (j := 0) (pc' := 127) (lv' := [(8, .int p2), (0, .ref 294), (2, .int v2), (3, .int v3), (4, .int v4), (5, .int v5), (6, .int q.1), (7, .int q.2)]) (st' := [.int v2, .int q.2]) rfl ?_
    obtain ⟨p3, e3, h⟩ := bd h
    refine Ev.calls D_300 E_221 (by decide +kernel) C_10_250 [.int q.2, .int v2] (r := []) rfl rfl (Nat.le_of_ble_eq_true rfl) (Nat.le_of_ble_eq_true rfl) (gM_bit_ok (by omega)  e3) ?_
    obtain ⟨x4, g4, h⟩ := bd h
    have j4 : Ev (d + 1) 300 174 [(0, .ref 294), (2, .int v2), (3, .int v3), (4, .int v4), (5, .int v5), (6, .int x4), (7, .int q.2)] [] (uS L s) o := by
      clear g4
      refine Ev.seg D_300 [(.iinc 7 1, 3), (.goto (-67), 3)] (by decide +kernel) (j := 0) (pc' := 110) (lv' := [(7, .int (q.2 + (1 : Int32))), (0, .ref 294), (2, .int v2), (3, .int v3), (4, .int v4), (5, .int v5), (6, .int x4)]) (st' := []) rfl ?_
      cases h
      exact Ev.sub (lv' := [(0, .ref 294), (2, .int v2), (3, .int v3), (4, .int v4), (5, .int v5), (6, .int (x4)), (7, .int (q.2 + (1 : Int32)))]) (subL_cons rfl (subL_cons rfl (subL_cons rfl (subL_cons rfl (subL_cons rfl (subL_cons rfl (subL_cons rfl subL_nil))))))) ho
    clear h
    refine Ev.if_ D_300 (c := .ne) (off := 44) (by decide +kernel) (t := 174) rfl (fun c4 => ?_) (fun c4 => ?_)
    · have c4 : ¬ p3 = 0 := of_decide_eq_true c4
      rw [if_neg c4] at g4
      cases g4
      exact Ev.sub2 j4 (subL_cons rfl (subL_cons rfl (subL_cons rfl (subL_cons rfl (subL_cons rfl (subL_cons rfl (subL_cons rfl subL_nil)))))))
    · have c4 : p3 = 0 := Decidable.of_not_not (of_decide_eq_false c4)
      rw [if_pos c4] at g4
      refine Ev.seg D_300 [(.iload 6, 2), (.iload 8, 2)] (by decide +kernel) (j := 0) (pc' := 137) (lv' := [(8, .int p2), (0, .ref 294), (2, .int v2), (3, .int v3), (4, .int v4), (5, .int v5), (6, .int q.1), (7, .int q.2)]) (st' := [.int p2, .int q.1]) rfl ?_
      obtain ⟨p5, e5, g4⟩ := bd g4
      refine Ev.calls D_300 E_301 (by decide +kernel) C_10_398 [.int p2] (r := [.int q.1]) rfl rfl (Nat.le_of_ble_eq_true rfl) (Nat.le_of_ble_eq_true rfl) (gM_factorial_ok (by omega)  e5) ?_
      refine Ev.seg D_300 [(.iload 4, 2), (.iconst 1, 1), (.isub, 1), (.iload 8, 2), (.isub, 1)] (by decide +kernel) (j := 0) (pc' := 147) (lv' := [(8, .int p2), (0, .ref 294), (2, .int v2), (3, .int v3), (4, .int v4), (5, .int v5), (6, .int q.1), (7, .int q.2)]) (st' := [.int ((v4 - (1 : Int32)) - p2), .int p5, .int q.1]) rfl ?_
      obtain ⟨p6, e6, g4⟩ := bd g4
      refine Ev.calls D_300 E_301 (by decide +kernel) C_10_398 [.int ((v4 - (1 : Int32)) - p2)] (r := [.int p5, .int q.1]) rfl rfl (Nat.le_of_ble_eq_true rfl) (Nat.le_of_ble_eq_true rfl) (gM_factorial_ok (by omega)  e6) ?_
      refine Ev.seg D_300 [(.imul, 1), (.aload_n 0, 1)] (by decide +kernel) (j := 0) (pc' := 152) (lv' := [(8, .int p2), (0, .ref 294), (2, .int v2), (3, .int v3), (4, .int v4), (5, .int v5), (6, .int q.1), (7, .int q.2)]) (st' := [.ref 294, .int (p5 * p6), .int q.1]) rfl ?_
      refine Ev.getR D_300 (by decide +kernel) F_10_64 T_10_36 (x := 311) (S_oR k_294 (by decide +kernel)) ?_
      refine Ev.seg D_300 [(.iload 7, 2), (.iconst 1, 1), (.iload_n 2, 1), (.ishl, 1), (.ior, 1)] (by decide +kernel) (j := 0) (pc' := 161) (lv' := [(8, .int p2), (0, .ref 294), (2, .int v2), (3, .int v3), (4, .int v4), (5, .int v5), (6, .int q.1), (7, .int q.2)]) (st' := [.int (q.2 ||| ((1 : Int32) <<< (v2 &&& 31))), .ref 311, .int (p5 * p6), .int q.1]) rfl ?_
      obtain ⟨x8, e8, g4⟩ := bd g4
      refine Ev.iald D_300 (by decide +kernel) (S_aI k_311 e8) ?_
      refine Ev.seg D_300 [(.aload_n 0, 1)] (by decide +kernel) (j := 0) (pc' := 163) (lv' := [(8, .int p2), (0, .ref 294), (2, .int v2), (3, .int v3), (4, .int v4), (5, .int v5), (6, .int q.1), (7, .int q.2)]) (st' := [.ref 294, .int x8, .int (p5 * p6), .int q.1]) rfl ?_
      refine Ev.getR D_300 (by decide +kernel) F_10_64 T_10_36 (x := 311) (S_oR k_294 (by decide +kernel)) ?_
      refine Ev.seg D_300 [(.iload 7, 2)] (by decide +kernel) (j := 0) (pc' := 168) (lv' := [(8, .int p2), (0, .ref 294), (2, .int v2), (3, .int v3), (4, .int v4), (5, .int v5), (6, .int q.1), (7, .int q.2)]) (st' := [.int q.2, .ref 311, .int x8, .int (p5 * p6), .int q.1]) rfl ?_
      obtain ⟨x10, e10, g4⟩ := bd g4
      refine Ev.iald D_300 (by decide +kernel) (S_aI k_311 e10) ?_
      refine Ev.seg D_300 [(.isub, 1), (.imul, 1), (.iadd, 1), (.istore 6, 2)] (by decide +kernel) (j := 0) (pc' := 174) (lv' := [(6, .int (q.1 + ((p5 * p6) * (x8 - x10)))), (8, .int p2), (0, .ref 294), (2, .int v2), (3, .int v3), (4, .int v4), (5, .int v5), (7, .int q.2)]) (st' := []) rfl ?_
      cases g4
      exact Ev.sub2 j4 (subL_cons rfl (subL_cons rfl (subL_cons rfl (subL_cons rfl (subL_cons rfl (subL_cons rfl (subL_cons rfl subL_nil)))))))
theorem gM_share_h110_w {L d : Nat} (hd : 5 ≤ d + 1) {v2 : Int32} {v3 : Int32} {v4 : Int32} {v5 : Int32} {s : mT} : ∀ (n : Nat) (q : Int32 × Int32) (r : Int32), wh n (gM_share_h110 v2 v3 v4 v5 s) q = some r → ∀ o, (fun r => Ev (d + 1) 300 180 [(3, .int v3), (4, .int v4), (6, .int r)] [] (uS L s) o) r → Ev (d + 1) 300 110 [(0, .ref 294), (2, .int v2), (3, .int v3), (4, .int v4), (5, .int v5), (6, .int q.1), (7, .int q.2)] [] (uS L s) o :=
  fun n q r h o hc => wh_ev (E := fun (q : Int32 × Int32) o => Ev (d + 1) 300 110 [(0, .ref 294), (2, .int v2), (3, .int v3), (4, .int v4), (5, .int v5), (6, .int q.1), (7, .int q.2)] [] (uS L s) o) (C := fun (r : Int32) o => (fun r => Ev (d + 1) 300 180 [(3, .int v3), (4, .int v4), (6, .int r)] [] (uS L s) o) r) (gM_share_h110_ok hd  ) n q r h o hc
def gM_share (v1 : Int32) (v2 : Int32) (v3 : Int32) (s : mT) : Option (Int32 × mT) :=
  (gM_isBoat v1.toInt64 s).bind fun p1 =>
  if p1 = 0 then
    some (((-2 : Int32), s))
  else
    (gM_isWatcher v2 s).bind fun p4 =>
    if p4 = 0 then
      some (((-2 : Int32), s))
    else
      (gM_in v3.toInt64 (0 : Int64) (1 : Int64) s).bind fun p7 =>
      if p7 = 0 then
        some (((-2 : Int32), s))
      else
        (gM_asItIs s).bind fun p9 =>
        (rdI (p9.1 295) 79 (5 : Int32)).bind fun x11 =>
        (wh FU (gM_share_h53 v1 v2 v3 x11 (((1 : Int32) <<< (x11 &&& 31)) - (1 : Int32))) ((0 : Int32), p9)).bind fun x12 =>
        (wh FU (gM_share_h110 v2 v3 x11 (((1 : Int32) <<< (x11 &&& 31)) - (1 : Int32)) x12) ((0 : Int32), (0 : Int32))).bind fun x13 =>
        (gM_factorial x11 x12).bind fun p14 =>
        (gM_part x13.toInt64 p14.toInt64 v3 x12).bind fun p15 =>
        some ((p15.toInt32, x12))
set_option maxRecDepth 8000 in
theorem gM_share_ok {L d : Nat} (hd : 5 ≤ d) {v1 : Int32} {v2 : Int32} {v3 : Int32} {s : mT} {p : Int32 × mT} (h : gM_share v1 v2 v3 s = some p) : Ev d 300 0 [(0, .ref 294), (1, .int v1), (2, .int v2), (3, .int v3)] [] (uS L s) (some (.int p.1), uS L p.2) := by
  obtain ⟨d, rfl⟩ : ∃ e, d = e + 1 := ⟨d - 1, by omega⟩
  obtain ⟨o, ho⟩ : ∃ o : Option Value × mS, o = (some (.int p.1), uS L p.2) := ⟨_, rfl⟩
  rw [← ho]
  unfold gM_share at h
  refine Ev.seg D_300 [(.aload_n 0, 1), (.iload_n 1, 1), (.i2l, 1)] (by decide +kernel) (j := 0) (pc' := 3) (lv' := [(0, .ref 294), (1, .int v1), (2, .int v2), (3, .int v3)]) (st' := [.long v1.toInt64, .ref 294]) rfl ?_
  obtain ⟨p1, e1, h⟩ := bd h
  refine Ev.callv D_300 E_204 (by decide +kernel) C_10_220 294 [.long v1.toInt64] (r := []) rfl (gd_o k_294 (by decide)) rfl (Nat.le_of_ble_eq_true rfl) (Nat.le_of_ble_eq_true rfl) (gM_isBoat_ok (by omega)  e1) ?_
  refine Ev.if_ D_300 (c := .eq) (off := 21) (by decide +kernel) (t := 27) rfl (fun c2 => ?_) (fun c2 => ?_)
  · have c2 : p1 = 0 := of_decide_eq_true c2
    rw [if_pos c2] at h
    refine Ev.seg D_300 [(.bipush (-2), 2)] (by decide +kernel) (j := 0) (pc' := 29) (lv' := [(0, .ref 294), (1, .int v1), (2, .int v2), (3, .int v3)]) (st' := [.int (-2 : Int32)]) rfl ?_
    cases h
    obtain rfl : o = _ := ho
    exact Ev.iret D_300 (by decide +kernel)
  · have c2 : ¬ p1 = 0 := of_decide_eq_false c2
    rw [if_neg c2] at h
    refine Ev.seg D_300 [(.aload_n 0, 1), (.iload_n 2, 1)] (by decide +kernel) (j := 0) (pc' := 11) (lv' := [(0, .ref 294), (1, .int v1), (2, .int v2), (3, .int v3)]) (st' := [.int v2, .ref 294]) rfl ?_
    obtain ⟨p4, e4, h⟩ := bd h
    refine Ev.callv D_300 E_206 (by decide +kernel) C_10_224 294 [.int v2] (r := []) rfl (gd_o k_294 (by decide)) rfl (Nat.le_of_ble_eq_true rfl) (Nat.le_of_ble_eq_true rfl) (gM_isWatcher_ok (by omega)  e4) ?_
    refine Ev.if_ D_300 (c := .eq) (off := 13) (by decide +kernel) (t := 27) rfl (fun c5 => ?_) (fun c5 => ?_)
    · have c5 : p4 = 0 := of_decide_eq_true c5
      rw [if_pos c5] at h
      refine Ev.seg D_300 [(.bipush (-2), 2)] (by decide +kernel) (j := 0) (pc' := 29) (lv' := [(0, .ref 294), (1, .int v1), (2, .int v2), (3, .int v3)]) (st' := [.int (-2 : Int32)]) rfl ?_
      cases h
      obtain rfl : o = _ := ho
      exact Ev.iret D_300 (by decide +kernel)
    · have c5 : ¬ p4 = 0 := of_decide_eq_false c5
      rw [if_neg c5] at h
      refine Ev.seg D_300 [(.iload_n 3, 1), (.i2l, 1), (.lconst 0, 1), (.lconst 1, 1)] (by decide +kernel) (j := 0) (pc' := 21) (lv' := [(0, .ref 294), (1, .int v1), (2, .int v2), (3, .int v3)]) (st' := [.long (1 : Int64), .long (0 : Int64), .long v3.toInt64]) rfl ?_
      obtain ⟨p7, e7, h⟩ := bd h
      refine Ev.calls D_300 E_184 (by decide +kernel) C_10_88 [.long v3.toInt64, .long (0 : Int64), .long (1 : Int64)] (r := []) rfl rfl (Nat.le_of_ble_eq_true rfl) (Nat.le_of_ble_eq_true rfl) (gM_in_ok (by omega)  e7) ?_
      refine Ev.if_ D_300 (c := .ne) (off := 6) (by decide +kernel) (t := 30) rfl (fun c8 => ?_) (fun c8 => ?_)
      · have c8 : ¬ p7 = 0 := of_decide_eq_true c8
        rw [if_neg c8] at h
        refine Ev.seg D_300 [(.aload_n 0, 1)] (by decide +kernel) (j := 0) (pc' := 31) (lv' := [(0, .ref 294), (1, .int v1), (2, .int v2), (3, .int v3)]) (st' := [.ref 294]) rfl ?_
        obtain ⟨p9, e9, h⟩ := bd h
        refine Ev.callv D_300 E_212 (by decide +kernel) C_10_263 294 [] (r := []) rfl (gd_o k_294 (by decide)) rfl (Nat.le_of_ble_eq_true rfl) (Nat.le_of_ble_eq_true rfl) (gM_asItIs_ok (by omega)  e9) ?_
        refine Ev.seg D_300 [(.aload_n 0, 1)] (by decide +kernel) (j := 0) (pc' := 35) (lv' := [(0, .ref 294), (1, .int v1), (2, .int v2), (3, .int v3)]) (st' := [.ref 294]) rfl ?_
        refine Ev.getR D_300 (by decide +kernel) F_10_9 T_10_1 (x := 295) (S_oR k_294 (by decide +kernel)) ?_
        refine Ev.seg D_300 [(.iconst 5, 1)] (by decide +kernel) (j := 0) (pc' := 39) (lv' := [(0, .ref 294), (1, .int v1), (2, .int v2), (3, .int v3)]) (st' := [.int (5 : Int32), .ref 295]) rfl ?_
        obtain ⟨x11, e11, h⟩ := bd h
        refine Ev.iald D_300 (by decide +kernel) (S_aI k_295 e11) ?_
        refine Ev.seg D_300 [(.istore 4, 2), (.iconst 1, 1), (.iload 4, 2), (.ishl, 1), (.iconst 1, 1), (.isub, 1), (.istore 5, 2), (.iconst 0, 1), (.istore 6, 2)] (by decide +kernel) (j := 0) (pc' := 53) (lv' := [(6, .int (0 : Int32)), (5, .int (((1 : Int32) <<< (x11 &&& 31)) - (1 : Int32))), (4, .int x11), (0, .ref 294), (1, .int v1), (2, .int v2), (3, .int v3)]) (st' := []) rfl ?_
        obtain ⟨x12, w12, h⟩ := bd h
        have j12 : Ev (d + 1) 300 104 [(0, .ref 294), (2, .int v2), (3, .int v3), (4, .int x11), (5, .int (((1 : Int32) <<< (x11 &&& 31)) - (1 : Int32)))] [] (uS L x12) o := by
          clear w12
          refine Ev.seg D_300 [(.iconst 0, 1), (.istore 6, 2), (.iconst 0, 1), (.istore 7, 2)] (by decide +kernel) (j := 0) (pc' := 110) (lv' := [(7, .int (0 : Int32)), (6, .int (0 : Int32)), (0, .ref 294), (2, .int v2), (3, .int v3), (4, .int x11), (5, .int (((1 : Int32) <<< (x11 &&& 31)) - (1 : Int32)))]) (st' := []) rfl ?_
          obtain ⟨x13, w13, h⟩ := bd h
          have j13 : Ev (d + 1) 300 180 [(3, .int v3), (4, .int x11), (6, .int x13)] [] (uS L x12) o := by
            clear w13
            refine Ev.seg D_300 [(.iload 6, 2), (.i2l, 1), (.iload 4, 2)] (by decide +kernel) (j := 0) (pc' := 185) (lv' := [(3, .int v3), (4, .int x11), (6, .int x13)]) (st' := [.int x11, .long x13.toInt64]) rfl ?_
            obtain ⟨p14, e14, h⟩ := bd h
            refine Ev.calls D_300 E_301 (by decide +kernel) C_10_398 [.int x11] (r := [.long x13.toInt64]) rfl rfl (Nat.le_of_ble_eq_true rfl) (Nat.le_of_ble_eq_true rfl) (gM_factorial_ok (by omega)  e14) ?_
            refine Ev.seg D_300 [(.i2l, 1), (.iload_n 3, 1)] (by decide +kernel) (j := 0) (pc' := 190) (lv' := [(3, .int v3), (4, .int x11), (6, .int x13)]) (st' := [.int v3, .long p14.toInt64, .long x13.toInt64]) rfl ?_
            obtain ⟨p15, e15, h⟩ := bd h
            refine Ev.calls D_300 E_302 (by decide +kernel) C_10_401 [.long x13.toInt64, .long p14.toInt64, .int v3] (r := []) rfl rfl (Nat.le_of_ble_eq_true rfl) (Nat.le_of_ble_eq_true rfl) (gM_part_ok (by omega)  e15) ?_
            refine Ev.seg D_300 [(.l2i, 1)] (by decide +kernel) (j := 0) (pc' := 194) (lv' := [(3, .int v3), (4, .int x11), (6, .int x13)]) (st' := [.int p15.toInt32]) rfl ?_
            cases h
            obtain rfl : o = _ := ho
            exact Ev.iret D_300 (by decide +kernel)
          exact Ev.sub (lv' := [(0, .ref 294), (2, .int v2), (3, .int v3), (4, .int x11), (5, .int (((1 : Int32) <<< (x11 &&& 31)) - (1 : Int32))), (6, .int (0 : Int32)), (7, .int (0 : Int32))]) (subL_cons rfl (subL_cons rfl (subL_cons rfl (subL_cons rfl (subL_cons rfl (subL_cons rfl (subL_cons rfl subL_nil))))))) (gM_share_h110_w hd   _ _ _ w13 _ j13)
        exact Ev.sub (lv' := [(0, .ref 294), (1, .int v1), (2, .int v2), (3, .int v3), (4, .int x11), (5, .int (((1 : Int32) <<< (x11 &&& 31)) - (1 : Int32))), (6, .int (0 : Int32))]) (subL_cons rfl (subL_cons rfl (subL_cons rfl (subL_cons rfl (subL_cons rfl (subL_cons rfl (subL_cons rfl subL_nil))))))) (gM_share_h53_w hd   _ _ _ w12 _ j12)
      · have c8 : p7 = 0 := Decidable.of_not_not (of_decide_eq_false c8)
        rw [if_pos c8] at h
        refine Ev.seg D_300 [(.bipush (-2), 2)] (by decide +kernel) (j := 0) (pc' := 29) (lv' := [(0, .ref 294), (1, .int v1), (2, .int v2), (3, .int v3)]) (st' := [.int (-2 : Int32)]) rfl ?_
        cases h
        obtain rfl : o = _ := ho
        exact Ev.iret D_300 (by decide +kernel)
/- PennantLawnModel isRest: 306 -/
def gM_isRest_h65 (v2 : Int32) (v3 : Int32) (v4 : Int32) (v1 : Int32) (s : mT) (q : Int32) : Option ((Int32) ⊕ ((Int32) ⊕ (Int32))) :=
  (gM_of v2 (2 : Int32) s).bind fun p1 =>
  if p1 < q then
    some (.inr (.inr ((1 : Int32))))
  else
    (rdI (s.1 312) 50 (((2 : Int32) * (((5 : Int32) * v3) + q)) + (1 : Int32))).bind fun x5 =>
    (rdI (s.1 312) 50 (((2 : Int32) * (((5 : Int32) * v3) + v4)) + (1 : Int32))).bind fun x7 =>
    if x5 ≤ x7 then
      some (.inl (q + (1 : Int32)))
    else
      some (.inr (.inr ((0 : Int32))))
set_option maxRecDepth 8000 in
theorem gM_isRest_h65_ok {L d : Nat} (hd : 2 ≤ d + 1) {v2 : Int32} {v3 : Int32} {v4 : Int32} {v1 : Int32} {s : mT} : ∀ (q : Int32) (x : (Int32) ⊕ ((Int32) ⊕ (Int32))), gM_isRest_h65 v2 v3 v4 v1 s q = some x → ∀ o, sK (fun q => Ev (d + 1) 306 65 [(0, .ref 294), (2, .int v2), (3, .int v3), (4, .int v4), (5, .int q)] [] (uS L s) o) (fun r => sK (fun q => Ev (d + 1) 306 8 [(0, .ref 294), (1, .int v1), (2, .int v2), (3, .int v3), (4, .int v4), (5, .int q)] [] (uS L s) o) (fun r => o = (some (.int r), uS L s)) r) x → Ev (d + 1) 306 65 [(0, .ref 294), (2, .int v2), (3, .int v3), (4, .int v4), (5, .int q)] [] (uS L s) o := by
  intro q x h o ho
  unfold gM_isRest_h65 at h
  refine Ev.seg D_306 [(.iload 5, 2), (.aload_n 0, 1), (.iload_n 2, 1), (.iconst 2, 1)] (by decide +kernel) (j := 0) (pc' := 70) (lv' := [(0, .ref 294), (2, .int v2), (3, .int v3), (4, .int v4), (5, .int q)]) (st' := [.int (2 : Int32), .int v2, .ref 294, .int q]) rfl ?_
  obtain ⟨p1, e1, h⟩ := bd h
  refine Ev.callv D_306 E_207 (by decide +kernel) C_10_102 294 [.int v2, .int (2 : Int32)] (r := [.int q]) rfl (gd_o k_294 (by decide)) rfl (Nat.le_of_ble_eq_true rfl) (Nat.le_of_ble_eq_true rfl) (gM_of_ok (by omega)  e1) ?_
  refine Ev.icmp D_306 (c := .gt) (off := 44) (by decide +kernel) (t := 117) rfl (fun c2 => ?_) (fun c2 => ?_)
  · have c2 : p1 < q := of_decide_eq_true c2
    rw [if_pos c2] at h
    refine Ev.seg D_306 [(.iconst 1, 1)] (by decide +kernel) (j := 0) (pc' := 118) (lv' := [(0, .ref 294), (2, .int v2), (3, .int v3), (4, .int v4), (5, .int q)]) (st' := [.int (1 : Int32)]) rfl ?_
    cases h
    obtain rfl : o = _ := ho
    exact Ev.zret D_306 (by decide) (by decide +kernel)
  · have c2 : ¬ p1 < q := of_decide_eq_false c2
    rw [if_neg c2] at h
    refine Ev.seg D_306 [(.aload_n 0, 1)] (by decide +kernel) (j := 0) (pc' := 77) (lv' := [(0, .ref 294), (2, .int v2), (3, .int v3), (4, .int v4), (5, .int q)]) (st' := [.ref 294]) rfl ?_
    refine Ev.getR D_306 (by decide +kernel) F_10_67 T_10_37 (x := 312) (S_oR k_294 (by decide +kernel)) ?_
    refine Ev.seg D_306 [(.iconst 2, 1), (.iconst 5, 1), (.iload_n 3, 1), (.imul, 1), (.iload 5, 2), (.iadd, 1), (.imul, 1), (.iconst 1, 1), (.iadd, 1)] (by decide +kernel) (j := 0) (pc' := 90) (lv' := [(0, .ref 294), (2, .int v2), (3, .int v3), (4, .int v4), (5, .int q)]) (st' := [.int (((2 : Int32) * (((5 : Int32) * v3) + q)) + (1 : Int32)), .ref 312]) rfl ?_
    obtain ⟨x5, e5, h⟩ := bd h
    refine Ev.iald D_306 (by decide +kernel) (S_aI k_312 e5) ?_
    refine Ev.seg D_306 [(.aload_n 0, 1)] (by decide +kernel) (j := 0) (pc' := 92) (lv' := [(0, .ref 294), (2, .int v2), (3, .int v3), (4, .int v4), (5, .int q)]) (st' := [.ref 294, .int x5]) rfl ?_
    refine Ev.getR D_306 (by decide +kernel) F_10_67 T_10_37 (x := 312) (S_oR k_294 (by decide +kernel)) ?_
    refine Ev.seg D_306 [(.iconst 2, 1), (.iconst 5, 1), (.iload_n 3, 1), (.imul, 1), (.iload 4, 2), (.iadd, 1), (.imul, 1), (.iconst 1, 1), (.iadd, 1)] (by decide +kernel) (j := 0) (pc' := 105) (lv' := [(0, .ref 294), (2, .int v2), (3, .int v3), (4, .int v4), (5, .int q)]) (st' := [.int (((2 : Int32) * (((5 : Int32) * v3) + v4)) + (1 : Int32)), .ref 312, .int x5]) rfl ?_
    obtain ⟨x7, e7, h⟩ := bd h
    refine Ev.iald D_306 (by decide +kernel) (S_aI k_312 e7) ?_
    refine Ev.icmp D_306 (c := .le) (off := 5) (by decide +kernel) (t := 111) rfl (fun c8 => ?_) (fun c8 => ?_)
    · have c8 : x5 ≤ x7 := of_decide_eq_true c8
      rw [if_pos c8] at h
      refine Ev.seg D_306 [(.iinc 5 1, 3), (.goto (-49), 3)] (by decide +kernel) (j := 0) (pc' := 65) (lv' := [(5, .int (q + (1 : Int32))), (0, .ref 294), (2, .int v2), (3, .int v3), (4, .int v4)]) (st' := []) rfl ?_
      cases h
      exact Ev.sub (lv' := [(0, .ref 294), (2, .int v2), (3, .int v3), (4, .int v4), (5, .int (q + (1 : Int32)))]) (subL_cons rfl (subL_cons rfl (subL_cons rfl (subL_cons rfl (subL_cons rfl subL_nil))))) ho
    · have c8 : ¬ x5 ≤ x7 := of_decide_eq_false c8
      rw [if_neg c8] at h
      refine Ev.seg D_306 [(.iconst 0, 1)] (by decide +kernel) (j := 0) (pc' := 110) (lv' := [(0, .ref 294), (2, .int v2), (3, .int v3), (4, .int v4), (5, .int q)]) (st' := [.int (0 : Int32)]) rfl ?_
      cases h
      obtain rfl : o = _ := ho
      exact Ev.zret D_306 (by decide) (by decide +kernel)
theorem gM_isRest_h65_w {L d : Nat} (hd : 2 ≤ d + 1) {v2 : Int32} {v3 : Int32} {v4 : Int32} {v1 : Int32} {s : mT} : ∀ (n : Nat) (q : Int32) (r : (Int32) ⊕ (Int32)), wh n (gM_isRest_h65 v2 v3 v4 v1 s) q = some r → ∀ o, (fun r => sK (fun q => Ev (d + 1) 306 8 [(0, .ref 294), (1, .int v1), (2, .int v2), (3, .int v3), (4, .int v4), (5, .int q)] [] (uS L s) o) (fun r => o = (some (.int r), uS L s)) r) r → Ev (d + 1) 306 65 [(0, .ref 294), (2, .int v2), (3, .int v3), (4, .int v4), (5, .int q)] [] (uS L s) o :=
  fun n q r h o hc => wh_ev (E := fun (q : Int32) o => Ev (d + 1) 306 65 [(0, .ref 294), (2, .int v2), (3, .int v3), (4, .int v4), (5, .int q)] [] (uS L s) o) (C := fun (r : (Int32) ⊕ (Int32)) o => (fun r => sK (fun q => Ev (d + 1) 306 8 [(0, .ref 294), (1, .int v1), (2, .int v2), (3, .int v3), (4, .int v4), (5, .int q)] [] (uS L s) o) (fun r => o = (some (.int r), uS L s)) r) r) (gM_isRest_h65_ok hd  ) n q r h o hc
def gM_isRest_h8 (v1 : Int32) (v2 : Int32) (v3 : Int32) (v4 : Int32) (s : mT) (q : Int32) : Option ((Int32) ⊕ (Int32)) :=
  (gM_of v1 (2 : Int32) s).bind fun p1 =>
  if p1 < q then
    (gM_of v2 (1 : Int32) s).bind fun p3 =>
    wh FU (gM_isRest_h65 v2 v3 v4 v1 s) p3
  else
    (rdI (s.1 312) 50 ((2 : Int32) * (((5 : Int32) * q) + v4))).bind fun x12 =>
    (rdI (s.1 312) 50 ((2 : Int32) * (((5 : Int32) * v3) + v4))).bind fun x14 =>
    if x12 ≤ x14 then
      some (.inl (q + (1 : Int32)))
    else
      some (.inr ((0 : Int32)))
set_option maxRecDepth 8000 in
theorem gM_isRest_h8_ok {L d : Nat} (hd : 2 ≤ d + 1) {v1 : Int32} {v2 : Int32} {v3 : Int32} {v4 : Int32} {s : mT} : ∀ (q : Int32) (x : (Int32) ⊕ (Int32)), gM_isRest_h8 v1 v2 v3 v4 s q = some x → ∀ o, sK (fun q => Ev (d + 1) 306 8 [(0, .ref 294), (1, .int v1), (2, .int v2), (3, .int v3), (4, .int v4), (5, .int q)] [] (uS L s) o) (fun r => o = (some (.int r), uS L s)) x → Ev (d + 1) 306 8 [(0, .ref 294), (1, .int v1), (2, .int v2), (3, .int v3), (4, .int v4), (5, .int q)] [] (uS L s) o := by
  intro q x h o ho
  unfold gM_isRest_h8 at h
  refine Ev.seg D_306 [(.iload 5, 2), (.aload_n 0, 1), (.iload_n 1, 1), (.iconst 2, 1)] (by decide +kernel) (j := 0) (pc' := 13) (lv' := [(0, .ref 294), (1, .int v1), (2, .int v2), (3, .int v3), (4, .int v4), (5, .int q)]) (st' := [.int (2 : Int32), .int v1, .ref 294, .int q]) rfl ?_
  obtain ⟨p1, e1, h⟩ := bd h
  refine Ev.callv D_306 E_207 (by decide +kernel) C_10_102 294 [.int v1, .int (2 : Int32)] (r := [.int q]) rfl (gd_o k_294 (by decide)) rfl (Nat.le_of_ble_eq_true rfl) (Nat.le_of_ble_eq_true rfl) (gM_of_ok (by omega)  e1) ?_
  refine Ev.icmp D_306 (c := .gt) (off := 41) (by decide +kernel) (t := 57) rfl (fun c2 => ?_) (fun c2 => ?_)
  · have c2 : p1 < q := of_decide_eq_true c2
    rw [if_pos c2] at h
    refine Ev.seg D_306 [(.aload_n 0, 1), (.iload_n 2, 1), (.iconst 1, 1)] (by decide +kernel) (j := 0) (pc' := 60) (lv' := [(0, .ref 294), (1, .int v1), (2, .int v2), (3, .int v3), (4, .int v4), (5, .int q)]) (st' := [.int (1 : Int32), .int v2, .ref 294]) rfl ?_
    obtain ⟨p3, e3, h⟩ := bd h
    refine Ev.callv D_306 E_207 (by decide +kernel) C_10_102 294 [.int v2, .int (1 : Int32)] (r := []) rfl (gd_o k_294 (by decide)) rfl (Nat.le_of_ble_eq_true rfl) (Nat.le_of_ble_eq_true rfl) (gM_of_ok (by omega)  e3) ?_
    refine Ev.seg D_306 [(.istore 5, 2)] (by decide +kernel) (j := 0) (pc' := 65) (lv' := [(5, .int p3), (0, .ref 294), (1, .int v1), (2, .int v2), (3, .int v3), (4, .int v4)]) (st' := []) rfl ?_
    exact Ev.sub (lv' := [(0, .ref 294), (2, .int v2), (3, .int v3), (4, .int v4), (5, .int p3)]) (subL_cons rfl (subL_cons rfl (subL_cons rfl (subL_cons rfl (subL_cons rfl subL_nil))))) (gM_isRest_h65_w hd   _ _ _ h _ ho)
  · have c2 : ¬ p1 < q := of_decide_eq_false c2
    rw [if_neg c2] at h
    refine Ev.seg D_306 [(.aload_n 0, 1)] (by decide +kernel) (j := 0) (pc' := 20) (lv' := [(0, .ref 294), (1, .int v1), (2, .int v2), (3, .int v3), (4, .int v4), (5, .int q)]) (st' := [.ref 294]) rfl ?_
    refine Ev.getR D_306 (by decide +kernel) F_10_67 T_10_37 (x := 312) (S_oR k_294 (by decide +kernel)) ?_
    refine Ev.seg D_306 [(.iconst 2, 1), (.iconst 5, 1), (.iload 5, 2), (.imul, 1), (.iload 4, 2), (.iadd, 1), (.imul, 1)] (by decide +kernel) (j := 0) (pc' := 32) (lv' := [(0, .ref 294), (1, .int v1), (2, .int v2), (3, .int v3), (4, .int v4), (5, .int q)]) (st' := [.int ((2 : Int32) * (((5 : Int32) * q) + v4)), .ref 312]) rfl ?_
    obtain ⟨x12, e12, h⟩ := bd h
    refine Ev.iald D_306 (by decide +kernel) (S_aI k_312 e12) ?_
    refine Ev.seg D_306 [(.aload_n 0, 1)] (by decide +kernel) (j := 0) (pc' := 34) (lv' := [(0, .ref 294), (1, .int v1), (2, .int v2), (3, .int v3), (4, .int v4), (5, .int q)]) (st' := [.ref 294, .int x12]) rfl ?_
    refine Ev.getR D_306 (by decide +kernel) F_10_67 T_10_37 (x := 312) (S_oR k_294 (by decide +kernel)) ?_
    refine Ev.seg D_306 [(.iconst 2, 1), (.iconst 5, 1), (.iload_n 3, 1), (.imul, 1), (.iload 4, 2), (.iadd, 1), (.imul, 1)] (by decide +kernel) (j := 0) (pc' := 45) (lv' := [(0, .ref 294), (1, .int v1), (2, .int v2), (3, .int v3), (4, .int v4), (5, .int q)]) (st' := [.int ((2 : Int32) * (((5 : Int32) * v3) + v4)), .ref 312, .int x12]) rfl ?_
    obtain ⟨x14, e14, h⟩ := bd h
    refine Ev.iald D_306 (by decide +kernel) (S_aI k_312 e14) ?_
    refine Ev.icmp D_306 (c := .le) (off := 5) (by decide +kernel) (t := 51) rfl (fun c15 => ?_) (fun c15 => ?_)
    · have c15 : x12 ≤ x14 := of_decide_eq_true c15
      rw [if_pos c15] at h
      refine Ev.seg D_306 [(.iinc 5 1, 3), (.goto (-46), 3)] (by decide +kernel) (j := 0) (pc' := 8) (lv' := [(5, .int (q + (1 : Int32))), (0, .ref 294), (1, .int v1), (2, .int v2), (3, .int v3), (4, .int v4)]) (st' := []) rfl ?_
      cases h
      exact Ev.sub (lv' := [(0, .ref 294), (1, .int v1), (2, .int v2), (3, .int v3), (4, .int v4), (5, .int (q + (1 : Int32)))]) (subL_cons rfl (subL_cons rfl (subL_cons rfl (subL_cons rfl (subL_cons rfl (subL_cons rfl subL_nil)))))) ho
    · have c15 : ¬ x12 ≤ x14 := of_decide_eq_false c15
      rw [if_neg c15] at h
      refine Ev.seg D_306 [(.iconst 0, 1)] (by decide +kernel) (j := 0) (pc' := 50) (lv' := [(0, .ref 294), (1, .int v1), (2, .int v2), (3, .int v3), (4, .int v4), (5, .int q)]) (st' := [.int (0 : Int32)]) rfl ?_
      cases h
      obtain rfl : o = _ := ho
      exact Ev.zret D_306 (by decide) (by decide +kernel)
theorem gM_isRest_h8_w {L d : Nat} (hd : 2 ≤ d + 1) {v1 : Int32} {v2 : Int32} {v3 : Int32} {v4 : Int32} {s : mT} : ∀ (n : Nat) (q : Int32) (r : Int32), wh n (gM_isRest_h8 v1 v2 v3 v4 s) q = some r → ∀ o, (fun r => o = (some (.int r), uS L s)) r → Ev (d + 1) 306 8 [(0, .ref 294), (1, .int v1), (2, .int v2), (3, .int v3), (4, .int v4), (5, .int q)] [] (uS L s) o :=
  fun n q r h o hc => wh_ev (E := fun (q : Int32) o => Ev (d + 1) 306 8 [(0, .ref 294), (1, .int v1), (2, .int v2), (3, .int v3), (4, .int v4), (5, .int q)] [] (uS L s) o) (C := fun (r : Int32) o => (fun r => o = (some (.int r), uS L s)) r) (gM_isRest_h8_ok hd  ) n q r h o hc
def gM_isRest (v1 : Int32) (v2 : Int32) (v3 : Int32) (v4 : Int32) (s : mT) : Option (Int32) :=
  (gM_of v1 (1 : Int32) s).bind fun p1 =>
  wh FU (gM_isRest_h8 v1 v2 v3 v4 s) p1
set_option maxRecDepth 8000 in
theorem gM_isRest_ok {L d : Nat} (hd : 2 ≤ d) {v1 : Int32} {v2 : Int32} {v3 : Int32} {v4 : Int32} {s : mT} {p : Int32} (h : gM_isRest v1 v2 v3 v4 s = some p) : Ev d 306 0 [(0, .ref 294), (1, .int v1), (2, .int v2), (3, .int v3), (4, .int v4)] [] (uS L s) (some (.int p), uS L s) := by
  obtain ⟨d, rfl⟩ : ∃ e, d = e + 1 := ⟨d - 1, by omega⟩
  obtain ⟨o, ho⟩ : ∃ o : Option Value × mS, o = (some (.int p), uS L s) := ⟨_, rfl⟩
  rw [← ho]
  unfold gM_isRest at h
  refine Ev.seg D_306 [(.aload_n 0, 1), (.iload_n 1, 1), (.iconst 1, 1)] (by decide +kernel) (j := 0) (pc' := 3) (lv' := [(0, .ref 294), (1, .int v1), (2, .int v2), (3, .int v3), (4, .int v4)]) (st' := [.int (1 : Int32), .int v1, .ref 294]) rfl ?_
  obtain ⟨p1, e1, h⟩ := bd h
  refine Ev.callv D_306 E_207 (by decide +kernel) C_10_102 294 [.int v1, .int (1 : Int32)] (r := []) rfl (gd_o k_294 (by decide)) rfl (Nat.le_of_ble_eq_true rfl) (Nat.le_of_ble_eq_true rfl) (gM_of_ok (by omega)  e1) ?_
  refine Ev.seg D_306 [(.istore 5, 2)] (by decide +kernel) (j := 0) (pc' := 8) (lv' := [(5, .int p1), (0, .ref 294), (1, .int v1), (2, .int v2), (3, .int v3), (4, .int v4)]) (st' := []) rfl ?_
  exact Ev.sub (lv' := [(0, .ref 294), (1, .int v1), (2, .int v2), (3, .int v3), (4, .int v4), (5, .int p1)]) (subL_cons rfl (subL_cons rfl (subL_cons rfl (subL_cons rfl (subL_cons rfl (subL_cons rfl subL_nil)))))) (gM_isRest_h8_w hd   _ _ _ h _ ho)
/- PennantLawnModel asksRests: 305 -/
def gM_asksRests_h52 (v1 : Int32) (v2 : Int32) (v3 : Int32) (q : Int32 × mT) : Option ((Int32 × mT) ⊕ (mT)) :=
  (gM_of v2 (2 : Int32) q.2).bind fun p1 =>
  if p1 < q.1 then
    some (.inr q.2)
  else
    (wrI q.2 303 5 v1 v3).bind fun s4 =>
    (wrI s4 303 5 v2 q.1).bind fun s6 =>
    (gM_goAll s6).bind fun p7 =>
    (gM_of v1 (3 : Int32) p7).bind fun p9 =>
    (gM_last p7).bind fun p10 =>
    (gM_placeOf p9 p10 p7).bind fun p11 =>
    (wrI p7 312 50 ((2 : Int32) * (((5 : Int32) * v3) + q.1)) p11).bind fun s12 =>
    (gM_of v2 (3 : Int32) s12).bind fun p14 =>
    (gM_last s12).bind fun p15 =>
    (gM_placeOf p14 p15 s12).bind fun p16 =>
    (wrI s12 312 50 (((2 : Int32) * (((5 : Int32) * v3) + q.1)) + (1 : Int32)) p16).bind fun s17 =>
    some (.inl (q.1 + (1 : Int32), s17))
set_option maxRecDepth 8000 in
theorem gM_asksRests_h52_ok {L d : Nat} (hd : 5 ≤ d + 1) {v1 : Int32} {v2 : Int32} {v3 : Int32} : ∀ (q : Int32 × mT) (x : (Int32 × mT) ⊕ (mT)), gM_asksRests_h52 v1 v2 v3 q = some x → ∀ o, sK (fun q => Ev (d + 1) 305 52 [(0, .ref 294), (1, .int v1), (2, .int v2), (3, .int v3), (4, .int q.1)] [] (uS L q.2) o) (fun r => Ev (d + 1) 305 144 [(0, .ref 294), (1, .int v1), (2, .int v2), (3, .int v3)] [] (uS L r) o) x → Ev (d + 1) 305 52 [(0, .ref 294), (1, .int v1), (2, .int v2), (3, .int v3), (4, .int q.1)] [] (uS L q.2) o := by
  intro q x h o ho
  unfold gM_asksRests_h52 at h
  refine Ev.seg D_305 [(.iload 4, 2), (.aload_n 0, 1), (.iload_n 2, 1), (.iconst 2, 1)] (by decide +kernel) (j := 0) (pc' := 57) (lv' := [(0, .ref 294), (1, .int v1), (2, .int v2), (3, .int v3), (4, .int q.1)]) (st' := [.int (2 : Int32), .int v2, .ref 294, .int q.1]) rfl ?_
  obtain ⟨p1, e1, h⟩ := bd h
  refine Ev.callv D_305 E_207 (by decide +kernel) C_10_102 294 [.int v2, .int (2 : Int32)] (r := [.int q.1]) rfl (gd_o k_294 (by decide)) rfl (Nat.le_of_ble_eq_true rfl) (Nat.le_of_ble_eq_true rfl) (gM_of_ok (by omega)  e1) ?_
  refine Ev.icmp D_305 (c := .gt) (off := 84) (by decide +kernel) (t := 144) rfl (fun c2 => ?_) (fun c2 => ?_)
  · have c2 : p1 < q.1 := of_decide_eq_true c2
    rw [if_pos c2] at h
    cases h
    exact Ev.sub (lv' := [(0, .ref 294), (1, .int v1), (2, .int v2), (3, .int v3)]) (subL_cons rfl (subL_cons rfl (subL_cons rfl (subL_cons rfl subL_nil)))) ho
  · have c2 : ¬ p1 < q.1 := of_decide_eq_false c2
    rw [if_neg c2] at h
    refine Ev.seg D_305 [(.aload_n 0, 1)] (by decide +kernel) (j := 0) (pc' := 64) (lv' := [(0, .ref 294), (1, .int v1), (2, .int v2), (3, .int v3), (4, .int q.1)]) (st' := [.ref 294]) rfl ?_
    refine Ev.getR D_305 (by decide +kernel) F_10_40 T_10_17 (x := 303) (S_oR k_294 (by decide +kernel)) ?_
    refine Ev.seg D_305 [(.iload_n 1, 1), (.iload_n 3, 1)] (by decide +kernel) (j := 0) (pc' := 69) (lv' := [(0, .ref 294), (1, .int v1), (2, .int v2), (3, .int v3), (4, .int q.1)]) (st' := [.int v3, .int v1, .ref 303]) rfl ?_
    obtain ⟨s4, e4, h⟩ := bd h
    refine Ev.iast D_305 (by decide +kernel) (S_sI k_303 e4) ?_
    refine Ev.seg D_305 [(.aload_n 0, 1)] (by decide +kernel) (j := 0) (pc' := 71) (lv' := [(0, .ref 294), (1, .int v1), (2, .int v2), (3, .int v3), (4, .int q.1)]) (st' := [.ref 294]) rfl ?_
    refine Ev.getR D_305 (by decide +kernel) F_10_40 T_10_17 (x := 303) (S_oR k_294 (by decide +kernel)) ?_
    refine Ev.seg D_305 [(.iload_n 2, 1), (.iload 4, 2)] (by decide +kernel) (j := 0) (pc' := 77) (lv' := [(0, .ref 294), (1, .int v1), (2, .int v2), (3, .int v3), (4, .int q.1)]) (st' := [.int q.1, .int v2, .ref 303]) rfl ?_
    obtain ⟨s6, e6, h⟩ := bd h
    refine Ev.iast D_305 (by decide +kernel) (S_sI k_303 e6) ?_
    refine Ev.seg D_305 [(.aload_n 0, 1)] (by decide +kernel) (j := 0) (pc' := 79) (lv' := [(0, .ref 294), (1, .int v1), (2, .int v2), (3, .int v3), (4, .int q.1)]) (st' := [.ref 294]) rfl ?_
    obtain ⟨p7, e7, h⟩ := bd h
    refine Ev.callv D_305 E_215 (by decide +kernel) C_10_266 294 [] (r := []) rfl (gd_o k_294 (by decide)) rfl (Nat.le_of_ble_eq_true rfl) (Nat.le_of_ble_eq_true rfl) (gM_goAll_ok (by omega)  e7) ?_
    refine Ev.seg D_305 [(.aload_n 0, 1)] (by decide +kernel) (j := 0) (pc' := 83) (lv' := [(0, .ref 294), (1, .int v1), (2, .int v2), (3, .int v3), (4, .int q.1)]) (st' := [.ref 294]) rfl ?_
    refine Ev.getR D_305 (by decide +kernel) F_10_67 T_10_37 (x := 312) (S_oR k_294 (by decide +kernel)) ?_
    refine Ev.seg D_305 [(.iconst 2, 1), (.iconst 5, 1), (.iload_n 3, 1), (.imul, 1), (.iload 4, 2), (.iadd, 1), (.imul, 1), (.aload_n 0, 1), (.aload_n 0, 1), (.iload_n 1, 1), (.iconst 3, 1)] (by decide +kernel) (j := 0) (pc' := 98) (lv' := [(0, .ref 294), (1, .int v1), (2, .int v2), (3, .int v3), (4, .int q.1)]) (st' := [.int (3 : Int32), .int v1, .ref 294, .ref 294, .int ((2 : Int32) * (((5 : Int32) * v3) + q.1)), .ref 312]) rfl ?_
    obtain ⟨p9, e9, h⟩ := bd h
    refine Ev.callv D_305 E_207 (by decide +kernel) C_10_102 294 [.int v1, .int (3 : Int32)] (r := [.ref 294, .int ((2 : Int32) * (((5 : Int32) * v3) + q.1)), .ref 312]) rfl (gd_o k_294 (by decide)) rfl (Nat.le_of_ble_eq_true rfl) (Nat.le_of_ble_eq_true rfl) (gM_of_ok (by omega)  e9) ?_
    refine Ev.seg D_305 [(.aload_n 0, 1)] (by decide +kernel) (j := 0) (pc' := 102) (lv' := [(0, .ref 294), (1, .int v1), (2, .int v2), (3, .int v3), (4, .int q.1)]) (st' := [.ref 294, .int p9, .ref 294, .int ((2 : Int32) * (((5 : Int32) * v3) + q.1)), .ref 312]) rfl ?_
    obtain ⟨p10, e10, h⟩ := bd h
    refine Ev.callv D_305 E_216 (by decide +kernel) C_10_96 294 [] (r := [.int p9, .ref 294, .int ((2 : Int32) * (((5 : Int32) * v3) + q.1)), .ref 312]) rfl (gd_o k_294 (by decide)) rfl (Nat.le_of_ble_eq_true rfl) (Nat.le_of_ble_eq_true rfl) (gM_last_ok (by omega)  e10) ?_
    obtain ⟨p11, e11, h⟩ := bd h
    refine Ev.callv D_305 E_220 (by decide +kernel) C_10_240 294 [.int p9, .int p10] (r := [.int ((2 : Int32) * (((5 : Int32) * v3) + q.1)), .ref 312]) rfl (gd_o k_294 (by decide)) rfl (Nat.le_of_ble_eq_true rfl) (Nat.le_of_ble_eq_true rfl) (gM_placeOf_ok (by omega)  e11) ?_
    obtain ⟨s12, e12, h⟩ := bd h
    refine Ev.iast D_305 (by decide +kernel) (S_sI k_312 e12) ?_
    refine Ev.seg D_305 [(.aload_n 0, 1)] (by decide +kernel) (j := 0) (pc' := 110) (lv' := [(0, .ref 294), (1, .int v1), (2, .int v2), (3, .int v3), (4, .int q.1)]) (st' := [.ref 294]) rfl ?_
    refine Ev.getR D_305 (by decide +kernel) F_10_67 T_10_37 (x := 312) (S_oR k_294 (by decide +kernel)) ?_
    refine Ev.seg D_305 [(.iconst 2, 1), (.iconst 5, 1), (.iload_n 3, 1), (.imul, 1), (.iload 4, 2), (.iadd, 1), (.imul, 1), (.iconst 1, 1), (.iadd, 1), (.aload_n 0, 1), (.aload_n 0, 1), (.iload_n 2, 1), (.iconst 3, 1)] (by decide +kernel) (j := 0) (pc' := 127) (lv' := [(0, .ref 294), (1, .int v1), (2, .int v2), (3, .int v3), (4, .int q.1)]) (st' := [.int (3 : Int32), .int v2, .ref 294, .ref 294, .int (((2 : Int32) * (((5 : Int32) * v3) + q.1)) + (1 : Int32)), .ref 312]) rfl ?_
    obtain ⟨p14, e14, h⟩ := bd h
    refine Ev.callv D_305 E_207 (by decide +kernel) C_10_102 294 [.int v2, .int (3 : Int32)] (r := [.ref 294, .int (((2 : Int32) * (((5 : Int32) * v3) + q.1)) + (1 : Int32)), .ref 312]) rfl (gd_o k_294 (by decide)) rfl (Nat.le_of_ble_eq_true rfl) (Nat.le_of_ble_eq_true rfl) (gM_of_ok (by omega)  e14) ?_
    refine Ev.seg D_305 [(.aload_n 0, 1)] (by decide +kernel) (j := 0) (pc' := 131) (lv' := [(0, .ref 294), (1, .int v1), (2, .int v2), (3, .int v3), (4, .int q.1)]) (st' := [.ref 294, .int p14, .ref 294, .int (((2 : Int32) * (((5 : Int32) * v3) + q.1)) + (1 : Int32)), .ref 312]) rfl ?_
    obtain ⟨p15, e15, h⟩ := bd h
    refine Ev.callv D_305 E_216 (by decide +kernel) C_10_96 294 [] (r := [.int p14, .ref 294, .int (((2 : Int32) * (((5 : Int32) * v3) + q.1)) + (1 : Int32)), .ref 312]) rfl (gd_o k_294 (by decide)) rfl (Nat.le_of_ble_eq_true rfl) (Nat.le_of_ble_eq_true rfl) (gM_last_ok (by omega)  e15) ?_
    obtain ⟨p16, e16, h⟩ := bd h
    refine Ev.callv D_305 E_220 (by decide +kernel) C_10_240 294 [.int p14, .int p15] (r := [.int (((2 : Int32) * (((5 : Int32) * v3) + q.1)) + (1 : Int32)), .ref 312]) rfl (gd_o k_294 (by decide)) rfl (Nat.le_of_ble_eq_true rfl) (Nat.le_of_ble_eq_true rfl) (gM_placeOf_ok (by omega)  e16) ?_
    obtain ⟨s17, e17, h⟩ := bd h
    refine Ev.iast D_305 (by decide +kernel) (S_sI k_312 e17) ?_
    refine Ev.seg D_305 [(.iinc 4 1, 3), (.goto (-89), 3)] (by decide +kernel) (j := 0) (pc' := 52) (lv' := [(4, .int (q.1 + (1 : Int32))), (0, .ref 294), (1, .int v1), (2, .int v2), (3, .int v3)]) (st' := []) rfl ?_
    cases h
    exact Ev.sub (lv' := [(0, .ref 294), (1, .int v1), (2, .int v2), (3, .int v3), (4, .int (q.1 + (1 : Int32)))]) (subL_cons rfl (subL_cons rfl (subL_cons rfl (subL_cons rfl (subL_cons rfl subL_nil))))) ho
theorem gM_asksRests_h52_w {L d : Nat} (hd : 5 ≤ d + 1) {v1 : Int32} {v2 : Int32} {v3 : Int32} : ∀ (n : Nat) (q : Int32 × mT) (r : mT), wh n (gM_asksRests_h52 v1 v2 v3) q = some r → ∀ o, (fun r => Ev (d + 1) 305 144 [(0, .ref 294), (1, .int v1), (2, .int v2), (3, .int v3)] [] (uS L r) o) r → Ev (d + 1) 305 52 [(0, .ref 294), (1, .int v1), (2, .int v2), (3, .int v3), (4, .int q.1)] [] (uS L q.2) o :=
  fun n q r h o hc => wh_ev (E := fun (q : Int32 × mT) o => Ev (d + 1) 305 52 [(0, .ref 294), (1, .int v1), (2, .int v2), (3, .int v3), (4, .int q.1)] [] (uS L q.2) o) (C := fun (r : mT) o => (fun r => Ev (d + 1) 305 144 [(0, .ref 294), (1, .int v1), (2, .int v2), (3, .int v3)] [] (uS L r) o) r) (gM_asksRests_h52_ok hd  ) n q r h o hc
def gM_asksRests_h34 (v1 : Int32) (v2 : Int32) (q : Int32 × mT) : Option ((Int32 × mT) ⊕ (mT)) :=
  (gM_of v1 (2 : Int32) q.2).bind fun p1 =>
  if p1 < q.1 then
    some (.inr q.2)
  else
    (gM_of v2 (1 : Int32) q.2).bind fun p3 =>
    (wh FU (gM_asksRests_h52 v1 v2 q.1) (p3, q.2)).bind fun x18 =>
    some (.inl (q.1 + (1 : Int32), x18))
set_option maxRecDepth 8000 in
theorem gM_asksRests_h34_ok {L d : Nat} (hd : 5 ≤ d + 1) {v1 : Int32} {v2 : Int32} : ∀ (q : Int32 × mT) (x : (Int32 × mT) ⊕ (mT)), gM_asksRests_h34 v1 v2 q = some x → ∀ o, sK (fun q => Ev (d + 1) 305 34 [(0, .ref 294), (1, .int v1), (2, .int v2), (3, .int q.1)] [] (uS L q.2) o) (fun r => Ev (d + 1) 305 150 [(0, .ref 294), (1, .int v1), (2, .int v2)] [] (uS L r) o) x → Ev (d + 1) 305 34 [(0, .ref 294), (1, .int v1), (2, .int v2), (3, .int q.1)] [] (uS L q.2) o := by
  intro q x h o ho
  unfold gM_asksRests_h34 at h
  refine Ev.seg D_305 [(.iload_n 3, 1), (.aload_n 0, 1), (.iload_n 1, 1), (.iconst 2, 1)] (by decide +kernel) (j := 0) (pc' := 38) (lv' := [(0, .ref 294), (1, .int v1), (2, .int v2), (3, .int q.1)]) (st' := [.int (2 : Int32), .int v1, .ref 294, .int q.1]) rfl ?_
  obtain ⟨p1, e1, h⟩ := bd h
  refine Ev.callv D_305 E_207 (by decide +kernel) C_10_102 294 [.int v1, .int (2 : Int32)] (r := [.int q.1]) rfl (gd_o k_294 (by decide)) rfl (Nat.le_of_ble_eq_true rfl) (Nat.le_of_ble_eq_true rfl) (gM_of_ok (by omega)  e1) ?_
  refine Ev.icmp D_305 (c := .gt) (off := 109) (by decide +kernel) (t := 150) rfl (fun c2 => ?_) (fun c2 => ?_)
  · have c2 : p1 < q.1 := of_decide_eq_true c2
    rw [if_pos c2] at h
    cases h
    exact Ev.sub (lv' := [(0, .ref 294), (1, .int v1), (2, .int v2)]) (subL_cons rfl (subL_cons rfl (subL_cons rfl subL_nil))) ho
  · have c2 : ¬ p1 < q.1 := of_decide_eq_false c2
    rw [if_neg c2] at h
    refine Ev.seg D_305 [(.aload_n 0, 1), (.iload_n 2, 1), (.iconst 1, 1)] (by decide +kernel) (j := 0) (pc' := 47) (lv' := [(0, .ref 294), (1, .int v1), (2, .int v2), (3, .int q.1)]) (st' := [.int (1 : Int32), .int v2, .ref 294]) rfl ?_
    obtain ⟨p3, e3, h⟩ := bd h
    refine Ev.callv D_305 E_207 (by decide +kernel) C_10_102 294 [.int v2, .int (1 : Int32)] (r := []) rfl (gd_o k_294 (by decide)) rfl (Nat.le_of_ble_eq_true rfl) (Nat.le_of_ble_eq_true rfl) (gM_of_ok (by omega)  e3) ?_
    refine Ev.seg D_305 [(.istore 4, 2)] (by decide +kernel) (j := 0) (pc' := 52) (lv' := [(4, .int p3), (0, .ref 294), (1, .int v1), (2, .int v2), (3, .int q.1)]) (st' := []) rfl ?_
    obtain ⟨x18, w18, h⟩ := bd h
    have j18 : Ev (d + 1) 305 144 [(0, .ref 294), (1, .int v1), (2, .int v2), (3, .int q.1)] [] (uS L x18) o := by
      clear w18
      refine Ev.seg D_305 [(.iinc 3 1, 3), (.goto (-113), 3)] (by decide +kernel) (j := 0) (pc' := 34) (lv' := [(3, .int (q.1 + (1 : Int32))), (0, .ref 294), (1, .int v1), (2, .int v2)]) (st' := []) rfl ?_
      cases h
      exact Ev.sub (lv' := [(0, .ref 294), (1, .int v1), (2, .int v2), (3, .int (q.1 + (1 : Int32)))]) (subL_cons rfl (subL_cons rfl (subL_cons rfl (subL_cons rfl subL_nil)))) ho
    exact Ev.sub (lv' := [(0, .ref 294), (1, .int v1), (2, .int v2), (3, .int q.1), (4, .int p3)]) (subL_cons rfl (subL_cons rfl (subL_cons rfl (subL_cons rfl (subL_cons rfl subL_nil))))) (gM_asksRests_h52_w hd   _ _ _ w18 _ j18)
theorem gM_asksRests_h34_w {L d : Nat} (hd : 5 ≤ d + 1) {v1 : Int32} {v2 : Int32} : ∀ (n : Nat) (q : Int32 × mT) (r : mT), wh n (gM_asksRests_h34 v1 v2) q = some r → ∀ o, (fun r => Ev (d + 1) 305 150 [(0, .ref 294), (1, .int v1), (2, .int v2)] [] (uS L r) o) r → Ev (d + 1) 305 34 [(0, .ref 294), (1, .int v1), (2, .int v2), (3, .int q.1)] [] (uS L q.2) o :=
  fun n q r h o hc => wh_ev (E := fun (q : Int32 × mT) o => Ev (d + 1) 305 34 [(0, .ref 294), (1, .int v1), (2, .int v2), (3, .int q.1)] [] (uS L q.2) o) (C := fun (r : mT) o => (fun r => Ev (d + 1) 305 150 [(0, .ref 294), (1, .int v1), (2, .int v2)] [] (uS L r) o) r) (gM_asksRests_h34_ok hd  ) n q r h o hc
def gM_asksRests_h185 (v1 : Int32) (v2 : Int32) (v3 : Int32) (q : Int32 × mT) : Option ((Int32 × mT) ⊕ (mT)) :=
  (gM_of v2 (2 : Int32) q.2).bind fun p1 =>
  if p1 < q.1 then
    some (.inr q.2)
  else
    (gM_isRest v1 v2 v3 q.1 q.2).bind fun p3 =>
    (
      if p3 = 0 then
        some (q.2)
      else
        (
          if (q.2.1 294 38) = 0 then
            some (((10 : Int32) * v3) + q.1)
          else
            some (q.2.1 294 39) : Option (Int32)).bind fun x6 =>
        some ((stI (stI q.2 294 39 x6) 294 38 (((stI q.2 294 39 x6).1 294 38) + (1 : Int32)))) : Option (mT)).bind fun x4 =>
    some (.inl (q.1 + (1 : Int32), x4))
set_option maxRecDepth 8000 in
theorem gM_asksRests_h185_ok {L d : Nat} (hd : 5 ≤ d + 1) {v1 : Int32} {v2 : Int32} {v3 : Int32} : ∀ (q : Int32 × mT) (x : (Int32 × mT) ⊕ (mT)), gM_asksRests_h185 v1 v2 v3 q = some x → ∀ o, sK (fun q => Ev (d + 1) 305 185 [(0, .ref 294), (1, .int v1), (2, .int v2), (3, .int v3), (4, .int q.1)] [] (uS L q.2) o) (fun r => Ev (d + 1) 305 252 [(0, .ref 294), (1, .int v1), (2, .int v2), (3, .int v3)] [] (uS L r) o) x → Ev (d + 1) 305 185 [(0, .ref 294), (1, .int v1), (2, .int v2), (3, .int v3), (4, .int q.1)] [] (uS L q.2) o := by
  intro q x h o ho
  unfold gM_asksRests_h185 at h
  refine Ev.seg D_305 [(.iload 4, 2), (.aload_n 0, 1), (.iload_n 2, 1), (.iconst 2, 1)] (by decide +kernel) (j := 0) (pc' := 190) (lv' := [(0, .ref 294), (1, .int v1), (2, .int v2), (3, .int v3), (4, .int q.1)]) (st' := [.int (2 : Int32), .int v2, .ref 294, .int q.1]) rfl ?_
  obtain ⟨p1, e1, h⟩ := bd h
  refine Ev.callv D_305 E_207 (by decide +kernel) C_10_102 294 [.int v2, .int (2 : Int32)] (r := [.int q.1]) rfl (gd_o k_294 (by decide)) rfl (Nat.le_of_ble_eq_true rfl) (Nat.le_of_ble_eq_true rfl) (gM_of_ok (by omega)  e1) ?_
  refine Ev.icmp D_305 (c := .gt) (off := 59) (by decide +kernel) (t := 252) rfl (fun c2 => ?_) (fun c2 => ?_)
  · have c2 : p1 < q.1 := of_decide_eq_true c2
    rw [if_pos c2] at h
    cases h
    exact Ev.sub (lv' := [(0, .ref 294), (1, .int v1), (2, .int v2), (3, .int v3)]) (subL_cons rfl (subL_cons rfl (subL_cons rfl (subL_cons rfl subL_nil)))) ho
  · have c2 : ¬ p1 < q.1 := of_decide_eq_false c2
    rw [if_neg c2] at h
    refine Ev.seg D_305 [(.aload_n 0, 1), (.iload_n 1, 1), (.iload_n 2, 1), (.iload_n 3, 1), (.iload 4, 2)] (by decide +kernel) (j := 0) (pc' := 202) (lv' := [(0, .ref 294), (1, .int v1), (2, .int v2), (3, .int v3), (4, .int q.1)]) (st' := [.int q.1, .int v3, .int v2, .int v1, .ref 294]) rfl ?_
    obtain ⟨p3, e3, h⟩ := bd h
    refine Ev.callv D_305 E_306 (by decide +kernel) C_10_411 294 [.int v1, .int v2, .int v3, .int q.1] (r := []) rfl (gd_o k_294 (by decide)) rfl (Nat.le_of_ble_eq_true rfl) (Nat.le_of_ble_eq_true rfl) (gM_isRest_ok (by omega)  e3) ?_
    obtain ⟨x4, g4, h⟩ := bd h
    have j4 : Ev (d + 1) 305 246 [(0, .ref 294), (1, .int v1), (2, .int v2), (3, .int v3), (4, .int q.1)] [] (uS L x4) o := by
      clear g4
      refine Ev.seg D_305 [(.iinc 4 1, 3), (.goto (-64), 3)] (by decide +kernel) (j := 0) (pc' := 185) (lv' := [(4, .int (q.1 + (1 : Int32))), (0, .ref 294), (1, .int v1), (2, .int v2), (3, .int v3)]) (st' := []) rfl ?_
      cases h
      exact Ev.sub (lv' := [(0, .ref 294), (1, .int v1), (2, .int v2), (3, .int v3), (4, .int (q.1 + (1 : Int32)))]) (subL_cons rfl (subL_cons rfl (subL_cons rfl (subL_cons rfl (subL_cons rfl subL_nil))))) ho
    clear h
    refine Ev.if_ D_305 (c := .ne) (off := 6) (by decide +kernel) (t := 211) rfl (fun c4 => ?_) (fun c4 => ?_)
    · have c4 : ¬ p3 = 0 := of_decide_eq_true c4
      rw [if_neg c4] at g4
      refine Ev.seg D_305 [(.aload_n 0, 1), (.aload_n 0, 1)] (by decide +kernel) (j := 0) (pc' := 213) (lv' := [(0, .ref 294), (1, .int v1), (2, .int v2), (3, .int v3), (4, .int q.1)]) (st' := [.ref 294, .ref 294]) rfl ?_
      refine Ev.getI D_305 (by decide +kernel) F_10_405 (Or.inl T_10_38) (S_oI k_294) ?_
      obtain ⟨x6, g6, g4⟩ := bd g4
      have j6 : Ev (d + 1) 305 233 [(0, .ref 294), (1, .int v1), (2, .int v2), (3, .int v3), (4, .int q.1)] [.int x6, .ref 294] (uS L q.2) o := by
        clear g6
        refine Ev.putI D_305 (by decide +kernel) F_10_408 N_10_39 T_10_39 (S_pI k_294) ?_
        refine Ev.seg D_305 [(.aload_n 0, 1), (.dup, 1)] (by decide +kernel) (j := 0) (pc' := 238) (lv' := [(0, .ref 294), (1, .int v1), (2, .int v2), (3, .int v3), (4, .int q.1)]) (st' := [.ref 294, .ref 294]) rfl ?_
        refine Ev.getI D_305 (by decide +kernel) F_10_405 (Or.inl T_10_38) (S_oI k_294) ?_
        refine Ev.seg D_305 [(.iconst 1, 1), (.iadd, 1)] (by decide +kernel) (j := 0) (pc' := 243) (lv' := [(0, .ref 294), (1, .int v1), (2, .int v2), (3, .int v3), (4, .int q.1)]) (st' := [.int (((stI q.2 294 39 x6).1 294 38) + (1 : Int32)), .ref 294]) rfl ?_
        refine Ev.putI D_305 (by decide +kernel) F_10_405 N_10_38 T_10_38 (S_pI k_294) ?_
        cases g4
        exact Ev.sub2 j4 (subL_cons rfl (subL_cons rfl (subL_cons rfl (subL_cons rfl (subL_cons rfl subL_nil)))))
      clear g4
      refine Ev.if_ D_305 (c := .ne) (off := 13) (by decide +kernel) (t := 229) rfl (fun c6 => ?_) (fun c6 => ?_)
      · have c6 : ¬ (q.2.1 294 38) = 0 := of_decide_eq_true c6
        rw [if_neg c6] at g6
        refine Ev.seg D_305 [(.aload_n 0, 1)] (by decide +kernel) (j := 0) (pc' := 230) (lv' := [(0, .ref 294), (1, .int v1), (2, .int v2), (3, .int v3), (4, .int q.1)]) (st' := [.ref 294, .ref 294]) rfl ?_
        refine Ev.getI D_305 (by decide +kernel) F_10_408 (Or.inl T_10_39) (S_oI k_294) ?_
        cases g6
        exact Ev.sub2 j6 (subL_cons rfl (subL_cons rfl (subL_cons rfl (subL_cons rfl (subL_cons rfl subL_nil)))))
      · have c6 : (q.2.1 294 38) = 0 := Decidable.of_not_not (of_decide_eq_false c6)
        rw [if_pos c6] at g6
        refine Ev.seg D_305 [(.bipush 10, 2), (.iload_n 3, 1), (.imul, 1), (.iload 4, 2), (.iadd, 1), (.goto 7, 3)] (by decide +kernel) (j := 0) (pc' := 233) (lv' := [(0, .ref 294), (1, .int v1), (2, .int v2), (3, .int v3), (4, .int q.1)]) (st' := [.int (((10 : Int32) * v3) + q.1), .ref 294]) rfl ?_
        cases g6
        exact Ev.sub2 j6 (subL_cons rfl (subL_cons rfl (subL_cons rfl (subL_cons rfl (subL_cons rfl subL_nil)))))
    · have c4 : p3 = 0 := Decidable.of_not_not (of_decide_eq_false c4)
      rw [if_pos c4] at g4
      refine Ev.seg D_305 [(.goto 38, 3)] (by decide +kernel) (j := 0) (pc' := 246) (lv' := [(0, .ref 294), (1, .int v1), (2, .int v2), (3, .int v3), (4, .int q.1)]) (st' := []) rfl ?_
      cases g4
      exact Ev.sub2 j4 (subL_cons rfl (subL_cons rfl (subL_cons rfl (subL_cons rfl (subL_cons rfl subL_nil)))))
theorem gM_asksRests_h185_w {L d : Nat} (hd : 5 ≤ d + 1) {v1 : Int32} {v2 : Int32} {v3 : Int32} : ∀ (n : Nat) (q : Int32 × mT) (r : mT), wh n (gM_asksRests_h185 v1 v2 v3) q = some r → ∀ o, (fun r => Ev (d + 1) 305 252 [(0, .ref 294), (1, .int v1), (2, .int v2), (3, .int v3)] [] (uS L r) o) r → Ev (d + 1) 305 185 [(0, .ref 294), (1, .int v1), (2, .int v2), (3, .int v3), (4, .int q.1)] [] (uS L q.2) o :=
  fun n q r h o hc => wh_ev (E := fun (q : Int32 × mT) o => Ev (d + 1) 305 185 [(0, .ref 294), (1, .int v1), (2, .int v2), (3, .int v3), (4, .int q.1)] [] (uS L q.2) o) (C := fun (r : mT) o => (fun r => Ev (d + 1) 305 252 [(0, .ref 294), (1, .int v1), (2, .int v2), (3, .int v3)] [] (uS L r) o) r) (gM_asksRests_h185_ok hd  ) n q r h o hc
def gM_asksRests_h167 (v1 : Int32) (v2 : Int32) (q : Int32 × mT) : Option ((Int32 × mT) ⊕ (mT)) :=
  (gM_of v1 (2 : Int32) q.2).bind fun p1 =>
  if p1 < q.1 then
    some (.inr q.2)
  else
    (gM_of v2 (1 : Int32) q.2).bind fun p3 =>
    (wh FU (gM_asksRests_h185 v1 v2 q.1) (p3, q.2)).bind fun x11 =>
    some (.inl (q.1 + (1 : Int32), x11))
set_option maxRecDepth 8000 in
theorem gM_asksRests_h167_ok {L d : Nat} (hd : 5 ≤ d + 1) {v1 : Int32} {v2 : Int32} : ∀ (q : Int32 × mT) (x : (Int32 × mT) ⊕ (mT)), gM_asksRests_h167 v1 v2 q = some x → ∀ o, sK (fun q => Ev (d + 1) 305 167 [(0, .ref 294), (1, .int v1), (2, .int v2), (3, .int q.1)] [] (uS L q.2) o) (fun r => Ev (d + 1) 305 258 [] [] (uS L r) o) x → Ev (d + 1) 305 167 [(0, .ref 294), (1, .int v1), (2, .int v2), (3, .int q.1)] [] (uS L q.2) o := by
  intro q x h o ho
  unfold gM_asksRests_h167 at h
  refine Ev.seg D_305 [(.iload_n 3, 1), (.aload_n 0, 1), (.iload_n 1, 1), (.iconst 2, 1)] (by decide +kernel) (j := 0) (pc' := 171) (lv' := [(0, .ref 294), (1, .int v1), (2, .int v2), (3, .int q.1)]) (st' := [.int (2 : Int32), .int v1, .ref 294, .int q.1]) rfl ?_
  obtain ⟨p1, e1, h⟩ := bd h
  refine Ev.callv D_305 E_207 (by decide +kernel) C_10_102 294 [.int v1, .int (2 : Int32)] (r := [.int q.1]) rfl (gd_o k_294 (by decide)) rfl (Nat.le_of_ble_eq_true rfl) (Nat.le_of_ble_eq_true rfl) (gM_of_ok (by omega)  e1) ?_
  refine Ev.icmp D_305 (c := .gt) (off := 84) (by decide +kernel) (t := 258) rfl (fun c2 => ?_) (fun c2 => ?_)
  · have c2 : p1 < q.1 := of_decide_eq_true c2
    rw [if_pos c2] at h
    cases h
    exact Ev.sub (lv' := []) subL_nil ho
  · have c2 : ¬ p1 < q.1 := of_decide_eq_false c2
    rw [if_neg c2] at h
    refine Ev.seg D_305 [(.aload_n 0, 1), (.iload_n 2, 1), (.iconst 1, 1)] (by decide +kernel) (j := 0) (pc' := 180) (lv' := [(0, .ref 294), (1, .int v1), (2, .int v2), (3, .int q.1)]) (st' := [.int (1 : Int32), .int v2, .ref 294]) rfl ?_
    obtain ⟨p3, e3, h⟩ := bd h
    refine Ev.callv D_305 E_207 (by decide +kernel) C_10_102 294 [.int v2, .int (1 : Int32)] (r := []) rfl (gd_o k_294 (by decide)) rfl (Nat.le_of_ble_eq_true rfl) (Nat.le_of_ble_eq_true rfl) (gM_of_ok (by omega)  e3) ?_
    refine Ev.seg D_305 [(.istore 4, 2)] (by decide +kernel) (j := 0) (pc' := 185) (lv' := [(4, .int p3), (0, .ref 294), (1, .int v1), (2, .int v2), (3, .int q.1)]) (st' := []) rfl ?_
    obtain ⟨x11, w11, h⟩ := bd h
    have j11 : Ev (d + 1) 305 252 [(0, .ref 294), (1, .int v1), (2, .int v2), (3, .int q.1)] [] (uS L x11) o := by
      clear w11
      refine Ev.seg D_305 [(.iinc 3 1, 3), (.goto (-88), 3)] (by decide +kernel) (j := 0) (pc' := 167) (lv' := [(3, .int (q.1 + (1 : Int32))), (0, .ref 294), (1, .int v1), (2, .int v2)]) (st' := []) rfl ?_
      cases h
      exact Ev.sub (lv' := [(0, .ref 294), (1, .int v1), (2, .int v2), (3, .int (q.1 + (1 : Int32)))]) (subL_cons rfl (subL_cons rfl (subL_cons rfl (subL_cons rfl subL_nil)))) ho
    exact Ev.sub (lv' := [(0, .ref 294), (1, .int v1), (2, .int v2), (3, .int q.1), (4, .int p3)]) (subL_cons rfl (subL_cons rfl (subL_cons rfl (subL_cons rfl (subL_cons rfl subL_nil))))) (gM_asksRests_h185_w hd   _ _ _ w11 _ j11)
theorem gM_asksRests_h167_w {L d : Nat} (hd : 5 ≤ d + 1) {v1 : Int32} {v2 : Int32} : ∀ (n : Nat) (q : Int32 × mT) (r : mT), wh n (gM_asksRests_h167 v1 v2) q = some r → ∀ o, (fun r => Ev (d + 1) 305 258 [] [] (uS L r) o) r → Ev (d + 1) 305 167 [(0, .ref 294), (1, .int v1), (2, .int v2), (3, .int q.1)] [] (uS L q.2) o :=
  fun n q r h o hc => wh_ev (E := fun (q : Int32 × mT) o => Ev (d + 1) 305 167 [(0, .ref 294), (1, .int v1), (2, .int v2), (3, .int q.1)] [] (uS L q.2) o) (C := fun (r : mT) o => (fun r => Ev (d + 1) 305 258 [] [] (uS L r) o) r) (gM_asksRests_h167_ok hd  ) n q r h o hc
def gM_asksRests (v1 : Int32) (v2 : Int32) (s : mT) : Option (Int32 × mT) :=
  (gM_isWatcher v1 s).bind fun p1 =>
  if p1 = 0 then
    some (((0 : Int32), s))
  else
    (gM_isWatcher v2 s).bind fun p4 =>
    if p4 = 0 then
      some (((0 : Int32), s))
    else
      if v1 = v2 then
        some (((0 : Int32), s))
      else
        (gM_asItIs s).bind fun p8 =>
        (gM_of v1 (1 : Int32) p8).bind fun p9 =>
        (wh FU (gM_asksRests_h34 v1 v2) (p9, p8)).bind fun x19 =>
        (gM_of v1 (1 : Int32) (stI (stI x19 294 38 (0 : Int32)) 294 39 (-1 : Int32))).bind fun p22 =>
        (wh FU (gM_asksRests_h167 v1 v2) (p22, (stI (stI x19 294 38 (0 : Int32)) 294 39 (-1 : Int32)))).bind fun x23 =>
        some (((1 : Int32), x23))
set_option maxRecDepth 8000 in
theorem gM_asksRests_ok {L d : Nat} (hd : 5 ≤ d) {v1 : Int32} {v2 : Int32} {s : mT} {p : Int32 × mT} (h : gM_asksRests v1 v2 s = some p) : Ev d 305 0 [(0, .ref 294), (1, .int v1), (2, .int v2)] [] (uS L s) (some (.int p.1), uS L p.2) := by
  obtain ⟨d, rfl⟩ : ∃ e, d = e + 1 := ⟨d - 1, by omega⟩
  obtain ⟨o, ho⟩ : ∃ o : Option Value × mS, o = (some (.int p.1), uS L p.2) := ⟨_, rfl⟩
  rw [← ho]
  unfold gM_asksRests at h
  refine Ev.seg D_305 [(.aload_n 0, 1), (.iload_n 1, 1)] (by decide +kernel) (j := 0) (pc' := 2) (lv' := [(0, .ref 294), (1, .int v1), (2, .int v2)]) (st' := [.int v1, .ref 294]) rfl ?_
  obtain ⟨p1, e1, h⟩ := bd h
  refine Ev.callv D_305 E_206 (by decide +kernel) C_10_224 294 [.int v1] (r := []) rfl (gd_o k_294 (by decide)) rfl (Nat.le_of_ble_eq_true rfl) (Nat.le_of_ble_eq_true rfl) (gM_isWatcher_ok (by omega)  e1) ?_
  refine Ev.if_ D_305 (c := .eq) (off := 16) (by decide +kernel) (t := 21) rfl (fun c2 => ?_) (fun c2 => ?_)
  · have c2 : p1 = 0 := of_decide_eq_true c2
    rw [if_pos c2] at h
    refine Ev.seg D_305 [(.iconst 0, 1)] (by decide +kernel) (j := 0) (pc' := 22) (lv' := [(0, .ref 294), (1, .int v1), (2, .int v2)]) (st' := [.int (0 : Int32)]) rfl ?_
    cases h
    obtain rfl : o = _ := ho
    exact Ev.zret D_305 (by decide) (by decide +kernel)
  · have c2 : ¬ p1 = 0 := of_decide_eq_false c2
    rw [if_neg c2] at h
    refine Ev.seg D_305 [(.aload_n 0, 1), (.iload_n 2, 1)] (by decide +kernel) (j := 0) (pc' := 10) (lv' := [(0, .ref 294), (1, .int v1), (2, .int v2)]) (st' := [.int v2, .ref 294]) rfl ?_
    obtain ⟨p4, e4, h⟩ := bd h
    refine Ev.callv D_305 E_206 (by decide +kernel) C_10_224 294 [.int v2] (r := []) rfl (gd_o k_294 (by decide)) rfl (Nat.le_of_ble_eq_true rfl) (Nat.le_of_ble_eq_true rfl) (gM_isWatcher_ok (by omega)  e4) ?_
    refine Ev.if_ D_305 (c := .eq) (off := 8) (by decide +kernel) (t := 21) rfl (fun c5 => ?_) (fun c5 => ?_)
    · have c5 : p4 = 0 := of_decide_eq_true c5
      rw [if_pos c5] at h
      refine Ev.seg D_305 [(.iconst 0, 1)] (by decide +kernel) (j := 0) (pc' := 22) (lv' := [(0, .ref 294), (1, .int v1), (2, .int v2)]) (st' := [.int (0 : Int32)]) rfl ?_
      cases h
      obtain rfl : o = _ := ho
      exact Ev.zret D_305 (by decide) (by decide +kernel)
    · have c5 : ¬ p4 = 0 := of_decide_eq_false c5
      rw [if_neg c5] at h
      refine Ev.seg D_305 [(.iload_n 1, 1), (.iload_n 2, 1)] (by decide +kernel) (j := 0) (pc' := 18) (lv' := [(0, .ref 294), (1, .int v1), (2, .int v2)]) (st' := [.int v2, .int v1]) rfl ?_
      refine Ev.icmp D_305 (c := .ne) (off := 5) (by decide +kernel) (t := 23) rfl (fun c7 => ?_) (fun c7 => ?_)
      · have c7 : ¬ v1 = v2 := of_decide_eq_true c7
        rw [if_neg c7] at h
        refine Ev.seg D_305 [(.aload_n 0, 1)] (by decide +kernel) (j := 0) (pc' := 24) (lv' := [(0, .ref 294), (1, .int v1), (2, .int v2)]) (st' := [.ref 294]) rfl ?_
        obtain ⟨p8, e8, h⟩ := bd h
        refine Ev.callv D_305 E_212 (by decide +kernel) C_10_263 294 [] (r := []) rfl (gd_o k_294 (by decide)) rfl (Nat.le_of_ble_eq_true rfl) (Nat.le_of_ble_eq_true rfl) (gM_asItIs_ok (by omega)  e8) ?_
        refine Ev.seg D_305 [(.aload_n 0, 1), (.iload_n 1, 1), (.iconst 1, 1)] (by decide +kernel) (j := 0) (pc' := 30) (lv' := [(0, .ref 294), (1, .int v1), (2, .int v2)]) (st' := [.int (1 : Int32), .int v1, .ref 294]) rfl ?_
        obtain ⟨p9, e9, h⟩ := bd h
        refine Ev.callv D_305 E_207 (by decide +kernel) C_10_102 294 [.int v1, .int (1 : Int32)] (r := []) rfl (gd_o k_294 (by decide)) rfl (Nat.le_of_ble_eq_true rfl) (Nat.le_of_ble_eq_true rfl) (gM_of_ok (by omega)  e9) ?_
        refine Ev.seg D_305 [(.istore_n 3, 1)] (by decide +kernel) (j := 0) (pc' := 34) (lv' := [(3, .int p9), (0, .ref 294), (1, .int v1), (2, .int v2)]) (st' := []) rfl ?_
        obtain ⟨x19, w19, h⟩ := bd h
        have j19 : Ev (d + 1) 305 150 [(0, .ref 294), (1, .int v1), (2, .int v2)] [] (uS L x19) o := by
          clear w19
          refine Ev.seg D_305 [(.aload_n 0, 1), (.iconst 0, 1)] (by decide +kernel) (j := 0) (pc' := 152) (lv' := [(0, .ref 294), (1, .int v1), (2, .int v2)]) (st' := [.int (0 : Int32), .ref 294]) rfl ?_
          refine Ev.putI D_305 (by decide +kernel) F_10_405 N_10_38 T_10_38 (S_pI k_294) ?_
          refine Ev.seg D_305 [(.aload_n 0, 1), (.iconst (-1), 1)] (by decide +kernel) (j := 0) (pc' := 157) (lv' := [(0, .ref 294), (1, .int v1), (2, .int v2)]) (st' := [.int (-1 : Int32), .ref 294]) rfl ?_
          refine Ev.putI D_305 (by decide +kernel) F_10_408 N_10_39 T_10_39 (S_pI k_294) ?_
          refine Ev.seg D_305 [(.aload_n 0, 1), (.iload_n 1, 1), (.iconst 1, 1)] (by decide +kernel) (j := 0) (pc' := 163) (lv' := [(0, .ref 294), (1, .int v1), (2, .int v2)]) (st' := [.int (1 : Int32), .int v1, .ref 294]) rfl ?_
          obtain ⟨p22, e22, h⟩ := bd h
          refine Ev.callv D_305 E_207 (by decide +kernel) C_10_102 294 [.int v1, .int (1 : Int32)] (r := []) rfl (gd_o k_294 (by decide)) rfl (Nat.le_of_ble_eq_true rfl) (Nat.le_of_ble_eq_true rfl) (gM_of_ok (by omega)  e22) ?_
          refine Ev.seg D_305 [(.istore_n 3, 1)] (by decide +kernel) (j := 0) (pc' := 167) (lv' := [(3, .int p22), (0, .ref 294), (1, .int v1), (2, .int v2)]) (st' := []) rfl ?_
          obtain ⟨x23, w23, h⟩ := bd h
          have j23 : Ev (d + 1) 305 258 [] [] (uS L x23) o := by
            clear w23
            refine Ev.seg D_305 [(.iconst 1, 1)] (by decide +kernel) (j := 0) (pc' := 259) (lv' := []) (st' := [.int (1 : Int32)]) rfl ?_
            cases h
            obtain rfl : o = _ := ho
            exact Ev.zret D_305 (by decide) (by decide +kernel)
          exact Ev.sub (lv' := [(0, .ref 294), (1, .int v1), (2, .int v2), (3, .int p22)]) (subL_cons rfl (subL_cons rfl (subL_cons rfl (subL_cons rfl subL_nil)))) (gM_asksRests_h167_w hd   _ _ _ w23 _ j23)
        exact Ev.sub (lv' := [(0, .ref 294), (1, .int v1), (2, .int v2), (3, .int p9)]) (subL_cons rfl (subL_cons rfl (subL_cons rfl (subL_cons rfl subL_nil)))) (gM_asksRests_h34_w hd   _ _ _ w19 _ j19)
      · have c7 : v1 = v2 := Decidable.of_not_not (of_decide_eq_false c7)
        rw [if_pos c7] at h
        refine Ev.seg D_305 [(.iconst 0, 1)] (by decide +kernel) (j := 0) (pc' := 22) (lv' := [(0, .ref 294), (1, .int v1), (2, .int v2)]) (st' := [.int (0 : Int32)]) rfl ?_
        cases h
        obtain rfl : o = _ := ho
        exact Ev.zret D_305 (by decide) (by decide +kernel)
/- PennantLawnModel rests: 304 -/
def gM_rests (v1 : Int32) (v2 : Int32) (s : mT) : Option (Int32 × mT) :=
  (gM_asksRests v1 v2 s).bind fun p1 =>
  (
    if p1.1 = 0 then
      some ((-2 : Int32))
    else
      some (p1.2.1 294 38) : Option (Int32)).bind fun x2 =>
  some ((x2, p1.2))
set_option maxRecDepth 8000 in
theorem gM_rests_ok {L d : Nat} (hd : 6 ≤ d) {v1 : Int32} {v2 : Int32} {s : mT} {p : Int32 × mT} (h : gM_rests v1 v2 s = some p) : Ev d 304 0 [(0, .ref 294), (1, .int v1), (2, .int v2)] [] (uS L s) (some (.int p.1), uS L p.2) := by
  obtain ⟨d, rfl⟩ : ∃ e, d = e + 1 := ⟨d - 1, by omega⟩
  obtain ⟨o, ho⟩ : ∃ o : Option Value × mS, o = (some (.int p.1), uS L p.2) := ⟨_, rfl⟩
  rw [← ho]
  unfold gM_rests at h
  refine Ev.seg D_304 [(.aload_n 0, 1), (.iload_n 1, 1), (.iload_n 2, 1)] (by decide +kernel) (j := 0) (pc' := 3) (lv' := [(0, .ref 294), (1, .int v1), (2, .int v2)]) (st' := [.int v2, .int v1, .ref 294]) rfl ?_
  obtain ⟨p1, e1, h⟩ := bd h
  refine Ev.callv D_304 E_305 (by decide +kernel) C_10_415 294 [.int v1, .int v2] (r := []) rfl (gd_o k_294 (by decide)) rfl (Nat.le_of_ble_eq_true rfl) (Nat.le_of_ble_eq_true rfl) (gM_asksRests_ok (by omega)  e1) ?_
  obtain ⟨x2, g2, h⟩ := bd h
  have j2 : Ev (d + 1) 304 18 [] [.int x2] (uS L p1.2) o := by
    clear g2
    cases h
    obtain rfl : o = _ := ho
    exact Ev.iret D_304 (by decide +kernel)
  clear h
  refine Ev.if_ D_304 (c := .eq) (off := 10) (by decide +kernel) (t := 16) rfl (fun c2 => ?_) (fun c2 => ?_)
  · have c2 : p1.1 = 0 := of_decide_eq_true c2
    rw [if_pos c2] at g2
    refine Ev.seg D_304 [(.bipush (-2), 2)] (by decide +kernel) (j := 0) (pc' := 18) (lv' := [(0, .ref 294), (1, .int v1), (2, .int v2)]) (st' := [.int (-2 : Int32)]) rfl ?_
    cases g2
    exact Ev.sub2 j2 subL_nil
  · have c2 : ¬ p1.1 = 0 := of_decide_eq_false c2
    rw [if_neg c2] at g2
    refine Ev.seg D_304 [(.aload_n 0, 1)] (by decide +kernel) (j := 0) (pc' := 10) (lv' := [(0, .ref 294), (1, .int v1), (2, .int v2)]) (st' := [.ref 294]) rfl ?_
    refine Ev.getI D_304 (by decide +kernel) F_10_405 (Or.inl T_10_38) (S_oI k_294) ?_
    refine Ev.seg D_304 [(.goto 5, 3)] (by decide +kernel) (j := 0) (pc' := 18) (lv' := [(0, .ref 294), (1, .int v1), (2, .int v2)]) (st' := [.int (p1.2.1 294 38)]) rfl ?_
    cases g2
    exact Ev.sub2 j2 subL_nil
