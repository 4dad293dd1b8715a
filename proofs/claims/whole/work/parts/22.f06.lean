/-! The program's methods as functions of ints and longs, each with its certificate (wip/whole/gen_emit.py writes this) -/
/- PennantLawn front: 107 -/
def gL_front_h19 (v1 : Int32) (s : mT) (q : Int32 × Int32) : Option ((Int32 × Int32) ⊕ (Int32)) :=
  if (s.1 16 0) < q.2 then
    some (.inr q.1)
  else
    (gC_leader 28 q.2 s).bind fun p5 =>
    (
      if p5 = v1 then
        some (q.1 + (1 : Int32))
      else
        some (q.1) : Option (Int32)).bind fun x6 =>
    some (.inl (x6, q.2 + (1 : Int32)))
set_option maxRecDepth 8000 in
theorem gL_front_h19_ok {L d : Nat} (hd : 3 ≤ d + 1) {v1 : Int32} {s : mT} : ∀ (q : Int32 × Int32) (x : (Int32 × Int32) ⊕ (Int32)), gL_front_h19 v1 s q = some x → ∀ o, sK (fun q => Ev (d + 1) 107 19 [(0, .ref 0), (1, .int v1), (2, .int q.1), (3, .int q.2)] [] (uS L s) o) (fun r => Ev (d + 1) 107 51 [(2, .int r)] [] (uS L s) o) x → Ev (d + 1) 107 19 [(0, .ref 0), (1, .int v1), (2, .int q.1), (3, .int q.2)] [] (uS L s) o := by
  intro q x h o ho
  unfold gL_front_h19 at h
  refine Ev.seg D_107 [(.iload_n 3, 1), (.aload_n 0, 1)] (by decide +kernel) (j := 0) (pc' := 21) (lv' := [(0, .ref 0), (1, .int v1), (2, .int q.1), (3, .int q.2)]) (st' := [.ref 0, .int q.2]) rfl ?_
  refine Ev.getR D_107 (by decide +kernel) F_9_28 T_9_2 (x := 16) (S_oR k_0 (by decide +kernel)) ?_
  refine Ev.getI D_107 (by decide +kernel) F_9_187 (Or.inl T_2_0) (S_oI k_16) ?_
  refine Ev.icmp D_107 (c := .gt) (off := 24) (by decide +kernel) (t := 51) rfl (fun c3 => ?_) (fun c3 => ?_)
  · have c3 : (s.1 16 0) < q.2 := of_decide_eq_true c3
    rw [if_pos c3] at h
    cases h
    exact Ev.sub (lv' := [(2, .int q.1)]) (subL_cons rfl subL_nil) ho
  · have c3 : ¬ (s.1 16 0) < q.2 := of_decide_eq_false c3
    rw [if_neg c3] at h
    refine Ev.seg D_107 [(.aload_n 0, 1)] (by decide +kernel) (j := 0) (pc' := 31) (lv' := [(0, .ref 0), (1, .int v1), (2, .int q.1), (3, .int q.2)]) (st' := [.ref 0]) rfl ?_
    refine Ev.getR D_107 (by decide +kernel) F_9_37 T_9_5 (x := 28) (S_oR k_0 (by decide +kernel)) ?_
    refine Ev.seg D_107 [(.iload_n 3, 1)] (by decide +kernel) (j := 0) (pc' := 35) (lv' := [(0, .ref 0), (1, .int v1), (2, .int q.1), (3, .int q.2)]) (st' := [.int q.2, .ref 28]) rfl ?_
    obtain ⟨p5, e5, h⟩ := bd h
    refine Ev.callv D_107 E_14 (by decide +kernel) C_9_180 28 [.int q.2] (r := []) rfl (gd_o k_28 (by decide)) rfl (Nat.le_of_ble_eq_true rfl) (Nat.le_of_ble_eq_true rfl) (gC_leader_ok (by omega) (by decide) e5) ?_
    refine Ev.seg D_107 [(.iload_n 1, 1)] (by decide +kernel) (j := 0) (pc' := 39) (lv' := [(0, .ref 0), (1, .int v1), (2, .int q.1), (3, .int q.2)]) (st' := [.int v1, .int p5]) rfl ?_
    obtain ⟨x6, g6, h⟩ := bd h
    have j6 : Ev (d + 1) 107 45 [(0, .ref 0), (1, .int v1), (2, .int x6), (3, .int q.2)] [] (uS L s) o := by
      clear g6
      refine Ev.seg D_107 [(.iinc 3 1, 3), (.goto (-29), 3)] (by decide +kernel) (j := 0) (pc' := 19) (lv' := [(3, .int (q.2 + (1 : Int32))), (0, .ref 0), (1, .int v1), (2, .int x6)]) (st' := []) rfl ?_
      cases h
      exact Ev.sub (lv' := [(0, .ref 0), (1, .int v1), (2, .int (x6)), (3, .int (q.2 + (1 : Int32)))]) (subL_cons rfl (subL_cons rfl (subL_cons rfl (subL_cons rfl subL_nil)))) ho
    clear h
    refine Ev.icmp D_107 (c := .ne) (off := 6) (by decide +kernel) (t := 45) rfl (fun c6 => ?_) (fun c6 => ?_)
    · have c6 : ¬ p5 = v1 := of_decide_eq_true c6
      rw [if_neg c6] at g6
      cases g6
      exact Ev.sub2 j6 (subL_cons rfl (subL_cons rfl (subL_cons rfl (subL_cons rfl subL_nil))))
    · have c6 : p5 = v1 := Decidable.of_not_not (of_decide_eq_false c6)
      rw [if_pos c6] at g6
      refine Ev.seg D_107 [(.iinc 2 1, 3)] (by decide +kernel) (j := 0) (pc' := 45) (lv' := [(2, .int (q.1 + (1 : Int32))), (0, .ref 0), (1, .int v1), (3, .int q.2)]) (st' := []) rfl ?_
      cases g6
      exact Ev.sub2 j6 (subL_cons rfl (subL_cons rfl (subL_cons rfl (subL_cons rfl subL_nil))))
theorem gL_front_h19_w {L d : Nat} (hd : 3 ≤ d + 1) {v1 : Int32} {s : mT} : ∀ (n : Nat) (q : Int32 × Int32) (r : Int32), wh n (gL_front_h19 v1 s) q = some r → ∀ o, (fun r => Ev (d + 1) 107 51 [(2, .int r)] [] (uS L s) o) r → Ev (d + 1) 107 19 [(0, .ref 0), (1, .int v1), (2, .int q.1), (3, .int q.2)] [] (uS L s) o :=
  fun n q r h o hc => wh_ev (E := fun (q : Int32 × Int32) o => Ev (d + 1) 107 19 [(0, .ref 0), (1, .int v1), (2, .int q.1), (3, .int q.2)] [] (uS L s) o) (C := fun (r : Int32) o => (fun r => Ev (d + 1) 107 51 [(2, .int r)] [] (uS L s) o) r) (gL_front_h19_ok hd  ) n q r h o hc
def gL_front (v1 : Int32) (s : mT) : Option (Int32) :=
  (gR_hasBoat 16 v1.toInt64 s).bind fun p2 =>
  if p2 = 0 then
    some ((-2 : Int32))
  else
    (wh FU (gL_front_h19 v1 s) ((0 : Int32), (0 : Int32))).bind fun x7 =>
    some (x7)
set_option maxRecDepth 8000 in
theorem gL_front_ok {L d : Nat} (hd : 3 ≤ d) {v1 : Int32} {s : mT} {p : Int32} (h : gL_front v1 s = some p) : Ev d 107 0 [(0, .ref 0), (1, .int v1)] [] (uS L s) (some (.int p), uS L s) := by
  obtain ⟨d, rfl⟩ : ∃ e, d = e + 1 := ⟨d - 1, by omega⟩
  obtain ⟨o, ho⟩ : ∃ o : Option Value × mS, o = (some (.int p), uS L s) := ⟨_, rfl⟩
  rw [← ho]
  unfold gL_front at h
  refine Ev.seg D_107 [(.aload_n 0, 1)] (by decide +kernel) (j := 0) (pc' := 1) (lv' := [(0, .ref 0), (1, .int v1)]) (st' := [.ref 0]) rfl ?_
  refine Ev.getR D_107 (by decide +kernel) F_9_28 T_9_2 (x := 16) (S_oR k_0 (by decide +kernel)) ?_
  refine Ev.seg D_107 [(.iload_n 1, 1), (.i2l, 1)] (by decide +kernel) (j := 0) (pc' := 6) (lv' := [(0, .ref 0), (1, .int v1)]) (st' := [.long v1.toInt64, .ref 16]) rfl ?_
  obtain ⟨p2, e2, h⟩ := bd h
  refine Ev.callv D_107 E_39 (by decide +kernel) C_9_119 16 [.long v1.toInt64] (r := []) rfl (gd_o k_16 (by decide)) rfl (Nat.le_of_ble_eq_true rfl) (Nat.le_of_ble_eq_true rfl) (gR_hasBoat_ok (by omega) (by decide) e2) ?_
  refine Ev.if_ D_107 (c := .ne) (off := 6) (by decide +kernel) (t := 15) rfl (fun c3 => ?_) (fun c3 => ?_)
  · have c3 : ¬ p2 = 0 := of_decide_eq_true c3
    rw [if_neg c3] at h
    refine Ev.seg D_107 [(.iconst 0, 1), (.istore_n 2, 1), (.iconst 0, 1), (.istore_n 3, 1)] (by decide +kernel) (j := 0) (pc' := 19) (lv' := [(3, .int (0 : Int32)), (2, .int (0 : Int32)), (0, .ref 0), (1, .int v1)]) (st' := []) rfl ?_
    obtain ⟨x7, w7, h⟩ := bd h
    have j7 : Ev (d + 1) 107 51 [(2, .int x7)] [] (uS L s) o := by
      clear w7
      refine Ev.seg D_107 [(.iload_n 2, 1)] (by decide +kernel) (j := 0) (pc' := 52) (lv' := [(2, .int x7)]) (st' := [.int x7]) rfl ?_
      cases h
      obtain rfl : o = _ := ho
      exact Ev.iret D_107 (by decide +kernel)
    exact Ev.sub (lv' := [(0, .ref 0), (1, .int v1), (2, .int (0 : Int32)), (3, .int (0 : Int32))]) (subL_cons rfl (subL_cons rfl (subL_cons rfl (subL_cons rfl subL_nil)))) (gL_front_h19_w hd   _ _ _ w7 _ j7)
  · have c3 : p2 = 0 := Decidable.of_not_not (of_decide_eq_false c3)
    rw [if_pos c3] at h
    refine Ev.seg D_107 [(.bipush (-2), 2)] (by decide +kernel) (j := 0) (pc' := 14) (lv' := [(0, .ref 0), (1, .int v1)]) (st' := [.int (-2 : Int32)]) rfl ?_
    cases h
    obtain rfl : o = _ := ho
    exact Ev.iret D_107 (by decide +kernel)
/- PennantLawn behind: 108 -/
def gL_behind_h32 (v1 : Int32) (v2 : Int32) (s : mT) (q : Int32 × Int32) : Option ((Int32 × Int32) ⊕ (Int32)) :=
  if (s.1 16 5) ≤ q.2 then
    some (.inr q.1)
  else
    if ¬ (v2 < 0 ∨ 21 ≤ v2.toNatClampNeg) then
      (rdI (s.1 (56 + v2.toNatClampNeg)) 5 q.2).bind fun x7 =>
      if ¬ (v2 < 0 ∨ 21 ≤ v2.toNatClampNeg) then
        (rdI (s.1 (56 + v2.toNatClampNeg)) 5 v1).bind fun x11 =>
        (
          if x7 ≤ x11 then
            some (q.1)
          else
            some (q.1 + (1 : Int32)) : Option (Int32)).bind fun x12 =>
        some (.inl (x12, q.2 + (1 : Int32)))
      else none
    else none
set_option maxRecDepth 8000 in
theorem gL_behind_h32_ok {L d : Nat} (hd : 3 ≤ d + 1) {v1 : Int32} {v2 : Int32} {s : mT} : ∀ (q : Int32 × Int32) (x : (Int32 × Int32) ⊕ (Int32)), gL_behind_h32 v1 v2 s q = some x → ∀ o, sK (fun q => Ev (d + 1) 108 32 [(0, .ref 0), (1, .int v1), (2, .int v2), (3, .int q.1), (4, .int q.2)] [] (uS L s) o) (fun r => Ev (d + 1) 108 79 [(3, .int r)] [] (uS L s) o) x → Ev (d + 1) 108 32 [(0, .ref 0), (1, .int v1), (2, .int v2), (3, .int q.1), (4, .int q.2)] [] (uS L s) o := by
  intro q x h o ho
  unfold gL_behind_h32 at h
  refine Ev.seg D_108 [(.iload 4, 2), (.aload_n 0, 1)] (by decide +kernel) (j := 0) (pc' := 35) (lv' := [(0, .ref 0), (1, .int v1), (2, .int v2), (3, .int q.1), (4, .int q.2)]) (st' := [.ref 0, .int q.2]) rfl ?_
  refine Ev.getR D_108 (by decide +kernel) F_9_28 T_9_2 (x := 16) (S_oR k_0 (by decide +kernel)) ?_
  refine Ev.getI D_108 (by decide +kernel) F_9_190 (Or.inl T_2_5) (S_oI k_16) ?_
  refine Ev.icmp D_108 (c := .ge) (off := 38) (by decide +kernel) (t := 79) rfl (fun c3 => ?_) (fun c3 => ?_)
  · have c3 : (s.1 16 5) ≤ q.2 := of_decide_eq_true c3
    rw [if_pos c3] at h
    cases h
    exact Ev.sub (lv' := [(3, .int q.1)]) (subL_cons rfl subL_nil) ho
  · have c3 : ¬ (s.1 16 5) ≤ q.2 := of_decide_eq_false c3
    rw [if_neg c3] at h
    refine Ev.seg D_108 [(.aload_n 0, 1)] (by decide +kernel) (j := 0) (pc' := 45) (lv' := [(0, .ref 0), (1, .int v1), (2, .int v2), (3, .int q.1), (4, .int q.2)]) (st' := [.ref 0]) rfl ?_
    refine Ev.getR D_108 (by decide +kernel) F_9_37 T_9_5 (x := 28) (S_oR k_0 (by decide +kernel)) ?_
    refine Ev.getR D_108 (by decide +kernel) F_9_161 T_0_7 (x := 55) (S_oR k_28 (by decide +kernel)) ?_
    refine Ev.seg D_108 [(.iload_n 2, 1)] (by decide +kernel) (j := 0) (pc' := 52) (lv' := [(0, .ref 0), (1, .int v1), (2, .int v2), (3, .int q.1), (4, .int q.2)]) (st' := [.int v2, .ref 55]) rfl ?_
    by_cases b52 : ¬ (v2 < 0 ∨ 21 ≤ v2.toNatClampNeg)
    rotate_left
    · rw [if_neg b52] at h; cases h
    rw [if_pos b52] at h
    refine Ev.aald D_108 (by decide +kernel) (kd := 26) ⟨by decide, by decide⟩ (x := (56 + v2.toNatClampNeg)) (S_aR k_55 b52 (lit_aa (e := 56) (n := 21) (by decide +kernel) b52)) ?_
    refine Ev.seg D_108 [(.iload 4, 2)] (by decide +kernel) (j := 0) (pc' := 55) (lv' := [(0, .ref 0), (1, .int v1), (2, .int v2), (3, .int q.1), (4, .int q.2)]) (st' := [.int q.2, .ref (56 + v2.toNatClampNeg)]) rfl ?_
    obtain ⟨x7, e7, h⟩ := bd h
    refine Ev.iald D_108 (by decide +kernel) (S_aI (lit_row (e := 56) (n := 21) (by decide +kernel) b52) e7) ?_
    refine Ev.seg D_108 [(.aload_n 0, 1)] (by decide +kernel) (j := 0) (pc' := 57) (lv' := [(0, .ref 0), (1, .int v1), (2, .int v2), (3, .int q.1), (4, .int q.2)]) (st' := [.ref 0, .int x7]) rfl ?_
    refine Ev.getR D_108 (by decide +kernel) F_9_37 T_9_5 (x := 28) (S_oR k_0 (by decide +kernel)) ?_
    refine Ev.getR D_108 (by decide +kernel) F_9_161 T_0_7 (x := 55) (S_oR k_28 (by decide +kernel)) ?_
    refine Ev.seg D_108 [(.iload_n 2, 1)] (by decide +kernel) (j := 0) (pc' := 64) (lv' := [(0, .ref 0), (1, .int v1), (2, .int v2), (3, .int q.1), (4, .int q.2)]) (st' := [.int v2, .ref 55, .int x7]) rfl ?_
    by_cases b64 : ¬ (v2 < 0 ∨ 21 ≤ v2.toNatClampNeg)
    rotate_left
    · rw [if_neg b64] at h; cases h
    rw [if_pos b64] at h
    refine Ev.aald D_108 (by decide +kernel) (kd := 26) ⟨by decide, by decide⟩ (x := (56 + v2.toNatClampNeg)) (S_aR k_55 b64 (lit_aa (e := 56) (n := 21) (by decide +kernel) b64)) ?_
    refine Ev.seg D_108 [(.iload_n 1, 1)] (by decide +kernel) (j := 0) (pc' := 66) (lv' := [(0, .ref 0), (1, .int v1), (2, .int v2), (3, .int q.1), (4, .int q.2)]) (st' := [.int v1, .ref (56 + v2.toNatClampNeg), .int x7]) rfl ?_
    obtain ⟨x11, e11, h⟩ := bd h
    refine Ev.iald D_108 (by decide +kernel) (S_aI (lit_row (e := 56) (n := 21) (by decide +kernel) b64) e11) ?_
    obtain ⟨x12, g12, h⟩ := bd h
    have j12 : Ev (d + 1) 108 73 [(0, .ref 0), (1, .int v1), (2, .int v2), (3, .int x12), (4, .int q.2)] [] (uS L s) o := by
      clear g12
      refine Ev.seg D_108 [(.iinc 4 1, 3), (.goto (-44), 3)] (by decide +kernel) (j := 0) (pc' := 32) (lv' := [(4, .int (q.2 + (1 : Int32))), (0, .ref 0), (1, .int v1), (2, .int v2), (3, .int x12)]) (st' := []) rfl ?_
      cases h
      exact Ev.sub (lv' := [(0, .ref 0), (1, .int v1), (2, .int v2), (3, .int (x12)), (4, .int (q.2 + (1 : Int32)))]) (subL_cons rfl (subL_cons rfl (subL_cons rfl (subL_cons rfl (subL_cons rfl subL_nil))))) ho
    clear h
    refine Ev.icmp D_108 (c := .le) (off := 6) (by decide +kernel) (t := 73) rfl (fun c12 => ?_) (fun c12 => ?_)
    · have c12 : x7 ≤ x11 := of_decide_eq_true c12
      rw [if_pos c12] at g12
      cases g12
      exact Ev.sub2 j12 (subL_cons rfl (subL_cons rfl (subL_cons rfl (subL_cons rfl (subL_cons rfl subL_nil)))))
    · have c12 : ¬ x7 ≤ x11 := of_decide_eq_false c12
      rw [if_neg c12] at g12
      refine Ev.seg D_108 [(.iinc 3 1, 3)] (by decide +kernel) (j := 0) (pc' := 73) (lv' := [(3, .int (q.1 + (1 : Int32))), (0, .ref 0), (1, .int v1), (2, .int v2), (4, .int q.2)]) (st' := []) rfl ?_
      cases g12
      exact Ev.sub2 j12 (subL_cons rfl (subL_cons rfl (subL_cons rfl (subL_cons rfl (subL_cons rfl subL_nil)))))
theorem gL_behind_h32_w {L d : Nat} (hd : 3 ≤ d + 1) {v1 : Int32} {v2 : Int32} {s : mT} : ∀ (n : Nat) (q : Int32 × Int32) (r : Int32), wh n (gL_behind_h32 v1 v2 s) q = some r → ∀ o, (fun r => Ev (d + 1) 108 79 [(3, .int r)] [] (uS L s) o) r → Ev (d + 1) 108 32 [(0, .ref 0), (1, .int v1), (2, .int v2), (3, .int q.1), (4, .int q.2)] [] (uS L s) o :=
  fun n q r h o hc => wh_ev (E := fun (q : Int32 × Int32) o => Ev (d + 1) 108 32 [(0, .ref 0), (1, .int v1), (2, .int v2), (3, .int q.1), (4, .int q.2)] [] (uS L s) o) (C := fun (r : Int32) o => (fun r => Ev (d + 1) 108 79 [(3, .int r)] [] (uS L s) o) r) (gL_behind_h32_ok hd  ) n q r h o hc
def gL_behind (v1 : Int32) (v2 : Int32) (s : mT) : Option (Int32) :=
  (gR_hasBoat 16 v1.toInt64 s).bind fun p2 =>
  if p2 = 0 then
    some ((-2 : Int32))
  else
    (gR_hasStep 16 v2.toInt64 s).bind fun p6 =>
    if p6 = 0 then
      some ((-2 : Int32))
    else
      (wh FU (gL_behind_h32 v1 v2 s) ((0 : Int32), (0 : Int32))).bind fun x13 =>
      some (x13)
set_option maxRecDepth 8000 in
theorem gL_behind_ok {L d : Nat} (hd : 3 ≤ d) {v1 : Int32} {v2 : Int32} {s : mT} {p : Int32} (h : gL_behind v1 v2 s = some p) : Ev d 108 0 [(0, .ref 0), (1, .int v1), (2, .int v2)] [] (uS L s) (some (.int p), uS L s) := by
  obtain ⟨d, rfl⟩ : ∃ e, d = e + 1 := ⟨d - 1, by omega⟩
  obtain ⟨o, ho⟩ : ∃ o : Option Value × mS, o = (some (.int p), uS L s) := ⟨_, rfl⟩
  rw [← ho]
  unfold gL_behind at h
  refine Ev.seg D_108 [(.aload_n 0, 1)] (by decide +kernel) (j := 0) (pc' := 1) (lv' := [(0, .ref 0), (1, .int v1), (2, .int v2)]) (st' := [.ref 0]) rfl ?_
  refine Ev.getR D_108 (by decide +kernel) F_9_28 T_9_2 (x := 16) (S_oR k_0 (by decide +kernel)) ?_
  refine Ev.seg D_108 [(.iload_n 1, 1), (.i2l, 1)] (by decide +kernel) (j := 0) (pc' := 6) (lv' := [(0, .ref 0), (1, .int v1), (2, .int v2)]) (st' := [.long v1.toInt64, .ref 16]) rfl ?_
  obtain ⟨p2, e2, h⟩ := bd h
  refine Ev.callv D_108 E_39 (by decide +kernel) C_9_119 16 [.long v1.toInt64] (r := []) rfl (gd_o k_16 (by decide)) rfl (Nat.le_of_ble_eq_true rfl) (Nat.le_of_ble_eq_true rfl) (gR_hasBoat_ok (by omega) (by decide) e2) ?_
  refine Ev.if_ D_108 (c := .eq) (off := 15) (by decide +kernel) (t := 24) rfl (fun c3 => ?_) (fun c3 => ?_)
  · have c3 : p2 = 0 := of_decide_eq_true c3
    rw [if_pos c3] at h
    refine Ev.seg D_108 [(.bipush (-2), 2)] (by decide +kernel) (j := 0) (pc' := 26) (lv' := [(0, .ref 0), (1, .int v1), (2, .int v2)]) (st' := [.int (-2 : Int32)]) rfl ?_
    cases h
    obtain rfl : o = _ := ho
    exact Ev.iret D_108 (by decide +kernel)
  · have c3 : ¬ p2 = 0 := of_decide_eq_false c3
    rw [if_neg c3] at h
    refine Ev.seg D_108 [(.aload_n 0, 1)] (by decide +kernel) (j := 0) (pc' := 13) (lv' := [(0, .ref 0), (1, .int v1), (2, .int v2)]) (st' := [.ref 0]) rfl ?_
    refine Ev.getR D_108 (by decide +kernel) F_9_28 T_9_2 (x := 16) (S_oR k_0 (by decide +kernel)) ?_
    refine Ev.seg D_108 [(.iload_n 2, 1), (.i2l, 1)] (by decide +kernel) (j := 0) (pc' := 18) (lv' := [(0, .ref 0), (1, .int v1), (2, .int v2)]) (st' := [.long v2.toInt64, .ref 16]) rfl ?_
    obtain ⟨p6, e6, h⟩ := bd h
    refine Ev.callv D_108 E_42 (by decide +kernel) C_9_158 16 [.long v2.toInt64] (r := []) rfl (gd_o k_16 (by decide)) rfl (Nat.le_of_ble_eq_true rfl) (Nat.le_of_ble_eq_true rfl) (gR_hasStep_ok (by omega) (by decide) e6) ?_
    refine Ev.if_ D_108 (c := .ne) (off := 6) (by decide +kernel) (t := 27) rfl (fun c7 => ?_) (fun c7 => ?_)
    · have c7 : ¬ p6 = 0 := of_decide_eq_true c7
      rw [if_neg c7] at h
      refine Ev.seg D_108 [(.iconst 0, 1), (.istore_n 3, 1), (.iconst 0, 1), (.istore 4, 2)] (by decide +kernel) (j := 0) (pc' := 32) (lv' := [(4, .int (0 : Int32)), (3, .int (0 : Int32)), (0, .ref 0), (1, .int v1), (2, .int v2)]) (st' := []) rfl ?_
      obtain ⟨x13, w13, h⟩ := bd h
      have j13 : Ev (d + 1) 108 79 [(3, .int x13)] [] (uS L s) o := by
        clear w13
        refine Ev.seg D_108 [(.iload_n 3, 1)] (by decide +kernel) (j := 0) (pc' := 80) (lv' := [(3, .int x13)]) (st' := [.int x13]) rfl ?_
        cases h
        obtain rfl : o = _ := ho
        exact Ev.iret D_108 (by decide +kernel)
      exact Ev.sub (lv' := [(0, .ref 0), (1, .int v1), (2, .int v2), (3, .int (0 : Int32)), (4, .int (0 : Int32))]) (subL_cons rfl (subL_cons rfl (subL_cons rfl (subL_cons rfl (subL_cons rfl subL_nil))))) (gL_behind_h32_w hd   _ _ _ w13 _ j13)
    · have c7 : p6 = 0 := Decidable.of_not_not (of_decide_eq_false c7)
      rw [if_pos c7] at h
      refine Ev.seg D_108 [(.bipush (-2), 2)] (by decide +kernel) (j := 0) (pc' := 26) (lv' := [(0, .ref 0), (1, .int v1), (2, .int v2)]) (st' := [.int (-2 : Int32)]) rfl ?_
      cases h
      obtain rfl : o = _ := ho
      exact Ev.iret D_108 (by decide +kernel)
/- PennantLawn calm: 109 -/
def gL_calm (v1 : Int32) (s : mT) : Option (Int32) :=
  (gR_hasBoat 16 v1.toInt64 s).bind fun p2 =>
  (
    if p2 = 0 then
      some ((-2 : Int32))
    else
      (gC_calmSteps 28 v1 s).bind fun p5 =>
      some (p5) : Option (Int32)).bind fun x3 =>
  some (x3)
set_option maxRecDepth 8000 in
theorem gL_calm_ok {L d : Nat} (hd : 4 ≤ d) {v1 : Int32} {s : mT} {p : Int32} (h : gL_calm v1 s = some p) : Ev d 109 0 [(0, .ref 0), (1, .int v1)] [] (uS L s) (some (.int p), uS L s) := by
  obtain ⟨d, rfl⟩ : ∃ e, d = e + 1 := ⟨d - 1, by omega⟩
  obtain ⟨o, ho⟩ : ∃ o : Option Value × mS, o = (some (.int p), uS L s) := ⟨_, rfl⟩
  rw [← ho]
  unfold gL_calm at h
  refine Ev.seg D_109 [(.aload_n 0, 1)] (by decide +kernel) (j := 0) (pc' := 1) (lv' := [(0, .ref 0), (1, .int v1)]) (st' := [.ref 0]) rfl ?_
  refine Ev.getR D_109 (by decide +kernel) F_9_28 T_9_2 (x := 16) (S_oR k_0 (by decide +kernel)) ?_
  refine Ev.seg D_109 [(.iload_n 1, 1), (.i2l, 1)] (by decide +kernel) (j := 0) (pc' := 6) (lv' := [(0, .ref 0), (1, .int v1)]) (st' := [.long v1.toInt64, .ref 16]) rfl ?_
  obtain ⟨p2, e2, h⟩ := bd h
  refine Ev.callv D_109 E_39 (by decide +kernel) C_9_119 16 [.long v1.toInt64] (r := []) rfl (gd_o k_16 (by decide)) rfl (Nat.le_of_ble_eq_true rfl) (Nat.le_of_ble_eq_true rfl) (gR_hasBoat_ok (by omega) (by decide) e2) ?_
  obtain ⟨x3, g3, h⟩ := bd h
  have j3 : Ev (d + 1) 109 25 [] [.int x3] (uS L s) o := by
    clear g3
    cases h
    obtain rfl : o = _ := ho
    exact Ev.iret D_109 (by decide +kernel)
  clear h
  refine Ev.if_ D_109 (c := .eq) (off := 14) (by decide +kernel) (t := 23) rfl (fun c3 => ?_) (fun c3 => ?_)
  · have c3 : p2 = 0 := of_decide_eq_true c3
    rw [if_pos c3] at g3
    refine Ev.seg D_109 [(.bipush (-2), 2)] (by decide +kernel) (j := 0) (pc' := 25) (lv' := [(0, .ref 0), (1, .int v1)]) (st' := [.int (-2 : Int32)]) rfl ?_
    cases g3
    exact Ev.sub2 j3 subL_nil
  · have c3 : ¬ p2 = 0 := of_decide_eq_false c3
    rw [if_neg c3] at g3
    refine Ev.seg D_109 [(.aload_n 0, 1)] (by decide +kernel) (j := 0) (pc' := 13) (lv' := [(0, .ref 0), (1, .int v1)]) (st' := [.ref 0]) rfl ?_
    refine Ev.getR D_109 (by decide +kernel) F_9_37 T_9_5 (x := 28) (S_oR k_0 (by decide +kernel)) ?_
    refine Ev.seg D_109 [(.iload_n 1, 1)] (by decide +kernel) (j := 0) (pc' := 17) (lv' := [(0, .ref 0), (1, .int v1)]) (st' := [.int v1, .ref 28]) rfl ?_
    obtain ⟨p5, e5, g3⟩ := bd g3
    refine Ev.callv D_109 E_16 (by decide +kernel) C_9_193 28 [.int v1] (r := []) rfl (gd_o k_28 (by decide)) rfl (Nat.le_of_ble_eq_true rfl) (Nat.le_of_ble_eq_true rfl) (gC_calmSteps_ok (by omega) (by decide) e5) ?_
    refine Ev.seg D_109 [(.goto 5, 3)] (by decide +kernel) (j := 0) (pc' := 25) (lv' := [(0, .ref 0), (1, .int v1)]) (st' := [.int p5]) rfl ?_
    cases g3
    exact Ev.sub2 j3 subL_nil
/- PennantLawn drops: 110 -/
def gL_drops_h28 (v1 : Int32) (s : mT) (q : Int32) : Option ((Int32) ⊕ ((Int32) ⊕ (Int32))) :=
  if (s.1 16 5) ≤ q then
    some (.inr (.inl (v1 + (1 : Int32))))
  else
    (gC_isBecalmed 28 q v1 s).bind fun p5 =>
    if p5 = 0 then
      some (.inl (q + (1 : Int32)))
    else
      some (.inr (.inr (v1)))
set_option maxRecDepth 8000 in
theorem gL_drops_h28_ok {L d : Nat} (hd : 3 ≤ d + 1) {v1 : Int32} {s : mT} : ∀ (q : Int32) (x : (Int32) ⊕ ((Int32) ⊕ (Int32))), gL_drops_h28 v1 s q = some x → ∀ o, sK (fun q => Ev (d + 1) 110 28 [(0, .ref 0), (1, .int v1), (2, .int q)] [] (uS L s) o) (fun r => sK (fun q => Ev (d + 1) 110 15 [(0, .ref 0), (1, .int q)] [] (uS L s) o) (fun r => o = (some (.int r), uS L s)) r) x → Ev (d + 1) 110 28 [(0, .ref 0), (1, .int v1), (2, .int q)] [] (uS L s) o := by
  intro q x h o ho
  unfold gL_drops_h28 at h
  refine Ev.seg D_110 [(.iload_n 2, 1), (.aload_n 0, 1)] (by decide +kernel) (j := 0) (pc' := 30) (lv' := [(0, .ref 0), (1, .int v1), (2, .int q)]) (st' := [.ref 0, .int q]) rfl ?_
  refine Ev.getR D_110 (by decide +kernel) F_9_28 T_9_2 (x := 16) (S_oR k_0 (by decide +kernel)) ?_
  refine Ev.getI D_110 (by decide +kernel) F_9_190 (Or.inl T_2_5) (S_oI k_16) ?_
  refine Ev.icmp D_110 (c := .ge) (off := 23) (by decide +kernel) (t := 59) rfl (fun c3 => ?_) (fun c3 => ?_)
  · have c3 : (s.1 16 5) ≤ q := of_decide_eq_true c3
    rw [if_pos c3] at h
    refine Ev.seg D_110 [(.iinc 1 1, 3), (.goto (-47), 3)] (by decide +kernel) (j := 0) (pc' := 15) (lv' := [(1, .int (v1 + (1 : Int32))), (0, .ref 0), (2, .int q)]) (st' := []) rfl ?_
    cases h
    exact Ev.sub (lv' := [(0, .ref 0), (1, .int (v1 + (1 : Int32)))]) (subL_cons rfl (subL_cons rfl subL_nil)) ho
  · have c3 : ¬ (s.1 16 5) ≤ q := of_decide_eq_false c3
    rw [if_neg c3] at h
    refine Ev.seg D_110 [(.aload_n 0, 1)] (by decide +kernel) (j := 0) (pc' := 40) (lv' := [(0, .ref 0), (1, .int v1), (2, .int q)]) (st' := [.ref 0]) rfl ?_
    refine Ev.getR D_110 (by decide +kernel) F_9_37 T_9_5 (x := 28) (S_oR k_0 (by decide +kernel)) ?_
    refine Ev.seg D_110 [(.iload_n 2, 1), (.iload_n 1, 1)] (by decide +kernel) (j := 0) (pc' := 45) (lv' := [(0, .ref 0), (1, .int v1), (2, .int q)]) (st' := [.int v1, .int q, .ref 28]) rfl ?_
    obtain ⟨p5, e5, h⟩ := bd h
    refine Ev.callv D_110 E_17 (by decide +kernel) C_9_199 28 [.int q, .int v1] (r := []) rfl (gd_o k_28 (by decide)) rfl (Nat.le_of_ble_eq_true rfl) (Nat.le_of_ble_eq_true rfl) (gC_isBecalmed_ok (by omega) (by decide) e5) ?_
    refine Ev.if_ D_110 (c := .eq) (off := 5) (by decide +kernel) (t := 53) rfl (fun c6 => ?_) (fun c6 => ?_)
    · have c6 : p5 = 0 := of_decide_eq_true c6
      rw [if_pos c6] at h
      refine Ev.seg D_110 [(.iinc 2 1, 3), (.goto (-28), 3)] (by decide +kernel) (j := 0) (pc' := 28) (lv' := [(2, .int (q + (1 : Int32))), (0, .ref 0), (1, .int v1)]) (st' := []) rfl ?_
      cases h
      exact Ev.sub (lv' := [(0, .ref 0), (1, .int v1), (2, .int (q + (1 : Int32)))]) (subL_cons rfl (subL_cons rfl (subL_cons rfl subL_nil))) ho
    · have c6 : ¬ p5 = 0 := of_decide_eq_false c6
      rw [if_neg c6] at h
      refine Ev.seg D_110 [(.iload_n 1, 1)] (by decide +kernel) (j := 0) (pc' := 52) (lv' := [(0, .ref 0), (1, .int v1), (2, .int q)]) (st' := [.int v1]) rfl ?_
      cases h
      obtain rfl : o = _ := ho
      exact Ev.iret D_110 (by decide +kernel)
theorem gL_drops_h28_w {L d : Nat} (hd : 3 ≤ d + 1) {v1 : Int32} {s : mT} : ∀ (n : Nat) (q : Int32) (r : (Int32) ⊕ (Int32)), wh n (gL_drops_h28 v1 s) q = some r → ∀ o, (fun r => sK (fun q => Ev (d + 1) 110 15 [(0, .ref 0), (1, .int q)] [] (uS L s) o) (fun r => o = (some (.int r), uS L s)) r) r → Ev (d + 1) 110 28 [(0, .ref 0), (1, .int v1), (2, .int q)] [] (uS L s) o :=
  fun n q r h o hc => wh_ev (E := fun (q : Int32) o => Ev (d + 1) 110 28 [(0, .ref 0), (1, .int v1), (2, .int q)] [] (uS L s) o) (C := fun (r : (Int32) ⊕ (Int32)) o => (fun r => sK (fun q => Ev (d + 1) 110 15 [(0, .ref 0), (1, .int q)] [] (uS L s) o) (fun r => o = (some (.int r), uS L s)) r) r) (gL_drops_h28_ok hd  ) n q r h o hc
def gL_drops_h15 (s : mT) (q : Int32) : Option ((Int32) ⊕ (Int32)) :=
  if (s.1 16 0) ≤ q then
    some (.inr ((-1 : Int32)))
  else
    wh FU (gL_drops_h28 q s) (0 : Int32)
set_option maxRecDepth 8000 in
theorem gL_drops_h15_ok {L d : Nat} (hd : 3 ≤ d + 1) {s : mT} : ∀ (q : Int32) (x : (Int32) ⊕ (Int32)), gL_drops_h15 s q = some x → ∀ o, sK (fun q => Ev (d + 1) 110 15 [(0, .ref 0), (1, .int q)] [] (uS L s) o) (fun r => o = (some (.int r), uS L s)) x → Ev (d + 1) 110 15 [(0, .ref 0), (1, .int q)] [] (uS L s) o := by
  intro q x h o ho
  unfold gL_drops_h15 at h
  refine Ev.seg D_110 [(.iload_n 1, 1), (.aload_n 0, 1)] (by decide +kernel) (j := 0) (pc' := 17) (lv' := [(0, .ref 0), (1, .int q)]) (st' := [.ref 0, .int q]) rfl ?_
  refine Ev.getR D_110 (by decide +kernel) F_9_28 T_9_2 (x := 16) (S_oR k_0 (by decide +kernel)) ?_
  refine Ev.getI D_110 (by decide +kernel) F_9_187 (Or.inl T_2_0) (S_oI k_16) ?_
  refine Ev.icmp D_110 (c := .ge) (off := 42) (by decide +kernel) (t := 65) rfl (fun c3 => ?_) (fun c3 => ?_)
  · have c3 : (s.1 16 0) ≤ q := of_decide_eq_true c3
    rw [if_pos c3] at h
    refine Ev.seg D_110 [(.iconst (-1), 1)] (by decide +kernel) (j := 0) (pc' := 66) (lv' := [(0, .ref 0), (1, .int q)]) (st' := [.int (-1 : Int32)]) rfl ?_
    cases h
    obtain rfl : o = _ := ho
    exact Ev.iret D_110 (by decide +kernel)
  · have c3 : ¬ (s.1 16 0) ≤ q := of_decide_eq_false c3
    rw [if_neg c3] at h
    refine Ev.seg D_110 [(.iconst 0, 1), (.istore_n 2, 1)] (by decide +kernel) (j := 0) (pc' := 28) (lv' := [(2, .int (0 : Int32)), (0, .ref 0), (1, .int q)]) (st' := []) rfl ?_
    exact Ev.sub (lv' := [(0, .ref 0), (1, .int q), (2, .int (0 : Int32))]) (subL_cons rfl (subL_cons rfl (subL_cons rfl subL_nil))) (gL_drops_h28_w hd   _ _ _ h _ ho)
theorem gL_drops_h15_w {L d : Nat} (hd : 3 ≤ d + 1) {s : mT} : ∀ (n : Nat) (q : Int32) (r : Int32), wh n (gL_drops_h15 s) q = some r → ∀ o, (fun r => o = (some (.int r), uS L s)) r → Ev (d + 1) 110 15 [(0, .ref 0), (1, .int q)] [] (uS L s) o :=
  fun n q r h o hc => wh_ev (E := fun (q : Int32) o => Ev (d + 1) 110 15 [(0, .ref 0), (1, .int q)] [] (uS L s) o) (C := fun (r : Int32) o => (fun r => o = (some (.int r), uS L s)) r) (gL_drops_h15_ok hd  ) n q r h o hc
def gL_drops (s : mT) : Option (Int32) :=
  (gR_exists 16 s).bind fun p2 =>
  if p2 = 0 then
    some ((-2 : Int32))
  else
    wh FU (gL_drops_h15 s) (0 : Int32)
set_option maxRecDepth 8000 in
theorem gL_drops_ok {L d : Nat} (hd : 3 ≤ d) {s : mT} {p : Int32} (h : gL_drops s = some p) : Ev d 110 0 [(0, .ref 0)] [] (uS L s) (some (.int p), uS L s) := by
  obtain ⟨d, rfl⟩ : ∃ e, d = e + 1 := ⟨d - 1, by omega⟩
  obtain ⟨o, ho⟩ : ∃ o : Option Value × mS, o = (some (.int p), uS L s) := ⟨_, rfl⟩
  rw [← ho]
  unfold gL_drops at h
  refine Ev.seg D_110 [(.aload_n 0, 1)] (by decide +kernel) (j := 0) (pc' := 1) (lv' := [(0, .ref 0)]) (st' := [.ref 0]) rfl ?_
  refine Ev.getR D_110 (by decide +kernel) F_9_28 T_9_2 (x := 16) (S_oR k_0 (by decide +kernel)) ?_
  obtain ⟨p2, e2, h⟩ := bd h
  refine Ev.callv D_110 E_43 (by decide +kernel) C_9_196 16 [] (r := []) rfl (gd_o k_16 (by decide)) rfl (Nat.le_of_ble_eq_true rfl) (Nat.le_of_ble_eq_true rfl) (gR_exists_ok (by omega) (by decide) e2) ?_
  refine Ev.if_ D_110 (c := .ne) (off := 6) (by decide +kernel) (t := 13) rfl (fun c3 => ?_) (fun c3 => ?_)
  · have c3 : ¬ p2 = 0 := of_decide_eq_true c3
    rw [if_neg c3] at h
    refine Ev.seg D_110 [(.iconst 0, 1), (.istore_n 1, 1)] (by decide +kernel) (j := 0) (pc' := 15) (lv' := [(1, .int (0 : Int32)), (0, .ref 0)]) (st' := []) rfl ?_
    exact Ev.sub (lv' := [(0, .ref 0), (1, .int (0 : Int32))]) (subL_cons rfl (subL_cons rfl subL_nil)) (gL_drops_h15_w hd   _ _ _ h _ ho)
  · have c3 : p2 = 0 := Decidable.of_not_not (of_decide_eq_false c3)
    rw [if_pos c3] at h
    refine Ev.seg D_110 [(.bipush (-2), 2)] (by decide +kernel) (j := 0) (pc' := 12) (lv' := [(0, .ref 0)]) (st' := [.int (-2 : Int32)]) rfl ?_
    cases h
    obtain rfl : o = _ := ho
    exact Ev.iret D_110 (by decide +kernel)
/- PennantLawn home: 111 -/
def gL_home (v1 : Int32) (s : mT) : Option (Int32) :=
  (gR_hasBoat 16 v1.toInt64 s).bind fun p2 =>
  (
    if p2 = 0 then
      some ((-2 : Int32))
    else
      (gC_homeStep 28 v1 s).bind fun p5 =>
      some (p5) : Option (Int32)).bind fun x3 =>
  some (x3)
set_option maxRecDepth 8000 in
theorem gL_home_ok {L d : Nat} (hd : 3 ≤ d) {v1 : Int32} {s : mT} {p : Int32} (h : gL_home v1 s = some p) : Ev d 111 0 [(0, .ref 0), (1, .int v1)] [] (uS L s) (some (.int p), uS L s) := by
  obtain ⟨d, rfl⟩ : ∃ e, d = e + 1 := ⟨d - 1, by omega⟩
  obtain ⟨o, ho⟩ : ∃ o : Option Value × mS, o = (some (.int p), uS L s) := ⟨_, rfl⟩
  rw [← ho]
  unfold gL_home at h
  refine Ev.seg D_111 [(.aload_n 0, 1)] (by decide +kernel) (j := 0) (pc' := 1) (lv' := [(0, .ref 0), (1, .int v1)]) (st' := [.ref 0]) rfl ?_
  refine Ev.getR D_111 (by decide +kernel) F_9_28 T_9_2 (x := 16) (S_oR k_0 (by decide +kernel)) ?_
  refine Ev.seg D_111 [(.iload_n 1, 1), (.i2l, 1)] (by decide +kernel) (j := 0) (pc' := 6) (lv' := [(0, .ref 0), (1, .int v1)]) (st' := [.long v1.toInt64, .ref 16]) rfl ?_
  obtain ⟨p2, e2, h⟩ := bd h
  refine Ev.callv D_111 E_39 (by decide +kernel) C_9_119 16 [.long v1.toInt64] (r := []) rfl (gd_o k_16 (by decide)) rfl (Nat.le_of_ble_eq_true rfl) (Nat.le_of_ble_eq_true rfl) (gR_hasBoat_ok (by omega) (by decide) e2) ?_
  obtain ⟨x3, g3, h⟩ := bd h
  have j3 : Ev (d + 1) 111 25 [] [.int x3] (uS L s) o := by
    clear g3
    cases h
    obtain rfl : o = _ := ho
    exact Ev.iret D_111 (by decide +kernel)
  clear h
  refine Ev.if_ D_111 (c := .eq) (off := 14) (by decide +kernel) (t := 23) rfl (fun c3 => ?_) (fun c3 => ?_)
  · have c3 : p2 = 0 := of_decide_eq_true c3
    rw [if_pos c3] at g3
    refine Ev.seg D_111 [(.bipush (-2), 2)] (by decide +kernel) (j := 0) (pc' := 25) (lv' := [(0, .ref 0), (1, .int v1)]) (st' := [.int (-2 : Int32)]) rfl ?_
    cases g3
    exact Ev.sub2 j3 subL_nil
  · have c3 : ¬ p2 = 0 := of_decide_eq_false c3
    rw [if_neg c3] at g3
    refine Ev.seg D_111 [(.aload_n 0, 1)] (by decide +kernel) (j := 0) (pc' := 13) (lv' := [(0, .ref 0), (1, .int v1)]) (st' := [.ref 0]) rfl ?_
    refine Ev.getR D_111 (by decide +kernel) F_9_37 T_9_5 (x := 28) (S_oR k_0 (by decide +kernel)) ?_
    refine Ev.seg D_111 [(.iload_n 1, 1)] (by decide +kernel) (j := 0) (pc' := 17) (lv' := [(0, .ref 0), (1, .int v1)]) (st' := [.int v1, .ref 28]) rfl ?_
    obtain ⟨p5, e5, g3⟩ := bd g3
    refine Ev.callv D_111 E_19 (by decide +kernel) C_9_203 28 [.int v1] (r := []) rfl (gd_o k_28 (by decide)) rfl (Nat.le_of_ble_eq_true rfl) (Nat.le_of_ble_eq_true rfl) (gC_homeStep_ok (by omega) (by decide) e5) ?_
    refine Ev.seg D_111 [(.goto 5, 3)] (by decide +kernel) (j := 0) (pc' := 25) (lv' := [(0, .ref 0), (1, .int v1)]) (st' := [.int p5]) rfl ?_
    cases g3
    exact Ev.sub2 j3 subL_nil
/- PennantLawn wins: 112 -/
def gL_wins (s : mT) : Option (Int32) :=
  (gR_exists 16 s).bind fun p2 =>
  (
    if p2 = 0 then
      some ((-2 : Int32))
    else
      (gC_winner 28 s).bind fun p5 =>
      some (p5) : Option (Int32)).bind fun x3 =>
  some (x3)
set_option maxRecDepth 8000 in
theorem gL_wins_ok {L d : Nat} (hd : 3 ≤ d) {s : mT} {p : Int32} (h : gL_wins s = some p) : Ev d 112 0 [(0, .ref 0)] [] (uS L s) (some (.int p), uS L s) := by
  obtain ⟨d, rfl⟩ : ∃ e, d = e + 1 := ⟨d - 1, by omega⟩
  obtain ⟨o, ho⟩ : ∃ o : Option Value × mS, o = (some (.int p), uS L s) := ⟨_, rfl⟩
  rw [← ho]
  unfold gL_wins at h
  refine Ev.seg D_112 [(.aload_n 0, 1)] (by decide +kernel) (j := 0) (pc' := 1) (lv' := [(0, .ref 0)]) (st' := [.ref 0]) rfl ?_
  refine Ev.getR D_112 (by decide +kernel) F_9_28 T_9_2 (x := 16) (S_oR k_0 (by decide +kernel)) ?_
  obtain ⟨p2, e2, h⟩ := bd h
  refine Ev.callv D_112 E_43 (by decide +kernel) C_9_196 16 [] (r := []) rfl (gd_o k_16 (by decide)) rfl (Nat.le_of_ble_eq_true rfl) (Nat.le_of_ble_eq_true rfl) (gR_exists_ok (by omega) (by decide) e2) ?_
  obtain ⟨x3, g3, h⟩ := bd h
  have j3 : Ev (d + 1) 112 22 [] [.int x3] (uS L s) o := by
    clear g3
    cases h
    obtain rfl : o = _ := ho
    exact Ev.iret D_112 (by decide +kernel)
  clear h
  refine Ev.if_ D_112 (c := .eq) (off := 13) (by decide +kernel) (t := 20) rfl (fun c3 => ?_) (fun c3 => ?_)
  · have c3 : p2 = 0 := of_decide_eq_true c3
    rw [if_pos c3] at g3
    refine Ev.seg D_112 [(.bipush (-2), 2)] (by decide +kernel) (j := 0) (pc' := 22) (lv' := [(0, .ref 0)]) (st' := [.int (-2 : Int32)]) rfl ?_
    cases g3
    exact Ev.sub2 j3 subL_nil
  · have c3 : ¬ p2 = 0 := of_decide_eq_false c3
    rw [if_neg c3] at g3
    refine Ev.seg D_112 [(.aload_n 0, 1)] (by decide +kernel) (j := 0) (pc' := 11) (lv' := [(0, .ref 0)]) (st' := [.ref 0]) rfl ?_
    refine Ev.getR D_112 (by decide +kernel) F_9_37 T_9_5 (x := 28) (S_oR k_0 (by decide +kernel)) ?_
    obtain ⟨p5, e5, g3⟩ := bd g3
    refine Ev.callv D_112 E_20 (by decide +kernel) C_9_206 28 [] (r := []) rfl (gd_o k_28 (by decide)) rfl (Nat.le_of_ble_eq_true rfl) (Nat.le_of_ble_eq_true rfl) (gC_winner_ok (by omega) (by decide) e5) ?_
    refine Ev.seg D_112 [(.goto 5, 3)] (by decide +kernel) (j := 0) (pc' := 22) (lv' := [(0, .ref 0)]) (st' := [.int p5]) rfl ?_
    cases g3
    exact Ev.sub2 j3 subL_nil
/- PennantLawn gap: 113 -/
def gL_gap (v1 : Int32) (v2 : Int32) (v3 : Int32) (s : mT) : Option (Int32) :=
  (gR_hasBoat 16 v1.toInt64 s).bind fun p2 =>
  if p2 = 0 then
    some ((-1000 : Int32))
  else
    (gR_hasBoat 16 v2.toInt64 s).bind fun p6 =>
    if p6 = 0 then
      some ((-1000 : Int32))
    else
      (gR_hasStep 16 v3.toInt64 s).bind fun p10 =>
      if p10 = 0 then
        some ((-1000 : Int32))
      else
        if ¬ (v3 < 0 ∨ 21 ≤ v3.toNatClampNeg) then
          (rdI (s.1 (56 + v3.toNatClampNeg)) 5 v1).bind fun x15 =>
          if ¬ (v3 < 0 ∨ 21 ≤ v3.toNatClampNeg) then
            (rdI (s.1 (56 + v3.toNatClampNeg)) 5 v2).bind fun x19 =>
            some (x15 - x19)
          else none
        else none
set_option maxRecDepth 8000 in
theorem gL_gap_ok {L d : Nat} (hd : 3 ≤ d) {v1 : Int32} {v2 : Int32} {v3 : Int32} {s : mT} {p : Int32} (h : gL_gap v1 v2 v3 s = some p) : Ev d 113 0 [(0, .ref 0), (1, .int v1), (2, .int v2), (3, .int v3)] [] (uS L s) (some (.int p), uS L s) := by
  obtain ⟨d, rfl⟩ : ∃ e, d = e + 1 := ⟨d - 1, by omega⟩
  obtain ⟨o, ho⟩ : ∃ o : Option Value × mS, o = (some (.int p), uS L s) := ⟨_, rfl⟩
  rw [← ho]
  unfold gL_gap at h
  refine Ev.seg D_113 [(.aload_n 0, 1)] (by decide +kernel) (j := 0) (pc' := 1) (lv' := [(0, .ref 0), (1, .int v1), (2, .int v2), (3, .int v3)]) (st' := [.ref 0]) rfl ?_
  refine Ev.getR D_113 (by decide +kernel) F_9_28 T_9_2 (x := 16) (S_oR k_0 (by decide +kernel)) ?_
  refine Ev.seg D_113 [(.iload_n 1, 1), (.i2l, 1)] (by decide +kernel) (j := 0) (pc' := 6) (lv' := [(0, .ref 0), (1, .int v1), (2, .int v2), (3, .int v3)]) (st' := [.long v1.toInt64, .ref 16]) rfl ?_
  obtain ⟨p2, e2, h⟩ := bd h
  refine Ev.callv D_113 E_39 (by decide +kernel) C_9_119 16 [.long v1.toInt64] (r := []) rfl (gd_o k_16 (by decide)) rfl (Nat.le_of_ble_eq_true rfl) (Nat.le_of_ble_eq_true rfl) (gR_hasBoat_ok (by omega) (by decide) e2) ?_
  refine Ev.if_ D_113 (c := .eq) (off := 27) (by decide +kernel) (t := 36) rfl (fun c3 => ?_) (fun c3 => ?_)
  · have c3 : p2 = 0 := of_decide_eq_true c3
    rw [if_pos c3] at h
    refine Ev.seg D_113 [(.sipush (-1000), 3)] (by decide +kernel) (j := 0) (pc' := 39) (lv' := [(0, .ref 0), (1, .int v1), (2, .int v2), (3, .int v3)]) (st' := [.int (-1000 : Int32)]) rfl ?_
    cases h
    obtain rfl : o = _ := ho
    exact Ev.iret D_113 (by decide +kernel)
  · have c3 : ¬ p2 = 0 := of_decide_eq_false c3
    rw [if_neg c3] at h
    refine Ev.seg D_113 [(.aload_n 0, 1)] (by decide +kernel) (j := 0) (pc' := 13) (lv' := [(0, .ref 0), (1, .int v1), (2, .int v2), (3, .int v3)]) (st' := [.ref 0]) rfl ?_
    refine Ev.getR D_113 (by decide +kernel) F_9_28 T_9_2 (x := 16) (S_oR k_0 (by decide +kernel)) ?_
    refine Ev.seg D_113 [(.iload_n 2, 1), (.i2l, 1)] (by decide +kernel) (j := 0) (pc' := 18) (lv' := [(0, .ref 0), (1, .int v1), (2, .int v2), (3, .int v3)]) (st' := [.long v2.toInt64, .ref 16]) rfl ?_
    obtain ⟨p6, e6, h⟩ := bd h
    refine Ev.callv D_113 E_39 (by decide +kernel) C_9_119 16 [.long v2.toInt64] (r := []) rfl (gd_o k_16 (by decide)) rfl (Nat.le_of_ble_eq_true rfl) (Nat.le_of_ble_eq_true rfl) (gR_hasBoat_ok (by omega) (by decide) e6) ?_
    refine Ev.if_ D_113 (c := .eq) (off := 15) (by decide +kernel) (t := 36) rfl (fun c7 => ?_) (fun c7 => ?_)
    · have c7 : p6 = 0 := of_decide_eq_true c7
      rw [if_pos c7] at h
      refine Ev.seg D_113 [(.sipush (-1000), 3)] (by decide +kernel) (j := 0) (pc' := 39) (lv' := [(0, .ref 0), (1, .int v1), (2, .int v2), (3, .int v3)]) (st' := [.int (-1000 : Int32)]) rfl ?_
      cases h
      obtain rfl : o = _ := ho
      exact Ev.iret D_113 (by decide +kernel)
    · have c7 : ¬ p6 = 0 := of_decide_eq_false c7
      rw [if_neg c7] at h
      refine Ev.seg D_113 [(.aload_n 0, 1)] (by decide +kernel) (j := 0) (pc' := 25) (lv' := [(0, .ref 0), (1, .int v1), (2, .int v2), (3, .int v3)]) (st' := [.ref 0]) rfl ?_
      refine Ev.getR D_113 (by decide +kernel) F_9_28 T_9_2 (x := 16) (S_oR k_0 (by decide +kernel)) ?_
      refine Ev.seg D_113 [(.iload_n 3, 1), (.i2l, 1)] (by decide +kernel) (j := 0) (pc' := 30) (lv' := [(0, .ref 0), (1, .int v1), (2, .int v2), (3, .int v3)]) (st' := [.long v3.toInt64, .ref 16]) rfl ?_
      obtain ⟨p10, e10, h⟩ := bd h
      refine Ev.callv D_113 E_42 (by decide +kernel) C_9_158 16 [.long v3.toInt64] (r := []) rfl (gd_o k_16 (by decide)) rfl (Nat.le_of_ble_eq_true rfl) (Nat.le_of_ble_eq_true rfl) (gR_hasStep_ok (by omega) (by decide) e10) ?_
      refine Ev.if_ D_113 (c := .ne) (off := 7) (by decide +kernel) (t := 40) rfl (fun c11 => ?_) (fun c11 => ?_)
      · have c11 : ¬ p10 = 0 := of_decide_eq_true c11
        rw [if_neg c11] at h
        refine Ev.seg D_113 [(.aload_n 0, 1)] (by decide +kernel) (j := 0) (pc' := 41) (lv' := [(0, .ref 0), (1, .int v1), (2, .int v2), (3, .int v3)]) (st' := [.ref 0]) rfl ?_
        refine Ev.getR D_113 (by decide +kernel) F_9_37 T_9_5 (x := 28) (S_oR k_0 (by decide +kernel)) ?_
        refine Ev.getR D_113 (by decide +kernel) F_9_161 T_0_7 (x := 55) (S_oR k_28 (by decide +kernel)) ?_
        refine Ev.seg D_113 [(.iload_n 3, 1)] (by decide +kernel) (j := 0) (pc' := 48) (lv' := [(0, .ref 0), (1, .int v1), (2, .int v2), (3, .int v3)]) (st' := [.int v3, .ref 55]) rfl ?_
        by_cases b48 : ¬ (v3 < 0 ∨ 21 ≤ v3.toNatClampNeg)
        rotate_left
        · rw [if_neg b48] at h; cases h
        rw [if_pos b48] at h
        refine Ev.aald D_113 (by decide +kernel) (kd := 26) ⟨by decide, by decide⟩ (x := (56 + v3.toNatClampNeg)) (S_aR k_55 b48 (lit_aa (e := 56) (n := 21) (by decide +kernel) b48)) ?_
        refine Ev.seg D_113 [(.iload_n 1, 1)] (by decide +kernel) (j := 0) (pc' := 50) (lv' := [(0, .ref 0), (1, .int v1), (2, .int v2), (3, .int v3)]) (st' := [.int v1, .ref (56 + v3.toNatClampNeg)]) rfl ?_
        obtain ⟨x15, e15, h⟩ := bd h
        refine Ev.iald D_113 (by decide +kernel) (S_aI (lit_row (e := 56) (n := 21) (by decide +kernel) b48) e15) ?_
        refine Ev.seg D_113 [(.aload_n 0, 1)] (by decide +kernel) (j := 0) (pc' := 52) (lv' := [(0, .ref 0), (1, .int v1), (2, .int v2), (3, .int v3)]) (st' := [.ref 0, .int x15]) rfl ?_
        refine Ev.getR D_113 (by decide +kernel) F_9_37 T_9_5 (x := 28) (S_oR k_0 (by decide +kernel)) ?_
        refine Ev.getR D_113 (by decide +kernel) F_9_161 T_0_7 (x := 55) (S_oR k_28 (by decide +kernel)) ?_
        refine Ev.seg D_113 [(.iload_n 3, 1)] (by decide +kernel) (j := 0) (pc' := 59) (lv' := [(0, .ref 0), (1, .int v1), (2, .int v2), (3, .int v3)]) (st' := [.int v3, .ref 55, .int x15]) rfl ?_
        by_cases b59 : ¬ (v3 < 0 ∨ 21 ≤ v3.toNatClampNeg)
        rotate_left
        · rw [if_neg b59] at h; cases h
        rw [if_pos b59] at h
        refine Ev.aald D_113 (by decide +kernel) (kd := 26) ⟨by decide, by decide⟩ (x := (56 + v3.toNatClampNeg)) (S_aR k_55 b59 (lit_aa (e := 56) (n := 21) (by decide +kernel) b59)) ?_
        refine Ev.seg D_113 [(.iload_n 2, 1)] (by decide +kernel) (j := 0) (pc' := 61) (lv' := [(0, .ref 0), (1, .int v1), (2, .int v2), (3, .int v3)]) (st' := [.int v2, .ref (56 + v3.toNatClampNeg), .int x15]) rfl ?_
        obtain ⟨x19, e19, h⟩ := bd h
        refine Ev.iald D_113 (by decide +kernel) (S_aI (lit_row (e := 56) (n := 21) (by decide +kernel) b59) e19) ?_
        refine Ev.seg D_113 [(.isub, 1)] (by decide +kernel) (j := 0) (pc' := 63) (lv' := [(0, .ref 0), (1, .int v1), (2, .int v2), (3, .int v3)]) (st' := [.int (x15 - x19)]) rfl ?_
        cases h
        obtain rfl : o = _ := ho
        exact Ev.iret D_113 (by decide +kernel)
      · have c11 : p10 = 0 := Decidable.of_not_not (of_decide_eq_false c11)
        rw [if_pos c11] at h
        refine Ev.seg D_113 [(.sipush (-1000), 3)] (by decide +kernel) (j := 0) (pc' := 39) (lv' := [(0, .ref 0), (1, .int v1), (2, .int v2), (3, .int v3)]) (st' := [.int (-1000 : Int32)]) rfl ?_
        cases h
        obtain rfl : o = _ := ho
        exact Ev.iret D_113 (by decide +kernel)
/- PennantLawn changes: 114 -/
def gL_changes_h17 (s : mT) (q : Int32 × Int32) : Option ((Int32 × Int32) ⊕ (Int32)) :=
  if (s.1 16 0) < q.2 then
    some (.inr q.1)
  else
    (gC_leader 28 q.2 s).bind fun p5 =>
    (gC_leader 28 (q.2 - (1 : Int32)) s).bind fun p7 =>
    (
      if p5 = p7 then
        some (q.1)
      else
        some (q.1 + (1 : Int32)) : Option (Int32)).bind fun x8 =>
    some (.inl (x8, q.2 + (1 : Int32)))
set_option maxRecDepth 8000 in
theorem gL_changes_h17_ok {L d : Nat} (hd : 3 ≤ d + 1) {s : mT} : ∀ (q : Int32 × Int32) (x : (Int32 × Int32) ⊕ (Int32)), gL_changes_h17 s q = some x → ∀ o, sK (fun q => Ev (d + 1) 114 17 [(0, .ref 0), (1, .int q.1), (2, .int q.2)] [] (uS L s) o) (fun r => Ev (d + 1) 114 58 [(1, .int r)] [] (uS L s) o) x → Ev (d + 1) 114 17 [(0, .ref 0), (1, .int q.1), (2, .int q.2)] [] (uS L s) o := by
  intro q x h o ho
  unfold gL_changes_h17 at h
  refine Ev.seg D_114 [(.iload_n 2, 1), (.aload_n 0, 1)] (by decide +kernel) (j := 0) (pc' := 19) (lv' := [(0, .ref 0), (1, .int q.1), (2, .int q.2)]) (st' := [.ref 0, .int q.2]) rfl ?_
  refine Ev.getR D_114 (by decide +kernel) F_9_28 T_9_2 (x := 16) (S_oR k_0 (by decide +kernel)) ?_
  refine Ev.getI D_114 (by decide +kernel) F_9_187 (Or.inl T_2_0) (S_oI k_16) ?_
  refine Ev.icmp D_114 (c := .gt) (off := 33) (by decide +kernel) (t := 58) rfl (fun c3 => ?_) (fun c3 => ?_)
  · have c3 : (s.1 16 0) < q.2 := of_decide_eq_true c3
    rw [if_pos c3] at h
    cases h
    exact Ev.sub (lv' := [(1, .int q.1)]) (subL_cons rfl subL_nil) ho
  · have c3 : ¬ (s.1 16 0) < q.2 := of_decide_eq_false c3
    rw [if_neg c3] at h
    refine Ev.seg D_114 [(.aload_n 0, 1)] (by decide +kernel) (j := 0) (pc' := 29) (lv' := [(0, .ref 0), (1, .int q.1), (2, .int q.2)]) (st' := [.ref 0]) rfl ?_
    refine Ev.getR D_114 (by decide +kernel) F_9_37 T_9_5 (x := 28) (S_oR k_0 (by decide +kernel)) ?_
    refine Ev.seg D_114 [(.iload_n 2, 1)] (by decide +kernel) (j := 0) (pc' := 33) (lv' := [(0, .ref 0), (1, .int q.1), (2, .int q.2)]) (st' := [.int q.2, .ref 28]) rfl ?_
    obtain ⟨p5, e5, h⟩ := bd h
    refine Ev.callv D_114 E_14 (by decide +kernel) C_9_180 28 [.int q.2] (r := []) rfl (gd_o k_28 (by decide)) rfl (Nat.le_of_ble_eq_true rfl) (Nat.le_of_ble_eq_true rfl) (gC_leader_ok (by omega) (by decide) e5) ?_
    refine Ev.seg D_114 [(.aload_n 0, 1)] (by decide +kernel) (j := 0) (pc' := 37) (lv' := [(0, .ref 0), (1, .int q.1), (2, .int q.2)]) (st' := [.ref 0, .int p5]) rfl ?_
    refine Ev.getR D_114 (by decide +kernel) F_9_37 T_9_5 (x := 28) (S_oR k_0 (by decide +kernel)) ?_
    refine Ev.seg D_114 [(.iload_n 2, 1), (.iconst 1, 1), (.isub, 1)] (by decide +kernel) (j := 0) (pc' := 43) (lv' := [(0, .ref 0), (1, .int q.1), (2, .int q.2)]) (st' := [.int (q.2 - (1 : Int32)), .ref 28, .int p5]) rfl ?_
    obtain ⟨p7, e7, h⟩ := bd h
    refine Ev.callv D_114 E_14 (by decide +kernel) C_9_180 28 [.int (q.2 - (1 : Int32))] (r := [.int p5]) rfl (gd_o k_28 (by decide)) rfl (Nat.le_of_ble_eq_true rfl) (Nat.le_of_ble_eq_true rfl) (gC_leader_ok (by omega) (by decide) e7) ?_
    obtain ⟨x8, g8, h⟩ := bd h
    have j8 : Ev (d + 1) 114 52 [(0, .ref 0), (1, .int x8), (2, .int q.2)] [] (uS L s) o := by
      clear g8
      refine Ev.seg D_114 [(.iinc 2 1, 3), (.goto (-38), 3)] (by decide +kernel) (j := 0) (pc' := 17) (lv' := [(2, .int (q.2 + (1 : Int32))), (0, .ref 0), (1, .int x8)]) (st' := []) rfl ?_
      cases h
      exact Ev.sub (lv' := [(0, .ref 0), (1, .int (x8)), (2, .int (q.2 + (1 : Int32)))]) (subL_cons rfl (subL_cons rfl (subL_cons rfl subL_nil))) ho
    clear h
    refine Ev.icmp D_114 (c := .eq) (off := 6) (by decide +kernel) (t := 52) rfl (fun c8 => ?_) (fun c8 => ?_)
    · have c8 : p5 = p7 := of_decide_eq_true c8
      rw [if_pos c8] at g8
      cases g8
      exact Ev.sub2 j8 (subL_cons rfl (subL_cons rfl (subL_cons rfl subL_nil)))
    · have c8 : ¬ p5 = p7 := of_decide_eq_false c8
      rw [if_neg c8] at g8
      refine Ev.seg D_114 [(.iinc 1 1, 3)] (by decide +kernel) (j := 0) (pc' := 52) (lv' := [(1, .int (q.1 + (1 : Int32))), (0, .ref 0), (2, .int q.2)]) (st' := []) rfl ?_
      cases g8
      exact Ev.sub2 j8 (subL_cons rfl (subL_cons rfl (subL_cons rfl subL_nil)))
theorem gL_changes_h17_w {L d : Nat} (hd : 3 ≤ d + 1) {s : mT} : ∀ (n : Nat) (q : Int32 × Int32) (r : Int32), wh n (gL_changes_h17 s) q = some r → ∀ o, (fun r => Ev (d + 1) 114 58 [(1, .int r)] [] (uS L s) o) r → Ev (d + 1) 114 17 [(0, .ref 0), (1, .int q.1), (2, .int q.2)] [] (uS L s) o :=
  fun n q r h o hc => wh_ev (E := fun (q : Int32 × Int32) o => Ev (d + 1) 114 17 [(0, .ref 0), (1, .int q.1), (2, .int q.2)] [] (uS L s) o) (C := fun (r : Int32) o => (fun r => Ev (d + 1) 114 58 [(1, .int r)] [] (uS L s) o) r) (gL_changes_h17_ok hd  ) n q r h o hc
def gL_changes (s : mT) : Option (Int32) :=
  (gR_exists 16 s).bind fun p2 =>
  if p2 = 0 then
    some ((-2 : Int32))
  else
    (wh FU (gL_changes_h17 s) ((0 : Int32), (1 : Int32))).bind fun x9 =>
    some (x9)
set_option maxRecDepth 8000 in
theorem gL_changes_ok {L d : Nat} (hd : 3 ≤ d) {s : mT} {p : Int32} (h : gL_changes s = some p) : Ev d 114 0 [(0, .ref 0)] [] (uS L s) (some (.int p), uS L s) := by
  obtain ⟨d, rfl⟩ : ∃ e, d = e + 1 := ⟨d - 1, by omega⟩
  obtain ⟨o, ho⟩ : ∃ o : Option Value × mS, o = (some (.int p), uS L s) := ⟨_, rfl⟩
  rw [← ho]
  unfold gL_changes at h
  refine Ev.seg D_114 [(.aload_n 0, 1)] (by decide +kernel) (j := 0) (pc' := 1) (lv' := [(0, .ref 0)]) (st' := [.ref 0]) rfl ?_
  refine Ev.getR D_114 (by decide +kernel) F_9_28 T_9_2 (x := 16) (S_oR k_0 (by decide +kernel)) ?_
  obtain ⟨p2, e2, h⟩ := bd h
  refine Ev.callv D_114 E_43 (by decide +kernel) C_9_196 16 [] (r := []) rfl (gd_o k_16 (by decide)) rfl (Nat.le_of_ble_eq_true rfl) (Nat.le_of_ble_eq_true rfl) (gR_exists_ok (by omega) (by decide) e2) ?_
  refine Ev.if_ D_114 (c := .ne) (off := 6) (by decide +kernel) (t := 13) rfl (fun c3 => ?_) (fun c3 => ?_)
  · have c3 : ¬ p2 = 0 := of_decide_eq_true c3
    rw [if_neg c3] at h
    refine Ev.seg D_114 [(.iconst 0, 1), (.istore_n 1, 1), (.iconst 1, 1), (.istore_n 2, 1)] (by decide +kernel) (j := 0) (pc' := 17) (lv' := [(2, .int (1 : Int32)), (1, .int (0 : Int32)), (0, .ref 0)]) (st' := []) rfl ?_
    obtain ⟨x9, w9, h⟩ := bd h
    have j9 : Ev (d + 1) 114 58 [(1, .int x9)] [] (uS L s) o := by
      clear w9
      refine Ev.seg D_114 [(.iload_n 1, 1)] (by decide +kernel) (j := 0) (pc' := 59) (lv' := [(1, .int x9)]) (st' := [.int x9]) rfl ?_
      cases h
      obtain rfl : o = _ := ho
      exact Ev.iret D_114 (by decide +kernel)
    exact Ev.sub (lv' := [(0, .ref 0), (1, .int (0 : Int32)), (2, .int (1 : Int32))]) (subL_cons rfl (subL_cons rfl (subL_cons rfl subL_nil))) (gL_changes_h17_w hd   _ _ _ w9 _ j9)
  · have c3 : p2 = 0 := Decidable.of_not_not (of_decide_eq_false c3)
    rw [if_pos c3] at h
    refine Ev.seg D_114 [(.bipush (-2), 2)] (by decide +kernel) (j := 0) (pc' := 12) (lv' := [(0, .ref 0)]) (st' := [.int (-2 : Int32)]) rfl ?_
    cases h
    obtain rfl : o = _ := ho
    exact Ev.iret D_114 (by decide +kernel)
/- PennantLawn wavers: 115 -/
def gL_wavers_h18 (v1 : Int32) (s : mT) (q : Int32 × Int32) : Option ((Int32 × Int32) ⊕ (Int32)) :=
  if (s.1 16 0) < q.2 then
    some (.inr q.1)
  else
    if ¬ (q.2 < 0 ∨ 21 ≤ q.2.toNatClampNeg) then
      (rdI (s.1 (78 + q.2.toNatClampNeg)) 5 v1).bind fun x7 =>
      if ¬ ((q.2 - (1 : Int32)) < 0 ∨ 21 ≤ (q.2 - (1 : Int32)).toNatClampNeg) then
        (rdI (s.1 (78 + (q.2 - (1 : Int32)).toNatClampNeg)) 5 v1).bind fun x11 =>
        (
          if x7 = x11 then
            some (q.1)
          else
            some (q.1 + (1 : Int32)) : Option (Int32)).bind fun x12 =>
        some (.inl (x12, q.2 + (1 : Int32)))
      else none
    else none
set_option maxRecDepth 8000 in
theorem gL_wavers_h18_ok {L d : Nat} (hd : 2 ≤ d + 1) {v1 : Int32} {s : mT} : ∀ (q : Int32 × Int32) (x : (Int32 × Int32) ⊕ (Int32)), gL_wavers_h18 v1 s q = some x → ∀ o, sK (fun q => Ev (d + 1) 115 18 [(0, .ref 0), (1, .int v1), (2, .int q.1), (3, .int q.2)] [] (uS L s) o) (fun r => Ev (d + 1) 115 65 [(2, .int r)] [] (uS L s) o) x → Ev (d + 1) 115 18 [(0, .ref 0), (1, .int v1), (2, .int q.1), (3, .int q.2)] [] (uS L s) o := by
  intro q x h o ho
  unfold gL_wavers_h18 at h
  refine Ev.seg D_115 [(.iload_n 3, 1), (.aload_n 0, 1)] (by decide +kernel) (j := 0) (pc' := 20) (lv' := [(0, .ref 0), (1, .int v1), (2, .int q.1), (3, .int q.2)]) (st' := [.ref 0, .int q.2]) rfl ?_
  refine Ev.getR D_115 (by decide +kernel) F_9_28 T_9_2 (x := 16) (S_oR k_0 (by decide +kernel)) ?_
  refine Ev.getI D_115 (by decide +kernel) F_9_187 (Or.inl T_2_0) (S_oI k_16) ?_
  refine Ev.icmp D_115 (c := .gt) (off := 39) (by decide +kernel) (t := 65) rfl (fun c3 => ?_) (fun c3 => ?_)
  · have c3 : (s.1 16 0) < q.2 := of_decide_eq_true c3
    rw [if_pos c3] at h
    cases h
    exact Ev.sub (lv' := [(2, .int q.1)]) (subL_cons rfl subL_nil) ho
  · have c3 : ¬ (s.1 16 0) < q.2 := of_decide_eq_false c3
    rw [if_neg c3] at h
    refine Ev.seg D_115 [(.aload_n 0, 1)] (by decide +kernel) (j := 0) (pc' := 30) (lv' := [(0, .ref 0), (1, .int v1), (2, .int q.1), (3, .int q.2)]) (st' := [.ref 0]) rfl ?_
    refine Ev.getR D_115 (by decide +kernel) F_9_37 T_9_5 (x := 28) (S_oR k_0 (by decide +kernel)) ?_
    refine Ev.getR D_115 (by decide +kernel) F_9_165 T_0_8 (x := 77) (S_oR k_28 (by decide +kernel)) ?_
    refine Ev.seg D_115 [(.iload_n 3, 1)] (by decide +kernel) (j := 0) (pc' := 37) (lv' := [(0, .ref 0), (1, .int v1), (2, .int q.1), (3, .int q.2)]) (st' := [.int q.2, .ref 77]) rfl ?_
    by_cases b37 : ¬ (q.2 < 0 ∨ 21 ≤ q.2.toNatClampNeg)
    rotate_left
    · rw [if_neg b37] at h; cases h
    rw [if_pos b37] at h
    refine Ev.aald D_115 (by decide +kernel) (kd := 26) ⟨by decide, by decide⟩ (x := (78 + q.2.toNatClampNeg)) (S_aR k_77 b37 (lit_aa (e := 78) (n := 21) (by decide +kernel) b37)) ?_
    refine Ev.seg D_115 [(.iload_n 1, 1)] (by decide +kernel) (j := 0) (pc' := 39) (lv' := [(0, .ref 0), (1, .int v1), (2, .int q.1), (3, .int q.2)]) (st' := [.int v1, .ref (78 + q.2.toNatClampNeg)]) rfl ?_
    obtain ⟨x7, e7, h⟩ := bd h
    refine Ev.iald D_115 (by decide +kernel) (S_aI (lit_row (e := 78) (n := 21) (by decide +kernel) b37) e7) ?_
    refine Ev.seg D_115 [(.aload_n 0, 1)] (by decide +kernel) (j := 0) (pc' := 41) (lv' := [(0, .ref 0), (1, .int v1), (2, .int q.1), (3, .int q.2)]) (st' := [.ref 0, .int x7]) rfl ?_
    refine Ev.getR D_115 (by decide +kernel) F_9_37 T_9_5 (x := 28) (S_oR k_0 (by decide +kernel)) ?_
    refine Ev.getR D_115 (by decide +kernel) F_9_165 T_0_8 (x := 77) (S_oR k_28 (by decide +kernel)) ?_
    refine Ev.seg D_115 [(.iload_n 3, 1), (.iconst 1, 1), (.isub, 1)] (by decide +kernel) (j := 0) (pc' := 50) (lv' := [(0, .ref 0), (1, .int v1), (2, .int q.1), (3, .int q.2)]) (st' := [.int (q.2 - (1 : Int32)), .ref 77, .int x7]) rfl ?_
    by_cases b50 : ¬ ((q.2 - (1 : Int32)) < 0 ∨ 21 ≤ (q.2 - (1 : Int32)).toNatClampNeg)
    rotate_left
    · rw [if_neg b50] at h; cases h
    rw [if_pos b50] at h
    refine Ev.aald D_115 (by decide +kernel) (kd := 26) ⟨by decide, by decide⟩ (x := (78 + (q.2 - (1 : Int32)).toNatClampNeg)) (S_aR k_77 b50 (lit_aa (e := 78) (n := 21) (by decide +kernel) b50)) ?_
    refine Ev.seg D_115 [(.iload_n 1, 1)] (by decide +kernel) (j := 0) (pc' := 52) (lv' := [(0, .ref 0), (1, .int v1), (2, .int q.1), (3, .int q.2)]) (st' := [.int v1, .ref (78 + (q.2 - (1 : Int32)).toNatClampNeg), .int x7]) rfl ?_
    obtain ⟨x11, e11, h⟩ := bd h
    refine Ev.iald D_115 (by decide +kernel) (S_aI (lit_row (e := 78) (n := 21) (by decide +kernel) b50) e11) ?_
    obtain ⟨x12, g12, h⟩ := bd h
    have j12 : Ev (d + 1) 115 59 [(0, .ref 0), (1, .int v1), (2, .int x12), (3, .int q.2)] [] (uS L s) o := by
      clear g12
      refine Ev.seg D_115 [(.iinc 3 1, 3), (.goto (-44), 3)] (by decide +kernel) (j := 0) (pc' := 18) (lv' := [(3, .int (q.2 + (1 : Int32))), (0, .ref 0), (1, .int v1), (2, .int x12)]) (st' := []) rfl ?_
      cases h
      exact Ev.sub (lv' := [(0, .ref 0), (1, .int v1), (2, .int (x12)), (3, .int (q.2 + (1 : Int32)))]) (subL_cons rfl (subL_cons rfl (subL_cons rfl (subL_cons rfl subL_nil)))) ho
    clear h
    refine Ev.icmp D_115 (c := .eq) (off := 6) (by decide +kernel) (t := 59) rfl (fun c12 => ?_) (fun c12 => ?_)
    · have c12 : x7 = x11 := of_decide_eq_true c12
      rw [if_pos c12] at g12
      cases g12
      exact Ev.sub2 j12 (subL_cons rfl (subL_cons rfl (subL_cons rfl (subL_cons rfl subL_nil))))
    · have c12 : ¬ x7 = x11 := of_decide_eq_false c12
      rw [if_neg c12] at g12
      refine Ev.seg D_115 [(.iinc 2 1, 3)] (by decide +kernel) (j := 0) (pc' := 59) (lv' := [(2, .int (q.1 + (1 : Int32))), (0, .ref 0), (1, .int v1), (3, .int q.2)]) (st' := []) rfl ?_
      cases g12
      exact Ev.sub2 j12 (subL_cons rfl (subL_cons rfl (subL_cons rfl (subL_cons rfl subL_nil))))
theorem gL_wavers_h18_w {L d : Nat} (hd : 2 ≤ d + 1) {v1 : Int32} {s : mT} : ∀ (n : Nat) (q : Int32 × Int32) (r : Int32), wh n (gL_wavers_h18 v1 s) q = some r → ∀ o, (fun r => Ev (d + 1) 115 65 [(2, .int r)] [] (uS L s) o) r → Ev (d + 1) 115 18 [(0, .ref 0), (1, .int v1), (2, .int q.1), (3, .int q.2)] [] (uS L s) o :=
  fun n q r h o hc => wh_ev (E := fun (q : Int32 × Int32) o => Ev (d + 1) 115 18 [(0, .ref 0), (1, .int v1), (2, .int q.1), (3, .int q.2)] [] (uS L s) o) (C := fun (r : Int32) o => (fun r => Ev (d + 1) 115 65 [(2, .int r)] [] (uS L s) o) r) (gL_wavers_h18_ok hd  ) n q r h o hc
def gL_wavers (v1 : Int32) (s : mT) : Option (Int32) :=
  (gR_hasWatcher 16 v1 s).bind fun p2 =>
  if p2 = 0 then
    some ((-2 : Int32))
  else
    (wh FU (gL_wavers_h18 v1 s) ((0 : Int32), (1 : Int32))).bind fun x13 =>
    some (x13)
set_option maxRecDepth 8000 in
theorem gL_wavers_ok {L d : Nat} (hd : 2 ≤ d) {v1 : Int32} {s : mT} {p : Int32} (h : gL_wavers v1 s = some p) : Ev d 115 0 [(0, .ref 0), (1, .int v1)] [] (uS L s) (some (.int p), uS L s) := by
  obtain ⟨d, rfl⟩ : ∃ e, d = e + 1 := ⟨d - 1, by omega⟩
  obtain ⟨o, ho⟩ : ∃ o : Option Value × mS, o = (some (.int p), uS L s) := ⟨_, rfl⟩
  rw [← ho]
  unfold gL_wavers at h
  refine Ev.seg D_115 [(.aload_n 0, 1)] (by decide +kernel) (j := 0) (pc' := 1) (lv' := [(0, .ref 0), (1, .int v1)]) (st' := [.ref 0]) rfl ?_
  refine Ev.getR D_115 (by decide +kernel) F_9_28 T_9_2 (x := 16) (S_oR k_0 (by decide +kernel)) ?_
  refine Ev.seg D_115 [(.iload_n 1, 1)] (by decide +kernel) (j := 0) (pc' := 5) (lv' := [(0, .ref 0), (1, .int v1)]) (st' := [.int v1, .ref 16]) rfl ?_
  obtain ⟨p2, e2, h⟩ := bd h
  refine Ev.callv D_115 E_40 (by decide +kernel) C_9_134 16 [.int v1] (r := []) rfl (gd_o k_16 (by decide)) rfl (Nat.le_of_ble_eq_true rfl) (Nat.le_of_ble_eq_true rfl) (gR_hasWatcher_ok (by omega) (by decide) e2) ?_
  refine Ev.if_ D_115 (c := .ne) (off := 6) (by decide +kernel) (t := 14) rfl (fun c3 => ?_) (fun c3 => ?_)
  · have c3 : ¬ p2 = 0 := of_decide_eq_true c3
    rw [if_neg c3] at h
    refine Ev.seg D_115 [(.iconst 0, 1), (.istore_n 2, 1), (.iconst 1, 1), (.istore_n 3, 1)] (by decide +kernel) (j := 0) (pc' := 18) (lv' := [(3, .int (1 : Int32)), (2, .int (0 : Int32)), (0, .ref 0), (1, .int v1)]) (st' := []) rfl ?_
    obtain ⟨x13, w13, h⟩ := bd h
    have j13 : Ev (d + 1) 115 65 [(2, .int x13)] [] (uS L s) o := by
      clear w13
      refine Ev.seg D_115 [(.iload_n 2, 1)] (by decide +kernel) (j := 0) (pc' := 66) (lv' := [(2, .int x13)]) (st' := [.int x13]) rfl ?_
      cases h
      obtain rfl : o = _ := ho
      exact Ev.iret D_115 (by decide +kernel)
    exact Ev.sub (lv' := [(0, .ref 0), (1, .int v1), (2, .int (0 : Int32)), (3, .int (1 : Int32))]) (subL_cons rfl (subL_cons rfl (subL_cons rfl (subL_cons rfl subL_nil)))) (gL_wavers_h18_w hd   _ _ _ w13 _ j13)
  · have c3 : p2 = 0 := Decidable.of_not_not (of_decide_eq_false c3)
    rw [if_pos c3] at h
    refine Ev.seg D_115 [(.bipush (-2), 2)] (by decide +kernel) (j := 0) (pc' := 13) (lv' := [(0, .ref 0), (1, .int v1)]) (st' := [.int (-2 : Int32)]) rfl ?_
    cases h
    obtain rfl : o = _ := ho
    exact Ev.iret D_115 (by decide +kernel)
/- PennantLawn speed: 116 -/
def gL_speed (v1 : Int32) (v2 : Int32) (s : mT) : Option (Int32) :=
  (gR_hasBoat 16 v1.toInt64 s).bind fun p2 =>
  if p2 = 0 then
    some ((-2 : Int32))
  else
    (gR_hasEarlyStep 16 v2 s).bind fun p6 =>
    if p6 = 0 then
      some ((-2 : Int32))
    else
      if ¬ ((v2 + (1 : Int32)) < 0 ∨ 21 ≤ (v2 + (1 : Int32)).toNatClampNeg) then
        (rdI (s.1 (56 + (v2 + (1 : Int32)).toNatClampNeg)) 5 v1).bind fun x11 =>
        if ¬ (v2 < 0 ∨ 21 ≤ v2.toNatClampNeg) then
          (rdI (s.1 (56 + v2.toNatClampNeg)) 5 v1).bind fun x15 =>
          some (x11 - x15)
        else none
      else none
set_option maxRecDepth 8000 in
theorem gL_speed_ok {L d : Nat} (hd : 3 ≤ d) {v1 : Int32} {v2 : Int32} {s : mT} {p : Int32} (h : gL_speed v1 v2 s = some p) : Ev d 116 0 [(0, .ref 0), (1, .int v1), (2, .int v2)] [] (uS L s) (some (.int p), uS L s) := by
  obtain ⟨d, rfl⟩ : ∃ e, d = e + 1 := ⟨d - 1, by omega⟩
  obtain ⟨o, ho⟩ : ∃ o : Option Value × mS, o = (some (.int p), uS L s) := ⟨_, rfl⟩
  rw [← ho]
  unfold gL_speed at h
  refine Ev.seg D_116 [(.aload_n 0, 1)] (by decide +kernel) (j := 0) (pc' := 1) (lv' := [(0, .ref 0), (1, .int v1), (2, .int v2)]) (st' := [.ref 0]) rfl ?_
  refine Ev.getR D_116 (by decide +kernel) F_9_28 T_9_2 (x := 16) (S_oR k_0 (by decide +kernel)) ?_
  refine Ev.seg D_116 [(.iload_n 1, 1), (.i2l, 1)] (by decide +kernel) (j := 0) (pc' := 6) (lv' := [(0, .ref 0), (1, .int v1), (2, .int v2)]) (st' := [.long v1.toInt64, .ref 16]) rfl ?_
  obtain ⟨p2, e2, h⟩ := bd h
  refine Ev.callv D_116 E_39 (by decide +kernel) C_9_119 16 [.long v1.toInt64] (r := []) rfl (gd_o k_16 (by decide)) rfl (Nat.le_of_ble_eq_true rfl) (Nat.le_of_ble_eq_true rfl) (gR_hasBoat_ok (by omega) (by decide) e2) ?_
  refine Ev.if_ D_116 (c := .eq) (off := 14) (by decide +kernel) (t := 23) rfl (fun c3 => ?_) (fun c3 => ?_)
  · have c3 : p2 = 0 := of_decide_eq_true c3
    rw [if_pos c3] at h
    refine Ev.seg D_116 [(.bipush (-2), 2)] (by decide +kernel) (j := 0) (pc' := 25) (lv' := [(0, .ref 0), (1, .int v1), (2, .int v2)]) (st' := [.int (-2 : Int32)]) rfl ?_
    cases h
    obtain rfl : o = _ := ho
    exact Ev.iret D_116 (by decide +kernel)
  · have c3 : ¬ p2 = 0 := of_decide_eq_false c3
    rw [if_neg c3] at h
    refine Ev.seg D_116 [(.aload_n 0, 1)] (by decide +kernel) (j := 0) (pc' := 13) (lv' := [(0, .ref 0), (1, .int v1), (2, .int v2)]) (st' := [.ref 0]) rfl ?_
    refine Ev.getR D_116 (by decide +kernel) F_9_28 T_9_2 (x := 16) (S_oR k_0 (by decide +kernel)) ?_
    refine Ev.seg D_116 [(.iload_n 2, 1)] (by decide +kernel) (j := 0) (pc' := 17) (lv' := [(0, .ref 0), (1, .int v1), (2, .int v2)]) (st' := [.int v2, .ref 16]) rfl ?_
    obtain ⟨p6, e6, h⟩ := bd h
    refine Ev.callv D_116 E_44 (by decide +kernel) C_9_168 16 [.int v2] (r := []) rfl (gd_o k_16 (by decide)) rfl (Nat.le_of_ble_eq_true rfl) (Nat.le_of_ble_eq_true rfl) (gR_hasEarlyStep_ok (by omega) (by decide) e6) ?_
    refine Ev.if_ D_116 (c := .ne) (off := 6) (by decide +kernel) (t := 26) rfl (fun c7 => ?_) (fun c7 => ?_)
    · have c7 : ¬ p6 = 0 := of_decide_eq_true c7
      rw [if_neg c7] at h
      refine Ev.seg D_116 [(.aload_n 0, 1)] (by decide +kernel) (j := 0) (pc' := 27) (lv' := [(0, .ref 0), (1, .int v1), (2, .int v2)]) (st' := [.ref 0]) rfl ?_
      refine Ev.getR D_116 (by decide +kernel) F_9_37 T_9_5 (x := 28) (S_oR k_0 (by decide +kernel)) ?_
      refine Ev.getR D_116 (by decide +kernel) F_9_161 T_0_7 (x := 55) (S_oR k_28 (by decide +kernel)) ?_
      refine Ev.seg D_116 [(.iload_n 2, 1), (.iconst 1, 1), (.iadd, 1)] (by decide +kernel) (j := 0) (pc' := 36) (lv' := [(0, .ref 0), (1, .int v1), (2, .int v2)]) (st' := [.int (v2 + (1 : Int32)), .ref 55]) rfl ?_
      by_cases b36 : ¬ ((v2 + (1 : Int32)) < 0 ∨ 21 ≤ (v2 + (1 : Int32)).toNatClampNeg)
      rotate_left
      · rw [if_neg b36] at h; cases h
      rw [if_pos b36] at h
      refine Ev.aald D_116 (by decide +kernel) (kd := 26) ⟨by decide, by decide⟩ (x := (56 + (v2 + (1 : Int32)).toNatClampNeg)) (S_aR k_55 b36 (lit_aa (e := 56) (n := 21) (by decide +kernel) b36)) ?_
      refine Ev.seg D_116 [(.iload_n 1, 1)] (by decide +kernel) (j := 0) (pc' := 38) (lv' := [(0, .ref 0), (1, .int v1), (2, .int v2)]) (st' := [.int v1, .ref (56 + (v2 + (1 : Int32)).toNatClampNeg)]) rfl ?_
      obtain ⟨x11, e11, h⟩ := bd h
      refine Ev.iald D_116 (by decide +kernel) (S_aI (lit_row (e := 56) (n := 21) (by decide +kernel) b36) e11) ?_
      refine Ev.seg D_116 [(.aload_n 0, 1)] (by decide +kernel) (j := 0) (pc' := 40) (lv' := [(0, .ref 0), (1, .int v1), (2, .int v2)]) (st' := [.ref 0, .int x11]) rfl ?_
      refine Ev.getR D_116 (by decide +kernel) F_9_37 T_9_5 (x := 28) (S_oR k_0 (by decide +kernel)) ?_
      refine Ev.getR D_116 (by decide +kernel) F_9_161 T_0_7 (x := 55) (S_oR k_28 (by decide +kernel)) ?_
      refine Ev.seg D_116 [(.iload_n 2, 1)] (by decide +kernel) (j := 0) (pc' := 47) (lv' := [(0, .ref 0), (1, .int v1), (2, .int v2)]) (st' := [.int v2, .ref 55, .int x11]) rfl ?_
      by_cases b47 : ¬ (v2 < 0 ∨ 21 ≤ v2.toNatClampNeg)
      rotate_left
      · rw [if_neg b47] at h; cases h
      rw [if_pos b47] at h
      refine Ev.aald D_116 (by decide +kernel) (kd := 26) ⟨by decide, by decide⟩ (x := (56 + v2.toNatClampNeg)) (S_aR k_55 b47 (lit_aa (e := 56) (n := 21) (by decide +kernel) b47)) ?_
      refine Ev.seg D_116 [(.iload_n 1, 1)] (by decide +kernel) (j := 0) (pc' := 49) (lv' := [(0, .ref 0), (1, .int v1), (2, .int v2)]) (st' := [.int v1, .ref (56 + v2.toNatClampNeg), .int x11]) rfl ?_
      obtain ⟨x15, e15, h⟩ := bd h
      refine Ev.iald D_116 (by decide +kernel) (S_aI (lit_row (e := 56) (n := 21) (by decide +kernel) b47) e15) ?_
      refine Ev.seg D_116 [(.isub, 1)] (by decide +kernel) (j := 0) (pc' := 51) (lv' := [(0, .ref 0), (1, .int v1), (2, .int v2)]) (st' := [.int (x11 - x15)]) rfl ?_
      cases h
      obtain rfl : o = _ := ho
      exact Ev.iret D_116 (by decide +kernel)
    · have c7 : p6 = 0 := Decidable.of_not_not (of_decide_eq_false c7)
      rw [if_pos c7] at h
      refine Ev.seg D_116 [(.bipush (-2), 2)] (by decide +kernel) (j := 0) (pc' := 25) (lv' := [(0, .ref 0), (1, .int v1), (2, .int v2)]) (st' := [.int (-2 : Int32)]) rfl ?_
      cases h
      obtain rfl : o = _ := ho
      exact Ev.iret D_116 (by decide +kernel)
/- PennantLawn lacks: 117 -/
def gL_lacks (v1 : Int32) (v2 : Int32) (s : mT) : Option (Int32) :=
  (gR_hasBoat 16 v1.toInt64 s).bind fun p2 =>
  if p2 = 0 then
    some ((-2 : Int32))
  else
    (gR_hasEarlyStep 16 v2 s).bind fun p6 =>
    if p6 = 0 then
      some ((-2 : Int32))
    else
      (rdI (s.1 18) 5 v1).bind fun x10 =>
      if ¬ (v2 < 0 ∨ 21 ≤ v2.toNatClampNeg) then
        (rdI (s.1 (100 + v2.toNatClampNeg)) 5 v1).bind fun x14 =>
        some (imax (0 : Int32) (x10 - x14))
      else none
set_option maxRecDepth 8000 in
theorem gL_lacks_ok {L d : Nat} (hd : 3 ≤ d) {v1 : Int32} {v2 : Int32} {s : mT} {p : Int32} (h : gL_lacks v1 v2 s = some p) : Ev d 117 0 [(0, .ref 0), (1, .int v1), (2, .int v2)] [] (uS L s) (some (.int p), uS L s) := by
  obtain ⟨d, rfl⟩ : ∃ e, d = e + 1 := ⟨d - 1, by omega⟩
  obtain ⟨o, ho⟩ : ∃ o : Option Value × mS, o = (some (.int p), uS L s) := ⟨_, rfl⟩
  rw [← ho]
  unfold gL_lacks at h
  refine Ev.seg D_117 [(.aload_n 0, 1)] (by decide +kernel) (j := 0) (pc' := 1) (lv' := [(0, .ref 0), (1, .int v1), (2, .int v2)]) (st' := [.ref 0]) rfl ?_
  refine Ev.getR D_117 (by decide +kernel) F_9_28 T_9_2 (x := 16) (S_oR k_0 (by decide +kernel)) ?_
  refine Ev.seg D_117 [(.iload_n 1, 1), (.i2l, 1)] (by decide +kernel) (j := 0) (pc' := 6) (lv' := [(0, .ref 0), (1, .int v1), (2, .int v2)]) (st' := [.long v1.toInt64, .ref 16]) rfl ?_
  obtain ⟨p2, e2, h⟩ := bd h
  refine Ev.callv D_117 E_39 (by decide +kernel) C_9_119 16 [.long v1.toInt64] (r := []) rfl (gd_o k_16 (by decide)) rfl (Nat.le_of_ble_eq_true rfl) (Nat.le_of_ble_eq_true rfl) (gR_hasBoat_ok (by omega) (by decide) e2) ?_
  refine Ev.if_ D_117 (c := .eq) (off := 14) (by decide +kernel) (t := 23) rfl (fun c3 => ?_) (fun c3 => ?_)
  · have c3 : p2 = 0 := of_decide_eq_true c3
    rw [if_pos c3] at h
    refine Ev.seg D_117 [(.bipush (-2), 2)] (by decide +kernel) (j := 0) (pc' := 25) (lv' := [(0, .ref 0), (1, .int v1), (2, .int v2)]) (st' := [.int (-2 : Int32)]) rfl ?_
    cases h
    obtain rfl : o = _ := ho
    exact Ev.iret D_117 (by decide +kernel)
  · have c3 : ¬ p2 = 0 := of_decide_eq_false c3
    rw [if_neg c3] at h
    refine Ev.seg D_117 [(.aload_n 0, 1)] (by decide +kernel) (j := 0) (pc' := 13) (lv' := [(0, .ref 0), (1, .int v1), (2, .int v2)]) (st' := [.ref 0]) rfl ?_
    refine Ev.getR D_117 (by decide +kernel) F_9_28 T_9_2 (x := 16) (S_oR k_0 (by decide +kernel)) ?_
    refine Ev.seg D_117 [(.iload_n 2, 1)] (by decide +kernel) (j := 0) (pc' := 17) (lv' := [(0, .ref 0), (1, .int v1), (2, .int v2)]) (st' := [.int v2, .ref 16]) rfl ?_
    obtain ⟨p6, e6, h⟩ := bd h
    refine Ev.callv D_117 E_44 (by decide +kernel) C_9_168 16 [.int v2] (r := []) rfl (gd_o k_16 (by decide)) rfl (Nat.le_of_ble_eq_true rfl) (Nat.le_of_ble_eq_true rfl) (gR_hasEarlyStep_ok (by omega) (by decide) e6) ?_
    refine Ev.if_ D_117 (c := .ne) (off := 6) (by decide +kernel) (t := 26) rfl (fun c7 => ?_) (fun c7 => ?_)
    · have c7 : ¬ p6 = 0 := of_decide_eq_true c7
      rw [if_neg c7] at h
      refine Ev.seg D_117 [(.iconst 0, 1), (.aload_n 0, 1)] (by decide +kernel) (j := 0) (pc' := 28) (lv' := [(0, .ref 0), (1, .int v1), (2, .int v2)]) (st' := [.ref 0, .int (0 : Int32)]) rfl ?_
      refine Ev.getR D_117 (by decide +kernel) F_9_28 T_9_2 (x := 16) (S_oR k_0 (by decide +kernel)) ?_
      refine Ev.getR D_117 (by decide +kernel) F_9_131 T_2_10 (x := 18) (S_oR k_16 (by decide +kernel)) ?_
      refine Ev.seg D_117 [(.iload_n 1, 1)] (by decide +kernel) (j := 0) (pc' := 35) (lv' := [(0, .ref 0), (1, .int v1), (2, .int v2)]) (st' := [.int v1, .ref 18, .int (0 : Int32)]) rfl ?_
      obtain ⟨x10, e10, h⟩ := bd h
      refine Ev.iald D_117 (by decide +kernel) (S_aI k_18 e10) ?_
      refine Ev.seg D_117 [(.aload_n 0, 1)] (by decide +kernel) (j := 0) (pc' := 37) (lv' := [(0, .ref 0), (1, .int v1), (2, .int v2)]) (st' := [.ref 0, .int x10, .int (0 : Int32)]) rfl ?_
      refine Ev.getR D_117 (by decide +kernel) F_9_37 T_9_5 (x := 28) (S_oR k_0 (by decide +kernel)) ?_
      refine Ev.getR D_117 (by decide +kernel) F_9_171 T_0_9 (x := 99) (S_oR k_28 (by decide +kernel)) ?_
      refine Ev.seg D_117 [(.iload_n 2, 1)] (by decide +kernel) (j := 0) (pc' := 44) (lv' := [(0, .ref 0), (1, .int v1), (2, .int v2)]) (st' := [.int v2, .ref 99, .int x10, .int (0 : Int32)]) rfl ?_
      by_cases b44 : ¬ (v2 < 0 ∨ 21 ≤ v2.toNatClampNeg)
      rotate_left
      · rw [if_neg b44] at h; cases h
      rw [if_pos b44] at h
      refine Ev.aald D_117 (by decide +kernel) (kd := 26) ⟨by decide, by decide⟩ (x := (100 + v2.toNatClampNeg)) (S_aR k_99 b44 (lit_aa (e := 100) (n := 21) (by decide +kernel) b44)) ?_
      refine Ev.seg D_117 [(.iload_n 1, 1)] (by decide +kernel) (j := 0) (pc' := 46) (lv' := [(0, .ref 0), (1, .int v1), (2, .int v2)]) (st' := [.int v1, .ref (100 + v2.toNatClampNeg), .int x10, .int (0 : Int32)]) rfl ?_
      obtain ⟨x14, e14, h⟩ := bd h
      refine Ev.iald D_117 (by decide +kernel) (S_aI (lit_row (e := 100) (n := 21) (by decide +kernel) b44) e14) ?_
      refine Ev.seg D_117 [(.isub, 1)] (by decide +kernel) (j := 0) (pc' := 48) (lv' := [(0, .ref 0), (1, .int v1), (2, .int v2)]) (st' := [.int (x10 - x14), .int (0 : Int32)]) rfl ?_
      refine Ev.max D_117 (by decide +kernel) (Nat.succ_pos _) C_9_210 (Nat.le_of_ble_eq_true rfl) ?_
      cases h
      obtain rfl : o = _ := ho
      exact Ev.iret D_117 (by decide +kernel)
    · have c7 : p6 = 0 := Decidable.of_not_not (of_decide_eq_false c7)
      rw [if_pos c7] at h
      refine Ev.seg D_117 [(.bipush (-2), 2)] (by decide +kernel) (j := 0) (pc' := 25) (lv' := [(0, .ref 0), (1, .int v1), (2, .int v2)]) (st' := [.int (-2 : Int32)]) rfl ?_
      cases h
      obtain rfl : o = _ := ho
      exact Ev.iret D_117 (by decide +kernel)
/- PennantLawn total: 118 -/
def gL_total_h19 (v1 : Int32) (s : mT) (q : Int32 × Int32) : Option ((Int32 × Int32) ⊕ (Int32)) :=
  if (s.1 16 0) ≤ q.2 then
    some (.inr q.1)
  else
    if ¬ (q.2 < 0 ∨ 21 ≤ q.2.toNatClampNeg) then
      (rdI (s.1 (100 + q.2.toNatClampNeg)) 5 v1).bind fun x7 =>
      some (.inl (q.1 + x7, q.2 + (1 : Int32)))
    else none
set_option maxRecDepth 8000 in
theorem gL_total_h19_ok {L d : Nat} (hd : 2 ≤ d + 1) {v1 : Int32} {s : mT} : ∀ (q : Int32 × Int32) (x : (Int32 × Int32) ⊕ (Int32)), gL_total_h19 v1 s q = some x → ∀ o, sK (fun q => Ev (d + 1) 118 19 [(0, .ref 0), (1, .int v1), (2, .int q.1), (3, .int q.2)] [] (uS L s) o) (fun r => Ev (d + 1) 118 50 [(2, .int r)] [] (uS L s) o) x → Ev (d + 1) 118 19 [(0, .ref 0), (1, .int v1), (2, .int q.1), (3, .int q.2)] [] (uS L s) o := by
  intro q x h o ho
  unfold gL_total_h19 at h
  refine Ev.seg D_118 [(.iload_n 3, 1), (.aload_n 0, 1)] (by decide +kernel) (j := 0) (pc' := 21) (lv' := [(0, .ref 0), (1, .int v1), (2, .int q.1), (3, .int q.2)]) (st' := [.ref 0, .int q.2]) rfl ?_
  refine Ev.getR D_118 (by decide +kernel) F_9_28 T_9_2 (x := 16) (S_oR k_0 (by decide +kernel)) ?_
  refine Ev.getI D_118 (by decide +kernel) F_9_187 (Or.inl T_2_0) (S_oI k_16) ?_
  refine Ev.icmp D_118 (c := .ge) (off := 23) (by decide +kernel) (t := 50) rfl (fun c3 => ?_) (fun c3 => ?_)
  · have c3 : (s.1 16 0) ≤ q.2 := of_decide_eq_true c3
    rw [if_pos c3] at h
    cases h
    exact Ev.sub (lv' := [(2, .int q.1)]) (subL_cons rfl subL_nil) ho
  · have c3 : ¬ (s.1 16 0) ≤ q.2 := of_decide_eq_false c3
    rw [if_neg c3] at h
    refine Ev.seg D_118 [(.iload_n 2, 1), (.aload_n 0, 1)] (by decide +kernel) (j := 0) (pc' := 32) (lv' := [(0, .ref 0), (1, .int v1), (2, .int q.1), (3, .int q.2)]) (st' := [.ref 0, .int q.1]) rfl ?_
    refine Ev.getR D_118 (by decide +kernel) F_9_37 T_9_5 (x := 28) (S_oR k_0 (by decide +kernel)) ?_
    refine Ev.getR D_118 (by decide +kernel) F_9_171 T_0_9 (x := 99) (S_oR k_28 (by decide +kernel)) ?_
    refine Ev.seg D_118 [(.iload_n 3, 1)] (by decide +kernel) (j := 0) (pc' := 39) (lv' := [(0, .ref 0), (1, .int v1), (2, .int q.1), (3, .int q.2)]) (st' := [.int q.2, .ref 99, .int q.1]) rfl ?_
    by_cases b39 : ¬ (q.2 < 0 ∨ 21 ≤ q.2.toNatClampNeg)
    rotate_left
    · rw [if_neg b39] at h; cases h
    rw [if_pos b39] at h
    refine Ev.aald D_118 (by decide +kernel) (kd := 26) ⟨by decide, by decide⟩ (x := (100 + q.2.toNatClampNeg)) (S_aR k_99 b39 (lit_aa (e := 100) (n := 21) (by decide +kernel) b39)) ?_
    refine Ev.seg D_118 [(.iload_n 1, 1)] (by decide +kernel) (j := 0) (pc' := 41) (lv' := [(0, .ref 0), (1, .int v1), (2, .int q.1), (3, .int q.2)]) (st' := [.int v1, .ref (100 + q.2.toNatClampNeg), .int q.1]) rfl ?_
    obtain ⟨x7, e7, h⟩ := bd h
    refine Ev.iald D_118 (by decide +kernel) (S_aI (lit_row (e := 100) (n := 21) (by decide +kernel) b39) e7) ?_
    refine Ev.seg D_118 [(.iadd, 1), (.istore_n 2, 1), (.iinc 3 1, 3), (.goto (-28), 3)] (by decide +kernel) (j := 0) (pc' := 19) (lv' := [(3, .int (q.2 + (1 : Int32))), (2, .int (q.1 + x7)), (0, .ref 0), (1, .int v1)]) (st' := []) rfl ?_
    cases h
    exact Ev.sub (lv' := [(0, .ref 0), (1, .int v1), (2, .int (q.1 + x7)), (3, .int (q.2 + (1 : Int32)))]) (subL_cons rfl (subL_cons rfl (subL_cons rfl (subL_cons rfl subL_nil)))) ho
theorem gL_total_h19_w {L d : Nat} (hd : 2 ≤ d + 1) {v1 : Int32} {s : mT} : ∀ (n : Nat) (q : Int32 × Int32) (r : Int32), wh n (gL_total_h19 v1 s) q = some r → ∀ o, (fun r => Ev (d + 1) 118 50 [(2, .int r)] [] (uS L s) o) r → Ev (d + 1) 118 19 [(0, .ref 0), (1, .int v1), (2, .int q.1), (3, .int q.2)] [] (uS L s) o :=
  fun n q r h o hc => wh_ev (E := fun (q : Int32 × Int32) o => Ev (d + 1) 118 19 [(0, .ref 0), (1, .int v1), (2, .int q.1), (3, .int q.2)] [] (uS L s) o) (C := fun (r : Int32) o => (fun r => Ev (d + 1) 118 50 [(2, .int r)] [] (uS L s) o) r) (gL_total_h19_ok hd  ) n q r h o hc
def gL_total (v1 : Int32) (s : mT) : Option (Int32) :=
  (gR_hasBoat 16 v1.toInt64 s).bind fun p2 =>
  if p2 = 0 then
    some ((-2 : Int32))
  else
    (wh FU (gL_total_h19 v1 s) ((0 : Int32), (0 : Int32))).bind fun x8 =>
    some (x8)
set_option maxRecDepth 8000 in
theorem gL_total_ok {L d : Nat} (hd : 2 ≤ d) {v1 : Int32} {s : mT} {p : Int32} (h : gL_total v1 s = some p) : Ev d 118 0 [(0, .ref 0), (1, .int v1)] [] (uS L s) (some (.int p), uS L s) := by
  obtain ⟨d, rfl⟩ : ∃ e, d = e + 1 := ⟨d - 1, by omega⟩
  obtain ⟨o, ho⟩ : ∃ o : Option Value × mS, o = (some (.int p), uS L s) := ⟨_, rfl⟩
  rw [← ho]
  unfold gL_total at h
  refine Ev.seg D_118 [(.aload_n 0, 1)] (by decide +kernel) (j := 0) (pc' := 1) (lv' := [(0, .ref 0), (1, .int v1)]) (st' := [.ref 0]) rfl ?_
  refine Ev.getR D_118 (by decide +kernel) F_9_28 T_9_2 (x := 16) (S_oR k_0 (by decide +kernel)) ?_
  refine Ev.seg D_118 [(.iload_n 1, 1), (.i2l, 1)] (by decide +kernel) (j := 0) (pc' := 6) (lv' := [(0, .ref 0), (1, .int v1)]) (st' := [.long v1.toInt64, .ref 16]) rfl ?_
  obtain ⟨p2, e2, h⟩ := bd h
  refine Ev.callv D_118 E_39 (by decide +kernel) C_9_119 16 [.long v1.toInt64] (r := []) rfl (gd_o k_16 (by decide)) rfl (Nat.le_of_ble_eq_true rfl) (Nat.le_of_ble_eq_true rfl) (gR_hasBoat_ok (by omega) (by decide) e2) ?_
  refine Ev.if_ D_118 (c := .ne) (off := 6) (by decide +kernel) (t := 15) rfl (fun c3 => ?_) (fun c3 => ?_)
  · have c3 : ¬ p2 = 0 := of_decide_eq_true c3
    rw [if_neg c3] at h
    refine Ev.seg D_118 [(.iconst 0, 1), (.istore_n 2, 1), (.iconst 0, 1), (.istore_n 3, 1)] (by decide +kernel) (j := 0) (pc' := 19) (lv' := [(3, .int (0 : Int32)), (2, .int (0 : Int32)), (0, .ref 0), (1, .int v1)]) (st' := []) rfl ?_
    obtain ⟨x8, w8, h⟩ := bd h
    have j8 : Ev (d + 1) 118 50 [(2, .int x8)] [] (uS L s) o := by
      clear w8
      refine Ev.seg D_118 [(.iload_n 2, 1)] (by decide +kernel) (j := 0) (pc' := 51) (lv' := [(2, .int x8)]) (st' := [.int x8]) rfl ?_
      cases h
      obtain rfl : o = _ := ho
      exact Ev.iret D_118 (by decide +kernel)
    exact Ev.sub (lv' := [(0, .ref 0), (1, .int v1), (2, .int (0 : Int32)), (3, .int (0 : Int32))]) (subL_cons rfl (subL_cons rfl (subL_cons rfl (subL_cons rfl subL_nil)))) (gL_total_h19_w hd   _ _ _ w8 _ j8)
  · have c3 : p2 = 0 := Decidable.of_not_not (of_decide_eq_false c3)
    rw [if_pos c3] at h
    refine Ev.seg D_118 [(.bipush (-2), 2)] (by decide +kernel) (j := 0) (pc' := 14) (lv' := [(0, .ref 0), (1, .int v1)]) (st' := [.int (-2 : Int32)]) rfl ?_
    cases h
    obtain rfl : o = _ := ho
    exact Ev.iret D_118 (by decide +kernel)
/- PennantLawn fleet: 119 -/
def gL_fleet_h19 (v1 : Int32) (s : mT) (q : Int32 × Int32) : Option ((Int32 × Int32) ⊕ (Int32)) :=
  if (s.1 16 5) ≤ q.2 then
    some (.inr q.1)
  else
    if ¬ (v1 < 0 ∨ 21 ≤ v1.toNatClampNeg) then
      (rdI (s.1 (56 + v1.toNatClampNeg)) 5 q.2).bind fun x7 =>
      some (.inl (q.1 + x7, q.2 + (1 : Int32)))
    else none
set_option maxRecDepth 8000 in
theorem gL_fleet_h19_ok {L d : Nat} (hd : 3 ≤ d + 1) {v1 : Int32} {s : mT} : ∀ (q : Int32 × Int32) (x : (Int32 × Int32) ⊕ (Int32)), gL_fleet_h19 v1 s q = some x → ∀ o, sK (fun q => Ev (d + 1) 119 19 [(0, .ref 0), (1, .int v1), (2, .int q.1), (3, .int q.2)] [] (uS L s) o) (fun r => Ev (d + 1) 119 50 [(2, .int r)] [] (uS L s) o) x → Ev (d + 1) 119 19 [(0, .ref 0), (1, .int v1), (2, .int q.1), (3, .int q.2)] [] (uS L s) o := by
  intro q x h o ho
  unfold gL_fleet_h19 at h
  refine Ev.seg D_119 [(.iload_n 3, 1), (.aload_n 0, 1)] (by decide +kernel) (j := 0) (pc' := 21) (lv' := [(0, .ref 0), (1, .int v1), (2, .int q.1), (3, .int q.2)]) (st' := [.ref 0, .int q.2]) rfl ?_
  refine Ev.getR D_119 (by decide +kernel) F_9_28 T_9_2 (x := 16) (S_oR k_0 (by decide +kernel)) ?_
  refine Ev.getI D_119 (by decide +kernel) F_9_190 (Or.inl T_2_5) (S_oI k_16) ?_
  refine Ev.icmp D_119 (c := .ge) (off := 23) (by decide +kernel) (t := 50) rfl (fun c3 => ?_) (fun c3 => ?_)
  · have c3 : (s.1 16 5) ≤ q.2 := of_decide_eq_true c3
    rw [if_pos c3] at h
    cases h
    exact Ev.sub (lv' := [(2, .int q.1)]) (subL_cons rfl subL_nil) ho
  · have c3 : ¬ (s.1 16 5) ≤ q.2 := of_decide_eq_false c3
    rw [if_neg c3] at h
    refine Ev.seg D_119 [(.iload_n 2, 1), (.aload_n 0, 1)] (by decide +kernel) (j := 0) (pc' := 32) (lv' := [(0, .ref 0), (1, .int v1), (2, .int q.1), (3, .int q.2)]) (st' := [.ref 0, .int q.1]) rfl ?_
    refine Ev.getR D_119 (by decide +kernel) F_9_37 T_9_5 (x := 28) (S_oR k_0 (by decide +kernel)) ?_
    refine Ev.getR D_119 (by decide +kernel) F_9_161 T_0_7 (x := 55) (S_oR k_28 (by decide +kernel)) ?_
    refine Ev.seg D_119 [(.iload_n 1, 1)] (by decide +kernel) (j := 0) (pc' := 39) (lv' := [(0, .ref 0), (1, .int v1), (2, .int q.1), (3, .int q.2)]) (st' := [.int v1, .ref 55, .int q.1]) rfl ?_
    by_cases b39 : ¬ (v1 < 0 ∨ 21 ≤ v1.toNatClampNeg)
    rotate_left
    · rw [if_neg b39] at h; cases h
    rw [if_pos b39] at h
    refine Ev.aald D_119 (by decide +kernel) (kd := 26) ⟨by decide, by decide⟩ (x := (56 + v1.toNatClampNeg)) (S_aR k_55 b39 (lit_aa (e := 56) (n := 21) (by decide +kernel) b39)) ?_
    refine Ev.seg D_119 [(.iload_n 3, 1)] (by decide +kernel) (j := 0) (pc' := 41) (lv' := [(0, .ref 0), (1, .int v1), (2, .int q.1), (3, .int q.2)]) (st' := [.int q.2, .ref (56 + v1.toNatClampNeg), .int q.1]) rfl ?_
    obtain ⟨x7, e7, h⟩ := bd h
    refine Ev.iald D_119 (by decide +kernel) (S_aI (lit_row (e := 56) (n := 21) (by decide +kernel) b39) e7) ?_
    refine Ev.seg D_119 [(.iadd, 1), (.istore_n 2, 1), (.iinc 3 1, 3), (.goto (-28), 3)] (by decide +kernel) (j := 0) (pc' := 19) (lv' := [(3, .int (q.2 + (1 : Int32))), (2, .int (q.1 + x7)), (0, .ref 0), (1, .int v1)]) (st' := []) rfl ?_
    cases h
    exact Ev.sub (lv' := [(0, .ref 0), (1, .int v1), (2, .int (q.1 + x7)), (3, .int (q.2 + (1 : Int32)))]) (subL_cons rfl (subL_cons rfl (subL_cons rfl (subL_cons rfl subL_nil)))) ho
theorem gL_fleet_h19_w {L d : Nat} (hd : 3 ≤ d + 1) {v1 : Int32} {s : mT} : ∀ (n : Nat) (q : Int32 × Int32) (r : Int32), wh n (gL_fleet_h19 v1 s) q = some r → ∀ o, (fun r => Ev (d + 1) 119 50 [(2, .int r)] [] (uS L s) o) r → Ev (d + 1) 119 19 [(0, .ref 0), (1, .int v1), (2, .int q.1), (3, .int q.2)] [] (uS L s) o :=
  fun n q r h o hc => wh_ev (E := fun (q : Int32 × Int32) o => Ev (d + 1) 119 19 [(0, .ref 0), (1, .int v1), (2, .int q.1), (3, .int q.2)] [] (uS L s) o) (C := fun (r : Int32) o => (fun r => Ev (d + 1) 119 50 [(2, .int r)] [] (uS L s) o) r) (gL_fleet_h19_ok hd  ) n q r h o hc
def gL_fleet (v1 : Int32) (s : mT) : Option (Int32) :=
  (gR_hasStep 16 v1.toInt64 s).bind fun p2 =>
  if p2 = 0 then
    some ((-2 : Int32))
  else
    (wh FU (gL_fleet_h19 v1 s) ((0 : Int32), (0 : Int32))).bind fun x8 =>
    some (x8)
set_option maxRecDepth 8000 in
theorem gL_fleet_ok {L d : Nat} (hd : 3 ≤ d) {v1 : Int32} {s : mT} {p : Int32} (h : gL_fleet v1 s = some p) : Ev d 119 0 [(0, .ref 0), (1, .int v1)] [] (uS L s) (some (.int p), uS L s) := by
  obtain ⟨d, rfl⟩ : ∃ e, d = e + 1 := ⟨d - 1, by omega⟩
  obtain ⟨o, ho⟩ : ∃ o : Option Value × mS, o = (some (.int p), uS L s) := ⟨_, rfl⟩
  rw [← ho]
  unfold gL_fleet at h
  refine Ev.seg D_119 [(.aload_n 0, 1)] (by decide +kernel) (j := 0) (pc' := 1) (lv' := [(0, .ref 0), (1, .int v1)]) (st' := [.ref 0]) rfl ?_
  refine Ev.getR D_119 (by decide +kernel) F_9_28 T_9_2 (x := 16) (S_oR k_0 (by decide +kernel)) ?_
  refine Ev.seg D_119 [(.iload_n 1, 1), (.i2l, 1)] (by decide +kernel) (j := 0) (pc' := 6) (lv' := [(0, .ref 0), (1, .int v1)]) (st' := [.long v1.toInt64, .ref 16]) rfl ?_
  obtain ⟨p2, e2, h⟩ := bd h
  refine Ev.callv D_119 E_42 (by decide +kernel) C_9_158 16 [.long v1.toInt64] (r := []) rfl (gd_o k_16 (by decide)) rfl (Nat.le_of_ble_eq_true rfl) (Nat.le_of_ble_eq_true rfl) (gR_hasStep_ok (by omega) (by decide) e2) ?_
  refine Ev.if_ D_119 (c := .ne) (off := 6) (by decide +kernel) (t := 15) rfl (fun c3 => ?_) (fun c3 => ?_)
  · have c3 : ¬ p2 = 0 := of_decide_eq_true c3
    rw [if_neg c3] at h
    refine Ev.seg D_119 [(.iconst 0, 1), (.istore_n 2, 1), (.iconst 0, 1), (.istore_n 3, 1)] (by decide +kernel) (j := 0) (pc' := 19) (lv' := [(3, .int (0 : Int32)), (2, .int (0 : Int32)), (0, .ref 0), (1, .int v1)]) (st' := []) rfl ?_
    obtain ⟨x8, w8, h⟩ := bd h
    have j8 : Ev (d + 1) 119 50 [(2, .int x8)] [] (uS L s) o := by
      clear w8
      refine Ev.seg D_119 [(.iload_n 2, 1)] (by decide +kernel) (j := 0) (pc' := 51) (lv' := [(2, .int x8)]) (st' := [.int x8]) rfl ?_
      cases h
      obtain rfl : o = _ := ho
      exact Ev.iret D_119 (by decide +kernel)
    exact Ev.sub (lv' := [(0, .ref 0), (1, .int v1), (2, .int (0 : Int32)), (3, .int (0 : Int32))]) (subL_cons rfl (subL_cons rfl (subL_cons rfl (subL_cons rfl subL_nil)))) (gL_fleet_h19_w hd   _ _ _ w8 _ j8)
  · have c3 : p2 = 0 := Decidable.of_not_not (of_decide_eq_false c3)
    rw [if_pos c3] at h
    refine Ev.seg D_119 [(.bipush (-2), 2)] (by decide +kernel) (j := 0) (pc' := 14) (lv' := [(0, .ref 0), (1, .int v1)]) (st' := [.int (-2 : Int32)]) rfl ?_
    cases h
    obtain rfl : o = _ := ho
    exact Ev.iret D_119 (by decide +kernel)
/- PennantLawn gaze: 120 -/
def gL_gaze_h21 (v1 : Int32) (s : mT) (q : Int32 × Int32 × Int32) : Option ((Int32 × Int32 × Int32) ⊕ (Int32)) :=
  if (s.1 16 5) ≤ q.2.2 then
    some (.inr q.1)
  else
    (gC_stepsOn 28 v1 q.2.2 s).bind fun p5 =>
    (
      if p5 ≤ q.2.1 then
        some ((q.1, q.2.1))
      else
        some ((q.2.2, p5)) : Option (Int32 × Int32)).bind fun x6 =>
    some (.inl (x6.1, x6.2, q.2.2 + (1 : Int32)))
set_option maxRecDepth 8000 in
theorem gL_gaze_h21_ok {L d : Nat} (hd : 2 ≤ d + 1) {v1 : Int32} {s : mT} : ∀ (q : Int32 × Int32 × Int32) (x : (Int32 × Int32 × Int32) ⊕ (Int32)), gL_gaze_h21 v1 s q = some x → ∀ o, sK (fun q => Ev (d + 1) 120 21 [(0, .ref 0), (1, .int v1), (2, .int q.1), (3, .int q.2.1), (4, .int q.2.2)] [] (uS L s) o) (fun r => Ev (d + 1) 120 63 [(2, .int r)] [] (uS L s) o) x → Ev (d + 1) 120 21 [(0, .ref 0), (1, .int v1), (2, .int q.1), (3, .int q.2.1), (4, .int q.2.2)] [] (uS L s) o := by
  intro q x h o ho
  unfold gL_gaze_h21 at h
  refine Ev.seg D_120 [(.iload 4, 2), (.aload_n 0, 1)] (by decide +kernel) (j := 0) (pc' := 24) (lv' := [(0, .ref 0), (1, .int v1), (2, .int q.1), (3, .int q.2.1), (4, .int q.2.2)]) (st' := [.ref 0, .int q.2.2]) rfl ?_
  refine Ev.getR D_120 (by decide +kernel) F_9_28 T_9_2 (x := 16) (S_oR k_0 (by decide +kernel)) ?_
  refine Ev.getI D_120 (by decide +kernel) F_9_190 (Or.inl T_2_5) (S_oI k_16) ?_
  refine Ev.icmp D_120 (c := .ge) (off := 33) (by decide +kernel) (t := 63) rfl (fun c3 => ?_) (fun c3 => ?_)
  · have c3 : (s.1 16 5) ≤ q.2.2 := of_decide_eq_true c3
    rw [if_pos c3] at h
    cases h
    exact Ev.sub (lv' := [(2, .int q.1)]) (subL_cons rfl subL_nil) ho
  · have c3 : ¬ (s.1 16 5) ≤ q.2.2 := of_decide_eq_false c3
    rw [if_neg c3] at h
    refine Ev.seg D_120 [(.aload_n 0, 1)] (by decide +kernel) (j := 0) (pc' := 34) (lv' := [(0, .ref 0), (1, .int v1), (2, .int q.1), (3, .int q.2.1), (4, .int q.2.2)]) (st' := [.ref 0]) rfl ?_
    refine Ev.getR D_120 (by decide +kernel) F_9_37 T_9_5 (x := 28) (S_oR k_0 (by decide +kernel)) ?_
    refine Ev.seg D_120 [(.iload_n 1, 1), (.iload 4, 2)] (by decide +kernel) (j := 0) (pc' := 40) (lv' := [(0, .ref 0), (1, .int v1), (2, .int q.1), (3, .int q.2.1), (4, .int q.2.2)]) (st' := [.int q.2.2, .int v1, .ref 28]) rfl ?_
    obtain ⟨p5, e5, h⟩ := bd h
    refine Ev.callv D_120 E_21 (by decide +kernel) C_9_215 28 [.int v1, .int q.2.2] (r := []) rfl (gd_o k_28 (by decide)) rfl (Nat.le_of_ble_eq_true rfl) (Nat.le_of_ble_eq_true rfl) (gC_stepsOn_ok (by omega) (by decide) e5) ?_
    refine Ev.seg D_120 [(.istore 5, 2), (.iload 5, 2), (.iload_n 3, 1)] (by decide +kernel) (j := 0) (pc' := 48) (lv' := [(5, .int p5), (0, .ref 0), (1, .int v1), (2, .int q.1), (3, .int q.2.1), (4, .int q.2.2)]) (st' := [.int q.2.1, .int p5]) rfl ?_
    obtain ⟨x6, g6, h⟩ := bd h
    have j6 : Ev (d + 1) 120 57 [(0, .ref 0), (1, .int v1), (2, .int x6.1), (3, .int x6.2), (4, .int q.2.2)] [] (uS L s) o := by
      clear g6
      refine Ev.seg D_120 [(.iinc 4 1, 3), (.goto (-39), 3)] (by decide +kernel) (j := 0) (pc' := 21) (lv' := [(4, .int (q.2.2 + (1 : Int32))), (0, .ref 0), (1, .int v1), (2, .int x6.1), (3, .int x6.2)]) (st' := []) rfl ?_
      cases h
      exact Ev.sub (lv' := [(0, .ref 0), (1, .int v1), (2, .int (x6.1)), (3, .int (x6.2)), (4, .int (q.2.2 + (1 : Int32)))]) (subL_cons rfl (subL_cons rfl (subL_cons rfl (subL_cons rfl (subL_cons rfl subL_nil))))) ho
    clear h
    refine Ev.icmp D_120 (c := .le) (off := 9) (by decide +kernel) (t := 57) rfl (fun c6 => ?_) (fun c6 => ?_)
    · have c6 : p5 ≤ q.2.1 := of_decide_eq_true c6
      rw [if_pos c6] at g6
      cases g6
      exact Ev.sub2 j6 (subL_cons rfl (subL_cons rfl (subL_cons rfl (subL_cons rfl (subL_cons rfl subL_nil)))))
    · have c6 : ¬ p5 ≤ q.2.1 := of_decide_eq_false c6
      rw [if_neg c6] at g6
      refine Ev.seg D_120 [(.iload 4, 2), (.istore_n 2, 1), (.iload 5, 2), (.istore_n 3, 1)] (by decide +kernel) (j := 0) (pc' := 57) (lv' := [(3, .int p5), (2, .int q.2.2), (5, .int p5), (0, .ref 0), (1, .int v1), (4, .int q.2.2)]) (st' := []) rfl ?_
      cases g6
      exact Ev.sub2 j6 (subL_cons rfl (subL_cons rfl (subL_cons rfl (subL_cons rfl (subL_cons rfl subL_nil)))))
theorem gL_gaze_h21_w {L d : Nat} (hd : 2 ≤ d + 1) {v1 : Int32} {s : mT} : ∀ (n : Nat) (q : Int32 × Int32 × Int32) (r : Int32), wh n (gL_gaze_h21 v1 s) q = some r → ∀ o, (fun r => Ev (d + 1) 120 63 [(2, .int r)] [] (uS L s) o) r → Ev (d + 1) 120 21 [(0, .ref 0), (1, .int v1), (2, .int q.1), (3, .int q.2.1), (4, .int q.2.2)] [] (uS L s) o :=
  fun n q r h o hc => wh_ev (E := fun (q : Int32 × Int32 × Int32) o => Ev (d + 1) 120 21 [(0, .ref 0), (1, .int v1), (2, .int q.1), (3, .int q.2.1), (4, .int q.2.2)] [] (uS L s) o) (C := fun (r : Int32) o => (fun r => Ev (d + 1) 120 63 [(2, .int r)] [] (uS L s) o) r) (gL_gaze_h21_ok hd  ) n q r h o hc
def gL_gaze (v1 : Int32) (s : mT) : Option (Int32) :=
  (gR_hasWatcher 16 v1 s).bind fun p2 =>
  if p2 = 0 then
    some ((-2 : Int32))
  else
    (wh FU (gL_gaze_h21 v1 s) ((-1 : Int32), (0 : Int32), (0 : Int32))).bind fun x7 =>
    some (x7)
set_option maxRecDepth 8000 in
theorem gL_gaze_ok {L d : Nat} (hd : 2 ≤ d) {v1 : Int32} {s : mT} {p : Int32} (h : gL_gaze v1 s = some p) : Ev d 120 0 [(0, .ref 0), (1, .int v1)] [] (uS L s) (some (.int p), uS L s) := by
  obtain ⟨d, rfl⟩ : ∃ e, d = e + 1 := ⟨d - 1, by omega⟩
  obtain ⟨o, ho⟩ : ∃ o : Option Value × mS, o = (some (.int p), uS L s) := ⟨_, rfl⟩
  rw [← ho]
  unfold gL_gaze at h
  refine Ev.seg D_120 [(.aload_n 0, 1)] (by decide +kernel) (j := 0) (pc' := 1) (lv' := [(0, .ref 0), (1, .int v1)]) (st' := [.ref 0]) rfl ?_
  refine Ev.getR D_120 (by decide +kernel) F_9_28 T_9_2 (x := 16) (S_oR k_0 (by decide +kernel)) ?_
  refine Ev.seg D_120 [(.iload_n 1, 1)] (by decide +kernel) (j := 0) (pc' := 5) (lv' := [(0, .ref 0), (1, .int v1)]) (st' := [.int v1, .ref 16]) rfl ?_
  obtain ⟨p2, e2, h⟩ := bd h
  refine Ev.callv D_120 E_40 (by decide +kernel) C_9_134 16 [.int v1] (r := []) rfl (gd_o k_16 (by decide)) rfl (Nat.le_of_ble_eq_true rfl) (Nat.le_of_ble_eq_true rfl) (gR_hasWatcher_ok (by omega) (by decide) e2) ?_
  refine Ev.if_ D_120 (c := .ne) (off := 6) (by decide +kernel) (t := 14) rfl (fun c3 => ?_) (fun c3 => ?_)
  · have c3 : ¬ p2 = 0 := of_decide_eq_true c3
    rw [if_neg c3] at h
    refine Ev.seg D_120 [(.iconst (-1), 1), (.istore_n 2, 1), (.iconst 0, 1), (.istore_n 3, 1), (.iconst 0, 1), (.istore 4, 2)] (by decide +kernel) (j := 0) (pc' := 21) (lv' := [(4, .int (0 : Int32)), (3, .int (0 : Int32)), (2, .int (-1 : Int32)), (0, .ref 0), (1, .int v1)]) (st' := []) rfl ?_
    obtain ⟨x7, w7, h⟩ := bd h
    have j7 : Ev (d + 1) 120 63 [(2, .int x7)] [] (uS L s) o := by
      clear w7
      refine Ev.seg D_120 [(.iload_n 2, 1)] (by decide +kernel) (j := 0) (pc' := 64) (lv' := [(2, .int x7)]) (st' := [.int x7]) rfl ?_
      cases h
      obtain rfl : o = _ := ho
      exact Ev.iret D_120 (by decide +kernel)
    exact Ev.sub (lv' := [(0, .ref 0), (1, .int v1), (2, .int (-1 : Int32)), (3, .int (0 : Int32)), (4, .int (0 : Int32))]) (subL_cons rfl (subL_cons rfl (subL_cons rfl (subL_cons rfl (subL_cons rfl subL_nil))))) (gL_gaze_h21_w hd   _ _ _ w7 _ j7)
  · have c3 : p2 = 0 := Decidable.of_not_not (of_decide_eq_false c3)
    rw [if_pos c3] at h
    refine Ev.seg D_120 [(.bipush (-2), 2)] (by decide +kernel) (j := 0) (pc' := 13) (lv' := [(0, .ref 0), (1, .int v1)]) (st' := [.int (-2 : Int32)]) rfl ?_
    cases h
    obtain rfl : o = _ := ho
    exact Ev.iret D_120 (by decide +kernel)
/- PennantLawn faithful: 121 -/
def gL_faithful_h17 (s : mT) (q : Int32 × Int32) : Option ((Int32 × Int32) ⊕ (Int32)) :=
  if (s.1 16 6) ≤ q.2 then
    some (.inr q.1)
  else
    (rdI (s.1 22) 5 q.2).bind fun x7 =>
    (gC_stepsOn 28 q.2 x7 s).bind fun p8 =>
    (
      if p8 = ((s.1 16 0) + (1 : Int32)) then
        some (q.1 ||| ((1 : Int32) <<< (q.2 &&& 31)))
      else
        some (q.1) : Option (Int32)).bind fun x11 =>
    some (.inl (x11, q.2 + (1 : Int32)))
set_option maxRecDepth 8000 in
theorem gL_faithful_h17_ok {L d : Nat} (hd : 2 ≤ d + 1) {s : mT} : ∀ (q : Int32 × Int32) (x : (Int32 × Int32) ⊕ (Int32)), gL_faithful_h17 s q = some x → ∀ o, sK (fun q => Ev (d + 1) 121 17 [(0, .ref 0), (1, .int q.1), (2, .int q.2)] [] (uS L s) o) (fun r => Ev (d + 1) 121 69 [(1, .int r)] [] (uS L s) o) x → Ev (d + 1) 121 17 [(0, .ref 0), (1, .int q.1), (2, .int q.2)] [] (uS L s) o := by
  intro q x h o ho
  unfold gL_faithful_h17 at h
  refine Ev.seg D_121 [(.iload_n 2, 1), (.aload_n 0, 1)] (by decide +kernel) (j := 0) (pc' := 19) (lv' := [(0, .ref 0), (1, .int q.1), (2, .int q.2)]) (st' := [.ref 0, .int q.2]) rfl ?_
  refine Ev.getR D_121 (by decide +kernel) F_9_28 T_9_2 (x := 16) (S_oR k_0 (by decide +kernel)) ?_
  refine Ev.getI D_121 (by decide +kernel) F_9_218 (Or.inl T_2_6) (S_oI k_16) ?_
  refine Ev.icmp D_121 (c := .ge) (off := 44) (by decide +kernel) (t := 69) rfl (fun c3 => ?_) (fun c3 => ?_)
  · have c3 : (s.1 16 6) ≤ q.2 := of_decide_eq_true c3
    rw [if_pos c3] at h
    cases h
    exact Ev.sub (lv' := [(1, .int q.1)]) (subL_cons rfl subL_nil) ho
  · have c3 : ¬ (s.1 16 6) ≤ q.2 := of_decide_eq_false c3
    rw [if_neg c3] at h
    refine Ev.seg D_121 [(.aload_n 0, 1)] (by decide +kernel) (j := 0) (pc' := 29) (lv' := [(0, .ref 0), (1, .int q.1), (2, .int q.2)]) (st' := [.ref 0]) rfl ?_
    refine Ev.getR D_121 (by decide +kernel) F_9_37 T_9_5 (x := 28) (S_oR k_0 (by decide +kernel)) ?_
    refine Ev.seg D_121 [(.iload_n 2, 1), (.aload_n 0, 1)] (by decide +kernel) (j := 0) (pc' := 34) (lv' := [(0, .ref 0), (1, .int q.1), (2, .int q.2)]) (st' := [.ref 0, .int q.2, .ref 28]) rfl ?_
    refine Ev.getR D_121 (by decide +kernel) F_9_28 T_9_2 (x := 16) (S_oR k_0 (by decide +kernel)) ?_
    refine Ev.getR D_121 (by decide +kernel) F_9_146 T_2_14 (x := 22) (S_oR k_16 (by decide +kernel)) ?_
    refine Ev.seg D_121 [(.iload_n 2, 1)] (by decide +kernel) (j := 0) (pc' := 41) (lv' := [(0, .ref 0), (1, .int q.1), (2, .int q.2)]) (st' := [.int q.2, .ref 22, .int q.2, .ref 28]) rfl ?_
    obtain ⟨x7, e7, h⟩ := bd h
    refine Ev.iald D_121 (by decide +kernel) (S_aI k_22 e7) ?_
    obtain ⟨p8, e8, h⟩ := bd h
    refine Ev.callv D_121 E_21 (by decide +kernel) C_9_215 28 [.int q.2, .int x7] (r := []) rfl (gd_o k_28 (by decide)) rfl (Nat.le_of_ble_eq_true rfl) (Nat.le_of_ble_eq_true rfl) (gC_stepsOn_ok (by omega) (by decide) e8) ?_
    refine Ev.seg D_121 [(.aload_n 0, 1)] (by decide +kernel) (j := 0) (pc' := 46) (lv' := [(0, .ref 0), (1, .int q.1), (2, .int q.2)]) (st' := [.ref 0, .int p8]) rfl ?_
    refine Ev.getR D_121 (by decide +kernel) F_9_28 T_9_2 (x := 16) (S_oR k_0 (by decide +kernel)) ?_
    refine Ev.getI D_121 (by decide +kernel) F_9_187 (Or.inl T_2_0) (S_oI k_16) ?_
    refine Ev.seg D_121 [(.iconst 1, 1), (.iadd, 1)] (by decide +kernel) (j := 0) (pc' := 54) (lv' := [(0, .ref 0), (1, .int q.1), (2, .int q.2)]) (st' := [.int ((s.1 16 0) + (1 : Int32)), .int p8]) rfl ?_
    obtain ⟨x11, g11, h⟩ := bd h
    have j11 : Ev (d + 1) 121 63 [(0, .ref 0), (1, .int x11), (2, .int q.2)] [] (uS L s) o := by
      clear g11
      refine Ev.seg D_121 [(.iinc 2 1, 3), (.goto (-49), 3)] (by decide +kernel) (j := 0) (pc' := 17) (lv' := [(2, .int (q.2 + (1 : Int32))), (0, .ref 0), (1, .int x11)]) (st' := []) rfl ?_
      cases h
      exact Ev.sub (lv' := [(0, .ref 0), (1, .int (x11)), (2, .int (q.2 + (1 : Int32)))]) (subL_cons rfl (subL_cons rfl (subL_cons rfl subL_nil))) ho
    clear h
    refine Ev.icmp D_121 (c := .ne) (off := 9) (by decide +kernel) (t := 63) rfl (fun c11 => ?_) (fun c11 => ?_)
    · have c11 : ¬ p8 = ((s.1 16 0) + (1 : Int32)) := of_decide_eq_true c11
      rw [if_neg c11] at g11
      cases g11
      exact Ev.sub2 j11 (subL_cons rfl (subL_cons rfl (subL_cons rfl subL_nil)))
    · have c11 : p8 = ((s.1 16 0) + (1 : Int32)) := Decidable.of_not_not (of_decide_eq_false c11)
      rw [if_pos c11] at g11
      refine Ev.seg D_121 [(.iload_n 1, 1), (.iconst 1, 1), (.iload_n 2, 1), (.ishl, 1), (.ior, 1), (.istore_n 1, 1)] (by decide +kernel) (j := 0) (pc' := 63) (lv' := [(1, .int (q.1 ||| ((1 : Int32) <<< (q.2 &&& 31)))), (0, .ref 0), (2, .int q.2)]) (st' := []) rfl ?_
      cases g11
      exact Ev.sub2 j11 (subL_cons rfl (subL_cons rfl (subL_cons rfl subL_nil)))
theorem gL_faithful_h17_w {L d : Nat} (hd : 2 ≤ d + 1) {s : mT} : ∀ (n : Nat) (q : Int32 × Int32) (r : Int32), wh n (gL_faithful_h17 s) q = some r → ∀ o, (fun r => Ev (d + 1) 121 69 [(1, .int r)] [] (uS L s) o) r → Ev (d + 1) 121 17 [(0, .ref 0), (1, .int q.1), (2, .int q.2)] [] (uS L s) o :=
  fun n q r h o hc => wh_ev (E := fun (q : Int32 × Int32) o => Ev (d + 1) 121 17 [(0, .ref 0), (1, .int q.1), (2, .int q.2)] [] (uS L s) o) (C := fun (r : Int32) o => (fun r => Ev (d + 1) 121 69 [(1, .int r)] [] (uS L s) o) r) (gL_faithful_h17_ok hd  ) n q r h o hc
def gL_faithful (s : mT) : Option (Int32) :=
  (gR_exists 16 s).bind fun p2 =>
  if p2 = 0 then
    some ((-2 : Int32))
  else
    (wh FU (gL_faithful_h17 s) ((0 : Int32), (0 : Int32))).bind fun x12 =>
    some (x12)
set_option maxRecDepth 8000 in
theorem gL_faithful_ok {L d : Nat} (hd : 2 ≤ d) {s : mT} {p : Int32} (h : gL_faithful s = some p) : Ev d 121 0 [(0, .ref 0)] [] (uS L s) (some (.int p), uS L s) := by
  obtain ⟨d, rfl⟩ : ∃ e, d = e + 1 := ⟨d - 1, by omega⟩
  obtain ⟨o, ho⟩ : ∃ o : Option Value × mS, o = (some (.int p), uS L s) := ⟨_, rfl⟩
  rw [← ho]
  unfold gL_faithful at h
  refine Ev.seg D_121 [(.aload_n 0, 1)] (by decide +kernel) (j := 0) (pc' := 1) (lv' := [(0, .ref 0)]) (st' := [.ref 0]) rfl ?_
  refine Ev.getR D_121 (by decide +kernel) F_9_28 T_9_2 (x := 16) (S_oR k_0 (by decide +kernel)) ?_
  obtain ⟨p2, e2, h⟩ := bd h
  refine Ev.callv D_121 E_43 (by decide +kernel) C_9_196 16 [] (r := []) rfl (gd_o k_16 (by decide)) rfl (Nat.le_of_ble_eq_true rfl) (Nat.le_of_ble_eq_true rfl) (gR_exists_ok (by omega) (by decide) e2) ?_
  refine Ev.if_ D_121 (c := .ne) (off := 6) (by decide +kernel) (t := 13) rfl (fun c3 => ?_) (fun c3 => ?_)
  · have c3 : ¬ p2 = 0 := of_decide_eq_true c3
    rw [if_neg c3] at h
    refine Ev.seg D_121 [(.iconst 0, 1), (.istore_n 1, 1), (.iconst 0, 1), (.istore_n 2, 1)] (by decide +kernel) (j := 0) (pc' := 17) (lv' := [(2, .int (0 : Int32)), (1, .int (0 : Int32)), (0, .ref 0)]) (st' := []) rfl ?_
    obtain ⟨x12, w12, h⟩ := bd h
    have j12 : Ev (d + 1) 121 69 [(1, .int x12)] [] (uS L s) o := by
      clear w12
      refine Ev.seg D_121 [(.iload_n 1, 1)] (by decide +kernel) (j := 0) (pc' := 70) (lv' := [(1, .int x12)]) (st' := [.int x12]) rfl ?_
      cases h
      obtain rfl : o = _ := ho
      exact Ev.iret D_121 (by decide +kernel)
    exact Ev.sub (lv' := [(0, .ref 0), (1, .int (0 : Int32)), (2, .int (0 : Int32))]) (subL_cons rfl (subL_cons rfl (subL_cons rfl subL_nil))) (gL_faithful_h17_w hd   _ _ _ w12 _ j12)
  · have c3 : p2 = 0 := Decidable.of_not_not (of_decide_eq_false c3)
    rw [if_pos c3] at h
    refine Ev.seg D_121 [(.bipush (-2), 2)] (by decide +kernel) (j := 0) (pc' := 12) (lv' := [(0, .ref 0)]) (st' := [.int (-2 : Int32)]) rfl ?_
    cases h
    obtain rfl : o = _ := ho
    exact Ev.iret D_121 (by decide +kernel)
/- PennantLawn unseen: 122 -/
def gL_unseen_h19 (v1 : Int32) (s : mT) (q : Int32 × Int32) : Option ((Int32 × Int32) ⊕ (Int32)) :=
  if (s.1 16 5) ≤ q.2 then
    some (.inr q.1)
  else
    (gC_lookersAt 28 q.2 v1 s).bind fun p5 =>
    (
      if p5 = 0 then
        some (q.1 ||| ((1 : Int32) <<< (q.2 &&& 31)))
      else
        some (q.1) : Option (Int32)).bind fun x6 =>
    some (.inl (x6, q.2 + (1 : Int32)))
set_option maxRecDepth 8000 in
theorem gL_unseen_h19_ok {L d : Nat} (hd : 3 ≤ d + 1) {v1 : Int32} {s : mT} : ∀ (q : Int32 × Int32) (x : (Int32 × Int32) ⊕ (Int32)), gL_unseen_h19 v1 s q = some x → ∀ o, sK (fun q => Ev (d + 1) 122 19 [(0, .ref 0), (1, .int v1), (2, .int q.1), (3, .int q.2)] [] (uS L s) o) (fun r => Ev (d + 1) 122 54 [(2, .int r)] [] (uS L s) o) x → Ev (d + 1) 122 19 [(0, .ref 0), (1, .int v1), (2, .int q.1), (3, .int q.2)] [] (uS L s) o := by
  intro q x h o ho
  unfold gL_unseen_h19 at h
  refine Ev.seg D_122 [(.iload_n 3, 1), (.aload_n 0, 1)] (by decide +kernel) (j := 0) (pc' := 21) (lv' := [(0, .ref 0), (1, .int v1), (2, .int q.1), (3, .int q.2)]) (st' := [.ref 0, .int q.2]) rfl ?_
  refine Ev.getR D_122 (by decide +kernel) F_9_28 T_9_2 (x := 16) (S_oR k_0 (by decide +kernel)) ?_
  refine Ev.getI D_122 (by decide +kernel) F_9_190 (Or.inl T_2_5) (S_oI k_16) ?_
  refine Ev.icmp D_122 (c := .ge) (off := 27) (by decide +kernel) (t := 54) rfl (fun c3 => ?_) (fun c3 => ?_)
  · have c3 : (s.1 16 5) ≤ q.2 := of_decide_eq_true c3
    rw [if_pos c3] at h
    cases h
    exact Ev.sub (lv' := [(2, .int q.1)]) (subL_cons rfl subL_nil) ho
  · have c3 : ¬ (s.1 16 5) ≤ q.2 := of_decide_eq_false c3
    rw [if_neg c3] at h
    refine Ev.seg D_122 [(.aload_n 0, 1)] (by decide +kernel) (j := 0) (pc' := 31) (lv' := [(0, .ref 0), (1, .int v1), (2, .int q.1), (3, .int q.2)]) (st' := [.ref 0]) rfl ?_
    refine Ev.getR D_122 (by decide +kernel) F_9_37 T_9_5 (x := 28) (S_oR k_0 (by decide +kernel)) ?_
    refine Ev.seg D_122 [(.iload_n 3, 1), (.iload_n 1, 1)] (by decide +kernel) (j := 0) (pc' := 36) (lv' := [(0, .ref 0), (1, .int v1), (2, .int q.1), (3, .int q.2)]) (st' := [.int v1, .int q.2, .ref 28]) rfl ?_
    obtain ⟨p5, e5, h⟩ := bd h
    refine Ev.callv D_122 E_13 (by decide +kernel) C_9_176 28 [.int q.2, .int v1] (r := []) rfl (gd_o k_28 (by decide)) rfl (Nat.le_of_ble_eq_true rfl) (Nat.le_of_ble_eq_true rfl) (gC_lookersAt_ok (by omega) (by decide) e5) ?_
    obtain ⟨x6, g6, h⟩ := bd h
    have j6 : Ev (d + 1) 122 48 [(0, .ref 0), (1, .int v1), (2, .int x6), (3, .int q.2)] [] (uS L s) o := by
      clear g6
      refine Ev.seg D_122 [(.iinc 3 1, 3), (.goto (-32), 3)] (by decide +kernel) (j := 0) (pc' := 19) (lv' := [(3, .int (q.2 + (1 : Int32))), (0, .ref 0), (1, .int v1), (2, .int x6)]) (st' := []) rfl ?_
      cases h
      exact Ev.sub (lv' := [(0, .ref 0), (1, .int v1), (2, .int (x6)), (3, .int (q.2 + (1 : Int32)))]) (subL_cons rfl (subL_cons rfl (subL_cons rfl (subL_cons rfl subL_nil)))) ho
    clear h
    refine Ev.if_ D_122 (c := .ne) (off := 9) (by decide +kernel) (t := 48) rfl (fun c6 => ?_) (fun c6 => ?_)
    · have c6 : ¬ p5 = 0 := of_decide_eq_true c6
      rw [if_neg c6] at g6
      cases g6
      exact Ev.sub2 j6 (subL_cons rfl (subL_cons rfl (subL_cons rfl (subL_cons rfl subL_nil))))
    · have c6 : p5 = 0 := Decidable.of_not_not (of_decide_eq_false c6)
      rw [if_pos c6] at g6
      refine Ev.seg D_122 [(.iload_n 2, 1), (.iconst 1, 1), (.iload_n 3, 1), (.ishl, 1), (.ior, 1), (.istore_n 2, 1)] (by decide +kernel) (j := 0) (pc' := 48) (lv' := [(2, .int (q.1 ||| ((1 : Int32) <<< (q.2 &&& 31)))), (0, .ref 0), (1, .int v1), (3, .int q.2)]) (st' := []) rfl ?_
      cases g6
      exact Ev.sub2 j6 (subL_cons rfl (subL_cons rfl (subL_cons rfl (subL_cons rfl subL_nil))))
theorem gL_unseen_h19_w {L d : Nat} (hd : 3 ≤ d + 1) {v1 : Int32} {s : mT} : ∀ (n : Nat) (q : Int32 × Int32) (r : Int32), wh n (gL_unseen_h19 v1 s) q = some r → ∀ o, (fun r => Ev (d + 1) 122 54 [(2, .int r)] [] (uS L s) o) r → Ev (d + 1) 122 19 [(0, .ref 0), (1, .int v1), (2, .int q.1), (3, .int q.2)] [] (uS L s) o :=
  fun n q r h o hc => wh_ev (E := fun (q : Int32 × Int32) o => Ev (d + 1) 122 19 [(0, .ref 0), (1, .int v1), (2, .int q.1), (3, .int q.2)] [] (uS L s) o) (C := fun (r : Int32) o => (fun r => Ev (d + 1) 122 54 [(2, .int r)] [] (uS L s) o) r) (gL_unseen_h19_ok hd  ) n q r h o hc
def gL_unseen (v1 : Int32) (s : mT) : Option (Int32) :=
  (gR_hasStep 16 v1.toInt64 s).bind fun p2 =>
  if p2 = 0 then
    some ((-2 : Int32))
  else
    (wh FU (gL_unseen_h19 v1 s) ((0 : Int32), (0 : Int32))).bind fun x7 =>
    some (x7)
set_option maxRecDepth 8000 in
theorem gL_unseen_ok {L d : Nat} (hd : 3 ≤ d) {v1 : Int32} {s : mT} {p : Int32} (h : gL_unseen v1 s = some p) : Ev d 122 0 [(0, .ref 0), (1, .int v1)] [] (uS L s) (some (.int p), uS L s) := by
  obtain ⟨d, rfl⟩ : ∃ e, d = e + 1 := ⟨d - 1, by omega⟩
  obtain ⟨o, ho⟩ : ∃ o : Option Value × mS, o = (some (.int p), uS L s) := ⟨_, rfl⟩
  rw [← ho]
  unfold gL_unseen at h
  refine Ev.seg D_122 [(.aload_n 0, 1)] (by decide +kernel) (j := 0) (pc' := 1) (lv' := [(0, .ref 0), (1, .int v1)]) (st' := [.ref 0]) rfl ?_
  refine Ev.getR D_122 (by decide +kernel) F_9_28 T_9_2 (x := 16) (S_oR k_0 (by decide +kernel)) ?_
  refine Ev.seg D_122 [(.iload_n 1, 1), (.i2l, 1)] (by decide +kernel) (j := 0) (pc' := 6) (lv' := [(0, .ref 0), (1, .int v1)]) (st' := [.long v1.toInt64, .ref 16]) rfl ?_
  obtain ⟨p2, e2, h⟩ := bd h
  refine Ev.callv D_122 E_42 (by decide +kernel) C_9_158 16 [.long v1.toInt64] (r := []) rfl (gd_o k_16 (by decide)) rfl (Nat.le_of_ble_eq_true rfl) (Nat.le_of_ble_eq_true rfl) (gR_hasStep_ok (by omega) (by decide) e2) ?_
  refine Ev.if_ D_122 (c := .ne) (off := 6) (by decide +kernel) (t := 15) rfl (fun c3 => ?_) (fun c3 => ?_)
  · have c3 : ¬ p2 = 0 := of_decide_eq_true c3
    rw [if_neg c3] at h
    refine Ev.seg D_122 [(.iconst 0, 1), (.istore_n 2, 1), (.iconst 0, 1), (.istore_n 3, 1)] (by decide +kernel) (j := 0) (pc' := 19) (lv' := [(3, .int (0 : Int32)), (2, .int (0 : Int32)), (0, .ref 0), (1, .int v1)]) (st' := []) rfl ?_
    obtain ⟨x7, w7, h⟩ := bd h
    have j7 : Ev (d + 1) 122 54 [(2, .int x7)] [] (uS L s) o := by
      clear w7
      refine Ev.seg D_122 [(.iload_n 2, 1)] (by decide +kernel) (j := 0) (pc' := 55) (lv' := [(2, .int x7)]) (st' := [.int x7]) rfl ?_
      cases h
      obtain rfl : o = _ := ho
      exact Ev.iret D_122 (by decide +kernel)
    exact Ev.sub (lv' := [(0, .ref 0), (1, .int v1), (2, .int (0 : Int32)), (3, .int (0 : Int32))]) (subL_cons rfl (subL_cons rfl (subL_cons rfl (subL_cons rfl subL_nil)))) (gL_unseen_h19_w hd   _ _ _ w7 _ j7)
  · have c3 : p2 = 0 := Decidable.of_not_not (of_decide_eq_false c3)
    rw [if_pos c3] at h
    refine Ev.seg D_122 [(.bipush (-2), 2)] (by decide +kernel) (j := 0) (pc' := 14) (lv' := [(0, .ref 0), (1, .int v1)]) (st' := [.int (-2 : Int32)]) rfl ?_
    cases h
    obtain rfl : o = _ := ho
    exact Ev.iret D_122 (by decide +kernel)
