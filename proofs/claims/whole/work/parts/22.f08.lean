/-! The program's methods as functions of ints and longs, each with its certificate (wip/whole/gen_emit.py writes this) -/
/- PennantLawn spoils: 140 -/
def gL_spoils_h32 (v1 : Int32) (q : Int32 × Int32 × mT) : Option ((Int32 × Int32 × mT) ⊕ (Int32 × mT)) :=
  if (q.2.2.1 16 0) ≤ q.2.1 then
    some (.inr (q.1, q.2.2))
  else
    (gL_winnerWithShow q.2.1 (9 : Int32) q.2.2).bind fun p4 =>
    (
      if p4.1 = v1 then
        some (q.1)
      else
        some (q.1 ||| ((1 : Int32) <<< (q.2.1 &&& 31))) : Option (Int32)).bind fun x5 =>
    some (.inl (x5, q.2.1 + (1 : Int32), p4.2))
set_option maxRecDepth 8000 in
theorem gL_spoils_h32_ok {L d : Nat} (hd : 7 ≤ d + 1) {v1 : Int32} : ∀ (q : Int32 × Int32 × mT) (x : (Int32 × Int32 × mT) ⊕ (Int32 × mT)), gL_spoils_h32 v1 q = some x → ∀ o, sK (fun q => Ev (d + 1) 140 32 [(0, .ref 0), (1, .int v1), (2, .int q.1), (3, .int q.2.1)] [] (uS L q.2.2) o) (fun r => Ev (d + 1) 140 66 [(2, .int r.1)] [] (uS L r.2) o) x → Ev (d + 1) 140 32 [(0, .ref 0), (1, .int v1), (2, .int q.1), (3, .int q.2.1)] [] (uS L q.2.2) o := by
  intro q x h o ho
  unfold gL_spoils_h32 at h
  refine Ev.seg D_140 [(.iload_n 3, 1), (.aload_n 0, 1)] (by decide +kernel) (j := 0) (pc' := 34) (lv' := [(0, .ref 0), (1, .int v1), (2, .int q.1), (3, .int q.2.1)]) (st' := [.ref 0, .int q.2.1]) rfl ?_
  refine Ev.getR D_140 (by decide +kernel) F_9_28 T_9_2 (x := 16) (S_oR k_0 (by decide +kernel)) ?_
  refine Ev.getI D_140 (by decide +kernel) F_9_187 (Or.inl T_2_0) (S_oI k_16) ?_
  refine Ev.icmp D_140 (c := .ge) (off := 26) (by decide +kernel) (t := 66) rfl (fun c3 => ?_) (fun c3 => ?_)
  · have c3 : (q.2.2.1 16 0) ≤ q.2.1 := of_decide_eq_true c3
    rw [if_pos c3] at h
    cases h
    exact Ev.sub (lv' := [(2, .int q.1)]) (subL_cons rfl subL_nil) ho
  · have c3 : ¬ (q.2.2.1 16 0) ≤ q.2.1 := of_decide_eq_false c3
    rw [if_neg c3] at h
    refine Ev.seg D_140 [(.aload_n 0, 1), (.iload_n 3, 1), (.bipush 9, 2)] (by decide +kernel) (j := 0) (pc' := 47) (lv' := [(0, .ref 0), (1, .int v1), (2, .int q.1), (3, .int q.2.1)]) (st' := [.int (9 : Int32), .int q.2.1, .ref 0]) rfl ?_
    obtain ⟨p4, e4, h⟩ := bd h
    refine Ev.callv D_140 E_141 (by decide +kernel) C_9_270 0 [.int q.2.1, .int (9 : Int32)] (r := []) rfl (gd_o k_0 (by decide)) rfl (Nat.le_of_ble_eq_true rfl) (Nat.le_of_ble_eq_true rfl) (gL_winnerWithShow_ok (by omega)  e4) ?_
    refine Ev.seg D_140 [(.iload_n 1, 1)] (by decide +kernel) (j := 0) (pc' := 51) (lv' := [(0, .ref 0), (1, .int v1), (2, .int q.1), (3, .int q.2.1)]) (st' := [.int v1, .int p4.1]) rfl ?_
    obtain ⟨x5, g5, h⟩ := bd h
    have j5 : Ev (d + 1) 140 60 [(0, .ref 0), (1, .int v1), (2, .int x5), (3, .int q.2.1)] [] (uS L p4.2) o := by
      clear g5
      refine Ev.seg D_140 [(.iinc 3 1, 3), (.goto (-31), 3)] (by decide +kernel) (j := 0) (pc' := 32) (lv' := [(3, .int (q.2.1 + (1 : Int32))), (0, .ref 0), (1, .int v1), (2, .int x5)]) (st' := []) rfl ?_
      cases h
      exact Ev.sub (lv' := [(0, .ref 0), (1, .int v1), (2, .int (x5)), (3, .int (q.2.1 + (1 : Int32)))]) (subL_cons rfl (subL_cons rfl (subL_cons rfl (subL_cons rfl subL_nil)))) ho
    clear h
    refine Ev.icmp D_140 (c := .eq) (off := 9) (by decide +kernel) (t := 60) rfl (fun c5 => ?_) (fun c5 => ?_)
    · have c5 : p4.1 = v1 := of_decide_eq_true c5
      rw [if_pos c5] at g5
      cases g5
      exact Ev.sub2 j5 (subL_cons rfl (subL_cons rfl (subL_cons rfl (subL_cons rfl subL_nil))))
    · have c5 : ¬ p4.1 = v1 := of_decide_eq_false c5
      rw [if_neg c5] at g5
      refine Ev.seg D_140 [(.iload_n 2, 1), (.iconst 1, 1), (.iload_n 3, 1), (.ishl, 1), (.ior, 1), (.istore_n 2, 1)] (by decide +kernel) (j := 0) (pc' := 60) (lv' := [(2, .int (q.1 ||| ((1 : Int32) <<< (q.2.1 &&& 31)))), (0, .ref 0), (1, .int v1), (3, .int q.2.1)]) (st' := []) rfl ?_
      cases g5
      exact Ev.sub2 j5 (subL_cons rfl (subL_cons rfl (subL_cons rfl (subL_cons rfl subL_nil))))
theorem gL_spoils_h32_w {L d : Nat} (hd : 7 ≤ d + 1) {v1 : Int32} : ∀ (n : Nat) (q : Int32 × Int32 × mT) (r : Int32 × mT), wh n (gL_spoils_h32 v1) q = some r → ∀ o, (fun r => Ev (d + 1) 140 66 [(2, .int r.1)] [] (uS L r.2) o) r → Ev (d + 1) 140 32 [(0, .ref 0), (1, .int v1), (2, .int q.1), (3, .int q.2.1)] [] (uS L q.2.2) o :=
  fun n q r h o hc => wh_ev (E := fun (q : Int32 × Int32 × mT) o => Ev (d + 1) 140 32 [(0, .ref 0), (1, .int v1), (2, .int q.1), (3, .int q.2.1)] [] (uS L q.2.2) o) (C := fun (r : Int32 × mT) o => (fun r => Ev (d + 1) 140 66 [(2, .int r.1)] [] (uS L r.2) o) r) (gL_spoils_h32_ok hd  ) n q r h o hc
def gL_spoils (s : mT) : Option (Int32 × mT) :=
  (gR_exists 16 s).bind fun p2 =>
  if p2 = 0 then
    some (((-2 : Int32), s))
  else
    (gC_winner 28 s).bind fun p5 =>
    if p5 = (-1 : Int32) then
      some (((0 : Int32), s))
    else
      (wh FU (gL_spoils_h32 p5) ((0 : Int32), (0 : Int32), s)).bind fun x7 =>
      some ((x7.1, x7.2))
set_option maxRecDepth 8000 in
theorem gL_spoils_ok {L d : Nat} (hd : 7 ≤ d) {s : mT} {p : Int32 × mT} (h : gL_spoils s = some p) : Ev d 140 0 [(0, .ref 0)] [] (uS L s) (some (.int p.1), uS L p.2) := by
  obtain ⟨d, rfl⟩ : ∃ e, d = e + 1 := ⟨d - 1, by omega⟩
  obtain ⟨o, ho⟩ : ∃ o : Option Value × mS, o = (some (.int p.1), uS L p.2) := ⟨_, rfl⟩
  rw [← ho]
  unfold gL_spoils at h
  refine Ev.seg D_140 [(.aload_n 0, 1)] (by decide +kernel) (j := 0) (pc' := 1) (lv' := [(0, .ref 0)]) (st' := [.ref 0]) rfl ?_
  refine Ev.getR D_140 (by decide +kernel) F_9_28 T_9_2 (x := 16) (S_oR k_0 (by decide +kernel)) ?_
  obtain ⟨p2, e2, h⟩ := bd h
  refine Ev.callv D_140 E_43 (by decide +kernel) C_9_196 16 [] (r := []) rfl (gd_o k_16 (by decide)) rfl (Nat.le_of_ble_eq_true rfl) (Nat.le_of_ble_eq_true rfl) (gR_exists_ok (by omega) (by decide) e2) ?_
  refine Ev.if_ D_140 (c := .ne) (off := 6) (by decide +kernel) (t := 13) rfl (fun c3 => ?_) (fun c3 => ?_)
  · have c3 : ¬ p2 = 0 := of_decide_eq_true c3
    rw [if_neg c3] at h
    refine Ev.seg D_140 [(.aload_n 0, 1)] (by decide +kernel) (j := 0) (pc' := 14) (lv' := [(0, .ref 0)]) (st' := [.ref 0]) rfl ?_
    refine Ev.getR D_140 (by decide +kernel) F_9_37 T_9_5 (x := 28) (S_oR k_0 (by decide +kernel)) ?_
    obtain ⟨p5, e5, h⟩ := bd h
    refine Ev.callv D_140 E_20 (by decide +kernel) C_9_206 28 [] (r := []) rfl (gd_o k_28 (by decide)) rfl (Nat.le_of_ble_eq_true rfl) (Nat.le_of_ble_eq_true rfl) (gC_winner_ok (by omega) (by decide) e5) ?_
    refine Ev.seg D_140 [(.istore_n 1, 1), (.iload_n 1, 1), (.iconst (-1), 1)] (by decide +kernel) (j := 0) (pc' := 23) (lv' := [(1, .int p5), (0, .ref 0)]) (st' := [.int (-1 : Int32), .int p5]) rfl ?_
    refine Ev.icmp D_140 (c := .ne) (off := 5) (by decide +kernel) (t := 28) rfl (fun c6 => ?_) (fun c6 => ?_)
    · have c6 : ¬ p5 = (-1 : Int32) := of_decide_eq_true c6
      rw [if_neg c6] at h
      refine Ev.seg D_140 [(.iconst 0, 1), (.istore_n 2, 1), (.iconst 0, 1), (.istore_n 3, 1)] (by decide +kernel) (j := 0) (pc' := 32) (lv' := [(3, .int (0 : Int32)), (2, .int (0 : Int32)), (1, .int p5), (0, .ref 0)]) (st' := []) rfl ?_
      obtain ⟨x7, w7, h⟩ := bd h
      have j7 : Ev (d + 1) 140 66 [(2, .int x7.1)] [] (uS L x7.2) o := by
        clear w7
        refine Ev.seg D_140 [(.iload_n 2, 1)] (by decide +kernel) (j := 0) (pc' := 67) (lv' := [(2, .int x7.1)]) (st' := [.int x7.1]) rfl ?_
        cases h
        obtain rfl : o = _ := ho
        exact Ev.iret D_140 (by decide +kernel)
      exact Ev.sub (lv' := [(0, .ref 0), (1, .int p5), (2, .int (0 : Int32)), (3, .int (0 : Int32))]) (subL_cons rfl (subL_cons rfl (subL_cons rfl (subL_cons rfl subL_nil)))) (gL_spoils_h32_w hd   _ _ _ w7 _ j7)
    · have c6 : p5 = (-1 : Int32) := Decidable.of_not_not (of_decide_eq_false c6)
      rw [if_pos c6] at h
      refine Ev.seg D_140 [(.iconst 0, 1)] (by decide +kernel) (j := 0) (pc' := 27) (lv' := [(1, .int p5), (0, .ref 0)]) (st' := [.int (0 : Int32)]) rfl ?_
      cases h
      obtain rfl : o = _ := ho
      exact Ev.iret D_140 (by decide +kernel)
  · have c3 : p2 = 0 := Decidable.of_not_not (of_decide_eq_false c3)
    rw [if_pos c3] at h
    refine Ev.seg D_140 [(.bipush (-2), 2)] (by decide +kernel) (j := 0) (pc' := 12) (lv' := [(0, .ref 0)]) (st' := [.int (-2 : Int32)]) rfl ?_
    cases h
    obtain rfl : o = _ := ho
    exact Ev.iret D_140 (by decide +kernel)
/- PennantLawn lure: 142 -/
def gL_lure_h31 (v1 : Int32) (v2 : Int32) (q : Int32 × mT) : Option ((Int32 × mT) ⊕ (Int32 × mT)) :=
  if (9 : Int32) < q.1 then
    some (.inr (((-1 : Int32), q.2)))
  else
    (gL_winnerWithShow v1 q.1 q.2).bind fun p3 =>
    if p3.1 = v2 then
      some (.inl (q.1 + (1 : Int32), p3.2))
    else
      some (.inr ((q.1, p3.2)))
set_option maxRecDepth 8000 in
theorem gL_lure_h31_ok {L d : Nat} (hd : 7 ≤ d + 1) {v1 : Int32} {v2 : Int32} : ∀ (q : Int32 × mT) (x : (Int32 × mT) ⊕ (Int32 × mT)), gL_lure_h31 v1 v2 q = some x → ∀ o, sK (fun q => Ev (d + 1) 142 31 [(0, .ref 0), (1, .int v1), (2, .int v2), (3, .int q.1)] [] (uS L q.2) o) (fun r => o = (some (.int r.1), uS L r.2)) x → Ev (d + 1) 142 31 [(0, .ref 0), (1, .int v1), (2, .int v2), (3, .int q.1)] [] (uS L q.2) o := by
  intro q x h o ho
  unfold gL_lure_h31 at h
  refine Ev.seg D_142 [(.iload_n 3, 1), (.bipush 9, 2)] (by decide +kernel) (j := 0) (pc' := 34) (lv' := [(0, .ref 0), (1, .int v1), (2, .int v2), (3, .int q.1)]) (st' := [.int (9 : Int32), .int q.1]) rfl ?_
  refine Ev.icmp D_142 (c := .gt) (off := 21) (by decide +kernel) (t := 55) rfl (fun c1 => ?_) (fun c1 => ?_)
  · have c1 : (9 : Int32) < q.1 := of_decide_eq_true c1
    rw [if_pos c1] at h
    refine Ev.seg D_142 [(.iconst (-1), 1)] (by decide +kernel) (j := 0) (pc' := 56) (lv' := [(0, .ref 0), (1, .int v1), (2, .int v2), (3, .int q.1)]) (st' := [.int (-1 : Int32)]) rfl ?_
    cases h
    obtain rfl : o = _ := ho
    exact Ev.iret D_142 (by decide +kernel)
  · have c1 : ¬ (9 : Int32) < q.1 := of_decide_eq_false c1
    rw [if_neg c1] at h
    refine Ev.seg D_142 [(.aload_n 0, 1), (.iload_n 1, 1), (.iload_n 3, 1)] (by decide +kernel) (j := 0) (pc' := 40) (lv' := [(0, .ref 0), (1, .int v1), (2, .int v2), (3, .int q.1)]) (st' := [.int q.1, .int v1, .ref 0]) rfl ?_
    obtain ⟨p3, e3, h⟩ := bd h
    refine Ev.callv D_142 E_141 (by decide +kernel) C_9_270 0 [.int v1, .int q.1] (r := []) rfl (gd_o k_0 (by decide)) rfl (Nat.le_of_ble_eq_true rfl) (Nat.le_of_ble_eq_true rfl) (gL_winnerWithShow_ok (by omega)  e3) ?_
    refine Ev.seg D_142 [(.iload_n 2, 1)] (by decide +kernel) (j := 0) (pc' := 44) (lv' := [(0, .ref 0), (1, .int v1), (2, .int v2), (3, .int q.1)]) (st' := [.int v2, .int p3.1]) rfl ?_
    refine Ev.icmp D_142 (c := .eq) (off := 5) (by decide +kernel) (t := 49) rfl (fun c4 => ?_) (fun c4 => ?_)
    · have c4 : p3.1 = v2 := of_decide_eq_true c4
      rw [if_pos c4] at h
      refine Ev.seg D_142 [(.iinc 3 1, 3), (.goto (-21), 3)] (by decide +kernel) (j := 0) (pc' := 31) (lv' := [(3, .int (q.1 + (1 : Int32))), (0, .ref 0), (1, .int v1), (2, .int v2)]) (st' := []) rfl ?_
      cases h
      exact Ev.sub (lv' := [(0, .ref 0), (1, .int v1), (2, .int v2), (3, .int (q.1 + (1 : Int32)))]) (subL_cons rfl (subL_cons rfl (subL_cons rfl (subL_cons rfl subL_nil)))) ho
    · have c4 : ¬ p3.1 = v2 := of_decide_eq_false c4
      rw [if_neg c4] at h
      refine Ev.seg D_142 [(.iload_n 3, 1)] (by decide +kernel) (j := 0) (pc' := 48) (lv' := [(0, .ref 0), (1, .int v1), (2, .int v2), (3, .int q.1)]) (st' := [.int q.1]) rfl ?_
      cases h
      obtain rfl : o = _ := ho
      exact Ev.iret D_142 (by decide +kernel)
theorem gL_lure_h31_w {L d : Nat} (hd : 7 ≤ d + 1) {v1 : Int32} {v2 : Int32} : ∀ (n : Nat) (q : Int32 × mT) (r : Int32 × mT), wh n (gL_lure_h31 v1 v2) q = some r → ∀ o, (fun r => o = (some (.int r.1), uS L r.2)) r → Ev (d + 1) 142 31 [(0, .ref 0), (1, .int v1), (2, .int v2), (3, .int q.1)] [] (uS L q.2) o :=
  fun n q r h o hc => wh_ev (E := fun (q : Int32 × mT) o => Ev (d + 1) 142 31 [(0, .ref 0), (1, .int v1), (2, .int v2), (3, .int q.1)] [] (uS L q.2) o) (C := fun (r : Int32 × mT) o => (fun r => o = (some (.int r.1), uS L r.2)) r) (gL_lure_h31_ok hd  ) n q r h o hc
def gL_lure (v1 : Int32) (s : mT) : Option (Int32 × mT) :=
  (gR_hasEarlyStep 16 v1 s).bind fun p2 =>
  if p2 = 0 then
    some (((-2 : Int32), s))
  else
    (gC_winner 28 s).bind fun p5 =>
    if p5 = (-1 : Int32) then
      some (((-1 : Int32), s))
    else
      wh FU (gL_lure_h31 v1 p5) ((1 : Int32), s)
set_option maxRecDepth 8000 in
theorem gL_lure_ok {L d : Nat} (hd : 7 ≤ d) {v1 : Int32} {s : mT} {p : Int32 × mT} (h : gL_lure v1 s = some p) : Ev d 142 0 [(0, .ref 0), (1, .int v1)] [] (uS L s) (some (.int p.1), uS L p.2) := by
  obtain ⟨d, rfl⟩ : ∃ e, d = e + 1 := ⟨d - 1, by omega⟩
  obtain ⟨o, ho⟩ : ∃ o : Option Value × mS, o = (some (.int p.1), uS L p.2) := ⟨_, rfl⟩
  rw [← ho]
  unfold gL_lure at h
  refine Ev.seg D_142 [(.aload_n 0, 1)] (by decide +kernel) (j := 0) (pc' := 1) (lv' := [(0, .ref 0), (1, .int v1)]) (st' := [.ref 0]) rfl ?_
  refine Ev.getR D_142 (by decide +kernel) F_9_28 T_9_2 (x := 16) (S_oR k_0 (by decide +kernel)) ?_
  refine Ev.seg D_142 [(.iload_n 1, 1)] (by decide +kernel) (j := 0) (pc' := 5) (lv' := [(0, .ref 0), (1, .int v1)]) (st' := [.int v1, .ref 16]) rfl ?_
  obtain ⟨p2, e2, h⟩ := bd h
  refine Ev.callv D_142 E_44 (by decide +kernel) C_9_168 16 [.int v1] (r := []) rfl (gd_o k_16 (by decide)) rfl (Nat.le_of_ble_eq_true rfl) (Nat.le_of_ble_eq_true rfl) (gR_hasEarlyStep_ok (by omega) (by decide) e2) ?_
  refine Ev.if_ D_142 (c := .ne) (off := 6) (by decide +kernel) (t := 14) rfl (fun c3 => ?_) (fun c3 => ?_)
  · have c3 : ¬ p2 = 0 := of_decide_eq_true c3
    rw [if_neg c3] at h
    refine Ev.seg D_142 [(.aload_n 0, 1)] (by decide +kernel) (j := 0) (pc' := 15) (lv' := [(0, .ref 0), (1, .int v1)]) (st' := [.ref 0]) rfl ?_
    refine Ev.getR D_142 (by decide +kernel) F_9_37 T_9_5 (x := 28) (S_oR k_0 (by decide +kernel)) ?_
    obtain ⟨p5, e5, h⟩ := bd h
    refine Ev.callv D_142 E_20 (by decide +kernel) C_9_206 28 [] (r := []) rfl (gd_o k_28 (by decide)) rfl (Nat.le_of_ble_eq_true rfl) (Nat.le_of_ble_eq_true rfl) (gC_winner_ok (by omega) (by decide) e5) ?_
    refine Ev.seg D_142 [(.istore_n 2, 1), (.iload_n 2, 1), (.iconst (-1), 1)] (by decide +kernel) (j := 0) (pc' := 24) (lv' := [(2, .int p5), (0, .ref 0), (1, .int v1)]) (st' := [.int (-1 : Int32), .int p5]) rfl ?_
    refine Ev.icmp D_142 (c := .ne) (off := 5) (by decide +kernel) (t := 29) rfl (fun c6 => ?_) (fun c6 => ?_)
    · have c6 : ¬ p5 = (-1 : Int32) := of_decide_eq_true c6
      rw [if_neg c6] at h
      refine Ev.seg D_142 [(.iconst 1, 1), (.istore_n 3, 1)] (by decide +kernel) (j := 0) (pc' := 31) (lv' := [(3, .int (1 : Int32)), (2, .int p5), (0, .ref 0), (1, .int v1)]) (st' := []) rfl ?_
      exact Ev.sub (lv' := [(0, .ref 0), (1, .int v1), (2, .int p5), (3, .int (1 : Int32))]) (subL_cons rfl (subL_cons rfl (subL_cons rfl (subL_cons rfl subL_nil)))) (gL_lure_h31_w hd   _ _ _ h _ ho)
    · have c6 : p5 = (-1 : Int32) := Decidable.of_not_not (of_decide_eq_false c6)
      rw [if_pos c6] at h
      refine Ev.seg D_142 [(.iconst (-1), 1)] (by decide +kernel) (j := 0) (pc' := 28) (lv' := [(2, .int p5), (0, .ref 0), (1, .int v1)]) (st' := [.int (-1 : Int32)]) rfl ?_
      cases h
      obtain rfl : o = _ := ho
      exact Ev.iret D_142 (by decide +kernel)
  · have c3 : p2 = 0 := Decidable.of_not_not (of_decide_eq_false c3)
    rw [if_pos c3] at h
    refine Ev.seg D_142 [(.bipush (-2), 2)] (by decide +kernel) (j := 0) (pc' := 13) (lv' := [(0, .ref 0), (1, .int v1)]) (st' := [.int (-2 : Int32)]) rfl ?_
    cases h
    obtain rfl : o = _ := ho
    exact Ev.iret D_142 (by decide +kernel)
/- PennantLawn seenBy: 145 -/
def gL_seenBy_h18 (v1 : Int32) (v3 : Int32) (s : mT) (q : Int32 × Int32) : Option ((Int32 × Int32) ⊕ (Int32)) :=
  if (s.1 16 6) ≤ q.2 then
    some (.inr q.1)
  else
    (
      if ((v1 >>> (q.2 &&& 31)) &&& (1 : Int32)) = (1 : Int32) then
        (gR_sees 16 q.2 v3 s).bind fun p6 =>
        if p6 = 0 then
          some (q.1)
        else
          some (q.1 ||| ((1 : Int32) <<< (v3 &&& 31)))
      else
        some (q.1) : Option (Int32)).bind fun x4 =>
    some (.inl (x4, q.2 + (1 : Int32)))
set_option maxRecDepth 8000 in
theorem gL_seenBy_h18_ok {L d : Nat} (hd : 2 ≤ d + 1) {v1 : Int32} {v3 : Int32} {s : mT} : ∀ (q : Int32 × Int32) (x : (Int32 × Int32) ⊕ (Int32)), gL_seenBy_h18 v1 v3 s q = some x → ∀ o, sK (fun q => Ev (d + 1) 145 18 [(0, .ref 0), (1, .int v1), (2, .int q.1), (3, .int v3), (4, .int q.2)] [] (uS L s) o) (fun r => Ev (d + 1) 145 65 [(0, .ref 0), (1, .int v1), (2, .int r), (3, .int v3)] [] (uS L s) o) x → Ev (d + 1) 145 18 [(0, .ref 0), (1, .int v1), (2, .int q.1), (3, .int v3), (4, .int q.2)] [] (uS L s) o := by
  intro q x h o ho
  unfold gL_seenBy_h18 at h
  refine Ev.seg D_145 [(.iload 4, 2), (.aload_n 0, 1)] (by decide +kernel) (j := 0) (pc' := 21) (lv' := [(0, .ref 0), (1, .int v1), (2, .int q.1), (3, .int v3), (4, .int q.2)]) (st' := [.ref 0, .int q.2]) rfl ?_
  refine Ev.getR D_145 (by decide +kernel) F_9_28 T_9_2 (x := 16) (S_oR k_0 (by decide +kernel)) ?_
  refine Ev.getI D_145 (by decide +kernel) F_9_218 (Or.inl T_2_6) (S_oI k_16) ?_
  refine Ev.icmp D_145 (c := .ge) (off := 38) (by decide +kernel) (t := 65) rfl (fun c3 => ?_) (fun c3 => ?_)
  · have c3 : (s.1 16 6) ≤ q.2 := of_decide_eq_true c3
    rw [if_pos c3] at h
    cases h
    exact Ev.sub (lv' := [(0, .ref 0), (1, .int v1), (2, .int q.1), (3, .int v3)]) (subL_cons rfl (subL_cons rfl (subL_cons rfl (subL_cons rfl subL_nil)))) ho
  · have c3 : ¬ (s.1 16 6) ≤ q.2 := of_decide_eq_false c3
    rw [if_neg c3] at h
    refine Ev.seg D_145 [(.iload_n 1, 1), (.iload 4, 2), (.ishr, 1), (.iconst 1, 1), (.iand, 1), (.iconst 1, 1)] (by decide +kernel) (j := 0) (pc' := 37) (lv' := [(0, .ref 0), (1, .int v1), (2, .int q.1), (3, .int v3), (4, .int q.2)]) (st' := [.int (1 : Int32), .int ((v1 >>> (q.2 &&& 31)) &&& (1 : Int32))]) rfl ?_
    obtain ⟨x4, g4, h⟩ := bd h
    have j4 : Ev (d + 1) 145 59 [(0, .ref 0), (1, .int v1), (2, .int x4), (3, .int v3), (4, .int q.2)] [] (uS L s) o := by
      clear g4
      refine Ev.seg D_145 [(.iinc 4 1, 3), (.goto (-44), 3)] (by decide +kernel) (j := 0) (pc' := 18) (lv' := [(4, .int (q.2 + (1 : Int32))), (0, .ref 0), (1, .int v1), (2, .int x4), (3, .int v3)]) (st' := []) rfl ?_
      cases h
      exact Ev.sub (lv' := [(0, .ref 0), (1, .int v1), (2, .int (x4)), (3, .int v3), (4, .int (q.2 + (1 : Int32)))]) (subL_cons rfl (subL_cons rfl (subL_cons rfl (subL_cons rfl (subL_cons rfl subL_nil))))) ho
    clear h
    refine Ev.icmp D_145 (c := .ne) (off := 22) (by decide +kernel) (t := 59) rfl (fun c4 => ?_) (fun c4 => ?_)
    · have c4 : ¬ ((v1 >>> (q.2 &&& 31)) &&& (1 : Int32)) = (1 : Int32) := of_decide_eq_true c4
      rw [if_neg c4] at g4
      cases g4
      exact Ev.sub2 j4 (subL_cons rfl (subL_cons rfl (subL_cons rfl (subL_cons rfl (subL_cons rfl subL_nil)))))
    · have c4 : ((v1 >>> (q.2 &&& 31)) &&& (1 : Int32)) = (1 : Int32) := Decidable.of_not_not (of_decide_eq_false c4)
      rw [if_pos c4] at g4
      refine Ev.seg D_145 [(.aload_n 0, 1)] (by decide +kernel) (j := 0) (pc' := 41) (lv' := [(0, .ref 0), (1, .int v1), (2, .int q.1), (3, .int v3), (4, .int q.2)]) (st' := [.ref 0]) rfl ?_
      refine Ev.getR D_145 (by decide +kernel) F_9_28 T_9_2 (x := 16) (S_oR k_0 (by decide +kernel)) ?_
      refine Ev.seg D_145 [(.iload 4, 2), (.iload_n 3, 1)] (by decide +kernel) (j := 0) (pc' := 47) (lv' := [(0, .ref 0), (1, .int v1), (2, .int q.1), (3, .int v3), (4, .int q.2)]) (st' := [.int v3, .int q.2, .ref 16]) rfl ?_
      obtain ⟨p6, e6, g4⟩ := bd g4
      refine Ev.callv D_145 E_45 (by decide +kernel) C_9_221 16 [.int q.2, .int v3] (r := []) rfl (gd_o k_16 (by decide)) rfl (Nat.le_of_ble_eq_true rfl) (Nat.le_of_ble_eq_true rfl) (gR_sees_ok (by omega) (by decide) e6) ?_
      refine Ev.if_ D_145 (c := .eq) (off := 9) (by decide +kernel) (t := 59) rfl (fun c7 => ?_) (fun c7 => ?_)
      · have c7 : p6 = 0 := of_decide_eq_true c7
        rw [if_pos c7] at g4
        cases g4
        exact Ev.sub2 j4 (subL_cons rfl (subL_cons rfl (subL_cons rfl (subL_cons rfl (subL_cons rfl subL_nil)))))
      · have c7 : ¬ p6 = 0 := of_decide_eq_false c7
        rw [if_neg c7] at g4
        refine Ev.seg D_145 [(.iload_n 2, 1), (.iconst 1, 1), (.iload_n 3, 1), (.ishl, 1), (.ior, 1), (.istore_n 2, 1)] (by decide +kernel) (j := 0) (pc' := 59) (lv' := [(2, .int (q.1 ||| ((1 : Int32) <<< (v3 &&& 31)))), (0, .ref 0), (1, .int v1), (3, .int v3), (4, .int q.2)]) (st' := []) rfl ?_
        cases g4
        exact Ev.sub2 j4 (subL_cons rfl (subL_cons rfl (subL_cons rfl (subL_cons rfl (subL_cons rfl subL_nil)))))
theorem gL_seenBy_h18_w {L d : Nat} (hd : 2 ≤ d + 1) {v1 : Int32} {v3 : Int32} {s : mT} : ∀ (n : Nat) (q : Int32 × Int32) (r : Int32), wh n (gL_seenBy_h18 v1 v3 s) q = some r → ∀ o, (fun r => Ev (d + 1) 145 65 [(0, .ref 0), (1, .int v1), (2, .int r), (3, .int v3)] [] (uS L s) o) r → Ev (d + 1) 145 18 [(0, .ref 0), (1, .int v1), (2, .int q.1), (3, .int v3), (4, .int q.2)] [] (uS L s) o :=
  fun n q r h o hc => wh_ev (E := fun (q : Int32 × Int32) o => Ev (d + 1) 145 18 [(0, .ref 0), (1, .int v1), (2, .int q.1), (3, .int v3), (4, .int q.2)] [] (uS L s) o) (C := fun (r : Int32) o => (fun r => Ev (d + 1) 145 65 [(0, .ref 0), (1, .int v1), (2, .int r), (3, .int v3)] [] (uS L s) o) r) (gL_seenBy_h18_ok hd  ) n q r h o hc
def gL_seenBy_h4 (v1 : Int32) (s : mT) (q : Int32 × Int32) : Option ((Int32 × Int32) ⊕ (Int32)) :=
  if (s.1 16 5) ≤ q.2 then
    some (.inr q.1)
  else
    (wh FU (gL_seenBy_h18 v1 q.2 s) (q.1, (0 : Int32))).bind fun x8 =>
    some (.inl (x8, q.2 + (1 : Int32)))
set_option maxRecDepth 8000 in
theorem gL_seenBy_h4_ok {L d : Nat} (hd : 2 ≤ d + 1) {v1 : Int32} {s : mT} : ∀ (q : Int32 × Int32) (x : (Int32 × Int32) ⊕ (Int32)), gL_seenBy_h4 v1 s q = some x → ∀ o, sK (fun q => Ev (d + 1) 145 4 [(0, .ref 0), (1, .int v1), (2, .int q.1), (3, .int q.2)] [] (uS L s) o) (fun r => Ev (d + 1) 145 71 [(2, .int r)] [] (uS L s) o) x → Ev (d + 1) 145 4 [(0, .ref 0), (1, .int v1), (2, .int q.1), (3, .int q.2)] [] (uS L s) o := by
  intro q x h o ho
  unfold gL_seenBy_h4 at h
  refine Ev.seg D_145 [(.iload_n 3, 1), (.aload_n 0, 1)] (by decide +kernel) (j := 0) (pc' := 6) (lv' := [(0, .ref 0), (1, .int v1), (2, .int q.1), (3, .int q.2)]) (st' := [.ref 0, .int q.2]) rfl ?_
  refine Ev.getR D_145 (by decide +kernel) F_9_28 T_9_2 (x := 16) (S_oR k_0 (by decide +kernel)) ?_
  refine Ev.getI D_145 (by decide +kernel) F_9_190 (Or.inl T_2_5) (S_oI k_16) ?_
  refine Ev.icmp D_145 (c := .ge) (off := 59) (by decide +kernel) (t := 71) rfl (fun c3 => ?_) (fun c3 => ?_)
  · have c3 : (s.1 16 5) ≤ q.2 := of_decide_eq_true c3
    rw [if_pos c3] at h
    cases h
    exact Ev.sub (lv' := [(2, .int q.1)]) (subL_cons rfl subL_nil) ho
  · have c3 : ¬ (s.1 16 5) ≤ q.2 := of_decide_eq_false c3
    rw [if_neg c3] at h
    refine Ev.seg D_145 [(.iconst 0, 1), (.istore 4, 2)] (by decide +kernel) (j := 0) (pc' := 18) (lv' := [(4, .int (0 : Int32)), (0, .ref 0), (1, .int v1), (2, .int q.1), (3, .int q.2)]) (st' := []) rfl ?_
    obtain ⟨x8, w8, h⟩ := bd h
    have j8 : Ev (d + 1) 145 65 [(0, .ref 0), (1, .int v1), (2, .int x8), (3, .int q.2)] [] (uS L s) o := by
      clear w8
      refine Ev.seg D_145 [(.iinc 3 1, 3), (.goto (-64), 3)] (by decide +kernel) (j := 0) (pc' := 4) (lv' := [(3, .int (q.2 + (1 : Int32))), (0, .ref 0), (1, .int v1), (2, .int x8)]) (st' := []) rfl ?_
      cases h
      exact Ev.sub (lv' := [(0, .ref 0), (1, .int v1), (2, .int (x8)), (3, .int (q.2 + (1 : Int32)))]) (subL_cons rfl (subL_cons rfl (subL_cons rfl (subL_cons rfl subL_nil)))) ho
    exact Ev.sub (lv' := [(0, .ref 0), (1, .int v1), (2, .int q.1), (3, .int q.2), (4, .int (0 : Int32))]) (subL_cons rfl (subL_cons rfl (subL_cons rfl (subL_cons rfl (subL_cons rfl subL_nil))))) (gL_seenBy_h18_w hd   _ _ _ w8 _ j8)
theorem gL_seenBy_h4_w {L d : Nat} (hd : 2 ≤ d + 1) {v1 : Int32} {s : mT} : ∀ (n : Nat) (q : Int32 × Int32) (r : Int32), wh n (gL_seenBy_h4 v1 s) q = some r → ∀ o, (fun r => Ev (d + 1) 145 71 [(2, .int r)] [] (uS L s) o) r → Ev (d + 1) 145 4 [(0, .ref 0), (1, .int v1), (2, .int q.1), (3, .int q.2)] [] (uS L s) o :=
  fun n q r h o hc => wh_ev (E := fun (q : Int32 × Int32) o => Ev (d + 1) 145 4 [(0, .ref 0), (1, .int v1), (2, .int q.1), (3, .int q.2)] [] (uS L s) o) (C := fun (r : Int32) o => (fun r => Ev (d + 1) 145 71 [(2, .int r)] [] (uS L s) o) r) (gL_seenBy_h4_ok hd  ) n q r h o hc
def gL_seenBy (v1 : Int32) (s : mT) : Option (Int32) :=
  (wh FU (gL_seenBy_h4 v1 s) ((0 : Int32), (0 : Int32))).bind fun x9 =>
  some (x9)
set_option maxRecDepth 8000 in
theorem gL_seenBy_ok {L d : Nat} (hd : 2 ≤ d) {v1 : Int32} {s : mT} {p : Int32} (h : gL_seenBy v1 s = some p) : Ev d 145 0 [(0, .ref 0), (1, .int v1)] [] (uS L s) (some (.int p), uS L s) := by
  obtain ⟨d, rfl⟩ : ∃ e, d = e + 1 := ⟨d - 1, by omega⟩
  obtain ⟨o, ho⟩ : ∃ o : Option Value × mS, o = (some (.int p), uS L s) := ⟨_, rfl⟩
  rw [← ho]
  unfold gL_seenBy at h
  refine Ev.seg D_145 [(.iconst 0, 1), (.istore_n 2, 1), (.iconst 0, 1), (.istore_n 3, 1)] (by decide +kernel) (j := 0) (pc' := 4) (lv' := [(3, .int (0 : Int32)), (2, .int (0 : Int32)), (0, .ref 0), (1, .int v1)]) (st' := []) rfl ?_
  obtain ⟨x9, w9, h⟩ := bd h
  have j9 : Ev (d + 1) 145 71 [(2, .int x9)] [] (uS L s) o := by
    clear w9
    refine Ev.seg D_145 [(.iload_n 2, 1)] (by decide +kernel) (j := 0) (pc' := 72) (lv' := [(2, .int x9)]) (st' := [.int x9]) rfl ?_
    cases h
    obtain rfl : o = _ := ho
    exact Ev.iret D_145 (by decide +kernel)
  exact Ev.sub (lv' := [(0, .ref 0), (1, .int v1), (2, .int (0 : Int32)), (3, .int (0 : Int32))]) (subL_cons rfl (subL_cons rfl (subL_cons rfl (subL_cons rfl subL_nil)))) (gL_seenBy_h4_w hd   _ _ _ w9 _ j9)
/- PennantLawn leastCover: 144 -/
def gL_leastCover_h16 (v1 : Int32) (s : mT) (q : Int32 × Int32) : Option ((Int32 × Int32) ⊕ (Int32)) :=
  if ((1 : Int32) <<< ((s.1 16 6) &&& 31)) ≤ q.2 then
    some (.inr q.1)
  else
    (gL_seenBy q.2 s).bind fun p4 =>
    (
      if p4 = v1 then
        if q.1 = (-1 : Int32) then
          some (q.2)
        else
          (gI_bitCount q.2 s).bind fun p7 =>
          (gI_bitCount q.1 s).bind fun p8 =>
          if p8 ≤ p7 then
            some (q.1)
          else
            some (q.2)
      else
        some (q.1) : Option (Int32)).bind fun x5 =>
    some (.inl (x5, q.2 + (1 : Int32)))
set_option maxRecDepth 8000 in
theorem gL_leastCover_h16_ok {L d : Nat} (hd : 3 ≤ d + 1) {v1 : Int32} {s : mT} : ∀ (q : Int32 × Int32) (x : (Int32 × Int32) ⊕ (Int32)), gL_leastCover_h16 v1 s q = some x → ∀ o, sK (fun q => Ev (d + 1) 144 16 [(0, .ref 0), (1, .int v1), (2, .int q.1), (3, .int q.2)] [] (uS L s) o) (fun r => Ev (d + 1) 144 62 [(2, .int r)] [] (uS L s) o) x → Ev (d + 1) 144 16 [(0, .ref 0), (1, .int v1), (2, .int q.1), (3, .int q.2)] [] (uS L s) o := by
  intro q x h o ho
  unfold gL_leastCover_h16 at h
  refine Ev.seg D_144 [(.iload_n 3, 1), (.iconst 1, 1), (.aload_n 0, 1)] (by decide +kernel) (j := 0) (pc' := 19) (lv' := [(0, .ref 0), (1, .int v1), (2, .int q.1), (3, .int q.2)]) (st' := [.ref 0, .int (1 : Int32), .int q.2]) rfl ?_
  refine Ev.getR D_144 (by decide +kernel) F_9_28 T_9_2 (x := 16) (S_oR k_0 (by decide +kernel)) ?_
  refine Ev.getI D_144 (by decide +kernel) F_9_218 (Or.inl T_2_6) (S_oI k_16) ?_
  refine Ev.seg D_144 [(.ishl, 1)] (by decide +kernel) (j := 0) (pc' := 26) (lv' := [(0, .ref 0), (1, .int v1), (2, .int q.1), (3, .int q.2)]) (st' := [.int ((1 : Int32) <<< ((s.1 16 6) &&& 31)), .int q.2]) rfl ?_
  refine Ev.icmp D_144 (c := .ge) (off := 36) (by decide +kernel) (t := 62) rfl (fun c3 => ?_) (fun c3 => ?_)
  · have c3 : ((1 : Int32) <<< ((s.1 16 6) &&& 31)) ≤ q.2 := of_decide_eq_true c3
    rw [if_pos c3] at h
    cases h
    exact Ev.sub (lv' := [(2, .int q.1)]) (subL_cons rfl subL_nil) ho
  · have c3 : ¬ ((1 : Int32) <<< ((s.1 16 6) &&& 31)) ≤ q.2 := of_decide_eq_false c3
    rw [if_neg c3] at h
    refine Ev.seg D_144 [(.aload_n 0, 1), (.iload_n 3, 1)] (by decide +kernel) (j := 0) (pc' := 31) (lv' := [(0, .ref 0), (1, .int v1), (2, .int q.1), (3, .int q.2)]) (st' := [.int q.2, .ref 0]) rfl ?_
    obtain ⟨p4, e4, h⟩ := bd h
    refine Ev.callv D_144 E_145 (by decide +kernel) C_9_280 0 [.int q.2] (r := []) rfl (gd_o k_0 (by decide)) rfl (Nat.le_of_ble_eq_true rfl) (Nat.le_of_ble_eq_true rfl) (gL_seenBy_ok (by omega)  e4) ?_
    refine Ev.seg D_144 [(.iload_n 1, 1)] (by decide +kernel) (j := 0) (pc' := 35) (lv' := [(0, .ref 0), (1, .int v1), (2, .int q.1), (3, .int q.2)]) (st' := [.int v1, .int p4]) rfl ?_
    obtain ⟨x5, g5, h⟩ := bd h
    have j5 : Ev (d + 1) 144 56 [(0, .ref 0), (1, .int v1), (2, .int x5), (3, .int q.2)] [] (uS L s) o := by
      clear g5
      refine Ev.seg D_144 [(.iinc 3 1, 3), (.goto (-43), 3)] (by decide +kernel) (j := 0) (pc' := 16) (lv' := [(3, .int (q.2 + (1 : Int32))), (0, .ref 0), (1, .int v1), (2, .int x5)]) (st' := []) rfl ?_
      cases h
      exact Ev.sub (lv' := [(0, .ref 0), (1, .int v1), (2, .int (x5)), (3, .int (q.2 + (1 : Int32)))]) (subL_cons rfl (subL_cons rfl (subL_cons rfl (subL_cons rfl subL_nil)))) ho
    clear h
    refine Ev.icmp D_144 (c := .ne) (off := 21) (by decide +kernel) (t := 56) rfl (fun c5 => ?_) (fun c5 => ?_)
    · have c5 : ¬ p4 = v1 := of_decide_eq_true c5
      rw [if_neg c5] at g5
      cases g5
      exact Ev.sub2 j5 (subL_cons rfl (subL_cons rfl (subL_cons rfl (subL_cons rfl subL_nil))))
    · have c5 : p4 = v1 := Decidable.of_not_not (of_decide_eq_false c5)
      rw [if_pos c5] at g5
      refine Ev.seg D_144 [(.iload_n 2, 1), (.iconst (-1), 1)] (by decide +kernel) (j := 0) (pc' := 40) (lv' := [(0, .ref 0), (1, .int v1), (2, .int q.1), (3, .int q.2)]) (st' := [.int (-1 : Int32), .int q.1]) rfl ?_
      refine Ev.icmp D_144 (c := .eq) (off := 14) (by decide +kernel) (t := 54) rfl (fun c6 => ?_) (fun c6 => ?_)
      · have c6 : q.1 = (-1 : Int32) := of_decide_eq_true c6
        rw [if_pos c6] at g5
        refine Ev.seg D_144 [(.iload_n 3, 1), (.istore_n 2, 1)] (by decide +kernel) (j := 0) (pc' := 56) (lv' := [(2, .int q.2), (0, .ref 0), (1, .int v1), (3, .int q.2)]) (st' := []) rfl ?_
        cases g5
        exact Ev.sub2 j5 (subL_cons rfl (subL_cons rfl (subL_cons rfl (subL_cons rfl subL_nil))))
      · have c6 : ¬ q.1 = (-1 : Int32) := of_decide_eq_false c6
        rw [if_neg c6] at g5
        refine Ev.seg D_144 [(.iload_n 3, 1)] (by decide +kernel) (j := 0) (pc' := 44) (lv' := [(0, .ref 0), (1, .int v1), (2, .int q.1), (3, .int q.2)]) (st' := [.int q.2]) rfl ?_
        obtain ⟨p7, e7, g5⟩ := bd g5
        refine Ev.calls D_144 E_327 (by decide +kernel) C_9_230 [.int q.2] (r := []) rfl rfl (Nat.le_of_ble_eq_true rfl) (Nat.le_of_ble_eq_true rfl) (gI_bitCount_ok (by omega)  e7) ?_
        refine Ev.seg D_144 [(.iload_n 2, 1)] (by decide +kernel) (j := 0) (pc' := 48) (lv' := [(0, .ref 0), (1, .int v1), (2, .int q.1), (3, .int q.2)]) (st' := [.int q.1, .int p7]) rfl ?_
        obtain ⟨p8, e8, g5⟩ := bd g5
        refine Ev.calls D_144 E_327 (by decide +kernel) C_9_230 [.int q.1] (r := [.int p7]) rfl rfl (Nat.le_of_ble_eq_true rfl) (Nat.le_of_ble_eq_true rfl) (gI_bitCount_ok (by omega)  e8) ?_
        refine Ev.icmp D_144 (c := .ge) (off := 5) (by decide +kernel) (t := 56) rfl (fun c9 => ?_) (fun c9 => ?_)
        · have c9 : p8 ≤ p7 := of_decide_eq_true c9
          rw [if_pos c9] at g5
          cases g5
          exact Ev.sub2 j5 (subL_cons rfl (subL_cons rfl (subL_cons rfl (subL_cons rfl subL_nil))))
        · have c9 : ¬ p8 ≤ p7 := of_decide_eq_false c9
          rw [if_neg c9] at g5
          refine Ev.seg D_144 [(.iload_n 3, 1), (.istore_n 2, 1)] (by decide +kernel) (j := 0) (pc' := 56) (lv' := [(2, .int q.2), (0, .ref 0), (1, .int v1), (3, .int q.2)]) (st' := []) rfl ?_
          cases g5
          exact Ev.sub2 j5 (subL_cons rfl (subL_cons rfl (subL_cons rfl (subL_cons rfl subL_nil))))
theorem gL_leastCover_h16_w {L d : Nat} (hd : 3 ≤ d + 1) {v1 : Int32} {s : mT} : ∀ (n : Nat) (q : Int32 × Int32) (r : Int32), wh n (gL_leastCover_h16 v1 s) q = some r → ∀ o, (fun r => Ev (d + 1) 144 62 [(2, .int r)] [] (uS L s) o) r → Ev (d + 1) 144 16 [(0, .ref 0), (1, .int v1), (2, .int q.1), (3, .int q.2)] [] (uS L s) o :=
  fun n q r h o hc => wh_ev (E := fun (q : Int32 × Int32) o => Ev (d + 1) 144 16 [(0, .ref 0), (1, .int v1), (2, .int q.1), (3, .int q.2)] [] (uS L s) o) (C := fun (r : Int32) o => (fun r => Ev (d + 1) 144 62 [(2, .int r)] [] (uS L s) o) r) (gL_leastCover_h16_ok hd  ) n q r h o hc
def gL_leastCover (s : mT) : Option (Int32) :=
  (wh FU (gL_leastCover_h16 (((1 : Int32) <<< ((s.1 16 5) &&& 31)) - (1 : Int32)) s) ((-1 : Int32), (0 : Int32))).bind fun x10 =>
  some (x10)
set_option maxRecDepth 8000 in
theorem gL_leastCover_ok {L d : Nat} (hd : 3 ≤ d) {s : mT} {p : Int32} (h : gL_leastCover s = some p) : Ev d 144 0 [(0, .ref 0)] [] (uS L s) (some (.int p), uS L s) := by
  obtain ⟨d, rfl⟩ : ∃ e, d = e + 1 := ⟨d - 1, by omega⟩
  obtain ⟨o, ho⟩ : ∃ o : Option Value × mS, o = (some (.int p), uS L s) := ⟨_, rfl⟩
  rw [← ho]
  unfold gL_leastCover at h
  refine Ev.seg D_144 [(.iconst 1, 1), (.aload_n 0, 1)] (by decide +kernel) (j := 0) (pc' := 2) (lv' := [(0, .ref 0)]) (st' := [.ref 0, .int (1 : Int32)]) rfl ?_
  refine Ev.getR D_144 (by decide +kernel) F_9_28 T_9_2 (x := 16) (S_oR k_0 (by decide +kernel)) ?_
  refine Ev.getI D_144 (by decide +kernel) F_9_190 (Or.inl T_2_5) (S_oI k_16) ?_
  refine Ev.seg D_144 [(.ishl, 1), (.iconst 1, 1), (.isub, 1), (.istore_n 1, 1), (.iconst (-1), 1), (.istore_n 2, 1), (.iconst 0, 1), (.istore_n 3, 1)] (by decide +kernel) (j := 0) (pc' := 16) (lv' := [(3, .int (0 : Int32)), (2, .int (-1 : Int32)), (1, .int (((1 : Int32) <<< ((s.1 16 5) &&& 31)) - (1 : Int32))), (0, .ref 0)]) (st' := []) rfl ?_
  obtain ⟨x10, w10, h⟩ := bd h
  have j10 : Ev (d + 1) 144 62 [(2, .int x10)] [] (uS L s) o := by
    clear w10
    refine Ev.seg D_144 [(.iload_n 2, 1)] (by decide +kernel) (j := 0) (pc' := 63) (lv' := [(2, .int x10)]) (st' := [.int x10]) rfl ?_
    cases h
    obtain rfl : o = _ := ho
    exact Ev.iret D_144 (by decide +kernel)
  exact Ev.sub (lv' := [(0, .ref 0), (1, .int (((1 : Int32) <<< ((s.1 16 5) &&& 31)) - (1 : Int32))), (2, .int (-1 : Int32)), (3, .int (0 : Int32))]) (subL_cons rfl (subL_cons rfl (subL_cons rfl (subL_cons rfl subL_nil)))) (gL_leastCover_h16_w hd   _ _ _ w10 _ j10)
/- PennantLawn cover: 143 -/
def gL_cover (s : mT) : Option (Int32) :=
  (gR_exists 16 s).bind fun p2 =>
  if p2 = 0 then
    some ((-2 : Int32))
  else
    (gL_leastCover s).bind fun p4 =>
    (
      if p4 = (-1 : Int32) then
        some ((-1 : Int32))
      else
        (gI_bitCount p4 s).bind fun p6 =>
        some (p6) : Option (Int32)).bind fun x5 =>
    some (x5)
set_option maxRecDepth 8000 in
theorem gL_cover_ok {L d : Nat} (hd : 4 ≤ d) {s : mT} {p : Int32} (h : gL_cover s = some p) : Ev d 143 0 [(0, .ref 0)] [] (uS L s) (some (.int p), uS L s) := by
  obtain ⟨d, rfl⟩ : ∃ e, d = e + 1 := ⟨d - 1, by omega⟩
  obtain ⟨o, ho⟩ : ∃ o : Option Value × mS, o = (some (.int p), uS L s) := ⟨_, rfl⟩
  rw [← ho]
  unfold gL_cover at h
  refine Ev.seg D_143 [(.aload_n 0, 1)] (by decide +kernel) (j := 0) (pc' := 1) (lv' := [(0, .ref 0)]) (st' := [.ref 0]) rfl ?_
  refine Ev.getR D_143 (by decide +kernel) F_9_28 T_9_2 (x := 16) (S_oR k_0 (by decide +kernel)) ?_
  obtain ⟨p2, e2, h⟩ := bd h
  refine Ev.callv D_143 E_43 (by decide +kernel) C_9_196 16 [] (r := []) rfl (gd_o k_16 (by decide)) rfl (Nat.le_of_ble_eq_true rfl) (Nat.le_of_ble_eq_true rfl) (gR_exists_ok (by omega) (by decide) e2) ?_
  refine Ev.if_ D_143 (c := .ne) (off := 6) (by decide +kernel) (t := 13) rfl (fun c3 => ?_) (fun c3 => ?_)
  · have c3 : ¬ p2 = 0 := of_decide_eq_true c3
    rw [if_neg c3] at h
    refine Ev.seg D_143 [(.aload_n 0, 1)] (by decide +kernel) (j := 0) (pc' := 14) (lv' := [(0, .ref 0)]) (st' := [.ref 0]) rfl ?_
    obtain ⟨p4, e4, h⟩ := bd h
    refine Ev.callv D_143 E_144 (by decide +kernel) C_9_277 0 [] (r := []) rfl (gd_o k_0 (by decide)) rfl (Nat.le_of_ble_eq_true rfl) (Nat.le_of_ble_eq_true rfl) (gL_leastCover_ok (by omega)  e4) ?_
    refine Ev.seg D_143 [(.istore_n 1, 1), (.iload_n 1, 1), (.iconst (-1), 1)] (by decide +kernel) (j := 0) (pc' := 20) (lv' := [(1, .int p4), (0, .ref 0)]) (st' := [.int (-1 : Int32), .int p4]) rfl ?_
    obtain ⟨x5, g5, h⟩ := bd h
    have j5 : Ev (d + 1) 143 31 [] [.int x5] (uS L s) o := by
      clear g5
      cases h
      obtain rfl : o = _ := ho
      exact Ev.iret D_143 (by decide +kernel)
    clear h
    refine Ev.icmp D_143 (c := .ne) (off := 7) (by decide +kernel) (t := 27) rfl (fun c5 => ?_) (fun c5 => ?_)
    · have c5 : ¬ p4 = (-1 : Int32) := of_decide_eq_true c5
      rw [if_neg c5] at g5
      refine Ev.seg D_143 [(.iload_n 1, 1)] (by decide +kernel) (j := 0) (pc' := 28) (lv' := [(1, .int p4), (0, .ref 0)]) (st' := [.int p4]) rfl ?_
      obtain ⟨p6, e6, g5⟩ := bd g5
      refine Ev.calls D_143 E_327 (by decide +kernel) C_9_230 [.int p4] (r := []) rfl rfl (Nat.le_of_ble_eq_true rfl) (Nat.le_of_ble_eq_true rfl) (gI_bitCount_ok (by omega)  e6) ?_
      cases g5
      exact Ev.sub2 j5 subL_nil
    · have c5 : p4 = (-1 : Int32) := Decidable.of_not_not (of_decide_eq_false c5)
      rw [if_pos c5] at g5
      refine Ev.seg D_143 [(.iconst (-1), 1), (.goto 7, 3)] (by decide +kernel) (j := 0) (pc' := 31) (lv' := [(1, .int p4), (0, .ref 0)]) (st' := [.int (-1 : Int32)]) rfl ?_
      cases g5
      exact Ev.sub2 j5 subL_nil
  · have c3 : p2 = 0 := Decidable.of_not_not (of_decide_eq_false c3)
    rw [if_pos c3] at h
    refine Ev.seg D_143 [(.bipush (-2), 2)] (by decide +kernel) (j := 0) (pc' := 12) (lv' := [(0, .ref 0)]) (st' := [.int (-2 : Int32)]) rfl ?_
    cases h
    obtain rfl : o = _ := ho
    exact Ev.iret D_143 (by decide +kernel)
/- PennantLawn covers: 146 -/
def gL_covers (s : mT) : Option (Int32) :=
  (gR_exists 16 s).bind fun p2 =>
  (
    if p2 = 0 then
      some ((-2 : Int32))
    else
      (gL_leastCover s).bind fun p4 =>
      some (p4) : Option (Int32)).bind fun x3 =>
  some (x3)
set_option maxRecDepth 8000 in
theorem gL_covers_ok {L d : Nat} (hd : 4 ≤ d) {s : mT} {p : Int32} (h : gL_covers s = some p) : Ev d 146 0 [(0, .ref 0)] [] (uS L s) (some (.int p), uS L s) := by
  obtain ⟨d, rfl⟩ : ∃ e, d = e + 1 := ⟨d - 1, by omega⟩
  obtain ⟨o, ho⟩ : ∃ o : Option Value × mS, o = (some (.int p), uS L s) := ⟨_, rfl⟩
  rw [← ho]
  unfold gL_covers at h
  refine Ev.seg D_146 [(.aload_n 0, 1)] (by decide +kernel) (j := 0) (pc' := 1) (lv' := [(0, .ref 0)]) (st' := [.ref 0]) rfl ?_
  refine Ev.getR D_146 (by decide +kernel) F_9_28 T_9_2 (x := 16) (S_oR k_0 (by decide +kernel)) ?_
  obtain ⟨p2, e2, h⟩ := bd h
  refine Ev.callv D_146 E_43 (by decide +kernel) C_9_196 16 [] (r := []) rfl (gd_o k_16 (by decide)) rfl (Nat.le_of_ble_eq_true rfl) (Nat.le_of_ble_eq_true rfl) (gR_exists_ok (by omega) (by decide) e2) ?_
  obtain ⟨x3, g3, h⟩ := bd h
  have j3 : Ev (d + 1) 146 19 [] [.int x3] (uS L s) o := by
    clear g3
    cases h
    obtain rfl : o = _ := ho
    exact Ev.iret D_146 (by decide +kernel)
  clear h
  refine Ev.if_ D_146 (c := .eq) (off := 10) (by decide +kernel) (t := 17) rfl (fun c3 => ?_) (fun c3 => ?_)
  · have c3 : p2 = 0 := of_decide_eq_true c3
    rw [if_pos c3] at g3
    refine Ev.seg D_146 [(.bipush (-2), 2)] (by decide +kernel) (j := 0) (pc' := 19) (lv' := [(0, .ref 0)]) (st' := [.int (-2 : Int32)]) rfl ?_
    cases g3
    exact Ev.sub2 j3 subL_nil
  · have c3 : ¬ p2 = 0 := of_decide_eq_false c3
    rw [if_neg c3] at g3
    refine Ev.seg D_146 [(.aload_n 0, 1)] (by decide +kernel) (j := 0) (pc' := 11) (lv' := [(0, .ref 0)]) (st' := [.ref 0]) rfl ?_
    obtain ⟨p4, e4, g3⟩ := bd g3
    refine Ev.callv D_146 E_144 (by decide +kernel) C_9_277 0 [] (r := []) rfl (gd_o k_0 (by decide)) rfl (Nat.le_of_ble_eq_true rfl) (Nat.le_of_ble_eq_true rfl) (gL_leastCover_ok (by omega)  e4) ?_
    refine Ev.seg D_146 [(.goto 5, 3)] (by decide +kernel) (j := 0) (pc' := 19) (lv' := [(0, .ref 0)]) (st' := [.int p4]) rfl ?_
    cases g3
    exact Ev.sub2 j3 subL_nil
/- PennantLawn isSlot: 149 -/
def gL_isSlot (v0 : Int32) (s : mT) : Option (Int32) :=
  (
    if v0 < 0 then
      some ((0 : Int32))
    else
      if (4 : Int32) ≤ v0 then
        some ((0 : Int32))
      else
        some ((1 : Int32)) : Option (Int32)).bind fun x1 =>
  if x1 = 0 ∨ x1 = 1 then some (x1) else none
set_option maxRecDepth 8000 in
theorem gL_isSlot_ok {L d : Nat} (hd : 1 ≤ d) {v0 : Int32} {s : mT} {p : Int32} (h : gL_isSlot v0 s = some p) : Ev d 149 0 [(0, .int v0)] [] (uS L s) (some (.int p), uS L s) := by
  obtain ⟨d, rfl⟩ : ∃ e, d = e + 1 := ⟨d - 1, by omega⟩
  obtain ⟨o, ho⟩ : ∃ o : Option Value × mS, o = (some (.int p), uS L s) := ⟨_, rfl⟩
  rw [← ho]
  unfold gL_isSlot at h
  refine Ev.seg D_149 [(.iload_n 0, 1)] (by decide +kernel) (j := 0) (pc' := 1) (lv' := [(0, .int v0)]) (st' := [.int v0]) rfl ?_
  obtain ⟨x1, g1, h⟩ := bd h
  have j1 : Ev (d + 1) 149 14 [] [.int x1] (uS L s) o := by
    clear g1
    by_cases c3 : x1 = 0 ∨ x1 = 1
    · rw [if_pos c3] at h
      cases h
      obtain rfl : o = _ := ho
      exact Ev.zret D_149 c3 (by decide +kernel)
    · rw [if_neg c3] at h; cases h
  clear h
  refine Ev.if_ D_149 (c := .lt) (off := 12) (by decide +kernel) (t := 13) rfl (fun c1 => ?_) (fun c1 => ?_)
  · have c1 : v0 < 0 := of_decide_eq_true c1
    rw [if_pos c1] at g1
    refine Ev.seg D_149 [(.iconst 0, 1)] (by decide +kernel) (j := 0) (pc' := 14) (lv' := [(0, .int v0)]) (st' := [.int (0 : Int32)]) rfl ?_
    cases g1
    exact Ev.sub2 j1 subL_nil
  · have c1 : ¬ v0 < 0 := of_decide_eq_false c1
    rw [if_neg c1] at g1
    refine Ev.seg D_149 [(.iload_n 0, 1), (.iconst 4, 1)] (by decide +kernel) (j := 0) (pc' := 6) (lv' := [(0, .int v0)]) (st' := [.int (4 : Int32), .int v0]) rfl ?_
    refine Ev.icmp D_149 (c := .ge) (off := 7) (by decide +kernel) (t := 13) rfl (fun c2 => ?_) (fun c2 => ?_)
    · have c2 : (4 : Int32) ≤ v0 := of_decide_eq_true c2
      rw [if_pos c2] at g1
      refine Ev.seg D_149 [(.iconst 0, 1)] (by decide +kernel) (j := 0) (pc' := 14) (lv' := [(0, .int v0)]) (st' := [.int (0 : Int32)]) rfl ?_
      cases g1
      exact Ev.sub2 j1 subL_nil
    · have c2 : ¬ (4 : Int32) ≤ v0 := of_decide_eq_false c2
      rw [if_neg c2] at g1
      refine Ev.seg D_149 [(.iconst 1, 1), (.goto 4, 3)] (by decide +kernel) (j := 0) (pc' := 14) (lv' := [(0, .int v0)]) (st' := [.int (1 : Int32)]) rfl ?_
      cases g1
      exact Ev.sub2 j1 subL_nil
/- PennantLawn wrongSeen: 148 -/
def gL_wrongSeen (v1 : Int32) (s : mT) : Option (Int32) :=
  (gL_isSlot v1 s).bind fun p1 =>
  if p1 = 0 then
    some ((-2 : Int32))
  else
    (gR_exists 16 s).bind fun p5 =>
    if p5 = 0 then
      some ((-2 : Int32))
    else
      if ¬ (v1 < 0 ∨ 4 ≤ v1.toNatClampNeg) then
        if (s.1 (286 + 2 * v1.toNatClampNeg) 1) = 0 then
          some ((-6 : Int32))
        else
          if ¬ (v1 < 0 ∨ 4 ≤ v1.toNatClampNeg) then
            (gW_tellsPlaces (286 + 2 * v1.toNatClampNeg) 16 s).bind fun p14 =>
            (
              if p14 = 0 then
                some ((-2 : Int32))
              else
                some ((0 : Int32)) : Option (Int32)).bind fun x15 =>
            some (x15)
          else none
      else none
set_option maxRecDepth 8000 in
theorem gL_wrongSeen_ok {L d : Nat} (hd : 4 ≤ d) {v1 : Int32} {s : mT} {p : Int32} (h : gL_wrongSeen v1 s = some p) : Ev d 148 0 [(0, .ref 0), (1, .int v1)] [] (uS L s) (some (.int p), uS L s) := by
  obtain ⟨d, rfl⟩ : ∃ e, d = e + 1 := ⟨d - 1, by omega⟩
  obtain ⟨o, ho⟩ : ∃ o : Option Value × mS, o = (some (.int p), uS L s) := ⟨_, rfl⟩
  rw [← ho]
  unfold gL_wrongSeen at h
  refine Ev.seg D_148 [(.iload_n 1, 1)] (by decide +kernel) (j := 0) (pc' := 1) (lv' := [(0, .ref 0), (1, .int v1)]) (st' := [.int v1]) rfl ?_
  obtain ⟨p1, e1, h⟩ := bd h
  refine Ev.calls D_148 E_149 (by decide +kernel) C_9_308 [.int v1] (r := []) rfl rfl (Nat.le_of_ble_eq_true rfl) (Nat.le_of_ble_eq_true rfl) (gL_isSlot_ok (by omega)  e1) ?_
  refine Ev.if_ D_148 (c := .eq) (off := 13) (by decide +kernel) (t := 17) rfl (fun c2 => ?_) (fun c2 => ?_)
  · have c2 : p1 = 0 := of_decide_eq_true c2
    rw [if_pos c2] at h
    refine Ev.seg D_148 [(.bipush (-2), 2)] (by decide +kernel) (j := 0) (pc' := 19) (lv' := [(0, .ref 0), (1, .int v1)]) (st' := [.int (-2 : Int32)]) rfl ?_
    cases h
    obtain rfl : o = _ := ho
    exact Ev.iret D_148 (by decide +kernel)
  · have c2 : ¬ p1 = 0 := of_decide_eq_false c2
    rw [if_neg c2] at h
    refine Ev.seg D_148 [(.aload_n 0, 1)] (by decide +kernel) (j := 0) (pc' := 8) (lv' := [(0, .ref 0), (1, .int v1)]) (st' := [.ref 0]) rfl ?_
    refine Ev.getR D_148 (by decide +kernel) F_9_28 T_9_2 (x := 16) (S_oR k_0 (by decide +kernel)) ?_
    obtain ⟨p5, e5, h⟩ := bd h
    refine Ev.callv D_148 E_43 (by decide +kernel) C_9_196 16 [] (r := []) rfl (gd_o k_16 (by decide)) rfl (Nat.le_of_ble_eq_true rfl) (Nat.le_of_ble_eq_true rfl) (gR_exists_ok (by omega) (by decide) e5) ?_
    refine Ev.if_ D_148 (c := .ne) (off := 6) (by decide +kernel) (t := 20) rfl (fun c6 => ?_) (fun c6 => ?_)
    · have c6 : ¬ p5 = 0 := of_decide_eq_true c6
      rw [if_neg c6] at h
      refine Ev.seg D_148 [(.aload_n 0, 1)] (by decide +kernel) (j := 0) (pc' := 21) (lv' := [(0, .ref 0), (1, .int v1)]) (st' := [.ref 0]) rfl ?_
      refine Ev.getR D_148 (by decide +kernel) F_9_84 T_9_11 (x := 285) (S_oR k_0 (by decide +kernel)) ?_
      refine Ev.seg D_148 [(.iload_n 1, 1)] (by decide +kernel) (j := 0) (pc' := 25) (lv' := [(0, .ref 0), (1, .int v1)]) (st' := [.int v1, .ref 285]) rfl ?_
      by_cases b25 : ¬ (v1 < 0 ∨ 4 ≤ v1.toNatClampNeg)
      rotate_left
      · rw [if_neg b25] at h; cases h
      rw [if_pos b25] at h
      refine Ev.aald D_148 (by decide +kernel) (kd := 25) ⟨by decide, by decide⟩ (x := (286 + 2 * v1.toNatClampNeg)) (S_aR k_285 b25 (el_rwr b25)) ?_
      refine Ev.getI D_148 (by decide +kernel) F_9_311 (Or.inr T_4_1) (S_oI (rw_o (el_rw b25))) ?_
      refine Ev.if_ D_148 (c := .ne) (off := 6) (by decide +kernel) (t := 35) rfl (fun c10 => ?_) (fun c10 => ?_)
      · have c10 : ¬ (s.1 (286 + 2 * v1.toNatClampNeg) 1) = 0 := of_decide_eq_true c10
        rw [if_neg c10] at h
        refine Ev.seg D_148 [(.aload_n 0, 1)] (by decide +kernel) (j := 0) (pc' := 36) (lv' := [(0, .ref 0), (1, .int v1)]) (st' := [.ref 0]) rfl ?_
        refine Ev.getR D_148 (by decide +kernel) F_9_84 T_9_11 (x := 285) (S_oR k_0 (by decide +kernel)) ?_
        refine Ev.seg D_148 [(.iload_n 1, 1)] (by decide +kernel) (j := 0) (pc' := 40) (lv' := [(0, .ref 0), (1, .int v1)]) (st' := [.int v1, .ref 285]) rfl ?_
        by_cases b40 : ¬ (v1 < 0 ∨ 4 ≤ v1.toNatClampNeg)
        rotate_left
        · rw [if_neg b40] at h; cases h
        rw [if_pos b40] at h
        refine Ev.aald D_148 (by decide +kernel) (kd := 25) ⟨by decide, by decide⟩ (x := (286 + 2 * v1.toNatClampNeg)) (S_aR k_285 b40 (el_rwr b40)) ?_
        refine Ev.seg D_148 [(.aload_n 0, 1)] (by decide +kernel) (j := 0) (pc' := 42) (lv' := [(0, .ref 0), (1, .int v1)]) (st' := [.ref 0, .ref (286 + 2 * v1.toNatClampNeg)]) rfl ?_
        refine Ev.getR D_148 (by decide +kernel) F_9_28 T_9_2 (x := 16) (S_oR k_0 (by decide +kernel)) ?_
        obtain ⟨p14, e14, h⟩ := bd h
        refine Ev.callv D_148 E_66 (by decide +kernel) C_9_315 (286 + 2 * v1.toNatClampNeg) [.ref 16] (r := []) rfl (gd_o (rw_o (el_rw b40)) (by decide)) rfl (Nat.le_of_ble_eq_true rfl) (Nat.le_of_ble_eq_true rfl) (gW_tellsPlaces_ok (by omega) (el_rw b40) (by decide) e14) ?_
        obtain ⟨x15, g15, h⟩ := bd h
        have j15 : Ev (d + 1) 148 57 [] [.int x15] (uS L s) o := by
          clear g15
          cases h
          obtain rfl : o = _ := ho
          exact Ev.iret D_148 (by decide +kernel)
        clear h
        refine Ev.if_ D_148 (c := .eq) (off := 7) (by decide +kernel) (t := 55) rfl (fun c15 => ?_) (fun c15 => ?_)
        · have c15 : p14 = 0 := of_decide_eq_true c15
          rw [if_pos c15] at g15
          refine Ev.seg D_148 [(.bipush (-2), 2)] (by decide +kernel) (j := 0) (pc' := 57) (lv' := [(0, .ref 0), (1, .int v1)]) (st' := [.int (-2 : Int32)]) rfl ?_
          cases g15
          exact Ev.sub2 j15 subL_nil
        · have c15 : ¬ p14 = 0 := of_decide_eq_false c15
          rw [if_neg c15] at g15
          refine Ev.seg D_148 [(.iconst 0, 1), (.goto 5, 3)] (by decide +kernel) (j := 0) (pc' := 57) (lv' := [(0, .ref 0), (1, .int v1)]) (st' := [.int (0 : Int32)]) rfl ?_
          cases g15
          exact Ev.sub2 j15 subL_nil
      · have c10 : (s.1 (286 + 2 * v1.toNatClampNeg) 1) = 0 := Decidable.of_not_not (of_decide_eq_false c10)
        rw [if_pos c10] at h
        refine Ev.seg D_148 [(.bipush (-6), 2)] (by decide +kernel) (j := 0) (pc' := 34) (lv' := [(0, .ref 0), (1, .int v1)]) (st' := [.int (-6 : Int32)]) rfl ?_
        cases h
        obtain rfl : o = _ := ho
        exact Ev.iret D_148 (by decide +kernel)
    · have c6 : p5 = 0 := Decidable.of_not_not (of_decide_eq_false c6)
      rw [if_pos c6] at h
      refine Ev.seg D_148 [(.bipush (-2), 2)] (by decide +kernel) (j := 0) (pc' := 19) (lv' := [(0, .ref 0), (1, .int v1)]) (st' := [.int (-2 : Int32)]) rfl ?_
      cases h
      obtain rfl : o = _ := ho
      exact Ev.iret D_148 (by decide +kernel)
/- PennantLawn fits: 147 -/
def gL_fits (v1 : Int32) (s : mT) : Option (Int32 × mT) :=
  (gL_wrongSeen v1 s).bind fun p1 =>
  if p1 = 0 then
    if ¬ (v1 < 0 ∨ 4 ≤ v1.toNatClampNeg) then
      (gE_makeIfStale v1 (286 + 2 * v1.toNatClampNeg) s).bind fun p6 =>
      some ((p6.1 225 3, p6))
    else none
  else
    some ((p1, s))
set_option maxRecDepth 8000 in
theorem gL_fits_ok {L d : Nat} (hd : 6 ≤ d) {v1 : Int32} {s : mT} {p : Int32 × mT} (h : gL_fits v1 s = some p) : Ev d 147 0 [(0, .ref 0), (1, .int v1)] [] (uS L s) (some (.int p.1), uS L p.2) := by
  obtain ⟨d, rfl⟩ : ∃ e, d = e + 1 := ⟨d - 1, by omega⟩
  obtain ⟨o, ho⟩ : ∃ o : Option Value × mS, o = (some (.int p.1), uS L p.2) := ⟨_, rfl⟩
  rw [← ho]
  unfold gL_fits at h
  refine Ev.seg D_147 [(.aload_n 0, 1), (.iload_n 1, 1)] (by decide +kernel) (j := 0) (pc' := 2) (lv' := [(0, .ref 0), (1, .int v1)]) (st' := [.int v1, .ref 0]) rfl ?_
  obtain ⟨p1, e1, h⟩ := bd h
  refine Ev.callv D_147 E_148 (by decide +kernel) C_9_283 0 [.int v1] (r := []) rfl (gd_o k_0 (by decide)) rfl (Nat.le_of_ble_eq_true rfl) (Nat.le_of_ble_eq_true rfl) (gL_wrongSeen_ok (by omega)  e1) ?_
  refine Ev.seg D_147 [(.istore_n 2, 1), (.iload_n 2, 1)] (by decide +kernel) (j := 0) (pc' := 7) (lv' := [(2, .int p1), (0, .ref 0), (1, .int v1)]) (st' := [.int p1]) rfl ?_
  refine Ev.if_ D_147 (c := .eq) (off := 5) (by decide +kernel) (t := 12) rfl (fun c2 => ?_) (fun c2 => ?_)
  · have c2 : p1 = 0 := of_decide_eq_true c2
    rw [if_pos c2] at h
    refine Ev.seg D_147 [(.aload_n 0, 1)] (by decide +kernel) (j := 0) (pc' := 13) (lv' := [(2, .int p1), (0, .ref 0), (1, .int v1)]) (st' := [.ref 0]) rfl ?_
    refine Ev.getR D_147 (by decide +kernel) F_9_56 T_9_8 (x := 225) (S_oR k_0 (by decide +kernel)) ?_
    refine Ev.seg D_147 [(.iload_n 1, 1), (.aload_n 0, 1)] (by decide +kernel) (j := 0) (pc' := 18) (lv' := [(2, .int p1), (0, .ref 0), (1, .int v1)]) (st' := [.ref 0, .int v1, .ref 225]) rfl ?_
    refine Ev.getR D_147 (by decide +kernel) F_9_84 T_9_11 (x := 285) (S_oR k_0 (by decide +kernel)) ?_
    refine Ev.seg D_147 [(.iload_n 1, 1)] (by decide +kernel) (j := 0) (pc' := 22) (lv' := [(2, .int p1), (0, .ref 0), (1, .int v1)]) (st' := [.int v1, .ref 285, .int v1, .ref 225]) rfl ?_
    by_cases b22 : ¬ (v1 < 0 ∨ 4 ≤ v1.toNatClampNeg)
    rotate_left
    · rw [if_neg b22] at h; cases h
    rw [if_pos b22] at h
    refine Ev.aald D_147 (by decide +kernel) (kd := 25) ⟨by decide, by decide⟩ (x := (286 + 2 * v1.toNatClampNeg)) (S_aR k_285 b22 (el_rwr b22)) ?_
    obtain ⟨p6, e6, h⟩ := bd h
    refine Ev.callv D_147 E_73 (by decide +kernel) C_9_286 225 [.int v1, .ref (286 + 2 * v1.toNatClampNeg)] (r := []) rfl (gd_o k_225 (by decide)) rfl (Nat.le_of_ble_eq_true rfl) (Nat.le_of_ble_eq_true rfl) (gE_makeIfStale_ok (by omega) (el_rw b22) e6) ?_
    refine Ev.seg D_147 [(.aload_n 0, 1)] (by decide +kernel) (j := 0) (pc' := 27) (lv' := [(2, .int p1), (0, .ref 0), (1, .int v1)]) (st' := [.ref 0]) rfl ?_
    refine Ev.getR D_147 (by decide +kernel) F_9_56 T_9_8 (x := 225) (S_oR k_0 (by decide +kernel)) ?_
    refine Ev.getI D_147 (by decide +kernel) F_9_289 (Or.inl T_5_3) (S_oI k_225) ?_
    cases h
    obtain rfl : o = _ := ho
    exact Ev.iret D_147 (by decide +kernel)
  · have c2 : ¬ p1 = 0 := of_decide_eq_false c2
    rw [if_neg c2] at h
    refine Ev.seg D_147 [(.iload_n 2, 1)] (by decide +kernel) (j := 0) (pc' := 11) (lv' := [(2, .int p1), (0, .ref 0), (1, .int v1)]) (st' := [.int p1]) rfl ?_
    cases h
    obtain rfl : o = _ := ho
    exact Ev.iret D_147 (by decide +kernel)
/- PennantLawn may: 150 -/
def gL_may (v1 : Int32) (v2 : Int32) (s : mT) : Option (Int32 × mT) :=
  (gR_hasWatcher 16 v2 s).bind fun p2 =>
  if p2 = 0 then
    some (((-2 : Int32), s))
  else
    (gL_wrongSeen v1 s).bind fun p4 =>
    if p4 = 0 then
      if ¬ (v1 < 0 ∨ 4 ≤ v1.toNatClampNeg) then
        (gE_makeIfStale v1 (286 + 2 * v1.toNatClampNeg) s).bind fun p9 =>
        (gE_boatsOf v2 p9).bind fun p11 =>
        some ((p11, p9))
      else none
    else
      some ((p4, s))
set_option maxRecDepth 8000 in
theorem gL_may_ok {L d : Nat} (hd : 6 ≤ d) {v1 : Int32} {v2 : Int32} {s : mT} {p : Int32 × mT} (h : gL_may v1 v2 s = some p) : Ev d 150 0 [(0, .ref 0), (1, .int v1), (2, .int v2)] [] (uS L s) (some (.int p.1), uS L p.2) := by
  obtain ⟨d, rfl⟩ : ∃ e, d = e + 1 := ⟨d - 1, by omega⟩
  obtain ⟨o, ho⟩ : ∃ o : Option Value × mS, o = (some (.int p.1), uS L p.2) := ⟨_, rfl⟩
  rw [← ho]
  unfold gL_may at h
  refine Ev.seg D_150 [(.aload_n 0, 1)] (by decide +kernel) (j := 0) (pc' := 1) (lv' := [(0, .ref 0), (1, .int v1), (2, .int v2)]) (st' := [.ref 0]) rfl ?_
  refine Ev.getR D_150 (by decide +kernel) F_9_28 T_9_2 (x := 16) (S_oR k_0 (by decide +kernel)) ?_
  refine Ev.seg D_150 [(.iload_n 2, 1)] (by decide +kernel) (j := 0) (pc' := 5) (lv' := [(0, .ref 0), (1, .int v1), (2, .int v2)]) (st' := [.int v2, .ref 16]) rfl ?_
  obtain ⟨p2, e2, h⟩ := bd h
  refine Ev.callv D_150 E_40 (by decide +kernel) C_9_134 16 [.int v2] (r := []) rfl (gd_o k_16 (by decide)) rfl (Nat.le_of_ble_eq_true rfl) (Nat.le_of_ble_eq_true rfl) (gR_hasWatcher_ok (by omega) (by decide) e2) ?_
  refine Ev.if_ D_150 (c := .ne) (off := 6) (by decide +kernel) (t := 14) rfl (fun c3 => ?_) (fun c3 => ?_)
  · have c3 : ¬ p2 = 0 := of_decide_eq_true c3
    rw [if_neg c3] at h
    refine Ev.seg D_150 [(.aload_n 0, 1), (.iload_n 1, 1)] (by decide +kernel) (j := 0) (pc' := 16) (lv' := [(0, .ref 0), (1, .int v1), (2, .int v2)]) (st' := [.int v1, .ref 0]) rfl ?_
    obtain ⟨p4, e4, h⟩ := bd h
    refine Ev.callv D_150 E_148 (by decide +kernel) C_9_283 0 [.int v1] (r := []) rfl (gd_o k_0 (by decide)) rfl (Nat.le_of_ble_eq_true rfl) (Nat.le_of_ble_eq_true rfl) (gL_wrongSeen_ok (by omega)  e4) ?_
    refine Ev.seg D_150 [(.istore_n 3, 1), (.iload_n 3, 1)] (by decide +kernel) (j := 0) (pc' := 21) (lv' := [(3, .int p4), (0, .ref 0), (1, .int v1), (2, .int v2)]) (st' := [.int p4]) rfl ?_
    refine Ev.if_ D_150 (c := .eq) (off := 5) (by decide +kernel) (t := 26) rfl (fun c5 => ?_) (fun c5 => ?_)
    · have c5 : p4 = 0 := of_decide_eq_true c5
      rw [if_pos c5] at h
      refine Ev.seg D_150 [(.aload_n 0, 1)] (by decide +kernel) (j := 0) (pc' := 27) (lv' := [(3, .int p4), (0, .ref 0), (1, .int v1), (2, .int v2)]) (st' := [.ref 0]) rfl ?_
      refine Ev.getR D_150 (by decide +kernel) F_9_56 T_9_8 (x := 225) (S_oR k_0 (by decide +kernel)) ?_
      refine Ev.seg D_150 [(.iload_n 1, 1), (.aload_n 0, 1)] (by decide +kernel) (j := 0) (pc' := 32) (lv' := [(3, .int p4), (0, .ref 0), (1, .int v1), (2, .int v2)]) (st' := [.ref 0, .int v1, .ref 225]) rfl ?_
      refine Ev.getR D_150 (by decide +kernel) F_9_84 T_9_11 (x := 285) (S_oR k_0 (by decide +kernel)) ?_
      refine Ev.seg D_150 [(.iload_n 1, 1)] (by decide +kernel) (j := 0) (pc' := 36) (lv' := [(3, .int p4), (0, .ref 0), (1, .int v1), (2, .int v2)]) (st' := [.int v1, .ref 285, .int v1, .ref 225]) rfl ?_
      by_cases b36 : ¬ (v1 < 0 ∨ 4 ≤ v1.toNatClampNeg)
      rotate_left
      · rw [if_neg b36] at h; cases h
      rw [if_pos b36] at h
      refine Ev.aald D_150 (by decide +kernel) (kd := 25) ⟨by decide, by decide⟩ (x := (286 + 2 * v1.toNatClampNeg)) (S_aR k_285 b36 (el_rwr b36)) ?_
      obtain ⟨p9, e9, h⟩ := bd h
      refine Ev.callv D_150 E_73 (by decide +kernel) C_9_286 225 [.int v1, .ref (286 + 2 * v1.toNatClampNeg)] (r := []) rfl (gd_o k_225 (by decide)) rfl (Nat.le_of_ble_eq_true rfl) (Nat.le_of_ble_eq_true rfl) (gE_makeIfStale_ok (by omega) (el_rw b36) e9) ?_
      refine Ev.seg D_150 [(.aload_n 0, 1)] (by decide +kernel) (j := 0) (pc' := 41) (lv' := [(3, .int p4), (0, .ref 0), (1, .int v1), (2, .int v2)]) (st' := [.ref 0]) rfl ?_
      refine Ev.getR D_150 (by decide +kernel) F_9_56 T_9_8 (x := 225) (S_oR k_0 (by decide +kernel)) ?_
      refine Ev.seg D_150 [(.iload_n 2, 1)] (by decide +kernel) (j := 0) (pc' := 45) (lv' := [(3, .int p4), (0, .ref 0), (1, .int v1), (2, .int v2)]) (st' := [.int v2, .ref 225]) rfl ?_
      obtain ⟨p11, e11, h⟩ := bd h
      refine Ev.callv D_150 E_76 (by decide +kernel) C_9_292 225 [.int v2] (r := []) rfl (gd_o k_225 (by decide)) rfl (Nat.le_of_ble_eq_true rfl) (Nat.le_of_ble_eq_true rfl) (gE_boatsOf_ok (by omega)  e11) ?_
      cases h
      obtain rfl : o = _ := ho
      exact Ev.iret D_150 (by decide +kernel)
    · have c5 : ¬ p4 = 0 := of_decide_eq_false c5
      rw [if_neg c5] at h
      refine Ev.seg D_150 [(.iload_n 3, 1)] (by decide +kernel) (j := 0) (pc' := 25) (lv' := [(3, .int p4), (0, .ref 0), (1, .int v1), (2, .int v2)]) (st' := [.int p4]) rfl ?_
      cases h
      obtain rfl : o = _ := ho
      exact Ev.iret D_150 (by decide +kernel)
  · have c3 : p2 = 0 := Decidable.of_not_not (of_decide_eq_false c3)
    rw [if_pos c3] at h
    refine Ev.seg D_150 [(.bipush (-2), 2)] (by decide +kernel) (j := 0) (pc' := 13) (lv' := [(0, .ref 0), (1, .int v1), (2, .int v2)]) (st' := [.int (-2 : Int32)]) rfl ?_
    cases h
    obtain rfl : o = _ := ho
    exact Ev.iret D_150 (by decide +kernel)
/- PennantLawn ask: 151 -/
def gL_ask (v1 : Int32) (s : mT) : Option (Int32 × mT) :=
  (gL_wrongSeen v1 s).bind fun p1 =>
  if p1 = 0 then
    if ¬ (v1 < 0 ∨ 4 ≤ v1.toNatClampNeg) then
      (gE_makeIfStale v1 (286 + 2 * v1.toNatClampNeg) s).bind fun p6 =>
      (gE_bestAsked p6).bind fun p8 =>
      some ((p8, p6))
    else none
  else
    some ((p1, s))
set_option maxRecDepth 8000 in
theorem gL_ask_ok {L d : Nat} (hd : 6 ≤ d) {v1 : Int32} {s : mT} {p : Int32 × mT} (h : gL_ask v1 s = some p) : Ev d 151 0 [(0, .ref 0), (1, .int v1)] [] (uS L s) (some (.int p.1), uS L p.2) := by
  obtain ⟨d, rfl⟩ : ∃ e, d = e + 1 := ⟨d - 1, by omega⟩
  obtain ⟨o, ho⟩ : ∃ o : Option Value × mS, o = (some (.int p.1), uS L p.2) := ⟨_, rfl⟩
  rw [← ho]
  unfold gL_ask at h
  refine Ev.seg D_151 [(.aload_n 0, 1), (.iload_n 1, 1)] (by decide +kernel) (j := 0) (pc' := 2) (lv' := [(0, .ref 0), (1, .int v1)]) (st' := [.int v1, .ref 0]) rfl ?_
  obtain ⟨p1, e1, h⟩ := bd h
  refine Ev.callv D_151 E_148 (by decide +kernel) C_9_283 0 [.int v1] (r := []) rfl (gd_o k_0 (by decide)) rfl (Nat.le_of_ble_eq_true rfl) (Nat.le_of_ble_eq_true rfl) (gL_wrongSeen_ok (by omega)  e1) ?_
  refine Ev.seg D_151 [(.istore_n 2, 1), (.iload_n 2, 1)] (by decide +kernel) (j := 0) (pc' := 7) (lv' := [(2, .int p1), (0, .ref 0), (1, .int v1)]) (st' := [.int p1]) rfl ?_
  refine Ev.if_ D_151 (c := .eq) (off := 5) (by decide +kernel) (t := 12) rfl (fun c2 => ?_) (fun c2 => ?_)
  · have c2 : p1 = 0 := of_decide_eq_true c2
    rw [if_pos c2] at h
    refine Ev.seg D_151 [(.aload_n 0, 1)] (by decide +kernel) (j := 0) (pc' := 13) (lv' := [(2, .int p1), (0, .ref 0), (1, .int v1)]) (st' := [.ref 0]) rfl ?_
    refine Ev.getR D_151 (by decide +kernel) F_9_56 T_9_8 (x := 225) (S_oR k_0 (by decide +kernel)) ?_
    refine Ev.seg D_151 [(.iload_n 1, 1), (.aload_n 0, 1)] (by decide +kernel) (j := 0) (pc' := 18) (lv' := [(2, .int p1), (0, .ref 0), (1, .int v1)]) (st' := [.ref 0, .int v1, .ref 225]) rfl ?_
    refine Ev.getR D_151 (by decide +kernel) F_9_84 T_9_11 (x := 285) (S_oR k_0 (by decide +kernel)) ?_
    refine Ev.seg D_151 [(.iload_n 1, 1)] (by decide +kernel) (j := 0) (pc' := 22) (lv' := [(2, .int p1), (0, .ref 0), (1, .int v1)]) (st' := [.int v1, .ref 285, .int v1, .ref 225]) rfl ?_
    by_cases b22 : ¬ (v1 < 0 ∨ 4 ≤ v1.toNatClampNeg)
    rotate_left
    · rw [if_neg b22] at h; cases h
    rw [if_pos b22] at h
    refine Ev.aald D_151 (by decide +kernel) (kd := 25) ⟨by decide, by decide⟩ (x := (286 + 2 * v1.toNatClampNeg)) (S_aR k_285 b22 (el_rwr b22)) ?_
    obtain ⟨p6, e6, h⟩ := bd h
    refine Ev.callv D_151 E_73 (by decide +kernel) C_9_286 225 [.int v1, .ref (286 + 2 * v1.toNatClampNeg)] (r := []) rfl (gd_o k_225 (by decide)) rfl (Nat.le_of_ble_eq_true rfl) (Nat.le_of_ble_eq_true rfl) (gE_makeIfStale_ok (by omega) (el_rw b22) e6) ?_
    refine Ev.seg D_151 [(.aload_n 0, 1)] (by decide +kernel) (j := 0) (pc' := 27) (lv' := [(2, .int p1), (0, .ref 0), (1, .int v1)]) (st' := [.ref 0]) rfl ?_
    refine Ev.getR D_151 (by decide +kernel) F_9_56 T_9_8 (x := 225) (S_oR k_0 (by decide +kernel)) ?_
    obtain ⟨p8, e8, h⟩ := bd h
    refine Ev.callv D_151 E_77 (by decide +kernel) C_9_295 225 [] (r := []) rfl (gd_o k_225 (by decide)) rfl (Nat.le_of_ble_eq_true rfl) (Nat.le_of_ble_eq_true rfl) (gE_bestAsked_ok (by omega)  e8) ?_
    cases h
    obtain rfl : o = _ := ho
    exact Ev.iret D_151 (by decide +kernel)
  · have c2 : ¬ p1 = 0 := of_decide_eq_false c2
    rw [if_neg c2] at h
    refine Ev.seg D_151 [(.iload_n 2, 1)] (by decide +kernel) (j := 0) (pc' := 11) (lv' := [(2, .int p1), (0, .ref 0), (1, .int v1)]) (st' := [.int p1]) rfl ?_
    cases h
    obtain rfl : o = _ := ho
    exact Ev.iret D_151 (by decide +kernel)
/- PennantLawn leaves: 152 -/
def gL_leaves (v1 : Int32) (s : mT) : Option (Int32 × mT) :=
  (gL_wrongSeen v1 s).bind fun p1 =>
  if p1 = 0 then
    if ¬ (v1 < 0 ∨ 4 ≤ v1.toNatClampNeg) then
      (gE_makeIfStale v1 (286 + 2 * v1.toNatClampNeg) s).bind fun p6 =>
      (gE_bestAsked p6).bind fun p8 =>
      (
        if p8 = (-1 : Int32) then
          some (p6.1 225 3)
        else
          (gE_worstOf p8 p6).bind fun p11 =>
          some (p11) : Option (Int32)).bind fun x9 =>
      some ((x9, p6))
    else none
  else
    some ((p1, s))
set_option maxRecDepth 8000 in
theorem gL_leaves_ok {L d : Nat} (hd : 6 ≤ d) {v1 : Int32} {s : mT} {p : Int32 × mT} (h : gL_leaves v1 s = some p) : Ev d 152 0 [(0, .ref 0), (1, .int v1)] [] (uS L s) (some (.int p.1), uS L p.2) := by
  obtain ⟨d, rfl⟩ : ∃ e, d = e + 1 := ⟨d - 1, by omega⟩
  obtain ⟨o, ho⟩ : ∃ o : Option Value × mS, o = (some (.int p.1), uS L p.2) := ⟨_, rfl⟩
  rw [← ho]
  unfold gL_leaves at h
  refine Ev.seg D_152 [(.aload_n 0, 1), (.iload_n 1, 1)] (by decide +kernel) (j := 0) (pc' := 2) (lv' := [(0, .ref 0), (1, .int v1)]) (st' := [.int v1, .ref 0]) rfl ?_
  obtain ⟨p1, e1, h⟩ := bd h
  refine Ev.callv D_152 E_148 (by decide +kernel) C_9_283 0 [.int v1] (r := []) rfl (gd_o k_0 (by decide)) rfl (Nat.le_of_ble_eq_true rfl) (Nat.le_of_ble_eq_true rfl) (gL_wrongSeen_ok (by omega)  e1) ?_
  refine Ev.seg D_152 [(.istore_n 2, 1), (.iload_n 2, 1)] (by decide +kernel) (j := 0) (pc' := 7) (lv' := [(2, .int p1), (0, .ref 0), (1, .int v1)]) (st' := [.int p1]) rfl ?_
  refine Ev.if_ D_152 (c := .eq) (off := 5) (by decide +kernel) (t := 12) rfl (fun c2 => ?_) (fun c2 => ?_)
  · have c2 : p1 = 0 := of_decide_eq_true c2
    rw [if_pos c2] at h
    refine Ev.seg D_152 [(.aload_n 0, 1)] (by decide +kernel) (j := 0) (pc' := 13) (lv' := [(2, .int p1), (0, .ref 0), (1, .int v1)]) (st' := [.ref 0]) rfl ?_
    refine Ev.getR D_152 (by decide +kernel) F_9_56 T_9_8 (x := 225) (S_oR k_0 (by decide +kernel)) ?_
    refine Ev.seg D_152 [(.iload_n 1, 1), (.aload_n 0, 1)] (by decide +kernel) (j := 0) (pc' := 18) (lv' := [(2, .int p1), (0, .ref 0), (1, .int v1)]) (st' := [.ref 0, .int v1, .ref 225]) rfl ?_
    refine Ev.getR D_152 (by decide +kernel) F_9_84 T_9_11 (x := 285) (S_oR k_0 (by decide +kernel)) ?_
    refine Ev.seg D_152 [(.iload_n 1, 1)] (by decide +kernel) (j := 0) (pc' := 22) (lv' := [(2, .int p1), (0, .ref 0), (1, .int v1)]) (st' := [.int v1, .ref 285, .int v1, .ref 225]) rfl ?_
    by_cases b22 : ¬ (v1 < 0 ∨ 4 ≤ v1.toNatClampNeg)
    rotate_left
    · rw [if_neg b22] at h; cases h
    rw [if_pos b22] at h
    refine Ev.aald D_152 (by decide +kernel) (kd := 25) ⟨by decide, by decide⟩ (x := (286 + 2 * v1.toNatClampNeg)) (S_aR k_285 b22 (el_rwr b22)) ?_
    obtain ⟨p6, e6, h⟩ := bd h
    refine Ev.callv D_152 E_73 (by decide +kernel) C_9_286 225 [.int v1, .ref (286 + 2 * v1.toNatClampNeg)] (r := []) rfl (gd_o k_225 (by decide)) rfl (Nat.le_of_ble_eq_true rfl) (Nat.le_of_ble_eq_true rfl) (gE_makeIfStale_ok (by omega) (el_rw b22) e6) ?_
    refine Ev.seg D_152 [(.aload_n 0, 1)] (by decide +kernel) (j := 0) (pc' := 27) (lv' := [(2, .int p1), (0, .ref 0), (1, .int v1)]) (st' := [.ref 0]) rfl ?_
    refine Ev.getR D_152 (by decide +kernel) F_9_56 T_9_8 (x := 225) (S_oR k_0 (by decide +kernel)) ?_
    obtain ⟨p8, e8, h⟩ := bd h
    refine Ev.callv D_152 E_77 (by decide +kernel) C_9_295 225 [] (r := []) rfl (gd_o k_225 (by decide)) rfl (Nat.le_of_ble_eq_true rfl) (Nat.le_of_ble_eq_true rfl) (gE_bestAsked_ok (by omega)  e8) ?_
    refine Ev.seg D_152 [(.istore_n 3, 1), (.iload_n 3, 1), (.iconst (-1), 1)] (by decide +kernel) (j := 0) (pc' := 36) (lv' := [(3, .int p8), (2, .int p1), (0, .ref 0), (1, .int v1)]) (st' := [.int (-1 : Int32), .int p8]) rfl ?_
    obtain ⟨x9, g9, h⟩ := bd h
    have j9 : Ev (d + 1) 152 57 [] [.int x9] (uS L p6) o := by
      clear g9
      cases h
      obtain rfl : o = _ := ho
      exact Ev.iret D_152 (by decide +kernel)
    clear h
    refine Ev.icmp D_152 (c := .ne) (off := 13) (by decide +kernel) (t := 49) rfl (fun c9 => ?_) (fun c9 => ?_)
    · have c9 : ¬ p8 = (-1 : Int32) := of_decide_eq_true c9
      rw [if_neg c9] at g9
      refine Ev.seg D_152 [(.aload_n 0, 1)] (by decide +kernel) (j := 0) (pc' := 50) (lv' := [(3, .int p8), (2, .int p1), (0, .ref 0), (1, .int v1)]) (st' := [.ref 0]) rfl ?_
      refine Ev.getR D_152 (by decide +kernel) F_9_56 T_9_8 (x := 225) (S_oR k_0 (by decide +kernel)) ?_
      refine Ev.seg D_152 [(.iload_n 3, 1)] (by decide +kernel) (j := 0) (pc' := 54) (lv' := [(3, .int p8), (2, .int p1), (0, .ref 0), (1, .int v1)]) (st' := [.int p8, .ref 225]) rfl ?_
      obtain ⟨p11, e11, g9⟩ := bd g9
      refine Ev.callv D_152 E_78 (by decide +kernel) C_9_298 225 [.int p8] (r := []) rfl (gd_o k_225 (by decide)) rfl (Nat.le_of_ble_eq_true rfl) (Nat.le_of_ble_eq_true rfl) (gE_worstOf_ok (by omega)  e11) ?_
      cases g9
      exact Ev.sub2 j9 subL_nil
    · have c9 : p8 = (-1 : Int32) := Decidable.of_not_not (of_decide_eq_false c9)
      rw [if_pos c9] at g9
      refine Ev.seg D_152 [(.aload_n 0, 1)] (by decide +kernel) (j := 0) (pc' := 40) (lv' := [(3, .int p8), (2, .int p1), (0, .ref 0), (1, .int v1)]) (st' := [.ref 0]) rfl ?_
      refine Ev.getR D_152 (by decide +kernel) F_9_56 T_9_8 (x := 225) (S_oR k_0 (by decide +kernel)) ?_
      refine Ev.getI D_152 (by decide +kernel) F_9_289 (Or.inl T_5_3) (S_oI k_225) ?_
      refine Ev.seg D_152 [(.goto 11, 3)] (by decide +kernel) (j := 0) (pc' := 57) (lv' := [(3, .int p8), (2, .int p1), (0, .ref 0), (1, .int v1)]) (st' := [.int (p6.1 225 3)]) rfl ?_
      cases g9
      exact Ev.sub2 j9 subL_nil
  · have c2 : ¬ p1 = 0 := of_decide_eq_false c2
    rw [if_neg c2] at h
    refine Ev.seg D_152 [(.iload_n 2, 1)] (by decide +kernel) (j := 0) (pc' := 11) (lv' := [(2, .int p1), (0, .ref 0), (1, .int v1)]) (st' := [.int p1]) rfl ?_
    cases h
    obtain rfl : o = _ := ho
    exact Ev.iret D_152 (by decide +kernel)
/- PennantLawn laws: 153 -/
def gL_laws_h24 (v1 : Int32) (q : Int32 × Int32 × mT) : Option ((Int32 × Int32 × mT) ⊕ (Int32 × mT)) :=
  if (4 : Int32) ≤ q.2.1 then
    some (.inr (q.1, q.2.2))
  else
    (gC_sail 121 ((stI q.2.2 121 1 q.2.1).1 16 0) (stI q.2.2 121 1 q.2.1)).bind fun p7 =>
    if ¬ (v1 < 0 ∨ 4 ≤ v1.toNatClampNeg) then
      (gW_agreesWith (286 + 2 * v1.toNatClampNeg) 121 p7).bind fun p11 =>
      (
        if p11 = 0 then
          some (q.1)
        else
          some (q.1 ||| ((1 : Int32) <<< (q.2.1 &&& 31))) : Option (Int32)).bind fun x12 =>
      some (.inl (x12, q.2.1 + (1 : Int32), p7))
    else none
set_option maxRecDepth 8000 in
theorem gL_laws_h24_ok {L d : Nat} (hd : 5 ≤ d + 1) {v1 : Int32} : ∀ (q : Int32 × Int32 × mT) (x : (Int32 × Int32 × mT) ⊕ (Int32 × mT)), gL_laws_h24 v1 q = some x → ∀ o, sK (fun q => Ev (d + 1) 153 24 [(0, .ref 0), (1, .int v1), (3, .int q.1), (4, .int q.2.1)] [] (uS L q.2.2) o) (fun r => Ev (d + 1) 153 82 [(3, .int r.1)] [] (uS L r.2) o) x → Ev (d + 1) 153 24 [(0, .ref 0), (1, .int v1), (3, .int q.1), (4, .int q.2.1)] [] (uS L q.2.2) o := by
  intro q x h o ho
  unfold gL_laws_h24 at h
  refine Ev.seg D_153 [(.iload 4, 2), (.iconst 4, 1)] (by decide +kernel) (j := 0) (pc' := 27) (lv' := [(0, .ref 0), (1, .int v1), (3, .int q.1), (4, .int q.2.1)]) (st' := [.int (4 : Int32), .int q.2.1]) rfl ?_
  refine Ev.icmp D_153 (c := .ge) (off := 55) (by decide +kernel) (t := 82) rfl (fun c1 => ?_) (fun c1 => ?_)
  · have c1 : (4 : Int32) ≤ q.2.1 := of_decide_eq_true c1
    rw [if_pos c1] at h
    cases h
    exact Ev.sub (lv' := [(3, .int q.1)]) (subL_cons rfl subL_nil) ho
  · have c1 : ¬ (4 : Int32) ≤ q.2.1 := of_decide_eq_false c1
    rw [if_neg c1] at h
    refine Ev.seg D_153 [(.aload_n 0, 1)] (by decide +kernel) (j := 0) (pc' := 31) (lv' := [(0, .ref 0), (1, .int v1), (3, .int q.1), (4, .int q.2.1)]) (st' := [.ref 0]) rfl ?_
    refine Ev.getR D_153 (by decide +kernel) F_9_41 T_9_6 (x := 121) (S_oR k_0 (by decide +kernel)) ?_
    refine Ev.seg D_153 [(.iload 4, 2)] (by decide +kernel) (j := 0) (pc' := 36) (lv' := [(0, .ref 0), (1, .int v1), (3, .int q.1), (4, .int q.2.1)]) (st' := [.int q.2.1, .ref 121]) rfl ?_
    refine Ev.putI D_153 (by decide +kernel) F_9_249 N_0_1 T_0_1 (S_pI k_121) ?_
    refine Ev.seg D_153 [(.aload_n 0, 1)] (by decide +kernel) (j := 0) (pc' := 40) (lv' := [(0, .ref 0), (1, .int v1), (3, .int q.1), (4, .int q.2.1)]) (st' := [.ref 0]) rfl ?_
    refine Ev.getR D_153 (by decide +kernel) F_9_41 T_9_6 (x := 121) (S_oR k_0 (by decide +kernel)) ?_
    refine Ev.seg D_153 [(.aload_n 0, 1)] (by decide +kernel) (j := 0) (pc' := 44) (lv' := [(0, .ref 0), (1, .int v1), (3, .int q.1), (4, .int q.2.1)]) (st' := [.ref 0, .ref 121]) rfl ?_
    refine Ev.getR D_153 (by decide +kernel) F_9_28 T_9_2 (x := 16) (S_oR k_0 (by decide +kernel)) ?_
    refine Ev.getI D_153 (by decide +kernel) F_9_187 (Or.inl T_2_0) (S_oI k_16) ?_
    obtain ⟨p7, e7, h⟩ := bd h
    refine Ev.callv D_153 E_5 (by decide +kernel) C_9_301 121 [.int ((stI q.2.2 121 1 q.2.1).1 16 0)] (r := []) rfl (gd_o k_121 (by decide)) rfl (Nat.le_of_ble_eq_true rfl) (Nat.le_of_ble_eq_true rfl) (gC_sail_ok (by omega) (by decide) e7) ?_
    refine Ev.seg D_153 [(.aload_n 0, 1)] (by decide +kernel) (j := 0) (pc' := 54) (lv' := [(0, .ref 0), (1, .int v1), (3, .int q.1), (4, .int q.2.1)]) (st' := [.ref 0]) rfl ?_
    refine Ev.getR D_153 (by decide +kernel) F_9_84 T_9_11 (x := 285) (S_oR k_0 (by decide +kernel)) ?_
    refine Ev.seg D_153 [(.iload_n 1, 1)] (by decide +kernel) (j := 0) (pc' := 58) (lv' := [(0, .ref 0), (1, .int v1), (3, .int q.1), (4, .int q.2.1)]) (st' := [.int v1, .ref 285]) rfl ?_
    by_cases b58 : ¬ (v1 < 0 ∨ 4 ≤ v1.toNatClampNeg)
    rotate_left
    · rw [if_neg b58] at h; cases h
    rw [if_pos b58] at h
    refine Ev.aald D_153 (by decide +kernel) (kd := 25) ⟨by decide, by decide⟩ (x := (286 + 2 * v1.toNatClampNeg)) (S_aR k_285 b58 (el_rwr b58)) ?_
    refine Ev.seg D_153 [(.aload_n 0, 1)] (by decide +kernel) (j := 0) (pc' := 60) (lv' := [(0, .ref 0), (1, .int v1), (3, .int q.1), (4, .int q.2.1)]) (st' := [.ref 0, .ref (286 + 2 * v1.toNatClampNeg)]) rfl ?_
    refine Ev.getR D_153 (by decide +kernel) F_9_41 T_9_6 (x := 121) (S_oR k_0 (by decide +kernel)) ?_
    obtain ⟨p11, e11, h⟩ := bd h
    refine Ev.callv D_153 E_68 (by decide +kernel) C_9_304 (286 + 2 * v1.toNatClampNeg) [.ref 121] (r := []) rfl (gd_o (rw_o (el_rw b58)) (by decide)) rfl (Nat.le_of_ble_eq_true rfl) (Nat.le_of_ble_eq_true rfl) (gW_agreesWith_ok (by omega) (el_rw b58) (by decide) e11) ?_
    obtain ⟨x12, g12, h⟩ := bd h
    have j12 : Ev (d + 1) 153 76 [(0, .ref 0), (1, .int v1), (3, .int x12), (4, .int q.2.1)] [] (uS L p7) o := by
      clear g12
      refine Ev.seg D_153 [(.iinc 4 1, 3), (.goto (-55), 3)] (by decide +kernel) (j := 0) (pc' := 24) (lv' := [(4, .int (q.2.1 + (1 : Int32))), (0, .ref 0), (1, .int v1), (3, .int x12)]) (st' := []) rfl ?_
      cases h
      exact Ev.sub (lv' := [(0, .ref 0), (1, .int v1), (3, .int (x12)), (4, .int (q.2.1 + (1 : Int32)))]) (subL_cons rfl (subL_cons rfl (subL_cons rfl (subL_cons rfl subL_nil)))) ho
    clear h
    refine Ev.if_ D_153 (c := .eq) (off := 10) (by decide +kernel) (t := 76) rfl (fun c12 => ?_) (fun c12 => ?_)
    · have c12 : p11 = 0 := of_decide_eq_true c12
      rw [if_pos c12] at g12
      cases g12
      exact Ev.sub2 j12 (subL_cons rfl (subL_cons rfl (subL_cons rfl (subL_cons rfl subL_nil))))
    · have c12 : ¬ p11 = 0 := of_decide_eq_false c12
      rw [if_neg c12] at g12
      refine Ev.seg D_153 [(.iload_n 3, 1), (.iconst 1, 1), (.iload 4, 2), (.ishl, 1), (.ior, 1), (.istore_n 3, 1)] (by decide +kernel) (j := 0) (pc' := 76) (lv' := [(3, .int (q.1 ||| ((1 : Int32) <<< (q.2.1 &&& 31)))), (0, .ref 0), (1, .int v1), (4, .int q.2.1)]) (st' := []) rfl ?_
      cases g12
      exact Ev.sub2 j12 (subL_cons rfl (subL_cons rfl (subL_cons rfl (subL_cons rfl subL_nil))))
theorem gL_laws_h24_w {L d : Nat} (hd : 5 ≤ d + 1) {v1 : Int32} : ∀ (n : Nat) (q : Int32 × Int32 × mT) (r : Int32 × mT), wh n (gL_laws_h24 v1) q = some r → ∀ o, (fun r => Ev (d + 1) 153 82 [(3, .int r.1)] [] (uS L r.2) o) r → Ev (d + 1) 153 24 [(0, .ref 0), (1, .int v1), (3, .int q.1), (4, .int q.2.1)] [] (uS L q.2.2) o :=
  fun n q r h o hc => wh_ev (E := fun (q : Int32 × Int32 × mT) o => Ev (d + 1) 153 24 [(0, .ref 0), (1, .int v1), (3, .int q.1), (4, .int q.2.1)] [] (uS L q.2.2) o) (C := fun (r : Int32 × mT) o => (fun r => Ev (d + 1) 153 82 [(3, .int r.1)] [] (uS L r.2) o) r) (gL_laws_h24_ok hd  ) n q r h o hc
def gL_laws (v1 : Int32) (s : mT) : Option (Int32 × mT) :=
  (gL_wrongSeen v1 s).bind fun p1 =>
  if p1 = 0 then
    (gC_prepare 121 s).bind fun p4 =>
    (wh FU (gL_laws_h24 v1) ((0 : Int32), (0 : Int32), p4)).bind fun x13 =>
    some ((x13.1, x13.2))
  else
    some ((p1, s))
set_option maxRecDepth 8000 in
theorem gL_laws_ok {L d : Nat} (hd : 5 ≤ d) {v1 : Int32} {s : mT} {p : Int32 × mT} (h : gL_laws v1 s = some p) : Ev d 153 0 [(0, .ref 0), (1, .int v1)] [] (uS L s) (some (.int p.1), uS L p.2) := by
  obtain ⟨d, rfl⟩ : ∃ e, d = e + 1 := ⟨d - 1, by omega⟩
  obtain ⟨o, ho⟩ : ∃ o : Option Value × mS, o = (some (.int p.1), uS L p.2) := ⟨_, rfl⟩
  rw [← ho]
  unfold gL_laws at h
  refine Ev.seg D_153 [(.aload_n 0, 1), (.iload_n 1, 1)] (by decide +kernel) (j := 0) (pc' := 2) (lv' := [(0, .ref 0), (1, .int v1)]) (st' := [.int v1, .ref 0]) rfl ?_
  obtain ⟨p1, e1, h⟩ := bd h
  refine Ev.callv D_153 E_148 (by decide +kernel) C_9_283 0 [.int v1] (r := []) rfl (gd_o k_0 (by decide)) rfl (Nat.le_of_ble_eq_true rfl) (Nat.le_of_ble_eq_true rfl) (gL_wrongSeen_ok (by omega)  e1) ?_
  refine Ev.seg D_153 [(.istore_n 2, 1), (.iload_n 2, 1)] (by decide +kernel) (j := 0) (pc' := 7) (lv' := [(2, .int p1), (0, .ref 0), (1, .int v1)]) (st' := [.int p1]) rfl ?_
  refine Ev.if_ D_153 (c := .eq) (off := 5) (by decide +kernel) (t := 12) rfl (fun c2 => ?_) (fun c2 => ?_)
  · have c2 : p1 = 0 := of_decide_eq_true c2
    rw [if_pos c2] at h
    refine Ev.seg D_153 [(.iconst 0, 1), (.istore_n 3, 1), (.aload_n 0, 1)] (by decide +kernel) (j := 0) (pc' := 15) (lv' := [(3, .int (0 : Int32)), (2, .int p1), (0, .ref 0), (1, .int v1)]) (st' := [.ref 0]) rfl ?_
    refine Ev.getR D_153 (by decide +kernel) F_9_41 T_9_6 (x := 121) (S_oR k_0 (by decide +kernel)) ?_
    obtain ⟨p4, e4, h⟩ := bd h
    refine Ev.callv D_153 E_1 (by decide +kernel) C_9_241 121 [] (r := []) rfl (gd_o k_121 (by decide)) rfl (Nat.le_of_ble_eq_true rfl) (Nat.le_of_ble_eq_true rfl) (gC_prepare_ok (by omega) (by decide) e4) ?_
    refine Ev.seg D_153 [(.iconst 0, 1), (.istore 4, 2)] (by decide +kernel) (j := 0) (pc' := 24) (lv' := [(4, .int (0 : Int32)), (3, .int (0 : Int32)), (2, .int p1), (0, .ref 0), (1, .int v1)]) (st' := []) rfl ?_
    obtain ⟨x13, w13, h⟩ := bd h
    have j13 : Ev (d + 1) 153 82 [(3, .int x13.1)] [] (uS L x13.2) o := by
      clear w13
      refine Ev.seg D_153 [(.iload_n 3, 1)] (by decide +kernel) (j := 0) (pc' := 83) (lv' := [(3, .int x13.1)]) (st' := [.int x13.1]) rfl ?_
      cases h
      obtain rfl : o = _ := ho
      exact Ev.iret D_153 (by decide +kernel)
    exact Ev.sub (lv' := [(0, .ref 0), (1, .int v1), (3, .int (0 : Int32)), (4, .int (0 : Int32))]) (subL_cons rfl (subL_cons rfl (subL_cons rfl (subL_cons rfl subL_nil)))) (gL_laws_h24_w hd   _ _ _ w13 _ j13)
  · have c2 : ¬ p1 = 0 := of_decide_eq_false c2
    rw [if_neg c2] at h
    refine Ev.seg D_153 [(.iload_n 2, 1)] (by decide +kernel) (j := 0) (pc' := 11) (lv' := [(2, .int p1), (0, .ref 0), (1, .int v1)]) (st' := [.int p1]) rfl ?_
    cases h
    obtain rfl : o = _ := ho
    exact Ev.iret D_153 (by decide +kernel)
/- PennantLawn commonDivisor: 156 -/
def gL_commonDivisor_h9 (s : mT) (q : Int64 × Int64 × Int32) : Option ((Int64 × Int64 × Int32) ⊕ (Int64)) :=
  if (100 : Int32) ≤ q.2.2 then
    some (.inr q.1)
  else
    if (lg_cmp q.2.1 (0 : Int64)) = 0 then
      some (.inr q.1)
    else
      if q.2.1 = 0 then none else
      some (.inl (q.2.1, q.1 - q.1 / q.2.1 * q.2.1, q.2.2 + (1 : Int32)))
set_option maxRecDepth 8000 in
theorem gL_commonDivisor_h9_ok {L d : Nat} (hd : 1 ≤ d + 1) {s : mT} : ∀ (q : Int64 × Int64 × Int32) (x : (Int64 × Int64 × Int32) ⊕ (Int64)), gL_commonDivisor_h9 s q = some x → ∀ o, sK (fun q => Ev (d + 1) 156 9 [(4, .long q.1), (6, .long q.2.1), (8, .int q.2.2)] [] (uS L s) o) (fun r => Ev (d + 1) 156 44 [(4, .long r)] [] (uS L s) o) x → Ev (d + 1) 156 9 [(4, .long q.1), (6, .long q.2.1), (8, .int q.2.2)] [] (uS L s) o := by
  intro q x h o ho
  unfold gL_commonDivisor_h9 at h
  refine Ev.seg D_156 [(.iload 8, 2), (.bipush 100, 2)] (by decide +kernel) (j := 0) (pc' := 13) (lv' := [(4, .long q.1), (6, .long q.2.1), (8, .int q.2.2)]) (st' := [.int (100 : Int32), .int q.2.2]) rfl ?_
  refine Ev.icmp D_156 (c := .ge) (off := 31) (by decide +kernel) (t := 44) rfl (fun c1 => ?_) (fun c1 => ?_)
  · have c1 : (100 : Int32) ≤ q.2.2 := of_decide_eq_true c1
    rw [if_pos c1] at h
    cases h
    exact Ev.sub (lv' := [(4, .long q.1)]) (subL_cons rfl subL_nil) ho
  · have c1 : ¬ (100 : Int32) ≤ q.2.2 := of_decide_eq_false c1
    rw [if_neg c1] at h
    refine Ev.seg D_156 [(.lload 6, 2), (.lconst 0, 1), (.lcmp, 1)] (by decide +kernel) (j := 0) (pc' := 20) (lv' := [(4, .long q.1), (6, .long q.2.1), (8, .int q.2.2)]) (st' := [.int (lg_cmp q.2.1 (0 : Int64))]) rfl ?_
    refine Ev.if_ D_156 (c := .eq) (off := 24) (by decide +kernel) (t := 44) rfl (fun c2 => ?_) (fun c2 => ?_)
    · have c2 : (lg_cmp q.2.1 (0 : Int64)) = 0 := of_decide_eq_true c2
      rw [if_pos c2] at h
      cases h
      exact Ev.sub (lv' := [(4, .long q.1)]) (subL_cons rfl subL_nil) ho
    · have c2 : ¬ (lg_cmp q.2.1 (0 : Int64)) = 0 := of_decide_eq_false c2
      rw [if_neg c2] at h
      refine Ev.seg D_156 [(.lload 4, 2), (.lload 6, 2)] (by decide +kernel) (j := 0) (pc' := 27) (lv' := [(4, .long q.1), (6, .long q.2.1), (8, .int q.2.2)]) (st' := [.long q.2.1, .long q.1]) rfl ?_
      by_cases c3 : q.2.1 = 0
      · rw [if_pos c3] at h; cases h
      rw [if_neg c3] at h
      refine Ev.lrem D_156 (by decide +kernel) c3 ?_
      refine Ev.seg D_156 [(.lstore 9, 2), (.lload 6, 2), (.lstore 4, 2), (.lload 9, 2), (.lstore 6, 2), (.iinc 8 1, 3), (.goto (-32), 3)] (by decide +kernel) (j := 0) (pc' := 9) (lv' := [(8, .int (q.2.2 + (1 : Int32))), (6, .long (q.1 - q.1 / q.2.1 * q.2.1)), (4, .long q.2.1), (9, .long (q.1 - q.1 / q.2.1 * q.2.1))]) (st' := []) rfl ?_
      cases h
      exact Ev.sub (lv' := [(4, .long (q.2.1)), (6, .long (q.1 - q.1 / q.2.1 * q.2.1)), (8, .int (q.2.2 + (1 : Int32)))]) (subL_cons rfl (subL_cons rfl (subL_cons rfl subL_nil))) ho
theorem gL_commonDivisor_h9_w {L d : Nat} (hd : 1 ≤ d + 1) {s : mT} : ∀ (n : Nat) (q : Int64 × Int64 × Int32) (r : Int64), wh n (gL_commonDivisor_h9 s) q = some r → ∀ o, (fun r => Ev (d + 1) 156 44 [(4, .long r)] [] (uS L s) o) r → Ev (d + 1) 156 9 [(4, .long q.1), (6, .long q.2.1), (8, .int q.2.2)] [] (uS L s) o :=
  fun n q r h o hc => wh_ev (E := fun (q : Int64 × Int64 × Int32) o => Ev (d + 1) 156 9 [(4, .long q.1), (6, .long q.2.1), (8, .int q.2.2)] [] (uS L s) o) (C := fun (r : Int64) o => (fun r => Ev (d + 1) 156 44 [(4, .long r)] [] (uS L s) o) r) (gL_commonDivisor_h9_ok hd  ) n q r h o hc
def gL_commonDivisor (v0 : Int64) (v2 : Int64) (s : mT) : Option (Int64) :=
  (wh FU (gL_commonDivisor_h9 s) (v0, v2, (0 : Int32))).bind fun x4 =>
  some (x4)
set_option maxRecDepth 8000 in
theorem gL_commonDivisor_ok {L d : Nat} (hd : 1 ≤ d) {v0 : Int64} {v2 : Int64} {s : mT} {p : Int64} (h : gL_commonDivisor v0 v2 s = some p) : Ev d 156 0 [(0, .long v0), (2, .long v2)] [] (uS L s) (some (.long p), uS L s) := by
  obtain ⟨d, rfl⟩ : ∃ e, d = e + 1 := ⟨d - 1, by omega⟩
  obtain ⟨o, ho⟩ : ∃ o : Option Value × mS, o = (some (.long p), uS L s) := ⟨_, rfl⟩
  rw [← ho]
  unfold gL_commonDivisor at h
  refine Ev.seg D_156 [(.lload_n 0, 1), (.lstore 4, 2), (.lload_n 2, 1), (.lstore 6, 2), (.iconst 0, 1), (.istore 8, 2)] (by decide +kernel) (j := 0) (pc' := 9) (lv' := [(8, .int (0 : Int32)), (6, .long v2), (4, .long v0), (0, .long v0), (2, .long v2)]) (st' := []) rfl ?_
  obtain ⟨x4, w4, h⟩ := bd h
  have j4 : Ev (d + 1) 156 44 [(4, .long x4)] [] (uS L s) o := by
    clear w4
    refine Ev.seg D_156 [(.lload 4, 2)] (by decide +kernel) (j := 0) (pc' := 46) (lv' := [(4, .long x4)]) (st' := [.long x4]) rfl ?_
    cases h
    obtain rfl : o = _ := ho
    exact Ev.lret D_156 (by decide +kernel)
  exact Ev.sub (lv' := [(4, .long v0), (6, .long v2), (8, .int (0 : Int32))]) (subL_cons rfl (subL_cons rfl (subL_cons rfl subL_nil))) (gL_commonDivisor_h9_w hd   _ _ _ w4 _ j4)
/- PennantLawn lowestTerms: 155 -/
def gL_lowestTerms (v0 : Int64) (v2 : Int64) (v4 : Int32) (s : mT) : Option (Int64) :=
  (gL_commonDivisor (labs v0) v2 s).bind fun p2 =>
  if 0 ≤ (lg_cmp p2 (1 : Int64)) then
    (
      if v4 = 0 then
        some (v0)
      else
        some (v2) : Option (Int64)).bind fun x4 =>
    if p2 = 0 then none else
    some (x4 / p2)
  else
    some ((0 : Int64))
set_option maxRecDepth 8000 in
theorem gL_lowestTerms_ok {L d : Nat} (hd : 2 ≤ d) {v0 : Int64} {v2 : Int64} {v4 : Int32} {s : mT} {p : Int64} (h : gL_lowestTerms v0 v2 v4 s = some p) : Ev d 155 0 [(0, .long v0), (2, .long v2), (4, .int v4)] [] (uS L s) (some (.long p), uS L s) := by
  obtain ⟨d, rfl⟩ : ∃ e, d = e + 1 := ⟨d - 1, by omega⟩
  obtain ⟨o, ho⟩ : ∃ o : Option Value × mS, o = (some (.long p), uS L s) := ⟨_, rfl⟩
  rw [← ho]
  unfold gL_lowestTerms at h
  refine Ev.seg D_155 [(.lload_n 0, 1)] (by decide +kernel) (j := 0) (pc' := 1) (lv' := [(0, .long v0), (2, .long v2), (4, .int v4)]) (st' := [.long v0]) rfl ?_
  refine Ev.abs D_155 (by decide +kernel) (Nat.succ_pos _) C_9_365 (Nat.le_of_ble_eq_true rfl) ?_
  refine Ev.seg D_155 [(.lload_n 2, 1)] (by decide +kernel) (j := 0) (pc' := 5) (lv' := [(0, .long v0), (2, .long v2), (4, .int v4)]) (st' := [.long v2, .long (labs v0)]) rfl ?_
  obtain ⟨p2, e2, h⟩ := bd h
  refine Ev.calls D_155 E_156 (by decide +kernel) C_9_369 [.long (labs v0), .long v2] (r := []) rfl rfl (Nat.le_of_ble_eq_true rfl) (Nat.le_of_ble_eq_true rfl) (gL_commonDivisor_ok (by omega)  e2) ?_
  refine Ev.seg D_155 [(.lstore 5, 2), (.lload 5, 2), (.lconst 1, 1), (.lcmp, 1)] (by decide +kernel) (j := 0) (pc' := 14) (lv' := [(5, .long p2), (0, .long v0), (2, .long v2), (4, .int v4)]) (st' := [.int (lg_cmp p2 (1 : Int64))]) rfl ?_
  refine Ev.if_ D_155 (c := .ge) (off := 5) (by decide +kernel) (t := 19) rfl (fun c3 => ?_) (fun c3 => ?_)
  · have c3 : 0 ≤ (lg_cmp p2 (1 : Int64)) := of_decide_eq_true c3
    rw [if_pos c3] at h
    refine Ev.seg D_155 [(.iload 4, 2)] (by decide +kernel) (j := 0) (pc' := 21) (lv' := [(5, .long p2), (0, .long v0), (2, .long v2), (4, .int v4)]) (st' := [.int v4]) rfl ?_
    obtain ⟨x4, g4, h⟩ := bd h
    have j4 : Ev (d + 1) 155 29 [(5, .long p2)] [.long x4] (uS L s) o := by
      clear g4
      refine Ev.seg D_155 [(.lload 5, 2)] (by decide +kernel) (j := 0) (pc' := 31) (lv' := [(5, .long p2)]) (st' := [.long p2, .long x4]) rfl ?_
      by_cases c5 : p2 = 0
      · rw [if_pos c5] at h; cases h
      rw [if_neg c5] at h
      refine Ev.ldiv D_155 (by decide +kernel) c5 ?_
      cases h
      obtain rfl : o = _ := ho
      exact Ev.lret D_155 (by decide +kernel)
    clear h
    refine Ev.if_ D_155 (c := .ne) (off := 7) (by decide +kernel) (t := 28) rfl (fun c4 => ?_) (fun c4 => ?_)
    · have c4 : ¬ v4 = 0 := of_decide_eq_true c4
      rw [if_neg c4] at g4
      refine Ev.seg D_155 [(.lload_n 2, 1)] (by decide +kernel) (j := 0) (pc' := 29) (lv' := [(5, .long p2), (0, .long v0), (2, .long v2), (4, .int v4)]) (st' := [.long v2]) rfl ?_
      cases g4
      exact Ev.sub2 j4 (subL_cons rfl subL_nil)
    · have c4 : v4 = 0 := Decidable.of_not_not (of_decide_eq_false c4)
      rw [if_pos c4] at g4
      refine Ev.seg D_155 [(.lload_n 0, 1), (.goto 4, 3)] (by decide +kernel) (j := 0) (pc' := 29) (lv' := [(5, .long p2), (0, .long v0), (2, .long v2), (4, .int v4)]) (st' := [.long v0]) rfl ?_
      cases g4
      exact Ev.sub2 j4 (subL_cons rfl subL_nil)
  · have c3 : ¬ 0 ≤ (lg_cmp p2 (1 : Int64)) := of_decide_eq_false c3
    rw [if_neg c3] at h
    refine Ev.seg D_155 [(.lconst 0, 1)] (by decide +kernel) (j := 0) (pc' := 18) (lv' := [(5, .long p2), (0, .long v0), (2, .long v2), (4, .int v4)]) (st' := [.long (0 : Int64)]) rfl ?_
    cases h
    obtain rfl : o = _ := ho
    exact Ev.lret D_155 (by decide +kernel)
/- PennantLawn share: 154 -/
def gL_share (v1 : Int32) (v2 : Int32) (v3 : Int32) (s : mT) : Option (Int32 × mT) :=
  (gR_hasBoat 16 v1.toInt64 s).bind fun p2 =>
  if p2 = 0 then
    some (((-2 : Int32), s))
  else
    (gR_hasWatcher 16 v2 s).bind fun p6 =>
    if p6 = 0 then
      some (((-2 : Int32), s))
    else
      (gL_isPart v3 s).bind fun p9 =>
      if p9 = 0 then
        some (((-2 : Int32), s))
      else
        (gH_makeFor v1 s).bind fun p12 =>
        (gH_sumOf v2 p12).bind fun p14 =>
        (rdI (p12.1 (XB + 1)) 6 (p12.1 16 6)).bind fun x18 =>
        (gL_lowestTerms p14.toInt64 x18.toInt64 v3 p12).bind fun p19 =>
        some ((p19.toInt32, p12))
set_option maxRecDepth 8000 in
theorem gL_share_ok {L d : Nat} (hd : 6 ≤ d) {v1 : Int32} {v2 : Int32} {v3 : Int32} {s : mT} {p : Int32 × mT} (h : gL_share v1 v2 v3 s = some p) : Ev d 154 0 [(0, .ref 0), (1, .int v1), (2, .int v2), (3, .int v3)] [] (uS L s) (some (.int p.1), uS L p.2) := by
  obtain ⟨d, rfl⟩ : ∃ e, d = e + 1 := ⟨d - 1, by omega⟩
  obtain ⟨o, ho⟩ : ∃ o : Option Value × mS, o = (some (.int p.1), uS L p.2) := ⟨_, rfl⟩
  rw [← ho]
  unfold gL_share at h
  refine Ev.seg D_154 [(.aload_n 0, 1)] (by decide +kernel) (j := 0) (pc' := 1) (lv' := [(0, .ref 0), (1, .int v1), (2, .int v2), (3, .int v3)]) (st' := [.ref 0]) rfl ?_
  refine Ev.getR D_154 (by decide +kernel) F_9_28 T_9_2 (x := 16) (S_oR k_0 (by decide +kernel)) ?_
  refine Ev.seg D_154 [(.iload_n 1, 1), (.i2l, 1)] (by decide +kernel) (j := 0) (pc' := 6) (lv' := [(0, .ref 0), (1, .int v1), (2, .int v2), (3, .int v3)]) (st' := [.long v1.toInt64, .ref 16]) rfl ?_
  obtain ⟨p2, e2, h⟩ := bd h
  refine Ev.callv D_154 E_39 (by decide +kernel) C_9_119 16 [.long v1.toInt64] (r := []) rfl (gd_o k_16 (by decide)) rfl (Nat.le_of_ble_eq_true rfl) (Nat.le_of_ble_eq_true rfl) (gR_hasBoat_ok (by omega) (by decide) e2) ?_
  refine Ev.if_ D_154 (c := .eq) (off := 21) (by decide +kernel) (t := 30) rfl (fun c3 => ?_) (fun c3 => ?_)
  · have c3 : p2 = 0 := of_decide_eq_true c3
    rw [if_pos c3] at h
    refine Ev.seg D_154 [(.bipush (-2), 2)] (by decide +kernel) (j := 0) (pc' := 32) (lv' := [(0, .ref 0), (1, .int v1), (2, .int v2), (3, .int v3)]) (st' := [.int (-2 : Int32)]) rfl ?_
    cases h
    obtain rfl : o = _ := ho
    exact Ev.iret D_154 (by decide +kernel)
  · have c3 : ¬ p2 = 0 := of_decide_eq_false c3
    rw [if_neg c3] at h
    refine Ev.seg D_154 [(.aload_n 0, 1)] (by decide +kernel) (j := 0) (pc' := 13) (lv' := [(0, .ref 0), (1, .int v1), (2, .int v2), (3, .int v3)]) (st' := [.ref 0]) rfl ?_
    refine Ev.getR D_154 (by decide +kernel) F_9_28 T_9_2 (x := 16) (S_oR k_0 (by decide +kernel)) ?_
    refine Ev.seg D_154 [(.iload_n 2, 1)] (by decide +kernel) (j := 0) (pc' := 17) (lv' := [(0, .ref 0), (1, .int v1), (2, .int v2), (3, .int v3)]) (st' := [.int v2, .ref 16]) rfl ?_
    obtain ⟨p6, e6, h⟩ := bd h
    refine Ev.callv D_154 E_40 (by decide +kernel) C_9_134 16 [.int v2] (r := []) rfl (gd_o k_16 (by decide)) rfl (Nat.le_of_ble_eq_true rfl) (Nat.le_of_ble_eq_true rfl) (gR_hasWatcher_ok (by omega) (by decide) e6) ?_
    refine Ev.if_ D_154 (c := .eq) (off := 10) (by decide +kernel) (t := 30) rfl (fun c7 => ?_) (fun c7 => ?_)
    · have c7 : p6 = 0 := of_decide_eq_true c7
      rw [if_pos c7] at h
      refine Ev.seg D_154 [(.bipush (-2), 2)] (by decide +kernel) (j := 0) (pc' := 32) (lv' := [(0, .ref 0), (1, .int v1), (2, .int v2), (3, .int v3)]) (st' := [.int (-2 : Int32)]) rfl ?_
      cases h
      obtain rfl : o = _ := ho
      exact Ev.iret D_154 (by decide +kernel)
    · have c7 : ¬ p6 = 0 := of_decide_eq_false c7
      rw [if_neg c7] at h
      refine Ev.seg D_154 [(.iload_n 3, 1)] (by decide +kernel) (j := 0) (pc' := 24) (lv' := [(0, .ref 0), (1, .int v1), (2, .int v2), (3, .int v3)]) (st' := [.int v3]) rfl ?_
      obtain ⟨p9, e9, h⟩ := bd h
      refine Ev.calls D_154 E_97 (by decide +kernel) C_9_123 [.int v3] (r := []) rfl rfl (Nat.le_of_ble_eq_true rfl) (Nat.le_of_ble_eq_true rfl) (gL_isPart_ok (by omega)  e9) ?_
      refine Ev.if_ D_154 (c := .ne) (off := 6) (by decide +kernel) (t := 33) rfl (fun c10 => ?_) (fun c10 => ?_)
      · have c10 : ¬ p9 = 0 := of_decide_eq_true c10
        rw [if_neg c10] at h
        refine Ev.seg D_154 [(.aload_n 0, 1)] (by decide +kernel) (j := 0) (pc' := 34) (lv' := [(0, .ref 0), (1, .int v1), (2, .int v2), (3, .int v3)]) (st' := [.ref 0]) rfl ?_
        refine Ev.getR D_154 (by decide +kernel) F_9_63 T_9_9 (x := 232) (S_oR k_0 (by decide +kernel)) ?_
        refine Ev.seg D_154 [(.iload_n 1, 1)] (by decide +kernel) (j := 0) (pc' := 38) (lv' := [(0, .ref 0), (1, .int v1), (2, .int v2), (3, .int v3)]) (st' := [.int v1, .ref 232]) rfl ?_
        obtain ⟨p12, e12, h⟩ := bd h
        refine Ev.callv D_154 E_80 (by decide +kernel) C_9_319 232 [.int v1] (r := []) rfl (gd_o k_232 (by decide)) rfl (Nat.le_of_ble_eq_true rfl) (Nat.le_of_ble_eq_true rfl) (gH_makeFor_ok (by omega)  e12) ?_
        refine Ev.seg D_154 [(.aload_n 0, 1)] (by decide +kernel) (j := 0) (pc' := 42) (lv' := [(0, .ref 0), (1, .int v1), (2, .int v2), (3, .int v3)]) (st' := [.ref 0]) rfl ?_
        refine Ev.getR D_154 (by decide +kernel) F_9_63 T_9_9 (x := 232) (S_oR k_0 (by decide +kernel)) ?_
        refine Ev.seg D_154 [(.iload_n 2, 1)] (by decide +kernel) (j := 0) (pc' := 46) (lv' := [(0, .ref 0), (1, .int v1), (2, .int v2), (3, .int v3)]) (st' := [.int v2, .ref 232]) rfl ?_
        obtain ⟨p14, e14, h⟩ := bd h
        refine Ev.callv D_154 E_81 (by decide +kernel) C_9_322 232 [.int v2] (r := []) rfl (gd_o k_232 (by decide)) rfl (Nat.le_of_ble_eq_true rfl) (Nat.le_of_ble_eq_true rfl) (gH_sumOf_ok (by omega)  e14) ?_
        refine Ev.seg D_154 [(.i2l, 1)] (by decide +kernel) (j := 0) (pc' := 50) (lv' := [(0, .ref 0), (1, .int v1), (2, .int v2), (3, .int v3)]) (st' := [.long p14.toInt64]) rfl ?_
        refine Ev.stat D_154 (i := 325) (by decide +kernel) (v := .ref (XB + 1)) (by decide +kernel) ?_
        refine Ev.seg D_154 [(.aload_n 0, 1)] (by decide +kernel) (j := 0) (pc' := 54) (lv' := [(0, .ref 0), (1, .int v1), (2, .int v2), (3, .int v3)]) (st' := [.ref 0, .ref (XB + 1), .long p14.toInt64]) rfl ?_
        refine Ev.getR D_154 (by decide +kernel) F_9_28 T_9_2 (x := 16) (S_oR k_0 (by decide +kernel)) ?_
        refine Ev.getI D_154 (by decide +kernel) F_9_218 (Or.inl T_2_6) (S_oI k_16) ?_
        obtain ⟨x18, e18, h⟩ := bd h
        refine Ev.iald D_154 (by decide +kernel) (S_aIx (by rfl) (Nat.le_add_right _ _) e18) ?_
        refine Ev.seg D_154 [(.i2l, 1), (.iload_n 3, 1)] (by decide +kernel) (j := 0) (pc' := 63) (lv' := [(0, .ref 0), (1, .int v1), (2, .int v2), (3, .int v3)]) (st' := [.int v3, .long x18.toInt64, .long p14.toInt64]) rfl ?_
        obtain ⟨p19, e19, h⟩ := bd h
        refine Ev.calls D_154 E_155 (by decide +kernel) C_9_328 [.long p14.toInt64, .long x18.toInt64, .int v3] (r := []) rfl rfl (Nat.le_of_ble_eq_true rfl) (Nat.le_of_ble_eq_true rfl) (gL_lowestTerms_ok (by omega)  e19) ?_
        refine Ev.seg D_154 [(.l2i, 1)] (by decide +kernel) (j := 0) (pc' := 67) (lv' := [(0, .ref 0), (1, .int v1), (2, .int v2), (3, .int v3)]) (st' := [.int p19.toInt32]) rfl ?_
        cases h
        obtain rfl : o = _ := ho
        exact Ev.iret D_154 (by decide +kernel)
      · have c10 : p9 = 0 := Decidable.of_not_not (of_decide_eq_false c10)
        rw [if_pos c10] at h
        refine Ev.seg D_154 [(.bipush (-2), 2)] (by decide +kernel) (j := 0) (pc' := 32) (lv' := [(0, .ref 0), (1, .int v1), (2, .int v2), (3, .int v3)]) (st' := [.int (-2 : Int32)]) rfl ?_
        cases h
        obtain rfl : o = _ := ho
        exact Ev.iret D_154 (by decide +kernel)
/- PennantLawn areTwoWatchers: 158 -/
def gL_areTwoWatchers (v1 : Int32) (v2 : Int32) (s : mT) : Option (Int32) :=
  (gR_hasWatcher 16 v1 s).bind fun p2 =>
  (
    if p2 = 0 then
      some ((0 : Int32))
    else
      (gR_hasWatcher 16 v2 s).bind fun p5 =>
      if p5 = 0 then
        some ((0 : Int32))
      else
        if v1 = v2 then
          some ((0 : Int32))
        else
          some ((1 : Int32)) : Option (Int32)).bind fun x3 =>
  if x3 = 0 ∨ x3 = 1 then some (x3) else none
set_option maxRecDepth 8000 in
theorem gL_areTwoWatchers_ok {L d : Nat} (hd : 2 ≤ d) {v1 : Int32} {v2 : Int32} {s : mT} {p : Int32} (h : gL_areTwoWatchers v1 v2 s = some p) : Ev d 158 0 [(0, .ref 0), (1, .int v1), (2, .int v2)] [] (uS L s) (some (.int p), uS L s) := by
  obtain ⟨d, rfl⟩ : ∃ e, d = e + 1 := ⟨d - 1, by omega⟩
  obtain ⟨o, ho⟩ : ∃ o : Option Value × mS, o = (some (.int p), uS L s) := ⟨_, rfl⟩
  rw [← ho]
  unfold gL_areTwoWatchers at h
  refine Ev.seg D_158 [(.aload_n 0, 1)] (by decide +kernel) (j := 0) (pc' := 1) (lv' := [(0, .ref 0), (1, .int v1), (2, .int v2)]) (st' := [.ref 0]) rfl ?_
  refine Ev.getR D_158 (by decide +kernel) F_9_28 T_9_2 (x := 16) (S_oR k_0 (by decide +kernel)) ?_
  refine Ev.seg D_158 [(.iload_n 1, 1)] (by decide +kernel) (j := 0) (pc' := 5) (lv' := [(0, .ref 0), (1, .int v1), (2, .int v2)]) (st' := [.int v1, .ref 16]) rfl ?_
  obtain ⟨p2, e2, h⟩ := bd h
  refine Ev.callv D_158 E_40 (by decide +kernel) C_9_134 16 [.int v1] (r := []) rfl (gd_o k_16 (by decide)) rfl (Nat.le_of_ble_eq_true rfl) (Nat.le_of_ble_eq_true rfl) (gR_hasWatcher_ok (by omega) (by decide) e2) ?_
  obtain ⟨x3, g3, h⟩ := bd h
  have j3 : Ev (d + 1) 158 32 [] [.int x3] (uS L s) o := by
    clear g3
    by_cases c8 : x3 = 0 ∨ x3 = 1
    · rw [if_pos c8] at h
      cases h
      obtain rfl : o = _ := ho
      exact Ev.zret D_158 c8 (by decide +kernel)
    · rw [if_neg c8] at h; cases h
  clear h
  refine Ev.if_ D_158 (c := .eq) (off := 23) (by decide +kernel) (t := 31) rfl (fun c3 => ?_) (fun c3 => ?_)
  · have c3 : p2 = 0 := of_decide_eq_true c3
    rw [if_pos c3] at g3
    refine Ev.seg D_158 [(.iconst 0, 1)] (by decide +kernel) (j := 0) (pc' := 32) (lv' := [(0, .ref 0), (1, .int v1), (2, .int v2)]) (st' := [.int (0 : Int32)]) rfl ?_
    cases g3
    exact Ev.sub2 j3 subL_nil
  · have c3 : ¬ p2 = 0 := of_decide_eq_false c3
    rw [if_neg c3] at g3
    refine Ev.seg D_158 [(.aload_n 0, 1)] (by decide +kernel) (j := 0) (pc' := 12) (lv' := [(0, .ref 0), (1, .int v1), (2, .int v2)]) (st' := [.ref 0]) rfl ?_
    refine Ev.getR D_158 (by decide +kernel) F_9_28 T_9_2 (x := 16) (S_oR k_0 (by decide +kernel)) ?_
    refine Ev.seg D_158 [(.iload_n 2, 1)] (by decide +kernel) (j := 0) (pc' := 16) (lv' := [(0, .ref 0), (1, .int v1), (2, .int v2)]) (st' := [.int v2, .ref 16]) rfl ?_
    obtain ⟨p5, e5, g3⟩ := bd g3
    refine Ev.callv D_158 E_40 (by decide +kernel) C_9_134 16 [.int v2] (r := []) rfl (gd_o k_16 (by decide)) rfl (Nat.le_of_ble_eq_true rfl) (Nat.le_of_ble_eq_true rfl) (gR_hasWatcher_ok (by omega) (by decide) e5) ?_
    refine Ev.if_ D_158 (c := .eq) (off := 12) (by decide +kernel) (t := 31) rfl (fun c6 => ?_) (fun c6 => ?_)
    · have c6 : p5 = 0 := of_decide_eq_true c6
      rw [if_pos c6] at g3
      refine Ev.seg D_158 [(.iconst 0, 1)] (by decide +kernel) (j := 0) (pc' := 32) (lv' := [(0, .ref 0), (1, .int v1), (2, .int v2)]) (st' := [.int (0 : Int32)]) rfl ?_
      cases g3
      exact Ev.sub2 j3 subL_nil
    · have c6 : ¬ p5 = 0 := of_decide_eq_false c6
      rw [if_neg c6] at g3
      refine Ev.seg D_158 [(.iload_n 1, 1), (.iload_n 2, 1)] (by decide +kernel) (j := 0) (pc' := 24) (lv' := [(0, .ref 0), (1, .int v1), (2, .int v2)]) (st' := [.int v2, .int v1]) rfl ?_
      refine Ev.icmp D_158 (c := .eq) (off := 7) (by decide +kernel) (t := 31) rfl (fun c7 => ?_) (fun c7 => ?_)
      · have c7 : v1 = v2 := of_decide_eq_true c7
        rw [if_pos c7] at g3
        refine Ev.seg D_158 [(.iconst 0, 1)] (by decide +kernel) (j := 0) (pc' := 32) (lv' := [(0, .ref 0), (1, .int v1), (2, .int v2)]) (st' := [.int (0 : Int32)]) rfl ?_
        cases g3
        exact Ev.sub2 j3 subL_nil
      · have c7 : ¬ v1 = v2 := of_decide_eq_false c7
        rw [if_neg c7] at g3
        refine Ev.seg D_158 [(.iconst 1, 1), (.goto 4, 3)] (by decide +kernel) (j := 0) (pc' := 32) (lv' := [(0, .ref 0), (1, .int v1), (2, .int v2)]) (st' := [.int (1 : Int32)]) rfl ?_
        cases g3
        exact Ev.sub2 j3 subL_nil
/- PennantLawn rests: 157 -/
def gL_rests (v1 : Int32) (v2 : Int32) (s : mT) : Option (Int32 × mT) :=
  (gL_areTwoWatchers v1 v2 s).bind fun p1 =>
  if p1 = 0 then
    some (((-2 : Int32), s))
  else
    (gG_play v1 v2 s).bind fun p4 =>
    some ((p4.1 234 4, p4))
set_option maxRecDepth 8000 in
theorem gL_rests_ok {L d : Nat} (hd : 7 ≤ d) {v1 : Int32} {v2 : Int32} {s : mT} {p : Int32 × mT} (h : gL_rests v1 v2 s = some p) : Ev d 157 0 [(0, .ref 0), (1, .int v1), (2, .int v2)] [] (uS L s) (some (.int p.1), uS L p.2) := by
  obtain ⟨d, rfl⟩ : ∃ e, d = e + 1 := ⟨d - 1, by omega⟩
  obtain ⟨o, ho⟩ : ∃ o : Option Value × mS, o = (some (.int p.1), uS L p.2) := ⟨_, rfl⟩
  rw [← ho]
  unfold gL_rests at h
  refine Ev.seg D_157 [(.aload_n 0, 1), (.iload_n 1, 1), (.iload_n 2, 1)] (by decide +kernel) (j := 0) (pc' := 3) (lv' := [(0, .ref 0), (1, .int v1), (2, .int v2)]) (st' := [.int v2, .int v1, .ref 0]) rfl ?_
  obtain ⟨p1, e1, h⟩ := bd h
  refine Ev.callv D_157 E_158 (by decide +kernel) C_9_332 0 [.int v1, .int v2] (r := []) rfl (gd_o k_0 (by decide)) rfl (Nat.le_of_ble_eq_true rfl) (Nat.le_of_ble_eq_true rfl) (gL_areTwoWatchers_ok (by omega)  e1) ?_
  refine Ev.if_ D_157 (c := .ne) (off := 6) (by decide +kernel) (t := 12) rfl (fun c2 => ?_) (fun c2 => ?_)
  · have c2 : ¬ p1 = 0 := of_decide_eq_true c2
    rw [if_neg c2] at h
    refine Ev.seg D_157 [(.aload_n 0, 1)] (by decide +kernel) (j := 0) (pc' := 13) (lv' := [(0, .ref 0), (1, .int v1), (2, .int v2)]) (st' := [.ref 0]) rfl ?_
    refine Ev.getR D_157 (by decide +kernel) F_9_70 T_9_10 (x := 234) (S_oR k_0 (by decide +kernel)) ?_
    refine Ev.seg D_157 [(.iload_n 1, 1), (.iload_n 2, 1)] (by decide +kernel) (j := 0) (pc' := 18) (lv' := [(0, .ref 0), (1, .int v1), (2, .int v2)]) (st' := [.int v2, .int v1, .ref 234]) rfl ?_
    obtain ⟨p4, e4, h⟩ := bd h
    refine Ev.callv D_157 E_29 (by decide +kernel) C_9_335 234 [.int v1, .int v2] (r := []) rfl (gd_o k_234 (by decide)) rfl (Nat.le_of_ble_eq_true rfl) (Nat.le_of_ble_eq_true rfl) (gG_play_ok (by omega)  e4) ?_
    refine Ev.seg D_157 [(.aload_n 0, 1)] (by decide +kernel) (j := 0) (pc' := 22) (lv' := [(0, .ref 0), (1, .int v1), (2, .int v2)]) (st' := [.ref 0]) rfl ?_
    refine Ev.getR D_157 (by decide +kernel) F_9_70 T_9_10 (x := 234) (S_oR k_0 (by decide +kernel)) ?_
    refine Ev.getI D_157 (by decide +kernel) F_9_338 (Or.inl T_1_4) (S_oI k_234) ?_
    cases h
    obtain rfl : o = _ := ho
    exact Ev.iret D_157 (by decide +kernel)
  · have c2 : p1 = 0 := Decidable.of_not_not (of_decide_eq_false c2)
    rw [if_pos c2] at h
    refine Ev.seg D_157 [(.bipush (-2), 2)] (by decide +kernel) (j := 0) (pc' := 11) (lv' := [(0, .ref 0), (1, .int v1), (2, .int v2)]) (st' := [.int (-2 : Int32)]) rfl ?_
    cases h
    obtain rfl : o = _ := ho
    exact Ev.iret D_157 (by decide +kernel)
/- PennantLawn rest: 159 -/
def gL_rest (v1 : Int32) (v2 : Int32) (s : mT) : Option (Int32 × mT) :=
  (gL_areTwoWatchers v1 v2 s).bind fun p1 =>
  if p1 = 0 then
    some (((-2 : Int32), s))
  else
    (gG_play v1 v2 s).bind fun p4 =>
    some ((p4.1 234 5, p4))
set_option maxRecDepth 8000 in
theorem gL_rest_ok {L d : Nat} (hd : 7 ≤ d) {v1 : Int32} {v2 : Int32} {s : mT} {p : Int32 × mT} (h : gL_rest v1 v2 s = some p) : Ev d 159 0 [(0, .ref 0), (1, .int v1), (2, .int v2)] [] (uS L s) (some (.int p.1), uS L p.2) := by
  obtain ⟨d, rfl⟩ : ∃ e, d = e + 1 := ⟨d - 1, by omega⟩
  obtain ⟨o, ho⟩ : ∃ o : Option Value × mS, o = (some (.int p.1), uS L p.2) := ⟨_, rfl⟩
  rw [← ho]
  unfold gL_rest at h
  refine Ev.seg D_159 [(.aload_n 0, 1), (.iload_n 1, 1), (.iload_n 2, 1)] (by decide +kernel) (j := 0) (pc' := 3) (lv' := [(0, .ref 0), (1, .int v1), (2, .int v2)]) (st' := [.int v2, .int v1, .ref 0]) rfl ?_
  obtain ⟨p1, e1, h⟩ := bd h
  refine Ev.callv D_159 E_158 (by decide +kernel) C_9_332 0 [.int v1, .int v2] (r := []) rfl (gd_o k_0 (by decide)) rfl (Nat.le_of_ble_eq_true rfl) (Nat.le_of_ble_eq_true rfl) (gL_areTwoWatchers_ok (by omega)  e1) ?_
  refine Ev.if_ D_159 (c := .ne) (off := 6) (by decide +kernel) (t := 12) rfl (fun c2 => ?_) (fun c2 => ?_)
  · have c2 : ¬ p1 = 0 := of_decide_eq_true c2
    rw [if_neg c2] at h
    refine Ev.seg D_159 [(.aload_n 0, 1)] (by decide +kernel) (j := 0) (pc' := 13) (lv' := [(0, .ref 0), (1, .int v1), (2, .int v2)]) (st' := [.ref 0]) rfl ?_
    refine Ev.getR D_159 (by decide +kernel) F_9_70 T_9_10 (x := 234) (S_oR k_0 (by decide +kernel)) ?_
    refine Ev.seg D_159 [(.iload_n 1, 1), (.iload_n 2, 1)] (by decide +kernel) (j := 0) (pc' := 18) (lv' := [(0, .ref 0), (1, .int v1), (2, .int v2)]) (st' := [.int v2, .int v1, .ref 234]) rfl ?_
    obtain ⟨p4, e4, h⟩ := bd h
    refine Ev.callv D_159 E_29 (by decide +kernel) C_9_335 234 [.int v1, .int v2] (r := []) rfl (gd_o k_234 (by decide)) rfl (Nat.le_of_ble_eq_true rfl) (Nat.le_of_ble_eq_true rfl) (gG_play_ok (by omega)  e4) ?_
    refine Ev.seg D_159 [(.aload_n 0, 1)] (by decide +kernel) (j := 0) (pc' := 22) (lv' := [(0, .ref 0), (1, .int v1), (2, .int v2)]) (st' := [.ref 0]) rfl ?_
    refine Ev.getR D_159 (by decide +kernel) F_9_70 T_9_10 (x := 234) (S_oR k_0 (by decide +kernel)) ?_
    refine Ev.getI D_159 (by decide +kernel) F_9_341 (Or.inl T_1_5) (S_oI k_234) ?_
    cases h
    obtain rfl : o = _ := ho
    exact Ev.iret D_159 (by decide +kernel)
  · have c2 : p1 = 0 := Decidable.of_not_not (of_decide_eq_false c2)
    rw [if_pos c2] at h
    refine Ev.seg D_159 [(.bipush (-2), 2)] (by decide +kernel) (j := 0) (pc' := 11) (lv' := [(0, .ref 0), (1, .int v1), (2, .int v2)]) (st' := [.int (-2 : Int32)]) rfl ?_
    cases h
    obtain rfl : o = _ := ho
    exact Ev.iret D_159 (by decide +kernel)
/- PennantLawn isChanceStep: 161 -/
def gL_isChanceStep (v1 : Int32) (s : mT) : Option (Int32) :=
  (gR_hasEarlyStep 16 v1 s).bind fun p2 =>
  (
    if p2 = 0 then
      some ((0 : Int32))
    else
      if (7 : Int32) < v1 then
        some ((0 : Int32))
      else
        some ((1 : Int32)) : Option (Int32)).bind fun x3 =>
  if x3 = 0 ∨ x3 = 1 then some (x3) else none
set_option maxRecDepth 8000 in
theorem gL_isChanceStep_ok {L d : Nat} (hd : 3 ≤ d) {v1 : Int32} {s : mT} {p : Int32} (h : gL_isChanceStep v1 s = some p) : Ev d 161 0 [(0, .ref 0), (1, .int v1)] [] (uS L s) (some (.int p), uS L s) := by
  obtain ⟨d, rfl⟩ : ∃ e, d = e + 1 := ⟨d - 1, by omega⟩
  obtain ⟨o, ho⟩ : ∃ o : Option Value × mS, o = (some (.int p), uS L s) := ⟨_, rfl⟩
  rw [← ho]
  unfold gL_isChanceStep at h
  refine Ev.seg D_161 [(.aload_n 0, 1)] (by decide +kernel) (j := 0) (pc' := 1) (lv' := [(0, .ref 0), (1, .int v1)]) (st' := [.ref 0]) rfl ?_
  refine Ev.getR D_161 (by decide +kernel) F_9_28 T_9_2 (x := 16) (S_oR k_0 (by decide +kernel)) ?_
  refine Ev.seg D_161 [(.iload_n 1, 1)] (by decide +kernel) (j := 0) (pc' := 5) (lv' := [(0, .ref 0), (1, .int v1)]) (st' := [.int v1, .ref 16]) rfl ?_
  obtain ⟨p2, e2, h⟩ := bd h
  refine Ev.callv D_161 E_44 (by decide +kernel) C_9_168 16 [.int v1] (r := []) rfl (gd_o k_16 (by decide)) rfl (Nat.le_of_ble_eq_true rfl) (Nat.le_of_ble_eq_true rfl) (gR_hasEarlyStep_ok (by omega) (by decide) e2) ?_
  obtain ⟨x3, g3, h⟩ := bd h
  have j3 : Ev (d + 1) 161 22 [] [.int x3] (uS L s) o := by
    clear g3
    by_cases c5 : x3 = 0 ∨ x3 = 1
    · rw [if_pos c5] at h
      cases h
      obtain rfl : o = _ := ho
      exact Ev.zret D_161 c5 (by decide +kernel)
    · rw [if_neg c5] at h; cases h
  clear h
  refine Ev.if_ D_161 (c := .eq) (off := 13) (by decide +kernel) (t := 21) rfl (fun c3 => ?_) (fun c3 => ?_)
  · have c3 : p2 = 0 := of_decide_eq_true c3
    rw [if_pos c3] at g3
    refine Ev.seg D_161 [(.iconst 0, 1)] (by decide +kernel) (j := 0) (pc' := 22) (lv' := [(0, .ref 0), (1, .int v1)]) (st' := [.int (0 : Int32)]) rfl ?_
    cases g3
    exact Ev.sub2 j3 subL_nil
  · have c3 : ¬ p2 = 0 := of_decide_eq_false c3
    rw [if_neg c3] at g3
    refine Ev.seg D_161 [(.iload_n 1, 1), (.bipush 7, 2)] (by decide +kernel) (j := 0) (pc' := 14) (lv' := [(0, .ref 0), (1, .int v1)]) (st' := [.int (7 : Int32), .int v1]) rfl ?_
    refine Ev.icmp D_161 (c := .gt) (off := 7) (by decide +kernel) (t := 21) rfl (fun c4 => ?_) (fun c4 => ?_)
    · have c4 : (7 : Int32) < v1 := of_decide_eq_true c4
      rw [if_pos c4] at g3
      refine Ev.seg D_161 [(.iconst 0, 1)] (by decide +kernel) (j := 0) (pc' := 22) (lv' := [(0, .ref 0), (1, .int v1)]) (st' := [.int (0 : Int32)]) rfl ?_
      cases g3
      exact Ev.sub2 j3 subL_nil
    · have c4 : ¬ (7 : Int32) < v1 := of_decide_eq_false c4
      rw [if_neg c4] at g3
      refine Ev.seg D_161 [(.iconst 1, 1), (.goto 4, 3)] (by decide +kernel) (j := 0) (pc' := 22) (lv' := [(0, .ref 0), (1, .int v1)]) (st' := [.int (1 : Int32)]) rfl ?_
      cases g3
      exact Ev.sub2 j3 subL_nil
