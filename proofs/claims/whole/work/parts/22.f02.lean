/-! The program's methods as functions of ints and longs, each with its certificate (wip/whole/gen_emit.py writes this) -/
/- Game mostAgainst: 31 -/
def gG_mostAgainst_h13 (v1 : Int32) (v2 : Int32) (s : mT) (q : Int32 × Int32) : Option ((Int32 × Int32) ⊕ (Int32)) :=
  (rdI (s.1 21) 5 v1).bind fun x3 =>
  if x3 < q.2 then
    some (.inr q.1)
  else
    if ¬ (q.2 < 0 ∨ 5 ≤ q.2.toNatClampNeg) then
      (rdI (s.1 (236 + q.2.toNatClampNeg)) 5 v2).bind fun x7 =>
      some (.inl (imax q.1 x7, q.2 + (1 : Int32)))
    else none
set_option maxRecDepth 8000 in
theorem gG_mostAgainst_h13_ok {L d : Nat} (hd : 1 ≤ d + 1) {v1 : Int32} {v2 : Int32} {s : mT} : ∀ (q : Int32 × Int32) (x : (Int32 × Int32) ⊕ (Int32)), gG_mostAgainst_h13 v1 v2 s q = some x → ∀ o, sK (fun q => Ev (d + 1) 31 13 [(0, .ref 234), (1, .int v1), (2, .int v2), (3, .int q.1), (4, .int q.2)] [] (uS L s) o) (fun r => Ev (d + 1) 31 47 [(3, .int r)] [] (uS L s) o) x → Ev (d + 1) 31 13 [(0, .ref 234), (1, .int v1), (2, .int v2), (3, .int q.1), (4, .int q.2)] [] (uS L s) o := by
  intro q x h o ho
  unfold gG_mostAgainst_h13 at h
  refine Ev.seg D_31 [(.iload 4, 2), (.aload_n 0, 1)] (by decide +kernel) (j := 0) (pc' := 16) (lv' := [(0, .ref 234), (1, .int v1), (2, .int v2), (3, .int q.1), (4, .int q.2)]) (st' := [.ref 234, .int q.2]) rfl ?_
  refine Ev.getR D_31 (by decide +kernel) F_1_26 T_1_0 (x := 16) (S_oR k_234 (by decide +kernel)) ?_
  refine Ev.getR D_31 (by decide +kernel) F_1_44 T_2_13 (x := 21) (S_oR k_16 (by decide +kernel)) ?_
  refine Ev.seg D_31 [(.iload_n 1, 1)] (by decide +kernel) (j := 0) (pc' := 23) (lv' := [(0, .ref 234), (1, .int v1), (2, .int v2), (3, .int q.1), (4, .int q.2)]) (st' := [.int v1, .ref 21, .int q.2]) rfl ?_
  obtain ⟨x3, e3, h⟩ := bd h
  refine Ev.iald D_31 (by decide +kernel) (S_aI k_21 e3) ?_
  refine Ev.icmp D_31 (c := .gt) (off := 23) (by decide +kernel) (t := 47) rfl (fun c4 => ?_) (fun c4 => ?_)
  · have c4 : x3 < q.2 := of_decide_eq_true c4
    rw [if_pos c4] at h
    cases h
    exact Ev.sub (lv' := [(3, .int q.1)]) (subL_cons rfl subL_nil) ho
  · have c4 : ¬ x3 < q.2 := of_decide_eq_false c4
    rw [if_neg c4] at h
    refine Ev.seg D_31 [(.iload_n 3, 1), (.aload_n 0, 1)] (by decide +kernel) (j := 0) (pc' := 29) (lv' := [(0, .ref 234), (1, .int v1), (2, .int v2), (3, .int q.1), (4, .int q.2)]) (st' := [.ref 234, .int q.1]) rfl ?_
    refine Ev.getR D_31 (by decide +kernel) F_1_11 T_1_2 (x := 235) (S_oR k_234 (by decide +kernel)) ?_
    refine Ev.seg D_31 [(.iload 4, 2)] (by decide +kernel) (j := 0) (pc' := 34) (lv' := [(0, .ref 234), (1, .int v1), (2, .int v2), (3, .int q.1), (4, .int q.2)]) (st' := [.int q.2, .ref 235, .int q.1]) rfl ?_
    by_cases b34 : ¬ (q.2 < 0 ∨ 5 ≤ q.2.toNatClampNeg)
    rotate_left
    · rw [if_neg b34] at h; cases h
    rw [if_pos b34] at h
    refine Ev.aald D_31 (by decide +kernel) (kd := 26) ⟨by decide, by decide⟩ (x := (236 + q.2.toNatClampNeg)) (S_aR k_235 b34 (lit_aa (e := 236) (n := 5) (by decide +kernel) b34)) ?_
    refine Ev.seg D_31 [(.iload_n 2, 1)] (by decide +kernel) (j := 0) (pc' := 36) (lv' := [(0, .ref 234), (1, .int v1), (2, .int v2), (3, .int q.1), (4, .int q.2)]) (st' := [.int v2, .ref (236 + q.2.toNatClampNeg), .int q.1]) rfl ?_
    obtain ⟨x7, e7, h⟩ := bd h
    refine Ev.iald D_31 (by decide +kernel) (S_aI (lit_row (e := 236) (n := 5) (by decide +kernel) b34) e7) ?_
    refine Ev.max D_31 (by decide +kernel) (Nat.succ_pos _) C_1_75 (Nat.le_of_ble_eq_true rfl) ?_
    refine Ev.seg D_31 [(.istore_n 3, 1), (.iinc 4 1, 3), (.goto (-31), 3)] (by decide +kernel) (j := 0) (pc' := 13) (lv' := [(4, .int (q.2 + (1 : Int32))), (3, .int (imax q.1 x7)), (0, .ref 234), (1, .int v1), (2, .int v2)]) (st' := []) rfl ?_
    cases h
    exact Ev.sub (lv' := [(0, .ref 234), (1, .int v1), (2, .int v2), (3, .int (imax q.1 x7)), (4, .int (q.2 + (1 : Int32)))]) (subL_cons rfl (subL_cons rfl (subL_cons rfl (subL_cons rfl (subL_cons rfl subL_nil))))) ho
theorem gG_mostAgainst_h13_w {L d : Nat} (hd : 1 ≤ d + 1) {v1 : Int32} {v2 : Int32} {s : mT} : ∀ (n : Nat) (q : Int32 × Int32) (r : Int32), wh n (gG_mostAgainst_h13 v1 v2 s) q = some r → ∀ o, (fun r => Ev (d + 1) 31 47 [(3, .int r)] [] (uS L s) o) r → Ev (d + 1) 31 13 [(0, .ref 234), (1, .int v1), (2, .int v2), (3, .int q.1), (4, .int q.2)] [] (uS L s) o :=
  fun n q r h o hc => wh_ev (E := fun (q : Int32 × Int32) o => Ev (d + 1) 31 13 [(0, .ref 234), (1, .int v1), (2, .int v2), (3, .int q.1), (4, .int q.2)] [] (uS L s) o) (C := fun (r : Int32) o => (fun r => Ev (d + 1) 31 47 [(3, .int r)] [] (uS L s) o) r) (gG_mostAgainst_h13_ok hd  ) n q r h o hc
def gG_mostAgainst (v1 : Int32) (v2 : Int32) (s : mT) : Option (Int32) :=
  (rdI (s.1 20) 5 v1).bind fun x3 =>
  (wh FU (gG_mostAgainst_h13 v1 v2 s) ((0 : Int32), x3)).bind fun x9 =>
  some (x9)
set_option maxRecDepth 8000 in
theorem gG_mostAgainst_ok {L d : Nat} (hd : 1 ≤ d) {v1 : Int32} {v2 : Int32} {s : mT} {p : Int32} (h : gG_mostAgainst v1 v2 s = some p) : Ev d 31 0 [(0, .ref 234), (1, .int v1), (2, .int v2)] [] (uS L s) (some (.int p), uS L s) := by
  obtain ⟨d, rfl⟩ : ∃ e, d = e + 1 := ⟨d - 1, by omega⟩
  obtain ⟨o, ho⟩ : ∃ o : Option Value × mS, o = (some (.int p), uS L s) := ⟨_, rfl⟩
  rw [← ho]
  unfold gG_mostAgainst at h
  refine Ev.seg D_31 [(.iconst 0, 1), (.istore_n 3, 1), (.aload_n 0, 1)] (by decide +kernel) (j := 0) (pc' := 3) (lv' := [(3, .int (0 : Int32)), (0, .ref 234), (1, .int v1), (2, .int v2)]) (st' := [.ref 234]) rfl ?_
  refine Ev.getR D_31 (by decide +kernel) F_1_26 T_1_0 (x := 16) (S_oR k_234 (by decide +kernel)) ?_
  refine Ev.getR D_31 (by decide +kernel) F_1_38 T_2_12 (x := 20) (S_oR k_16 (by decide +kernel)) ?_
  refine Ev.seg D_31 [(.iload_n 1, 1)] (by decide +kernel) (j := 0) (pc' := 10) (lv' := [(3, .int (0 : Int32)), (0, .ref 234), (1, .int v1), (2, .int v2)]) (st' := [.int v1, .ref 20]) rfl ?_
  obtain ⟨x3, e3, h⟩ := bd h
  refine Ev.iald D_31 (by decide +kernel) (S_aI k_20 e3) ?_
  refine Ev.seg D_31 [(.istore 4, 2)] (by decide +kernel) (j := 0) (pc' := 13) (lv' := [(4, .int x3), (3, .int (0 : Int32)), (0, .ref 234), (1, .int v1), (2, .int v2)]) (st' := []) rfl ?_
  obtain ⟨x9, w9, h⟩ := bd h
  have j9 : Ev (d + 1) 31 47 [(3, .int x9)] [] (uS L s) o := by
    clear w9
    refine Ev.seg D_31 [(.iload_n 3, 1)] (by decide +kernel) (j := 0) (pc' := 48) (lv' := [(3, .int x9)]) (st' := [.int x9]) rfl ?_
    cases h
    obtain rfl : o = _ := ho
    exact Ev.iret D_31 (by decide +kernel)
  exact Ev.sub (lv' := [(0, .ref 234), (1, .int v1), (2, .int v2), (3, .int (0 : Int32)), (4, .int x3)]) (subL_cons rfl (subL_cons rfl (subL_cons rfl (subL_cons rfl (subL_cons rfl subL_nil))))) (gG_mostAgainst_h13_w hd   _ _ _ w9 _ j9)
/- Game mostBeside: 32 -/
def gG_mostBeside_h13 (v1 : Int32) (v2 : Int32) (s : mT) (q : Int32 × Int32) : Option ((Int32 × Int32) ⊕ (Int32)) :=
  (rdI (s.1 21) 5 v1).bind fun x3 =>
  if x3 < q.2 then
    some (.inr q.1)
  else
    if ¬ (v2 < 0 ∨ 5 ≤ v2.toNatClampNeg) then
      (rdI (s.1 (242 + v2.toNatClampNeg)) 5 q.2).bind fun x7 =>
      some (.inl (imax q.1 x7, q.2 + (1 : Int32)))
    else none
set_option maxRecDepth 8000 in
theorem gG_mostBeside_h13_ok {L d : Nat} (hd : 1 ≤ d + 1) {v1 : Int32} {v2 : Int32} {s : mT} : ∀ (q : Int32 × Int32) (x : (Int32 × Int32) ⊕ (Int32)), gG_mostBeside_h13 v1 v2 s q = some x → ∀ o, sK (fun q => Ev (d + 1) 32 13 [(0, .ref 234), (1, .int v1), (2, .int v2), (3, .int q.1), (4, .int q.2)] [] (uS L s) o) (fun r => Ev (d + 1) 32 47 [(3, .int r)] [] (uS L s) o) x → Ev (d + 1) 32 13 [(0, .ref 234), (1, .int v1), (2, .int v2), (3, .int q.1), (4, .int q.2)] [] (uS L s) o := by
  intro q x h o ho
  unfold gG_mostBeside_h13 at h
  refine Ev.seg D_32 [(.iload 4, 2), (.aload_n 0, 1)] (by decide +kernel) (j := 0) (pc' := 16) (lv' := [(0, .ref 234), (1, .int v1), (2, .int v2), (3, .int q.1), (4, .int q.2)]) (st' := [.ref 234, .int q.2]) rfl ?_
  refine Ev.getR D_32 (by decide +kernel) F_1_26 T_1_0 (x := 16) (S_oR k_234 (by decide +kernel)) ?_
  refine Ev.getR D_32 (by decide +kernel) F_1_44 T_2_13 (x := 21) (S_oR k_16 (by decide +kernel)) ?_
  refine Ev.seg D_32 [(.iload_n 1, 1)] (by decide +kernel) (j := 0) (pc' := 23) (lv' := [(0, .ref 234), (1, .int v1), (2, .int v2), (3, .int q.1), (4, .int q.2)]) (st' := [.int v1, .ref 21, .int q.2]) rfl ?_
  obtain ⟨x3, e3, h⟩ := bd h
  refine Ev.iald D_32 (by decide +kernel) (S_aI k_21 e3) ?_
  refine Ev.icmp D_32 (c := .gt) (off := 23) (by decide +kernel) (t := 47) rfl (fun c4 => ?_) (fun c4 => ?_)
  · have c4 : x3 < q.2 := of_decide_eq_true c4
    rw [if_pos c4] at h
    cases h
    exact Ev.sub (lv' := [(3, .int q.1)]) (subL_cons rfl subL_nil) ho
  · have c4 : ¬ x3 < q.2 := of_decide_eq_false c4
    rw [if_neg c4] at h
    refine Ev.seg D_32 [(.iload_n 3, 1), (.aload_n 0, 1)] (by decide +kernel) (j := 0) (pc' := 29) (lv' := [(0, .ref 234), (1, .int v1), (2, .int v2), (3, .int q.1), (4, .int q.2)]) (st' := [.ref 234, .int q.1]) rfl ?_
    refine Ev.getR D_32 (by decide +kernel) F_1_16 T_1_3 (x := 241) (S_oR k_234 (by decide +kernel)) ?_
    refine Ev.seg D_32 [(.iload_n 2, 1)] (by decide +kernel) (j := 0) (pc' := 33) (lv' := [(0, .ref 234), (1, .int v1), (2, .int v2), (3, .int q.1), (4, .int q.2)]) (st' := [.int v2, .ref 241, .int q.1]) rfl ?_
    by_cases b33 : ¬ (v2 < 0 ∨ 5 ≤ v2.toNatClampNeg)
    rotate_left
    · rw [if_neg b33] at h; cases h
    rw [if_pos b33] at h
    refine Ev.aald D_32 (by decide +kernel) (kd := 26) ⟨by decide, by decide⟩ (x := (242 + v2.toNatClampNeg)) (S_aR k_241 b33 (lit_aa (e := 242) (n := 5) (by decide +kernel) b33)) ?_
    refine Ev.seg D_32 [(.iload 4, 2)] (by decide +kernel) (j := 0) (pc' := 36) (lv' := [(0, .ref 234), (1, .int v1), (2, .int v2), (3, .int q.1), (4, .int q.2)]) (st' := [.int q.2, .ref (242 + v2.toNatClampNeg), .int q.1]) rfl ?_
    obtain ⟨x7, e7, h⟩ := bd h
    refine Ev.iald D_32 (by decide +kernel) (S_aI (lit_row (e := 242) (n := 5) (by decide +kernel) b33) e7) ?_
    refine Ev.max D_32 (by decide +kernel) (Nat.succ_pos _) C_1_75 (Nat.le_of_ble_eq_true rfl) ?_
    refine Ev.seg D_32 [(.istore_n 3, 1), (.iinc 4 1, 3), (.goto (-31), 3)] (by decide +kernel) (j := 0) (pc' := 13) (lv' := [(4, .int (q.2 + (1 : Int32))), (3, .int (imax q.1 x7)), (0, .ref 234), (1, .int v1), (2, .int v2)]) (st' := []) rfl ?_
    cases h
    exact Ev.sub (lv' := [(0, .ref 234), (1, .int v1), (2, .int v2), (3, .int (imax q.1 x7)), (4, .int (q.2 + (1 : Int32)))]) (subL_cons rfl (subL_cons rfl (subL_cons rfl (subL_cons rfl (subL_cons rfl subL_nil))))) ho
theorem gG_mostBeside_h13_w {L d : Nat} (hd : 1 ≤ d + 1) {v1 : Int32} {v2 : Int32} {s : mT} : ∀ (n : Nat) (q : Int32 × Int32) (r : Int32), wh n (gG_mostBeside_h13 v1 v2 s) q = some r → ∀ o, (fun r => Ev (d + 1) 32 47 [(3, .int r)] [] (uS L s) o) r → Ev (d + 1) 32 13 [(0, .ref 234), (1, .int v1), (2, .int v2), (3, .int q.1), (4, .int q.2)] [] (uS L s) o :=
  fun n q r h o hc => wh_ev (E := fun (q : Int32 × Int32) o => Ev (d + 1) 32 13 [(0, .ref 234), (1, .int v1), (2, .int v2), (3, .int q.1), (4, .int q.2)] [] (uS L s) o) (C := fun (r : Int32) o => (fun r => Ev (d + 1) 32 47 [(3, .int r)] [] (uS L s) o) r) (gG_mostBeside_h13_ok hd  ) n q r h o hc
def gG_mostBeside (v1 : Int32) (v2 : Int32) (s : mT) : Option (Int32) :=
  (rdI (s.1 20) 5 v1).bind fun x3 =>
  (wh FU (gG_mostBeside_h13 v1 v2 s) ((0 : Int32), x3)).bind fun x9 =>
  some (x9)
set_option maxRecDepth 8000 in
theorem gG_mostBeside_ok {L d : Nat} (hd : 1 ≤ d) {v1 : Int32} {v2 : Int32} {s : mT} {p : Int32} (h : gG_mostBeside v1 v2 s = some p) : Ev d 32 0 [(0, .ref 234), (1, .int v1), (2, .int v2)] [] (uS L s) (some (.int p), uS L s) := by
  obtain ⟨d, rfl⟩ : ∃ e, d = e + 1 := ⟨d - 1, by omega⟩
  obtain ⟨o, ho⟩ : ∃ o : Option Value × mS, o = (some (.int p), uS L s) := ⟨_, rfl⟩
  rw [← ho]
  unfold gG_mostBeside at h
  refine Ev.seg D_32 [(.iconst 0, 1), (.istore_n 3, 1), (.aload_n 0, 1)] (by decide +kernel) (j := 0) (pc' := 3) (lv' := [(3, .int (0 : Int32)), (0, .ref 234), (1, .int v1), (2, .int v2)]) (st' := [.ref 234]) rfl ?_
  refine Ev.getR D_32 (by decide +kernel) F_1_26 T_1_0 (x := 16) (S_oR k_234 (by decide +kernel)) ?_
  refine Ev.getR D_32 (by decide +kernel) F_1_38 T_2_12 (x := 20) (S_oR k_16 (by decide +kernel)) ?_
  refine Ev.seg D_32 [(.iload_n 1, 1)] (by decide +kernel) (j := 0) (pc' := 10) (lv' := [(3, .int (0 : Int32)), (0, .ref 234), (1, .int v1), (2, .int v2)]) (st' := [.int v1, .ref 20]) rfl ?_
  obtain ⟨x3, e3, h⟩ := bd h
  refine Ev.iald D_32 (by decide +kernel) (S_aI k_20 e3) ?_
  refine Ev.seg D_32 [(.istore 4, 2)] (by decide +kernel) (j := 0) (pc' := 13) (lv' := [(4, .int x3), (3, .int (0 : Int32)), (0, .ref 234), (1, .int v1), (2, .int v2)]) (st' := []) rfl ?_
  obtain ⟨x9, w9, h⟩ := bd h
  have j9 : Ev (d + 1) 32 47 [(3, .int x9)] [] (uS L s) o := by
    clear w9
    refine Ev.seg D_32 [(.iload_n 3, 1)] (by decide +kernel) (j := 0) (pc' := 48) (lv' := [(3, .int x9)]) (st' := [.int x9]) rfl ?_
    cases h
    obtain rfl : o = _ := ho
    exact Ev.iret D_32 (by decide +kernel)
  exact Ev.sub (lv' := [(0, .ref 234), (1, .int v1), (2, .int v2), (3, .int (0 : Int32)), (4, .int x3)]) (subL_cons rfl (subL_cons rfl (subL_cons rfl (subL_cons rfl (subL_cons rfl subL_nil))))) (gG_mostBeside_h13_w hd   _ _ _ w9 _ j9)
/- Game play: 29 -/
def gG_play_h50 (v1 : Int32) (v2 : Int32) (v3 : Int32) (q : Int32 × mT) : Option ((Int32 × mT) ⊕ (mT)) :=
  (rdI (q.2.1 21) 5 v2).bind fun x3 =>
  if x3 < q.1 then
    some (.inr q.2)
  else
    if ¬ (v3 < 0 ∨ 5 ≤ v3.toNatClampNeg) then
      (rdI (q.2.1 (236 + v3.toNatClampNeg)) 5 q.1).bind fun x7 =>
      (gG_mostAgainst v1 q.1 q.2).bind fun p8 =>
      (
        if x7 < p8 then
          some (q.2)
        else
          if ¬ (v3 < 0 ∨ 5 ≤ v3.toNatClampNeg) then
            (rdI (q.2.1 (242 + v3.toNatClampNeg)) 5 q.1).bind fun x12 =>
            (gG_mostBeside v2 v3 q.2).bind fun p13 =>
            if x12 < p13 then
              some (q.2)
            else
              (
                if (q.2.1 234 4) = 0 then
                  some (((10 : Int32) * v3) + q.1)
                else
                  some (q.2.1 234 5) : Option (Int32)).bind fun x16 =>
              some ((stI (stI q.2 234 5 x16) 234 4 (((stI q.2 234 5 x16).1 234 4) + (1 : Int32))))
          else none : Option (mT)).bind fun x9 =>
      some (.inl (q.1 + (1 : Int32), x9))
    else none
set_option maxRecDepth 8000 in
theorem gG_play_h50_ok {L d : Nat} (hd : 6 ≤ d + 1) {v1 : Int32} {v2 : Int32} {v3 : Int32} : ∀ (q : Int32 × mT) (x : (Int32 × mT) ⊕ (mT)), gG_play_h50 v1 v2 v3 q = some x → ∀ o, sK (fun q => Ev (d + 1) 29 50 [(0, .ref 234), (1, .int v1), (2, .int v2), (3, .int v3), (4, .int q.1)] [] (uS L q.2) o) (fun r => Ev (d + 1) 29 142 [(0, .ref 234), (1, .int v1), (2, .int v2), (3, .int v3)] [] (uS L r) o) x → Ev (d + 1) 29 50 [(0, .ref 234), (1, .int v1), (2, .int v2), (3, .int v3), (4, .int q.1)] [] (uS L q.2) o := by
  intro q x h o ho
  unfold gG_play_h50 at h
  refine Ev.seg D_29 [(.iload 4, 2), (.aload_n 0, 1)] (by decide +kernel) (j := 0) (pc' := 53) (lv' := [(0, .ref 234), (1, .int v1), (2, .int v2), (3, .int v3), (4, .int q.1)]) (st' := [.ref 234, .int q.1]) rfl ?_
  refine Ev.getR D_29 (by decide +kernel) F_1_26 T_1_0 (x := 16) (S_oR k_234 (by decide +kernel)) ?_
  refine Ev.getR D_29 (by decide +kernel) F_1_44 T_2_13 (x := 21) (S_oR k_16 (by decide +kernel)) ?_
  refine Ev.seg D_29 [(.iload_n 2, 1)] (by decide +kernel) (j := 0) (pc' := 60) (lv' := [(0, .ref 234), (1, .int v1), (2, .int v2), (3, .int v3), (4, .int q.1)]) (st' := [.int v2, .ref 21, .int q.1]) rfl ?_
  obtain ⟨x3, e3, h⟩ := bd h
  refine Ev.iald D_29 (by decide +kernel) (S_aI k_21 e3) ?_
  refine Ev.icmp D_29 (c := .gt) (off := 81) (by decide +kernel) (t := 142) rfl (fun c4 => ?_) (fun c4 => ?_)
  · have c4 : x3 < q.1 := of_decide_eq_true c4
    rw [if_pos c4] at h
    cases h
    exact Ev.sub (lv' := [(0, .ref 234), (1, .int v1), (2, .int v2), (3, .int v3)]) (subL_cons rfl (subL_cons rfl (subL_cons rfl (subL_cons rfl subL_nil)))) ho
  · have c4 : ¬ x3 < q.1 := of_decide_eq_false c4
    rw [if_neg c4] at h
    refine Ev.seg D_29 [(.aload_n 0, 1)] (by decide +kernel) (j := 0) (pc' := 65) (lv' := [(0, .ref 234), (1, .int v1), (2, .int v2), (3, .int v3), (4, .int q.1)]) (st' := [.ref 234]) rfl ?_
    refine Ev.getR D_29 (by decide +kernel) F_1_11 T_1_2 (x := 235) (S_oR k_234 (by decide +kernel)) ?_
    refine Ev.seg D_29 [(.iload_n 3, 1)] (by decide +kernel) (j := 0) (pc' := 69) (lv' := [(0, .ref 234), (1, .int v1), (2, .int v2), (3, .int v3), (4, .int q.1)]) (st' := [.int v3, .ref 235]) rfl ?_
    by_cases b69 : ¬ (v3 < 0 ∨ 5 ≤ v3.toNatClampNeg)
    rotate_left
    · rw [if_neg b69] at h; cases h
    rw [if_pos b69] at h
    refine Ev.aald D_29 (by decide +kernel) (kd := 26) ⟨by decide, by decide⟩ (x := (236 + v3.toNatClampNeg)) (S_aR k_235 b69 (lit_aa (e := 236) (n := 5) (by decide +kernel) b69)) ?_
    refine Ev.seg D_29 [(.iload 4, 2)] (by decide +kernel) (j := 0) (pc' := 72) (lv' := [(0, .ref 234), (1, .int v1), (2, .int v2), (3, .int v3), (4, .int q.1)]) (st' := [.int q.1, .ref (236 + v3.toNatClampNeg)]) rfl ?_
    obtain ⟨x7, e7, h⟩ := bd h
    refine Ev.iald D_29 (by decide +kernel) (S_aI (lit_row (e := 236) (n := 5) (by decide +kernel) b69) e7) ?_
    refine Ev.seg D_29 [(.aload_n 0, 1), (.iload_n 1, 1), (.iload 4, 2)] (by decide +kernel) (j := 0) (pc' := 77) (lv' := [(0, .ref 234), (1, .int v1), (2, .int v2), (3, .int v3), (4, .int q.1)]) (st' := [.int q.1, .int v1, .ref 234, .int x7]) rfl ?_
    obtain ⟨p8, e8, h⟩ := bd h
    refine Ev.callv D_29 E_31 (by decide +kernel) C_1_47 234 [.int v1, .int q.1] (r := [.int x7]) rfl (gd_o k_234 (by decide)) rfl (Nat.le_of_ble_eq_true rfl) (Nat.le_of_ble_eq_true rfl) (gG_mostAgainst_ok (by omega)  e8) ?_
    obtain ⟨x9, g9, h⟩ := bd h
    have j9 : Ev (d + 1) 29 136 [(0, .ref 234), (1, .int v1), (2, .int v2), (3, .int v3), (4, .int q.1)] [] (uS L x9) o := by
      clear g9
      refine Ev.seg D_29 [(.iinc 4 1, 3), (.goto (-89), 3)] (by decide +kernel) (j := 0) (pc' := 50) (lv' := [(4, .int (q.1 + (1 : Int32))), (0, .ref 234), (1, .int v1), (2, .int v2), (3, .int v3)]) (st' := []) rfl ?_
      cases h
      exact Ev.sub (lv' := [(0, .ref 234), (1, .int v1), (2, .int v2), (3, .int v3), (4, .int (q.1 + (1 : Int32)))]) (subL_cons rfl (subL_cons rfl (subL_cons rfl (subL_cons rfl (subL_cons rfl subL_nil))))) ho
    clear h
    refine Ev.icmp D_29 (c := .lt) (off := 56) (by decide +kernel) (t := 136) rfl (fun c9 => ?_) (fun c9 => ?_)
    · have c9 : x7 < p8 := of_decide_eq_true c9
      rw [if_pos c9] at g9
      cases g9
      exact Ev.sub2 j9 (subL_cons rfl (subL_cons rfl (subL_cons rfl (subL_cons rfl (subL_cons rfl subL_nil)))))
    · have c9 : ¬ x7 < p8 := of_decide_eq_false c9
      rw [if_neg c9] at g9
      refine Ev.seg D_29 [(.aload_n 0, 1)] (by decide +kernel) (j := 0) (pc' := 84) (lv' := [(0, .ref 234), (1, .int v1), (2, .int v2), (3, .int v3), (4, .int q.1)]) (st' := [.ref 234]) rfl ?_
      refine Ev.getR D_29 (by decide +kernel) F_1_16 T_1_3 (x := 241) (S_oR k_234 (by decide +kernel)) ?_
      refine Ev.seg D_29 [(.iload_n 3, 1)] (by decide +kernel) (j := 0) (pc' := 88) (lv' := [(0, .ref 234), (1, .int v1), (2, .int v2), (3, .int v3), (4, .int q.1)]) (st' := [.int v3, .ref 241]) rfl ?_
      by_cases b88 : ¬ (v3 < 0 ∨ 5 ≤ v3.toNatClampNeg)
      rotate_left
      · rw [if_neg b88] at g9; cases g9
      rw [if_pos b88] at g9
      refine Ev.aald D_29 (by decide +kernel) (kd := 26) ⟨by decide, by decide⟩ (x := (242 + v3.toNatClampNeg)) (S_aR k_241 b88 (lit_aa (e := 242) (n := 5) (by decide +kernel) b88)) ?_
      refine Ev.seg D_29 [(.iload 4, 2)] (by decide +kernel) (j := 0) (pc' := 91) (lv' := [(0, .ref 234), (1, .int v1), (2, .int v2), (3, .int v3), (4, .int q.1)]) (st' := [.int q.1, .ref (242 + v3.toNatClampNeg)]) rfl ?_
      obtain ⟨x12, e12, g9⟩ := bd g9
      refine Ev.iald D_29 (by decide +kernel) (S_aI (lit_row (e := 242) (n := 5) (by decide +kernel) b88) e12) ?_
      refine Ev.seg D_29 [(.aload_n 0, 1), (.iload_n 2, 1), (.iload_n 3, 1)] (by decide +kernel) (j := 0) (pc' := 95) (lv' := [(0, .ref 234), (1, .int v1), (2, .int v2), (3, .int v3), (4, .int q.1)]) (st' := [.int v3, .int v2, .ref 234, .int x12]) rfl ?_
      obtain ⟨p13, e13, g9⟩ := bd g9
      refine Ev.callv D_29 E_32 (by decide +kernel) C_1_51 234 [.int v2, .int v3] (r := [.int x12]) rfl (gd_o k_234 (by decide)) rfl (Nat.le_of_ble_eq_true rfl) (Nat.le_of_ble_eq_true rfl) (gG_mostBeside_ok (by omega)  e13) ?_
      refine Ev.icmp D_29 (c := .lt) (off := 38) (by decide +kernel) (t := 136) rfl (fun c14 => ?_) (fun c14 => ?_)
      · have c14 : x12 < p13 := of_decide_eq_true c14
        rw [if_pos c14] at g9
        cases g9
        exact Ev.sub2 j9 (subL_cons rfl (subL_cons rfl (subL_cons rfl (subL_cons rfl (subL_cons rfl subL_nil)))))
      · have c14 : ¬ x12 < p13 := of_decide_eq_false c14
        rw [if_neg c14] at g9
        refine Ev.seg D_29 [(.aload_n 0, 1), (.aload_n 0, 1)] (by decide +kernel) (j := 0) (pc' := 103) (lv' := [(0, .ref 234), (1, .int v1), (2, .int v2), (3, .int v3), (4, .int q.1)]) (st' := [.ref 234, .ref 234]) rfl ?_
        refine Ev.getI D_29 (by decide +kernel) F_1_19 (Or.inl T_1_4) (S_oI k_234) ?_
        obtain ⟨x16, g16, g9⟩ := bd g9
        have j16 : Ev (d + 1) 29 123 [(0, .ref 234), (1, .int v1), (2, .int v2), (3, .int v3), (4, .int q.1)] [.int x16, .ref 234] (uS L q.2) o := by
          clear g16
          refine Ev.putI D_29 (by decide +kernel) F_1_23 N_1_5 T_1_5 (S_pI k_234) ?_
          refine Ev.seg D_29 [(.aload_n 0, 1), (.dup, 1)] (by decide +kernel) (j := 0) (pc' := 128) (lv' := [(0, .ref 234), (1, .int v1), (2, .int v2), (3, .int v3), (4, .int q.1)]) (st' := [.ref 234, .ref 234]) rfl ?_
          refine Ev.getI D_29 (by decide +kernel) F_1_19 (Or.inl T_1_4) (S_oI k_234) ?_
          refine Ev.seg D_29 [(.iconst 1, 1), (.iadd, 1)] (by decide +kernel) (j := 0) (pc' := 133) (lv' := [(0, .ref 234), (1, .int v1), (2, .int v2), (3, .int v3), (4, .int q.1)]) (st' := [.int (((stI q.2 234 5 x16).1 234 4) + (1 : Int32)), .ref 234]) rfl ?_
          refine Ev.putI D_29 (by decide +kernel) F_1_19 N_1_4 T_1_4 (S_pI k_234) ?_
          cases g9
          exact Ev.sub2 j9 (subL_cons rfl (subL_cons rfl (subL_cons rfl (subL_cons rfl (subL_cons rfl subL_nil)))))
        clear g9
        refine Ev.if_ D_29 (c := .ne) (off := 13) (by decide +kernel) (t := 119) rfl (fun c16 => ?_) (fun c16 => ?_)
        · have c16 : ¬ (q.2.1 234 4) = 0 := of_decide_eq_true c16
          rw [if_neg c16] at g16
          refine Ev.seg D_29 [(.aload_n 0, 1)] (by decide +kernel) (j := 0) (pc' := 120) (lv' := [(0, .ref 234), (1, .int v1), (2, .int v2), (3, .int v3), (4, .int q.1)]) (st' := [.ref 234, .ref 234]) rfl ?_
          refine Ev.getI D_29 (by decide +kernel) F_1_23 (Or.inl T_1_5) (S_oI k_234) ?_
          cases g16
          exact Ev.sub2 j16 (subL_cons rfl (subL_cons rfl (subL_cons rfl (subL_cons rfl (subL_cons rfl subL_nil)))))
        · have c16 : (q.2.1 234 4) = 0 := Decidable.of_not_not (of_decide_eq_false c16)
          rw [if_pos c16] at g16
          refine Ev.seg D_29 [(.bipush 10, 2), (.iload_n 3, 1), (.imul, 1), (.iload 4, 2), (.iadd, 1), (.goto 7, 3)] (by decide +kernel) (j := 0) (pc' := 123) (lv' := [(0, .ref 234), (1, .int v1), (2, .int v2), (3, .int v3), (4, .int q.1)]) (st' := [.int (((10 : Int32) * v3) + q.1), .ref 234]) rfl ?_
          cases g16
          exact Ev.sub2 j16 (subL_cons rfl (subL_cons rfl (subL_cons rfl (subL_cons rfl (subL_cons rfl subL_nil)))))
theorem gG_play_h50_w {L d : Nat} (hd : 6 ≤ d + 1) {v1 : Int32} {v2 : Int32} {v3 : Int32} : ∀ (n : Nat) (q : Int32 × mT) (r : mT), wh n (gG_play_h50 v1 v2 v3) q = some r → ∀ o, (fun r => Ev (d + 1) 29 142 [(0, .ref 234), (1, .int v1), (2, .int v2), (3, .int v3)] [] (uS L r) o) r → Ev (d + 1) 29 50 [(0, .ref 234), (1, .int v1), (2, .int v2), (3, .int v3), (4, .int q.1)] [] (uS L q.2) o :=
  fun n q r h o hc => wh_ev (E := fun (q : Int32 × mT) o => Ev (d + 1) 29 50 [(0, .ref 234), (1, .int v1), (2, .int v2), (3, .int v3), (4, .int q.1)] [] (uS L q.2) o) (C := fun (r : mT) o => (fun r => Ev (d + 1) 29 142 [(0, .ref 234), (1, .int v1), (2, .int v2), (3, .int v3)] [] (uS L r) o) r) (gG_play_h50_ok hd  ) n q r h o hc
def gG_play_h26 (v1 : Int32) (v2 : Int32) (q : Int32 × mT) : Option ((Int32 × mT) ⊕ (mT)) :=
  (rdI (q.2.1 21) 5 v1).bind fun x3 =>
  if x3 < q.1 then
    some (.inr q.2)
  else
    (rdI (q.2.1 20) 5 v2).bind fun x7 =>
    (wh FU (gG_play_h50 v1 v2 q.1) (x7, q.2)).bind fun x21 =>
    some (.inl (q.1 + (1 : Int32), x21))
set_option maxRecDepth 8000 in
theorem gG_play_h26_ok {L d : Nat} (hd : 6 ≤ d + 1) {v1 : Int32} {v2 : Int32} : ∀ (q : Int32 × mT) (x : (Int32 × mT) ⊕ (mT)), gG_play_h26 v1 v2 q = some x → ∀ o, sK (fun q => Ev (d + 1) 29 26 [(0, .ref 234), (1, .int v1), (2, .int v2), (3, .int q.1)] [] (uS L q.2) o) (fun r => Ev (d + 1) 29 148 [] [] (uS L r) o) x → Ev (d + 1) 29 26 [(0, .ref 234), (1, .int v1), (2, .int v2), (3, .int q.1)] [] (uS L q.2) o := by
  intro q x h o ho
  unfold gG_play_h26 at h
  refine Ev.seg D_29 [(.iload_n 3, 1), (.aload_n 0, 1)] (by decide +kernel) (j := 0) (pc' := 28) (lv' := [(0, .ref 234), (1, .int v1), (2, .int v2), (3, .int q.1)]) (st' := [.ref 234, .int q.1]) rfl ?_
  refine Ev.getR D_29 (by decide +kernel) F_1_26 T_1_0 (x := 16) (S_oR k_234 (by decide +kernel)) ?_
  refine Ev.getR D_29 (by decide +kernel) F_1_44 T_2_13 (x := 21) (S_oR k_16 (by decide +kernel)) ?_
  refine Ev.seg D_29 [(.iload_n 1, 1)] (by decide +kernel) (j := 0) (pc' := 35) (lv' := [(0, .ref 234), (1, .int v1), (2, .int v2), (3, .int q.1)]) (st' := [.int v1, .ref 21, .int q.1]) rfl ?_
  obtain ⟨x3, e3, h⟩ := bd h
  refine Ev.iald D_29 (by decide +kernel) (S_aI k_21 e3) ?_
  refine Ev.icmp D_29 (c := .gt) (off := 112) (by decide +kernel) (t := 148) rfl (fun c4 => ?_) (fun c4 => ?_)
  · have c4 : x3 < q.1 := of_decide_eq_true c4
    rw [if_pos c4] at h
    cases h
    exact Ev.sub (lv' := []) subL_nil ho
  · have c4 : ¬ x3 < q.1 := of_decide_eq_false c4
    rw [if_neg c4] at h
    refine Ev.seg D_29 [(.aload_n 0, 1)] (by decide +kernel) (j := 0) (pc' := 40) (lv' := [(0, .ref 234), (1, .int v1), (2, .int v2), (3, .int q.1)]) (st' := [.ref 234]) rfl ?_
    refine Ev.getR D_29 (by decide +kernel) F_1_26 T_1_0 (x := 16) (S_oR k_234 (by decide +kernel)) ?_
    refine Ev.getR D_29 (by decide +kernel) F_1_38 T_2_12 (x := 20) (S_oR k_16 (by decide +kernel)) ?_
    refine Ev.seg D_29 [(.iload_n 2, 1)] (by decide +kernel) (j := 0) (pc' := 47) (lv' := [(0, .ref 234), (1, .int v1), (2, .int v2), (3, .int q.1)]) (st' := [.int v2, .ref 20]) rfl ?_
    obtain ⟨x7, e7, h⟩ := bd h
    refine Ev.iald D_29 (by decide +kernel) (S_aI k_20 e7) ?_
    refine Ev.seg D_29 [(.istore 4, 2)] (by decide +kernel) (j := 0) (pc' := 50) (lv' := [(4, .int x7), (0, .ref 234), (1, .int v1), (2, .int v2), (3, .int q.1)]) (st' := []) rfl ?_
    obtain ⟨x21, w21, h⟩ := bd h
    have j21 : Ev (d + 1) 29 142 [(0, .ref 234), (1, .int v1), (2, .int v2), (3, .int q.1)] [] (uS L x21) o := by
      clear w21
      refine Ev.seg D_29 [(.iinc 3 1, 3), (.goto (-119), 3)] (by decide +kernel) (j := 0) (pc' := 26) (lv' := [(3, .int (q.1 + (1 : Int32))), (0, .ref 234), (1, .int v1), (2, .int v2)]) (st' := []) rfl ?_
      cases h
      exact Ev.sub (lv' := [(0, .ref 234), (1, .int v1), (2, .int v2), (3, .int (q.1 + (1 : Int32)))]) (subL_cons rfl (subL_cons rfl (subL_cons rfl (subL_cons rfl subL_nil)))) ho
    exact Ev.sub (lv' := [(0, .ref 234), (1, .int v1), (2, .int v2), (3, .int q.1), (4, .int x7)]) (subL_cons rfl (subL_cons rfl (subL_cons rfl (subL_cons rfl (subL_cons rfl subL_nil))))) (gG_play_h50_w hd   _ _ _ w21 _ j21)
theorem gG_play_h26_w {L d : Nat} (hd : 6 ≤ d + 1) {v1 : Int32} {v2 : Int32} : ∀ (n : Nat) (q : Int32 × mT) (r : mT), wh n (gG_play_h26 v1 v2) q = some r → ∀ o, (fun r => Ev (d + 1) 29 148 [] [] (uS L r) o) r → Ev (d + 1) 29 26 [(0, .ref 234), (1, .int v1), (2, .int v2), (3, .int q.1)] [] (uS L q.2) o :=
  fun n q r h o hc => wh_ev (E := fun (q : Int32 × mT) o => Ev (d + 1) 29 26 [(0, .ref 234), (1, .int v1), (2, .int v2), (3, .int q.1)] [] (uS L q.2) o) (C := fun (r : mT) o => (fun r => Ev (d + 1) 29 148 [] [] (uS L r) o) r) (gG_play_h26_ok hd  ) n q r h o hc
def gG_play (v1 : Int32) (v2 : Int32) (s : mT) : Option (mT) :=
  (gG_fill v1 v2 s).bind fun p1 =>
  (rdI ((stI (stI p1 234 4 (0 : Int32)) 234 5 (-1 : Int32)).1 20) 5 v1).bind fun x6 =>
  (wh FU (gG_play_h26 v1 v2) (x6, (stI (stI p1 234 4 (0 : Int32)) 234 5 (-1 : Int32)))).bind fun x22 =>
  some (x22)
set_option maxRecDepth 8000 in
theorem gG_play_ok {L d : Nat} (hd : 6 ≤ d) {v1 : Int32} {v2 : Int32} {s : mT} {p : mT} (h : gG_play v1 v2 s = some p) : Ev d 29 0 [(0, .ref 234), (1, .int v1), (2, .int v2)] [] (uS L s) (none, uS L p) := by
  obtain ⟨d, rfl⟩ : ∃ e, d = e + 1 := ⟨d - 1, by omega⟩
  obtain ⟨o, ho⟩ : ∃ o : Option Value × mS, o = (none, uS L p) := ⟨_, rfl⟩
  rw [← ho]
  unfold gG_play at h
  refine Ev.seg D_29 [(.aload_n 0, 1), (.iload_n 1, 1), (.iload_n 2, 1)] (by decide +kernel) (j := 0) (pc' := 3) (lv' := [(0, .ref 234), (1, .int v1), (2, .int v2)]) (st' := [.int v2, .int v1, .ref 234]) rfl ?_
  obtain ⟨p1, e1, h⟩ := bd h
  refine Ev.callv D_29 E_30 (by decide +kernel) C_1_34 234 [.int v1, .int v2] (r := []) rfl (gd_o k_234 (by decide)) rfl (Nat.le_of_ble_eq_true rfl) (Nat.le_of_ble_eq_true rfl) (gG_fill_ok (by omega)  e1) ?_
  refine Ev.seg D_29 [(.aload_n 0, 1), (.iconst 0, 1)] (by decide +kernel) (j := 0) (pc' := 8) (lv' := [(0, .ref 234), (1, .int v1), (2, .int v2)]) (st' := [.int (0 : Int32), .ref 234]) rfl ?_
  refine Ev.putI D_29 (by decide +kernel) F_1_19 N_1_4 T_1_4 (S_pI k_234) ?_
  refine Ev.seg D_29 [(.aload_n 0, 1), (.iconst (-1), 1)] (by decide +kernel) (j := 0) (pc' := 13) (lv' := [(0, .ref 234), (1, .int v1), (2, .int v2)]) (st' := [.int (-1 : Int32), .ref 234]) rfl ?_
  refine Ev.putI D_29 (by decide +kernel) F_1_23 N_1_5 T_1_5 (S_pI k_234) ?_
  refine Ev.seg D_29 [(.aload_n 0, 1)] (by decide +kernel) (j := 0) (pc' := 17) (lv' := [(0, .ref 234), (1, .int v1), (2, .int v2)]) (st' := [.ref 234]) rfl ?_
  refine Ev.getR D_29 (by decide +kernel) F_1_26 T_1_0 (x := 16) (S_oR k_234 (by decide +kernel)) ?_
  refine Ev.getR D_29 (by decide +kernel) F_1_38 T_2_12 (x := 20) (S_oR k_16 (by decide +kernel)) ?_
  refine Ev.seg D_29 [(.iload_n 1, 1)] (by decide +kernel) (j := 0) (pc' := 24) (lv' := [(0, .ref 234), (1, .int v1), (2, .int v2)]) (st' := [.int v1, .ref 20]) rfl ?_
  obtain ⟨x6, e6, h⟩ := bd h
  refine Ev.iald D_29 (by decide +kernel) (S_aI k_20 e6) ?_
  refine Ev.seg D_29 [(.istore_n 3, 1)] (by decide +kernel) (j := 0) (pc' := 26) (lv' := [(3, .int x6), (0, .ref 234), (1, .int v1), (2, .int v2)]) (st' := []) rfl ?_
  obtain ⟨x22, w22, h⟩ := bd h
  have j22 : Ev (d + 1) 29 148 [] [] (uS L x22) o := by
    clear w22
    cases h
    obtain rfl : o = _ := ho
    exact Ev.vret D_29 (by decide +kernel)
  exact Ev.sub (lv' := [(0, .ref 234), (1, .int v1), (2, .int v2), (3, .int x6)]) (subL_cons rfl (subL_cons rfl (subL_cons rfl (subL_cons rfl subL_nil)))) (gG_play_h26_w hd   _ _ _ w22 _ j22)
/- Race wipe: 34 -/
def gR_wipe (v0 : Nat) (s : mT) : Option (mT) :=
  (some (stI (stI (stI s v0 0 (0 : Int32)) v0 1 (0 : Int32)) v0 2 (0 : Int32))).bind fun s3 =>
  (some (stI (stI (stI s3 v0 3 (0 : Int32)) v0 4 (0 : Int32)) v0 5 (0 : Int32))).bind fun s6 =>
  (some (stI (stI (stI s6 v0 6 (0 : Int32)) v0 7 (0 : Int32)) v0 8 (0 : Int32))).bind fun s9 =>
  some (s9)
set_option maxRecDepth 8000 in
theorem gR_wipe_ok {L d : Nat} (hd : 1 ≤ d) {v0 : Nat} {s : mT} (i0 : isRa v0) {p : mT} (h : gR_wipe v0 s = some p) : Ev d 34 0 [(0, .ref v0)] [] (uS L s) (none, uS L p) := by
  obtain ⟨d, rfl⟩ : ∃ e, d = e + 1 := ⟨d - 1, by omega⟩
  obtain ⟨o, ho⟩ : ∃ o : Option Value × mS, o = (none, uS L p) := ⟨_, rfl⟩
  rw [← ho]
  unfold gR_wipe at h
  refine Ev.seg D_34 [(.aload_n 0, 1), (.iconst 0, 1)] (by decide +kernel) (j := 0) (pc' := 2) (lv' := [(0, .ref v0)]) (st' := [.int (0 : Int32), .ref v0]) rfl ?_
  refine Ev.putI D_34 (by decide +kernel) F_2_9 N_2_0 T_2_0 (S_pI (ra_o i0)) ?_
  refine Ev.seg D_34 [(.aload_n 0, 1), (.iconst 0, 1)] (by decide +kernel) (j := 0) (pc' := 7) (lv' := [(0, .ref v0)]) (st' := [.int (0 : Int32), .ref v0]) rfl ?_
  refine Ev.putI D_34 (by decide +kernel) F_2_15 N_2_1 T_2_1 (S_pI (ra_o i0)) ?_
  refine Ev.seg D_34 [(.aload_n 0, 1), (.iconst 0, 1)] (by decide +kernel) (j := 0) (pc' := 12) (lv' := [(0, .ref v0)]) (st' := [.int (0 : Int32), .ref v0]) rfl ?_
  obtain ⟨s3, e3, h⟩ := bd h
  refine Ev.putI D_34 (by decide +kernel) F_2_18 N_2_2 T_2_2 (S_pIb (ra_o i0) e3) ?_
  refine Ev.seg D_34 [(.aload_n 0, 1), (.iconst 0, 1)] (by decide +kernel) (j := 0) (pc' := 17) (lv' := [(0, .ref v0)]) (st' := [.int (0 : Int32), .ref v0]) rfl ?_
  refine Ev.putI D_34 (by decide +kernel) F_2_21 N_2_3 T_2_3 (S_pI (ra_o i0)) ?_
  refine Ev.seg D_34 [(.aload_n 0, 1), (.iconst 0, 1)] (by decide +kernel) (j := 0) (pc' := 22) (lv' := [(0, .ref v0)]) (st' := [.int (0 : Int32), .ref v0]) rfl ?_
  refine Ev.putI D_34 (by decide +kernel) F_2_24 N_2_4 T_2_4 (S_pI (ra_o i0)) ?_
  refine Ev.seg D_34 [(.aload_n 0, 1), (.iconst 0, 1)] (by decide +kernel) (j := 0) (pc' := 27) (lv' := [(0, .ref v0)]) (st' := [.int (0 : Int32), .ref v0]) rfl ?_
  obtain ⟨s6, e6, h⟩ := bd h
  refine Ev.putI D_34 (by decide +kernel) F_2_27 N_2_5 T_2_5 (S_pIb (ra_o i0) e6) ?_
  refine Ev.seg D_34 [(.aload_n 0, 1), (.iconst 0, 1)] (by decide +kernel) (j := 0) (pc' := 32) (lv' := [(0, .ref v0)]) (st' := [.int (0 : Int32), .ref v0]) rfl ?_
  refine Ev.putI D_34 (by decide +kernel) F_2_30 N_2_6 T_2_6 (S_pI (ra_o i0)) ?_
  refine Ev.seg D_34 [(.aload_n 0, 1), (.iconst 0, 1)] (by decide +kernel) (j := 0) (pc' := 37) (lv' := [(0, .ref v0)]) (st' := [.int (0 : Int32), .ref v0]) rfl ?_
  refine Ev.putI D_34 (by decide +kernel) F_2_33 N_2_7 T_2_7 (S_pI (ra_o i0)) ?_
  refine Ev.seg D_34 [(.aload_n 0, 1), (.iconst 0, 1)] (by decide +kernel) (j := 0) (pc' := 42) (lv' := [(0, .ref v0)]) (st' := [.int (0 : Int32), .ref v0]) rfl ?_
  obtain ⟨s9, e9, h⟩ := bd h
  refine Ev.putI D_34 (by decide +kernel) F_2_36 N_2_8 T_2_8 (S_pIb (ra_o i0) e9) ?_
  cases h
  obtain rfl : o = _ := ho
  exact Ev.vret D_34 (by decide +kernel)
/- Race addBoat: 35 -/
def gR_addBoat (v0 : Nat) (v1 : Int32) (v2 : Int32) (s : mT) : Option (mT) :=
  (
    if (5 : Int32) ≤ (s.1 v0 5) then
      some (s)
    else
      (wrI s (v0 + 1) 5 (s.1 v0 5) v1).bind fun s5 =>
      (wrI s5 (v0 + 2) 5 (s5.1 v0 5) v2).bind fun s8 =>
      some ((stI s8 v0 5 ((s8.1 v0 5) + (1 : Int32)))) : Option (mT)).bind fun x2 =>
  some (x2)
set_option maxRecDepth 8000 in
theorem gR_addBoat_ok {L d : Nat} (hd : 1 ≤ d) {v0 : Nat} {v1 : Int32} {v2 : Int32} {s : mT} (i0 : isRa v0) {p : mT} (h : gR_addBoat v0 v1 v2 s = some p) : Ev d 35 0 [(0, .ref v0), (1, .int v1), (2, .int v2)] [] (uS L s) (none, uS L p) := by
  obtain ⟨d, rfl⟩ : ∃ e, d = e + 1 := ⟨d - 1, by omega⟩
  obtain ⟨o, ho⟩ : ∃ o : Option Value × mS, o = (none, uS L p) := ⟨_, rfl⟩
  rw [← ho]
  unfold gR_addBoat at h
  refine Ev.seg D_35 [(.aload_n 0, 1)] (by decide +kernel) (j := 0) (pc' := 1) (lv' := [(0, .ref v0), (1, .int v1), (2, .int v2)]) (st' := [.ref v0]) rfl ?_
  refine Ev.getI D_35 (by decide +kernel) F_2_27 (Or.inl T_2_5) (S_oI (ra_o i0)) ?_
  refine Ev.seg D_35 [(.iconst 5, 1)] (by decide +kernel) (j := 0) (pc' := 5) (lv' := [(0, .ref v0), (1, .int v1), (2, .int v2)]) (st' := [.int (5 : Int32), .int (s.1 v0 5)]) rfl ?_
  obtain ⟨x2, g2, h⟩ := bd h
  have j2 : Ev (d + 1) 35 38 [] [] (uS L x2) o := by
    clear g2
    cases h
    obtain rfl : o = _ := ho
    exact Ev.vret D_35 (by decide +kernel)
  clear h
  refine Ev.icmp D_35 (c := .ge) (off := 33) (by decide +kernel) (t := 38) rfl (fun c2 => ?_) (fun c2 => ?_)
  · have c2 : (5 : Int32) ≤ (s.1 v0 5) := of_decide_eq_true c2
    rw [if_pos c2] at g2
    cases g2
    exact Ev.sub2 j2 subL_nil
  · have c2 : ¬ (5 : Int32) ≤ (s.1 v0 5) := of_decide_eq_false c2
    rw [if_neg c2] at g2
    refine Ev.seg D_35 [(.aload_n 0, 1)] (by decide +kernel) (j := 0) (pc' := 9) (lv' := [(0, .ref v0), (1, .int v1), (2, .int v2)]) (st' := [.ref v0]) rfl ?_
    refine Ev.getR D_35 (by decide +kernel) F_2_39 T_2_9 (x := (v0 + 1)) (S_oR (ra_o i0) (ra_r2 i0 9 1 (by decide +kernel))) ?_
    refine Ev.seg D_35 [(.aload_n 0, 1)] (by decide +kernel) (j := 0) (pc' := 13) (lv' := [(0, .ref v0), (1, .int v1), (2, .int v2)]) (st' := [.ref v0, .ref (v0 + 1)]) rfl ?_
    refine Ev.getI D_35 (by decide +kernel) F_2_27 (Or.inl T_2_5) (S_oI (ra_o i0)) ?_
    refine Ev.seg D_35 [(.iload_n 1, 1)] (by decide +kernel) (j := 0) (pc' := 17) (lv' := [(0, .ref v0), (1, .int v1), (2, .int v2)]) (st' := [.int v1, .int (s.1 v0 5), .ref (v0 + 1)]) rfl ?_
    obtain ⟨s5, e5, g2⟩ := bd g2
    refine Ev.iast D_35 (by decide +kernel) (S_sI (ra_k i0 1 _ (by decide +kernel)) e5) ?_
    refine Ev.seg D_35 [(.aload_n 0, 1)] (by decide +kernel) (j := 0) (pc' := 19) (lv' := [(0, .ref v0), (1, .int v1), (2, .int v2)]) (st' := [.ref v0]) rfl ?_
    refine Ev.getR D_35 (by decide +kernel) F_2_43 T_2_10 (x := (v0 + 2)) (S_oR (ra_o i0) (ra_r2 i0 10 2 (by decide +kernel))) ?_
    refine Ev.seg D_35 [(.aload_n 0, 1)] (by decide +kernel) (j := 0) (pc' := 23) (lv' := [(0, .ref v0), (1, .int v1), (2, .int v2)]) (st' := [.ref v0, .ref (v0 + 2)]) rfl ?_
    refine Ev.getI D_35 (by decide +kernel) F_2_27 (Or.inl T_2_5) (S_oI (ra_o i0)) ?_
    refine Ev.seg D_35 [(.iload_n 2, 1)] (by decide +kernel) (j := 0) (pc' := 27) (lv' := [(0, .ref v0), (1, .int v1), (2, .int v2)]) (st' := [.int v2, .int (s5.1 v0 5), .ref (v0 + 2)]) rfl ?_
    obtain ⟨s8, e8, g2⟩ := bd g2
    refine Ev.iast D_35 (by decide +kernel) (S_sI (ra_k i0 2 _ (by decide +kernel)) e8) ?_
    refine Ev.seg D_35 [(.aload_n 0, 1), (.dup, 1)] (by decide +kernel) (j := 0) (pc' := 30) (lv' := [(0, .ref v0), (1, .int v1), (2, .int v2)]) (st' := [.ref v0, .ref v0]) rfl ?_
    refine Ev.getI D_35 (by decide +kernel) F_2_27 (Or.inl T_2_5) (S_oI (ra_o i0)) ?_
    refine Ev.seg D_35 [(.iconst 1, 1), (.iadd, 1)] (by decide +kernel) (j := 0) (pc' := 35) (lv' := [(0, .ref v0), (1, .int v1), (2, .int v2)]) (st' := [.int ((s8.1 v0 5) + (1 : Int32)), .ref v0]) rfl ?_
    refine Ev.putI D_35 (by decide +kernel) F_2_27 N_2_5 T_2_5 (S_pI (ra_o i0)) ?_
    cases g2
    exact Ev.sub2 j2 subL_nil
/- Race addWatcher: 36 -/
def gR_addWatcher (v0 : Nat) (v1 : Int32) (v2 : Int32) (v3 : Int32) (v4 : Int32) (s : mT) : Option (mT) :=
  (
    if (5 : Int32) ≤ (s.1 v0 6) then
      some (s)
    else
      (wrI s (v0 + 3) 5 (s.1 v0 6) v1).bind fun s5 =>
      (wrI s5 (v0 + 4) 5 (s5.1 v0 6) v2).bind fun s8 =>
      (wrI s8 (v0 + 5) 5 (s8.1 v0 6) v3).bind fun s11 =>
      (wrI s11 (v0 + 6) 5 (s11.1 v0 6) v4).bind fun s14 =>
      some ((stI s14 v0 6 ((s14.1 v0 6) + (1 : Int32)))) : Option (mT)).bind fun x2 =>
  some (x2)
set_option maxRecDepth 8000 in
theorem gR_addWatcher_ok {L d : Nat} (hd : 1 ≤ d) {v0 : Nat} {v1 : Int32} {v2 : Int32} {v3 : Int32} {v4 : Int32} {s : mT} (i0 : isRa v0) {p : mT} (h : gR_addWatcher v0 v1 v2 v3 v4 s = some p) : Ev d 36 0 [(0, .ref v0), (1, .int v1), (2, .int v2), (3, .int v3), (4, .int v4)] [] (uS L s) (none, uS L p) := by
  obtain ⟨d, rfl⟩ : ∃ e, d = e + 1 := ⟨d - 1, by omega⟩
  obtain ⟨o, ho⟩ : ∃ o : Option Value × mS, o = (none, uS L p) := ⟨_, rfl⟩
  rw [← ho]
  unfold gR_addWatcher at h
  refine Ev.seg D_36 [(.aload_n 0, 1)] (by decide +kernel) (j := 0) (pc' := 1) (lv' := [(0, .ref v0), (1, .int v1), (2, .int v2), (3, .int v3), (4, .int v4)]) (st' := [.ref v0]) rfl ?_
  refine Ev.getI D_36 (by decide +kernel) F_2_30 (Or.inl T_2_6) (S_oI (ra_o i0)) ?_
  refine Ev.seg D_36 [(.iconst 5, 1)] (by decide +kernel) (j := 0) (pc' := 5) (lv' := [(0, .ref v0), (1, .int v1), (2, .int v2), (3, .int v3), (4, .int v4)]) (st' := [.int (5 : Int32), .int (s.1 v0 6)]) rfl ?_
  obtain ⟨x2, g2, h⟩ := bd h
  have j2 : Ev (d + 1) 36 59 [] [] (uS L x2) o := by
    clear g2
    cases h
    obtain rfl : o = _ := ho
    exact Ev.vret D_36 (by decide +kernel)
  clear h
  refine Ev.icmp D_36 (c := .ge) (off := 54) (by decide +kernel) (t := 59) rfl (fun c2 => ?_) (fun c2 => ?_)
  · have c2 : (5 : Int32) ≤ (s.1 v0 6) := of_decide_eq_true c2
    rw [if_pos c2] at g2
    cases g2
    exact Ev.sub2 j2 subL_nil
  · have c2 : ¬ (5 : Int32) ≤ (s.1 v0 6) := of_decide_eq_false c2
    rw [if_neg c2] at g2
    refine Ev.seg D_36 [(.aload_n 0, 1)] (by decide +kernel) (j := 0) (pc' := 9) (lv' := [(0, .ref v0), (1, .int v1), (2, .int v2), (3, .int v3), (4, .int v4)]) (st' := [.ref v0]) rfl ?_
    refine Ev.getR D_36 (by decide +kernel) F_2_46 T_2_11 (x := (v0 + 3)) (S_oR (ra_o i0) (ra_r2 i0 11 3 (by decide +kernel))) ?_
    refine Ev.seg D_36 [(.aload_n 0, 1)] (by decide +kernel) (j := 0) (pc' := 13) (lv' := [(0, .ref v0), (1, .int v1), (2, .int v2), (3, .int v3), (4, .int v4)]) (st' := [.ref v0, .ref (v0 + 3)]) rfl ?_
    refine Ev.getI D_36 (by decide +kernel) F_2_30 (Or.inl T_2_6) (S_oI (ra_o i0)) ?_
    refine Ev.seg D_36 [(.iload_n 1, 1)] (by decide +kernel) (j := 0) (pc' := 17) (lv' := [(0, .ref v0), (1, .int v1), (2, .int v2), (3, .int v3), (4, .int v4)]) (st' := [.int v1, .int (s.1 v0 6), .ref (v0 + 3)]) rfl ?_
    obtain ⟨s5, e5, g2⟩ := bd g2
    refine Ev.iast D_36 (by decide +kernel) (S_sI (ra_k i0 3 _ (by decide +kernel)) e5) ?_
    refine Ev.seg D_36 [(.aload_n 0, 1)] (by decide +kernel) (j := 0) (pc' := 19) (lv' := [(0, .ref v0), (1, .int v1), (2, .int v2), (3, .int v3), (4, .int v4)]) (st' := [.ref v0]) rfl ?_
    refine Ev.getR D_36 (by decide +kernel) F_2_49 T_2_12 (x := (v0 + 4)) (S_oR (ra_o i0) (ra_r2 i0 12 4 (by decide +kernel))) ?_
    refine Ev.seg D_36 [(.aload_n 0, 1)] (by decide +kernel) (j := 0) (pc' := 23) (lv' := [(0, .ref v0), (1, .int v1), (2, .int v2), (3, .int v3), (4, .int v4)]) (st' := [.ref v0, .ref (v0 + 4)]) rfl ?_
    refine Ev.getI D_36 (by decide +kernel) F_2_30 (Or.inl T_2_6) (S_oI (ra_o i0)) ?_
    refine Ev.seg D_36 [(.iload_n 2, 1)] (by decide +kernel) (j := 0) (pc' := 27) (lv' := [(0, .ref v0), (1, .int v1), (2, .int v2), (3, .int v3), (4, .int v4)]) (st' := [.int v2, .int (s5.1 v0 6), .ref (v0 + 4)]) rfl ?_
    obtain ⟨s8, e8, g2⟩ := bd g2
    refine Ev.iast D_36 (by decide +kernel) (S_sI (ra_k i0 4 _ (by decide +kernel)) e8) ?_
    refine Ev.seg D_36 [(.aload_n 0, 1)] (by decide +kernel) (j := 0) (pc' := 29) (lv' := [(0, .ref v0), (1, .int v1), (2, .int v2), (3, .int v3), (4, .int v4)]) (st' := [.ref v0]) rfl ?_
    refine Ev.getR D_36 (by decide +kernel) F_2_52 T_2_13 (x := (v0 + 5)) (S_oR (ra_o i0) (ra_r2 i0 13 5 (by decide +kernel))) ?_
    refine Ev.seg D_36 [(.aload_n 0, 1)] (by decide +kernel) (j := 0) (pc' := 33) (lv' := [(0, .ref v0), (1, .int v1), (2, .int v2), (3, .int v3), (4, .int v4)]) (st' := [.ref v0, .ref (v0 + 5)]) rfl ?_
    refine Ev.getI D_36 (by decide +kernel) F_2_30 (Or.inl T_2_6) (S_oI (ra_o i0)) ?_
    refine Ev.seg D_36 [(.iload_n 3, 1)] (by decide +kernel) (j := 0) (pc' := 37) (lv' := [(0, .ref v0), (1, .int v1), (2, .int v2), (3, .int v3), (4, .int v4)]) (st' := [.int v3, .int (s8.1 v0 6), .ref (v0 + 5)]) rfl ?_
    obtain ⟨s11, e11, g2⟩ := bd g2
    refine Ev.iast D_36 (by decide +kernel) (S_sI (ra_k i0 5 _ (by decide +kernel)) e11) ?_
    refine Ev.seg D_36 [(.aload_n 0, 1)] (by decide +kernel) (j := 0) (pc' := 39) (lv' := [(0, .ref v0), (1, .int v1), (2, .int v2), (3, .int v3), (4, .int v4)]) (st' := [.ref v0]) rfl ?_
    refine Ev.getR D_36 (by decide +kernel) F_2_55 T_2_14 (x := (v0 + 6)) (S_oR (ra_o i0) (ra_r2 i0 14 6 (by decide +kernel))) ?_
    refine Ev.seg D_36 [(.aload_n 0, 1)] (by decide +kernel) (j := 0) (pc' := 43) (lv' := [(0, .ref v0), (1, .int v1), (2, .int v2), (3, .int v3), (4, .int v4)]) (st' := [.ref v0, .ref (v0 + 6)]) rfl ?_
    refine Ev.getI D_36 (by decide +kernel) F_2_30 (Or.inl T_2_6) (S_oI (ra_o i0)) ?_
    refine Ev.seg D_36 [(.iload 4, 2)] (by decide +kernel) (j := 0) (pc' := 48) (lv' := [(0, .ref v0), (1, .int v1), (2, .int v2), (3, .int v3), (4, .int v4)]) (st' := [.int v4, .int (s11.1 v0 6), .ref (v0 + 6)]) rfl ?_
    obtain ⟨s14, e14, g2⟩ := bd g2
    refine Ev.iast D_36 (by decide +kernel) (S_sI (ra_k i0 6 _ (by decide +kernel)) e14) ?_
    refine Ev.seg D_36 [(.aload_n 0, 1), (.dup, 1)] (by decide +kernel) (j := 0) (pc' := 51) (lv' := [(0, .ref v0), (1, .int v1), (2, .int v2), (3, .int v3), (4, .int v4)]) (st' := [.ref v0, .ref v0]) rfl ?_
    refine Ev.getI D_36 (by decide +kernel) F_2_30 (Or.inl T_2_6) (S_oI (ra_o i0)) ?_
    refine Ev.seg D_36 [(.iconst 1, 1), (.iadd, 1)] (by decide +kernel) (j := 0) (pc' := 56) (lv' := [(0, .ref v0), (1, .int v1), (2, .int v2), (3, .int v3), (4, .int v4)]) (st' := [.int ((s14.1 v0 6) + (1 : Int32)), .ref v0]) rfl ?_
    refine Ev.putI D_36 (by decide +kernel) F_2_30 N_2_6 T_2_6 (S_pI (ra_o i0)) ?_
    cases g2
    exact Ev.sub2 j2 subL_nil
/- Race addShow: 37 -/
def gR_addShow (v0 : Nat) (v1 : Int32) (v2 : Int32) (s : mT) : Option (mT) :=
  (
    if (5 : Int32) ≤ (s.1 v0 7) then
      some (s)
    else
      (wrI s (v0 + 7) 5 (s.1 v0 7) v1).bind fun s5 =>
      (wrI s5 (v0 + 8) 5 (s5.1 v0 7) v2).bind fun s8 =>
      some ((stI s8 v0 7 ((s8.1 v0 7) + (1 : Int32)))) : Option (mT)).bind fun x2 =>
  some (x2)
set_option maxRecDepth 8000 in
theorem gR_addShow_ok {L d : Nat} (hd : 1 ≤ d) {v0 : Nat} {v1 : Int32} {v2 : Int32} {s : mT} (i0 : isRa v0) {p : mT} (h : gR_addShow v0 v1 v2 s = some p) : Ev d 37 0 [(0, .ref v0), (1, .int v1), (2, .int v2)] [] (uS L s) (none, uS L p) := by
  obtain ⟨d, rfl⟩ : ∃ e, d = e + 1 := ⟨d - 1, by omega⟩
  obtain ⟨o, ho⟩ : ∃ o : Option Value × mS, o = (none, uS L p) := ⟨_, rfl⟩
  rw [← ho]
  unfold gR_addShow at h
  refine Ev.seg D_37 [(.aload_n 0, 1)] (by decide +kernel) (j := 0) (pc' := 1) (lv' := [(0, .ref v0), (1, .int v1), (2, .int v2)]) (st' := [.ref v0]) rfl ?_
  refine Ev.getI D_37 (by decide +kernel) F_2_33 (Or.inl T_2_7) (S_oI (ra_o i0)) ?_
  refine Ev.seg D_37 [(.iconst 5, 1)] (by decide +kernel) (j := 0) (pc' := 5) (lv' := [(0, .ref v0), (1, .int v1), (2, .int v2)]) (st' := [.int (5 : Int32), .int (s.1 v0 7)]) rfl ?_
  obtain ⟨x2, g2, h⟩ := bd h
  have j2 : Ev (d + 1) 37 38 [] [] (uS L x2) o := by
    clear g2
    cases h
    obtain rfl : o = _ := ho
    exact Ev.vret D_37 (by decide +kernel)
  clear h
  refine Ev.icmp D_37 (c := .ge) (off := 33) (by decide +kernel) (t := 38) rfl (fun c2 => ?_) (fun c2 => ?_)
  · have c2 : (5 : Int32) ≤ (s.1 v0 7) := of_decide_eq_true c2
    rw [if_pos c2] at g2
    cases g2
    exact Ev.sub2 j2 subL_nil
  · have c2 : ¬ (5 : Int32) ≤ (s.1 v0 7) := of_decide_eq_false c2
    rw [if_neg c2] at g2
    refine Ev.seg D_37 [(.aload_n 0, 1)] (by decide +kernel) (j := 0) (pc' := 9) (lv' := [(0, .ref v0), (1, .int v1), (2, .int v2)]) (st' := [.ref v0]) rfl ?_
    refine Ev.getR D_37 (by decide +kernel) F_2_58 T_2_15 (x := (v0 + 7)) (S_oR (ra_o i0) (ra_r2 i0 15 7 (by decide +kernel))) ?_
    refine Ev.seg D_37 [(.aload_n 0, 1)] (by decide +kernel) (j := 0) (pc' := 13) (lv' := [(0, .ref v0), (1, .int v1), (2, .int v2)]) (st' := [.ref v0, .ref (v0 + 7)]) rfl ?_
    refine Ev.getI D_37 (by decide +kernel) F_2_33 (Or.inl T_2_7) (S_oI (ra_o i0)) ?_
    refine Ev.seg D_37 [(.iload_n 1, 1)] (by decide +kernel) (j := 0) (pc' := 17) (lv' := [(0, .ref v0), (1, .int v1), (2, .int v2)]) (st' := [.int v1, .int (s.1 v0 7), .ref (v0 + 7)]) rfl ?_
    obtain ⟨s5, e5, g2⟩ := bd g2
    refine Ev.iast D_37 (by decide +kernel) (S_sI (ra_k i0 7 _ (by decide +kernel)) e5) ?_
    refine Ev.seg D_37 [(.aload_n 0, 1)] (by decide +kernel) (j := 0) (pc' := 19) (lv' := [(0, .ref v0), (1, .int v1), (2, .int v2)]) (st' := [.ref v0]) rfl ?_
    refine Ev.getR D_37 (by decide +kernel) F_2_61 T_2_16 (x := (v0 + 8)) (S_oR (ra_o i0) (ra_r2 i0 16 8 (by decide +kernel))) ?_
    refine Ev.seg D_37 [(.aload_n 0, 1)] (by decide +kernel) (j := 0) (pc' := 23) (lv' := [(0, .ref v0), (1, .int v1), (2, .int v2)]) (st' := [.ref v0, .ref (v0 + 8)]) rfl ?_
    refine Ev.getI D_37 (by decide +kernel) F_2_33 (Or.inl T_2_7) (S_oI (ra_o i0)) ?_
    refine Ev.seg D_37 [(.iload_n 2, 1)] (by decide +kernel) (j := 0) (pc' := 27) (lv' := [(0, .ref v0), (1, .int v1), (2, .int v2)]) (st' := [.int v2, .int (s5.1 v0 7), .ref (v0 + 8)]) rfl ?_
    obtain ⟨s8, e8, g2⟩ := bd g2
    refine Ev.iast D_37 (by decide +kernel) (S_sI (ra_k i0 8 _ (by decide +kernel)) e8) ?_
    refine Ev.seg D_37 [(.aload_n 0, 1), (.dup, 1)] (by decide +kernel) (j := 0) (pc' := 30) (lv' := [(0, .ref v0), (1, .int v1), (2, .int v2)]) (st' := [.ref v0, .ref v0]) rfl ?_
    refine Ev.getI D_37 (by decide +kernel) F_2_33 (Or.inl T_2_7) (S_oI (ra_o i0)) ?_
    refine Ev.seg D_37 [(.iconst 1, 1), (.iadd, 1)] (by decide +kernel) (j := 0) (pc' := 35) (lv' := [(0, .ref v0), (1, .int v1), (2, .int v2)]) (st' := [.int ((s8.1 v0 7) + (1 : Int32)), .ref v0]) rfl ?_
    refine Ev.putI D_37 (by decide +kernel) F_2_33 N_2_7 T_2_7 (S_pI (ra_o i0)) ?_
    cases g2
    exact Ev.sub2 j2 subL_nil
/- Race copyFrom: 38 -/
def gR_copyFrom (v0 : Nat) (v1 : Nat) (s : mT) : Option (mT) :=
  (some (stI (stI (stI s v0 0 (s.1 v1 0)) v0 1 ((stI s v0 0 (s.1 v1 0)).1 v1 1)) v0 2 ((stI (stI s v0 0 (s.1 v1 0)) v0 1 ((stI s v0 0 (s.1 v1 0)).1 v1 1)).1 v1 2))).bind fun s6 =>
  (some (stI (stI (stI s6 v0 3 (s6.1 v1 3)) v0 4 ((stI s6 v0 3 (s6.1 v1 3)).1 v1 4)) v0 5 ((stI (stI s6 v0 3 (s6.1 v1 3)) v0 4 ((stI s6 v0 3 (s6.1 v1 3)).1 v1 4)).1 v1 5))).bind fun s12 =>
  (some (stI (stI (stI s12 v0 6 (s12.1 v1 6)) v0 7 ((stI s12 v0 6 (s12.1 v1 6)).1 v1 7)) v0 8 ((stI (stI s12 v0 6 (s12.1 v1 6)) v0 7 ((stI s12 v0 6 (s12.1 v1 6)).1 v1 7)).1 v1 8))).bind fun s18 =>
  (cpI s18 (v1 + 1) 5 (0 : Int32) (v0 + 1) 5 (0 : Int32) (5 : Int32)).bind fun s21 =>
  (cpI s21 (v1 + 2) 5 (0 : Int32) (v0 + 2) 5 (0 : Int32) (5 : Int32)).bind fun s24 =>
  (cpI s24 (v1 + 3) 5 (0 : Int32) (v0 + 3) 5 (0 : Int32) (5 : Int32)).bind fun s27 =>
  (cpI s27 (v1 + 4) 5 (0 : Int32) (v0 + 4) 5 (0 : Int32) (5 : Int32)).bind fun s30 =>
  (cpI s30 (v1 + 5) 5 (0 : Int32) (v0 + 5) 5 (0 : Int32) (5 : Int32)).bind fun s33 =>
  (cpI s33 (v1 + 6) 5 (0 : Int32) (v0 + 6) 5 (0 : Int32) (5 : Int32)).bind fun s36 =>
  (cpI s36 (v1 + 7) 5 (0 : Int32) (v0 + 7) 5 (0 : Int32) (5 : Int32)).bind fun s39 =>
  (cpI s39 (v1 + 8) 5 (0 : Int32) (v0 + 8) 5 (0 : Int32) (5 : Int32)).bind fun s42 =>
  (cpI s42 (v1 + 9) 30 (0 : Int32) (v0 + 9) 30 (0 : Int32) (30 : Int32)).bind fun s45 =>
  (cpI s45 (v1 + 10) 30 (0 : Int32) (v0 + 10) 30 (0 : Int32) (30 : Int32)).bind fun s48 =>
  (cpI s48 (v1 + 11) 30 (0 : Int32) (v0 + 11) 30 (0 : Int32) (30 : Int32)).bind fun s51 =>
  some (s51)
set_option maxRecDepth 8000 in
theorem gR_copyFrom_ok {L d : Nat} (hd : 1 ≤ d) {v0 : Nat} {v1 : Nat} {s : mT} (i0 : isRa v0) (i1 : isRa v1) {p : mT} (h : gR_copyFrom v0 v1 s = some p) : Ev d 38 0 [(0, .ref v0), (1, .ref v1)] [] (uS L s) (none, uS L p) := by
  obtain ⟨d, rfl⟩ : ∃ e, d = e + 1 := ⟨d - 1, by omega⟩
  obtain ⟨o, ho⟩ : ∃ o : Option Value × mS, o = (none, uS L p) := ⟨_, rfl⟩
  rw [← ho]
  unfold gR_copyFrom at h
  refine Ev.seg D_38 [(.aload_n 0, 1), (.aload_n 1, 1)] (by decide +kernel) (j := 0) (pc' := 2) (lv' := [(0, .ref v0), (1, .ref v1)]) (st' := [.ref v1, .ref v0]) rfl ?_
  refine Ev.getI D_38 (by decide +kernel) F_2_9 (Or.inl T_2_0) (S_oI (ra_o i1)) ?_
  refine Ev.putI D_38 (by decide +kernel) F_2_9 N_2_0 T_2_0 (S_pI (ra_o i0)) ?_
  refine Ev.seg D_38 [(.aload_n 0, 1), (.aload_n 1, 1)] (by decide +kernel) (j := 0) (pc' := 10) (lv' := [(0, .ref v0), (1, .ref v1)]) (st' := [.ref v1, .ref v0]) rfl ?_
  refine Ev.getI D_38 (by decide +kernel) F_2_15 (Or.inl T_2_1) (S_oI (ra_o i1)) ?_
  refine Ev.putI D_38 (by decide +kernel) F_2_15 N_2_1 T_2_1 (S_pI (ra_o i0)) ?_
  refine Ev.seg D_38 [(.aload_n 0, 1), (.aload_n 1, 1)] (by decide +kernel) (j := 0) (pc' := 18) (lv' := [(0, .ref v0), (1, .ref v1)]) (st' := [.ref v1, .ref v0]) rfl ?_
  refine Ev.getI D_38 (by decide +kernel) F_2_18 (Or.inl T_2_2) (S_oI (ra_o i1)) ?_
  obtain ⟨s6, e6, h⟩ := bd h
  refine Ev.putI D_38 (by decide +kernel) F_2_18 N_2_2 T_2_2 (S_pIb (ra_o i0) e6) ?_
  refine Ev.seg D_38 [(.aload_n 0, 1), (.aload_n 1, 1)] (by decide +kernel) (j := 0) (pc' := 26) (lv' := [(0, .ref v0), (1, .ref v1)]) (st' := [.ref v1, .ref v0]) rfl ?_
  refine Ev.getI D_38 (by decide +kernel) F_2_21 (Or.inl T_2_3) (S_oI (ra_o i1)) ?_
  refine Ev.putI D_38 (by decide +kernel) F_2_21 N_2_3 T_2_3 (S_pI (ra_o i0)) ?_
  refine Ev.seg D_38 [(.aload_n 0, 1), (.aload_n 1, 1)] (by decide +kernel) (j := 0) (pc' := 34) (lv' := [(0, .ref v0), (1, .ref v1)]) (st' := [.ref v1, .ref v0]) rfl ?_
  refine Ev.getI D_38 (by decide +kernel) F_2_24 (Or.inl T_2_4) (S_oI (ra_o i1)) ?_
  refine Ev.putI D_38 (by decide +kernel) F_2_24 N_2_4 T_2_4 (S_pI (ra_o i0)) ?_
  refine Ev.seg D_38 [(.aload_n 0, 1), (.aload_n 1, 1)] (by decide +kernel) (j := 0) (pc' := 42) (lv' := [(0, .ref v0), (1, .ref v1)]) (st' := [.ref v1, .ref v0]) rfl ?_
  refine Ev.getI D_38 (by decide +kernel) F_2_27 (Or.inl T_2_5) (S_oI (ra_o i1)) ?_
  obtain ⟨s12, e12, h⟩ := bd h
  refine Ev.putI D_38 (by decide +kernel) F_2_27 N_2_5 T_2_5 (S_pIb (ra_o i0) e12) ?_
  refine Ev.seg D_38 [(.aload_n 0, 1), (.aload_n 1, 1)] (by decide +kernel) (j := 0) (pc' := 50) (lv' := [(0, .ref v0), (1, .ref v1)]) (st' := [.ref v1, .ref v0]) rfl ?_
  refine Ev.getI D_38 (by decide +kernel) F_2_30 (Or.inl T_2_6) (S_oI (ra_o i1)) ?_
  refine Ev.putI D_38 (by decide +kernel) F_2_30 N_2_6 T_2_6 (S_pI (ra_o i0)) ?_
  refine Ev.seg D_38 [(.aload_n 0, 1), (.aload_n 1, 1)] (by decide +kernel) (j := 0) (pc' := 58) (lv' := [(0, .ref v0), (1, .ref v1)]) (st' := [.ref v1, .ref v0]) rfl ?_
  refine Ev.getI D_38 (by decide +kernel) F_2_33 (Or.inl T_2_7) (S_oI (ra_o i1)) ?_
  refine Ev.putI D_38 (by decide +kernel) F_2_33 N_2_7 T_2_7 (S_pI (ra_o i0)) ?_
  refine Ev.seg D_38 [(.aload_n 0, 1), (.aload_n 1, 1)] (by decide +kernel) (j := 0) (pc' := 66) (lv' := [(0, .ref v0), (1, .ref v1)]) (st' := [.ref v1, .ref v0]) rfl ?_
  refine Ev.getI D_38 (by decide +kernel) F_2_36 (Or.inl T_2_8) (S_oI (ra_o i1)) ?_
  obtain ⟨s18, e18, h⟩ := bd h
  refine Ev.putI D_38 (by decide +kernel) F_2_36 N_2_8 T_2_8 (S_pIb (ra_o i0) e18) ?_
  refine Ev.seg D_38 [(.aload_n 1, 1)] (by decide +kernel) (j := 0) (pc' := 73) (lv' := [(0, .ref v0), (1, .ref v1)]) (st' := [.ref v1]) rfl ?_
  refine Ev.getR D_38 (by decide +kernel) F_2_39 T_2_9 (x := (v1 + 1)) (S_oR (ra_o i1) (ra_r2 i1 9 1 (by decide +kernel))) ?_
  refine Ev.seg D_38 [(.iconst 0, 1), (.aload_n 0, 1)] (by decide +kernel) (j := 0) (pc' := 78) (lv' := [(0, .ref v0), (1, .ref v1)]) (st' := [.ref v0, .int (0 : Int32), .ref (v1 + 1)]) rfl ?_
  refine Ev.getR D_38 (by decide +kernel) F_2_39 T_2_9 (x := (v0 + 1)) (S_oR (ra_o i0) (ra_r2 i0 9 1 (by decide +kernel))) ?_
  refine Ev.seg D_38 [(.iconst 0, 1), (.iconst 5, 1)] (by decide +kernel) (j := 0) (pc' := 83) (lv' := [(0, .ref v0), (1, .ref v1)]) (st' := [.int (5 : Int32), .int (0 : Int32), .ref (v0 + 1), .int (0 : Int32), .ref (v1 + 1)]) rfl ?_
  obtain ⟨s21, e21, h⟩ := bd h
  refine Ev.cpI D_38 (by decide +kernel) (Nat.succ_pos _) C_2_73 (Nat.le_of_ble_eq_true rfl) (S_cpI (ra_k i1 1 _ (by decide +kernel)) (ra_k i0 1 _ (by decide +kernel)) e21) ?_
  refine Ev.seg D_38 [(.aload_n 1, 1)] (by decide +kernel) (j := 0) (pc' := 87) (lv' := [(0, .ref v0), (1, .ref v1)]) (st' := [.ref v1]) rfl ?_
  refine Ev.getR D_38 (by decide +kernel) F_2_43 T_2_10 (x := (v1 + 2)) (S_oR (ra_o i1) (ra_r2 i1 10 2 (by decide +kernel))) ?_
  refine Ev.seg D_38 [(.iconst 0, 1), (.aload_n 0, 1)] (by decide +kernel) (j := 0) (pc' := 92) (lv' := [(0, .ref v0), (1, .ref v1)]) (st' := [.ref v0, .int (0 : Int32), .ref (v1 + 2)]) rfl ?_
  refine Ev.getR D_38 (by decide +kernel) F_2_43 T_2_10 (x := (v0 + 2)) (S_oR (ra_o i0) (ra_r2 i0 10 2 (by decide +kernel))) ?_
  refine Ev.seg D_38 [(.iconst 0, 1), (.iconst 5, 1)] (by decide +kernel) (j := 0) (pc' := 97) (lv' := [(0, .ref v0), (1, .ref v1)]) (st' := [.int (5 : Int32), .int (0 : Int32), .ref (v0 + 2), .int (0 : Int32), .ref (v1 + 2)]) rfl ?_
  obtain ⟨s24, e24, h⟩ := bd h
  refine Ev.cpI D_38 (by decide +kernel) (Nat.succ_pos _) C_2_73 (Nat.le_of_ble_eq_true rfl) (S_cpI (ra_k i1 2 _ (by decide +kernel)) (ra_k i0 2 _ (by decide +kernel)) e24) ?_
  refine Ev.seg D_38 [(.aload_n 1, 1)] (by decide +kernel) (j := 0) (pc' := 101) (lv' := [(0, .ref v0), (1, .ref v1)]) (st' := [.ref v1]) rfl ?_
  refine Ev.getR D_38 (by decide +kernel) F_2_46 T_2_11 (x := (v1 + 3)) (S_oR (ra_o i1) (ra_r2 i1 11 3 (by decide +kernel))) ?_
  refine Ev.seg D_38 [(.iconst 0, 1), (.aload_n 0, 1)] (by decide +kernel) (j := 0) (pc' := 106) (lv' := [(0, .ref v0), (1, .ref v1)]) (st' := [.ref v0, .int (0 : Int32), .ref (v1 + 3)]) rfl ?_
  refine Ev.getR D_38 (by decide +kernel) F_2_46 T_2_11 (x := (v0 + 3)) (S_oR (ra_o i0) (ra_r2 i0 11 3 (by decide +kernel))) ?_
  refine Ev.seg D_38 [(.iconst 0, 1), (.iconst 5, 1)] (by decide +kernel) (j := 0) (pc' := 111) (lv' := [(0, .ref v0), (1, .ref v1)]) (st' := [.int (5 : Int32), .int (0 : Int32), .ref (v0 + 3), .int (0 : Int32), .ref (v1 + 3)]) rfl ?_
  obtain ⟨s27, e27, h⟩ := bd h
  refine Ev.cpI D_38 (by decide +kernel) (Nat.succ_pos _) C_2_73 (Nat.le_of_ble_eq_true rfl) (S_cpI (ra_k i1 3 _ (by decide +kernel)) (ra_k i0 3 _ (by decide +kernel)) e27) ?_
  refine Ev.seg D_38 [(.aload_n 1, 1)] (by decide +kernel) (j := 0) (pc' := 115) (lv' := [(0, .ref v0), (1, .ref v1)]) (st' := [.ref v1]) rfl ?_
  refine Ev.getR D_38 (by decide +kernel) F_2_49 T_2_12 (x := (v1 + 4)) (S_oR (ra_o i1) (ra_r2 i1 12 4 (by decide +kernel))) ?_
  refine Ev.seg D_38 [(.iconst 0, 1), (.aload_n 0, 1)] (by decide +kernel) (j := 0) (pc' := 120) (lv' := [(0, .ref v0), (1, .ref v1)]) (st' := [.ref v0, .int (0 : Int32), .ref (v1 + 4)]) rfl ?_
  refine Ev.getR D_38 (by decide +kernel) F_2_49 T_2_12 (x := (v0 + 4)) (S_oR (ra_o i0) (ra_r2 i0 12 4 (by decide +kernel))) ?_
  refine Ev.seg D_38 [(.iconst 0, 1), (.iconst 5, 1)] (by decide +kernel) (j := 0) (pc' := 125) (lv' := [(0, .ref v0), (1, .ref v1)]) (st' := [.int (5 : Int32), .int (0 : Int32), .ref (v0 + 4), .int (0 : Int32), .ref (v1 + 4)]) rfl ?_
  obtain ⟨s30, e30, h⟩ := bd h
  refine Ev.cpI D_38 (by decide +kernel) (Nat.succ_pos _) C_2_73 (Nat.le_of_ble_eq_true rfl) (S_cpI (ra_k i1 4 _ (by decide +kernel)) (ra_k i0 4 _ (by decide +kernel)) e30) ?_
  refine Ev.seg D_38 [(.aload_n 1, 1)] (by decide +kernel) (j := 0) (pc' := 129) (lv' := [(0, .ref v0), (1, .ref v1)]) (st' := [.ref v1]) rfl ?_
  refine Ev.getR D_38 (by decide +kernel) F_2_52 T_2_13 (x := (v1 + 5)) (S_oR (ra_o i1) (ra_r2 i1 13 5 (by decide +kernel))) ?_
  refine Ev.seg D_38 [(.iconst 0, 1), (.aload_n 0, 1)] (by decide +kernel) (j := 0) (pc' := 134) (lv' := [(0, .ref v0), (1, .ref v1)]) (st' := [.ref v0, .int (0 : Int32), .ref (v1 + 5)]) rfl ?_
  refine Ev.getR D_38 (by decide +kernel) F_2_52 T_2_13 (x := (v0 + 5)) (S_oR (ra_o i0) (ra_r2 i0 13 5 (by decide +kernel))) ?_
  refine Ev.seg D_38 [(.iconst 0, 1), (.iconst 5, 1)] (by decide +kernel) (j := 0) (pc' := 139) (lv' := [(0, .ref v0), (1, .ref v1)]) (st' := [.int (5 : Int32), .int (0 : Int32), .ref (v0 + 5), .int (0 : Int32), .ref (v1 + 5)]) rfl ?_
  obtain ⟨s33, e33, h⟩ := bd h
  refine Ev.cpI D_38 (by decide +kernel) (Nat.succ_pos _) C_2_73 (Nat.le_of_ble_eq_true rfl) (S_cpI (ra_k i1 5 _ (by decide +kernel)) (ra_k i0 5 _ (by decide +kernel)) e33) ?_
  refine Ev.seg D_38 [(.aload_n 1, 1)] (by decide +kernel) (j := 0) (pc' := 143) (lv' := [(0, .ref v0), (1, .ref v1)]) (st' := [.ref v1]) rfl ?_
  refine Ev.getR D_38 (by decide +kernel) F_2_55 T_2_14 (x := (v1 + 6)) (S_oR (ra_o i1) (ra_r2 i1 14 6 (by decide +kernel))) ?_
  refine Ev.seg D_38 [(.iconst 0, 1), (.aload_n 0, 1)] (by decide +kernel) (j := 0) (pc' := 148) (lv' := [(0, .ref v0), (1, .ref v1)]) (st' := [.ref v0, .int (0 : Int32), .ref (v1 + 6)]) rfl ?_
  refine Ev.getR D_38 (by decide +kernel) F_2_55 T_2_14 (x := (v0 + 6)) (S_oR (ra_o i0) (ra_r2 i0 14 6 (by decide +kernel))) ?_
  refine Ev.seg D_38 [(.iconst 0, 1), (.iconst 5, 1)] (by decide +kernel) (j := 0) (pc' := 153) (lv' := [(0, .ref v0), (1, .ref v1)]) (st' := [.int (5 : Int32), .int (0 : Int32), .ref (v0 + 6), .int (0 : Int32), .ref (v1 + 6)]) rfl ?_
  obtain ⟨s36, e36, h⟩ := bd h
  refine Ev.cpI D_38 (by decide +kernel) (Nat.succ_pos _) C_2_73 (Nat.le_of_ble_eq_true rfl) (S_cpI (ra_k i1 6 _ (by decide +kernel)) (ra_k i0 6 _ (by decide +kernel)) e36) ?_
  refine Ev.seg D_38 [(.aload_n 1, 1)] (by decide +kernel) (j := 0) (pc' := 157) (lv' := [(0, .ref v0), (1, .ref v1)]) (st' := [.ref v1]) rfl ?_
  refine Ev.getR D_38 (by decide +kernel) F_2_58 T_2_15 (x := (v1 + 7)) (S_oR (ra_o i1) (ra_r2 i1 15 7 (by decide +kernel))) ?_
  refine Ev.seg D_38 [(.iconst 0, 1), (.aload_n 0, 1)] (by decide +kernel) (j := 0) (pc' := 162) (lv' := [(0, .ref v0), (1, .ref v1)]) (st' := [.ref v0, .int (0 : Int32), .ref (v1 + 7)]) rfl ?_
  refine Ev.getR D_38 (by decide +kernel) F_2_58 T_2_15 (x := (v0 + 7)) (S_oR (ra_o i0) (ra_r2 i0 15 7 (by decide +kernel))) ?_
  refine Ev.seg D_38 [(.iconst 0, 1), (.iconst 5, 1)] (by decide +kernel) (j := 0) (pc' := 167) (lv' := [(0, .ref v0), (1, .ref v1)]) (st' := [.int (5 : Int32), .int (0 : Int32), .ref (v0 + 7), .int (0 : Int32), .ref (v1 + 7)]) rfl ?_
  obtain ⟨s39, e39, h⟩ := bd h
  refine Ev.cpI D_38 (by decide +kernel) (Nat.succ_pos _) C_2_73 (Nat.le_of_ble_eq_true rfl) (S_cpI (ra_k i1 7 _ (by decide +kernel)) (ra_k i0 7 _ (by decide +kernel)) e39) ?_
  refine Ev.seg D_38 [(.aload_n 1, 1)] (by decide +kernel) (j := 0) (pc' := 171) (lv' := [(0, .ref v0), (1, .ref v1)]) (st' := [.ref v1]) rfl ?_
  refine Ev.getR D_38 (by decide +kernel) F_2_61 T_2_16 (x := (v1 + 8)) (S_oR (ra_o i1) (ra_r2 i1 16 8 (by decide +kernel))) ?_
  refine Ev.seg D_38 [(.iconst 0, 1), (.aload_n 0, 1)] (by decide +kernel) (j := 0) (pc' := 176) (lv' := [(0, .ref v0), (1, .ref v1)]) (st' := [.ref v0, .int (0 : Int32), .ref (v1 + 8)]) rfl ?_
  refine Ev.getR D_38 (by decide +kernel) F_2_61 T_2_16 (x := (v0 + 8)) (S_oR (ra_o i0) (ra_r2 i0 16 8 (by decide +kernel))) ?_
  refine Ev.seg D_38 [(.iconst 0, 1), (.iconst 5, 1)] (by decide +kernel) (j := 0) (pc' := 181) (lv' := [(0, .ref v0), (1, .ref v1)]) (st' := [.int (5 : Int32), .int (0 : Int32), .ref (v0 + 8), .int (0 : Int32), .ref (v1 + 8)]) rfl ?_
  obtain ⟨s42, e42, h⟩ := bd h
  refine Ev.cpI D_38 (by decide +kernel) (Nat.succ_pos _) C_2_73 (Nat.le_of_ble_eq_true rfl) (S_cpI (ra_k i1 8 _ (by decide +kernel)) (ra_k i0 8 _ (by decide +kernel)) e42) ?_
  refine Ev.seg D_38 [(.aload_n 1, 1)] (by decide +kernel) (j := 0) (pc' := 185) (lv' := [(0, .ref v0), (1, .ref v1)]) (st' := [.ref v1]) rfl ?_
  refine Ev.getR D_38 (by decide +kernel) F_2_64 T_2_17 (x := (v1 + 9)) (S_oR (ra_o i1) (ra_r2 i1 17 9 (by decide +kernel))) ?_
  refine Ev.seg D_38 [(.iconst 0, 1), (.aload_n 0, 1)] (by decide +kernel) (j := 0) (pc' := 190) (lv' := [(0, .ref v0), (1, .ref v1)]) (st' := [.ref v0, .int (0 : Int32), .ref (v1 + 9)]) rfl ?_
  refine Ev.getR D_38 (by decide +kernel) F_2_64 T_2_17 (x := (v0 + 9)) (S_oR (ra_o i0) (ra_r2 i0 17 9 (by decide +kernel))) ?_
  refine Ev.seg D_38 [(.iconst 0, 1), (.bipush 30, 2)] (by decide +kernel) (j := 0) (pc' := 196) (lv' := [(0, .ref v0), (1, .ref v1)]) (st' := [.int (30 : Int32), .int (0 : Int32), .ref (v0 + 9), .int (0 : Int32), .ref (v1 + 9)]) rfl ?_
  obtain ⟨s45, e45, h⟩ := bd h
  refine Ev.cpI D_38 (by decide +kernel) (Nat.succ_pos _) C_2_73 (Nat.le_of_ble_eq_true rfl) (S_cpI (ra_k i1 9 _ (by decide +kernel)) (ra_k i0 9 _ (by decide +kernel)) e45) ?_
  refine Ev.seg D_38 [(.aload_n 1, 1)] (by decide +kernel) (j := 0) (pc' := 200) (lv' := [(0, .ref v0), (1, .ref v1)]) (st' := [.ref v1]) rfl ?_
  refine Ev.getR D_38 (by decide +kernel) F_2_67 T_2_18 (x := (v1 + 10)) (S_oR (ra_o i1) (ra_r2 i1 18 10 (by decide +kernel))) ?_
  refine Ev.seg D_38 [(.iconst 0, 1), (.aload_n 0, 1)] (by decide +kernel) (j := 0) (pc' := 205) (lv' := [(0, .ref v0), (1, .ref v1)]) (st' := [.ref v0, .int (0 : Int32), .ref (v1 + 10)]) rfl ?_
  refine Ev.getR D_38 (by decide +kernel) F_2_67 T_2_18 (x := (v0 + 10)) (S_oR (ra_o i0) (ra_r2 i0 18 10 (by decide +kernel))) ?_
  refine Ev.seg D_38 [(.iconst 0, 1), (.bipush 30, 2)] (by decide +kernel) (j := 0) (pc' := 211) (lv' := [(0, .ref v0), (1, .ref v1)]) (st' := [.int (30 : Int32), .int (0 : Int32), .ref (v0 + 10), .int (0 : Int32), .ref (v1 + 10)]) rfl ?_
  obtain ⟨s48, e48, h⟩ := bd h
  refine Ev.cpI D_38 (by decide +kernel) (Nat.succ_pos _) C_2_73 (Nat.le_of_ble_eq_true rfl) (S_cpI (ra_k i1 10 _ (by decide +kernel)) (ra_k i0 10 _ (by decide +kernel)) e48) ?_
  refine Ev.seg D_38 [(.aload_n 1, 1)] (by decide +kernel) (j := 0) (pc' := 215) (lv' := [(0, .ref v0), (1, .ref v1)]) (st' := [.ref v1]) rfl ?_
  refine Ev.getR D_38 (by decide +kernel) F_2_70 T_2_19 (x := (v1 + 11)) (S_oR (ra_o i1) (ra_r2 i1 19 11 (by decide +kernel))) ?_
  refine Ev.seg D_38 [(.iconst 0, 1), (.aload_n 0, 1)] (by decide +kernel) (j := 0) (pc' := 220) (lv' := [(0, .ref v0), (1, .ref v1)]) (st' := [.ref v0, .int (0 : Int32), .ref (v1 + 11)]) rfl ?_
  refine Ev.getR D_38 (by decide +kernel) F_2_70 T_2_19 (x := (v0 + 11)) (S_oR (ra_o i0) (ra_r2 i0 19 11 (by decide +kernel))) ?_
  refine Ev.seg D_38 [(.iconst 0, 1), (.bipush 30, 2)] (by decide +kernel) (j := 0) (pc' := 226) (lv' := [(0, .ref v0), (1, .ref v1)]) (st' := [.int (30 : Int32), .int (0 : Int32), .ref (v0 + 11), .int (0 : Int32), .ref (v1 + 11)]) rfl ?_
  obtain ⟨s51, e51, h⟩ := bd h
  refine Ev.cpI D_38 (by decide +kernel) (Nat.succ_pos _) C_2_73 (Nat.le_of_ble_eq_true rfl) (S_cpI (ra_k i1 11 _ (by decide +kernel)) (ra_k i0 11 _ (by decide +kernel)) e51) ?_
  cases h
  obtain rfl : o = _ := ho
  exact Ev.vret D_38 (by decide +kernel)
/- Race hasBoat: 39 -/
def gR_hasBoat (v0 : Nat) (v1 : Int64) (s : mT) : Option (Int32) :=
  (
    if (lg_cmp v1 (0 : Int64)) < 0 then
      some ((0 : Int32))
    else
      if 0 ≤ (lg_cmp v1 ((s.1 v0 5).toInt64)) then
        some ((0 : Int32))
      else
        some ((1 : Int32)) : Option (Int32)).bind fun x1 =>
  if x1 = 0 ∨ x1 = 1 then some (x1) else none
set_option maxRecDepth 8000 in
theorem gR_hasBoat_ok {L d : Nat} (hd : 1 ≤ d) {v0 : Nat} {v1 : Int64} {s : mT} (i0 : isRa v0) {p : Int32} (h : gR_hasBoat v0 v1 s = some p) : Ev d 39 0 [(0, .ref v0), (1, .long v1)] [] (uS L s) (some (.int p), uS L s) := by
  obtain ⟨d, rfl⟩ : ∃ e, d = e + 1 := ⟨d - 1, by omega⟩
  obtain ⟨o, ho⟩ : ∃ o : Option Value × mS, o = (some (.int p), uS L s) := ⟨_, rfl⟩
  rw [← ho]
  unfold gR_hasBoat at h
  refine Ev.seg D_39 [(.lload_n 1, 1), (.lconst 0, 1), (.lcmp, 1)] (by decide +kernel) (j := 0) (pc' := 3) (lv' := [(0, .ref v0), (1, .long v1)]) (st' := [.int (lg_cmp v1 (0 : Int64))]) rfl ?_
  obtain ⟨x1, g1, h⟩ := bd h
  have j1 : Ev (d + 1) 39 21 [] [.int x1] (uS L s) o := by
    clear g1
    by_cases c4 : x1 = 0 ∨ x1 = 1
    · rw [if_pos c4] at h
      cases h
      obtain rfl : o = _ := ho
      exact Ev.zret D_39 c4 (by decide +kernel)
    · rw [if_neg c4] at h; cases h
  clear h
  refine Ev.if_ D_39 (c := .lt) (off := 17) (by decide +kernel) (t := 20) rfl (fun c1 => ?_) (fun c1 => ?_)
  · have c1 : (lg_cmp v1 (0 : Int64)) < 0 := of_decide_eq_true c1
    rw [if_pos c1] at g1
    refine Ev.seg D_39 [(.iconst 0, 1)] (by decide +kernel) (j := 0) (pc' := 21) (lv' := [(0, .ref v0), (1, .long v1)]) (st' := [.int (0 : Int32)]) rfl ?_
    cases g1
    exact Ev.sub2 j1 subL_nil
  · have c1 : ¬ (lg_cmp v1 (0 : Int64)) < 0 := of_decide_eq_false c1
    rw [if_neg c1] at g1
    refine Ev.seg D_39 [(.lload_n 1, 1), (.aload_n 0, 1)] (by decide +kernel) (j := 0) (pc' := 8) (lv' := [(0, .ref v0), (1, .long v1)]) (st' := [.ref v0, .long v1]) rfl ?_
    refine Ev.getI D_39 (by decide +kernel) F_2_27 (Or.inl T_2_5) (S_oI (ra_o i0)) ?_
    refine Ev.seg D_39 [(.i2l, 1), (.lcmp, 1)] (by decide +kernel) (j := 0) (pc' := 13) (lv' := [(0, .ref v0), (1, .long v1)]) (st' := [.int (lg_cmp v1 ((s.1 v0 5).toInt64))]) rfl ?_
    refine Ev.if_ D_39 (c := .ge) (off := 7) (by decide +kernel) (t := 20) rfl (fun c3 => ?_) (fun c3 => ?_)
    · have c3 : 0 ≤ (lg_cmp v1 ((s.1 v0 5).toInt64)) := of_decide_eq_true c3
      rw [if_pos c3] at g1
      refine Ev.seg D_39 [(.iconst 0, 1)] (by decide +kernel) (j := 0) (pc' := 21) (lv' := [(0, .ref v0), (1, .long v1)]) (st' := [.int (0 : Int32)]) rfl ?_
      cases g1
      exact Ev.sub2 j1 subL_nil
    · have c3 : ¬ 0 ≤ (lg_cmp v1 ((s.1 v0 5).toInt64)) := of_decide_eq_false c3
      rw [if_neg c3] at g1
      refine Ev.seg D_39 [(.iconst 1, 1), (.goto 4, 3)] (by decide +kernel) (j := 0) (pc' := 21) (lv' := [(0, .ref v0), (1, .long v1)]) (st' := [.int (1 : Int32)]) rfl ?_
      cases g1
      exact Ev.sub2 j1 subL_nil
/- Race hasWatcher: 40 -/
def gR_hasWatcher (v0 : Nat) (v1 : Int32) (s : mT) : Option (Int32) :=
  (
    if v1 < 0 then
      some ((0 : Int32))
    else
      if (s.1 v0 6) ≤ v1 then
        some ((0 : Int32))
      else
        some ((1 : Int32)) : Option (Int32)).bind fun x1 =>
  if x1 = 0 ∨ x1 = 1 then some (x1) else none
set_option maxRecDepth 8000 in
theorem gR_hasWatcher_ok {L d : Nat} (hd : 1 ≤ d) {v0 : Nat} {v1 : Int32} {s : mT} (i0 : isRa v0) {p : Int32} (h : gR_hasWatcher v0 v1 s = some p) : Ev d 40 0 [(0, .ref v0), (1, .int v1)] [] (uS L s) (some (.int p), uS L s) := by
  obtain ⟨d, rfl⟩ : ∃ e, d = e + 1 := ⟨d - 1, by omega⟩
  obtain ⟨o, ho⟩ : ∃ o : Option Value × mS, o = (some (.int p), uS L s) := ⟨_, rfl⟩
  rw [← ho]
  unfold gR_hasWatcher at h
  refine Ev.seg D_40 [(.iload_n 1, 1)] (by decide +kernel) (j := 0) (pc' := 1) (lv' := [(0, .ref v0), (1, .int v1)]) (st' := [.int v1]) rfl ?_
  obtain ⟨x1, g1, h⟩ := bd h
  have j1 : Ev (d + 1) 40 17 [] [.int x1] (uS L s) o := by
    clear g1
    by_cases c4 : x1 = 0 ∨ x1 = 1
    · rw [if_pos c4] at h
      cases h
      obtain rfl : o = _ := ho
      exact Ev.zret D_40 c4 (by decide +kernel)
    · rw [if_neg c4] at h; cases h
  clear h
  refine Ev.if_ D_40 (c := .lt) (off := 15) (by decide +kernel) (t := 16) rfl (fun c1 => ?_) (fun c1 => ?_)
  · have c1 : v1 < 0 := of_decide_eq_true c1
    rw [if_pos c1] at g1
    refine Ev.seg D_40 [(.iconst 0, 1)] (by decide +kernel) (j := 0) (pc' := 17) (lv' := [(0, .ref v0), (1, .int v1)]) (st' := [.int (0 : Int32)]) rfl ?_
    cases g1
    exact Ev.sub2 j1 subL_nil
  · have c1 : ¬ v1 < 0 := of_decide_eq_false c1
    rw [if_neg c1] at g1
    refine Ev.seg D_40 [(.iload_n 1, 1), (.aload_n 0, 1)] (by decide +kernel) (j := 0) (pc' := 6) (lv' := [(0, .ref v0), (1, .int v1)]) (st' := [.ref v0, .int v1]) rfl ?_
    refine Ev.getI D_40 (by decide +kernel) F_2_30 (Or.inl T_2_6) (S_oI (ra_o i0)) ?_
    refine Ev.icmp D_40 (c := .ge) (off := 7) (by decide +kernel) (t := 16) rfl (fun c3 => ?_) (fun c3 => ?_)
    · have c3 : (s.1 v0 6) ≤ v1 := of_decide_eq_true c3
      rw [if_pos c3] at g1
      refine Ev.seg D_40 [(.iconst 0, 1)] (by decide +kernel) (j := 0) (pc' := 17) (lv' := [(0, .ref v0), (1, .int v1)]) (st' := [.int (0 : Int32)]) rfl ?_
      cases g1
      exact Ev.sub2 j1 subL_nil
    · have c3 : ¬ (s.1 v0 6) ≤ v1 := of_decide_eq_false c3
      rw [if_neg c3] at g1
      refine Ev.seg D_40 [(.iconst 1, 1), (.goto 4, 3)] (by decide +kernel) (j := 0) (pc' := 17) (lv' := [(0, .ref v0), (1, .int v1)]) (st' := [.int (1 : Int32)]) rfl ?_
      cases g1
      exact Ev.sub2 j1 subL_nil
/- Race hasShow: 41 -/
def gR_hasShow (v0 : Nat) (v1 : Int32) (s : mT) : Option (Int32) :=
  (
    if v1 < 0 then
      some ((0 : Int32))
    else
      if (s.1 v0 7) ≤ v1 then
        some ((0 : Int32))
      else
        some ((1 : Int32)) : Option (Int32)).bind fun x1 =>
  if x1 = 0 ∨ x1 = 1 then some (x1) else none
set_option maxRecDepth 8000 in
theorem gR_hasShow_ok {L d : Nat} (hd : 1 ≤ d) {v0 : Nat} {v1 : Int32} {s : mT} (i0 : isRa v0) {p : Int32} (h : gR_hasShow v0 v1 s = some p) : Ev d 41 0 [(0, .ref v0), (1, .int v1)] [] (uS L s) (some (.int p), uS L s) := by
  obtain ⟨d, rfl⟩ : ∃ e, d = e + 1 := ⟨d - 1, by omega⟩
  obtain ⟨o, ho⟩ : ∃ o : Option Value × mS, o = (some (.int p), uS L s) := ⟨_, rfl⟩
  rw [← ho]
  unfold gR_hasShow at h
  refine Ev.seg D_41 [(.iload_n 1, 1)] (by decide +kernel) (j := 0) (pc' := 1) (lv' := [(0, .ref v0), (1, .int v1)]) (st' := [.int v1]) rfl ?_
  obtain ⟨x1, g1, h⟩ := bd h
  have j1 : Ev (d + 1) 41 17 [] [.int x1] (uS L s) o := by
    clear g1
    by_cases c4 : x1 = 0 ∨ x1 = 1
    · rw [if_pos c4] at h
      cases h
      obtain rfl : o = _ := ho
      exact Ev.zret D_41 c4 (by decide +kernel)
    · rw [if_neg c4] at h; cases h
  clear h
  refine Ev.if_ D_41 (c := .lt) (off := 15) (by decide +kernel) (t := 16) rfl (fun c1 => ?_) (fun c1 => ?_)
  · have c1 : v1 < 0 := of_decide_eq_true c1
    rw [if_pos c1] at g1
    refine Ev.seg D_41 [(.iconst 0, 1)] (by decide +kernel) (j := 0) (pc' := 17) (lv' := [(0, .ref v0), (1, .int v1)]) (st' := [.int (0 : Int32)]) rfl ?_
    cases g1
    exact Ev.sub2 j1 subL_nil
  · have c1 : ¬ v1 < 0 := of_decide_eq_false c1
    rw [if_neg c1] at g1
    refine Ev.seg D_41 [(.iload_n 1, 1), (.aload_n 0, 1)] (by decide +kernel) (j := 0) (pc' := 6) (lv' := [(0, .ref v0), (1, .int v1)]) (st' := [.ref v0, .int v1]) rfl ?_
    refine Ev.getI D_41 (by decide +kernel) F_2_33 (Or.inl T_2_7) (S_oI (ra_o i0)) ?_
    refine Ev.icmp D_41 (c := .ge) (off := 7) (by decide +kernel) (t := 16) rfl (fun c3 => ?_) (fun c3 => ?_)
    · have c3 : (s.1 v0 7) ≤ v1 := of_decide_eq_true c3
      rw [if_pos c3] at g1
      refine Ev.seg D_41 [(.iconst 0, 1)] (by decide +kernel) (j := 0) (pc' := 17) (lv' := [(0, .ref v0), (1, .int v1)]) (st' := [.int (0 : Int32)]) rfl ?_
      cases g1
      exact Ev.sub2 j1 subL_nil
    · have c3 : ¬ (s.1 v0 7) ≤ v1 := of_decide_eq_false c3
      rw [if_neg c3] at g1
      refine Ev.seg D_41 [(.iconst 1, 1), (.goto 4, 3)] (by decide +kernel) (j := 0) (pc' := 17) (lv' := [(0, .ref v0), (1, .int v1)]) (st' := [.int (1 : Int32)]) rfl ?_
      cases g1
      exact Ev.sub2 j1 subL_nil
/- Race exists: 43 -/
def gR_exists (v0 : Nat) (s : mT) : Option (Int32) :=
  (
    if (s.1 v0 4) ≤ 0 then
      some ((0 : Int32))
    else
      some ((1 : Int32)) : Option (Int32)).bind fun x2 =>
  if x2 = 0 ∨ x2 = 1 then some (x2) else none
set_option maxRecDepth 8000 in
theorem gR_exists_ok {L d : Nat} (hd : 1 ≤ d) {v0 : Nat} {s : mT} (i0 : isRa v0) {p : Int32} (h : gR_exists v0 s = some p) : Ev d 43 0 [(0, .ref v0)] [] (uS L s) (some (.int p), uS L s) := by
  obtain ⟨d, rfl⟩ : ∃ e, d = e + 1 := ⟨d - 1, by omega⟩
  obtain ⟨o, ho⟩ : ∃ o : Option Value × mS, o = (some (.int p), uS L s) := ⟨_, rfl⟩
  rw [← ho]
  unfold gR_exists at h
  refine Ev.seg D_43 [(.aload_n 0, 1)] (by decide +kernel) (j := 0) (pc' := 1) (lv' := [(0, .ref v0)]) (st' := [.ref v0]) rfl ?_
  refine Ev.getI D_43 (by decide +kernel) F_2_24 (Or.inl T_2_4) (S_oI (ra_o i0)) ?_
  obtain ⟨x2, g2, h⟩ := bd h
  have j2 : Ev (d + 1) 43 12 [] [.int x2] (uS L s) o := by
    clear g2
    by_cases c3 : x2 = 0 ∨ x2 = 1
    · rw [if_pos c3] at h
      cases h
      obtain rfl : o = _ := ho
      exact Ev.zret D_43 c3 (by decide +kernel)
    · rw [if_neg c3] at h; cases h
  clear h
  refine Ev.if_ D_43 (c := .le) (off := 7) (by decide +kernel) (t := 11) rfl (fun c2 => ?_) (fun c2 => ?_)
  · have c2 : (s.1 v0 4) ≤ 0 := of_decide_eq_true c2
    rw [if_pos c2] at g2
    refine Ev.seg D_43 [(.iconst 0, 1)] (by decide +kernel) (j := 0) (pc' := 12) (lv' := [(0, .ref v0)]) (st' := [.int (0 : Int32)]) rfl ?_
    cases g2
    exact Ev.sub2 j2 subL_nil
  · have c2 : ¬ (s.1 v0 4) ≤ 0 := of_decide_eq_false c2
    rw [if_neg c2] at g2
    refine Ev.seg D_43 [(.iconst 1, 1), (.goto 4, 3)] (by decide +kernel) (j := 0) (pc' := 12) (lv' := [(0, .ref v0)]) (st' := [.int (1 : Int32)]) rfl ?_
    cases g2
    exact Ev.sub2 j2 subL_nil
/- Race hasStep: 42 -/
def gR_hasStep (v0 : Nat) (v1 : Int64) (s : mT) : Option (Int32) :=
  (gR_exists v0 s).bind fun p1 =>
  (
    if p1 = 0 then
      some ((0 : Int32))
    else
      if (lg_cmp v1 (0 : Int64)) < 0 then
        some ((0 : Int32))
      else
        if 0 < (lg_cmp v1 ((s.1 v0 0).toInt64)) then
          some ((0 : Int32))
        else
          some ((1 : Int32)) : Option (Int32)).bind fun x2 =>
  if x2 = 0 ∨ x2 = 1 then some (x2) else none
set_option maxRecDepth 8000 in
theorem gR_hasStep_ok {L d : Nat} (hd : 2 ≤ d) {v0 : Nat} {v1 : Int64} {s : mT} (i0 : isRa v0) {p : Int32} (h : gR_hasStep v0 v1 s = some p) : Ev d 42 0 [(0, .ref v0), (1, .long v1)] [] (uS L s) (some (.int p), uS L s) := by
  obtain ⟨d, rfl⟩ : ∃ e, d = e + 1 := ⟨d - 1, by omega⟩
  obtain ⟨o, ho⟩ : ∃ o : Option Value × mS, o = (some (.int p), uS L s) := ⟨_, rfl⟩
  rw [← ho]
  unfold gR_hasStep at h
  refine Ev.seg D_42 [(.aload_n 0, 1)] (by decide +kernel) (j := 0) (pc' := 1) (lv' := [(0, .ref v0), (1, .long v1)]) (st' := [.ref v0]) rfl ?_
  obtain ⟨p1, e1, h⟩ := bd h
  refine Ev.callv D_42 E_43 (by decide +kernel) C_2_79 v0 [] (r := []) rfl (gd_o (ra_o i0) (by decide)) rfl (Nat.le_of_ble_eq_true rfl) (Nat.le_of_ble_eq_true rfl) (gR_exists_ok (by omega) i0 e1) ?_
  obtain ⟨x2, g2, h⟩ := bd h
  have j2 : Ev (d + 1) 42 28 [] [.int x2] (uS L s) o := by
    clear g2
    by_cases c6 : x2 = 0 ∨ x2 = 1
    · rw [if_pos c6] at h
      cases h
      obtain rfl : o = _ := ho
      exact Ev.zret D_42 c6 (by decide +kernel)
    · rw [if_neg c6] at h; cases h
  clear h
  refine Ev.if_ D_42 (c := .eq) (off := 23) (by decide +kernel) (t := 27) rfl (fun c2 => ?_) (fun c2 => ?_)
  · have c2 : p1 = 0 := of_decide_eq_true c2
    rw [if_pos c2] at g2
    refine Ev.seg D_42 [(.iconst 0, 1)] (by decide +kernel) (j := 0) (pc' := 28) (lv' := [(0, .ref v0), (1, .long v1)]) (st' := [.int (0 : Int32)]) rfl ?_
    cases g2
    exact Ev.sub2 j2 subL_nil
  · have c2 : ¬ p1 = 0 := of_decide_eq_false c2
    rw [if_neg c2] at g2
    refine Ev.seg D_42 [(.lload_n 1, 1), (.lconst 0, 1), (.lcmp, 1)] (by decide +kernel) (j := 0) (pc' := 10) (lv' := [(0, .ref v0), (1, .long v1)]) (st' := [.int (lg_cmp v1 (0 : Int64))]) rfl ?_
    refine Ev.if_ D_42 (c := .lt) (off := 17) (by decide +kernel) (t := 27) rfl (fun c3 => ?_) (fun c3 => ?_)
    · have c3 : (lg_cmp v1 (0 : Int64)) < 0 := of_decide_eq_true c3
      rw [if_pos c3] at g2
      refine Ev.seg D_42 [(.iconst 0, 1)] (by decide +kernel) (j := 0) (pc' := 28) (lv' := [(0, .ref v0), (1, .long v1)]) (st' := [.int (0 : Int32)]) rfl ?_
      cases g2
      exact Ev.sub2 j2 subL_nil
    · have c3 : ¬ (lg_cmp v1 (0 : Int64)) < 0 := of_decide_eq_false c3
      rw [if_neg c3] at g2
      refine Ev.seg D_42 [(.lload_n 1, 1), (.aload_n 0, 1)] (by decide +kernel) (j := 0) (pc' := 15) (lv' := [(0, .ref v0), (1, .long v1)]) (st' := [.ref v0, .long v1]) rfl ?_
      refine Ev.getI D_42 (by decide +kernel) F_2_9 (Or.inl T_2_0) (S_oI (ra_o i0)) ?_
      refine Ev.seg D_42 [(.i2l, 1), (.lcmp, 1)] (by decide +kernel) (j := 0) (pc' := 20) (lv' := [(0, .ref v0), (1, .long v1)]) (st' := [.int (lg_cmp v1 ((s.1 v0 0).toInt64))]) rfl ?_
      refine Ev.if_ D_42 (c := .gt) (off := 7) (by decide +kernel) (t := 27) rfl (fun c5 => ?_) (fun c5 => ?_)
      · have c5 : 0 < (lg_cmp v1 ((s.1 v0 0).toInt64)) := of_decide_eq_true c5
        rw [if_pos c5] at g2
        refine Ev.seg D_42 [(.iconst 0, 1)] (by decide +kernel) (j := 0) (pc' := 28) (lv' := [(0, .ref v0), (1, .long v1)]) (st' := [.int (0 : Int32)]) rfl ?_
        cases g2
        exact Ev.sub2 j2 subL_nil
      · have c5 : ¬ 0 < (lg_cmp v1 ((s.1 v0 0).toInt64)) := of_decide_eq_false c5
        rw [if_neg c5] at g2
        refine Ev.seg D_42 [(.iconst 1, 1), (.goto 4, 3)] (by decide +kernel) (j := 0) (pc' := 28) (lv' := [(0, .ref v0), (1, .long v1)]) (st' := [.int (1 : Int32)]) rfl ?_
        cases g2
        exact Ev.sub2 j2 subL_nil
/- Race hasEarlyStep: 44 -/
def gR_hasEarlyStep (v0 : Nat) (v1 : Int32) (s : mT) : Option (Int32) :=
  (gR_exists v0 s).bind fun p1 =>
  (
    if p1 = 0 then
      some ((0 : Int32))
    else
      if v1 < 0 then
        some ((0 : Int32))
      else
        if (s.1 v0 0) ≤ v1 then
          some ((0 : Int32))
        else
          some ((1 : Int32)) : Option (Int32)).bind fun x2 =>
  if x2 = 0 ∨ x2 = 1 then some (x2) else none
set_option maxRecDepth 8000 in
theorem gR_hasEarlyStep_ok {L d : Nat} (hd : 2 ≤ d) {v0 : Nat} {v1 : Int32} {s : mT} (i0 : isRa v0) {p : Int32} (h : gR_hasEarlyStep v0 v1 s = some p) : Ev d 44 0 [(0, .ref v0), (1, .int v1)] [] (uS L s) (some (.int p), uS L s) := by
  obtain ⟨d, rfl⟩ : ∃ e, d = e + 1 := ⟨d - 1, by omega⟩
  obtain ⟨o, ho⟩ : ∃ o : Option Value × mS, o = (some (.int p), uS L s) := ⟨_, rfl⟩
  rw [← ho]
  unfold gR_hasEarlyStep at h
  refine Ev.seg D_44 [(.aload_n 0, 1)] (by decide +kernel) (j := 0) (pc' := 1) (lv' := [(0, .ref v0), (1, .int v1)]) (st' := [.ref v0]) rfl ?_
  obtain ⟨p1, e1, h⟩ := bd h
  refine Ev.callv D_44 E_43 (by decide +kernel) C_2_79 v0 [] (r := []) rfl (gd_o (ra_o i0) (by decide)) rfl (Nat.le_of_ble_eq_true rfl) (Nat.le_of_ble_eq_true rfl) (gR_exists_ok (by omega) i0 e1) ?_
  obtain ⟨x2, g2, h⟩ := bd h
  have j2 : Ev (d + 1) 44 24 [] [.int x2] (uS L s) o := by
    clear g2
    by_cases c6 : x2 = 0 ∨ x2 = 1
    · rw [if_pos c6] at h
      cases h
      obtain rfl : o = _ := ho
      exact Ev.zret D_44 c6 (by decide +kernel)
    · rw [if_neg c6] at h; cases h
  clear h
  refine Ev.if_ D_44 (c := .eq) (off := 19) (by decide +kernel) (t := 23) rfl (fun c2 => ?_) (fun c2 => ?_)
  · have c2 : p1 = 0 := of_decide_eq_true c2
    rw [if_pos c2] at g2
    refine Ev.seg D_44 [(.iconst 0, 1)] (by decide +kernel) (j := 0) (pc' := 24) (lv' := [(0, .ref v0), (1, .int v1)]) (st' := [.int (0 : Int32)]) rfl ?_
    cases g2
    exact Ev.sub2 j2 subL_nil
  · have c2 : ¬ p1 = 0 := of_decide_eq_false c2
    rw [if_neg c2] at g2
    refine Ev.seg D_44 [(.iload_n 1, 1)] (by decide +kernel) (j := 0) (pc' := 8) (lv' := [(0, .ref v0), (1, .int v1)]) (st' := [.int v1]) rfl ?_
    refine Ev.if_ D_44 (c := .lt) (off := 15) (by decide +kernel) (t := 23) rfl (fun c3 => ?_) (fun c3 => ?_)
    · have c3 : v1 < 0 := of_decide_eq_true c3
      rw [if_pos c3] at g2
      refine Ev.seg D_44 [(.iconst 0, 1)] (by decide +kernel) (j := 0) (pc' := 24) (lv' := [(0, .ref v0), (1, .int v1)]) (st' := [.int (0 : Int32)]) rfl ?_
      cases g2
      exact Ev.sub2 j2 subL_nil
    · have c3 : ¬ v1 < 0 := of_decide_eq_false c3
      rw [if_neg c3] at g2
      refine Ev.seg D_44 [(.iload_n 1, 1), (.aload_n 0, 1)] (by decide +kernel) (j := 0) (pc' := 13) (lv' := [(0, .ref v0), (1, .int v1)]) (st' := [.ref v0, .int v1]) rfl ?_
      refine Ev.getI D_44 (by decide +kernel) F_2_9 (Or.inl T_2_0) (S_oI (ra_o i0)) ?_
      refine Ev.icmp D_44 (c := .ge) (off := 7) (by decide +kernel) (t := 23) rfl (fun c5 => ?_) (fun c5 => ?_)
      · have c5 : (s.1 v0 0) ≤ v1 := of_decide_eq_true c5
        rw [if_pos c5] at g2
        refine Ev.seg D_44 [(.iconst 0, 1)] (by decide +kernel) (j := 0) (pc' := 24) (lv' := [(0, .ref v0), (1, .int v1)]) (st' := [.int (0 : Int32)]) rfl ?_
        cases g2
        exact Ev.sub2 j2 subL_nil
      · have c5 : ¬ (s.1 v0 0) ≤ v1 := of_decide_eq_false c5
        rw [if_neg c5] at g2
        refine Ev.seg D_44 [(.iconst 1, 1), (.goto 4, 3)] (by decide +kernel) (j := 0) (pc' := 24) (lv' := [(0, .ref v0), (1, .int v1)]) (st' := [.int (1 : Int32)]) rfl ?_
        cases g2
        exact Ev.sub2 j2 subL_nil
/- Race sees: 45 -/
def gR_sees (v0 : Nat) (v1 : Int32) (v2 : Int32) (s : mT) : Option (Int32) :=
  (rdI (s.1 (v0 + 4)) 5 v1).bind fun x2 =>
  (
    if v2 < x2 then
      some ((0 : Int32))
    else
      (rdI (s.1 (v0 + 5)) 5 v1).bind fun x5 =>
      if x5 < v2 then
        some ((0 : Int32))
      else
        some ((1 : Int32)) : Option (Int32)).bind fun x3 =>
  if x3 = 0 ∨ x3 = 1 then some (x3) else none
set_option maxRecDepth 8000 in
theorem gR_sees_ok {L d : Nat} (hd : 1 ≤ d) {v0 : Nat} {v1 : Int32} {v2 : Int32} {s : mT} (i0 : isRa v0) {p : Int32} (h : gR_sees v0 v1 v2 s = some p) : Ev d 45 0 [(0, .ref v0), (1, .int v1), (2, .int v2)] [] (uS L s) (some (.int p), uS L s) := by
  obtain ⟨d, rfl⟩ : ∃ e, d = e + 1 := ⟨d - 1, by omega⟩
  obtain ⟨o, ho⟩ : ∃ o : Option Value × mS, o = (some (.int p), uS L s) := ⟨_, rfl⟩
  rw [← ho]
  unfold gR_sees at h
  refine Ev.seg D_45 [(.aload_n 0, 1)] (by decide +kernel) (j := 0) (pc' := 1) (lv' := [(0, .ref v0), (1, .int v1), (2, .int v2)]) (st' := [.ref v0]) rfl ?_
  refine Ev.getR D_45 (by decide +kernel) F_2_49 T_2_12 (x := (v0 + 4)) (S_oR (ra_o i0) (ra_r2 i0 12 4 (by decide +kernel))) ?_
  refine Ev.seg D_45 [(.iload_n 1, 1)] (by decide +kernel) (j := 0) (pc' := 5) (lv' := [(0, .ref v0), (1, .int v1), (2, .int v2)]) (st' := [.int v1, .ref (v0 + 4)]) rfl ?_
  obtain ⟨x2, e2, h⟩ := bd h
  refine Ev.iald D_45 (by decide +kernel) (S_aI (ra_k i0 4 _ (by decide +kernel)) e2) ?_
  refine Ev.seg D_45 [(.iload_n 2, 1)] (by decide +kernel) (j := 0) (pc' := 7) (lv' := [(0, .ref v0), (1, .int v1), (2, .int v2)]) (st' := [.int v2, .int x2]) rfl ?_
  obtain ⟨x3, g3, h⟩ := bd h
  have j3 : Ev (d + 1) 45 25 [] [.int x3] (uS L s) o := by
    clear g3
    by_cases c7 : x3 = 0 ∨ x3 = 1
    · rw [if_pos c7] at h
      cases h
      obtain rfl : o = _ := ho
      exact Ev.zret D_45 c7 (by decide +kernel)
    · rw [if_neg c7] at h; cases h
  clear h
  refine Ev.icmp D_45 (c := .gt) (off := 17) (by decide +kernel) (t := 24) rfl (fun c3 => ?_) (fun c3 => ?_)
  · have c3 : v2 < x2 := of_decide_eq_true c3
    rw [if_pos c3] at g3
    refine Ev.seg D_45 [(.iconst 0, 1)] (by decide +kernel) (j := 0) (pc' := 25) (lv' := [(0, .ref v0), (1, .int v1), (2, .int v2)]) (st' := [.int (0 : Int32)]) rfl ?_
    cases g3
    exact Ev.sub2 j3 subL_nil
  · have c3 : ¬ v2 < x2 := of_decide_eq_false c3
    rw [if_neg c3] at g3
    refine Ev.seg D_45 [(.iload_n 2, 1), (.aload_n 0, 1)] (by decide +kernel) (j := 0) (pc' := 12) (lv' := [(0, .ref v0), (1, .int v1), (2, .int v2)]) (st' := [.ref v0, .int v2]) rfl ?_
    refine Ev.getR D_45 (by decide +kernel) F_2_52 T_2_13 (x := (v0 + 5)) (S_oR (ra_o i0) (ra_r2 i0 13 5 (by decide +kernel))) ?_
    refine Ev.seg D_45 [(.iload_n 1, 1)] (by decide +kernel) (j := 0) (pc' := 16) (lv' := [(0, .ref v0), (1, .int v1), (2, .int v2)]) (st' := [.int v1, .ref (v0 + 5), .int v2]) rfl ?_
    obtain ⟨x5, e5, g3⟩ := bd g3
    refine Ev.iald D_45 (by decide +kernel) (S_aI (ra_k i0 5 _ (by decide +kernel)) e5) ?_
    refine Ev.icmp D_45 (c := .gt) (off := 7) (by decide +kernel) (t := 24) rfl (fun c6 => ?_) (fun c6 => ?_)
    · have c6 : x5 < v2 := of_decide_eq_true c6
      rw [if_pos c6] at g3
      refine Ev.seg D_45 [(.iconst 0, 1)] (by decide +kernel) (j := 0) (pc' := 25) (lv' := [(0, .ref v0), (1, .int v1), (2, .int v2)]) (st' := [.int (0 : Int32)]) rfl ?_
      cases g3
      exact Ev.sub2 j3 subL_nil
    · have c6 : ¬ x5 < v2 := of_decide_eq_false c6
      rw [if_neg c6] at g3
      refine Ev.seg D_45 [(.iconst 1, 1), (.goto 4, 3)] (by decide +kernel) (j := 0) (pc' := 25) (lv' := [(0, .ref v0), (1, .int v1), (2, .int v2)]) (st' := [.int (1 : Int32)]) rfl ?_
      cases g3
      exact Ev.sub2 j3 subL_nil
/- Race addAct: 46 -/
def gR_addAct (v0 : Nat) (v1 : Int32) (v2 : Int32) (v3 : Int32) (s : mT) : Option (mT) :=
  (
    if (30 : Int32) ≤ (s.1 v0 8) then
      some (s)
    else
      (wrI s (v0 + 9) 30 (s.1 v0 8) v1).bind fun s5 =>
      (wrI s5 (v0 + 10) 30 (s5.1 v0 8) v2).bind fun s8 =>
      (wrI s8 (v0 + 11) 30 (s8.1 v0 8) v3).bind fun s11 =>
      some ((stI s11 v0 8 ((s11.1 v0 8) + (1 : Int32)))) : Option (mT)).bind fun x2 =>
  some (x2)
set_option maxRecDepth 8000 in
theorem gR_addAct_ok {L d : Nat} (hd : 1 ≤ d) {v0 : Nat} {v1 : Int32} {v2 : Int32} {v3 : Int32} {s : mT} (i0 : isRa v0) {p : mT} (h : gR_addAct v0 v1 v2 v3 s = some p) : Ev d 46 0 [(0, .ref v0), (1, .int v1), (2, .int v2), (3, .int v3)] [] (uS L s) (none, uS L p) := by
  obtain ⟨d, rfl⟩ : ∃ e, d = e + 1 := ⟨d - 1, by omega⟩
  obtain ⟨o, ho⟩ : ∃ o : Option Value × mS, o = (none, uS L p) := ⟨_, rfl⟩
  rw [← ho]
  unfold gR_addAct at h
  refine Ev.seg D_46 [(.aload_n 0, 1)] (by decide +kernel) (j := 0) (pc' := 1) (lv' := [(0, .ref v0), (1, .int v1), (2, .int v2), (3, .int v3)]) (st' := [.ref v0]) rfl ?_
  refine Ev.getI D_46 (by decide +kernel) F_2_36 (Or.inl T_2_8) (S_oI (ra_o i0)) ?_
  refine Ev.seg D_46 [(.bipush 30, 2)] (by decide +kernel) (j := 0) (pc' := 6) (lv' := [(0, .ref v0), (1, .int v1), (2, .int v2), (3, .int v3)]) (st' := [.int (30 : Int32), .int (s.1 v0 8)]) rfl ?_
  obtain ⟨x2, g2, h⟩ := bd h
  have j2 : Ev (d + 1) 46 49 [] [] (uS L x2) o := by
    clear g2
    cases h
    obtain rfl : o = _ := ho
    exact Ev.vret D_46 (by decide +kernel)
  clear h
  refine Ev.icmp D_46 (c := .ge) (off := 43) (by decide +kernel) (t := 49) rfl (fun c2 => ?_) (fun c2 => ?_)
  · have c2 : (30 : Int32) ≤ (s.1 v0 8) := of_decide_eq_true c2
    rw [if_pos c2] at g2
    cases g2
    exact Ev.sub2 j2 subL_nil
  · have c2 : ¬ (30 : Int32) ≤ (s.1 v0 8) := of_decide_eq_false c2
    rw [if_neg c2] at g2
    refine Ev.seg D_46 [(.aload_n 0, 1)] (by decide +kernel) (j := 0) (pc' := 10) (lv' := [(0, .ref v0), (1, .int v1), (2, .int v2), (3, .int v3)]) (st' := [.ref v0]) rfl ?_
    refine Ev.getR D_46 (by decide +kernel) F_2_64 T_2_17 (x := (v0 + 9)) (S_oR (ra_o i0) (ra_r2 i0 17 9 (by decide +kernel))) ?_
    refine Ev.seg D_46 [(.aload_n 0, 1)] (by decide +kernel) (j := 0) (pc' := 14) (lv' := [(0, .ref v0), (1, .int v1), (2, .int v2), (3, .int v3)]) (st' := [.ref v0, .ref (v0 + 9)]) rfl ?_
    refine Ev.getI D_46 (by decide +kernel) F_2_36 (Or.inl T_2_8) (S_oI (ra_o i0)) ?_
    refine Ev.seg D_46 [(.iload_n 1, 1)] (by decide +kernel) (j := 0) (pc' := 18) (lv' := [(0, .ref v0), (1, .int v1), (2, .int v2), (3, .int v3)]) (st' := [.int v1, .int (s.1 v0 8), .ref (v0 + 9)]) rfl ?_
    obtain ⟨s5, e5, g2⟩ := bd g2
    refine Ev.iast D_46 (by decide +kernel) (S_sI (ra_k i0 9 _ (by decide +kernel)) e5) ?_
    refine Ev.seg D_46 [(.aload_n 0, 1)] (by decide +kernel) (j := 0) (pc' := 20) (lv' := [(0, .ref v0), (1, .int v1), (2, .int v2), (3, .int v3)]) (st' := [.ref v0]) rfl ?_
    refine Ev.getR D_46 (by decide +kernel) F_2_67 T_2_18 (x := (v0 + 10)) (S_oR (ra_o i0) (ra_r2 i0 18 10 (by decide +kernel))) ?_
    refine Ev.seg D_46 [(.aload_n 0, 1)] (by decide +kernel) (j := 0) (pc' := 24) (lv' := [(0, .ref v0), (1, .int v1), (2, .int v2), (3, .int v3)]) (st' := [.ref v0, .ref (v0 + 10)]) rfl ?_
    refine Ev.getI D_46 (by decide +kernel) F_2_36 (Or.inl T_2_8) (S_oI (ra_o i0)) ?_
    refine Ev.seg D_46 [(.iload_n 2, 1)] (by decide +kernel) (j := 0) (pc' := 28) (lv' := [(0, .ref v0), (1, .int v1), (2, .int v2), (3, .int v3)]) (st' := [.int v2, .int (s5.1 v0 8), .ref (v0 + 10)]) rfl ?_
    obtain ⟨s8, e8, g2⟩ := bd g2
    refine Ev.iast D_46 (by decide +kernel) (S_sI (ra_k i0 10 _ (by decide +kernel)) e8) ?_
    refine Ev.seg D_46 [(.aload_n 0, 1)] (by decide +kernel) (j := 0) (pc' := 30) (lv' := [(0, .ref v0), (1, .int v1), (2, .int v2), (3, .int v3)]) (st' := [.ref v0]) rfl ?_
    refine Ev.getR D_46 (by decide +kernel) F_2_70 T_2_19 (x := (v0 + 11)) (S_oR (ra_o i0) (ra_r2 i0 19 11 (by decide +kernel))) ?_
    refine Ev.seg D_46 [(.aload_n 0, 1)] (by decide +kernel) (j := 0) (pc' := 34) (lv' := [(0, .ref v0), (1, .int v1), (2, .int v2), (3, .int v3)]) (st' := [.ref v0, .ref (v0 + 11)]) rfl ?_
    refine Ev.getI D_46 (by decide +kernel) F_2_36 (Or.inl T_2_8) (S_oI (ra_o i0)) ?_
    refine Ev.seg D_46 [(.iload_n 3, 1)] (by decide +kernel) (j := 0) (pc' := 38) (lv' := [(0, .ref v0), (1, .int v1), (2, .int v2), (3, .int v3)]) (st' := [.int v3, .int (s8.1 v0 8), .ref (v0 + 11)]) rfl ?_
    obtain ⟨s11, e11, g2⟩ := bd g2
    refine Ev.iast D_46 (by decide +kernel) (S_sI (ra_k i0 11 _ (by decide +kernel)) e11) ?_
    refine Ev.seg D_46 [(.aload_n 0, 1), (.dup, 1)] (by decide +kernel) (j := 0) (pc' := 41) (lv' := [(0, .ref v0), (1, .int v1), (2, .int v2), (3, .int v3)]) (st' := [.ref v0, .ref v0]) rfl ?_
    refine Ev.getI D_46 (by decide +kernel) F_2_36 (Or.inl T_2_8) (S_oI (ra_o i0)) ?_
    refine Ev.seg D_46 [(.iconst 1, 1), (.iadd, 1)] (by decide +kernel) (j := 0) (pc' := 46) (lv' := [(0, .ref v0), (1, .int v1), (2, .int v2), (3, .int v3)]) (st' := [.int ((s11.1 v0 8) + (1 : Int32)), .ref v0]) rfl ?_
    refine Ev.putI D_46 (by decide +kernel) F_2_36 N_2_8 T_2_8 (S_pI (ra_o i0)) ?_
    cases g2
    exact Ev.sub2 j2 subL_nil
/- Reader isBlank: 50 -/
def gD_isBlank (v0 : Int32) (s : mT) : Option (Int32) :=
  (
    if v0 = (32 : Int32) then
      some ((1 : Int32))
    else
      if v0 = (10 : Int32) then
        some ((1 : Int32))
      else
        some ((0 : Int32)) : Option (Int32)).bind fun x1 =>
  if x1 = 0 ∨ x1 = 1 then some (x1) else none
set_option maxRecDepth 8000 in
theorem gD_isBlank_ok {L d : Nat} (hd : 1 ≤ d) {v0 : Int32} {s : mT} {p : Int32} (h : gD_isBlank v0 s = some p) : Ev d 50 0 [(0, .int v0)] [] (uS L s) (some (.int p), uS L s) := by
  obtain ⟨d, rfl⟩ : ∃ e, d = e + 1 := ⟨d - 1, by omega⟩
  obtain ⟨o, ho⟩ : ∃ o : Option Value × mS, o = (some (.int p), uS L s) := ⟨_, rfl⟩
  rw [← ho]
  unfold gD_isBlank at h
  refine Ev.seg D_50 [(.iload_n 0, 1), (.bipush 32, 2)] (by decide +kernel) (j := 0) (pc' := 3) (lv' := [(0, .int v0)]) (st' := [.int (32 : Int32), .int v0]) rfl ?_
  obtain ⟨x1, g1, h⟩ := bd h
  have j1 : Ev (d + 1) 50 17 [] [.int x1] (uS L s) o := by
    clear g1
    by_cases c3 : x1 = 0 ∨ x1 = 1
    · rw [if_pos c3] at h
      cases h
      obtain rfl : o = _ := ho
      exact Ev.zret D_50 c3 (by decide +kernel)
    · rw [if_neg c3] at h; cases h
  clear h
  refine Ev.icmp D_50 (c := .eq) (off := 9) (by decide +kernel) (t := 12) rfl (fun c1 => ?_) (fun c1 => ?_)
  · have c1 : v0 = (32 : Int32) := of_decide_eq_true c1
    rw [if_pos c1] at g1
    refine Ev.seg D_50 [(.iconst 1, 1), (.goto 4, 3)] (by decide +kernel) (j := 0) (pc' := 17) (lv' := [(0, .int v0)]) (st' := [.int (1 : Int32)]) rfl ?_
    cases g1
    exact Ev.sub2 j1 subL_nil
  · have c1 : ¬ v0 = (32 : Int32) := of_decide_eq_false c1
    rw [if_neg c1] at g1
    refine Ev.seg D_50 [(.iload_n 0, 1), (.bipush 10, 2)] (by decide +kernel) (j := 0) (pc' := 9) (lv' := [(0, .int v0)]) (st' := [.int (10 : Int32), .int v0]) rfl ?_
    refine Ev.icmp D_50 (c := .ne) (off := 7) (by decide +kernel) (t := 16) rfl (fun c2 => ?_) (fun c2 => ?_)
    · have c2 : ¬ v0 = (10 : Int32) := of_decide_eq_true c2
      rw [if_neg c2] at g1
      refine Ev.seg D_50 [(.iconst 0, 1)] (by decide +kernel) (j := 0) (pc' := 17) (lv' := [(0, .int v0)]) (st' := [.int (0 : Int32)]) rfl ?_
      cases g1
      exact Ev.sub2 j1 subL_nil
    · have c2 : v0 = (10 : Int32) := Decidable.of_not_not (of_decide_eq_false c2)
      rw [if_pos c2] at g1
      refine Ev.seg D_50 [(.iconst 1, 1), (.goto 4, 3)] (by decide +kernel) (j := 0) (pc' := 17) (lv' := [(0, .int v0)]) (st' := [.int (1 : Int32)]) rfl ?_
      cases g1
      exact Ev.sub2 j1 subL_nil
/- Reader isLetter: 51 -/
def gD_isLetter (v0 : Int32) (s : mT) : Option (Int32) :=
  (
    if v0 < (97 : Int32) then
      some ((0 : Int32))
    else
      if (122 : Int32) < v0 then
        some ((0 : Int32))
      else
        some ((1 : Int32)) : Option (Int32)).bind fun x1 =>
  if x1 = 0 ∨ x1 = 1 then some (x1) else none
set_option maxRecDepth 8000 in
theorem gD_isLetter_ok {L d : Nat} (hd : 1 ≤ d) {v0 : Int32} {s : mT} {p : Int32} (h : gD_isLetter v0 s = some p) : Ev d 51 0 [(0, .int v0)] [] (uS L s) (some (.int p), uS L s) := by
  obtain ⟨d, rfl⟩ : ∃ e, d = e + 1 := ⟨d - 1, by omega⟩
  obtain ⟨o, ho⟩ : ∃ o : Option Value × mS, o = (some (.int p), uS L s) := ⟨_, rfl⟩
  rw [← ho]
  unfold gD_isLetter at h
  refine Ev.seg D_51 [(.iload_n 0, 1), (.bipush 97, 2)] (by decide +kernel) (j := 0) (pc' := 3) (lv' := [(0, .int v0)]) (st' := [.int (97 : Int32), .int v0]) rfl ?_
  obtain ⟨x1, g1, h⟩ := bd h
  have j1 : Ev (d + 1) 51 17 [] [.int x1] (uS L s) o := by
    clear g1
    by_cases c3 : x1 = 0 ∨ x1 = 1
    · rw [if_pos c3] at h
      cases h
      obtain rfl : o = _ := ho
      exact Ev.zret D_51 c3 (by decide +kernel)
    · rw [if_neg c3] at h; cases h
  clear h
  refine Ev.icmp D_51 (c := .lt) (off := 13) (by decide +kernel) (t := 16) rfl (fun c1 => ?_) (fun c1 => ?_)
  · have c1 : v0 < (97 : Int32) := of_decide_eq_true c1
    rw [if_pos c1] at g1
    refine Ev.seg D_51 [(.iconst 0, 1)] (by decide +kernel) (j := 0) (pc' := 17) (lv' := [(0, .int v0)]) (st' := [.int (0 : Int32)]) rfl ?_
    cases g1
    exact Ev.sub2 j1 subL_nil
  · have c1 : ¬ v0 < (97 : Int32) := of_decide_eq_false c1
    rw [if_neg c1] at g1
    refine Ev.seg D_51 [(.iload_n 0, 1), (.bipush 122, 2)] (by decide +kernel) (j := 0) (pc' := 9) (lv' := [(0, .int v0)]) (st' := [.int (122 : Int32), .int v0]) rfl ?_
    refine Ev.icmp D_51 (c := .gt) (off := 7) (by decide +kernel) (t := 16) rfl (fun c2 => ?_) (fun c2 => ?_)
    · have c2 : (122 : Int32) < v0 := of_decide_eq_true c2
      rw [if_pos c2] at g1
      refine Ev.seg D_51 [(.iconst 0, 1)] (by decide +kernel) (j := 0) (pc' := 17) (lv' := [(0, .int v0)]) (st' := [.int (0 : Int32)]) rfl ?_
      cases g1
      exact Ev.sub2 j1 subL_nil
    · have c2 : ¬ (122 : Int32) < v0 := of_decide_eq_false c2
      rw [if_neg c2] at g1
      refine Ev.seg D_51 [(.iconst 1, 1), (.goto 4, 3)] (by decide +kernel) (j := 0) (pc' := 17) (lv' := [(0, .int v0)]) (st' := [.int (1 : Int32)]) rfl ?_
      cases g1
      exact Ev.sub2 j1 subL_nil
/- Reader passWord: 52 -/
def gD_passWord_h0  (q : mT) : Option ((mT) ⊕ (mT)) :=
  if (q.1 1 1) ≤ (q.1 3 4) then
    some (.inr q)
  else
    (rdI (q.1 2) 600 (q.1 3 4)).bind fun x8 =>
    (gD_isLetter x8 q).bind fun p9 =>
    if p9 = 0 then
      some (.inr q)
    else
      some (.inl (stI q 3 4 ((q.1 3 4) + (1 : Int32))))
set_option maxRecDepth 8000 in
theorem gD_passWord_h0_ok {L d : Nat} (hd : 2 ≤ d + 1)  : ∀ (q : mT) (x : (mT) ⊕ (mT)), gD_passWord_h0 q = some x → ∀ o, sK (fun q => Ev (d + 1) 52 0 [(0, .ref 3)] [] (uS L q) o) (fun r => Ev (d + 1) 52 45 [] [] (uS L r) o) x → Ev (d + 1) 52 0 [(0, .ref 3)] [] (uS L q) o := by
  intro q x h o ho
  unfold gD_passWord_h0 at h
  refine Ev.seg D_52 [(.aload_n 0, 1)] (by decide +kernel) (j := 0) (pc' := 1) (lv' := [(0, .ref 3)]) (st' := [.ref 3]) rfl ?_
  refine Ev.getI D_52 (by decide +kernel) F_3_25 (Or.inl T_3_4) (S_oI k_3) ?_
  refine Ev.seg D_52 [(.aload_n 0, 1)] (by decide +kernel) (j := 0) (pc' := 5) (lv' := [(0, .ref 3)]) (st' := [.ref 3, .int (q.1 3 4)]) rfl ?_
  refine Ev.getR D_52 (by decide +kernel) F_3_37 T_3_0 (x := 1) (S_oR k_3 (by decide +kernel)) ?_
  refine Ev.getI D_52 (by decide +kernel) F_3_155 (Or.inl T_8_1) (S_oI k_1) ?_
  refine Ev.icmp D_52 (c := .ge) (off := 34) (by decide +kernel) (t := 45) rfl (fun c4 => ?_) (fun c4 => ?_)
  · have c4 : (q.1 1 1) ≤ (q.1 3 4) := of_decide_eq_true c4
    rw [if_pos c4] at h
    cases h
    exact Ev.sub (lv' := []) subL_nil ho
  · have c4 : ¬ (q.1 1 1) ≤ (q.1 3 4) := of_decide_eq_false c4
    rw [if_neg c4] at h
    refine Ev.seg D_52 [(.aload_n 0, 1)] (by decide +kernel) (j := 0) (pc' := 15) (lv' := [(0, .ref 3)]) (st' := [.ref 3]) rfl ?_
    refine Ev.getR D_52 (by decide +kernel) F_3_37 T_3_0 (x := 1) (S_oR k_3 (by decide +kernel)) ?_
    refine Ev.getR D_52 (by decide +kernel) F_3_145 T_8_0 (x := 2) (S_oR k_1 (by decide +kernel)) ?_
    refine Ev.seg D_52 [(.aload_n 0, 1)] (by decide +kernel) (j := 0) (pc' := 22) (lv' := [(0, .ref 3)]) (st' := [.ref 3, .ref 2]) rfl ?_
    refine Ev.getI D_52 (by decide +kernel) F_3_25 (Or.inl T_3_4) (S_oI k_3) ?_
    obtain ⟨x8, e8, h⟩ := bd h
    refine Ev.iald D_52 (by decide +kernel) (S_aI k_2 e8) ?_
    obtain ⟨p9, e9, h⟩ := bd h
    refine Ev.calls D_52 E_51 (by decide +kernel) C_3_161 [.int x8] (r := []) rfl rfl (Nat.le_of_ble_eq_true rfl) (Nat.le_of_ble_eq_true rfl) (gD_isLetter_ok (by omega)  e9) ?_
    refine Ev.if_ D_52 (c := .eq) (off := 16) (by decide +kernel) (t := 45) rfl (fun c10 => ?_) (fun c10 => ?_)
    · have c10 : p9 = 0 := of_decide_eq_true c10
      rw [if_pos c10] at h
      cases h
      exact Ev.sub (lv' := []) subL_nil ho
    · have c10 : ¬ p9 = 0 := of_decide_eq_false c10
      rw [if_neg c10] at h
      refine Ev.seg D_52 [(.aload_n 0, 1), (.dup, 1)] (by decide +kernel) (j := 0) (pc' := 34) (lv' := [(0, .ref 3)]) (st' := [.ref 3, .ref 3]) rfl ?_
      refine Ev.getI D_52 (by decide +kernel) F_3_25 (Or.inl T_3_4) (S_oI k_3) ?_
      refine Ev.seg D_52 [(.iconst 1, 1), (.iadd, 1)] (by decide +kernel) (j := 0) (pc' := 39) (lv' := [(0, .ref 3)]) (st' := [.int ((q.1 3 4) + (1 : Int32)), .ref 3]) rfl ?_
      refine Ev.putI D_52 (by decide +kernel) F_3_25 N_3_4 T_3_4 (S_pI k_3) ?_
      refine Ev.seg D_52 [(.goto (-42), 3)] (by decide +kernel) (j := 0) (pc' := 0) (lv' := [(0, .ref 3)]) (st' := []) rfl ?_
      cases h
      exact Ev.sub (lv' := [(0, .ref 3)]) (subL_cons rfl subL_nil) ho
theorem gD_passWord_h0_w {L d : Nat} (hd : 2 ≤ d + 1)  : ∀ (n : Nat) (q : mT) (r : mT), wh n (gD_passWord_h0) q = some r → ∀ o, (fun r => Ev (d + 1) 52 45 [] [] (uS L r) o) r → Ev (d + 1) 52 0 [(0, .ref 3)] [] (uS L q) o :=
  fun n q r h o hc => wh_ev (E := fun (q : mT) o => Ev (d + 1) 52 0 [(0, .ref 3)] [] (uS L q) o) (C := fun (r : mT) o => (fun r => Ev (d + 1) 52 45 [] [] (uS L r) o) r) (gD_passWord_h0_ok hd  ) n q r h o hc
def gD_passWord (s : mT) : Option (mT) :=
  (wh FU (gD_passWord_h0) s).bind fun x13 =>
  some (x13)
set_option maxRecDepth 8000 in
theorem gD_passWord_ok {L d : Nat} (hd : 2 ≤ d) {s : mT} {p : mT} (h : gD_passWord s = some p) : Ev d 52 0 [(0, .ref 3)] [] (uS L s) (none, uS L p) := by
  obtain ⟨d, rfl⟩ : ∃ e, d = e + 1 := ⟨d - 1, by omega⟩
  obtain ⟨o, ho⟩ : ∃ o : Option Value × mS, o = (none, uS L p) := ⟨_, rfl⟩
  rw [← ho]
  unfold gD_passWord at h
  obtain ⟨x13, w13, h⟩ := bd h
  have j13 : Ev (d + 1) 52 45 [] [] (uS L x13) o := by
    clear w13
    cases h
    obtain rfl : o = _ := ho
    exact Ev.vret D_52 (by decide +kernel)
  exact Ev.sub (lv' := [(0, .ref 3)]) (subL_cons rfl subL_nil) (gD_passWord_h0_w hd   _ _ _ w13 _ j13)
/- Reader isDigit: 53 -/
def gD_isDigit (v0 : Int32) (s : mT) : Option (Int32) :=
  (
    if v0 < (48 : Int32) then
      some ((0 : Int32))
    else
      if (57 : Int32) < v0 then
        some ((0 : Int32))
      else
        some ((1 : Int32)) : Option (Int32)).bind fun x1 =>
  if x1 = 0 ∨ x1 = 1 then some (x1) else none
set_option maxRecDepth 8000 in
theorem gD_isDigit_ok {L d : Nat} (hd : 1 ≤ d) {v0 : Int32} {s : mT} {p : Int32} (h : gD_isDigit v0 s = some p) : Ev d 53 0 [(0, .int v0)] [] (uS L s) (some (.int p), uS L s) := by
  obtain ⟨d, rfl⟩ : ∃ e, d = e + 1 := ⟨d - 1, by omega⟩
  obtain ⟨o, ho⟩ : ∃ o : Option Value × mS, o = (some (.int p), uS L s) := ⟨_, rfl⟩
  rw [← ho]
  unfold gD_isDigit at h
  refine Ev.seg D_53 [(.iload_n 0, 1), (.bipush 48, 2)] (by decide +kernel) (j := 0) (pc' := 3) (lv' := [(0, .int v0)]) (st' := [.int (48 : Int32), .int v0]) rfl ?_
  obtain ⟨x1, g1, h⟩ := bd h
  have j1 : Ev (d + 1) 53 17 [] [.int x1] (uS L s) o := by
    clear g1
    by_cases c3 : x1 = 0 ∨ x1 = 1
    · rw [if_pos c3] at h
      cases h
      obtain rfl : o = _ := ho
      exact Ev.zret D_53 c3 (by decide +kernel)
    · rw [if_neg c3] at h; cases h
  clear h
  refine Ev.icmp D_53 (c := .lt) (off := 13) (by decide +kernel) (t := 16) rfl (fun c1 => ?_) (fun c1 => ?_)
  · have c1 : v0 < (48 : Int32) := of_decide_eq_true c1
    rw [if_pos c1] at g1
    refine Ev.seg D_53 [(.iconst 0, 1)] (by decide +kernel) (j := 0) (pc' := 17) (lv' := [(0, .int v0)]) (st' := [.int (0 : Int32)]) rfl ?_
    cases g1
    exact Ev.sub2 j1 subL_nil
  · have c1 : ¬ v0 < (48 : Int32) := of_decide_eq_false c1
    rw [if_neg c1] at g1
    refine Ev.seg D_53 [(.iload_n 0, 1), (.bipush 57, 2)] (by decide +kernel) (j := 0) (pc' := 9) (lv' := [(0, .int v0)]) (st' := [.int (57 : Int32), .int v0]) rfl ?_
    refine Ev.icmp D_53 (c := .gt) (off := 7) (by decide +kernel) (t := 16) rfl (fun c2 => ?_) (fun c2 => ?_)
    · have c2 : (57 : Int32) < v0 := of_decide_eq_true c2
      rw [if_pos c2] at g1
      refine Ev.seg D_53 [(.iconst 0, 1)] (by decide +kernel) (j := 0) (pc' := 17) (lv' := [(0, .int v0)]) (st' := [.int (0 : Int32)]) rfl ?_
      cases g1
      exact Ev.sub2 j1 subL_nil
    · have c2 : ¬ (57 : Int32) < v0 := of_decide_eq_false c2
      rw [if_neg c2] at g1
      refine Ev.seg D_53 [(.iconst 1, 1), (.goto 4, 3)] (by decide +kernel) (j := 0) (pc' := 17) (lv' := [(0, .int v0)]) (st' := [.int (1 : Int32)]) rfl ?_
      cases g1
      exact Ev.sub2 j1 subL_nil
/- Reader passNumber: 54 -/
def gD_passNumber_h5  (q : mT) : Option ((mT) ⊕ (mT)) :=
  if (q.1 1 1) ≤ (q.1 3 4) then
    some (.inr q)
  else
    (rdI (q.1 2) 600 (q.1 3 4)).bind fun x8 =>
    (gD_isDigit x8 q).bind fun p9 =>
    if p9 = 0 then
      some (.inr q)
    else
      (rdI (q.1 2) 600 (q.1 3 4)).bind fun x16 =>
      (some (stI (stI q 3 7 (imin (1000000 : Int32) (((q.1 3 7) * (10 : Int32)) + (x16 - (48 : Int32))))) 3 4 (((stI q 3 7 (imin (1000000 : Int32) (((q.1 3 7) * (10 : Int32)) + (x16 - (48 : Int32))))).1 3 4) + (1 : Int32)))).bind fun s20 =>
      some (.inl s20)
set_option maxRecDepth 8000 in
theorem gD_passNumber_h5_ok {L d : Nat} (hd : 2 ≤ d + 1)  : ∀ (q : mT) (x : (mT) ⊕ (mT)), gD_passNumber_h5 q = some x → ∀ o, sK (fun q => Ev (d + 1) 54 5 [(0, .ref 3)] [] (uS L q) o) (fun r => Ev (d + 1) 54 82 [] [] (uS L r) o) x → Ev (d + 1) 54 5 [(0, .ref 3)] [] (uS L q) o := by
  intro q x h o ho
  unfold gD_passNumber_h5 at h
  refine Ev.seg D_54 [(.aload_n 0, 1)] (by decide +kernel) (j := 0) (pc' := 6) (lv' := [(0, .ref 3)]) (st' := [.ref 3]) rfl ?_
  refine Ev.getI D_54 (by decide +kernel) F_3_25 (Or.inl T_3_4) (S_oI k_3) ?_
  refine Ev.seg D_54 [(.aload_n 0, 1)] (by decide +kernel) (j := 0) (pc' := 10) (lv' := [(0, .ref 3)]) (st' := [.ref 3, .int (q.1 3 4)]) rfl ?_
  refine Ev.getR D_54 (by decide +kernel) F_3_37 T_3_0 (x := 1) (S_oR k_3 (by decide +kernel)) ?_
  refine Ev.getI D_54 (by decide +kernel) F_3_155 (Or.inl T_8_1) (S_oI k_1) ?_
  refine Ev.icmp D_54 (c := .ge) (off := 66) (by decide +kernel) (t := 82) rfl (fun c4 => ?_) (fun c4 => ?_)
  · have c4 : (q.1 1 1) ≤ (q.1 3 4) := of_decide_eq_true c4
    rw [if_pos c4] at h
    cases h
    exact Ev.sub (lv' := []) subL_nil ho
  · have c4 : ¬ (q.1 1 1) ≤ (q.1 3 4) := of_decide_eq_false c4
    rw [if_neg c4] at h
    refine Ev.seg D_54 [(.aload_n 0, 1)] (by decide +kernel) (j := 0) (pc' := 20) (lv' := [(0, .ref 3)]) (st' := [.ref 3]) rfl ?_
    refine Ev.getR D_54 (by decide +kernel) F_3_37 T_3_0 (x := 1) (S_oR k_3 (by decide +kernel)) ?_
    refine Ev.getR D_54 (by decide +kernel) F_3_145 T_8_0 (x := 2) (S_oR k_1 (by decide +kernel)) ?_
    refine Ev.seg D_54 [(.aload_n 0, 1)] (by decide +kernel) (j := 0) (pc' := 27) (lv' := [(0, .ref 3)]) (st' := [.ref 3, .ref 2]) rfl ?_
    refine Ev.getI D_54 (by decide +kernel) F_3_25 (Or.inl T_3_4) (S_oI k_3) ?_
    obtain ⟨x8, e8, h⟩ := bd h
    refine Ev.iald D_54 (by decide +kernel) (S_aI k_2 e8) ?_
    obtain ⟨p9, e9, h⟩ := bd h
    refine Ev.calls D_54 E_53 (by decide +kernel) C_3_167 [.int x8] (r := []) rfl rfl (Nat.le_of_ble_eq_true rfl) (Nat.le_of_ble_eq_true rfl) (gD_isDigit_ok (by omega)  e9) ?_
    refine Ev.if_ D_54 (c := .eq) (off := 48) (by decide +kernel) (t := 82) rfl (fun c10 => ?_) (fun c10 => ?_)
    · have c10 : p9 = 0 := of_decide_eq_true c10
      rw [if_pos c10] at h
      cases h
      exact Ev.sub (lv' := []) subL_nil ho
    · have c10 : ¬ p9 = 0 := of_decide_eq_false c10
      rw [if_neg c10] at h
      refine Ev.seg D_54 [(.aload_n 0, 1)] (by decide +kernel) (j := 0) (pc' := 38) (lv' := [(0, .ref 3)]) (st' := [.ref 3]) rfl ?_
      refine Ev.ldc D_54 (i := 173) (by decide +kernel) (v := .int (1000000 : Int32)) (by decide +kernel) ?_
      refine Ev.seg D_54 [(.aload_n 0, 1)] (by decide +kernel) (j := 0) (pc' := 41) (lv' := [(0, .ref 3)]) (st' := [.ref 3, .int (1000000 : Int32), .ref 3]) rfl ?_
      refine Ev.getI D_54 (by decide +kernel) F_3_34 (Or.inl T_3_7) (S_oI k_3) ?_
      refine Ev.seg D_54 [(.bipush 10, 2), (.imul, 1), (.aload_n 0, 1)] (by decide +kernel) (j := 0) (pc' := 48) (lv' := [(0, .ref 3)]) (st' := [.ref 3, .int ((q.1 3 7) * (10 : Int32)), .int (1000000 : Int32), .ref 3]) rfl ?_
      refine Ev.getR D_54 (by decide +kernel) F_3_37 T_3_0 (x := 1) (S_oR k_3 (by decide +kernel)) ?_
      refine Ev.getR D_54 (by decide +kernel) F_3_145 T_8_0 (x := 2) (S_oR k_1 (by decide +kernel)) ?_
      refine Ev.seg D_54 [(.aload_n 0, 1)] (by decide +kernel) (j := 0) (pc' := 55) (lv' := [(0, .ref 3)]) (st' := [.ref 3, .ref 2, .int ((q.1 3 7) * (10 : Int32)), .int (1000000 : Int32), .ref 3]) rfl ?_
      refine Ev.getI D_54 (by decide +kernel) F_3_25 (Or.inl T_3_4) (S_oI k_3) ?_
      obtain ⟨x16, e16, h⟩ := bd h
      refine Ev.iald D_54 (by decide +kernel) (S_aI k_2 e16) ?_
      refine Ev.seg D_54 [(.bipush 48, 2), (.isub, 1), (.iadd, 1)] (by decide +kernel) (j := 0) (pc' := 63) (lv' := [(0, .ref 3)]) (st' := [.int (((q.1 3 7) * (10 : Int32)) + (x16 - (48 : Int32))), .int (1000000 : Int32), .ref 3]) rfl ?_
      refine Ev.min D_54 (by decide +kernel) (Nat.succ_pos _) C_3_174 (Nat.le_of_ble_eq_true rfl) ?_
      refine Ev.putI D_54 (by decide +kernel) F_3_34 N_3_7 T_3_7 (S_pI k_3) ?_
      refine Ev.seg D_54 [(.aload_n 0, 1), (.dup, 1)] (by decide +kernel) (j := 0) (pc' := 71) (lv' := [(0, .ref 3)]) (st' := [.ref 3, .ref 3]) rfl ?_
      refine Ev.getI D_54 (by decide +kernel) F_3_25 (Or.inl T_3_4) (S_oI k_3) ?_
      refine Ev.seg D_54 [(.iconst 1, 1), (.iadd, 1)] (by decide +kernel) (j := 0) (pc' := 76) (lv' := [(0, .ref 3)]) (st' := [.int (((stI q 3 7 (imin (1000000 : Int32) (((q.1 3 7) * (10 : Int32)) + (x16 - (48 : Int32))))).1 3 4) + (1 : Int32)), .ref 3]) rfl ?_
      obtain ⟨s20, e20, h⟩ := bd h
      refine Ev.putI D_54 (by decide +kernel) F_3_25 N_3_4 T_3_4 (S_pIb k_3 e20) ?_
      refine Ev.seg D_54 [(.goto (-74), 3)] (by decide +kernel) (j := 0) (pc' := 5) (lv' := [(0, .ref 3)]) (st' := []) rfl ?_
      cases h
      exact Ev.sub (lv' := [(0, .ref 3)]) (subL_cons rfl subL_nil) ho
theorem gD_passNumber_h5_w {L d : Nat} (hd : 2 ≤ d + 1)  : ∀ (n : Nat) (q : mT) (r : mT), wh n (gD_passNumber_h5) q = some r → ∀ o, (fun r => Ev (d + 1) 54 82 [] [] (uS L r) o) r → Ev (d + 1) 54 5 [(0, .ref 3)] [] (uS L q) o :=
  fun n q r h o hc => wh_ev (E := fun (q : mT) o => Ev (d + 1) 54 5 [(0, .ref 3)] [] (uS L q) o) (C := fun (r : mT) o => (fun r => Ev (d + 1) 54 82 [] [] (uS L r) o) r) (gD_passNumber_h5_ok hd  ) n q r h o hc
def gD_passNumber (s : mT) : Option (mT) :=
  (wh FU (gD_passNumber_h5) (stI s 3 7 (0 : Int32))).bind fun x21 =>
  some (x21)
set_option maxRecDepth 8000 in
theorem gD_passNumber_ok {L d : Nat} (hd : 2 ≤ d) {s : mT} {p : mT} (h : gD_passNumber s = some p) : Ev d 54 0 [(0, .ref 3)] [] (uS L s) (none, uS L p) := by
  obtain ⟨d, rfl⟩ : ∃ e, d = e + 1 := ⟨d - 1, by omega⟩
  obtain ⟨o, ho⟩ : ∃ o : Option Value × mS, o = (none, uS L p) := ⟨_, rfl⟩
  rw [← ho]
  unfold gD_passNumber at h
  refine Ev.seg D_54 [(.aload_n 0, 1), (.iconst 0, 1)] (by decide +kernel) (j := 0) (pc' := 2) (lv' := [(0, .ref 3)]) (st' := [.int (0 : Int32), .ref 3]) rfl ?_
  refine Ev.putI D_54 (by decide +kernel) F_3_34 N_3_7 T_3_7 (S_pI k_3) ?_
  obtain ⟨x21, w21, h⟩ := bd h
  have j21 : Ev (d + 1) 54 82 [] [] (uS L x21) o := by
    clear w21
    cases h
    obtain rfl : o = _ := ho
    exact Ev.vret D_54 (by decide +kernel)
  exact Ev.sub (lv' := [(0, .ref 3)]) (subL_cons rfl subL_nil) (gD_passNumber_h5_w hd   _ _ _ w21 _ j21)
