/-! The program's methods as functions of ints and longs, each with its certificate (wip/whole/gen_emit.py writes this) -/
/- Survey othersThanTold: 86 -/
def gV_othersThanTold_h4 (s : mT) (q : Int32 × Int32) : Option ((Int32 × Int32) ⊕ (Int32)) :=
  if (s.1 16 6) ≤ q.2 then
    some (.inr q.1)
  else
    (rdI (s.1 124) 5 q.2).bind fun x6 =>
    (rdI (s.1 22) 5 q.2).bind fun x9 =>
    (
      if x6 = x9 then
        some (q.1)
      else
        some (q.1 + (1 : Int32)) : Option (Int32)).bind fun x10 =>
    some (.inl (x10, q.2 + (1 : Int32)))
set_option maxRecDepth 8000 in
theorem gV_othersThanTold_h4_ok {L d : Nat} (hd : 1 ≤ d + 1) {s : mT} : ∀ (q : Int32 × Int32) (x : (Int32 × Int32) ⊕ (Int32)), gV_othersThanTold_h4 s q = some x → ∀ o, sK (fun q => Ev (d + 1) 86 4 [(0, .ref 214), (1, .int q.1), (2, .int q.2)] [] (uS L s) o) (fun r => Ev (d + 1) 86 45 [(1, .int r)] [] (uS L s) o) x → Ev (d + 1) 86 4 [(0, .ref 214), (1, .int q.1), (2, .int q.2)] [] (uS L s) o := by
  intro q x h o ho
  unfold gV_othersThanTold_h4 at h
  refine Ev.seg D_86 [(.iload_n 2, 1), (.aload_n 0, 1)] (by decide +kernel) (j := 0) (pc' := 6) (lv' := [(0, .ref 214), (1, .int q.1), (2, .int q.2)]) (st' := [.ref 214, .int q.2]) rfl ?_
  refine Ev.getR D_86 (by decide +kernel) F_7_33 T_7_0 (x := 16) (S_oR k_214 (by decide +kernel)) ?_
  refine Ev.getI D_86 (by decide +kernel) F_7_79 (Or.inl T_2_6) (S_oI k_16) ?_
  refine Ev.icmp D_86 (c := .ge) (off := 33) (by decide +kernel) (t := 45) rfl (fun c3 => ?_) (fun c3 => ?_)
  · have c3 : (s.1 16 6) ≤ q.2 := of_decide_eq_true c3
    rw [if_pos c3] at h
    cases h
    exact Ev.sub (lv' := [(1, .int q.1)]) (subL_cons rfl subL_nil) ho
  · have c3 : ¬ (s.1 16 6) ≤ q.2 := of_decide_eq_false c3
    rw [if_neg c3] at h
    refine Ev.seg D_86 [(.aload_n 0, 1)] (by decide +kernel) (j := 0) (pc' := 16) (lv' := [(0, .ref 214), (1, .int q.1), (2, .int q.2)]) (st' := [.ref 214]) rfl ?_
    refine Ev.getR D_86 (by decide +kernel) F_7_37 T_7_1 (x := 121) (S_oR k_214 (by decide +kernel)) ?_
    refine Ev.getR D_86 (by decide +kernel) F_7_67 T_0_4 (x := 124) (S_oR k_121 (by decide +kernel)) ?_
    refine Ev.seg D_86 [(.iload_n 2, 1)] (by decide +kernel) (j := 0) (pc' := 23) (lv' := [(0, .ref 214), (1, .int q.1), (2, .int q.2)]) (st' := [.int q.2, .ref 124]) rfl ?_
    obtain ⟨x6, e6, h⟩ := bd h
    refine Ev.iald D_86 (by decide +kernel) (S_aI k_124 e6) ?_
    refine Ev.seg D_86 [(.aload_n 0, 1)] (by decide +kernel) (j := 0) (pc' := 25) (lv' := [(0, .ref 214), (1, .int q.1), (2, .int q.2)]) (st' := [.ref 214, .int x6]) rfl ?_
    refine Ev.getR D_86 (by decide +kernel) F_7_33 T_7_0 (x := 16) (S_oR k_214 (by decide +kernel)) ?_
    refine Ev.getR D_86 (by decide +kernel) F_7_85 T_2_14 (x := 22) (S_oR k_16 (by decide +kernel)) ?_
    refine Ev.seg D_86 [(.iload_n 2, 1)] (by decide +kernel) (j := 0) (pc' := 32) (lv' := [(0, .ref 214), (1, .int q.1), (2, .int q.2)]) (st' := [.int q.2, .ref 22, .int x6]) rfl ?_
    obtain ⟨x9, e9, h⟩ := bd h
    refine Ev.iald D_86 (by decide +kernel) (S_aI k_22 e9) ?_
    obtain ⟨x10, g10, h⟩ := bd h
    have j10 : Ev (d + 1) 86 39 [(0, .ref 214), (1, .int x10), (2, .int q.2)] [] (uS L s) o := by
      clear g10
      refine Ev.seg D_86 [(.iinc 2 1, 3), (.goto (-38), 3)] (by decide +kernel) (j := 0) (pc' := 4) (lv' := [(2, .int (q.2 + (1 : Int32))), (0, .ref 214), (1, .int x10)]) (st' := []) rfl ?_
      cases h
      exact Ev.sub (lv' := [(0, .ref 214), (1, .int (x10)), (2, .int (q.2 + (1 : Int32)))]) (subL_cons rfl (subL_cons rfl (subL_cons rfl subL_nil))) ho
    clear h
    refine Ev.icmp D_86 (c := .eq) (off := 6) (by decide +kernel) (t := 39) rfl (fun c10 => ?_) (fun c10 => ?_)
    · have c10 : x6 = x9 := of_decide_eq_true c10
      rw [if_pos c10] at g10
      cases g10
      exact Ev.sub2 j10 (subL_cons rfl (subL_cons rfl (subL_cons rfl subL_nil)))
    · have c10 : ¬ x6 = x9 := of_decide_eq_false c10
      rw [if_neg c10] at g10
      refine Ev.seg D_86 [(.iinc 1 1, 3)] (by decide +kernel) (j := 0) (pc' := 39) (lv' := [(1, .int (q.1 + (1 : Int32))), (0, .ref 214), (2, .int q.2)]) (st' := []) rfl ?_
      cases g10
      exact Ev.sub2 j10 (subL_cons rfl (subL_cons rfl (subL_cons rfl subL_nil)))
theorem gV_othersThanTold_h4_w {L d : Nat} (hd : 1 ≤ d + 1) {s : mT} : ∀ (n : Nat) (q : Int32 × Int32) (r : Int32), wh n (gV_othersThanTold_h4 s) q = some r → ∀ o, (fun r => Ev (d + 1) 86 45 [(1, .int r)] [] (uS L s) o) r → Ev (d + 1) 86 4 [(0, .ref 214), (1, .int q.1), (2, .int q.2)] [] (uS L s) o :=
  fun n q r h o hc => wh_ev (E := fun (q : Int32 × Int32) o => Ev (d + 1) 86 4 [(0, .ref 214), (1, .int q.1), (2, .int q.2)] [] (uS L s) o) (C := fun (r : Int32) o => (fun r => Ev (d + 1) 86 45 [(1, .int r)] [] (uS L s) o) r) (gV_othersThanTold_h4_ok hd  ) n q r h o hc
def gV_othersThanTold (s : mT) : Option (Int32) :=
  (wh FU (gV_othersThanTold_h4 s) ((0 : Int32), (0 : Int32))).bind fun x11 =>
  some (x11)
set_option maxRecDepth 8000 in
theorem gV_othersThanTold_ok {L d : Nat} (hd : 1 ≤ d) {s : mT} {p : Int32} (h : gV_othersThanTold s = some p) : Ev d 86 0 [(0, .ref 214)] [] (uS L s) (some (.int p), uS L s) := by
  obtain ⟨d, rfl⟩ : ∃ e, d = e + 1 := ⟨d - 1, by omega⟩
  obtain ⟨o, ho⟩ : ∃ o : Option Value × mS, o = (some (.int p), uS L s) := ⟨_, rfl⟩
  rw [← ho]
  unfold gV_othersThanTold at h
  refine Ev.seg D_86 [(.iconst 0, 1), (.istore_n 1, 1), (.iconst 0, 1), (.istore_n 2, 1)] (by decide +kernel) (j := 0) (pc' := 4) (lv' := [(2, .int (0 : Int32)), (1, .int (0 : Int32)), (0, .ref 214)]) (st' := []) rfl ?_
  obtain ⟨x11, w11, h⟩ := bd h
  have j11 : Ev (d + 1) 86 45 [(1, .int x11)] [] (uS L s) o := by
    clear w11
    refine Ev.seg D_86 [(.iload_n 1, 1)] (by decide +kernel) (j := 0) (pc' := 46) (lv' := [(1, .int x11)]) (st' := [.int x11]) rfl ?_
    cases h
    obtain rfl : o = _ := ho
    exact Ev.iret D_86 (by decide +kernel)
  exact Ev.sub (lv' := [(0, .ref 214), (1, .int (0 : Int32)), (2, .int (0 : Int32))]) (subL_cons rfl (subL_cons rfl (subL_cons rfl subL_nil))) (gV_othersThanTold_h4_w hd   _ _ _ w11 _ j11)
/- Survey noteWinner: 85 -/
def gV_noteWinner (v1 : Int32) (s : mT) : Option (mT) :=
  if v1 < 0 then
    some (s)
  else
    if v1 < (5 : Int32) then
      (rdI (s.1 215) 5 v1).bind fun x5 =>
      (
        if x5 = 0 then
          if ¬ (v1 < 0 ∨ 5 ≤ v1.toNatClampNeg) then
            (cpI s 124 5 (0 : Int32) (220 + v1.toNatClampNeg) 5 (0 : Int32) (5 : Int32)).bind fun s11 =>
            some (s11)
          else none
        else
          some (s) : Option (mT)).bind fun x6 =>
      (rdI (x6.1 215) 5 v1).bind fun x13 =>
      (wrI x6 215 5 v1 (x13 + (1 : Int32))).bind fun s14 =>
      (gV_othersThanTold s14).bind fun p15 =>
      (rdI (s14.1 216) 5 v1).bind fun x17 =>
      (
        if x17 = (-1 : Int32) then
          (wrI s14 216 5 v1 p15).bind fun s20 =>
          some (s20)
        else
          (rdI (s14.1 216) 5 v1).bind fun x22 =>
          if x22 ≤ p15 then
            some (s14)
          else
            (wrI s14 216 5 v1 p15).bind fun s25 =>
            some (s25) : Option (mT)).bind fun x18 =>
      some (x18)
    else
      some (s)
set_option maxRecDepth 8000 in
theorem gV_noteWinner_ok {L d : Nat} (hd : 2 ≤ d) {v1 : Int32} {s : mT} {p : mT} (h : gV_noteWinner v1 s = some p) : Ev d 85 0 [(0, .ref 214), (1, .int v1)] [] (uS L s) (none, uS L p) := by
  obtain ⟨d, rfl⟩ : ∃ e, d = e + 1 := ⟨d - 1, by omega⟩
  obtain ⟨o, ho⟩ : ∃ o : Option Value × mS, o = (none, uS L p) := ⟨_, rfl⟩
  rw [← ho]
  unfold gV_noteWinner at h
  refine Ev.seg D_85 [(.iload_n 1, 1)] (by decide +kernel) (j := 0) (pc' := 1) (lv' := [(0, .ref 214), (1, .int v1)]) (st' := [.int v1]) rfl ?_
  refine Ev.if_ D_85 (c := .lt) (off := 8) (by decide +kernel) (t := 9) rfl (fun c1 => ?_) (fun c1 => ?_)
  · have c1 : v1 < 0 := of_decide_eq_true c1
    rw [if_pos c1] at h
    cases h
    obtain rfl : o = _ := ho
    exact Ev.vret D_85 (by decide +kernel)
  · have c1 : ¬ v1 < 0 := of_decide_eq_false c1
    rw [if_neg c1] at h
    refine Ev.seg D_85 [(.iload_n 1, 1), (.iconst 5, 1)] (by decide +kernel) (j := 0) (pc' := 6) (lv' := [(0, .ref 214), (1, .int v1)]) (st' := [.int (5 : Int32), .int v1]) rfl ?_
    refine Ev.icmp D_85 (c := .lt) (off := 4) (by decide +kernel) (t := 10) rfl (fun c3 => ?_) (fun c3 => ?_)
    · have c3 : v1 < (5 : Int32) := of_decide_eq_true c3
      rw [if_pos c3] at h
      refine Ev.seg D_85 [(.aload_n 0, 1)] (by decide +kernel) (j := 0) (pc' := 11) (lv' := [(0, .ref 214), (1, .int v1)]) (st' := [.ref 214]) rfl ?_
      refine Ev.getR D_85 (by decide +kernel) F_7_15 T_7_3 (x := 215) (S_oR k_214 (by decide +kernel)) ?_
      refine Ev.seg D_85 [(.iload_n 1, 1)] (by decide +kernel) (j := 0) (pc' := 15) (lv' := [(0, .ref 214), (1, .int v1)]) (st' := [.int v1, .ref 215]) rfl ?_
      obtain ⟨x5, e5, h⟩ := bd h
      refine Ev.iald D_85 (by decide +kernel) (S_aI k_215 e5) ?_
      obtain ⟨x6, g6, h⟩ := bd h
      have j6 : Ev (d + 1) 85 38 [(0, .ref 214), (1, .int v1)] [] (uS L x6) o := by
        clear g6
        refine Ev.seg D_85 [(.aload_n 0, 1)] (by decide +kernel) (j := 0) (pc' := 39) (lv' := [(0, .ref 214), (1, .int v1)]) (st' := [.ref 214]) rfl ?_
        refine Ev.getR D_85 (by decide +kernel) F_7_15 T_7_3 (x := 215) (S_oR k_214 (by decide +kernel)) ?_
        refine Ev.seg D_85 [(.iload_n 1, 1), (.dup2, 1)] (by decide +kernel) (j := 0) (pc' := 44) (lv' := [(0, .ref 214), (1, .int v1)]) (st' := [.int v1, .ref 215, .int v1, .ref 215]) rfl ?_
        obtain ⟨x13, e13, h⟩ := bd h
        refine Ev.iald D_85 (by decide +kernel) (S_aI k_215 e13) ?_
        refine Ev.seg D_85 [(.iconst 1, 1), (.iadd, 1)] (by decide +kernel) (j := 0) (pc' := 47) (lv' := [(0, .ref 214), (1, .int v1)]) (st' := [.int (x13 + (1 : Int32)), .int v1, .ref 215]) rfl ?_
        obtain ⟨s14, e14, h⟩ := bd h
        refine Ev.iast D_85 (by decide +kernel) (S_sI k_215 e14) ?_
        refine Ev.seg D_85 [(.aload_n 0, 1)] (by decide +kernel) (j := 0) (pc' := 49) (lv' := [(0, .ref 214), (1, .int v1)]) (st' := [.ref 214]) rfl ?_
        obtain ⟨p15, e15, h⟩ := bd h
        refine Ev.callv D_85 E_86 (by decide +kernel) C_7_76 214 [] (r := []) rfl (gd_o k_214 (by decide)) rfl (Nat.le_of_ble_eq_true rfl) (Nat.le_of_ble_eq_true rfl) (gV_othersThanTold_ok (by omega)  e15) ?_
        refine Ev.seg D_85 [(.istore_n 2, 1), (.aload_n 0, 1)] (by decide +kernel) (j := 0) (pc' := 54) (lv' := [(2, .int p15), (0, .ref 214), (1, .int v1)]) (st' := [.ref 214]) rfl ?_
        refine Ev.getR D_85 (by decide +kernel) F_7_19 T_7_4 (x := 216) (S_oR k_214 (by decide +kernel)) ?_
        refine Ev.seg D_85 [(.iload_n 1, 1)] (by decide +kernel) (j := 0) (pc' := 58) (lv' := [(2, .int p15), (0, .ref 214), (1, .int v1)]) (st' := [.int v1, .ref 216]) rfl ?_
        obtain ⟨x17, e17, h⟩ := bd h
        refine Ev.iald D_85 (by decide +kernel) (S_aI k_216 e17) ?_
        refine Ev.seg D_85 [(.iconst (-1), 1)] (by decide +kernel) (j := 0) (pc' := 60) (lv' := [(2, .int p15), (0, .ref 214), (1, .int v1)]) (st' := [.int (-1 : Int32), .int x17]) rfl ?_
        obtain ⟨x18, g18, h⟩ := bd h
        have j18 : Ev (d + 1) 85 80 [] [] (uS L x18) o := by
          clear g18
          cases h
          obtain rfl : o = _ := ho
          exact Ev.vret D_85 (by decide +kernel)
        clear h
        refine Ev.icmp D_85 (c := .eq) (off := 13) (by decide +kernel) (t := 73) rfl (fun c18 => ?_) (fun c18 => ?_)
        · have c18 : x17 = (-1 : Int32) := of_decide_eq_true c18
          rw [if_pos c18] at g18
          refine Ev.seg D_85 [(.aload_n 0, 1)] (by decide +kernel) (j := 0) (pc' := 74) (lv' := [(2, .int p15), (0, .ref 214), (1, .int v1)]) (st' := [.ref 214]) rfl ?_
          refine Ev.getR D_85 (by decide +kernel) F_7_19 T_7_4 (x := 216) (S_oR k_214 (by decide +kernel)) ?_
          refine Ev.seg D_85 [(.iload_n 1, 1), (.iload_n 2, 1)] (by decide +kernel) (j := 0) (pc' := 79) (lv' := [(2, .int p15), (0, .ref 214), (1, .int v1)]) (st' := [.int p15, .int v1, .ref 216]) rfl ?_
          obtain ⟨s20, e20, g18⟩ := bd g18
          refine Ev.iast D_85 (by decide +kernel) (S_sI k_216 e20) ?_
          cases g18
          exact Ev.sub2 j18 subL_nil
        · have c18 : ¬ x17 = (-1 : Int32) := of_decide_eq_false c18
          rw [if_neg c18] at g18
          refine Ev.seg D_85 [(.iload_n 2, 1), (.aload_n 0, 1)] (by decide +kernel) (j := 0) (pc' := 65) (lv' := [(2, .int p15), (0, .ref 214), (1, .int v1)]) (st' := [.ref 214, .int p15]) rfl ?_
          refine Ev.getR D_85 (by decide +kernel) F_7_19 T_7_4 (x := 216) (S_oR k_214 (by decide +kernel)) ?_
          refine Ev.seg D_85 [(.iload_n 1, 1)] (by decide +kernel) (j := 0) (pc' := 69) (lv' := [(2, .int p15), (0, .ref 214), (1, .int v1)]) (st' := [.int v1, .ref 216, .int p15]) rfl ?_
          obtain ⟨x22, e22, g18⟩ := bd g18
          refine Ev.iald D_85 (by decide +kernel) (S_aI k_216 e22) ?_
          refine Ev.icmp D_85 (c := .ge) (off := 10) (by decide +kernel) (t := 80) rfl (fun c23 => ?_) (fun c23 => ?_)
          · have c23 : x22 ≤ p15 := of_decide_eq_true c23
            rw [if_pos c23] at g18
            cases g18
            exact Ev.sub2 j18 subL_nil
          · have c23 : ¬ x22 ≤ p15 := of_decide_eq_false c23
            rw [if_neg c23] at g18
            refine Ev.seg D_85 [(.aload_n 0, 1)] (by decide +kernel) (j := 0) (pc' := 74) (lv' := [(2, .int p15), (0, .ref 214), (1, .int v1)]) (st' := [.ref 214]) rfl ?_
            refine Ev.getR D_85 (by decide +kernel) F_7_19 T_7_4 (x := 216) (S_oR k_214 (by decide +kernel)) ?_
            refine Ev.seg D_85 [(.iload_n 1, 1), (.iload_n 2, 1)] (by decide +kernel) (j := 0) (pc' := 79) (lv' := [(2, .int p15), (0, .ref 214), (1, .int v1)]) (st' := [.int p15, .int v1, .ref 216]) rfl ?_
            obtain ⟨s25, e25, g18⟩ := bd g18
            refine Ev.iast D_85 (by decide +kernel) (S_sI k_216 e25) ?_
            cases g18
            exact Ev.sub2 j18 subL_nil
      clear h
      refine Ev.if_ D_85 (c := .ne) (off := 22) (by decide +kernel) (t := 38) rfl (fun c6 => ?_) (fun c6 => ?_)
      · have c6 : ¬ x5 = 0 := of_decide_eq_true c6
        rw [if_neg c6] at g6
        cases g6
        exact Ev.sub2 j6 (subL_cons rfl (subL_cons rfl subL_nil))
      · have c6 : x5 = 0 := Decidable.of_not_not (of_decide_eq_false c6)
        rw [if_pos c6] at g6
        refine Ev.seg D_85 [(.aload_n 0, 1)] (by decide +kernel) (j := 0) (pc' := 20) (lv' := [(0, .ref 214), (1, .int v1)]) (st' := [.ref 214]) rfl ?_
        refine Ev.getR D_85 (by decide +kernel) F_7_37 T_7_1 (x := 121) (S_oR k_214 (by decide +kernel)) ?_
        refine Ev.getR D_85 (by decide +kernel) F_7_67 T_0_4 (x := 124) (S_oR k_121 (by decide +kernel)) ?_
        refine Ev.seg D_85 [(.iconst 0, 1), (.aload_n 0, 1)] (by decide +kernel) (j := 0) (pc' := 28) (lv' := [(0, .ref 214), (1, .int v1)]) (st' := [.ref 214, .int (0 : Int32), .ref 124]) rfl ?_
        refine Ev.getR D_85 (by decide +kernel) F_7_30 T_7_7 (x := 219) (S_oR k_214 (by decide +kernel)) ?_
        refine Ev.seg D_85 [(.iload_n 1, 1)] (by decide +kernel) (j := 0) (pc' := 32) (lv' := [(0, .ref 214), (1, .int v1)]) (st' := [.int v1, .ref 219, .int (0 : Int32), .ref 124]) rfl ?_
        by_cases b32 : ¬ (v1 < 0 ∨ 5 ≤ v1.toNatClampNeg)
        rotate_left
        · rw [if_neg b32] at g6; cases g6
        rw [if_pos b32] at g6
        refine Ev.aald D_85 (by decide +kernel) (kd := 26) ⟨by decide, by decide⟩ (x := (220 + v1.toNatClampNeg)) (S_aR k_219 b32 (lit_aa (e := 220) (n := 5) (by decide +kernel) b32)) ?_
        refine Ev.seg D_85 [(.iconst 0, 1), (.iconst 5, 1)] (by decide +kernel) (j := 0) (pc' := 35) (lv' := [(0, .ref 214), (1, .int v1)]) (st' := [.int (5 : Int32), .int (0 : Int32), .ref (220 + v1.toNatClampNeg), .int (0 : Int32), .ref 124]) rfl ?_
        obtain ⟨s11, e11, g6⟩ := bd g6
        refine Ev.cpI D_85 (by decide +kernel) (Nat.succ_pos _) C_7_70 (Nat.le_of_ble_eq_true rfl) (S_cpI k_124 (lit_row (e := 220) (n := 5) (by decide +kernel) b32) e11) ?_
        cases g6
        exact Ev.sub2 j6 (subL_cons rfl (subL_cons rfl subL_nil))
    · have c3 : ¬ v1 < (5 : Int32) := of_decide_eq_false c3
      rw [if_neg c3] at h
      cases h
      obtain rfl : o = _ := ho
      exact Ev.vret D_85 (by decide +kernel)
/- Survey noteHomes: 87 -/
def gV_noteHomes_h2  (q : Int32 × mT) : Option ((Int32 × mT) ⊕ (mT)) :=
  if (q.2.1 16 5) ≤ q.1 then
    some (.inr q.2)
  else
    (rdI (q.2.1 218) 5 q.1).bind fun x6 =>
    if ¬ ((q.2.1 16 0) < 0 ∨ 21 ≤ (q.2.1 16 0).toNatClampNeg) then
      (rdI (q.2.1 (149 + (q.2.1 16 0).toNatClampNeg)) 5 q.1).bind fun x12 =>
      (wrI q.2 218 5 q.1 (imax x6 x12)).bind fun s14 =>
      (gC_homeStep 121 q.1 s14).bind fun p16 =>
      (
        if p16 = (-1 : Int32) then
          some (s14)
        else
          (rdI (s14.1 217) 5 q.1).bind fun x19 =>
          if x19 = (-1 : Int32) then
            (wrI s14 217 5 q.1 p16).bind fun s22 =>
            some (s22)
          else
            (rdI (s14.1 217) 5 q.1).bind fun x24 =>
            if x24 ≤ p16 then
              some (s14)
            else
              (wrI s14 217 5 q.1 p16).bind fun s27 =>
              some (s27) : Option (mT)).bind fun x17 =>
      some (.inl (q.1 + (1 : Int32), x17))
    else none
set_option maxRecDepth 8000 in
theorem gV_noteHomes_h2_ok {L d : Nat} (hd : 3 ≤ d + 1)  : ∀ (q : Int32 × mT) (x : (Int32 × mT) ⊕ (mT)), gV_noteHomes_h2 q = some x → ∀ o, sK (fun q => Ev (d + 1) 87 2 [(0, .ref 214), (1, .int q.1)] [] (uS L q.2) o) (fun r => Ev (d + 1) 87 92 [] [] (uS L r) o) x → Ev (d + 1) 87 2 [(0, .ref 214), (1, .int q.1)] [] (uS L q.2) o := by
  intro q x h o ho
  unfold gV_noteHomes_h2 at h
  refine Ev.seg D_87 [(.iload_n 1, 1), (.aload_n 0, 1)] (by decide +kernel) (j := 0) (pc' := 4) (lv' := [(0, .ref 214), (1, .int q.1)]) (st' := [.ref 214, .int q.1]) rfl ?_
  refine Ev.getR D_87 (by decide +kernel) F_7_33 T_7_0 (x := 16) (S_oR k_214 (by decide +kernel)) ?_
  refine Ev.getI D_87 (by decide +kernel) F_7_88 (Or.inl T_2_5) (S_oI k_16) ?_
  refine Ev.icmp D_87 (c := .ge) (off := 82) (by decide +kernel) (t := 92) rfl (fun c3 => ?_) (fun c3 => ?_)
  · have c3 : (q.2.1 16 5) ≤ q.1 := of_decide_eq_true c3
    rw [if_pos c3] at h
    cases h
    exact Ev.sub (lv' := []) subL_nil ho
  · have c3 : ¬ (q.2.1 16 5) ≤ q.1 := of_decide_eq_false c3
    rw [if_neg c3] at h
    refine Ev.seg D_87 [(.aload_n 0, 1)] (by decide +kernel) (j := 0) (pc' := 14) (lv' := [(0, .ref 214), (1, .int q.1)]) (st' := [.ref 214]) rfl ?_
    refine Ev.getR D_87 (by decide +kernel) F_7_25 T_7_6 (x := 218) (S_oR k_214 (by decide +kernel)) ?_
    refine Ev.seg D_87 [(.iload_n 1, 1), (.aload_n 0, 1)] (by decide +kernel) (j := 0) (pc' := 19) (lv' := [(0, .ref 214), (1, .int q.1)]) (st' := [.ref 214, .int q.1, .ref 218]) rfl ?_
    refine Ev.getR D_87 (by decide +kernel) F_7_25 T_7_6 (x := 218) (S_oR k_214 (by decide +kernel)) ?_
    refine Ev.seg D_87 [(.iload_n 1, 1)] (by decide +kernel) (j := 0) (pc' := 23) (lv' := [(0, .ref 214), (1, .int q.1)]) (st' := [.int q.1, .ref 218, .int q.1, .ref 218]) rfl ?_
    obtain ⟨x6, e6, h⟩ := bd h
    refine Ev.iald D_87 (by decide +kernel) (S_aI k_218 e6) ?_
    refine Ev.seg D_87 [(.aload_n 0, 1)] (by decide +kernel) (j := 0) (pc' := 25) (lv' := [(0, .ref 214), (1, .int q.1)]) (st' := [.ref 214, .int x6, .int q.1, .ref 218]) rfl ?_
    refine Ev.getR D_87 (by decide +kernel) F_7_37 T_7_1 (x := 121) (S_oR k_214 (by decide +kernel)) ?_
    refine Ev.getR D_87 (by decide +kernel) F_7_91 T_0_7 (x := 148) (S_oR k_121 (by decide +kernel)) ?_
    refine Ev.seg D_87 [(.aload_n 0, 1)] (by decide +kernel) (j := 0) (pc' := 32) (lv' := [(0, .ref 214), (1, .int q.1)]) (st' := [.ref 214, .ref 148, .int x6, .int q.1, .ref 218]) rfl ?_
    refine Ev.getR D_87 (by decide +kernel) F_7_33 T_7_0 (x := 16) (S_oR k_214 (by decide +kernel)) ?_
    refine Ev.getI D_87 (by decide +kernel) F_7_94 (Or.inl T_2_0) (S_oI k_16) ?_
    by_cases b38 : ¬ ((q.2.1 16 0) < 0 ∨ 21 ≤ (q.2.1 16 0).toNatClampNeg)
    rotate_left
    · rw [if_neg b38] at h; cases h
    rw [if_pos b38] at h
    refine Ev.aald D_87 (by decide +kernel) (kd := 26) ⟨by decide, by decide⟩ (x := (149 + (q.2.1 16 0).toNatClampNeg)) (S_aR k_148 b38 (lit_aa (e := 149) (n := 21) (by decide +kernel) b38)) ?_
    refine Ev.seg D_87 [(.iload_n 1, 1)] (by decide +kernel) (j := 0) (pc' := 40) (lv' := [(0, .ref 214), (1, .int q.1)]) (st' := [.int q.1, .ref (149 + (q.2.1 16 0).toNatClampNeg), .int x6, .int q.1, .ref 218]) rfl ?_
    obtain ⟨x12, e12, h⟩ := bd h
    refine Ev.iald D_87 (by decide +kernel) (S_aI (lit_row (e := 149) (n := 21) (by decide +kernel) b38) e12) ?_
    refine Ev.max D_87 (by decide +kernel) (Nat.succ_pos _) C_7_97 (Nat.le_of_ble_eq_true rfl) ?_
    obtain ⟨s14, e14, h⟩ := bd h
    refine Ev.iast D_87 (by decide +kernel) (S_sI k_218 e14) ?_
    refine Ev.seg D_87 [(.aload_n 0, 1)] (by decide +kernel) (j := 0) (pc' := 46) (lv' := [(0, .ref 214), (1, .int q.1)]) (st' := [.ref 214]) rfl ?_
    refine Ev.getR D_87 (by decide +kernel) F_7_37 T_7_1 (x := 121) (S_oR k_214 (by decide +kernel)) ?_
    refine Ev.seg D_87 [(.iload_n 1, 1)] (by decide +kernel) (j := 0) (pc' := 50) (lv' := [(0, .ref 214), (1, .int q.1)]) (st' := [.int q.1, .ref 121]) rfl ?_
    obtain ⟨p16, e16, h⟩ := bd h
    refine Ev.callv D_87 E_19 (by decide +kernel) C_7_103 121 [.int q.1] (r := []) rfl (gd_o k_121 (by decide)) rfl (Nat.le_of_ble_eq_true rfl) (Nat.le_of_ble_eq_true rfl) (gC_homeStep_ok (by omega) (by decide) e16) ?_
    refine Ev.seg D_87 [(.istore_n 2, 1), (.iload_n 2, 1), (.iconst (-1), 1)] (by decide +kernel) (j := 0) (pc' := 56) (lv' := [(2, .int p16), (0, .ref 214), (1, .int q.1)]) (st' := [.int (-1 : Int32), .int p16]) rfl ?_
    obtain ⟨x17, g17, h⟩ := bd h
    have j17 : Ev (d + 1) 87 86 [(0, .ref 214), (1, .int q.1)] [] (uS L x17) o := by
      clear g17
      refine Ev.seg D_87 [(.iinc 1 1, 3), (.goto (-87), 3)] (by decide +kernel) (j := 0) (pc' := 2) (lv' := [(1, .int (q.1 + (1 : Int32))), (0, .ref 214)]) (st' := []) rfl ?_
      cases h
      exact Ev.sub (lv' := [(0, .ref 214), (1, .int (q.1 + (1 : Int32)))]) (subL_cons rfl (subL_cons rfl subL_nil)) ho
    clear h
    refine Ev.icmp D_87 (c := .eq) (off := 30) (by decide +kernel) (t := 86) rfl (fun c17 => ?_) (fun c17 => ?_)
    · have c17 : p16 = (-1 : Int32) := of_decide_eq_true c17
      rw [if_pos c17] at g17
      cases g17
      exact Ev.sub2 j17 (subL_cons rfl (subL_cons rfl subL_nil))
    · have c17 : ¬ p16 = (-1 : Int32) := of_decide_eq_false c17
      rw [if_neg c17] at g17
      refine Ev.seg D_87 [(.aload_n 0, 1)] (by decide +kernel) (j := 0) (pc' := 60) (lv' := [(2, .int p16), (0, .ref 214), (1, .int q.1)]) (st' := [.ref 214]) rfl ?_
      refine Ev.getR D_87 (by decide +kernel) F_7_22 T_7_5 (x := 217) (S_oR k_214 (by decide +kernel)) ?_
      refine Ev.seg D_87 [(.iload_n 1, 1)] (by decide +kernel) (j := 0) (pc' := 64) (lv' := [(2, .int p16), (0, .ref 214), (1, .int q.1)]) (st' := [.int q.1, .ref 217]) rfl ?_
      obtain ⟨x19, e19, g17⟩ := bd g17
      refine Ev.iald D_87 (by decide +kernel) (S_aI k_217 e19) ?_
      refine Ev.seg D_87 [(.iconst (-1), 1)] (by decide +kernel) (j := 0) (pc' := 66) (lv' := [(2, .int p16), (0, .ref 214), (1, .int q.1)]) (st' := [.int (-1 : Int32), .int x19]) rfl ?_
      refine Ev.icmp D_87 (c := .eq) (off := 13) (by decide +kernel) (t := 79) rfl (fun c20 => ?_) (fun c20 => ?_)
      · have c20 : x19 = (-1 : Int32) := of_decide_eq_true c20
        rw [if_pos c20] at g17
        refine Ev.seg D_87 [(.aload_n 0, 1)] (by decide +kernel) (j := 0) (pc' := 80) (lv' := [(2, .int p16), (0, .ref 214), (1, .int q.1)]) (st' := [.ref 214]) rfl ?_
        refine Ev.getR D_87 (by decide +kernel) F_7_22 T_7_5 (x := 217) (S_oR k_214 (by decide +kernel)) ?_
        refine Ev.seg D_87 [(.iload_n 1, 1), (.iload_n 2, 1)] (by decide +kernel) (j := 0) (pc' := 85) (lv' := [(2, .int p16), (0, .ref 214), (1, .int q.1)]) (st' := [.int p16, .int q.1, .ref 217]) rfl ?_
        obtain ⟨s22, e22, g17⟩ := bd g17
        refine Ev.iast D_87 (by decide +kernel) (S_sI k_217 e22) ?_
        cases g17
        exact Ev.sub2 j17 (subL_cons rfl (subL_cons rfl subL_nil))
      · have c20 : ¬ x19 = (-1 : Int32) := of_decide_eq_false c20
        rw [if_neg c20] at g17
        refine Ev.seg D_87 [(.iload_n 2, 1), (.aload_n 0, 1)] (by decide +kernel) (j := 0) (pc' := 71) (lv' := [(2, .int p16), (0, .ref 214), (1, .int q.1)]) (st' := [.ref 214, .int p16]) rfl ?_
        refine Ev.getR D_87 (by decide +kernel) F_7_22 T_7_5 (x := 217) (S_oR k_214 (by decide +kernel)) ?_
        refine Ev.seg D_87 [(.iload_n 1, 1)] (by decide +kernel) (j := 0) (pc' := 75) (lv' := [(2, .int p16), (0, .ref 214), (1, .int q.1)]) (st' := [.int q.1, .ref 217, .int p16]) rfl ?_
        obtain ⟨x24, e24, g17⟩ := bd g17
        refine Ev.iald D_87 (by decide +kernel) (S_aI k_217 e24) ?_
        refine Ev.icmp D_87 (c := .ge) (off := 10) (by decide +kernel) (t := 86) rfl (fun c25 => ?_) (fun c25 => ?_)
        · have c25 : x24 ≤ p16 := of_decide_eq_true c25
          rw [if_pos c25] at g17
          cases g17
          exact Ev.sub2 j17 (subL_cons rfl (subL_cons rfl subL_nil))
        · have c25 : ¬ x24 ≤ p16 := of_decide_eq_false c25
          rw [if_neg c25] at g17
          refine Ev.seg D_87 [(.aload_n 0, 1)] (by decide +kernel) (j := 0) (pc' := 80) (lv' := [(2, .int p16), (0, .ref 214), (1, .int q.1)]) (st' := [.ref 214]) rfl ?_
          refine Ev.getR D_87 (by decide +kernel) F_7_22 T_7_5 (x := 217) (S_oR k_214 (by decide +kernel)) ?_
          refine Ev.seg D_87 [(.iload_n 1, 1), (.iload_n 2, 1)] (by decide +kernel) (j := 0) (pc' := 85) (lv' := [(2, .int p16), (0, .ref 214), (1, .int q.1)]) (st' := [.int p16, .int q.1, .ref 217]) rfl ?_
          obtain ⟨s27, e27, g17⟩ := bd g17
          refine Ev.iast D_87 (by decide +kernel) (S_sI k_217 e27) ?_
          cases g17
          exact Ev.sub2 j17 (subL_cons rfl (subL_cons rfl subL_nil))
theorem gV_noteHomes_h2_w {L d : Nat} (hd : 3 ≤ d + 1)  : ∀ (n : Nat) (q : Int32 × mT) (r : mT), wh n (gV_noteHomes_h2) q = some r → ∀ o, (fun r => Ev (d + 1) 87 92 [] [] (uS L r) o) r → Ev (d + 1) 87 2 [(0, .ref 214), (1, .int q.1)] [] (uS L q.2) o :=
  fun n q r h o hc => wh_ev (E := fun (q : Int32 × mT) o => Ev (d + 1) 87 2 [(0, .ref 214), (1, .int q.1)] [] (uS L q.2) o) (C := fun (r : mT) o => (fun r => Ev (d + 1) 87 92 [] [] (uS L r) o) r) (gV_noteHomes_h2_ok hd  ) n q r h o hc
def gV_noteHomes (s : mT) : Option (mT) :=
  (wh FU (gV_noteHomes_h2) ((0 : Int32), s)).bind fun x28 =>
  some (x28)
set_option maxRecDepth 8000 in
theorem gV_noteHomes_ok {L d : Nat} (hd : 3 ≤ d) {s : mT} {p : mT} (h : gV_noteHomes s = some p) : Ev d 87 0 [(0, .ref 214)] [] (uS L s) (none, uS L p) := by
  obtain ⟨d, rfl⟩ : ∃ e, d = e + 1 := ⟨d - 1, by omega⟩
  obtain ⟨o, ho⟩ : ∃ o : Option Value × mS, o = (none, uS L p) := ⟨_, rfl⟩
  rw [← ho]
  unfold gV_noteHomes at h
  refine Ev.seg D_87 [(.iconst 0, 1), (.istore_n 1, 1)] (by decide +kernel) (j := 0) (pc' := 2) (lv' := [(1, .int (0 : Int32)), (0, .ref 214)]) (st' := []) rfl ?_
  obtain ⟨x28, w28, h⟩ := bd h
  have j28 : Ev (d + 1) 87 92 [] [] (uS L x28) o := by
    clear w28
    cases h
    obtain rfl : o = _ := ho
    exact Ev.vret D_87 (by decide +kernel)
  exact Ev.sub (lv' := [(0, .ref 214), (1, .int (0 : Int32))]) (subL_cons rfl (subL_cons rfl subL_nil)) (gV_noteHomes_h2_w hd   _ _ _ w28 _ j28)
/- Survey makeIfStale: 83 -/
def gV_makeIfStale_h35  (q : Int32 × Int32 × mT) : Option ((Int32 × Int32 × mT) ⊕ (mT)) :=
  if (3125 : Int32) ≤ q.2.1 then
    some (.inr q.2.2)
  else
    if q.1 = 0 then
      some (.inr q.2.2)
    else
      (gC_sailToWinner 121 q.2.2).bind fun p4 =>
      (gV_noteWinner p4.1 p4.2).bind fun p5 =>
      (gV_noteHomes p5).bind fun p6 =>
      (gC_nextLooks 121 p6).bind fun p8 =>
      some (.inl (p8.1, q.2.1 + (1 : Int32), p8.2))
set_option maxRecDepth 8000 in
theorem gV_makeIfStale_h35_ok {L d : Nat} (hd : 6 ≤ d + 1)  : ∀ (q : Int32 × Int32 × mT) (x : (Int32 × Int32 × mT) ⊕ (mT)), gV_makeIfStale_h35 q = some x → ∀ o, sK (fun q => Ev (d + 1) 83 35 [(0, .ref 214), (1, .int q.1), (2, .int q.2.1)] [] (uS L q.2.2) o) (fun r => Ev (d + 1) 83 75 [] [] (uS L r) o) x → Ev (d + 1) 83 35 [(0, .ref 214), (1, .int q.1), (2, .int q.2.1)] [] (uS L q.2.2) o := by
  intro q x h o ho
  unfold gV_makeIfStale_h35 at h
  refine Ev.seg D_83 [(.iload_n 2, 1), (.sipush 3125, 3)] (by decide +kernel) (j := 0) (pc' := 39) (lv' := [(0, .ref 214), (1, .int q.1), (2, .int q.2.1)]) (st' := [.int (3125 : Int32), .int q.2.1]) rfl ?_
  refine Ev.icmp D_83 (c := .ge) (off := 36) (by decide +kernel) (t := 75) rfl (fun c1 => ?_) (fun c1 => ?_)
  · have c1 : (3125 : Int32) ≤ q.2.1 := of_decide_eq_true c1
    rw [if_pos c1] at h
    cases h
    exact Ev.sub (lv' := []) subL_nil ho
  · have c1 : ¬ (3125 : Int32) ≤ q.2.1 := of_decide_eq_false c1
    rw [if_neg c1] at h
    refine Ev.seg D_83 [(.iload_n 1, 1)] (by decide +kernel) (j := 0) (pc' := 43) (lv' := [(0, .ref 214), (1, .int q.1), (2, .int q.2.1)]) (st' := [.int q.1]) rfl ?_
    refine Ev.if_ D_83 (c := .eq) (off := 32) (by decide +kernel) (t := 75) rfl (fun c2 => ?_) (fun c2 => ?_)
    · have c2 : q.1 = 0 := of_decide_eq_true c2
      rw [if_pos c2] at h
      cases h
      exact Ev.sub (lv' := []) subL_nil ho
    · have c2 : ¬ q.1 = 0 := of_decide_eq_false c2
      rw [if_neg c2] at h
      refine Ev.seg D_83 [(.aload_n 0, 1), (.aload_n 0, 1)] (by decide +kernel) (j := 0) (pc' := 48) (lv' := [(0, .ref 214), (1, .int q.1), (2, .int q.2.1)]) (st' := [.ref 214, .ref 214]) rfl ?_
      refine Ev.getR D_83 (by decide +kernel) F_7_37 T_7_1 (x := 121) (S_oR k_214 (by decide +kernel)) ?_
      obtain ⟨p4, e4, h⟩ := bd h
      refine Ev.callv D_83 E_23 (by decide +kernel) C_7_52 121 [] (r := [.ref 214]) rfl (gd_o k_121 (by decide)) rfl (Nat.le_of_ble_eq_true rfl) (Nat.le_of_ble_eq_true rfl) (gC_sailToWinner_ok (by omega) (by decide) e4) ?_
      obtain ⟨p5, e5, h⟩ := bd h
      refine Ev.callv D_83 E_85 (by decide +kernel) C_7_56 214 [.int p4.1] (r := []) rfl (gd_o k_214 (by decide)) rfl (Nat.le_of_ble_eq_true rfl) (Nat.le_of_ble_eq_true rfl) (gV_noteWinner_ok (by omega)  e5) ?_
      refine Ev.seg D_83 [(.aload_n 0, 1)] (by decide +kernel) (j := 0) (pc' := 58) (lv' := [(0, .ref 214), (1, .int q.1), (2, .int q.2.1)]) (st' := [.ref 214]) rfl ?_
      obtain ⟨p6, e6, h⟩ := bd h
      refine Ev.callv D_83 E_87 (by decide +kernel) C_7_60 214 [] (r := []) rfl (gd_o k_214 (by decide)) rfl (Nat.le_of_ble_eq_true rfl) (Nat.le_of_ble_eq_true rfl) (gV_noteHomes_ok (by omega)  e6) ?_
      refine Ev.seg D_83 [(.aload_n 0, 1)] (by decide +kernel) (j := 0) (pc' := 62) (lv' := [(0, .ref 214), (1, .int q.1), (2, .int q.2.1)]) (st' := [.ref 214]) rfl ?_
      refine Ev.getR D_83 (by decide +kernel) F_7_37 T_7_1 (x := 121) (S_oR k_214 (by decide +kernel)) ?_
      obtain ⟨p8, e8, h⟩ := bd h
      refine Ev.callv D_83 E_26 (by decide +kernel) C_7_63 121 [] (r := []) rfl (gd_o k_121 (by decide)) rfl (Nat.le_of_ble_eq_true rfl) (Nat.le_of_ble_eq_true rfl) (gC_nextLooks_ok (by omega) (by decide) e8) ?_
      refine Ev.seg D_83 [(.istore_n 1, 1), (.iinc 2 1, 3), (.goto (-37), 3)] (by decide +kernel) (j := 0) (pc' := 35) (lv' := [(2, .int (q.2.1 + (1 : Int32))), (1, .int p8.1), (0, .ref 214)]) (st' := []) rfl ?_
      cases h
      exact Ev.sub (lv' := [(0, .ref 214), (1, .int (p8.1)), (2, .int (q.2.1 + (1 : Int32)))]) (subL_cons rfl (subL_cons rfl (subL_cons rfl subL_nil))) ho
theorem gV_makeIfStale_h35_w {L d : Nat} (hd : 6 ≤ d + 1)  : ∀ (n : Nat) (q : Int32 × Int32 × mT) (r : mT), wh n (gV_makeIfStale_h35) q = some r → ∀ o, (fun r => Ev (d + 1) 83 75 [] [] (uS L r) o) r → Ev (d + 1) 83 35 [(0, .ref 214), (1, .int q.1), (2, .int q.2.1)] [] (uS L q.2.2) o :=
  fun n q r h o hc => wh_ev (E := fun (q : Int32 × Int32 × mT) o => Ev (d + 1) 83 35 [(0, .ref 214), (1, .int q.1), (2, .int q.2.1)] [] (uS L q.2.2) o) (C := fun (r : mT) o => (fun r => Ev (d + 1) 83 75 [] [] (uS L r) o) r) (gV_makeIfStale_h35_ok hd  ) n q r h o hc
def gV_makeIfStale (s : mT) : Option (mT) :=
  if (s.1 214 2) = 0 then
    some (s)
  else
    (gV_forget (stI s 214 2 (0 : Int32))).bind fun p4 =>
    (gC_prepare 121 p4).bind fun p6 =>
    (gC_startLooks 121 p6).bind fun p8 =>
    (wh FU (gV_makeIfStale_h35) ((1 : Int32), (0 : Int32), p8)).bind fun x9 =>
    some (x9)
set_option maxRecDepth 8000 in
theorem gV_makeIfStale_ok {L d : Nat} (hd : 6 ≤ d) {s : mT} {p : mT} (h : gV_makeIfStale s = some p) : Ev d 83 0 [(0, .ref 214)] [] (uS L s) (none, uS L p) := by
  obtain ⟨d, rfl⟩ : ∃ e, d = e + 1 := ⟨d - 1, by omega⟩
  obtain ⟨o, ho⟩ : ∃ o : Option Value × mS, o = (none, uS L p) := ⟨_, rfl⟩
  rw [← ho]
  unfold gV_makeIfStale at h
  refine Ev.seg D_83 [(.aload_n 0, 1)] (by decide +kernel) (j := 0) (pc' := 1) (lv' := [(0, .ref 214)]) (st' := [.ref 214]) rfl ?_
  refine Ev.getI D_83 (by decide +kernel) F_7_9 (Or.inr T_7_2) (S_oI k_214) ?_
  refine Ev.if_ D_83 (c := .ne) (off := 4) (by decide +kernel) (t := 8) rfl (fun c2 => ?_) (fun c2 => ?_)
  · have c2 : ¬ (s.1 214 2) = 0 := of_decide_eq_true c2
    rw [if_neg c2] at h
    refine Ev.seg D_83 [(.aload_n 0, 1), (.iconst 0, 1)] (by decide +kernel) (j := 0) (pc' := 10) (lv' := [(0, .ref 214)]) (st' := [.int (0 : Int32), .ref 214]) rfl ?_
    refine Ev.putZ D_83 (by decide +kernel) F_7_9 N_7_2 T_7_2 (S_pZ k_214 (by decide)) ?_
    refine Ev.seg D_83 [(.aload_n 0, 1)] (by decide +kernel) (j := 0) (pc' := 14) (lv' := [(0, .ref 214)]) (st' := [.ref 214]) rfl ?_
    obtain ⟨p4, e4, h⟩ := bd h
    refine Ev.callv D_83 E_84 (by decide +kernel) C_7_41 214 [] (r := []) rfl (gd_o k_214 (by decide)) rfl (Nat.le_of_ble_eq_true rfl) (Nat.le_of_ble_eq_true rfl) (gV_forget_ok (by omega)  e4) ?_
    refine Ev.seg D_83 [(.aload_n 0, 1)] (by decide +kernel) (j := 0) (pc' := 18) (lv' := [(0, .ref 214)]) (st' := [.ref 214]) rfl ?_
    refine Ev.getR D_83 (by decide +kernel) F_7_37 T_7_1 (x := 121) (S_oR k_214 (by decide +kernel)) ?_
    obtain ⟨p6, e6, h⟩ := bd h
    refine Ev.callv D_83 E_1 (by decide +kernel) C_7_44 121 [] (r := []) rfl (gd_o k_121 (by decide)) rfl (Nat.le_of_ble_eq_true rfl) (Nat.le_of_ble_eq_true rfl) (gC_prepare_ok (by omega) (by decide) e6) ?_
    refine Ev.seg D_83 [(.aload_n 0, 1)] (by decide +kernel) (j := 0) (pc' := 25) (lv' := [(0, .ref 214)]) (st' := [.ref 214]) rfl ?_
    refine Ev.getR D_83 (by decide +kernel) F_7_37 T_7_1 (x := 121) (S_oR k_214 (by decide +kernel)) ?_
    obtain ⟨p8, e8, h⟩ := bd h
    refine Ev.callv D_83 E_25 (by decide +kernel) C_7_49 121 [] (r := []) rfl (gd_o k_121 (by decide)) rfl (Nat.le_of_ble_eq_true rfl) (Nat.le_of_ble_eq_true rfl) (gC_startLooks_ok (by omega) (by decide) e8) ?_
    refine Ev.seg D_83 [(.iconst 1, 1), (.istore_n 1, 1), (.iconst 0, 1), (.istore_n 2, 1)] (by decide +kernel) (j := 0) (pc' := 35) (lv' := [(2, .int (0 : Int32)), (1, .int (1 : Int32)), (0, .ref 214)]) (st' := []) rfl ?_
    obtain ⟨x9, w9, h⟩ := bd h
    have j9 : Ev (d + 1) 83 75 [] [] (uS L x9) o := by
      clear w9
      cases h
      obtain rfl : o = _ := ho
      exact Ev.vret D_83 (by decide +kernel)
    exact Ev.sub (lv' := [(0, .ref 214), (1, .int (1 : Int32)), (2, .int (0 : Int32))]) (subL_cons rfl (subL_cons rfl (subL_cons rfl subL_nil))) (gV_makeIfStale_h35_w hd   _ _ _ w9 _ j9)
  · have c2 : (s.1 214 2) = 0 := Decidable.of_not_not (of_decide_eq_false c2)
    rw [if_pos c2] at h
    cases h
    obtain rfl : o = _ := ho
    exact Ev.vret D_83 (by decide +kernel)
/- Tape put: 89 -/
def gT_put_h3 (v1 : Int32) (q : Int32 × mT) : Option ((Int32 × mT) ⊕ (mT)) :=
  if q.1 < 0 then
    some (.inr q.2)
  else
    if (600 : Int32) ≤ (q.2.1 1 1) then
      some (.inr q.2)
    else
      (wrI q.2 2 600 (q.2.1 1 1) ((v1 >>> (q.1 &&& 31)) &&& (255 : Int32))).bind fun s6 =>
      some (.inl (q.1 + (-8 : Int32), (stI s6 1 1 ((s6.1 1 1) + (1 : Int32)))))
set_option maxRecDepth 8000 in
theorem gT_put_h3_ok {L d : Nat} (hd : 1 ≤ d + 1) {v1 : Int32} : ∀ (q : Int32 × mT) (x : (Int32 × mT) ⊕ (mT)), gT_put_h3 v1 q = some x → ∀ o, sK (fun q => Ev (d + 1) 89 3 [(0, .ref 1), (1, .int v1), (2, .int q.1)] [] (uS L q.2) o) (fun r => Ev (d + 1) 89 49 [] [] (uS L r) o) x → Ev (d + 1) 89 3 [(0, .ref 1), (1, .int v1), (2, .int q.1)] [] (uS L q.2) o := by
  intro q x h o ho
  unfold gT_put_h3 at h
  refine Ev.seg D_89 [(.iload_n 2, 1)] (by decide +kernel) (j := 0) (pc' := 4) (lv' := [(0, .ref 1), (1, .int v1), (2, .int q.1)]) (st' := [.int q.1]) rfl ?_
  refine Ev.if_ D_89 (c := .lt) (off := 45) (by decide +kernel) (t := 49) rfl (fun c1 => ?_) (fun c1 => ?_)
  · have c1 : q.1 < 0 := of_decide_eq_true c1
    rw [if_pos c1] at h
    cases h
    exact Ev.sub (lv' := []) subL_nil ho
  · have c1 : ¬ q.1 < 0 := of_decide_eq_false c1
    rw [if_neg c1] at h
    refine Ev.seg D_89 [(.aload_n 0, 1)] (by decide +kernel) (j := 0) (pc' := 8) (lv' := [(0, .ref 1), (1, .int v1), (2, .int q.1)]) (st' := [.ref 1]) rfl ?_
    refine Ev.getI D_89 (by decide +kernel) F_8_15 (Or.inl T_8_1) (S_oI k_1) ?_
    refine Ev.seg D_89 [(.sipush 600, 3)] (by decide +kernel) (j := 0) (pc' := 14) (lv' := [(0, .ref 1), (1, .int v1), (2, .int q.1)]) (st' := [.int (600 : Int32), .int (q.2.1 1 1)]) rfl ?_
    refine Ev.icmp D_89 (c := .ge) (off := 35) (by decide +kernel) (t := 49) rfl (fun c3 => ?_) (fun c3 => ?_)
    · have c3 : (600 : Int32) ≤ (q.2.1 1 1) := of_decide_eq_true c3
      rw [if_pos c3] at h
      cases h
      exact Ev.sub (lv' := []) subL_nil ho
    · have c3 : ¬ (600 : Int32) ≤ (q.2.1 1 1) := of_decide_eq_false c3
      rw [if_neg c3] at h
      refine Ev.seg D_89 [(.aload_n 0, 1)] (by decide +kernel) (j := 0) (pc' := 18) (lv' := [(0, .ref 1), (1, .int v1), (2, .int q.1)]) (st' := [.ref 1]) rfl ?_
      refine Ev.getR D_89 (by decide +kernel) F_8_9 T_8_0 (x := 2) (S_oR k_1 (by decide +kernel)) ?_
      refine Ev.seg D_89 [(.aload_n 0, 1)] (by decide +kernel) (j := 0) (pc' := 22) (lv' := [(0, .ref 1), (1, .int v1), (2, .int q.1)]) (st' := [.ref 1, .ref 2]) rfl ?_
      refine Ev.getI D_89 (by decide +kernel) F_8_15 (Or.inl T_8_1) (S_oI k_1) ?_
      refine Ev.seg D_89 [(.iload_n 1, 1), (.iload_n 2, 1), (.ishr, 1), (.sipush 255, 3), (.iand, 1)] (by decide +kernel) (j := 0) (pc' := 32) (lv' := [(0, .ref 1), (1, .int v1), (2, .int q.1)]) (st' := [.int ((v1 >>> (q.1 &&& 31)) &&& (255 : Int32)), .int (q.2.1 1 1), .ref 2]) rfl ?_
      obtain ⟨s6, e6, h⟩ := bd h
      refine Ev.iast D_89 (by decide +kernel) (S_sI k_2 e6) ?_
      refine Ev.seg D_89 [(.aload_n 0, 1), (.dup, 1)] (by decide +kernel) (j := 0) (pc' := 35) (lv' := [(0, .ref 1), (1, .int v1), (2, .int q.1)]) (st' := [.ref 1, .ref 1]) rfl ?_
      refine Ev.getI D_89 (by decide +kernel) F_8_15 (Or.inl T_8_1) (S_oI k_1) ?_
      refine Ev.seg D_89 [(.iconst 1, 1), (.iadd, 1)] (by decide +kernel) (j := 0) (pc' := 40) (lv' := [(0, .ref 1), (1, .int v1), (2, .int q.1)]) (st' := [.int ((s6.1 1 1) + (1 : Int32)), .ref 1]) rfl ?_
      refine Ev.putI D_89 (by decide +kernel) F_8_15 N_8_1 T_8_1 (S_pI k_1) ?_
      refine Ev.seg D_89 [(.iinc 2 (-8), 3), (.goto (-43), 3)] (by decide +kernel) (j := 0) (pc' := 3) (lv' := [(2, .int (q.1 + (-8 : Int32))), (0, .ref 1), (1, .int v1)]) (st' := []) rfl ?_
      cases h
      exact Ev.sub (lv' := [(0, .ref 1), (1, .int v1), (2, .int (q.1 + (-8 : Int32)))]) (subL_cons rfl (subL_cons rfl (subL_cons rfl subL_nil))) ho
theorem gT_put_h3_w {L d : Nat} (hd : 1 ≤ d + 1) {v1 : Int32} : ∀ (n : Nat) (q : Int32 × mT) (r : mT), wh n (gT_put_h3 v1) q = some r → ∀ o, (fun r => Ev (d + 1) 89 49 [] [] (uS L r) o) r → Ev (d + 1) 89 3 [(0, .ref 1), (1, .int v1), (2, .int q.1)] [] (uS L q.2) o :=
  fun n q r h o hc => wh_ev (E := fun (q : Int32 × mT) o => Ev (d + 1) 89 3 [(0, .ref 1), (1, .int v1), (2, .int q.1)] [] (uS L q.2) o) (C := fun (r : mT) o => (fun r => Ev (d + 1) 89 49 [] [] (uS L r) o) r) (gT_put_h3_ok hd  ) n q r h o hc
def gT_put (v1 : Int32) (s : mT) : Option (mT) :=
  (wh FU (gT_put_h3 v1) ((24 : Int32), s)).bind fun x9 =>
  some (x9)
set_option maxRecDepth 8000 in
theorem gT_put_ok {L d : Nat} (hd : 1 ≤ d) {v1 : Int32} {s : mT} {p : mT} (h : gT_put v1 s = some p) : Ev d 89 0 [(0, .ref 1), (1, .int v1)] [] (uS L s) (none, uS L p) := by
  obtain ⟨d, rfl⟩ : ∃ e, d = e + 1 := ⟨d - 1, by omega⟩
  obtain ⟨o, ho⟩ : ∃ o : Option Value × mS, o = (none, uS L p) := ⟨_, rfl⟩
  rw [← ho]
  unfold gT_put at h
  refine Ev.seg D_89 [(.bipush 24, 2), (.istore_n 2, 1)] (by decide +kernel) (j := 0) (pc' := 3) (lv' := [(2, .int (24 : Int32)), (0, .ref 1), (1, .int v1)]) (st' := []) rfl ?_
  obtain ⟨x9, w9, h⟩ := bd h
  have j9 : Ev (d + 1) 89 49 [] [] (uS L x9) o := by
    clear w9
    cases h
    obtain rfl : o = _ := ho
    exact Ev.vret D_89 (by decide +kernel)
  exact Ev.sub (lv' := [(0, .ref 1), (1, .int v1), (2, .int (24 : Int32))]) (subL_cons rfl (subL_cons rfl (subL_cons rfl subL_nil))) (gT_put_h3_w hd   _ _ _ w9 _ j9)
/- PennantLawn feed: 91 -/
def gL_feed (v1 : Int32) (v2 : Int32) (v3 : Int32) (v4 : Int32) (v5 : Int32) (s : mT) : Option (Int32 × mT) :=
  if ((s.1 1 1) + (20 : Int32)) ≤ (600 : Int32) then
    (gT_put v1 s).bind fun p5 =>
    (gT_put v2 p5).bind fun p7 =>
    (gT_put v3 p7).bind fun p9 =>
    (gT_put v4 p9).bind fun p11 =>
    (gT_put v5 p11).bind fun p13 =>
    some ((p13.1 1 1, p13))
  else
    some (((-1 : Int32), s))
set_option maxRecDepth 8000 in
theorem gL_feed_ok {L d : Nat} (hd : 2 ≤ d) {v1 : Int32} {v2 : Int32} {v3 : Int32} {v4 : Int32} {v5 : Int32} {s : mT} {p : Int32 × mT} (h : gL_feed v1 v2 v3 v4 v5 s = some p) : Ev d 91 0 [(0, .ref 0), (1, .int v1), (2, .int v2), (3, .int v3), (4, .int v4), (5, .int v5)] [] (uS L s) (some (.int p.1), uS L p.2) := by
  obtain ⟨d, rfl⟩ : ∃ e, d = e + 1 := ⟨d - 1, by omega⟩
  obtain ⟨o, ho⟩ : ∃ o : Option Value × mS, o = (some (.int p.1), uS L p.2) := ⟨_, rfl⟩
  rw [← ho]
  unfold gL_feed at h
  refine Ev.seg D_91 [(.aload_n 0, 1)] (by decide +kernel) (j := 0) (pc' := 1) (lv' := [(0, .ref 0), (1, .int v1), (2, .int v2), (3, .int v3), (4, .int v4), (5, .int v5)]) (st' := [.ref 0]) rfl ?_
  refine Ev.getR D_91 (by decide +kernel) F_9_10 T_9_0 (x := 1) (S_oR k_0 (by decide +kernel)) ?_
  refine Ev.getI D_91 (by decide +kernel) F_9_89 (Or.inl T_8_1) (S_oI k_1) ?_
  refine Ev.seg D_91 [(.bipush 20, 2), (.iadd, 1), (.sipush 600, 3)] (by decide +kernel) (j := 0) (pc' := 13) (lv' := [(0, .ref 0), (1, .int v1), (2, .int v2), (3, .int v3), (4, .int v4), (5, .int v5)]) (st' := [.int (600 : Int32), .int ((s.1 1 1) + (20 : Int32))]) rfl ?_
  refine Ev.icmp D_91 (c := .le) (off := 5) (by decide +kernel) (t := 18) rfl (fun c3 => ?_) (fun c3 => ?_)
  · have c3 : ((s.1 1 1) + (20 : Int32)) ≤ (600 : Int32) := of_decide_eq_true c3
    rw [if_pos c3] at h
    refine Ev.seg D_91 [(.aload_n 0, 1)] (by decide +kernel) (j := 0) (pc' := 19) (lv' := [(0, .ref 0), (1, .int v1), (2, .int v2), (3, .int v3), (4, .int v4), (5, .int v5)]) (st' := [.ref 0]) rfl ?_
    refine Ev.getR D_91 (by decide +kernel) F_9_10 T_9_0 (x := 1) (S_oR k_0 (by decide +kernel)) ?_
    refine Ev.seg D_91 [(.iload_n 1, 1)] (by decide +kernel) (j := 0) (pc' := 23) (lv' := [(0, .ref 0), (1, .int v1), (2, .int v2), (3, .int v3), (4, .int v4), (5, .int v5)]) (st' := [.int v1, .ref 1]) rfl ?_
    obtain ⟨p5, e5, h⟩ := bd h
    refine Ev.callv D_91 E_89 (by decide +kernel) C_9_93 1 [.int v1] (r := []) rfl (gd_o k_1 (by decide)) rfl (Nat.le_of_ble_eq_true rfl) (Nat.le_of_ble_eq_true rfl) (gT_put_ok (by omega)  e5) ?_
    refine Ev.seg D_91 [(.aload_n 0, 1)] (by decide +kernel) (j := 0) (pc' := 27) (lv' := [(0, .ref 0), (1, .int v1), (2, .int v2), (3, .int v3), (4, .int v4), (5, .int v5)]) (st' := [.ref 0]) rfl ?_
    refine Ev.getR D_91 (by decide +kernel) F_9_10 T_9_0 (x := 1) (S_oR k_0 (by decide +kernel)) ?_
    refine Ev.seg D_91 [(.iload_n 2, 1)] (by decide +kernel) (j := 0) (pc' := 31) (lv' := [(0, .ref 0), (1, .int v1), (2, .int v2), (3, .int v3), (4, .int v4), (5, .int v5)]) (st' := [.int v2, .ref 1]) rfl ?_
    obtain ⟨p7, e7, h⟩ := bd h
    refine Ev.callv D_91 E_89 (by decide +kernel) C_9_93 1 [.int v2] (r := []) rfl (gd_o k_1 (by decide)) rfl (Nat.le_of_ble_eq_true rfl) (Nat.le_of_ble_eq_true rfl) (gT_put_ok (by omega)  e7) ?_
    refine Ev.seg D_91 [(.aload_n 0, 1)] (by decide +kernel) (j := 0) (pc' := 35) (lv' := [(0, .ref 0), (1, .int v1), (2, .int v2), (3, .int v3), (4, .int v4), (5, .int v5)]) (st' := [.ref 0]) rfl ?_
    refine Ev.getR D_91 (by decide +kernel) F_9_10 T_9_0 (x := 1) (S_oR k_0 (by decide +kernel)) ?_
    refine Ev.seg D_91 [(.iload_n 3, 1)] (by decide +kernel) (j := 0) (pc' := 39) (lv' := [(0, .ref 0), (1, .int v1), (2, .int v2), (3, .int v3), (4, .int v4), (5, .int v5)]) (st' := [.int v3, .ref 1]) rfl ?_
    obtain ⟨p9, e9, h⟩ := bd h
    refine Ev.callv D_91 E_89 (by decide +kernel) C_9_93 1 [.int v3] (r := []) rfl (gd_o k_1 (by decide)) rfl (Nat.le_of_ble_eq_true rfl) (Nat.le_of_ble_eq_true rfl) (gT_put_ok (by omega)  e9) ?_
    refine Ev.seg D_91 [(.aload_n 0, 1)] (by decide +kernel) (j := 0) (pc' := 43) (lv' := [(0, .ref 0), (1, .int v1), (2, .int v2), (3, .int v3), (4, .int v4), (5, .int v5)]) (st' := [.ref 0]) rfl ?_
    refine Ev.getR D_91 (by decide +kernel) F_9_10 T_9_0 (x := 1) (S_oR k_0 (by decide +kernel)) ?_
    refine Ev.seg D_91 [(.iload 4, 2)] (by decide +kernel) (j := 0) (pc' := 48) (lv' := [(0, .ref 0), (1, .int v1), (2, .int v2), (3, .int v3), (4, .int v4), (5, .int v5)]) (st' := [.int v4, .ref 1]) rfl ?_
    obtain ⟨p11, e11, h⟩ := bd h
    refine Ev.callv D_91 E_89 (by decide +kernel) C_9_93 1 [.int v4] (r := []) rfl (gd_o k_1 (by decide)) rfl (Nat.le_of_ble_eq_true rfl) (Nat.le_of_ble_eq_true rfl) (gT_put_ok (by omega)  e11) ?_
    refine Ev.seg D_91 [(.aload_n 0, 1)] (by decide +kernel) (j := 0) (pc' := 52) (lv' := [(0, .ref 0), (1, .int v1), (2, .int v2), (3, .int v3), (4, .int v4), (5, .int v5)]) (st' := [.ref 0]) rfl ?_
    refine Ev.getR D_91 (by decide +kernel) F_9_10 T_9_0 (x := 1) (S_oR k_0 (by decide +kernel)) ?_
    refine Ev.seg D_91 [(.iload 5, 2)] (by decide +kernel) (j := 0) (pc' := 57) (lv' := [(0, .ref 0), (1, .int v1), (2, .int v2), (3, .int v3), (4, .int v4), (5, .int v5)]) (st' := [.int v5, .ref 1]) rfl ?_
    obtain ⟨p13, e13, h⟩ := bd h
    refine Ev.callv D_91 E_89 (by decide +kernel) C_9_93 1 [.int v5] (r := []) rfl (gd_o k_1 (by decide)) rfl (Nat.le_of_ble_eq_true rfl) (Nat.le_of_ble_eq_true rfl) (gT_put_ok (by omega)  e13) ?_
    refine Ev.seg D_91 [(.aload_n 0, 1)] (by decide +kernel) (j := 0) (pc' := 61) (lv' := [(0, .ref 0), (1, .int v1), (2, .int v2), (3, .int v3), (4, .int v4), (5, .int v5)]) (st' := [.ref 0]) rfl ?_
    refine Ev.getR D_91 (by decide +kernel) F_9_10 T_9_0 (x := 1) (S_oR k_0 (by decide +kernel)) ?_
    refine Ev.getI D_91 (by decide +kernel) F_9_89 (Or.inl T_8_1) (S_oI k_1) ?_
    cases h
    obtain rfl : o = _ := ho
    exact Ev.iret D_91 (by decide +kernel)
  · have c3 : ¬ ((s.1 1 1) + (20 : Int32)) ≤ (600 : Int32) := of_decide_eq_false c3
    rw [if_neg c3] at h
    refine Ev.seg D_91 [(.iconst (-1), 1)] (by decide +kernel) (j := 0) (pc' := 17) (lv' := [(0, .ref 0), (1, .int v1), (2, .int v2), (3, .int v3), (4, .int v4), (5, .int v5)]) (st' := [.int (-1 : Int32)]) rfl ?_
    cases h
    obtain rfl : o = _ := ho
    exact Ev.iret D_91 (by decide +kernel)
/- PennantLawn end: 92 -/
def gL_end (v1 : Int32) (s : mT) : Option (Int32 × mT) :=
  if v1 < 0 then
    some (((-1 : Int32), s))
  else
    if v1 ≤ (s.1 1 1) then
      some ((v1, (stI s 1 1 v1)))
    else
      some (((-1 : Int32), s))
set_option maxRecDepth 8000 in
theorem gL_end_ok {L d : Nat} (hd : 1 ≤ d) {v1 : Int32} {s : mT} {p : Int32 × mT} (h : gL_end v1 s = some p) : Ev d 92 0 [(0, .ref 0), (1, .int v1)] [] (uS L s) (some (.int p.1), uS L p.2) := by
  obtain ⟨d, rfl⟩ : ∃ e, d = e + 1 := ⟨d - 1, by omega⟩
  obtain ⟨o, ho⟩ : ∃ o : Option Value × mS, o = (some (.int p.1), uS L p.2) := ⟨_, rfl⟩
  rw [← ho]
  unfold gL_end at h
  refine Ev.seg D_92 [(.iload_n 1, 1)] (by decide +kernel) (j := 0) (pc' := 1) (lv' := [(0, .ref 0), (1, .int v1)]) (st' := [.int v1]) rfl ?_
  refine Ev.if_ D_92 (c := .lt) (off := 14) (by decide +kernel) (t := 15) rfl (fun c1 => ?_) (fun c1 => ?_)
  · have c1 : v1 < 0 := of_decide_eq_true c1
    rw [if_pos c1] at h
    refine Ev.seg D_92 [(.iconst (-1), 1)] (by decide +kernel) (j := 0) (pc' := 16) (lv' := [(0, .ref 0), (1, .int v1)]) (st' := [.int (-1 : Int32)]) rfl ?_
    cases h
    obtain rfl : o = _ := ho
    exact Ev.iret D_92 (by decide +kernel)
  · have c1 : ¬ v1 < 0 := of_decide_eq_false c1
    rw [if_neg c1] at h
    refine Ev.seg D_92 [(.iload_n 1, 1), (.aload_n 0, 1)] (by decide +kernel) (j := 0) (pc' := 6) (lv' := [(0, .ref 0), (1, .int v1)]) (st' := [.ref 0, .int v1]) rfl ?_
    refine Ev.getR D_92 (by decide +kernel) F_9_10 T_9_0 (x := 1) (S_oR k_0 (by decide +kernel)) ?_
    refine Ev.getI D_92 (by decide +kernel) F_9_89 (Or.inl T_8_1) (S_oI k_1) ?_
    refine Ev.icmp D_92 (c := .le) (off := 5) (by decide +kernel) (t := 17) rfl (fun c5 => ?_) (fun c5 => ?_)
    · have c5 : v1 ≤ (s.1 1 1) := of_decide_eq_true c5
      rw [if_pos c5] at h
      refine Ev.seg D_92 [(.aload_n 0, 1)] (by decide +kernel) (j := 0) (pc' := 18) (lv' := [(0, .ref 0), (1, .int v1)]) (st' := [.ref 0]) rfl ?_
      refine Ev.getR D_92 (by decide +kernel) F_9_10 T_9_0 (x := 1) (S_oR k_0 (by decide +kernel)) ?_
      refine Ev.seg D_92 [(.iload_n 1, 1)] (by decide +kernel) (j := 0) (pc' := 22) (lv' := [(0, .ref 0), (1, .int v1)]) (st' := [.int v1, .ref 1]) rfl ?_
      refine Ev.putI D_92 (by decide +kernel) F_9_89 N_8_1 T_8_1 (S_pI k_1) ?_
      refine Ev.seg D_92 [(.iload_n 1, 1)] (by decide +kernel) (j := 0) (pc' := 26) (lv' := [(0, .ref 0), (1, .int v1)]) (st' := [.int v1]) rfl ?_
      cases h
      obtain rfl : o = _ := ho
      exact Ev.iret D_92 (by decide +kernel)
    · have c5 : ¬ v1 ≤ (s.1 1 1) := of_decide_eq_false c5
      rw [if_neg c5] at h
      refine Ev.seg D_92 [(.iconst (-1), 1)] (by decide +kernel) (j := 0) (pc' := 16) (lv' := [(0, .ref 0), (1, .int v1)]) (st' := [.int (-1 : Int32)]) rfl ?_
      cases h
      obtain rfl : o = _ := ho
      exact Ev.iret D_92 (by decide +kernel)
/- PennantLawn sailAgain: 94 -/
def gL_sailAgain (s : mT) : Option (mT) :=
  (gC_prepare 28 s).bind fun p2 =>
  (gC_sail 28 (p2.1 16 0) p2).bind fun p6 =>
  some ((stI (stI p6 214 2 (1 : Int32)) 225 2 (-1 : Int32)))
set_option maxRecDepth 8000 in
theorem gL_sailAgain_ok {L d : Nat} (hd : 5 ≤ d) {s : mT} {p : mT} (h : gL_sailAgain s = some p) : Ev d 94 0 [(0, .ref 0)] [] (uS L s) (none, uS L p) := by
  obtain ⟨d, rfl⟩ : ∃ e, d = e + 1 := ⟨d - 1, by omega⟩
  obtain ⟨o, ho⟩ : ∃ o : Option Value × mS, o = (none, uS L p) := ⟨_, rfl⟩
  rw [← ho]
  unfold gL_sailAgain at h
  refine Ev.seg D_94 [(.aload_n 0, 1)] (by decide +kernel) (j := 0) (pc' := 1) (lv' := [(0, .ref 0)]) (st' := [.ref 0]) rfl ?_
  refine Ev.getR D_94 (by decide +kernel) F_9_37 T_9_5 (x := 28) (S_oR k_0 (by decide +kernel)) ?_
  obtain ⟨p2, e2, h⟩ := bd h
  refine Ev.callv D_94 E_1 (by decide +kernel) C_9_241 28 [] (r := []) rfl (gd_o k_28 (by decide)) rfl (Nat.le_of_ble_eq_true rfl) (Nat.le_of_ble_eq_true rfl) (gC_prepare_ok (by omega) (by decide) e2) ?_
  refine Ev.seg D_94 [(.aload_n 0, 1)] (by decide +kernel) (j := 0) (pc' := 8) (lv' := [(0, .ref 0)]) (st' := [.ref 0]) rfl ?_
  refine Ev.getR D_94 (by decide +kernel) F_9_37 T_9_5 (x := 28) (S_oR k_0 (by decide +kernel)) ?_
  refine Ev.seg D_94 [(.aload_n 0, 1)] (by decide +kernel) (j := 0) (pc' := 12) (lv' := [(0, .ref 0)]) (st' := [.ref 0, .ref 28]) rfl ?_
  refine Ev.getR D_94 (by decide +kernel) F_9_28 T_9_2 (x := 16) (S_oR k_0 (by decide +kernel)) ?_
  refine Ev.getI D_94 (by decide +kernel) F_9_187 (Or.inl T_2_0) (S_oI k_16) ?_
  obtain ⟨p6, e6, h⟩ := bd h
  refine Ev.callv D_94 E_5 (by decide +kernel) C_9_301 28 [.int (p2.1 16 0)] (r := []) rfl (gd_o k_28 (by decide)) rfl (Nat.le_of_ble_eq_true rfl) (Nat.le_of_ble_eq_true rfl) (gC_sail_ok (by omega) (by decide) e6) ?_
  refine Ev.seg D_94 [(.aload_n 0, 1)] (by decide +kernel) (j := 0) (pc' := 22) (lv' := [(0, .ref 0)]) (st' := [.ref 0]) rfl ?_
  refine Ev.getR D_94 (by decide +kernel) F_9_49 T_9_7 (x := 214) (S_oR k_0 (by decide +kernel)) ?_
  refine Ev.seg D_94 [(.iconst 1, 1)] (by decide +kernel) (j := 0) (pc' := 26) (lv' := [(0, .ref 0)]) (st' := [.int (1 : Int32), .ref 214]) rfl ?_
  refine Ev.putZ D_94 (by decide +kernel) F_9_436 N_7_2 T_7_2 (S_pZ k_214 (by decide)) ?_
  refine Ev.seg D_94 [(.aload_n 0, 1)] (by decide +kernel) (j := 0) (pc' := 30) (lv' := [(0, .ref 0)]) (st' := [.ref 0]) rfl ?_
  refine Ev.getR D_94 (by decide +kernel) F_9_56 T_9_8 (x := 225) (S_oR k_0 (by decide +kernel)) ?_
  refine Ev.seg D_94 [(.iconst (-1), 1)] (by decide +kernel) (j := 0) (pc' := 34) (lv' := [(0, .ref 0)]) (st' := [.int (-1 : Int32), .ref 225]) rfl ?_
  refine Ev.putI D_94 (by decide +kernel) F_9_411 N_5_2 T_5_2 (S_pI k_225) ?_
  cases h
  obtain rfl : o = _ := ho
  exact Ev.vret D_94 (by decide +kernel)
/- PennantLawn race: 93 -/
def gL_race (s : mT) : Option (Int32 × mT) :=
  (gD_readTape s).bind fun p2 =>
  if p2.1 = 0 then
    some (((-4 : Int32), (stI p2.2 1 1 (0 : Int32))))
  else
    (gR_copyFrom 16 4 (stI p2.2 1 1 (0 : Int32))).bind fun p9 =>
    (gL_sailAgain p9).bind fun p10 =>
    some ((p10.1 16 4, p10))
set_option maxRecDepth 8000 in
theorem gL_race_ok {L d : Nat} (hd : 10 ≤ d) {s : mT} {p : Int32 × mT} (h : gL_race s = some p) : Ev d 93 0 [(0, .ref 0)] [] (uS L s) (some (.int p.1), uS L p.2) := by
  obtain ⟨d, rfl⟩ : ∃ e, d = e + 1 := ⟨d - 1, by omega⟩
  obtain ⟨o, ho⟩ : ∃ o : Option Value × mS, o = (some (.int p.1), uS L p.2) := ⟨_, rfl⟩
  rw [← ho]
  unfold gL_race at h
  refine Ev.seg D_93 [(.aload_n 0, 1)] (by decide +kernel) (j := 0) (pc' := 1) (lv' := [(0, .ref 0)]) (st' := [.ref 0]) rfl ?_
  refine Ev.getR D_93 (by decide +kernel) F_9_21 T_9_1 (x := 3) (S_oR k_0 (by decide +kernel)) ?_
  obtain ⟨p2, e2, h⟩ := bd h
  refine Ev.callv D_93 E_48 (by decide +kernel) C_9_97 3 [] (r := []) rfl (gd_o k_3 (by decide)) rfl (Nat.le_of_ble_eq_true rfl) (Nat.le_of_ble_eq_true rfl) (gD_readTape_ok (by omega)  e2) ?_
  refine Ev.seg D_93 [(.istore_n 1, 1), (.aload_n 0, 1)] (by decide +kernel) (j := 0) (pc' := 9) (lv' := [(1, .int p2.1), (0, .ref 0)]) (st' := [.ref 0]) rfl ?_
  refine Ev.getR D_93 (by decide +kernel) F_9_10 T_9_0 (x := 1) (S_oR k_0 (by decide +kernel)) ?_
  refine Ev.seg D_93 [(.iconst 0, 1)] (by decide +kernel) (j := 0) (pc' := 13) (lv' := [(1, .int p2.1), (0, .ref 0)]) (st' := [.int (0 : Int32), .ref 1]) rfl ?_
  refine Ev.putI D_93 (by decide +kernel) F_9_89 N_8_1 T_8_1 (S_pI k_1) ?_
  refine Ev.seg D_93 [(.iload_n 1, 1)] (by decide +kernel) (j := 0) (pc' := 17) (lv' := [(1, .int p2.1), (0, .ref 0)]) (st' := [.int p2.1]) rfl ?_
  refine Ev.if_ D_93 (c := .ne) (off := 6) (by decide +kernel) (t := 23) rfl (fun c5 => ?_) (fun c5 => ?_)
  · have c5 : ¬ p2.1 = 0 := of_decide_eq_true c5
    rw [if_neg c5] at h
    refine Ev.seg D_93 [(.aload_n 0, 1)] (by decide +kernel) (j := 0) (pc' := 24) (lv' := [(1, .int p2.1), (0, .ref 0)]) (st' := [.ref 0]) rfl ?_
    refine Ev.getR D_93 (by decide +kernel) F_9_28 T_9_2 (x := 16) (S_oR k_0 (by decide +kernel)) ?_
    refine Ev.seg D_93 [(.aload_n 0, 1)] (by decide +kernel) (j := 0) (pc' := 28) (lv' := [(1, .int p2.1), (0, .ref 0)]) (st' := [.ref 0, .ref 16]) rfl ?_
    refine Ev.getR D_93 (by decide +kernel) F_9_21 T_9_1 (x := 3) (S_oR k_0 (by decide +kernel)) ?_
    refine Ev.getR D_93 (by decide +kernel) F_9_101 T_3_1 (x := 4) (S_oR k_3 (by decide +kernel)) ?_
    obtain ⟨p9, e9, h⟩ := bd h
    refine Ev.callv D_93 E_38 (by decide +kernel) C_9_104 16 [.ref 4] (r := []) rfl (gd_o k_16 (by decide)) rfl (Nat.le_of_ble_eq_true rfl) (Nat.le_of_ble_eq_true rfl) (gR_copyFrom_ok (by omega) (by decide) (by decide) e9) ?_
    refine Ev.seg D_93 [(.aload_n 0, 1)] (by decide +kernel) (j := 0) (pc' := 38) (lv' := [(1, .int p2.1), (0, .ref 0)]) (st' := [.ref 0]) rfl ?_
    obtain ⟨p10, e10, h⟩ := bd h
    refine Ev.callv D_93 E_94 (by decide +kernel) C_9_107 0 [] (r := []) rfl (gd_o k_0 (by decide)) rfl (Nat.le_of_ble_eq_true rfl) (Nat.le_of_ble_eq_true rfl) (gL_sailAgain_ok (by omega)  e10) ?_
    refine Ev.seg D_93 [(.aload_n 0, 1)] (by decide +kernel) (j := 0) (pc' := 42) (lv' := [(1, .int p2.1), (0, .ref 0)]) (st' := [.ref 0]) rfl ?_
    refine Ev.getR D_93 (by decide +kernel) F_9_28 T_9_2 (x := 16) (S_oR k_0 (by decide +kernel)) ?_
    refine Ev.getI D_93 (by decide +kernel) F_9_110 (Or.inl T_2_4) (S_oI k_16) ?_
    cases h
    obtain rfl : o = _ := ho
    exact Ev.iret D_93 (by decide +kernel)
  · have c5 : p2.1 = 0 := Decidable.of_not_not (of_decide_eq_false c5)
    rw [if_pos c5] at h
    refine Ev.seg D_93 [(.bipush (-4), 2)] (by decide +kernel) (j := 0) (pc' := 22) (lv' := [(1, .int p2.1), (0, .ref 0)]) (st' := [.int (-4 : Int32)]) rfl ?_
    cases h
    obtain rfl : o = _ := ho
    exact Ev.iret D_93 (by decide +kernel)
/- PennantLawn fault: 95 -/
def gL_fault (v1 : Int32) (s : mT) : Option (Int32) :=
  if v1 = 0 then
    some (s.1 3 2)
  else
    (
      if v1 = (1 : Int32) then
        some (s.1 3 3)
      else
        some ((-1 : Int32)) : Option (Int32)).bind fun x2 =>
    some (x2)
set_option maxRecDepth 8000 in
theorem gL_fault_ok {L d : Nat} (hd : 1 ≤ d) {v1 : Int32} {s : mT} {p : Int32} (h : gL_fault v1 s = some p) : Ev d 95 0 [(0, .ref 0), (1, .int v1)] [] (uS L s) (some (.int p), uS L s) := by
  obtain ⟨d, rfl⟩ : ∃ e, d = e + 1 := ⟨d - 1, by omega⟩
  obtain ⟨o, ho⟩ : ∃ o : Option Value × mS, o = (some (.int p), uS L s) := ⟨_, rfl⟩
  rw [← ho]
  unfold gL_fault at h
  refine Ev.seg D_95 [(.iload_n 1, 1)] (by decide +kernel) (j := 0) (pc' := 1) (lv' := [(0, .ref 0), (1, .int v1)]) (st' := [.int v1]) rfl ?_
  refine Ev.if_ D_95 (c := .ne) (off := 11) (by decide +kernel) (t := 12) rfl (fun c1 => ?_) (fun c1 => ?_)
  · have c1 : ¬ v1 = 0 := of_decide_eq_true c1
    rw [if_neg c1] at h
    refine Ev.seg D_95 [(.iload_n 1, 1), (.iconst 1, 1)] (by decide +kernel) (j := 0) (pc' := 14) (lv' := [(0, .ref 0), (1, .int v1)]) (st' := [.int (1 : Int32), .int v1]) rfl ?_
    obtain ⟨x2, g2, h⟩ := bd h
    have j2 : Ev (d + 1) 95 28 [] [.int x2] (uS L s) o := by
      clear g2
      cases h
      obtain rfl : o = _ := ho
      exact Ev.iret D_95 (by decide +kernel)
    clear h
    refine Ev.icmp D_95 (c := .ne) (off := 13) (by decide +kernel) (t := 27) rfl (fun c2 => ?_) (fun c2 => ?_)
    · have c2 : ¬ v1 = (1 : Int32) := of_decide_eq_true c2
      rw [if_neg c2] at g2
      refine Ev.seg D_95 [(.iconst (-1), 1)] (by decide +kernel) (j := 0) (pc' := 28) (lv' := [(0, .ref 0), (1, .int v1)]) (st' := [.int (-1 : Int32)]) rfl ?_
      cases g2
      exact Ev.sub2 j2 subL_nil
    · have c2 : v1 = (1 : Int32) := Decidable.of_not_not (of_decide_eq_false c2)
      rw [if_pos c2] at g2
      refine Ev.seg D_95 [(.aload_n 0, 1)] (by decide +kernel) (j := 0) (pc' := 18) (lv' := [(0, .ref 0), (1, .int v1)]) (st' := [.ref 0]) rfl ?_
      refine Ev.getR D_95 (by decide +kernel) F_9_21 T_9_1 (x := 3) (S_oR k_0 (by decide +kernel)) ?_
      refine Ev.getI D_95 (by decide +kernel) F_9_116 (Or.inl T_3_3) (S_oI k_3) ?_
      refine Ev.seg D_95 [(.goto 4, 3)] (by decide +kernel) (j := 0) (pc' := 28) (lv' := [(0, .ref 0), (1, .int v1)]) (st' := [.int (s.1 3 3)]) rfl ?_
      cases g2
      exact Ev.sub2 j2 subL_nil
  · have c1 : v1 = 0 := Decidable.of_not_not (of_decide_eq_false c1)
    rw [if_pos c1] at h
    refine Ev.seg D_95 [(.aload_n 0, 1)] (by decide +kernel) (j := 0) (pc' := 5) (lv' := [(0, .ref 0), (1, .int v1)]) (st' := [.ref 0]) rfl ?_
    refine Ev.getR D_95 (by decide +kernel) F_9_21 T_9_1 (x := 3) (S_oR k_0 (by decide +kernel)) ?_
    refine Ev.getI D_95 (by decide +kernel) F_9_113 (Or.inl T_3_2) (S_oI k_3) ?_
    cases h
    obtain rfl : o = _ := ho
    exact Ev.iret D_95 (by decide +kernel)
/- PennantLawn isPart: 97 -/
def gL_isPart (v0 : Int32) (s : mT) : Option (Int32) :=
  (
    if v0 = 0 then
      some ((1 : Int32))
    else
      if v0 = (1 : Int32) then
        some ((1 : Int32))
      else
        some ((0 : Int32)) : Option (Int32)).bind fun x1 =>
  if x1 = 0 ∨ x1 = 1 then some (x1) else none
set_option maxRecDepth 8000 in
theorem gL_isPart_ok {L d : Nat} (hd : 1 ≤ d) {v0 : Int32} {s : mT} {p : Int32} (h : gL_isPart v0 s = some p) : Ev d 97 0 [(0, .int v0)] [] (uS L s) (some (.int p), uS L s) := by
  obtain ⟨d, rfl⟩ : ∃ e, d = e + 1 := ⟨d - 1, by omega⟩
  obtain ⟨o, ho⟩ : ∃ o : Option Value × mS, o = (some (.int p), uS L s) := ⟨_, rfl⟩
  rw [← ho]
  unfold gL_isPart at h
  refine Ev.seg D_97 [(.iload_n 0, 1)] (by decide +kernel) (j := 0) (pc' := 1) (lv' := [(0, .int v0)]) (st' := [.int v0]) rfl ?_
  obtain ⟨x1, g1, h⟩ := bd h
  have j1 : Ev (d + 1) 97 14 [] [.int x1] (uS L s) o := by
    clear g1
    by_cases c3 : x1 = 0 ∨ x1 = 1
    · rw [if_pos c3] at h
      cases h
      obtain rfl : o = _ := ho
      exact Ev.zret D_97 c3 (by decide +kernel)
    · rw [if_neg c3] at h; cases h
  clear h
  refine Ev.if_ D_97 (c := .eq) (off := 8) (by decide +kernel) (t := 9) rfl (fun c1 => ?_) (fun c1 => ?_)
  · have c1 : v0 = 0 := of_decide_eq_true c1
    rw [if_pos c1] at g1
    refine Ev.seg D_97 [(.iconst 1, 1), (.goto 4, 3)] (by decide +kernel) (j := 0) (pc' := 14) (lv' := [(0, .int v0)]) (st' := [.int (1 : Int32)]) rfl ?_
    cases g1
    exact Ev.sub2 j1 subL_nil
  · have c1 : ¬ v0 = 0 := of_decide_eq_false c1
    rw [if_neg c1] at g1
    refine Ev.seg D_97 [(.iload_n 0, 1), (.iconst 1, 1)] (by decide +kernel) (j := 0) (pc' := 6) (lv' := [(0, .int v0)]) (st' := [.int (1 : Int32), .int v0]) rfl ?_
    refine Ev.icmp D_97 (c := .ne) (off := 7) (by decide +kernel) (t := 13) rfl (fun c2 => ?_) (fun c2 => ?_)
    · have c2 : ¬ v0 = (1 : Int32) := of_decide_eq_true c2
      rw [if_neg c2] at g1
      refine Ev.seg D_97 [(.iconst 0, 1)] (by decide +kernel) (j := 0) (pc' := 14) (lv' := [(0, .int v0)]) (st' := [.int (0 : Int32)]) rfl ?_
      cases g1
      exact Ev.sub2 j1 subL_nil
    · have c2 : v0 = (1 : Int32) := Decidable.of_not_not (of_decide_eq_false c2)
      rw [if_pos c2] at g1
      refine Ev.seg D_97 [(.iconst 1, 1), (.goto 4, 3)] (by decide +kernel) (j := 0) (pc' := 14) (lv' := [(0, .int v0)]) (st' := [.int (1 : Int32)]) rfl ?_
      cases g1
      exact Ev.sub2 j1 subL_nil
/- PennantLawn boat: 96 -/
def gL_boat (v1 : Int32) (v2 : Int32) (s : mT) : Option (Int32) :=
  (gR_hasBoat 16 v1.toInt64 s).bind fun p2 =>
  if p2 = 0 then
    some ((-2 : Int32))
  else
    (gL_isPart v2 s).bind fun p5 =>
    if p5 = 0 then
      some ((-2 : Int32))
    else
      (
        if v2 = 0 then
          (rdI (s.1 17) 5 v1).bind fun x13 =>
          some (x13)
        else
          (rdI (s.1 18) 5 v1).bind fun x10 =>
          some (x10) : Option (Int32)).bind fun x7 =>
      some (x7)
set_option maxRecDepth 8000 in
theorem gL_boat_ok {L d : Nat} (hd : 2 ≤ d) {v1 : Int32} {v2 : Int32} {s : mT} {p : Int32} (h : gL_boat v1 v2 s = some p) : Ev d 96 0 [(0, .ref 0), (1, .int v1), (2, .int v2)] [] (uS L s) (some (.int p), uS L s) := by
  obtain ⟨d, rfl⟩ : ∃ e, d = e + 1 := ⟨d - 1, by omega⟩
  obtain ⟨o, ho⟩ : ∃ o : Option Value × mS, o = (some (.int p), uS L s) := ⟨_, rfl⟩
  rw [← ho]
  unfold gL_boat at h
  refine Ev.seg D_96 [(.aload_n 0, 1)] (by decide +kernel) (j := 0) (pc' := 1) (lv' := [(0, .ref 0), (1, .int v1), (2, .int v2)]) (st' := [.ref 0]) rfl ?_
  refine Ev.getR D_96 (by decide +kernel) F_9_28 T_9_2 (x := 16) (S_oR k_0 (by decide +kernel)) ?_
  refine Ev.seg D_96 [(.iload_n 1, 1), (.i2l, 1)] (by decide +kernel) (j := 0) (pc' := 6) (lv' := [(0, .ref 0), (1, .int v1), (2, .int v2)]) (st' := [.long v1.toInt64, .ref 16]) rfl ?_
  obtain ⟨p2, e2, h⟩ := bd h
  refine Ev.callv D_96 E_39 (by decide +kernel) C_9_119 16 [.long v1.toInt64] (r := []) rfl (gd_o k_16 (by decide)) rfl (Nat.le_of_ble_eq_true rfl) (Nat.le_of_ble_eq_true rfl) (gR_hasBoat_ok (by omega) (by decide) e2) ?_
  refine Ev.if_ D_96 (c := .eq) (off := 10) (by decide +kernel) (t := 19) rfl (fun c3 => ?_) (fun c3 => ?_)
  · have c3 : p2 = 0 := of_decide_eq_true c3
    rw [if_pos c3] at h
    refine Ev.seg D_96 [(.bipush (-2), 2)] (by decide +kernel) (j := 0) (pc' := 21) (lv' := [(0, .ref 0), (1, .int v1), (2, .int v2)]) (st' := [.int (-2 : Int32)]) rfl ?_
    cases h
    obtain rfl : o = _ := ho
    exact Ev.iret D_96 (by decide +kernel)
  · have c3 : ¬ p2 = 0 := of_decide_eq_false c3
    rw [if_neg c3] at h
    refine Ev.seg D_96 [(.iload_n 2, 1)] (by decide +kernel) (j := 0) (pc' := 13) (lv' := [(0, .ref 0), (1, .int v1), (2, .int v2)]) (st' := [.int v2]) rfl ?_
    obtain ⟨p5, e5, h⟩ := bd h
    refine Ev.calls D_96 E_97 (by decide +kernel) C_9_123 [.int v2] (r := []) rfl rfl (Nat.le_of_ble_eq_true rfl) (Nat.le_of_ble_eq_true rfl) (gL_isPart_ok (by omega)  e5) ?_
    refine Ev.if_ D_96 (c := .ne) (off := 6) (by decide +kernel) (t := 22) rfl (fun c6 => ?_) (fun c6 => ?_)
    · have c6 : ¬ p5 = 0 := of_decide_eq_true c6
      rw [if_neg c6] at h
      refine Ev.seg D_96 [(.iload_n 2, 1)] (by decide +kernel) (j := 0) (pc' := 23) (lv' := [(0, .ref 0), (1, .int v1), (2, .int v2)]) (st' := [.int v2]) rfl ?_
      obtain ⟨x7, g7, h⟩ := bd h
      have j7 : Ev (d + 1) 96 47 [] [.int x7] (uS L s) o := by
        clear g7
        cases h
        obtain rfl : o = _ := ho
        exact Ev.iret D_96 (by decide +kernel)
      clear h
      refine Ev.if_ D_96 (c := .ne) (off := 15) (by decide +kernel) (t := 38) rfl (fun c7 => ?_) (fun c7 => ?_)
      · have c7 : ¬ v2 = 0 := of_decide_eq_true c7
        rw [if_neg c7] at g7
        refine Ev.seg D_96 [(.aload_n 0, 1)] (by decide +kernel) (j := 0) (pc' := 39) (lv' := [(0, .ref 0), (1, .int v1), (2, .int v2)]) (st' := [.ref 0]) rfl ?_
        refine Ev.getR D_96 (by decide +kernel) F_9_28 T_9_2 (x := 16) (S_oR k_0 (by decide +kernel)) ?_
        refine Ev.getR D_96 (by decide +kernel) F_9_131 T_2_10 (x := 18) (S_oR k_16 (by decide +kernel)) ?_
        refine Ev.seg D_96 [(.iload_n 1, 1)] (by decide +kernel) (j := 0) (pc' := 46) (lv' := [(0, .ref 0), (1, .int v1), (2, .int v2)]) (st' := [.int v1, .ref 18]) rfl ?_
        obtain ⟨x10, e10, g7⟩ := bd g7
        refine Ev.iald D_96 (by decide +kernel) (S_aI k_18 e10) ?_
        cases g7
        exact Ev.sub2 j7 subL_nil
      · have c7 : v2 = 0 := Decidable.of_not_not (of_decide_eq_false c7)
        rw [if_pos c7] at g7
        refine Ev.seg D_96 [(.aload_n 0, 1)] (by decide +kernel) (j := 0) (pc' := 27) (lv' := [(0, .ref 0), (1, .int v1), (2, .int v2)]) (st' := [.ref 0]) rfl ?_
        refine Ev.getR D_96 (by decide +kernel) F_9_28 T_9_2 (x := 16) (S_oR k_0 (by decide +kernel)) ?_
        refine Ev.getR D_96 (by decide +kernel) F_9_127 T_2_9 (x := 17) (S_oR k_16 (by decide +kernel)) ?_
        refine Ev.seg D_96 [(.iload_n 1, 1)] (by decide +kernel) (j := 0) (pc' := 34) (lv' := [(0, .ref 0), (1, .int v1), (2, .int v2)]) (st' := [.int v1, .ref 17]) rfl ?_
        obtain ⟨x13, e13, g7⟩ := bd g7
        refine Ev.iald D_96 (by decide +kernel) (S_aI k_17 e13) ?_
        refine Ev.seg D_96 [(.goto 12, 3)] (by decide +kernel) (j := 0) (pc' := 47) (lv' := [(0, .ref 0), (1, .int v1), (2, .int v2)]) (st' := [.int x13]) rfl ?_
        cases g7
        exact Ev.sub2 j7 subL_nil
    · have c6 : p5 = 0 := Decidable.of_not_not (of_decide_eq_false c6)
      rw [if_pos c6] at h
      refine Ev.seg D_96 [(.bipush (-2), 2)] (by decide +kernel) (j := 0) (pc' := 21) (lv' := [(0, .ref 0), (1, .int v1), (2, .int v2)]) (st' := [.int (-2 : Int32)]) rfl ?_
      cases h
      obtain rfl : o = _ := ho
      exact Ev.iret D_96 (by decide +kernel)
/- PennantLawn watcher: 98 -/
def gL_watcher (v1 : Int32) (v2 : Int32) (s : mT) : Option (Int32) :=
  (gR_hasWatcher 16 v1 s).bind fun p2 =>
  if p2 = 0 then
    some ((-2 : Int32))
  else
    if v2 = (0 : Int32) then
      (rdI (s.1 19) 5 v1).bind fun x7 =>
      some (x7)
    else if v2 = (1 : Int32) then
      (rdI (s.1 20) 5 v1).bind fun x11 =>
      some (x11)
    else if v2 = (2 : Int32) then
      (rdI (s.1 21) 5 v1).bind fun x15 =>
      some (x15)
    else if v2 = (3 : Int32) then
      (rdI (s.1 22) 5 v1).bind fun x19 =>
      some (x19)
    else 
    some ((-2 : Int32))
set_option maxRecDepth 8000 in
theorem gL_watcher_ok {L d : Nat} (hd : 2 ≤ d) {v1 : Int32} {v2 : Int32} {s : mT} {p : Int32} (h : gL_watcher v1 v2 s = some p) : Ev d 98 0 [(0, .ref 0), (1, .int v1), (2, .int v2)] [] (uS L s) (some (.int p), uS L s) := by
  obtain ⟨d, rfl⟩ : ∃ e, d = e + 1 := ⟨d - 1, by omega⟩
  obtain ⟨o, ho⟩ : ∃ o : Option Value × mS, o = (some (.int p), uS L s) := ⟨_, rfl⟩
  rw [← ho]
  unfold gL_watcher at h
  refine Ev.seg D_98 [(.aload_n 0, 1)] (by decide +kernel) (j := 0) (pc' := 1) (lv' := [(0, .ref 0), (1, .int v1), (2, .int v2)]) (st' := [.ref 0]) rfl ?_
  refine Ev.getR D_98 (by decide +kernel) F_9_28 T_9_2 (x := 16) (S_oR k_0 (by decide +kernel)) ?_
  refine Ev.seg D_98 [(.iload_n 1, 1)] (by decide +kernel) (j := 0) (pc' := 5) (lv' := [(0, .ref 0), (1, .int v1), (2, .int v2)]) (st' := [.int v1, .ref 16]) rfl ?_
  obtain ⟨p2, e2, h⟩ := bd h
  refine Ev.callv D_98 E_40 (by decide +kernel) C_9_134 16 [.int v1] (r := []) rfl (gd_o k_16 (by decide)) rfl (Nat.le_of_ble_eq_true rfl) (Nat.le_of_ble_eq_true rfl) (gR_hasWatcher_ok (by omega) (by decide) e2) ?_
  refine Ev.if_ D_98 (c := .ne) (off := 6) (by decide +kernel) (t := 14) rfl (fun c3 => ?_) (fun c3 => ?_)
  · have c3 : ¬ p2 = 0 := of_decide_eq_true c3
    rw [if_neg c3] at h
    refine Ev.seg D_98 [(.iload_n 2, 1)] (by decide +kernel) (j := 0) (pc' := 15) (lv' := [(0, .ref 0), (1, .int v1), (2, .int v2)]) (st' := [.int v2]) rfl ?_
    by_cases c4_0 : v2 = (0 : Int32)
    · rw [if_pos c4_0] at h
      refine Ev.tab D_98 (len := 29) (df := 69) (lo := 0) (hi := 3) (offs := #[29, 39, 49, 59]) (by decide +kernel) (off := 29) (t := 44) (by rw [c4_0]; decide +kernel) rfl ?_
      refine Ev.seg D_98 [(.aload_n 0, 1)] (by decide +kernel) (j := 0) (pc' := 45) (lv' := [(0, .ref 0), (1, .int v1), (2, .int v2)]) (st' := [.ref 0]) rfl ?_
      refine Ev.getR D_98 (by decide +kernel) F_9_28 T_9_2 (x := 16) (S_oR k_0 (by decide +kernel)) ?_
      refine Ev.getR D_98 (by decide +kernel) F_9_137 T_2_11 (x := 19) (S_oR k_16 (by decide +kernel)) ?_
      refine Ev.seg D_98 [(.iload_n 1, 1)] (by decide +kernel) (j := 0) (pc' := 52) (lv' := [(0, .ref 0), (1, .int v1), (2, .int v2)]) (st' := [.int v1, .ref 19]) rfl ?_
      obtain ⟨x7, e7, h⟩ := bd h
      refine Ev.iald D_98 (by decide +kernel) (S_aI k_19 e7) ?_
      cases h
      obtain rfl : o = _ := ho
      exact Ev.iret D_98 (by decide +kernel)
    rw [if_neg c4_0] at h
    by_cases c4_1 : v2 = (1 : Int32)
    · rw [if_pos c4_1] at h
      refine Ev.tab D_98 (len := 29) (df := 69) (lo := 0) (hi := 3) (offs := #[29, 39, 49, 59]) (by decide +kernel) (off := 39) (t := 54) (by rw [c4_1]; decide +kernel) rfl ?_
      refine Ev.seg D_98 [(.aload_n 0, 1)] (by decide +kernel) (j := 0) (pc' := 55) (lv' := [(0, .ref 0), (1, .int v1), (2, .int v2)]) (st' := [.ref 0]) rfl ?_
      refine Ev.getR D_98 (by decide +kernel) F_9_28 T_9_2 (x := 16) (S_oR k_0 (by decide +kernel)) ?_
      refine Ev.getR D_98 (by decide +kernel) F_9_140 T_2_12 (x := 20) (S_oR k_16 (by decide +kernel)) ?_
      refine Ev.seg D_98 [(.iload_n 1, 1)] (by decide +kernel) (j := 0) (pc' := 62) (lv' := [(0, .ref 0), (1, .int v1), (2, .int v2)]) (st' := [.int v1, .ref 20]) rfl ?_
      obtain ⟨x11, e11, h⟩ := bd h
      refine Ev.iald D_98 (by decide +kernel) (S_aI k_20 e11) ?_
      cases h
      obtain rfl : o = _ := ho
      exact Ev.iret D_98 (by decide +kernel)
    rw [if_neg c4_1] at h
    by_cases c4_2 : v2 = (2 : Int32)
    · rw [if_pos c4_2] at h
      refine Ev.tab D_98 (len := 29) (df := 69) (lo := 0) (hi := 3) (offs := #[29, 39, 49, 59]) (by decide +kernel) (off := 49) (t := 64) (by rw [c4_2]; decide +kernel) rfl ?_
      refine Ev.seg D_98 [(.aload_n 0, 1)] (by decide +kernel) (j := 0) (pc' := 65) (lv' := [(0, .ref 0), (1, .int v1), (2, .int v2)]) (st' := [.ref 0]) rfl ?_
      refine Ev.getR D_98 (by decide +kernel) F_9_28 T_9_2 (x := 16) (S_oR k_0 (by decide +kernel)) ?_
      refine Ev.getR D_98 (by decide +kernel) F_9_143 T_2_13 (x := 21) (S_oR k_16 (by decide +kernel)) ?_
      refine Ev.seg D_98 [(.iload_n 1, 1)] (by decide +kernel) (j := 0) (pc' := 72) (lv' := [(0, .ref 0), (1, .int v1), (2, .int v2)]) (st' := [.int v1, .ref 21]) rfl ?_
      obtain ⟨x15, e15, h⟩ := bd h
      refine Ev.iald D_98 (by decide +kernel) (S_aI k_21 e15) ?_
      cases h
      obtain rfl : o = _ := ho
      exact Ev.iret D_98 (by decide +kernel)
    rw [if_neg c4_2] at h
    by_cases c4_3 : v2 = (3 : Int32)
    · rw [if_pos c4_3] at h
      refine Ev.tab D_98 (len := 29) (df := 69) (lo := 0) (hi := 3) (offs := #[29, 39, 49, 59]) (by decide +kernel) (off := 59) (t := 74) (by rw [c4_3]; decide +kernel) rfl ?_
      refine Ev.seg D_98 [(.aload_n 0, 1)] (by decide +kernel) (j := 0) (pc' := 75) (lv' := [(0, .ref 0), (1, .int v1), (2, .int v2)]) (st' := [.ref 0]) rfl ?_
      refine Ev.getR D_98 (by decide +kernel) F_9_28 T_9_2 (x := 16) (S_oR k_0 (by decide +kernel)) ?_
      refine Ev.getR D_98 (by decide +kernel) F_9_146 T_2_14 (x := 22) (S_oR k_16 (by decide +kernel)) ?_
      refine Ev.seg D_98 [(.iload_n 1, 1)] (by decide +kernel) (j := 0) (pc' := 82) (lv' := [(0, .ref 0), (1, .int v1), (2, .int v2)]) (st' := [.int v1, .ref 22]) rfl ?_
      obtain ⟨x19, e19, h⟩ := bd h
      refine Ev.iald D_98 (by decide +kernel) (S_aI k_22 e19) ?_
      cases h
      obtain rfl : o = _ := ho
      exact Ev.iret D_98 (by decide +kernel)
    rw [if_neg c4_3] at h
    refine Ev.tab D_98 (len := 29) (df := 69) (lo := 0) (hi := 3) (offs := #[29, 39, 49, 59]) (by decide +kernel) (off := 69) (t := 84) (tab_df 4 (fun z hz => match z, hz with | 0, _ => c4_0 | 1, _ => c4_1 | 2, _ => c4_2 | 3, _ => c4_3 | z + 4, hz => absurd hz (by omega)) rfl) rfl ?_
    refine Ev.seg D_98 [(.bipush (-2), 2)] (by decide +kernel) (j := 0) (pc' := 86) (lv' := [(0, .ref 0), (1, .int v1), (2, .int v2)]) (st' := [.int (-2 : Int32)]) rfl ?_
    cases h
    obtain rfl : o = _ := ho
    exact Ev.iret D_98 (by decide +kernel)
  · have c3 : p2 = 0 := Decidable.of_not_not (of_decide_eq_false c3)
    rw [if_pos c3] at h
    refine Ev.seg D_98 [(.bipush (-2), 2)] (by decide +kernel) (j := 0) (pc' := 13) (lv' := [(0, .ref 0), (1, .int v1), (2, .int v2)]) (st' := [.int (-2 : Int32)]) rfl ?_
    cases h
    obtain rfl : o = _ := ho
    exact Ev.iret D_98 (by decide +kernel)
/- PennantLawn show: 99 -/
def gL_show (v1 : Int32) (v2 : Int32) (s : mT) : Option (Int32) :=
  (gR_hasShow 16 v1 s).bind fun p2 =>
  if p2 = 0 then
    some ((-2 : Int32))
  else
    (gL_isPart v2 s).bind fun p5 =>
    if p5 = 0 then
      some ((-2 : Int32))
    else
      (
        if v2 = 0 then
          (rdI (s.1 23) 5 v1).bind fun x13 =>
          some (x13)
        else
          (rdI (s.1 24) 5 v1).bind fun x10 =>
          some (x10) : Option (Int32)).bind fun x7 =>
      some (x7)
set_option maxRecDepth 8000 in
theorem gL_show_ok {L d : Nat} (hd : 2 ≤ d) {v1 : Int32} {v2 : Int32} {s : mT} {p : Int32} (h : gL_show v1 v2 s = some p) : Ev d 99 0 [(0, .ref 0), (1, .int v1), (2, .int v2)] [] (uS L s) (some (.int p), uS L s) := by
  obtain ⟨d, rfl⟩ : ∃ e, d = e + 1 := ⟨d - 1, by omega⟩
  obtain ⟨o, ho⟩ : ∃ o : Option Value × mS, o = (some (.int p), uS L s) := ⟨_, rfl⟩
  rw [← ho]
  unfold gL_show at h
  refine Ev.seg D_99 [(.aload_n 0, 1)] (by decide +kernel) (j := 0) (pc' := 1) (lv' := [(0, .ref 0), (1, .int v1), (2, .int v2)]) (st' := [.ref 0]) rfl ?_
  refine Ev.getR D_99 (by decide +kernel) F_9_28 T_9_2 (x := 16) (S_oR k_0 (by decide +kernel)) ?_
  refine Ev.seg D_99 [(.iload_n 1, 1)] (by decide +kernel) (j := 0) (pc' := 5) (lv' := [(0, .ref 0), (1, .int v1), (2, .int v2)]) (st' := [.int v1, .ref 16]) rfl ?_
  obtain ⟨p2, e2, h⟩ := bd h
  refine Ev.callv D_99 E_41 (by decide +kernel) C_9_149 16 [.int v1] (r := []) rfl (gd_o k_16 (by decide)) rfl (Nat.le_of_ble_eq_true rfl) (Nat.le_of_ble_eq_true rfl) (gR_hasShow_ok (by omega) (by decide) e2) ?_
  refine Ev.if_ D_99 (c := .eq) (off := 10) (by decide +kernel) (t := 18) rfl (fun c3 => ?_) (fun c3 => ?_)
  · have c3 : p2 = 0 := of_decide_eq_true c3
    rw [if_pos c3] at h
    refine Ev.seg D_99 [(.bipush (-2), 2)] (by decide +kernel) (j := 0) (pc' := 20) (lv' := [(0, .ref 0), (1, .int v1), (2, .int v2)]) (st' := [.int (-2 : Int32)]) rfl ?_
    cases h
    obtain rfl : o = _ := ho
    exact Ev.iret D_99 (by decide +kernel)
  · have c3 : ¬ p2 = 0 := of_decide_eq_false c3
    rw [if_neg c3] at h
    refine Ev.seg D_99 [(.iload_n 2, 1)] (by decide +kernel) (j := 0) (pc' := 12) (lv' := [(0, .ref 0), (1, .int v1), (2, .int v2)]) (st' := [.int v2]) rfl ?_
    obtain ⟨p5, e5, h⟩ := bd h
    refine Ev.calls D_99 E_97 (by decide +kernel) C_9_123 [.int v2] (r := []) rfl rfl (Nat.le_of_ble_eq_true rfl) (Nat.le_of_ble_eq_true rfl) (gL_isPart_ok (by omega)  e5) ?_
    refine Ev.if_ D_99 (c := .ne) (off := 6) (by decide +kernel) (t := 21) rfl (fun c6 => ?_) (fun c6 => ?_)
    · have c6 : ¬ p5 = 0 := of_decide_eq_true c6
      rw [if_neg c6] at h
      refine Ev.seg D_99 [(.iload_n 2, 1)] (by decide +kernel) (j := 0) (pc' := 22) (lv' := [(0, .ref 0), (1, .int v1), (2, .int v2)]) (st' := [.int v2]) rfl ?_
      obtain ⟨x7, g7, h⟩ := bd h
      have j7 : Ev (d + 1) 99 46 [] [.int x7] (uS L s) o := by
        clear g7
        cases h
        obtain rfl : o = _ := ho
        exact Ev.iret D_99 (by decide +kernel)
      clear h
      refine Ev.if_ D_99 (c := .ne) (off := 15) (by decide +kernel) (t := 37) rfl (fun c7 => ?_) (fun c7 => ?_)
      · have c7 : ¬ v2 = 0 := of_decide_eq_true c7
        rw [if_neg c7] at g7
        refine Ev.seg D_99 [(.aload_n 0, 1)] (by decide +kernel) (j := 0) (pc' := 38) (lv' := [(0, .ref 0), (1, .int v1), (2, .int v2)]) (st' := [.ref 0]) rfl ?_
        refine Ev.getR D_99 (by decide +kernel) F_9_28 T_9_2 (x := 16) (S_oR k_0 (by decide +kernel)) ?_
        refine Ev.getR D_99 (by decide +kernel) F_9_155 T_2_16 (x := 24) (S_oR k_16 (by decide +kernel)) ?_
        refine Ev.seg D_99 [(.iload_n 1, 1)] (by decide +kernel) (j := 0) (pc' := 45) (lv' := [(0, .ref 0), (1, .int v1), (2, .int v2)]) (st' := [.int v1, .ref 24]) rfl ?_
        obtain ⟨x10, e10, g7⟩ := bd g7
        refine Ev.iald D_99 (by decide +kernel) (S_aI k_24 e10) ?_
        cases g7
        exact Ev.sub2 j7 subL_nil
      · have c7 : v2 = 0 := Decidable.of_not_not (of_decide_eq_false c7)
        rw [if_pos c7] at g7
        refine Ev.seg D_99 [(.aload_n 0, 1)] (by decide +kernel) (j := 0) (pc' := 26) (lv' := [(0, .ref 0), (1, .int v1), (2, .int v2)]) (st' := [.ref 0]) rfl ?_
        refine Ev.getR D_99 (by decide +kernel) F_9_28 T_9_2 (x := 16) (S_oR k_0 (by decide +kernel)) ?_
        refine Ev.getR D_99 (by decide +kernel) F_9_152 T_2_15 (x := 23) (S_oR k_16 (by decide +kernel)) ?_
        refine Ev.seg D_99 [(.iload_n 1, 1)] (by decide +kernel) (j := 0) (pc' := 33) (lv' := [(0, .ref 0), (1, .int v1), (2, .int v2)]) (st' := [.int v1, .ref 23]) rfl ?_
        obtain ⟨x13, e13, g7⟩ := bd g7
        refine Ev.iald D_99 (by decide +kernel) (S_aI k_23 e13) ?_
        refine Ev.seg D_99 [(.goto 12, 3)] (by decide +kernel) (j := 0) (pc' := 46) (lv' := [(0, .ref 0), (1, .int v1), (2, .int v2)]) (st' := [.int x13]) rfl ?_
        cases g7
        exact Ev.sub2 j7 subL_nil
    · have c6 : p5 = 0 := Decidable.of_not_not (of_decide_eq_false c6)
      rw [if_pos c6] at h
      refine Ev.seg D_99 [(.bipush (-2), 2)] (by decide +kernel) (j := 0) (pc' := 20) (lv' := [(0, .ref 0), (1, .int v1), (2, .int v2)]) (st' := [.int (-2 : Int32)]) rfl ?_
      cases h
      obtain rfl : o = _ := ho
      exact Ev.iret D_99 (by decide +kernel)
/- PennantLawn place: 100 -/
def gL_place (v1 : Int32) (v2 : Int32) (s : mT) : Option (Int32) :=
  (gR_hasBoat 16 v1.toInt64 s).bind fun p2 =>
  if p2 = 0 then
    some ((-2 : Int32))
  else
    (gR_hasStep 16 v2.toInt64 s).bind fun p6 =>
    if p6 = 0 then
      some ((-2 : Int32))
    else
      if ¬ (v2 < 0 ∨ 21 ≤ v2.toNatClampNeg) then
        (rdI (s.1 (56 + v2.toNatClampNeg)) 5 v1).bind fun x11 =>
        some (x11)
      else none
set_option maxRecDepth 8000 in
theorem gL_place_ok {L d : Nat} (hd : 3 ≤ d) {v1 : Int32} {v2 : Int32} {s : mT} {p : Int32} (h : gL_place v1 v2 s = some p) : Ev d 100 0 [(0, .ref 0), (1, .int v1), (2, .int v2)] [] (uS L s) (some (.int p), uS L s) := by
  obtain ⟨d, rfl⟩ : ∃ e, d = e + 1 := ⟨d - 1, by omega⟩
  obtain ⟨o, ho⟩ : ∃ o : Option Value × mS, o = (some (.int p), uS L s) := ⟨_, rfl⟩
  rw [← ho]
  unfold gL_place at h
  refine Ev.seg D_100 [(.aload_n 0, 1)] (by decide +kernel) (j := 0) (pc' := 1) (lv' := [(0, .ref 0), (1, .int v1), (2, .int v2)]) (st' := [.ref 0]) rfl ?_
  refine Ev.getR D_100 (by decide +kernel) F_9_28 T_9_2 (x := 16) (S_oR k_0 (by decide +kernel)) ?_
  refine Ev.seg D_100 [(.iload_n 1, 1), (.i2l, 1)] (by decide +kernel) (j := 0) (pc' := 6) (lv' := [(0, .ref 0), (1, .int v1), (2, .int v2)]) (st' := [.long v1.toInt64, .ref 16]) rfl ?_
  obtain ⟨p2, e2, h⟩ := bd h
  refine Ev.callv D_100 E_39 (by decide +kernel) C_9_119 16 [.long v1.toInt64] (r := []) rfl (gd_o k_16 (by decide)) rfl (Nat.le_of_ble_eq_true rfl) (Nat.le_of_ble_eq_true rfl) (gR_hasBoat_ok (by omega) (by decide) e2) ?_
  refine Ev.if_ D_100 (c := .eq) (off := 15) (by decide +kernel) (t := 24) rfl (fun c3 => ?_) (fun c3 => ?_)
  · have c3 : p2 = 0 := of_decide_eq_true c3
    rw [if_pos c3] at h
    refine Ev.seg D_100 [(.bipush (-2), 2)] (by decide +kernel) (j := 0) (pc' := 26) (lv' := [(0, .ref 0), (1, .int v1), (2, .int v2)]) (st' := [.int (-2 : Int32)]) rfl ?_
    cases h
    obtain rfl : o = _ := ho
    exact Ev.iret D_100 (by decide +kernel)
  · have c3 : ¬ p2 = 0 := of_decide_eq_false c3
    rw [if_neg c3] at h
    refine Ev.seg D_100 [(.aload_n 0, 1)] (by decide +kernel) (j := 0) (pc' := 13) (lv' := [(0, .ref 0), (1, .int v1), (2, .int v2)]) (st' := [.ref 0]) rfl ?_
    refine Ev.getR D_100 (by decide +kernel) F_9_28 T_9_2 (x := 16) (S_oR k_0 (by decide +kernel)) ?_
    refine Ev.seg D_100 [(.iload_n 2, 1), (.i2l, 1)] (by decide +kernel) (j := 0) (pc' := 18) (lv' := [(0, .ref 0), (1, .int v1), (2, .int v2)]) (st' := [.long v2.toInt64, .ref 16]) rfl ?_
    obtain ⟨p6, e6, h⟩ := bd h
    refine Ev.callv D_100 E_42 (by decide +kernel) C_9_158 16 [.long v2.toInt64] (r := []) rfl (gd_o k_16 (by decide)) rfl (Nat.le_of_ble_eq_true rfl) (Nat.le_of_ble_eq_true rfl) (gR_hasStep_ok (by omega) (by decide) e6) ?_
    refine Ev.if_ D_100 (c := .ne) (off := 6) (by decide +kernel) (t := 27) rfl (fun c7 => ?_) (fun c7 => ?_)
    · have c7 : ¬ p6 = 0 := of_decide_eq_true c7
      rw [if_neg c7] at h
      refine Ev.seg D_100 [(.aload_n 0, 1)] (by decide +kernel) (j := 0) (pc' := 28) (lv' := [(0, .ref 0), (1, .int v1), (2, .int v2)]) (st' := [.ref 0]) rfl ?_
      refine Ev.getR D_100 (by decide +kernel) F_9_37 T_9_5 (x := 28) (S_oR k_0 (by decide +kernel)) ?_
      refine Ev.getR D_100 (by decide +kernel) F_9_161 T_0_7 (x := 55) (S_oR k_28 (by decide +kernel)) ?_
      refine Ev.seg D_100 [(.iload_n 2, 1)] (by decide +kernel) (j := 0) (pc' := 35) (lv' := [(0, .ref 0), (1, .int v1), (2, .int v2)]) (st' := [.int v2, .ref 55]) rfl ?_
      by_cases b35 : ¬ (v2 < 0 ∨ 21 ≤ v2.toNatClampNeg)
      rotate_left
      · rw [if_neg b35] at h; cases h
      rw [if_pos b35] at h
      refine Ev.aald D_100 (by decide +kernel) (kd := 26) ⟨by decide, by decide⟩ (x := (56 + v2.toNatClampNeg)) (S_aR k_55 b35 (lit_aa (e := 56) (n := 21) (by decide +kernel) b35)) ?_
      refine Ev.seg D_100 [(.iload_n 1, 1)] (by decide +kernel) (j := 0) (pc' := 37) (lv' := [(0, .ref 0), (1, .int v1), (2, .int v2)]) (st' := [.int v1, .ref (56 + v2.toNatClampNeg)]) rfl ?_
      obtain ⟨x11, e11, h⟩ := bd h
      refine Ev.iald D_100 (by decide +kernel) (S_aI (lit_row (e := 56) (n := 21) (by decide +kernel) b35) e11) ?_
      cases h
      obtain rfl : o = _ := ho
      exact Ev.iret D_100 (by decide +kernel)
    · have c7 : p6 = 0 := Decidable.of_not_not (of_decide_eq_false c7)
      rw [if_pos c7] at h
      refine Ev.seg D_100 [(.bipush (-2), 2)] (by decide +kernel) (j := 0) (pc' := 26) (lv' := [(0, .ref 0), (1, .int v1), (2, .int v2)]) (st' := [.int (-2 : Int32)]) rfl ?_
      cases h
      obtain rfl : o = _ := ho
      exact Ev.iret D_100 (by decide +kernel)
/- PennantLawn on: 101 -/
def gL_on (v1 : Int32) (v2 : Int32) (s : mT) : Option (Int32) :=
  (gR_hasWatcher 16 v1 s).bind fun p2 =>
  if p2 = 0 then
    some ((-2 : Int32))
  else
    (gR_hasStep 16 v2.toInt64 s).bind fun p6 =>
    if p6 = 0 then
      some ((-2 : Int32))
    else
      if ¬ (v2 < 0 ∨ 21 ≤ v2.toNatClampNeg) then
        (rdI (s.1 (78 + v2.toNatClampNeg)) 5 v1).bind fun x11 =>
        some (x11)
      else none
set_option maxRecDepth 8000 in
theorem gL_on_ok {L d : Nat} (hd : 3 ≤ d) {v1 : Int32} {v2 : Int32} {s : mT} {p : Int32} (h : gL_on v1 v2 s = some p) : Ev d 101 0 [(0, .ref 0), (1, .int v1), (2, .int v2)] [] (uS L s) (some (.int p), uS L s) := by
  obtain ⟨d, rfl⟩ : ∃ e, d = e + 1 := ⟨d - 1, by omega⟩
  obtain ⟨o, ho⟩ : ∃ o : Option Value × mS, o = (some (.int p), uS L s) := ⟨_, rfl⟩
  rw [← ho]
  unfold gL_on at h
  refine Ev.seg D_101 [(.aload_n 0, 1)] (by decide +kernel) (j := 0) (pc' := 1) (lv' := [(0, .ref 0), (1, .int v1), (2, .int v2)]) (st' := [.ref 0]) rfl ?_
  refine Ev.getR D_101 (by decide +kernel) F_9_28 T_9_2 (x := 16) (S_oR k_0 (by decide +kernel)) ?_
  refine Ev.seg D_101 [(.iload_n 1, 1)] (by decide +kernel) (j := 0) (pc' := 5) (lv' := [(0, .ref 0), (1, .int v1), (2, .int v2)]) (st' := [.int v1, .ref 16]) rfl ?_
  obtain ⟨p2, e2, h⟩ := bd h
  refine Ev.callv D_101 E_40 (by decide +kernel) C_9_134 16 [.int v1] (r := []) rfl (gd_o k_16 (by decide)) rfl (Nat.le_of_ble_eq_true rfl) (Nat.le_of_ble_eq_true rfl) (gR_hasWatcher_ok (by omega) (by decide) e2) ?_
  refine Ev.if_ D_101 (c := .eq) (off := 15) (by decide +kernel) (t := 23) rfl (fun c3 => ?_) (fun c3 => ?_)
  · have c3 : p2 = 0 := of_decide_eq_true c3
    rw [if_pos c3] at h
    refine Ev.seg D_101 [(.bipush (-2), 2)] (by decide +kernel) (j := 0) (pc' := 25) (lv' := [(0, .ref 0), (1, .int v1), (2, .int v2)]) (st' := [.int (-2 : Int32)]) rfl ?_
    cases h
    obtain rfl : o = _ := ho
    exact Ev.iret D_101 (by decide +kernel)
  · have c3 : ¬ p2 = 0 := of_decide_eq_false c3
    rw [if_neg c3] at h
    refine Ev.seg D_101 [(.aload_n 0, 1)] (by decide +kernel) (j := 0) (pc' := 12) (lv' := [(0, .ref 0), (1, .int v1), (2, .int v2)]) (st' := [.ref 0]) rfl ?_
    refine Ev.getR D_101 (by decide +kernel) F_9_28 T_9_2 (x := 16) (S_oR k_0 (by decide +kernel)) ?_
    refine Ev.seg D_101 [(.iload_n 2, 1), (.i2l, 1)] (by decide +kernel) (j := 0) (pc' := 17) (lv' := [(0, .ref 0), (1, .int v1), (2, .int v2)]) (st' := [.long v2.toInt64, .ref 16]) rfl ?_
    obtain ⟨p6, e6, h⟩ := bd h
    refine Ev.callv D_101 E_42 (by decide +kernel) C_9_158 16 [.long v2.toInt64] (r := []) rfl (gd_o k_16 (by decide)) rfl (Nat.le_of_ble_eq_true rfl) (Nat.le_of_ble_eq_true rfl) (gR_hasStep_ok (by omega) (by decide) e6) ?_
    refine Ev.if_ D_101 (c := .ne) (off := 6) (by decide +kernel) (t := 26) rfl (fun c7 => ?_) (fun c7 => ?_)
    · have c7 : ¬ p6 = 0 := of_decide_eq_true c7
      rw [if_neg c7] at h
      refine Ev.seg D_101 [(.aload_n 0, 1)] (by decide +kernel) (j := 0) (pc' := 27) (lv' := [(0, .ref 0), (1, .int v1), (2, .int v2)]) (st' := [.ref 0]) rfl ?_
      refine Ev.getR D_101 (by decide +kernel) F_9_37 T_9_5 (x := 28) (S_oR k_0 (by decide +kernel)) ?_
      refine Ev.getR D_101 (by decide +kernel) F_9_165 T_0_8 (x := 77) (S_oR k_28 (by decide +kernel)) ?_
      refine Ev.seg D_101 [(.iload_n 2, 1)] (by decide +kernel) (j := 0) (pc' := 34) (lv' := [(0, .ref 0), (1, .int v1), (2, .int v2)]) (st' := [.int v2, .ref 77]) rfl ?_
      by_cases b34 : ¬ (v2 < 0 ∨ 21 ≤ v2.toNatClampNeg)
      rotate_left
      · rw [if_neg b34] at h; cases h
      rw [if_pos b34] at h
      refine Ev.aald D_101 (by decide +kernel) (kd := 26) ⟨by decide, by decide⟩ (x := (78 + v2.toNatClampNeg)) (S_aR k_77 b34 (lit_aa (e := 78) (n := 21) (by decide +kernel) b34)) ?_
      refine Ev.seg D_101 [(.iload_n 1, 1)] (by decide +kernel) (j := 0) (pc' := 36) (lv' := [(0, .ref 0), (1, .int v1), (2, .int v2)]) (st' := [.int v1, .ref (78 + v2.toNatClampNeg)]) rfl ?_
      obtain ⟨x11, e11, h⟩ := bd h
      refine Ev.iald D_101 (by decide +kernel) (S_aI (lit_row (e := 78) (n := 21) (by decide +kernel) b34) e11) ?_
      cases h
      obtain rfl : o = _ := ho
      exact Ev.iret D_101 (by decide +kernel)
    · have c7 : p6 = 0 := Decidable.of_not_not (of_decide_eq_false c7)
      rw [if_pos c7] at h
      refine Ev.seg D_101 [(.bipush (-2), 2)] (by decide +kernel) (j := 0) (pc' := 25) (lv' := [(0, .ref 0), (1, .int v1), (2, .int v2)]) (st' := [.int (-2 : Int32)]) rfl ?_
      cases h
      obtain rfl : o = _ := ho
      exact Ev.iret D_101 (by decide +kernel)
/- PennantLawn eyes: 102 -/
def gL_eyes (v1 : Int32) (v2 : Int32) (s : mT) : Option (Int32) :=
  (gR_hasBoat 16 v1.toInt64 s).bind fun p2 =>
  if p2 = 0 then
    some ((-2 : Int32))
  else
    (gR_hasEarlyStep 16 v2 s).bind fun p6 =>
    if p6 = 0 then
      some ((-2 : Int32))
    else
      if ¬ (v2 < 0 ∨ 21 ≤ v2.toNatClampNeg) then
        (rdI (s.1 (100 + v2.toNatClampNeg)) 5 v1).bind fun x11 =>
        some (x11)
      else none
set_option maxRecDepth 8000 in
theorem gL_eyes_ok {L d : Nat} (hd : 3 ≤ d) {v1 : Int32} {v2 : Int32} {s : mT} {p : Int32} (h : gL_eyes v1 v2 s = some p) : Ev d 102 0 [(0, .ref 0), (1, .int v1), (2, .int v2)] [] (uS L s) (some (.int p), uS L s) := by
  obtain ⟨d, rfl⟩ : ∃ e, d = e + 1 := ⟨d - 1, by omega⟩
  obtain ⟨o, ho⟩ : ∃ o : Option Value × mS, o = (some (.int p), uS L s) := ⟨_, rfl⟩
  rw [← ho]
  unfold gL_eyes at h
  refine Ev.seg D_102 [(.aload_n 0, 1)] (by decide +kernel) (j := 0) (pc' := 1) (lv' := [(0, .ref 0), (1, .int v1), (2, .int v2)]) (st' := [.ref 0]) rfl ?_
  refine Ev.getR D_102 (by decide +kernel) F_9_28 T_9_2 (x := 16) (S_oR k_0 (by decide +kernel)) ?_
  refine Ev.seg D_102 [(.iload_n 1, 1), (.i2l, 1)] (by decide +kernel) (j := 0) (pc' := 6) (lv' := [(0, .ref 0), (1, .int v1), (2, .int v2)]) (st' := [.long v1.toInt64, .ref 16]) rfl ?_
  obtain ⟨p2, e2, h⟩ := bd h
  refine Ev.callv D_102 E_39 (by decide +kernel) C_9_119 16 [.long v1.toInt64] (r := []) rfl (gd_o k_16 (by decide)) rfl (Nat.le_of_ble_eq_true rfl) (Nat.le_of_ble_eq_true rfl) (gR_hasBoat_ok (by omega) (by decide) e2) ?_
  refine Ev.if_ D_102 (c := .eq) (off := 14) (by decide +kernel) (t := 23) rfl (fun c3 => ?_) (fun c3 => ?_)
  · have c3 : p2 = 0 := of_decide_eq_true c3
    rw [if_pos c3] at h
    refine Ev.seg D_102 [(.bipush (-2), 2)] (by decide +kernel) (j := 0) (pc' := 25) (lv' := [(0, .ref 0), (1, .int v1), (2, .int v2)]) (st' := [.int (-2 : Int32)]) rfl ?_
    cases h
    obtain rfl : o = _ := ho
    exact Ev.iret D_102 (by decide +kernel)
  · have c3 : ¬ p2 = 0 := of_decide_eq_false c3
    rw [if_neg c3] at h
    refine Ev.seg D_102 [(.aload_n 0, 1)] (by decide +kernel) (j := 0) (pc' := 13) (lv' := [(0, .ref 0), (1, .int v1), (2, .int v2)]) (st' := [.ref 0]) rfl ?_
    refine Ev.getR D_102 (by decide +kernel) F_9_28 T_9_2 (x := 16) (S_oR k_0 (by decide +kernel)) ?_
    refine Ev.seg D_102 [(.iload_n 2, 1)] (by decide +kernel) (j := 0) (pc' := 17) (lv' := [(0, .ref 0), (1, .int v1), (2, .int v2)]) (st' := [.int v2, .ref 16]) rfl ?_
    obtain ⟨p6, e6, h⟩ := bd h
    refine Ev.callv D_102 E_44 (by decide +kernel) C_9_168 16 [.int v2] (r := []) rfl (gd_o k_16 (by decide)) rfl (Nat.le_of_ble_eq_true rfl) (Nat.le_of_ble_eq_true rfl) (gR_hasEarlyStep_ok (by omega) (by decide) e6) ?_
    refine Ev.if_ D_102 (c := .ne) (off := 6) (by decide +kernel) (t := 26) rfl (fun c7 => ?_) (fun c7 => ?_)
    · have c7 : ¬ p6 = 0 := of_decide_eq_true c7
      rw [if_neg c7] at h
      refine Ev.seg D_102 [(.aload_n 0, 1)] (by decide +kernel) (j := 0) (pc' := 27) (lv' := [(0, .ref 0), (1, .int v1), (2, .int v2)]) (st' := [.ref 0]) rfl ?_
      refine Ev.getR D_102 (by decide +kernel) F_9_37 T_9_5 (x := 28) (S_oR k_0 (by decide +kernel)) ?_
      refine Ev.getR D_102 (by decide +kernel) F_9_171 T_0_9 (x := 99) (S_oR k_28 (by decide +kernel)) ?_
      refine Ev.seg D_102 [(.iload_n 2, 1)] (by decide +kernel) (j := 0) (pc' := 34) (lv' := [(0, .ref 0), (1, .int v1), (2, .int v2)]) (st' := [.int v2, .ref 99]) rfl ?_
      by_cases b34 : ¬ (v2 < 0 ∨ 21 ≤ v2.toNatClampNeg)
      rotate_left
      · rw [if_neg b34] at h; cases h
      rw [if_pos b34] at h
      refine Ev.aald D_102 (by decide +kernel) (kd := 26) ⟨by decide, by decide⟩ (x := (100 + v2.toNatClampNeg)) (S_aR k_99 b34 (lit_aa (e := 100) (n := 21) (by decide +kernel) b34)) ?_
      refine Ev.seg D_102 [(.iload_n 1, 1)] (by decide +kernel) (j := 0) (pc' := 36) (lv' := [(0, .ref 0), (1, .int v1), (2, .int v2)]) (st' := [.int v1, .ref (100 + v2.toNatClampNeg)]) rfl ?_
      obtain ⟨x11, e11, h⟩ := bd h
      refine Ev.iald D_102 (by decide +kernel) (S_aI (lit_row (e := 100) (n := 21) (by decide +kernel) b34) e11) ?_
      cases h
      obtain rfl : o = _ := ho
      exact Ev.iret D_102 (by decide +kernel)
    · have c7 : p6 = 0 := Decidable.of_not_not (of_decide_eq_false c7)
      rw [if_pos c7] at h
      refine Ev.seg D_102 [(.bipush (-2), 2)] (by decide +kernel) (j := 0) (pc' := 25) (lv' := [(0, .ref 0), (1, .int v1), (2, .int v2)]) (st' := [.int (-2 : Int32)]) rfl ?_
      cases h
      obtain rfl : o = _ := ho
      exact Ev.iret D_102 (by decide +kernel)
/- PennantLawn awake: 103 -/
def gL_awake (v1 : Int32) (s : mT) : Option (Int32) :=
  (gR_hasEarlyStep 16 v1 s).bind fun p2 =>
  (
    if p2 = 0 then
      some ((-2 : Int32))
    else
      (rdI (s.1 54) 21 v1).bind fun x6 =>
      some (x6) : Option (Int32)).bind fun x3 =>
  some (x3)
set_option maxRecDepth 8000 in
theorem gL_awake_ok {L d : Nat} (hd : 3 ≤ d) {v1 : Int32} {s : mT} {p : Int32} (h : gL_awake v1 s = some p) : Ev d 103 0 [(0, .ref 0), (1, .int v1)] [] (uS L s) (some (.int p), uS L s) := by
  obtain ⟨d, rfl⟩ : ∃ e, d = e + 1 := ⟨d - 1, by omega⟩
  obtain ⟨o, ho⟩ : ∃ o : Option Value × mS, o = (some (.int p), uS L s) := ⟨_, rfl⟩
  rw [← ho]
  unfold gL_awake at h
  refine Ev.seg D_103 [(.aload_n 0, 1)] (by decide +kernel) (j := 0) (pc' := 1) (lv' := [(0, .ref 0), (1, .int v1)]) (st' := [.ref 0]) rfl ?_
  refine Ev.getR D_103 (by decide +kernel) F_9_28 T_9_2 (x := 16) (S_oR k_0 (by decide +kernel)) ?_
  refine Ev.seg D_103 [(.iload_n 1, 1)] (by decide +kernel) (j := 0) (pc' := 5) (lv' := [(0, .ref 0), (1, .int v1)]) (st' := [.int v1, .ref 16]) rfl ?_
  obtain ⟨p2, e2, h⟩ := bd h
  refine Ev.callv D_103 E_44 (by decide +kernel) C_9_168 16 [.int v1] (r := []) rfl (gd_o k_16 (by decide)) rfl (Nat.le_of_ble_eq_true rfl) (Nat.le_of_ble_eq_true rfl) (gR_hasEarlyStep_ok (by omega) (by decide) e2) ?_
  obtain ⟨x3, g3, h⟩ := bd h
  have j3 : Ev (d + 1) 103 25 [] [.int x3] (uS L s) o := by
    clear g3
    cases h
    obtain rfl : o = _ := ho
    exact Ev.iret D_103 (by decide +kernel)
  clear h
  refine Ev.if_ D_103 (c := .eq) (off := 15) (by decide +kernel) (t := 23) rfl (fun c3 => ?_) (fun c3 => ?_)
  · have c3 : p2 = 0 := of_decide_eq_true c3
    rw [if_pos c3] at g3
    refine Ev.seg D_103 [(.bipush (-2), 2)] (by decide +kernel) (j := 0) (pc' := 25) (lv' := [(0, .ref 0), (1, .int v1)]) (st' := [.int (-2 : Int32)]) rfl ?_
    cases g3
    exact Ev.sub2 j3 subL_nil
  · have c3 : ¬ p2 = 0 := of_decide_eq_false c3
    rw [if_neg c3] at g3
    refine Ev.seg D_103 [(.aload_n 0, 1)] (by decide +kernel) (j := 0) (pc' := 12) (lv' := [(0, .ref 0), (1, .int v1)]) (st' := [.ref 0]) rfl ?_
    refine Ev.getR D_103 (by decide +kernel) F_9_37 T_9_5 (x := 28) (S_oR k_0 (by decide +kernel)) ?_
    refine Ev.getR D_103 (by decide +kernel) F_9_173 T_0_6 (x := 54) (S_oR k_28 (by decide +kernel)) ?_
    refine Ev.seg D_103 [(.iload_n 1, 1)] (by decide +kernel) (j := 0) (pc' := 19) (lv' := [(0, .ref 0), (1, .int v1)]) (st' := [.int v1, .ref 54]) rfl ?_
    obtain ⟨x6, e6, g3⟩ := bd g3
    refine Ev.iald D_103 (by decide +kernel) (S_aI k_54 e6) ?_
    refine Ev.seg D_103 [(.goto 5, 3)] (by decide +kernel) (j := 0) (pc' := 25) (lv' := [(0, .ref 0), (1, .int v1)]) (st' := [.int x6]) rfl ?_
    cases g3
    exact Ev.sub2 j3 subL_nil
/- PennantLawn lookers: 104 -/
def gL_lookers (v1 : Int32) (v2 : Int32) (s : mT) : Option (Int32) :=
  (gR_hasBoat 16 v1.toInt64 s).bind fun p2 =>
  if p2 = 0 then
    some ((-2 : Int32))
  else
    (gR_hasStep 16 v2.toInt64 s).bind fun p6 =>
    if p6 = 0 then
      some ((-2 : Int32))
    else
      (gC_lookersAt 28 v1 v2 s).bind fun p9 =>
      some (p9)
set_option maxRecDepth 8000 in
theorem gL_lookers_ok {L d : Nat} (hd : 3 ≤ d) {v1 : Int32} {v2 : Int32} {s : mT} {p : Int32} (h : gL_lookers v1 v2 s = some p) : Ev d 104 0 [(0, .ref 0), (1, .int v1), (2, .int v2)] [] (uS L s) (some (.int p), uS L s) := by
  obtain ⟨d, rfl⟩ : ∃ e, d = e + 1 := ⟨d - 1, by omega⟩
  obtain ⟨o, ho⟩ : ∃ o : Option Value × mS, o = (some (.int p), uS L s) := ⟨_, rfl⟩
  rw [← ho]
  unfold gL_lookers at h
  refine Ev.seg D_104 [(.aload_n 0, 1)] (by decide +kernel) (j := 0) (pc' := 1) (lv' := [(0, .ref 0), (1, .int v1), (2, .int v2)]) (st' := [.ref 0]) rfl ?_
  refine Ev.getR D_104 (by decide +kernel) F_9_28 T_9_2 (x := 16) (S_oR k_0 (by decide +kernel)) ?_
  refine Ev.seg D_104 [(.iload_n 1, 1), (.i2l, 1)] (by decide +kernel) (j := 0) (pc' := 6) (lv' := [(0, .ref 0), (1, .int v1), (2, .int v2)]) (st' := [.long v1.toInt64, .ref 16]) rfl ?_
  obtain ⟨p2, e2, h⟩ := bd h
  refine Ev.callv D_104 E_39 (by decide +kernel) C_9_119 16 [.long v1.toInt64] (r := []) rfl (gd_o k_16 (by decide)) rfl (Nat.le_of_ble_eq_true rfl) (Nat.le_of_ble_eq_true rfl) (gR_hasBoat_ok (by omega) (by decide) e2) ?_
  refine Ev.if_ D_104 (c := .eq) (off := 15) (by decide +kernel) (t := 24) rfl (fun c3 => ?_) (fun c3 => ?_)
  · have c3 : p2 = 0 := of_decide_eq_true c3
    rw [if_pos c3] at h
    refine Ev.seg D_104 [(.bipush (-2), 2)] (by decide +kernel) (j := 0) (pc' := 26) (lv' := [(0, .ref 0), (1, .int v1), (2, .int v2)]) (st' := [.int (-2 : Int32)]) rfl ?_
    cases h
    obtain rfl : o = _ := ho
    exact Ev.iret D_104 (by decide +kernel)
  · have c3 : ¬ p2 = 0 := of_decide_eq_false c3
    rw [if_neg c3] at h
    refine Ev.seg D_104 [(.aload_n 0, 1)] (by decide +kernel) (j := 0) (pc' := 13) (lv' := [(0, .ref 0), (1, .int v1), (2, .int v2)]) (st' := [.ref 0]) rfl ?_
    refine Ev.getR D_104 (by decide +kernel) F_9_28 T_9_2 (x := 16) (S_oR k_0 (by decide +kernel)) ?_
    refine Ev.seg D_104 [(.iload_n 2, 1), (.i2l, 1)] (by decide +kernel) (j := 0) (pc' := 18) (lv' := [(0, .ref 0), (1, .int v1), (2, .int v2)]) (st' := [.long v2.toInt64, .ref 16]) rfl ?_
    obtain ⟨p6, e6, h⟩ := bd h
    refine Ev.callv D_104 E_42 (by decide +kernel) C_9_158 16 [.long v2.toInt64] (r := []) rfl (gd_o k_16 (by decide)) rfl (Nat.le_of_ble_eq_true rfl) (Nat.le_of_ble_eq_true rfl) (gR_hasStep_ok (by omega) (by decide) e6) ?_
    refine Ev.if_ D_104 (c := .ne) (off := 6) (by decide +kernel) (t := 27) rfl (fun c7 => ?_) (fun c7 => ?_)
    · have c7 : ¬ p6 = 0 := of_decide_eq_true c7
      rw [if_neg c7] at h
      refine Ev.seg D_104 [(.aload_n 0, 1)] (by decide +kernel) (j := 0) (pc' := 28) (lv' := [(0, .ref 0), (1, .int v1), (2, .int v2)]) (st' := [.ref 0]) rfl ?_
      refine Ev.getR D_104 (by decide +kernel) F_9_37 T_9_5 (x := 28) (S_oR k_0 (by decide +kernel)) ?_
      refine Ev.seg D_104 [(.iload_n 1, 1), (.iload_n 2, 1)] (by decide +kernel) (j := 0) (pc' := 33) (lv' := [(0, .ref 0), (1, .int v1), (2, .int v2)]) (st' := [.int v2, .int v1, .ref 28]) rfl ?_
      obtain ⟨p9, e9, h⟩ := bd h
      refine Ev.callv D_104 E_13 (by decide +kernel) C_9_176 28 [.int v1, .int v2] (r := []) rfl (gd_o k_28 (by decide)) rfl (Nat.le_of_ble_eq_true rfl) (Nat.le_of_ble_eq_true rfl) (gC_lookersAt_ok (by omega) (by decide) e9) ?_
      cases h
      obtain rfl : o = _ := ho
      exact Ev.iret D_104 (by decide +kernel)
    · have c7 : p6 = 0 := Decidable.of_not_not (of_decide_eq_false c7)
      rw [if_pos c7] at h
      refine Ev.seg D_104 [(.bipush (-2), 2)] (by decide +kernel) (j := 0) (pc' := 26) (lv' := [(0, .ref 0), (1, .int v1), (2, .int v2)]) (st' := [.int (-2 : Int32)]) rfl ?_
      cases h
      obtain rfl : o = _ := ho
      exact Ev.iret D_104 (by decide +kernel)
/- PennantLawn leads: 105 -/
def gL_leads (v1 : Int32) (s : mT) : Option (Int32) :=
  (gR_hasStep 16 v1.toInt64 s).bind fun p2 =>
  (
    if p2 = 0 then
      some ((-2 : Int32))
    else
      (gC_leader 28 v1 s).bind fun p5 =>
      some (p5) : Option (Int32)).bind fun x3 =>
  some (x3)
set_option maxRecDepth 8000 in
theorem gL_leads_ok {L d : Nat} (hd : 3 ≤ d) {v1 : Int32} {s : mT} {p : Int32} (h : gL_leads v1 s = some p) : Ev d 105 0 [(0, .ref 0), (1, .int v1)] [] (uS L s) (some (.int p), uS L s) := by
  obtain ⟨d, rfl⟩ : ∃ e, d = e + 1 := ⟨d - 1, by omega⟩
  obtain ⟨o, ho⟩ : ∃ o : Option Value × mS, o = (some (.int p), uS L s) := ⟨_, rfl⟩
  rw [← ho]
  unfold gL_leads at h
  refine Ev.seg D_105 [(.aload_n 0, 1)] (by decide +kernel) (j := 0) (pc' := 1) (lv' := [(0, .ref 0), (1, .int v1)]) (st' := [.ref 0]) rfl ?_
  refine Ev.getR D_105 (by decide +kernel) F_9_28 T_9_2 (x := 16) (S_oR k_0 (by decide +kernel)) ?_
  refine Ev.seg D_105 [(.iload_n 1, 1), (.i2l, 1)] (by decide +kernel) (j := 0) (pc' := 6) (lv' := [(0, .ref 0), (1, .int v1)]) (st' := [.long v1.toInt64, .ref 16]) rfl ?_
  obtain ⟨p2, e2, h⟩ := bd h
  refine Ev.callv D_105 E_42 (by decide +kernel) C_9_158 16 [.long v1.toInt64] (r := []) rfl (gd_o k_16 (by decide)) rfl (Nat.le_of_ble_eq_true rfl) (Nat.le_of_ble_eq_true rfl) (gR_hasStep_ok (by omega) (by decide) e2) ?_
  obtain ⟨x3, g3, h⟩ := bd h
  have j3 : Ev (d + 1) 105 25 [] [.int x3] (uS L s) o := by
    clear g3
    cases h
    obtain rfl : o = _ := ho
    exact Ev.iret D_105 (by decide +kernel)
  clear h
  refine Ev.if_ D_105 (c := .eq) (off := 14) (by decide +kernel) (t := 23) rfl (fun c3 => ?_) (fun c3 => ?_)
  · have c3 : p2 = 0 := of_decide_eq_true c3
    rw [if_pos c3] at g3
    refine Ev.seg D_105 [(.bipush (-2), 2)] (by decide +kernel) (j := 0) (pc' := 25) (lv' := [(0, .ref 0), (1, .int v1)]) (st' := [.int (-2 : Int32)]) rfl ?_
    cases g3
    exact Ev.sub2 j3 subL_nil
  · have c3 : ¬ p2 = 0 := of_decide_eq_false c3
    rw [if_neg c3] at g3
    refine Ev.seg D_105 [(.aload_n 0, 1)] (by decide +kernel) (j := 0) (pc' := 13) (lv' := [(0, .ref 0), (1, .int v1)]) (st' := [.ref 0]) rfl ?_
    refine Ev.getR D_105 (by decide +kernel) F_9_37 T_9_5 (x := 28) (S_oR k_0 (by decide +kernel)) ?_
    refine Ev.seg D_105 [(.iload_n 1, 1)] (by decide +kernel) (j := 0) (pc' := 17) (lv' := [(0, .ref 0), (1, .int v1)]) (st' := [.int v1, .ref 28]) rfl ?_
    obtain ⟨p5, e5, g3⟩ := bd g3
    refine Ev.callv D_105 E_14 (by decide +kernel) C_9_180 28 [.int v1] (r := []) rfl (gd_o k_28 (by decide)) rfl (Nat.le_of_ble_eq_true rfl) (Nat.le_of_ble_eq_true rfl) (gC_leader_ok (by omega) (by decide) e5) ?_
    refine Ev.seg D_105 [(.goto 5, 3)] (by decide +kernel) (j := 0) (pc' := 25) (lv' := [(0, .ref 0), (1, .int v1)]) (st' := [.int p5]) rfl ?_
    cases g3
    exact Ev.sub2 j3 subL_nil
/- PennantLawn lags: 106 -/
def gL_lags (v1 : Int32) (s : mT) : Option (Int32) :=
  (gR_hasStep 16 v1.toInt64 s).bind fun p2 =>
  (
    if p2 = 0 then
      some ((-2 : Int32))
    else
      (gC_last 28 v1 s).bind fun p5 =>
      some (p5) : Option (Int32)).bind fun x3 =>
  some (x3)
set_option maxRecDepth 8000 in
theorem gL_lags_ok {L d : Nat} (hd : 3 ≤ d) {v1 : Int32} {s : mT} {p : Int32} (h : gL_lags v1 s = some p) : Ev d 106 0 [(0, .ref 0), (1, .int v1)] [] (uS L s) (some (.int p), uS L s) := by
  obtain ⟨d, rfl⟩ : ∃ e, d = e + 1 := ⟨d - 1, by omega⟩
  obtain ⟨o, ho⟩ : ∃ o : Option Value × mS, o = (some (.int p), uS L s) := ⟨_, rfl⟩
  rw [← ho]
  unfold gL_lags at h
  refine Ev.seg D_106 [(.aload_n 0, 1)] (by decide +kernel) (j := 0) (pc' := 1) (lv' := [(0, .ref 0), (1, .int v1)]) (st' := [.ref 0]) rfl ?_
  refine Ev.getR D_106 (by decide +kernel) F_9_28 T_9_2 (x := 16) (S_oR k_0 (by decide +kernel)) ?_
  refine Ev.seg D_106 [(.iload_n 1, 1), (.i2l, 1)] (by decide +kernel) (j := 0) (pc' := 6) (lv' := [(0, .ref 0), (1, .int v1)]) (st' := [.long v1.toInt64, .ref 16]) rfl ?_
  obtain ⟨p2, e2, h⟩ := bd h
  refine Ev.callv D_106 E_42 (by decide +kernel) C_9_158 16 [.long v1.toInt64] (r := []) rfl (gd_o k_16 (by decide)) rfl (Nat.le_of_ble_eq_true rfl) (Nat.le_of_ble_eq_true rfl) (gR_hasStep_ok (by omega) (by decide) e2) ?_
  obtain ⟨x3, g3, h⟩ := bd h
  have j3 : Ev (d + 1) 106 25 [] [.int x3] (uS L s) o := by
    clear g3
    cases h
    obtain rfl : o = _ := ho
    exact Ev.iret D_106 (by decide +kernel)
  clear h
  refine Ev.if_ D_106 (c := .eq) (off := 14) (by decide +kernel) (t := 23) rfl (fun c3 => ?_) (fun c3 => ?_)
  · have c3 : p2 = 0 := of_decide_eq_true c3
    rw [if_pos c3] at g3
    refine Ev.seg D_106 [(.bipush (-2), 2)] (by decide +kernel) (j := 0) (pc' := 25) (lv' := [(0, .ref 0), (1, .int v1)]) (st' := [.int (-2 : Int32)]) rfl ?_
    cases g3
    exact Ev.sub2 j3 subL_nil
  · have c3 : ¬ p2 = 0 := of_decide_eq_false c3
    rw [if_neg c3] at g3
    refine Ev.seg D_106 [(.aload_n 0, 1)] (by decide +kernel) (j := 0) (pc' := 13) (lv' := [(0, .ref 0), (1, .int v1)]) (st' := [.ref 0]) rfl ?_
    refine Ev.getR D_106 (by decide +kernel) F_9_37 T_9_5 (x := 28) (S_oR k_0 (by decide +kernel)) ?_
    refine Ev.seg D_106 [(.iload_n 1, 1)] (by decide +kernel) (j := 0) (pc' := 17) (lv' := [(0, .ref 0), (1, .int v1)]) (st' := [.int v1, .ref 28]) rfl ?_
    obtain ⟨p5, e5, g3⟩ := bd g3
    refine Ev.callv D_106 E_15 (by decide +kernel) C_9_184 28 [.int v1] (r := []) rfl (gd_o k_28 (by decide)) rfl (Nat.le_of_ble_eq_true rfl) (Nat.le_of_ble_eq_true rfl) (gC_last_ok (by omega) (by decide) e5) ?_
    refine Ev.seg D_106 [(.goto 5, 3)] (by decide +kernel) (j := 0) (pc' := 25) (lv' := [(0, .ref 0), (1, .int v1)]) (st' := [.int p5]) rfl ?_
    cases g3
    exact Ev.sub2 j3 subL_nil
