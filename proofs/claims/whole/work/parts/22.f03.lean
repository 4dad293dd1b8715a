/-! The program's methods as functions of ints and longs, each with its certificate (wip/whole/gen_emit.py writes this) -/
/- Reader takeToken: 49 -/
def gD_takeToken_h0  (q : mT) : Option ((mT) ⊕ (mT)) :=
  if (q.1 1 1) ≤ (q.1 3 4) then
    some (.inr q)
  else
    (rdI (q.1 2) 600 (q.1 3 4)).bind fun x8 =>
    (gD_isBlank x8 q).bind fun p9 =>
    if p9 = 0 then
      some (.inr q)
    else
      some (.inl (stI q 3 4 ((q.1 3 4) + (1 : Int32))))
set_option maxRecDepth 8000 in
theorem gD_takeToken_h0_ok {L d : Nat} (hd : 3 ≤ d + 1)  : ∀ (q : mT) (x : (mT) ⊕ (mT)), gD_takeToken_h0 q = some x → ∀ o, sK (fun q => Ev (d + 1) 49 0 [(0, .ref 3)] [] (uS L q) o) (fun r => Ev (d + 1) 49 45 [(0, .ref 3)] [] (uS L r) o) x → Ev (d + 1) 49 0 [(0, .ref 3)] [] (uS L q) o := by
  intro q x h o ho
  unfold gD_takeToken_h0 at h
  refine Ev.seg D_49 [(.aload_n 0, 1)] (by decide +kernel) (j := 0) (pc' := 1) (lv' := [(0, .ref 3)]) (st' := [.ref 3]) rfl ?_
  refine Ev.getI D_49 (by decide +kernel) F_3_25 (Or.inl T_3_4) (S_oI k_3) ?_
  refine Ev.seg D_49 [(.aload_n 0, 1)] (by decide +kernel) (j := 0) (pc' := 5) (lv' := [(0, .ref 3)]) (st' := [.ref 3, .int (q.1 3 4)]) rfl ?_
  refine Ev.getR D_49 (by decide +kernel) F_3_37 T_3_0 (x := 1) (S_oR k_3 (by decide +kernel)) ?_
  refine Ev.getI D_49 (by decide +kernel) F_3_155 (Or.inl T_8_1) (S_oI k_1) ?_
  refine Ev.icmp D_49 (c := .ge) (off := 34) (by decide +kernel) (t := 45) rfl (fun c4 => ?_) (fun c4 => ?_)
  · have c4 : (q.1 1 1) ≤ (q.1 3 4) := of_decide_eq_true c4
    rw [if_pos c4] at h
    cases h
    exact Ev.sub (lv' := [(0, .ref 3)]) (subL_cons rfl subL_nil) ho
  · have c4 : ¬ (q.1 1 1) ≤ (q.1 3 4) := of_decide_eq_false c4
    rw [if_neg c4] at h
    refine Ev.seg D_49 [(.aload_n 0, 1)] (by decide +kernel) (j := 0) (pc' := 15) (lv' := [(0, .ref 3)]) (st' := [.ref 3]) rfl ?_
    refine Ev.getR D_49 (by decide +kernel) F_3_37 T_3_0 (x := 1) (S_oR k_3 (by decide +kernel)) ?_
    refine Ev.getR D_49 (by decide +kernel) F_3_145 T_8_0 (x := 2) (S_oR k_1 (by decide +kernel)) ?_
    refine Ev.seg D_49 [(.aload_n 0, 1)] (by decide +kernel) (j := 0) (pc' := 22) (lv' := [(0, .ref 3)]) (st' := [.ref 3, .ref 2]) rfl ?_
    refine Ev.getI D_49 (by decide +kernel) F_3_25 (Or.inl T_3_4) (S_oI k_3) ?_
    obtain ⟨x8, e8, h⟩ := bd h
    refine Ev.iald D_49 (by decide +kernel) (S_aI k_2 e8) ?_
    obtain ⟨p9, e9, h⟩ := bd h
    refine Ev.calls D_49 E_50 (by decide +kernel) C_3_157 [.int x8] (r := []) rfl rfl (Nat.le_of_ble_eq_true rfl) (Nat.le_of_ble_eq_true rfl) (gD_isBlank_ok (by omega)  e9) ?_
    refine Ev.if_ D_49 (c := .eq) (off := 16) (by decide +kernel) (t := 45) rfl (fun c10 => ?_) (fun c10 => ?_)
    · have c10 : p9 = 0 := of_decide_eq_true c10
      rw [if_pos c10] at h
      cases h
      exact Ev.sub (lv' := [(0, .ref 3)]) (subL_cons rfl subL_nil) ho
    · have c10 : ¬ p9 = 0 := of_decide_eq_false c10
      rw [if_neg c10] at h
      refine Ev.seg D_49 [(.aload_n 0, 1), (.dup, 1)] (by decide +kernel) (j := 0) (pc' := 34) (lv' := [(0, .ref 3)]) (st' := [.ref 3, .ref 3]) rfl ?_
      refine Ev.getI D_49 (by decide +kernel) F_3_25 (Or.inl T_3_4) (S_oI k_3) ?_
      refine Ev.seg D_49 [(.iconst 1, 1), (.iadd, 1)] (by decide +kernel) (j := 0) (pc' := 39) (lv' := [(0, .ref 3)]) (st' := [.int ((q.1 3 4) + (1 : Int32)), .ref 3]) rfl ?_
      refine Ev.putI D_49 (by decide +kernel) F_3_25 N_3_4 T_3_4 (S_pI k_3) ?_
      refine Ev.seg D_49 [(.goto (-42), 3)] (by decide +kernel) (j := 0) (pc' := 0) (lv' := [(0, .ref 3)]) (st' := []) rfl ?_
      cases h
      exact Ev.sub (lv' := [(0, .ref 3)]) (subL_cons rfl subL_nil) ho
theorem gD_takeToken_h0_w {L d : Nat} (hd : 3 ≤ d + 1)  : ∀ (n : Nat) (q : mT) (r : mT), wh n (gD_takeToken_h0) q = some r → ∀ o, (fun r => Ev (d + 1) 49 45 [(0, .ref 3)] [] (uS L r) o) r → Ev (d + 1) 49 0 [(0, .ref 3)] [] (uS L q) o :=
  fun n q r h o hc => wh_ev (E := fun (q : mT) o => Ev (d + 1) 49 0 [(0, .ref 3)] [] (uS L q) o) (C := fun (r : mT) o => (fun r => Ev (d + 1) 49 45 [(0, .ref 3)] [] (uS L r) o) r) (gD_takeToken_h0_ok hd  ) n q r h o hc
def gD_takeToken (s : mT) : Option (mT) :=
  (wh FU (gD_takeToken_h0) s).bind fun x13 =>
  (
    if ((stI x13 3 6 (x13.1 3 4)).1 3 4) < ((stI x13 3 6 (x13.1 3 4)).1 1 1) then
      (rdI ((stI x13 3 6 (x13.1 3 4)).1 2) 600 ((stI x13 3 6 (x13.1 3 4)).1 3 4)).bind fun x23 =>
      (gD_isLetter x23 (stI x13 3 6 (x13.1 3 4))).bind fun p24 =>
      if p24 = 0 then
        (rdI ((stI x13 3 6 (x13.1 3 4)).1 2) 600 ((stI x13 3 6 (x13.1 3 4)).1 3 4)).bind fun x29 =>
        (gD_isDigit x29 (stI x13 3 6 (x13.1 3 4))).bind fun p30 =>
        if p30 = 0 then
          (rdI ((stI x13 3 6 (x13.1 3 4)).1 2) 600 ((stI x13 3 6 (x13.1 3 4)).1 3 4)).bind fun x35 =>
          (
            if x35 = (59 : Int32) then
              some ((3 : Int32))
            else
              some ((4 : Int32)) : Option (Int32)).bind fun x36 =>
          (some (stI (stI (stI x13 3 6 (x13.1 3 4)) 3 5 x36) 3 4 (((stI (stI x13 3 6 (x13.1 3 4)) 3 5 x36).1 3 4) + (1 : Int32)))).bind fun s39 =>
          some (s39)
        else
          (gD_passNumber (stI (stI x13 3 6 (x13.1 3 4)) 3 5 (2 : Int32))).bind fun p41 =>
          some (p41)
      else
        (gD_passWord (stI (stI x13 3 6 (x13.1 3 4)) 3 5 (1 : Int32))).bind fun p43 =>
        some (p43)
    else
      some ((stI (stI x13 3 6 (x13.1 3 4)) 3 5 (0 : Int32))) : Option (mT)).bind fun x19 =>
  some (x19)
set_option maxRecDepth 8000 in
theorem gD_takeToken_ok {L d : Nat} (hd : 3 ≤ d) {s : mT} {p : mT} (h : gD_takeToken s = some p) : Ev d 49 0 [(0, .ref 3)] [] (uS L s) (none, uS L p) := by
  obtain ⟨d, rfl⟩ : ∃ e, d = e + 1 := ⟨d - 1, by omega⟩
  obtain ⟨o, ho⟩ : ∃ o : Option Value × mS, o = (none, uS L p) := ⟨_, rfl⟩
  rw [← ho]
  unfold gD_takeToken at h
  obtain ⟨x13, w13, h⟩ := bd h
  have j13 : Ev (d + 1) 49 45 [(0, .ref 3)] [] (uS L x13) o := by
    clear w13
    refine Ev.seg D_49 [(.aload_n 0, 1), (.aload_n 0, 1)] (by decide +kernel) (j := 0) (pc' := 47) (lv' := [(0, .ref 3)]) (st' := [.ref 3, .ref 3]) rfl ?_
    refine Ev.getI D_49 (by decide +kernel) F_3_25 (Or.inl T_3_4) (S_oI k_3) ?_
    refine Ev.putI D_49 (by decide +kernel) F_3_31 N_3_6 T_3_6 (S_pI k_3) ?_
    refine Ev.seg D_49 [(.aload_n 0, 1)] (by decide +kernel) (j := 0) (pc' := 54) (lv' := [(0, .ref 3)]) (st' := [.ref 3]) rfl ?_
    refine Ev.getI D_49 (by decide +kernel) F_3_25 (Or.inl T_3_4) (S_oI k_3) ?_
    refine Ev.seg D_49 [(.aload_n 0, 1)] (by decide +kernel) (j := 0) (pc' := 58) (lv' := [(0, .ref 3)]) (st' := [.ref 3, .int ((stI x13 3 6 (x13.1 3 4)).1 3 4)]) rfl ?_
    refine Ev.getR D_49 (by decide +kernel) F_3_37 T_3_0 (x := 1) (S_oR k_3 (by decide +kernel)) ?_
    refine Ev.getI D_49 (by decide +kernel) F_3_155 (Or.inl T_8_1) (S_oI k_1) ?_
    obtain ⟨x19, g19, h⟩ := bd h
    have j19 : Ev (d + 1) 49 171 [] [] (uS L x19) o := by
      clear g19
      cases h
      obtain rfl : o = _ := ho
      exact Ev.vret D_49 (by decide +kernel)
    clear h
    refine Ev.icmp D_49 (c := .lt) (off := 11) (by decide +kernel) (t := 75) rfl (fun c19 => ?_) (fun c19 => ?_)
    · have c19 : ((stI x13 3 6 (x13.1 3 4)).1 3 4) < ((stI x13 3 6 (x13.1 3 4)).1 1 1) := of_decide_eq_true c19
      rw [if_pos c19] at g19
      refine Ev.seg D_49 [(.aload_n 0, 1)] (by decide +kernel) (j := 0) (pc' := 76) (lv' := [(0, .ref 3)]) (st' := [.ref 3]) rfl ?_
      refine Ev.getR D_49 (by decide +kernel) F_3_37 T_3_0 (x := 1) (S_oR k_3 (by decide +kernel)) ?_
      refine Ev.getR D_49 (by decide +kernel) F_3_145 T_8_0 (x := 2) (S_oR k_1 (by decide +kernel)) ?_
      refine Ev.seg D_49 [(.aload_n 0, 1)] (by decide +kernel) (j := 0) (pc' := 83) (lv' := [(0, .ref 3)]) (st' := [.ref 3, .ref 2]) rfl ?_
      refine Ev.getI D_49 (by decide +kernel) F_3_25 (Or.inl T_3_4) (S_oI k_3) ?_
      obtain ⟨x23, e23, g19⟩ := bd g19
      refine Ev.iald D_49 (by decide +kernel) (S_aI k_2 e23) ?_
      obtain ⟨p24, e24, g19⟩ := bd g19
      refine Ev.calls D_49 E_51 (by decide +kernel) C_3_161 [.int x23] (r := []) rfl rfl (Nat.le_of_ble_eq_true rfl) (Nat.le_of_ble_eq_true rfl) (gD_isLetter_ok (by omega)  e24) ?_
      refine Ev.if_ D_49 (c := .eq) (off := 15) (by decide +kernel) (t := 105) rfl (fun c25 => ?_) (fun c25 => ?_)
      · have c25 : p24 = 0 := of_decide_eq_true c25
        rw [if_pos c25] at g19
        refine Ev.seg D_49 [(.aload_n 0, 1)] (by decide +kernel) (j := 0) (pc' := 106) (lv' := [(0, .ref 3)]) (st' := [.ref 3]) rfl ?_
        refine Ev.getR D_49 (by decide +kernel) F_3_37 T_3_0 (x := 1) (S_oR k_3 (by decide +kernel)) ?_
        refine Ev.getR D_49 (by decide +kernel) F_3_145 T_8_0 (x := 2) (S_oR k_1 (by decide +kernel)) ?_
        refine Ev.seg D_49 [(.aload_n 0, 1)] (by decide +kernel) (j := 0) (pc' := 113) (lv' := [(0, .ref 3)]) (st' := [.ref 3, .ref 2]) rfl ?_
        refine Ev.getI D_49 (by decide +kernel) F_3_25 (Or.inl T_3_4) (S_oI k_3) ?_
        obtain ⟨x29, e29, g19⟩ := bd g19
        refine Ev.iald D_49 (by decide +kernel) (S_aI k_2 e29) ?_
        obtain ⟨p30, e30, g19⟩ := bd g19
        refine Ev.calls D_49 E_53 (by decide +kernel) C_3_167 [.int x29] (r := []) rfl rfl (Nat.le_of_ble_eq_true rfl) (Nat.le_of_ble_eq_true rfl) (gD_isDigit_ok (by omega)  e30) ?_
        refine Ev.if_ D_49 (c := .eq) (off := 15) (by decide +kernel) (t := 135) rfl (fun c31 => ?_) (fun c31 => ?_)
        · have c31 : p30 = 0 := of_decide_eq_true c31
          rw [if_pos c31] at g19
          refine Ev.seg D_49 [(.aload_n 0, 1), (.aload_n 0, 1)] (by decide +kernel) (j := 0) (pc' := 137) (lv' := [(0, .ref 3)]) (st' := [.ref 3, .ref 3]) rfl ?_
          refine Ev.getR D_49 (by decide +kernel) F_3_37 T_3_0 (x := 1) (S_oR k_3 (by decide +kernel)) ?_
          refine Ev.getR D_49 (by decide +kernel) F_3_145 T_8_0 (x := 2) (S_oR k_1 (by decide +kernel)) ?_
          refine Ev.seg D_49 [(.aload_n 0, 1)] (by decide +kernel) (j := 0) (pc' := 144) (lv' := [(0, .ref 3)]) (st' := [.ref 3, .ref 2, .ref 3]) rfl ?_
          refine Ev.getI D_49 (by decide +kernel) F_3_25 (Or.inl T_3_4) (S_oI k_3) ?_
          obtain ⟨x35, e35, g19⟩ := bd g19
          refine Ev.iald D_49 (by decide +kernel) (S_aI k_2 e35) ?_
          refine Ev.seg D_49 [(.bipush 59, 2)] (by decide +kernel) (j := 0) (pc' := 150) (lv' := [(0, .ref 3)]) (st' := [.int (59 : Int32), .int x35, .ref 3]) rfl ?_
          obtain ⟨x36, g36, g19⟩ := bd g19
          have j36 : Ev (d + 1) 49 158 [(0, .ref 3)] [.int x36, .ref 3] (uS L (stI x13 3 6 (x13.1 3 4))) o := by
            clear g36
            refine Ev.putI D_49 (by decide +kernel) F_3_28 N_3_5 T_3_5 (S_pI k_3) ?_
            refine Ev.seg D_49 [(.aload_n 0, 1), (.dup, 1)] (by decide +kernel) (j := 0) (pc' := 163) (lv' := [(0, .ref 3)]) (st' := [.ref 3, .ref 3]) rfl ?_
            refine Ev.getI D_49 (by decide +kernel) F_3_25 (Or.inl T_3_4) (S_oI k_3) ?_
            refine Ev.seg D_49 [(.iconst 1, 1), (.iadd, 1)] (by decide +kernel) (j := 0) (pc' := 168) (lv' := [(0, .ref 3)]) (st' := [.int (((stI (stI x13 3 6 (x13.1 3 4)) 3 5 x36).1 3 4) + (1 : Int32)), .ref 3]) rfl ?_
            obtain ⟨s39, e39, g19⟩ := bd g19
            refine Ev.putI D_49 (by decide +kernel) F_3_25 N_3_4 T_3_4 (S_pIb k_3 e39) ?_
            cases g19
            exact Ev.sub2 j19 subL_nil
          clear g19
          refine Ev.icmp D_49 (c := .ne) (off := 7) (by decide +kernel) (t := 157) rfl (fun c36 => ?_) (fun c36 => ?_)
          · have c36 : ¬ x35 = (59 : Int32) := of_decide_eq_true c36
            rw [if_neg c36] at g36
            refine Ev.seg D_49 [(.iconst 4, 1)] (by decide +kernel) (j := 0) (pc' := 158) (lv' := [(0, .ref 3)]) (st' := [.int (4 : Int32), .ref 3]) rfl ?_
            cases g36
            exact Ev.sub2 j36 (subL_cons rfl subL_nil)
          · have c36 : x35 = (59 : Int32) := Decidable.of_not_not (of_decide_eq_false c36)
            rw [if_pos c36] at g36
            refine Ev.seg D_49 [(.iconst 3, 1), (.goto 4, 3)] (by decide +kernel) (j := 0) (pc' := 158) (lv' := [(0, .ref 3)]) (st' := [.int (3 : Int32), .ref 3]) rfl ?_
            cases g36
            exact Ev.sub2 j36 (subL_cons rfl subL_nil)
        · have c31 : ¬ p30 = 0 := of_decide_eq_false c31
          rw [if_neg c31] at g19
          refine Ev.seg D_49 [(.aload_n 0, 1), (.iconst 2, 1)] (by decide +kernel) (j := 0) (pc' := 125) (lv' := [(0, .ref 3)]) (st' := [.int (2 : Int32), .ref 3]) rfl ?_
          refine Ev.putI D_49 (by decide +kernel) F_3_28 N_3_5 T_3_5 (S_pI k_3) ?_
          refine Ev.seg D_49 [(.aload_n 0, 1)] (by decide +kernel) (j := 0) (pc' := 129) (lv' := [(0, .ref 3)]) (st' := [.ref 3]) rfl ?_
          obtain ⟨p41, e41, g19⟩ := bd g19
          refine Ev.callv D_49 E_54 (by decide +kernel) C_3_170 3 [] (r := []) rfl (gd_o k_3 (by decide)) rfl (Nat.le_of_ble_eq_true rfl) (Nat.le_of_ble_eq_true rfl) (gD_passNumber_ok (by omega)  e41) ?_
          refine Ev.seg D_49 [(.goto 39, 3)] (by decide +kernel) (j := 0) (pc' := 171) (lv' := [(0, .ref 3)]) (st' := []) rfl ?_
          cases g19
          exact Ev.sub2 j19 subL_nil
      · have c25 : ¬ p24 = 0 := of_decide_eq_false c25
        rw [if_neg c25] at g19
        refine Ev.seg D_49 [(.aload_n 0, 1), (.iconst 1, 1)] (by decide +kernel) (j := 0) (pc' := 95) (lv' := [(0, .ref 3)]) (st' := [.int (1 : Int32), .ref 3]) rfl ?_
        refine Ev.putI D_49 (by decide +kernel) F_3_28 N_3_5 T_3_5 (S_pI k_3) ?_
        refine Ev.seg D_49 [(.aload_n 0, 1)] (by decide +kernel) (j := 0) (pc' := 99) (lv' := [(0, .ref 3)]) (st' := [.ref 3]) rfl ?_
        obtain ⟨p43, e43, g19⟩ := bd g19
        refine Ev.callv D_49 E_52 (by decide +kernel) C_3_164 3 [] (r := []) rfl (gd_o k_3 (by decide)) rfl (Nat.le_of_ble_eq_true rfl) (Nat.le_of_ble_eq_true rfl) (gD_passWord_ok (by omega)  e43) ?_
        refine Ev.seg D_49 [(.goto 69, 3)] (by decide +kernel) (j := 0) (pc' := 171) (lv' := [(0, .ref 3)]) (st' := []) rfl ?_
        cases g19
        exact Ev.sub2 j19 subL_nil
    · have c19 : ¬ ((stI x13 3 6 (x13.1 3 4)).1 3 4) < ((stI x13 3 6 (x13.1 3 4)).1 1 1) := of_decide_eq_false c19
      rw [if_neg c19] at g19
      refine Ev.seg D_49 [(.aload_n 0, 1), (.iconst 0, 1)] (by decide +kernel) (j := 0) (pc' := 69) (lv' := [(0, .ref 3)]) (st' := [.int (0 : Int32), .ref 3]) rfl ?_
      refine Ev.putI D_49 (by decide +kernel) F_3_28 N_3_5 T_3_5 (S_pI k_3) ?_
      refine Ev.seg D_49 [(.goto 99, 3)] (by decide +kernel) (j := 0) (pc' := 171) (lv' := [(0, .ref 3)]) (st' := []) rfl ?_
      cases g19
      exact Ev.sub2 j19 subL_nil
  exact Ev.sub (lv' := [(0, .ref 3)]) (subL_cons rfl subL_nil) (gD_takeToken_h0_w hd   _ _ _ w13 _ j13)
/- java/lang/String coder: 329 -/
def gS_coder (v0 : Nat) (s : mT) : Option (Int32) :=
  (
    if (1 : Int32) = 0 then
      some ((1 : Int32))
    else
      some ((0 : Int32)) : Option (Int32)).bind fun x2 =>
  if x2.toInt8.toInt32 = x2 then some (x2) else none
set_option maxRecDepth 8000 in
theorem gS_coder_ok {L d : Nat} (hd : 1 ≤ d) {v0 : Nat} {s : mT} (i0 : isSt v0) {p : Int32} (h : gS_coder v0 s = some p) : Ev d 329 0 [(0, .ref v0)] [] (uS L s) (some (.int p), uS L s) := by
  obtain ⟨d, rfl⟩ : ∃ e, d = e + 1 := ⟨d - 1, by omega⟩
  obtain ⟨o, ho⟩ : ∃ o : Option Value × mS, o = (some (.int p), uS L s) := ⟨_, rfl⟩
  rw [← ho]
  unfold gS_coder at h
  refine Ev.stat D_329 (i := 38) (by decide +kernel) (v := .int (1 : Int32)) (by decide +kernel) ?_
  obtain ⟨x2, g2, h⟩ := bd h
  have j2 : Ev (d + 1) 329 14 [] [.int x2] (uS L s) o := by
    clear g2
    by_cases c4 : x2.toInt8.toInt32 = x2
    · rw [if_pos c4] at h
      cases h
      obtain rfl : o = _ := ho
      exact Ev.bret D_329 c4 (by decide +kernel)
    · rw [if_neg c4] at h; cases h
  clear h
  refine Ev.if_ D_329 (c := .eq) (off := 10) (by decide +kernel) (t := 13) rfl (fun c2 => ?_) (fun c2 => ?_)
  · have c2 : (1 : Int32) = 0 := of_decide_eq_true c2
    rw [if_pos c2] at g2
    refine Ev.seg D_329 [(.iconst 1, 1)] (by decide +kernel) (j := 0) (pc' := 14) (lv' := [(0, .ref v0)]) (st' := [.int (1 : Int32)]) rfl ?_
    cases g2
    exact Ev.sub2 j2 subL_nil
  · have c2 : ¬ (1 : Int32) = 0 := of_decide_eq_false c2
    rw [if_neg c2] at g2
    refine Ev.seg D_329 [(.aload_n 0, 1)] (by decide +kernel) (j := 0) (pc' := 7) (lv' := [(0, .ref v0)]) (st' := [.ref v0]) rfl ?_
    refine Ev.getC D_329 (by decide +kernel) (S_isS i0) ?_
    refine Ev.seg D_329 [(.goto 4, 3)] (by decide +kernel) (j := 0) (pc' := 14) (lv' := [(0, .ref v0)]) (st' := [.int (0 : Int32)]) rfl ?_
    cases g2
    exact Ev.sub2 j2 subL_nil
/- java/lang/String length: 328 -/
def gS_length (v0 : Nat) (s : mT) : Option (Int32) :=
  (gS_coder v0 s).bind fun p3 =>
  some ((Int32.ofNat (bLen (v0 + 1))) >>> (p3 &&& 31))
set_option maxRecDepth 8000 in
theorem gS_length_ok {L d : Nat} (hd : 2 ≤ d) {v0 : Nat} {s : mT} (i0 : isSt v0) {p : Int32} (h : gS_length v0 s = some p) : Ev d 328 0 [(0, .ref v0)] [] (uS L s) (some (.int p), uS L s) := by
  obtain ⟨d, rfl⟩ : ∃ e, d = e + 1 := ⟨d - 1, by omega⟩
  obtain ⟨o, ho⟩ : ∃ o : Option Value × mS, o = (some (.int p), uS L s) := ⟨_, rfl⟩
  rw [← ho]
  unfold gS_length at h
  refine Ev.seg D_328 [(.aload_n 0, 1)] (by decide +kernel) (j := 0) (pc' := 1) (lv' := [(0, .ref v0)]) (st' := [.ref v0]) rfl ?_
  refine Ev.getV D_328 (by decide +kernel) (S_isS i0) ?_
  refine Ev.alen D_328 (by decide +kernel) (S_aLenb (isSt_b i0)) ?_
  refine Ev.seg D_328 [(.aload_n 0, 1)] (by decide +kernel) (j := 0) (pc' := 6) (lv' := [(0, .ref v0)]) (st' := [.ref v0, .int (Int32.ofNat (bLen (v0 + 1)))]) rfl ?_
  obtain ⟨p3, e3, h⟩ := bd h
  refine Ev.callv D_328 E_329 (by decide +kernel) C_13_335 v0 [] (r := [.int (Int32.ofNat (bLen (v0 + 1)))]) rfl (gd_st i0) rfl (Nat.le_of_ble_eq_true rfl) (Nat.le_of_ble_eq_true rfl) (gS_coder_ok (by omega) i0 e3) ?_
  refine Ev.seg D_328 [(.ishr, 1)] (by decide +kernel) (j := 0) (pc' := 10) (lv' := [(0, .ref v0)]) (st' := [.int ((Int32.ofNat (bLen (v0 + 1))) >>> (p3 &&& 31))]) rfl ?_
  cases h
  obtain rfl : o = _ := ho
  exact Ev.iret D_328 (by decide +kernel)
/- java/lang/String isLatin1: 331 -/
def gS_isLatin1 (v0 : Nat) (s : mT) : Option (Int32) :=
  (
    if (1 : Int32) = 0 then
      some ((0 : Int32))
    else
      if (0 : Int32) = 0 then
        some ((1 : Int32))
      else
        some ((0 : Int32)) : Option (Int32)).bind fun x2 =>
  if x2 = 0 ∨ x2 = 1 then some (x2) else none
set_option maxRecDepth 8000 in
theorem gS_isLatin1_ok {L d : Nat} (hd : 1 ≤ d) {v0 : Nat} {s : mT} (i0 : isSt v0) {p : Int32} (h : gS_isLatin1 v0 s = some p) : Ev d 331 0 [(0, .ref v0)] [] (uS L s) (some (.int p), uS L s) := by
  obtain ⟨d, rfl⟩ : ∃ e, d = e + 1 := ⟨d - 1, by omega⟩
  obtain ⟨o, ho⟩ : ∃ o : Option Value × mS, o = (some (.int p), uS L s) := ⟨_, rfl⟩
  rw [← ho]
  unfold gS_isLatin1 at h
  refine Ev.stat D_331 (i := 38) (by decide +kernel) (v := .int (1 : Int32)) (by decide +kernel) ?_
  obtain ⟨x2, g2, h⟩ := bd h
  have j2 : Ev (d + 1) 331 18 [] [.int x2] (uS L s) o := by
    clear g2
    by_cases c5 : x2 = 0 ∨ x2 = 1
    · rw [if_pos c5] at h
      cases h
      obtain rfl : o = _ := ho
      exact Ev.zret D_331 c5 (by decide +kernel)
    · rw [if_neg c5] at h; cases h
  clear h
  refine Ev.if_ D_331 (c := .eq) (off := 14) (by decide +kernel) (t := 17) rfl (fun c2 => ?_) (fun c2 => ?_)
  · have c2 : (1 : Int32) = 0 := of_decide_eq_true c2
    rw [if_pos c2] at g2
    refine Ev.seg D_331 [(.iconst 0, 1)] (by decide +kernel) (j := 0) (pc' := 18) (lv' := [(0, .ref v0)]) (st' := [.int (0 : Int32)]) rfl ?_
    cases g2
    exact Ev.sub2 j2 subL_nil
  · have c2 : ¬ (1 : Int32) = 0 := of_decide_eq_false c2
    rw [if_neg c2] at g2
    refine Ev.seg D_331 [(.aload_n 0, 1)] (by decide +kernel) (j := 0) (pc' := 7) (lv' := [(0, .ref v0)]) (st' := [.ref v0]) rfl ?_
    refine Ev.getC D_331 (by decide +kernel) (S_isS i0) ?_
    refine Ev.if_ D_331 (c := .ne) (off := 7) (by decide +kernel) (t := 17) rfl (fun c4 => ?_) (fun c4 => ?_)
    · have c4 : ¬ (0 : Int32) = 0 := of_decide_eq_true c4
      rw [if_neg c4] at g2
      refine Ev.seg D_331 [(.iconst 0, 1)] (by decide +kernel) (j := 0) (pc' := 18) (lv' := [(0, .ref v0)]) (st' := [.int (0 : Int32)]) rfl ?_
      cases g2
      exact Ev.sub2 j2 subL_nil
    · have c4 : (0 : Int32) = 0 := Decidable.of_not_not (of_decide_eq_false c4)
      rw [if_pos c4] at g2
      refine Ev.seg D_331 [(.iconst 1, 1), (.goto 4, 3)] (by decide +kernel) (j := 0) (pc' := 18) (lv' := [(0, .ref v0)]) (st' := [.int (1 : Int32)]) rfl ?_
      cases g2
      exact Ev.sub2 j2 subL_nil
/- jdk/internal/util/Preconditions checkIndex: 334 -/
def gP_checkIndex (v0 : Int32) (v1 : Int32) (s : mT) : Option (Int32) :=
  if v0 < 0 then
    none
  else
    if v0 < v1 then
      some (v0)
    else
      none
set_option maxRecDepth 8000 in
theorem gP_checkIndex_ok {L d : Nat} (hd : 1 ≤ d) {v0 : Int32} {v1 : Int32} {s : mT} {p : Int32} (h : gP_checkIndex v0 v1 s = some p) : Ev d 334 0 [(0, .int v0), (1, .int v1), (2, .retAddr 0)] [] (uS L s) (some (.int p), uS L s) := by
  obtain ⟨d, rfl⟩ : ∃ e, d = e + 1 := ⟨d - 1, by omega⟩
  obtain ⟨o, ho⟩ : ∃ o : Option Value × mS, o = (some (.int p), uS L s) := ⟨_, rfl⟩
  rw [← ho]
  unfold gP_checkIndex at h
  refine Ev.seg D_334 [(.iload_n 0, 1)] (by decide +kernel) (j := 0) (pc' := 1) (lv' := [(0, .int v0), (1, .int v1), (2, .retAddr 0)]) (st' := [.int v0]) rfl ?_
  refine Ev.if_ D_334 (c := .lt) (off := 8) (by decide +kernel) (t := 9) rfl (fun c1 => ?_) (fun c1 => ?_)
  · have c1 : v0 < 0 := of_decide_eq_true c1
    rw [if_pos c1] at h
    cases h
  · have c1 : ¬ v0 < 0 := of_decide_eq_false c1
    rw [if_neg c1] at h
    refine Ev.seg D_334 [(.iload_n 0, 1), (.iload_n 1, 1)] (by decide +kernel) (j := 0) (pc' := 6) (lv' := [(0, .int v0), (1, .int v1), (2, .retAddr 0)]) (st' := [.int v1, .int v0]) rfl ?_
    refine Ev.icmp D_334 (c := .lt) (off := 10) (by decide +kernel) (t := 16) rfl (fun c2 => ?_) (fun c2 => ?_)
    · have c2 : v0 < v1 := of_decide_eq_true c2
      rw [if_pos c2] at h
      refine Ev.seg D_334 [(.iload_n 0, 1)] (by decide +kernel) (j := 0) (pc' := 17) (lv' := [(0, .int v0), (1, .int v1), (2, .retAddr 0)]) (st' := [.int v0]) rfl ?_
      cases h
      obtain rfl : o = _ := ho
      exact Ev.iret D_334 (by decide +kernel)
    · have c2 : ¬ v0 < v1 := of_decide_eq_false c2
      rw [if_neg c2] at h
      cases h
/- java/lang/String checkIndex: 332 -/
def gS_checkIndex (v0 : Int32) (v1 : Int32) (s : mT) : Option (Unit) :=
  (gP_checkIndex v0 v1 s).bind fun p2 =>
  some (())
set_option maxRecDepth 8000 in
theorem gS_checkIndex_ok {L d : Nat} (hd : 2 ≤ d) {v0 : Int32} {v1 : Int32} {s : mT} {p : Unit} (h : gS_checkIndex v0 v1 s = some p) : Ev d 332 0 [(0, .int v0), (1, .int v1)] [] (uS L s) (none, uS L s) := by
  obtain ⟨d, rfl⟩ : ∃ e, d = e + 1 := ⟨d - 1, by omega⟩
  obtain ⟨o, ho⟩ : ∃ o : Option Value × mS, o = (none, uS L s) := ⟨_, rfl⟩
  rw [← ho]
  unfold gS_checkIndex at h
  refine Ev.seg D_332 [(.iload_n 0, 1), (.iload_n 1, 1)] (by decide +kernel) (j := 0) (pc' := 2) (lv' := [(0, .int v0), (1, .int v1)]) (st' := [.int v1, .int v0]) rfl ?_
  refine Ev.stat D_332 (i := 1053) (by decide +kernel) (v := .retAddr 0) (by decide +kernel) ?_
  obtain ⟨p2, e2, h⟩ := bd h
  refine Ev.calls D_332 E_334 (by decide +kernel) C_13_1059 [.int v0, .int v1, .retAddr 0] (r := []) rfl rfl (Nat.le_of_ble_eq_true rfl) (Nat.le_of_ble_eq_true rfl) (gP_checkIndex_ok (by omega)  e2) ?_
  refine Ev.seg D_332 [(.pop, 1)] (by decide +kernel) (j := 0) (pc' := 9) (lv' := [(0, .int v0), (1, .int v1)]) (st' := []) rfl ?_
  cases h
  obtain rfl : o = _ := ho
  exact Ev.vret D_332 (by decide +kernel)
/- java/lang/StringLatin1 charAt: 333 -/
def gS1_charAt (v0 : Nat) (v1 : Int32) (s : mT) : Option (Int32) :=
  (gS_checkIndex v1 (Int32.ofNat (bLen v0)) s).bind fun p2 =>
  (rdI (s.1 v0) (bLen v0) v1).bind fun x3 =>
  if ((((x3 &&& (255 : Int32)).toUInt32 % 65536).toInt32).toUInt32 % 65536).toInt32 = (((x3 &&& (255 : Int32)).toUInt32 % 65536).toInt32) then some (((x3 &&& (255 : Int32)).toUInt32 % 65536).toInt32) else none
set_option maxRecDepth 8000 in
theorem gS1_charAt_ok {L d : Nat} (hd : 3 ≤ d) {v0 : Nat} {v1 : Int32} {s : mT} (i0 : isBy v0) {p : Int32} (h : gS1_charAt v0 v1 s = some p) : Ev d 333 0 [(0, .ref v0), (1, .int v1)] [] (uS L s) (some (.int p), uS L s) := by
  obtain ⟨d, rfl⟩ : ∃ e, d = e + 1 := ⟨d - 1, by omega⟩
  obtain ⟨o, ho⟩ : ∃ o : Option Value × mS, o = (some (.int p), uS L s) := ⟨_, rfl⟩
  rw [← ho]
  unfold gS1_charAt at h
  refine Ev.seg D_333 [(.iload_n 1, 1), (.aload_n 0, 1)] (by decide +kernel) (j := 0) (pc' := 2) (lv' := [(0, .ref v0), (1, .int v1)]) (st' := [.ref v0, .int v1]) rfl ?_
  refine Ev.alen D_333 (by decide +kernel) (S_aLenb i0) ?_
  obtain ⟨p2, e2, h⟩ := bd h
  refine Ev.calls D_333 E_332 (by decide +kernel) C_14_9 [.int v1, .int (Int32.ofNat (bLen v0))] (r := []) rfl rfl (Nat.le_of_ble_eq_true rfl) (Nat.le_of_ble_eq_true rfl) (gS_checkIndex_ok (by omega)  e2) ?_
  refine Ev.seg D_333 [(.aload_n 0, 1), (.iload_n 1, 1)] (by decide +kernel) (j := 0) (pc' := 8) (lv' := [(0, .ref v0), (1, .int v1)]) (st' := [.int v1, .ref v0]) rfl ?_
  obtain ⟨x3, e3, h⟩ := bd h
  refine Ev.bald D_333 (by decide +kernel) (S_aIb i0 e3) ?_
  refine Ev.seg D_333 [(.sipush 255, 3), (.iand, 1), (.i2c, 1)] (by decide +kernel) (j := 0) (pc' := 14) (lv' := [(0, .ref v0), (1, .int v1)]) (st' := [.int (((x3 &&& (255 : Int32)).toUInt32 % 65536).toInt32)]) rfl ?_
  by_cases c4 : ((((x3 &&& (255 : Int32)).toUInt32 % 65536).toInt32).toUInt32 % 65536).toInt32 = (((x3 &&& (255 : Int32)).toUInt32 % 65536).toInt32)
  · rw [if_pos c4] at h
    cases h
    obtain rfl : o = _ := ho
    exact Ev.cret D_333 c4 (by decide +kernel)
  · rw [if_neg c4] at h; cases h
/- java/lang/String charAt: 330 -/
def gS_charAt (v0 : Nat) (v1 : Int32) (s : mT) : Option (Int32) :=
  (gS_isLatin1 v0 s).bind fun p1 =>
  if p1 = 0 then
    none
  else
    (gS1_charAt (v0 + 1) v1 s).bind fun p6 =>
    if (p6.toUInt32 % 65536).toInt32 = p6 then some (p6) else none
set_option maxRecDepth 8000 in
theorem gS_charAt_ok {L d : Nat} (hd : 4 ≤ d) {v0 : Nat} {v1 : Int32} {s : mT} (i0 : isSt v0) {p : Int32} (h : gS_charAt v0 v1 s = some p) : Ev d 330 0 [(0, .ref v0), (1, .int v1)] [] (uS L s) (some (.int p), uS L s) := by
  obtain ⟨d, rfl⟩ : ∃ e, d = e + 1 := ⟨d - 1, by omega⟩
  obtain ⟨o, ho⟩ : ∃ o : Option Value × mS, o = (some (.int p), uS L s) := ⟨_, rfl⟩
  rw [← ho]
  unfold gS_charAt at h
  refine Ev.seg D_330 [(.aload_n 0, 1)] (by decide +kernel) (j := 0) (pc' := 1) (lv' := [(0, .ref v0), (1, .int v1)]) (st' := [.ref v0]) rfl ?_
  obtain ⟨p1, e1, h⟩ := bd h
  refine Ev.callv D_330 E_331 (by decide +kernel) C_13_492 v0 [] (r := []) rfl (gd_st i0) rfl (Nat.le_of_ble_eq_true rfl) (Nat.le_of_ble_eq_true rfl) (gS_isLatin1_ok (by omega) i0 e1) ?_
  refine Ev.if_ D_330 (c := .eq) (off := 12) (by decide +kernel) (t := 16) rfl (fun c2 => ?_) (fun c2 => ?_)
  · have c2 : p1 = 0 := of_decide_eq_true c2
    rw [if_pos c2] at h
    refine Ev.seg D_330 [(.aload_n 0, 1)] (by decide +kernel) (j := 0) (pc' := 17) (lv' := [(0, .ref v0), (1, .int v1)]) (st' := [.ref v0]) rfl ?_
    refine Ev.getV D_330 (by decide +kernel) (S_isS i0) ?_
    refine Ev.seg D_330 [(.iload_n 1, 1)] (by decide +kernel) (j := 0) (pc' := 21) (lv' := [(0, .ref v0), (1, .int v1)]) (st' := [.int v1, .ref (v0 + 1)]) rfl ?_
    cases h
  · have c2 : ¬ p1 = 0 := of_decide_eq_false c2
    rw [if_neg c2] at h
    refine Ev.seg D_330 [(.aload_n 0, 1)] (by decide +kernel) (j := 0) (pc' := 8) (lv' := [(0, .ref v0), (1, .int v1)]) (st' := [.ref v0]) rfl ?_
    refine Ev.getV D_330 (by decide +kernel) (S_isS i0) ?_
    refine Ev.seg D_330 [(.iload_n 1, 1)] (by decide +kernel) (j := 0) (pc' := 12) (lv' := [(0, .ref v0), (1, .int v1)]) (st' := [.int v1, .ref (v0 + 1)]) rfl ?_
    obtain ⟨p6, e6, h⟩ := bd h
    refine Ev.calls D_330 E_333 (by decide +kernel) C_13_495 [.ref (v0 + 1), .int v1] (r := []) rfl rfl (Nat.le_of_ble_eq_true rfl) (Nat.le_of_ble_eq_true rfl) (gS1_charAt_ok (by omega) (isSt_b i0) e6) ?_
    by_cases c7 : (p6.toUInt32 % 65536).toInt32 = p6
    · rw [if_pos c7] at h
      cases h
      obtain rfl : o = _ := ho
      exact Ev.cret D_330 c7 (by decide +kernel)
    · rw [if_neg c7] at h; cases h
/- Reader isAtWord: 58 -/
def gD_isAtWord_h28 (v1 : Nat) (s : mT) (q : Int32) : Option ((Int32) ⊕ (Int32)) :=
  (gS_length v1 s).bind fun p1 =>
  if p1 ≤ q then
    some (.inr ((1 : Int32)))
  else
    (rdI (s.1 2) 600 ((s.1 3 6) + q)).bind fun x7 =>
    (gS_charAt v1 q s).bind fun p8 =>
    if x7 = p8 then
      some (.inl (q + (1 : Int32)))
    else
      some (.inr ((0 : Int32)))
set_option maxRecDepth 8000 in
theorem gD_isAtWord_h28_ok {L d : Nat} (hd : 5 ≤ d + 1) {v1 : Nat} {s : mT} (i1 : isSt v1) : ∀ (q : Int32) (x : (Int32) ⊕ (Int32)), gD_isAtWord_h28 v1 s q = some x → ∀ o, sK (fun q => Ev (d + 1) 58 28 [(0, .ref 3), (1, .ref v1), (2, .int q)] [] (uS L s) o) (fun r => o = (some (.int r), uS L s)) x → Ev (d + 1) 58 28 [(0, .ref 3), (1, .ref v1), (2, .int q)] [] (uS L s) o := by
  intro q x h o ho
  unfold gD_isAtWord_h28 at h
  refine Ev.seg D_58 [(.iload_n 2, 1), (.aload_n 1, 1)] (by decide +kernel) (j := 0) (pc' := 30) (lv' := [(0, .ref 3), (1, .ref v1), (2, .int q)]) (st' := [.ref v1, .int q]) rfl ?_
  obtain ⟨p1, e1, h⟩ := bd h
  refine Ev.callv D_58 E_328 (by decide +kernel) C_3_139 v1 [] (r := [.int q]) rfl (gd_st i1) rfl (Nat.le_of_ble_eq_true rfl) (Nat.le_of_ble_eq_true rfl) (gS_length_ok (by omega) i1 e1) ?_
  refine Ev.icmp D_58 (c := .ge) (off := 33) (by decide +kernel) (t := 66) rfl (fun c2 => ?_) (fun c2 => ?_)
  · have c2 : p1 ≤ q := of_decide_eq_true c2
    rw [if_pos c2] at h
    refine Ev.seg D_58 [(.iconst 1, 1)] (by decide +kernel) (j := 0) (pc' := 67) (lv' := [(0, .ref 3), (1, .ref v1), (2, .int q)]) (st' := [.int (1 : Int32)]) rfl ?_
    cases h
    obtain rfl : o = _ := ho
    exact Ev.zret D_58 (by decide) (by decide +kernel)
  · have c2 : ¬ p1 ≤ q := of_decide_eq_false c2
    rw [if_neg c2] at h
    refine Ev.seg D_58 [(.aload_n 0, 1)] (by decide +kernel) (j := 0) (pc' := 37) (lv' := [(0, .ref 3), (1, .ref v1), (2, .int q)]) (st' := [.ref 3]) rfl ?_
    refine Ev.getR D_58 (by decide +kernel) F_3_37 T_3_0 (x := 1) (S_oR k_3 (by decide +kernel)) ?_
    refine Ev.getR D_58 (by decide +kernel) F_3_145 T_8_0 (x := 2) (S_oR k_1 (by decide +kernel)) ?_
    refine Ev.seg D_58 [(.aload_n 0, 1)] (by decide +kernel) (j := 0) (pc' := 44) (lv' := [(0, .ref 3), (1, .ref v1), (2, .int q)]) (st' := [.ref 3, .ref 2]) rfl ?_
    refine Ev.getI D_58 (by decide +kernel) F_3_31 (Or.inl T_3_6) (S_oI k_3) ?_
    refine Ev.seg D_58 [(.iload_n 2, 1), (.iadd, 1)] (by decide +kernel) (j := 0) (pc' := 49) (lv' := [(0, .ref 3), (1, .ref v1), (2, .int q)]) (st' := [.int ((s.1 3 6) + q), .ref 2]) rfl ?_
    obtain ⟨x7, e7, h⟩ := bd h
    refine Ev.iald D_58 (by decide +kernel) (S_aI k_2 e7) ?_
    refine Ev.seg D_58 [(.aload_n 1, 1), (.iload_n 2, 1)] (by decide +kernel) (j := 0) (pc' := 52) (lv' := [(0, .ref 3), (1, .ref v1), (2, .int q)]) (st' := [.int q, .ref v1, .int x7]) rfl ?_
    obtain ⟨p8, e8, h⟩ := bd h
    refine Ev.callv D_58 E_330 (by decide +kernel) C_3_151 v1 [.int q] (r := [.int x7]) rfl (gd_st i1) rfl (Nat.le_of_ble_eq_true rfl) (Nat.le_of_ble_eq_true rfl) (gS_charAt_ok (by omega) i1 e8) ?_
    refine Ev.icmp D_58 (c := .eq) (off := 5) (by decide +kernel) (t := 60) rfl (fun c9 => ?_) (fun c9 => ?_)
    · have c9 : x7 = p8 := of_decide_eq_true c9
      rw [if_pos c9] at h
      refine Ev.seg D_58 [(.iinc 2 1, 3), (.goto (-35), 3)] (by decide +kernel) (j := 0) (pc' := 28) (lv' := [(2, .int (q + (1 : Int32))), (0, .ref 3), (1, .ref v1)]) (st' := []) rfl ?_
      cases h
      exact Ev.sub (lv' := [(0, .ref 3), (1, .ref v1), (2, .int (q + (1 : Int32)))]) (subL_cons rfl (subL_cons rfl (subL_cons rfl subL_nil))) ho
    · have c9 : ¬ x7 = p8 := of_decide_eq_false c9
      rw [if_neg c9] at h
      refine Ev.seg D_58 [(.iconst 0, 1)] (by decide +kernel) (j := 0) (pc' := 59) (lv' := [(0, .ref 3), (1, .ref v1), (2, .int q)]) (st' := [.int (0 : Int32)]) rfl ?_
      cases h
      obtain rfl : o = _ := ho
      exact Ev.zret D_58 (by decide) (by decide +kernel)
theorem gD_isAtWord_h28_w {L d : Nat} (hd : 5 ≤ d + 1) {v1 : Nat} {s : mT} (i1 : isSt v1) : ∀ (n : Nat) (q : Int32) (r : Int32), wh n (gD_isAtWord_h28 v1 s) q = some r → ∀ o, (fun r => o = (some (.int r), uS L s)) r → Ev (d + 1) 58 28 [(0, .ref 3), (1, .ref v1), (2, .int q)] [] (uS L s) o :=
  fun n q r h o hc => wh_ev (E := fun (q : Int32) o => Ev (d + 1) 58 28 [(0, .ref 3), (1, .ref v1), (2, .int q)] [] (uS L s) o) (C := fun (r : Int32) o => (fun r => o = (some (.int r), uS L s)) r) (gD_isAtWord_h28_ok hd i1 ) n q r h o hc
def gD_isAtWord (v1 : Nat) (s : mT) : Option (Int32) :=
  if (s.1 3 5) = (1 : Int32) then
    (gS_length v1 s).bind fun p6 =>
    if ((s.1 3 4) - (s.1 3 6)) = p6 then
      wh FU (gD_isAtWord_h28 v1 s) (0 : Int32)
    else
      some ((0 : Int32))
  else
    some ((0 : Int32))
set_option maxRecDepth 8000 in
theorem gD_isAtWord_ok {L d : Nat} (hd : 5 ≤ d) {v1 : Nat} {s : mT} (i1 : isSt v1) {p : Int32} (h : gD_isAtWord v1 s = some p) : Ev d 58 0 [(0, .ref 3), (1, .ref v1)] [] (uS L s) (some (.int p), uS L s) := by
  obtain ⟨d, rfl⟩ : ∃ e, d = e + 1 := ⟨d - 1, by omega⟩
  obtain ⟨o, ho⟩ : ∃ o : Option Value × mS, o = (some (.int p), uS L s) := ⟨_, rfl⟩
  rw [← ho]
  unfold gD_isAtWord at h
  refine Ev.seg D_58 [(.aload_n 0, 1)] (by decide +kernel) (j := 0) (pc' := 1) (lv' := [(0, .ref 3), (1, .ref v1)]) (st' := [.ref 3]) rfl ?_
  refine Ev.getI D_58 (by decide +kernel) F_3_28 (Or.inl T_3_5) (S_oI k_3) ?_
  refine Ev.seg D_58 [(.iconst 1, 1)] (by decide +kernel) (j := 0) (pc' := 5) (lv' := [(0, .ref 3), (1, .ref v1)]) (st' := [.int (1 : Int32), .int (s.1 3 5)]) rfl ?_
  refine Ev.icmp D_58 (c := .ne) (off := 19) (by decide +kernel) (t := 24) rfl (fun c2 => ?_) (fun c2 => ?_)
  · have c2 : ¬ (s.1 3 5) = (1 : Int32) := of_decide_eq_true c2
    rw [if_neg c2] at h
    refine Ev.seg D_58 [(.iconst 0, 1)] (by decide +kernel) (j := 0) (pc' := 25) (lv' := [(0, .ref 3), (1, .ref v1)]) (st' := [.int (0 : Int32)]) rfl ?_
    cases h
    obtain rfl : o = _ := ho
    exact Ev.zret D_58 (by decide) (by decide +kernel)
  · have c2 : (s.1 3 5) = (1 : Int32) := Decidable.of_not_not (of_decide_eq_false c2)
    rw [if_pos c2] at h
    refine Ev.seg D_58 [(.aload_n 0, 1)] (by decide +kernel) (j := 0) (pc' := 9) (lv' := [(0, .ref 3), (1, .ref v1)]) (st' := [.ref 3]) rfl ?_
    refine Ev.getI D_58 (by decide +kernel) F_3_25 (Or.inl T_3_4) (S_oI k_3) ?_
    refine Ev.seg D_58 [(.aload_n 0, 1)] (by decide +kernel) (j := 0) (pc' := 13) (lv' := [(0, .ref 3), (1, .ref v1)]) (st' := [.ref 3, .int (s.1 3 4)]) rfl ?_
    refine Ev.getI D_58 (by decide +kernel) F_3_31 (Or.inl T_3_6) (S_oI k_3) ?_
    refine Ev.seg D_58 [(.isub, 1), (.aload_n 1, 1)] (by decide +kernel) (j := 0) (pc' := 18) (lv' := [(0, .ref 3), (1, .ref v1)]) (st' := [.ref v1, .int ((s.1 3 4) - (s.1 3 6))]) rfl ?_
    obtain ⟨p6, e6, h⟩ := bd h
    refine Ev.callv D_58 E_328 (by decide +kernel) C_3_139 v1 [] (r := [.int ((s.1 3 4) - (s.1 3 6))]) rfl (gd_st i1) rfl (Nat.le_of_ble_eq_true rfl) (Nat.le_of_ble_eq_true rfl) (gS_length_ok (by omega) i1 e6) ?_
    refine Ev.icmp D_58 (c := .eq) (off := 5) (by decide +kernel) (t := 26) rfl (fun c7 => ?_) (fun c7 => ?_)
    · have c7 : ((s.1 3 4) - (s.1 3 6)) = p6 := of_decide_eq_true c7
      rw [if_pos c7] at h
      refine Ev.seg D_58 [(.iconst 0, 1), (.istore_n 2, 1)] (by decide +kernel) (j := 0) (pc' := 28) (lv' := [(2, .int (0 : Int32)), (0, .ref 3), (1, .ref v1)]) (st' := []) rfl ?_
      exact Ev.sub (lv' := [(0, .ref 3), (1, .ref v1), (2, .int (0 : Int32))]) (subL_cons rfl (subL_cons rfl (subL_cons rfl subL_nil))) (gD_isAtWord_h28_w hd i1  _ _ _ h _ ho)
    · have c7 : ¬ ((s.1 3 4) - (s.1 3 6)) = p6 := of_decide_eq_false c7
      rw [if_neg c7] at h
      refine Ev.seg D_58 [(.iconst 0, 1)] (by decide +kernel) (j := 0) (pc' := 25) (lv' := [(0, .ref 3), (1, .ref v1)]) (st' := [.int (0 : Int32)]) rfl ?_
      cases h
      obtain rfl : o = _ := ho
      exact Ev.zret D_58 (by decide) (by decide +kernel)
/- Reader fail: 59 -/
def gD_fail (v1 : Int32) (s : mT) : Option (mT) :=
  (
    if (s.1 3 2) = 0 then
      some ((stI (stI s 3 2 v1) 3 3 ((stI s 3 2 v1).1 3 6)))
    else
      some (s) : Option (mT)).bind fun x2 =>
  some (x2)
set_option maxRecDepth 8000 in
theorem gD_fail_ok {L d : Nat} (hd : 1 ≤ d) {v1 : Int32} {s : mT} {p : mT} (h : gD_fail v1 s = some p) : Ev d 59 0 [(0, .ref 3), (1, .int v1)] [] (uS L s) (none, uS L p) := by
  obtain ⟨d, rfl⟩ : ∃ e, d = e + 1 := ⟨d - 1, by omega⟩
  obtain ⟨o, ho⟩ : ∃ o : Option Value × mS, o = (none, uS L p) := ⟨_, rfl⟩
  rw [← ho]
  unfold gD_fail at h
  refine Ev.seg D_59 [(.aload_n 0, 1)] (by decide +kernel) (j := 0) (pc' := 1) (lv' := [(0, .ref 3), (1, .int v1)]) (st' := [.ref 3]) rfl ?_
  refine Ev.getI D_59 (by decide +kernel) F_3_18 (Or.inl T_3_2) (S_oI k_3) ?_
  obtain ⟨x2, g2, h⟩ := bd h
  have j2 : Ev (d + 1) 59 20 [] [] (uS L x2) o := by
    clear g2
    cases h
    obtain rfl : o = _ := ho
    exact Ev.vret D_59 (by decide +kernel)
  clear h
  refine Ev.if_ D_59 (c := .ne) (off := 16) (by decide +kernel) (t := 20) rfl (fun c2 => ?_) (fun c2 => ?_)
  · have c2 : ¬ (s.1 3 2) = 0 := of_decide_eq_true c2
    rw [if_neg c2] at g2
    cases g2
    exact Ev.sub2 j2 subL_nil
  · have c2 : (s.1 3 2) = 0 := Decidable.of_not_not (of_decide_eq_false c2)
    rw [if_pos c2] at g2
    refine Ev.seg D_59 [(.aload_n 0, 1), (.iload_n 1, 1)] (by decide +kernel) (j := 0) (pc' := 9) (lv' := [(0, .ref 3), (1, .int v1)]) (st' := [.int v1, .ref 3]) rfl ?_
    refine Ev.putI D_59 (by decide +kernel) F_3_18 N_3_2 T_3_2 (S_pI k_3) ?_
    refine Ev.seg D_59 [(.aload_n 0, 1), (.aload_n 0, 1)] (by decide +kernel) (j := 0) (pc' := 14) (lv' := [(0, .ref 3), (1, .int v1)]) (st' := [.ref 3, .ref 3]) rfl ?_
    refine Ev.getI D_59 (by decide +kernel) F_3_31 (Or.inl T_3_6) (S_oI k_3) ?_
    refine Ev.putI D_59 (by decide +kernel) F_3_22 N_3_3 T_3_3 (S_pI k_3) ?_
    cases g2
    exact Ev.sub2 j2 subL_nil
/- Reader takeWord: 57 -/
def gD_takeWord (v1 : Nat) (s : mT) : Option (mT) :=
  if (s.1 3 2) = 0 then
    (gD_isAtWord v1 s).bind fun p3 =>
    (
      if p3 = 0 then
        (gD_fail (1 : Int32) s).bind fun p5 =>
        some (p5)
      else
        (gD_takeToken s).bind fun p6 =>
        some (p6) : Option (mT)).bind fun x4 =>
    some (x4)
  else
    some (s)
set_option maxRecDepth 8000 in
theorem gD_takeWord_ok {L d : Nat} (hd : 6 ≤ d) {v1 : Nat} {s : mT} (i1 : isSt v1) {p : mT} (h : gD_takeWord v1 s = some p) : Ev d 57 0 [(0, .ref 3), (1, .ref v1)] [] (uS L s) (none, uS L p) := by
  obtain ⟨d, rfl⟩ : ∃ e, d = e + 1 := ⟨d - 1, by omega⟩
  obtain ⟨o, ho⟩ : ∃ o : Option Value × mS, o = (none, uS L p) := ⟨_, rfl⟩
  rw [← ho]
  unfold gD_takeWord at h
  refine Ev.seg D_57 [(.aload_n 0, 1)] (by decide +kernel) (j := 0) (pc' := 1) (lv' := [(0, .ref 3), (1, .ref v1)]) (st' := [.ref 3]) rfl ?_
  refine Ev.getI D_57 (by decide +kernel) F_3_18 (Or.inl T_3_2) (S_oI k_3) ?_
  refine Ev.if_ D_57 (c := .eq) (off := 4) (by decide +kernel) (t := 8) rfl (fun c2 => ?_) (fun c2 => ?_)
  · have c2 : (s.1 3 2) = 0 := of_decide_eq_true c2
    rw [if_pos c2] at h
    refine Ev.seg D_57 [(.aload_n 0, 1), (.aload_n 1, 1)] (by decide +kernel) (j := 0) (pc' := 10) (lv' := [(0, .ref 3), (1, .ref v1)]) (st' := [.ref v1, .ref 3]) rfl ?_
    obtain ⟨p3, e3, h⟩ := bd h
    refine Ev.callv D_57 E_58 (by decide +kernel) C_3_58 3 [.ref v1] (r := []) rfl (gd_o k_3 (by decide)) rfl (Nat.le_of_ble_eq_true rfl) (Nat.le_of_ble_eq_true rfl) (gD_isAtWord_ok (by omega) i1 e3) ?_
    obtain ⟨x4, g4, h⟩ := bd h
    have j4 : Ev (d + 1) 57 28 [] [] (uS L x4) o := by
      clear g4
      cases h
      obtain rfl : o = _ := ho
      exact Ev.vret D_57 (by decide +kernel)
    clear h
    refine Ev.if_ D_57 (c := .eq) (off := 10) (by decide +kernel) (t := 23) rfl (fun c4 => ?_) (fun c4 => ?_)
    · have c4 : p3 = 0 := of_decide_eq_true c4
      rw [if_pos c4] at g4
      refine Ev.seg D_57 [(.aload_n 0, 1), (.iconst 1, 1)] (by decide +kernel) (j := 0) (pc' := 25) (lv' := [(0, .ref 3), (1, .ref v1)]) (st' := [.int (1 : Int32), .ref 3]) rfl ?_
      obtain ⟨p5, e5, g4⟩ := bd g4
      refine Ev.callv D_57 E_59 (by decide +kernel) C_3_75 3 [.int (1 : Int32)] (r := []) rfl (gd_o k_3 (by decide)) rfl (Nat.le_of_ble_eq_true rfl) (Nat.le_of_ble_eq_true rfl) (gD_fail_ok (by omega)  e5) ?_
      cases g4
      exact Ev.sub2 j4 subL_nil
    · have c4 : ¬ p3 = 0 := of_decide_eq_false c4
      rw [if_neg c4] at g4
      refine Ev.seg D_57 [(.aload_n 0, 1)] (by decide +kernel) (j := 0) (pc' := 17) (lv' := [(0, .ref 3), (1, .ref v1)]) (st' := [.ref 3]) rfl ?_
      obtain ⟨p6, e6, g4⟩ := bd g4
      refine Ev.callv D_57 E_49 (by decide +kernel) C_3_44 3 [] (r := []) rfl (gd_o k_3 (by decide)) rfl (Nat.le_of_ble_eq_true rfl) (Nat.le_of_ble_eq_true rfl) (gD_takeToken_ok (by omega)  e6) ?_
      refine Ev.seg D_57 [(.goto 8, 3)] (by decide +kernel) (j := 0) (pc' := 28) (lv' := [(0, .ref 3), (1, .ref v1)]) (st' := []) rfl ?_
      cases g4
      exact Ev.sub2 j4 subL_nil
  · have c2 : ¬ (s.1 3 2) = 0 := of_decide_eq_false c2
    rw [if_neg c2] at h
    cases h
    obtain rfl : o = _ := ho
    exact Ev.vret D_57 (by decide +kernel)
/- Reader takeNumber: 60 -/
def gD_takeNumber (v1 : Int32) (v2 : Int32) (s : mT) : Option (Int32 × mT) :=
  if (s.1 3 2) = 0 then
    if (s.1 3 5) = (2 : Int32) then
      if (s.1 3 7) < v1 then
        (gD_fail (2 : Int32) s).bind fun p7 =>
        some (((0 : Int32), p7))
      else
        if (s.1 3 7) ≤ v2 then
          (gD_takeToken s).bind fun p10 =>
          some ((s.1 3 7, p10))
        else
          (gD_fail (2 : Int32) s).bind fun p12 =>
          some (((0 : Int32), p12))
    else
      (gD_fail (1 : Int32) s).bind fun p14 =>
      some (((0 : Int32), p14))
  else
    some (((0 : Int32), s))
set_option maxRecDepth 8000 in
theorem gD_takeNumber_ok {L d : Nat} (hd : 4 ≤ d) {v1 : Int32} {v2 : Int32} {s : mT} {p : Int32 × mT} (h : gD_takeNumber v1 v2 s = some p) : Ev d 60 0 [(0, .ref 3), (1, .int v1), (2, .int v2)] [] (uS L s) (some (.int p.1), uS L p.2) := by
  obtain ⟨d, rfl⟩ : ∃ e, d = e + 1 := ⟨d - 1, by omega⟩
  obtain ⟨o, ho⟩ : ∃ o : Option Value × mS, o = (some (.int p.1), uS L p.2) := ⟨_, rfl⟩
  rw [← ho]
  unfold gD_takeNumber at h
  refine Ev.seg D_60 [(.aload_n 0, 1)] (by decide +kernel) (j := 0) (pc' := 1) (lv' := [(0, .ref 3), (1, .int v1), (2, .int v2)]) (st' := [.ref 3]) rfl ?_
  refine Ev.getI D_60 (by decide +kernel) F_3_18 (Or.inl T_3_2) (S_oI k_3) ?_
  refine Ev.if_ D_60 (c := .eq) (off := 5) (by decide +kernel) (t := 9) rfl (fun c2 => ?_) (fun c2 => ?_)
  · have c2 : (s.1 3 2) = 0 := of_decide_eq_true c2
    rw [if_pos c2] at h
    refine Ev.seg D_60 [(.aload_n 0, 1)] (by decide +kernel) (j := 0) (pc' := 10) (lv' := [(0, .ref 3), (1, .int v1), (2, .int v2)]) (st' := [.ref 3]) rfl ?_
    refine Ev.getI D_60 (by decide +kernel) F_3_28 (Or.inl T_3_5) (S_oI k_3) ?_
    refine Ev.seg D_60 [(.iconst 2, 1)] (by decide +kernel) (j := 0) (pc' := 14) (lv' := [(0, .ref 3), (1, .int v1), (2, .int v2)]) (st' := [.int (2 : Int32), .int (s.1 3 5)]) rfl ?_
    refine Ev.icmp D_60 (c := .eq) (off := 10) (by decide +kernel) (t := 24) rfl (fun c4 => ?_) (fun c4 => ?_)
    · have c4 : (s.1 3 5) = (2 : Int32) := of_decide_eq_true c4
      rw [if_pos c4] at h
      refine Ev.seg D_60 [(.aload_n 0, 1)] (by decide +kernel) (j := 0) (pc' := 25) (lv' := [(0, .ref 3), (1, .int v1), (2, .int v2)]) (st' := [.ref 3]) rfl ?_
      refine Ev.getI D_60 (by decide +kernel) F_3_34 (Or.inl T_3_7) (S_oI k_3) ?_
      refine Ev.seg D_60 [(.istore_n 3, 1), (.iload_n 3, 1), (.iload_n 1, 1)] (by decide +kernel) (j := 0) (pc' := 31) (lv' := [(3, .int (s.1 3 7)), (0, .ref 3), (1, .int v1), (2, .int v2)]) (st' := [.int v1, .int (s.1 3 7)]) rfl ?_
      refine Ev.icmp D_60 (c := .lt) (off := 8) (by decide +kernel) (t := 39) rfl (fun c6 => ?_) (fun c6 => ?_)
      · have c6 : (s.1 3 7) < v1 := of_decide_eq_true c6
        rw [if_pos c6] at h
        refine Ev.seg D_60 [(.aload_n 0, 1), (.iconst 2, 1)] (by decide +kernel) (j := 0) (pc' := 41) (lv' := [(3, .int (s.1 3 7)), (0, .ref 3), (1, .int v1), (2, .int v2)]) (st' := [.int (2 : Int32), .ref 3]) rfl ?_
        obtain ⟨p7, e7, h⟩ := bd h
        refine Ev.callv D_60 E_59 (by decide +kernel) C_3_75 3 [.int (2 : Int32)] (r := []) rfl (gd_o k_3 (by decide)) rfl (Nat.le_of_ble_eq_true rfl) (Nat.le_of_ble_eq_true rfl) (gD_fail_ok (by omega)  e7) ?_
        refine Ev.seg D_60 [(.iconst 0, 1)] (by decide +kernel) (j := 0) (pc' := 45) (lv' := [(3, .int (s.1 3 7)), (0, .ref 3), (1, .int v1), (2, .int v2)]) (st' := [.int (0 : Int32)]) rfl ?_
        cases h
        obtain rfl : o = _ := ho
        exact Ev.iret D_60 (by decide +kernel)
      · have c6 : ¬ (s.1 3 7) < v1 := of_decide_eq_false c6
        rw [if_neg c6] at h
        refine Ev.seg D_60 [(.iload_n 3, 1), (.iload_n 2, 1)] (by decide +kernel) (j := 0) (pc' := 36) (lv' := [(3, .int (s.1 3 7)), (0, .ref 3), (1, .int v1), (2, .int v2)]) (st' := [.int v2, .int (s.1 3 7)]) rfl ?_
        refine Ev.icmp D_60 (c := .le) (off := 10) (by decide +kernel) (t := 46) rfl (fun c9 => ?_) (fun c9 => ?_)
        · have c9 : (s.1 3 7) ≤ v2 := of_decide_eq_true c9
          rw [if_pos c9] at h
          refine Ev.seg D_60 [(.aload_n 0, 1)] (by decide +kernel) (j := 0) (pc' := 47) (lv' := [(3, .int (s.1 3 7)), (0, .ref 3), (1, .int v1), (2, .int v2)]) (st' := [.ref 3]) rfl ?_
          obtain ⟨p10, e10, h⟩ := bd h
          refine Ev.callv D_60 E_49 (by decide +kernel) C_3_44 3 [] (r := []) rfl (gd_o k_3 (by decide)) rfl (Nat.le_of_ble_eq_true rfl) (Nat.le_of_ble_eq_true rfl) (gD_takeToken_ok (by omega)  e10) ?_
          refine Ev.seg D_60 [(.iload_n 3, 1)] (by decide +kernel) (j := 0) (pc' := 51) (lv' := [(3, .int (s.1 3 7)), (0, .ref 3), (1, .int v1), (2, .int v2)]) (st' := [.int (s.1 3 7)]) rfl ?_
          cases h
          obtain rfl : o = _ := ho
          exact Ev.iret D_60 (by decide +kernel)
        · have c9 : ¬ (s.1 3 7) ≤ v2 := of_decide_eq_false c9
          rw [if_neg c9] at h
          refine Ev.seg D_60 [(.aload_n 0, 1), (.iconst 2, 1)] (by decide +kernel) (j := 0) (pc' := 41) (lv' := [(3, .int (s.1 3 7)), (0, .ref 3), (1, .int v1), (2, .int v2)]) (st' := [.int (2 : Int32), .ref 3]) rfl ?_
          obtain ⟨p12, e12, h⟩ := bd h
          refine Ev.callv D_60 E_59 (by decide +kernel) C_3_75 3 [.int (2 : Int32)] (r := []) rfl (gd_o k_3 (by decide)) rfl (Nat.le_of_ble_eq_true rfl) (Nat.le_of_ble_eq_true rfl) (gD_fail_ok (by omega)  e12) ?_
          refine Ev.seg D_60 [(.iconst 0, 1)] (by decide +kernel) (j := 0) (pc' := 45) (lv' := [(3, .int (s.1 3 7)), (0, .ref 3), (1, .int v1), (2, .int v2)]) (st' := [.int (0 : Int32)]) rfl ?_
          cases h
          obtain rfl : o = _ := ho
          exact Ev.iret D_60 (by decide +kernel)
    · have c4 : ¬ (s.1 3 5) = (2 : Int32) := of_decide_eq_false c4
      rw [if_neg c4] at h
      refine Ev.seg D_60 [(.aload_n 0, 1), (.iconst 1, 1)] (by decide +kernel) (j := 0) (pc' := 19) (lv' := [(0, .ref 3), (1, .int v1), (2, .int v2)]) (st' := [.int (1 : Int32), .ref 3]) rfl ?_
      obtain ⟨p14, e14, h⟩ := bd h
      refine Ev.callv D_60 E_59 (by decide +kernel) C_3_75 3 [.int (1 : Int32)] (r := []) rfl (gd_o k_3 (by decide)) rfl (Nat.le_of_ble_eq_true rfl) (Nat.le_of_ble_eq_true rfl) (gD_fail_ok (by omega)  e14) ?_
      refine Ev.seg D_60 [(.iconst 0, 1)] (by decide +kernel) (j := 0) (pc' := 23) (lv' := [(0, .ref 3), (1, .int v1), (2, .int v2)]) (st' := [.int (0 : Int32)]) rfl ?_
      cases h
      obtain rfl : o = _ := ho
      exact Ev.iret D_60 (by decide +kernel)
  · have c2 : ¬ (s.1 3 2) = 0 := of_decide_eq_false c2
    rw [if_neg c2] at h
    refine Ev.seg D_60 [(.iconst 0, 1)] (by decide +kernel) (j := 0) (pc' := 8) (lv' := [(0, .ref 3), (1, .int v1), (2, .int v2)]) (st' := [.int (0 : Int32)]) rfl ?_
    cases h
    obtain rfl : o = _ := ho
    exact Ev.iret D_60 (by decide +kernel)
/- Reader readRaceLine: 56 -/
def gD_readRaceLine (s : mT) : Option (mT) :=
  (gD_takeWord (XB + 10) s).bind fun p2 =>
  (gD_takeWord (XB + 12) p2).bind fun p4 =>
  (gD_takeNumber (1 : Int32) (20 : Int32) p4).bind fun p6 =>
  (gD_takeWord (XB + 14) (stI p6.2 4 0 p6.1)).bind fun p9 =>
  (gD_takeNumber (0 : Int32) (3 : Int32) p9).bind fun p11 =>
  (gD_takeWord (XB + 16) (stI p11.2 4 1 p11.1)).bind fun p14 =>
  (gD_takeNumber (1 : Int32) (60 : Int32) p14).bind fun p16 =>
  (gD_takeWord (XB + 18) (stI p16.2 4 2 p16.1)).bind fun p19 =>
  (gD_takeNumber (0 : Int32) (10 : Int32) p19).bind fun p21 =>
  some ((stI p21.2 4 3 p21.1))
set_option maxRecDepth 8000 in
theorem gD_readRaceLine_ok {L d : Nat} (hd : 7 ≤ d) {s : mT} {p : mT} (h : gD_readRaceLine s = some p) : Ev d 56 0 [(0, .ref 3)] [] (uS L s) (none, uS L p) := by
  obtain ⟨d, rfl⟩ : ∃ e, d = e + 1 := ⟨d - 1, by omega⟩
  obtain ⟨o, ho⟩ : ∃ o : Option Value × mS, o = (none, uS L p) := ⟨_, rfl⟩
  rw [← ho]
  unfold gD_readRaceLine at h
  refine Ev.seg D_56 [(.aload_n 0, 1)] (by decide +kernel) (j := 0) (pc' := 1) (lv' := [(0, .ref 3)]) (st' := [.ref 3]) rfl ?_
  refine Ev.ldc D_56 (i := 79) (by decide +kernel) (v := .ref (XB + 10)) (by decide +kernel) ?_
  obtain ⟨p2, e2, h⟩ := bd h
  refine Ev.callv D_56 E_57 (by decide +kernel) C_3_81 3 [.ref (XB + 10)] (r := []) rfl (gd_o k_3 (by decide)) rfl (Nat.le_of_ble_eq_true rfl) (Nat.le_of_ble_eq_true rfl) (gD_takeWord_ok (by omega) (by decide) e2) ?_
  refine Ev.seg D_56 [(.aload_n 0, 1)] (by decide +kernel) (j := 0) (pc' := 7) (lv' := [(0, .ref 3)]) (st' := [.ref 3]) rfl ?_
  refine Ev.ldc D_56 (i := 85) (by decide +kernel) (v := .ref (XB + 12)) (by decide +kernel) ?_
  obtain ⟨p4, e4, h⟩ := bd h
  refine Ev.callv D_56 E_57 (by decide +kernel) C_3_81 3 [.ref (XB + 12)] (r := []) rfl (gd_o k_3 (by decide)) rfl (Nat.le_of_ble_eq_true rfl) (Nat.le_of_ble_eq_true rfl) (gD_takeWord_ok (by omega) (by decide) e4) ?_
  refine Ev.seg D_56 [(.aload_n 0, 1)] (by decide +kernel) (j := 0) (pc' := 13) (lv' := [(0, .ref 3)]) (st' := [.ref 3]) rfl ?_
  refine Ev.getR D_56 (by decide +kernel) F_3_12 T_3_1 (x := 4) (S_oR k_3 (by decide +kernel)) ?_
  refine Ev.seg D_56 [(.aload_n 0, 1), (.iconst 1, 1), (.bipush 20, 2)] (by decide +kernel) (j := 0) (pc' := 20) (lv' := [(0, .ref 3)]) (st' := [.int (20 : Int32), .int (1 : Int32), .ref 3, .ref 4]) rfl ?_
  obtain ⟨p6, e6, h⟩ := bd h
  refine Ev.callv D_56 E_60 (by decide +kernel) C_3_87 3 [.int (1 : Int32), .int (20 : Int32)] (r := [.ref 4]) rfl (gd_o k_3 (by decide)) rfl (Nat.le_of_ble_eq_true rfl) (Nat.le_of_ble_eq_true rfl) (gD_takeNumber_ok (by omega)  e6) ?_
  refine Ev.putI D_56 (by decide +kernel) F_3_91 N_2_0 T_2_0 (S_pI k_4) ?_
  refine Ev.seg D_56 [(.aload_n 0, 1)] (by decide +kernel) (j := 0) (pc' := 27) (lv' := [(0, .ref 3)]) (st' := [.ref 3]) rfl ?_
  refine Ev.ldc D_56 (i := 93) (by decide +kernel) (v := .ref (XB + 14)) (by decide +kernel) ?_
  obtain ⟨p9, e9, h⟩ := bd h
  refine Ev.callv D_56 E_57 (by decide +kernel) C_3_81 3 [.ref (XB + 14)] (r := []) rfl (gd_o k_3 (by decide)) rfl (Nat.le_of_ble_eq_true rfl) (Nat.le_of_ble_eq_true rfl) (gD_takeWord_ok (by omega) (by decide) e9) ?_
  refine Ev.seg D_56 [(.aload_n 0, 1)] (by decide +kernel) (j := 0) (pc' := 33) (lv' := [(0, .ref 3)]) (st' := [.ref 3]) rfl ?_
  refine Ev.getR D_56 (by decide +kernel) F_3_12 T_3_1 (x := 4) (S_oR k_3 (by decide +kernel)) ?_
  refine Ev.seg D_56 [(.aload_n 0, 1), (.iconst 0, 1), (.iconst 3, 1)] (by decide +kernel) (j := 0) (pc' := 39) (lv' := [(0, .ref 3)]) (st' := [.int (3 : Int32), .int (0 : Int32), .ref 3, .ref 4]) rfl ?_
  obtain ⟨p11, e11, h⟩ := bd h
  refine Ev.callv D_56 E_60 (by decide +kernel) C_3_87 3 [.int (0 : Int32), .int (3 : Int32)] (r := [.ref 4]) rfl (gd_o k_3 (by decide)) rfl (Nat.le_of_ble_eq_true rfl) (Nat.le_of_ble_eq_true rfl) (gD_takeNumber_ok (by omega)  e11) ?_
  refine Ev.putI D_56 (by decide +kernel) F_3_95 N_2_1 T_2_1 (S_pI k_4) ?_
  refine Ev.seg D_56 [(.aload_n 0, 1)] (by decide +kernel) (j := 0) (pc' := 46) (lv' := [(0, .ref 3)]) (st' := [.ref 3]) rfl ?_
  refine Ev.ldc D_56 (i := 97) (by decide +kernel) (v := .ref (XB + 16)) (by decide +kernel) ?_
  obtain ⟨p14, e14, h⟩ := bd h
  refine Ev.callv D_56 E_57 (by decide +kernel) C_3_81 3 [.ref (XB + 16)] (r := []) rfl (gd_o k_3 (by decide)) rfl (Nat.le_of_ble_eq_true rfl) (Nat.le_of_ble_eq_true rfl) (gD_takeWord_ok (by omega) (by decide) e14) ?_
  refine Ev.seg D_56 [(.aload_n 0, 1)] (by decide +kernel) (j := 0) (pc' := 52) (lv' := [(0, .ref 3)]) (st' := [.ref 3]) rfl ?_
  refine Ev.getR D_56 (by decide +kernel) F_3_12 T_3_1 (x := 4) (S_oR k_3 (by decide +kernel)) ?_
  refine Ev.seg D_56 [(.aload_n 0, 1), (.iconst 1, 1), (.bipush 60, 2)] (by decide +kernel) (j := 0) (pc' := 59) (lv' := [(0, .ref 3)]) (st' := [.int (60 : Int32), .int (1 : Int32), .ref 3, .ref 4]) rfl ?_
  obtain ⟨p16, e16, h⟩ := bd h
  refine Ev.callv D_56 E_60 (by decide +kernel) C_3_87 3 [.int (1 : Int32), .int (60 : Int32)] (r := [.ref 4]) rfl (gd_o k_3 (by decide)) rfl (Nat.le_of_ble_eq_true rfl) (Nat.le_of_ble_eq_true rfl) (gD_takeNumber_ok (by omega)  e16) ?_
  refine Ev.putI D_56 (by decide +kernel) F_3_99 N_2_2 T_2_2 (S_pI k_4) ?_
  refine Ev.seg D_56 [(.aload_n 0, 1)] (by decide +kernel) (j := 0) (pc' := 66) (lv' := [(0, .ref 3)]) (st' := [.ref 3]) rfl ?_
  refine Ev.ldc D_56 (i := 101) (by decide +kernel) (v := .ref (XB + 18)) (by decide +kernel) ?_
  obtain ⟨p19, e19, h⟩ := bd h
  refine Ev.callv D_56 E_57 (by decide +kernel) C_3_81 3 [.ref (XB + 18)] (r := []) rfl (gd_o k_3 (by decide)) rfl (Nat.le_of_ble_eq_true rfl) (Nat.le_of_ble_eq_true rfl) (gD_takeWord_ok (by omega) (by decide) e19) ?_
  refine Ev.seg D_56 [(.aload_n 0, 1)] (by decide +kernel) (j := 0) (pc' := 72) (lv' := [(0, .ref 3)]) (st' := [.ref 3]) rfl ?_
  refine Ev.getR D_56 (by decide +kernel) F_3_12 T_3_1 (x := 4) (S_oR k_3 (by decide +kernel)) ?_
  refine Ev.seg D_56 [(.aload_n 0, 1), (.iconst 0, 1), (.bipush 10, 2)] (by decide +kernel) (j := 0) (pc' := 79) (lv' := [(0, .ref 3)]) (st' := [.int (10 : Int32), .int (0 : Int32), .ref 3, .ref 4]) rfl ?_
  obtain ⟨p21, e21, h⟩ := bd h
  refine Ev.callv D_56 E_60 (by decide +kernel) C_3_87 3 [.int (0 : Int32), .int (10 : Int32)] (r := [.ref 4]) rfl (gd_o k_3 (by decide)) rfl (Nat.le_of_ble_eq_true rfl) (Nat.le_of_ble_eq_true rfl) (gD_takeNumber_ok (by omega)  e21) ?_
  refine Ev.putI D_56 (by decide +kernel) F_3_103 N_2_3 T_2_3 (S_pI k_4) ?_
  cases h
  obtain rfl : o = _ := ho
  exact Ev.vret D_56 (by decide +kernel)
/- Reader takeKind: 62 -/
def gD_takeKind (v1 : Int32) (s : mT) : Option (mT) :=
  (
    if v1 < (5 : Int32) then
      (gD_takeToken s).bind fun p2 =>
      some (p2)
    else
      (gD_fail (3 : Int32) s).bind fun p3 =>
      some (p3) : Option (mT)).bind fun x1 =>
  some (x1)
set_option maxRecDepth 8000 in
theorem gD_takeKind_ok {L d : Nat} (hd : 4 ≤ d) {v1 : Int32} {s : mT} {p : mT} (h : gD_takeKind v1 s = some p) : Ev d 62 0 [(0, .ref 3), (1, .int v1)] [] (uS L s) (none, uS L p) := by
  obtain ⟨d, rfl⟩ : ∃ e, d = e + 1 := ⟨d - 1, by omega⟩
  obtain ⟨o, ho⟩ : ∃ o : Option Value × mS, o = (none, uS L p) := ⟨_, rfl⟩
  rw [← ho]
  unfold gD_takeKind at h
  refine Ev.seg D_62 [(.iload_n 1, 1), (.iconst 5, 1)] (by decide +kernel) (j := 0) (pc' := 2) (lv' := [(0, .ref 3), (1, .int v1)]) (st' := [.int (5 : Int32), .int v1]) rfl ?_
  obtain ⟨x1, g1, h⟩ := bd h
  have j1 : Ev (d + 1) 62 17 [] [] (uS L x1) o := by
    clear g1
    cases h
    obtain rfl : o = _ := ho
    exact Ev.vret D_62 (by decide +kernel)
  clear h
  refine Ev.icmp D_62 (c := .lt) (off := 11) (by decide +kernel) (t := 13) rfl (fun c1 => ?_) (fun c1 => ?_)
  · have c1 : v1 < (5 : Int32) := of_decide_eq_true c1
    rw [if_pos c1] at g1
    refine Ev.seg D_62 [(.aload_n 0, 1)] (by decide +kernel) (j := 0) (pc' := 14) (lv' := [(0, .ref 3), (1, .int v1)]) (st' := [.ref 3]) rfl ?_
    obtain ⟨p2, e2, g1⟩ := bd g1
    refine Ev.callv D_62 E_49 (by decide +kernel) C_3_44 3 [] (r := []) rfl (gd_o k_3 (by decide)) rfl (Nat.le_of_ble_eq_true rfl) (Nat.le_of_ble_eq_true rfl) (gD_takeToken_ok (by omega)  e2) ?_
    cases g1
    exact Ev.sub2 j1 subL_nil
  · have c1 : ¬ v1 < (5 : Int32) := of_decide_eq_false c1
    rw [if_neg c1] at g1
    refine Ev.seg D_62 [(.aload_n 0, 1), (.iconst 3, 1)] (by decide +kernel) (j := 0) (pc' := 7) (lv' := [(0, .ref 3), (1, .int v1)]) (st' := [.int (3 : Int32), .ref 3]) rfl ?_
    obtain ⟨p3, e3, g1⟩ := bd g1
    refine Ev.callv D_62 E_59 (by decide +kernel) C_3_75 3 [.int (3 : Int32)] (r := []) rfl (gd_o k_3 (by decide)) rfl (Nat.le_of_ble_eq_true rfl) (Nat.le_of_ble_eq_true rfl) (gD_fail_ok (by omega)  e3) ?_
    refine Ev.seg D_62 [(.goto 7, 3)] (by decide +kernel) (j := 0) (pc' := 17) (lv' := [(0, .ref 3), (1, .int v1)]) (st' := []) rfl ?_
    cases g1
    exact Ev.sub2 j1 subL_nil
/- Reader readBoatLine: 61 -/
def gD_readBoatLine (s : mT) : Option (mT) :=
  (gD_takeKind (s.1 4 5) s).bind fun p3 =>
  (gD_takeWord (XB + 22) p3).bind fun p5 =>
  (gD_takeNumber (0 : Int32) (30 : Int32) p5).bind fun p6 =>
  (gD_takeWord (XB + 24) p6.2).bind fun p8 =>
  (gD_takeNumber (1 : Int32) (9 : Int32) p8).bind fun p9 =>
  (
    if (p9.2.1 3 2) = 0 then
      (gR_addBoat 4 p6.1 p9.1 p9.2).bind fun p13 =>
      some (p13)
    else
      some (p9.2) : Option (mT)).bind fun x11 =>
  some (x11)
set_option maxRecDepth 8000 in
theorem gD_readBoatLine_ok {L d : Nat} (hd : 7 ≤ d) {s : mT} {p : mT} (h : gD_readBoatLine s = some p) : Ev d 61 0 [(0, .ref 3)] [] (uS L s) (none, uS L p) := by
  obtain ⟨d, rfl⟩ : ∃ e, d = e + 1 := ⟨d - 1, by omega⟩
  obtain ⟨o, ho⟩ : ∃ o : Option Value × mS, o = (none, uS L p) := ⟨_, rfl⟩
  rw [← ho]
  unfold gD_readBoatLine at h
  refine Ev.seg D_61 [(.aload_n 0, 1), (.aload_n 0, 1)] (by decide +kernel) (j := 0) (pc' := 2) (lv' := [(0, .ref 3)]) (st' := [.ref 3, .ref 3]) rfl ?_
  refine Ev.getR D_61 (by decide +kernel) F_3_12 T_3_1 (x := 4) (S_oR k_3 (by decide +kernel)) ?_
  refine Ev.getI D_61 (by decide +kernel) F_3_105 (Or.inl T_2_5) (S_oI k_4) ?_
  obtain ⟨p3, e3, h⟩ := bd h
  refine Ev.callv D_61 E_62 (by decide +kernel) C_3_108 3 [.int (s.1 4 5)] (r := []) rfl (gd_o k_3 (by decide)) rfl (Nat.le_of_ble_eq_true rfl) (Nat.le_of_ble_eq_true rfl) (gD_takeKind_ok (by omega)  e3) ?_
  refine Ev.seg D_61 [(.aload_n 0, 1)] (by decide +kernel) (j := 0) (pc' := 12) (lv' := [(0, .ref 3)]) (st' := [.ref 3]) rfl ?_
  refine Ev.ldc D_61 (i := 111) (by decide +kernel) (v := .ref (XB + 22)) (by decide +kernel) ?_
  obtain ⟨p5, e5, h⟩ := bd h
  refine Ev.callv D_61 E_57 (by decide +kernel) C_3_81 3 [.ref (XB + 22)] (r := []) rfl (gd_o k_3 (by decide)) rfl (Nat.le_of_ble_eq_true rfl) (Nat.le_of_ble_eq_true rfl) (gD_takeWord_ok (by omega) (by decide) e5) ?_
  refine Ev.seg D_61 [(.aload_n 0, 1), (.iconst 0, 1), (.bipush 30, 2)] (by decide +kernel) (j := 0) (pc' := 21) (lv' := [(0, .ref 3)]) (st' := [.int (30 : Int32), .int (0 : Int32), .ref 3]) rfl ?_
  obtain ⟨p6, e6, h⟩ := bd h
  refine Ev.callv D_61 E_60 (by decide +kernel) C_3_87 3 [.int (0 : Int32), .int (30 : Int32)] (r := []) rfl (gd_o k_3 (by decide)) rfl (Nat.le_of_ble_eq_true rfl) (Nat.le_of_ble_eq_true rfl) (gD_takeNumber_ok (by omega)  e6) ?_
  refine Ev.seg D_61 [(.istore_n 1, 1), (.aload_n 0, 1)] (by decide +kernel) (j := 0) (pc' := 26) (lv' := [(1, .int p6.1), (0, .ref 3)]) (st' := [.ref 3]) rfl ?_
  refine Ev.ldc D_61 (i := 112) (by decide +kernel) (v := .ref (XB + 24)) (by decide +kernel) ?_
  obtain ⟨p8, e8, h⟩ := bd h
  refine Ev.callv D_61 E_57 (by decide +kernel) C_3_81 3 [.ref (XB + 24)] (r := []) rfl (gd_o k_3 (by decide)) rfl (Nat.le_of_ble_eq_true rfl) (Nat.le_of_ble_eq_true rfl) (gD_takeWord_ok (by omega) (by decide) e8) ?_
  refine Ev.seg D_61 [(.aload_n 0, 1), (.iconst 1, 1), (.bipush 9, 2)] (by decide +kernel) (j := 0) (pc' := 35) (lv' := [(1, .int p6.1), (0, .ref 3)]) (st' := [.int (9 : Int32), .int (1 : Int32), .ref 3]) rfl ?_
  obtain ⟨p9, e9, h⟩ := bd h
  refine Ev.callv D_61 E_60 (by decide +kernel) C_3_87 3 [.int (1 : Int32), .int (9 : Int32)] (r := []) rfl (gd_o k_3 (by decide)) rfl (Nat.le_of_ble_eq_true rfl) (Nat.le_of_ble_eq_true rfl) (gD_takeNumber_ok (by omega)  e9) ?_
  refine Ev.seg D_61 [(.istore_n 2, 1), (.aload_n 0, 1)] (by decide +kernel) (j := 0) (pc' := 40) (lv' := [(2, .int p9.1), (1, .int p6.1), (0, .ref 3)]) (st' := [.ref 3]) rfl ?_
  refine Ev.getI D_61 (by decide +kernel) F_3_18 (Or.inl T_3_2) (S_oI k_3) ?_
  obtain ⟨x11, g11, h⟩ := bd h
  have j11 : Ev (d + 1) 61 55 [] [] (uS L x11) o := by
    clear g11
    cases h
    obtain rfl : o = _ := ho
    exact Ev.vret D_61 (by decide +kernel)
  clear h
  refine Ev.if_ D_61 (c := .ne) (off := 12) (by decide +kernel) (t := 55) rfl (fun c11 => ?_) (fun c11 => ?_)
  · have c11 : ¬ (p9.2.1 3 2) = 0 := of_decide_eq_true c11
    rw [if_neg c11] at g11
    cases g11
    exact Ev.sub2 j11 subL_nil
  · have c11 : (p9.2.1 3 2) = 0 := Decidable.of_not_not (of_decide_eq_false c11)
    rw [if_pos c11] at g11
    refine Ev.seg D_61 [(.aload_n 0, 1)] (by decide +kernel) (j := 0) (pc' := 47) (lv' := [(2, .int p9.1), (1, .int p6.1), (0, .ref 3)]) (st' := [.ref 3]) rfl ?_
    refine Ev.getR D_61 (by decide +kernel) F_3_12 T_3_1 (x := 4) (S_oR k_3 (by decide +kernel)) ?_
    refine Ev.seg D_61 [(.iload_n 1, 1), (.iload_n 2, 1)] (by decide +kernel) (j := 0) (pc' := 52) (lv' := [(2, .int p9.1), (1, .int p6.1), (0, .ref 3)]) (st' := [.int p9.1, .int p6.1, .ref 4]) rfl ?_
    obtain ⟨p13, e13, g11⟩ := bd g11
    refine Ev.callv D_61 E_35 (by decide +kernel) C_3_114 4 [.int p6.1, .int p9.1] (r := []) rfl (gd_o k_4 (by decide)) rfl (Nat.le_of_ble_eq_true rfl) (Nat.le_of_ble_eq_true rfl) (gR_addBoat_ok (by omega) (by decide) e13) ?_
    cases g11
    exact Ev.sub2 j11 subL_nil
/- Reader readWatcherLine: 63 -/
def gD_readWatcherLine (s : mT) : Option (mT) :=
  (gD_takeKind (s.1 4 6) s).bind fun p3 =>
  (gD_takeWord (XB + 28) p3).bind fun p5 =>
  (gD_takeNumber (1 : Int32) (9 : Int32) p5).bind fun p6 =>
  (gD_takeWord (XB + 30) p6.2).bind fun p8 =>
  (gD_takeNumber (0 : Int32) ((p8.1 4 5) - (1 : Int32)) p8).bind fun p11 =>
  (gD_takeWord (XB + 32) p11.2).bind fun p13 =>
  (gD_takeNumber p11.1 ((p13.1 4 5) - (1 : Int32)) p13).bind fun p16 =>
  (gD_takeWord (XB + 34) p16.2).bind fun p18 =>
  (gD_takeNumber p11.1 p16.1 p18).bind fun p19 =>
  (
    if (p19.2.1 3 2) = 0 then
      (gR_addWatcher 4 p6.1 p11.1 p16.1 p19.1 p19.2).bind fun p23 =>
      some (p23)
    else
      some (p19.2) : Option (mT)).bind fun x21 =>
  some (x21)
set_option maxRecDepth 8000 in
theorem gD_readWatcherLine_ok {L d : Nat} (hd : 7 ≤ d) {s : mT} {p : mT} (h : gD_readWatcherLine s = some p) : Ev d 63 0 [(0, .ref 3)] [] (uS L s) (none, uS L p) := by
  obtain ⟨d, rfl⟩ : ∃ e, d = e + 1 := ⟨d - 1, by omega⟩
  obtain ⟨o, ho⟩ : ∃ o : Option Value × mS, o = (none, uS L p) := ⟨_, rfl⟩
  rw [← ho]
  unfold gD_readWatcherLine at h
  refine Ev.seg D_63 [(.aload_n 0, 1), (.aload_n 0, 1)] (by decide +kernel) (j := 0) (pc' := 2) (lv' := [(0, .ref 3)]) (st' := [.ref 3, .ref 3]) rfl ?_
  refine Ev.getR D_63 (by decide +kernel) F_3_12 T_3_1 (x := 4) (S_oR k_3 (by decide +kernel)) ?_
  refine Ev.getI D_63 (by decide +kernel) F_3_118 (Or.inl T_2_6) (S_oI k_4) ?_
  obtain ⟨p3, e3, h⟩ := bd h
  refine Ev.callv D_63 E_62 (by decide +kernel) C_3_108 3 [.int (s.1 4 6)] (r := []) rfl (gd_o k_3 (by decide)) rfl (Nat.le_of_ble_eq_true rfl) (Nat.le_of_ble_eq_true rfl) (gD_takeKind_ok (by omega)  e3) ?_
  refine Ev.seg D_63 [(.aload_n 0, 1)] (by decide +kernel) (j := 0) (pc' := 12) (lv' := [(0, .ref 3)]) (st' := [.ref 3]) rfl ?_
  refine Ev.ldc D_63 (i := 121) (by decide +kernel) (v := .ref (XB + 28)) (by decide +kernel) ?_
  obtain ⟨p5, e5, h⟩ := bd h
  refine Ev.callv D_63 E_57 (by decide +kernel) C_3_81 3 [.ref (XB + 28)] (r := []) rfl (gd_o k_3 (by decide)) rfl (Nat.le_of_ble_eq_true rfl) (Nat.le_of_ble_eq_true rfl) (gD_takeWord_ok (by omega) (by decide) e5) ?_
  refine Ev.seg D_63 [(.aload_n 0, 1), (.iconst 1, 1), (.bipush 9, 2)] (by decide +kernel) (j := 0) (pc' := 21) (lv' := [(0, .ref 3)]) (st' := [.int (9 : Int32), .int (1 : Int32), .ref 3]) rfl ?_
  obtain ⟨p6, e6, h⟩ := bd h
  refine Ev.callv D_63 E_60 (by decide +kernel) C_3_87 3 [.int (1 : Int32), .int (9 : Int32)] (r := []) rfl (gd_o k_3 (by decide)) rfl (Nat.le_of_ble_eq_true rfl) (Nat.le_of_ble_eq_true rfl) (gD_takeNumber_ok (by omega)  e6) ?_
  refine Ev.seg D_63 [(.istore_n 1, 1), (.aload_n 0, 1)] (by decide +kernel) (j := 0) (pc' := 26) (lv' := [(1, .int p6.1), (0, .ref 3)]) (st' := [.ref 3]) rfl ?_
  refine Ev.ldc D_63 (i := 123) (by decide +kernel) (v := .ref (XB + 30)) (by decide +kernel) ?_
  obtain ⟨p8, e8, h⟩ := bd h
  refine Ev.callv D_63 E_57 (by decide +kernel) C_3_81 3 [.ref (XB + 30)] (r := []) rfl (gd_o k_3 (by decide)) rfl (Nat.le_of_ble_eq_true rfl) (Nat.le_of_ble_eq_true rfl) (gD_takeWord_ok (by omega) (by decide) e8) ?_
  refine Ev.seg D_63 [(.aload_n 0, 1), (.iconst 0, 1), (.aload_n 0, 1)] (by decide +kernel) (j := 0) (pc' := 34) (lv' := [(1, .int p6.1), (0, .ref 3)]) (st' := [.ref 3, .int (0 : Int32), .ref 3]) rfl ?_
  refine Ev.getR D_63 (by decide +kernel) F_3_12 T_3_1 (x := 4) (S_oR k_3 (by decide +kernel)) ?_
  refine Ev.getI D_63 (by decide +kernel) F_3_105 (Or.inl T_2_5) (S_oI k_4) ?_
  refine Ev.seg D_63 [(.iconst 1, 1), (.isub, 1)] (by decide +kernel) (j := 0) (pc' := 42) (lv' := [(1, .int p6.1), (0, .ref 3)]) (st' := [.int ((p8.1 4 5) - (1 : Int32)), .int (0 : Int32), .ref 3]) rfl ?_
  obtain ⟨p11, e11, h⟩ := bd h
  refine Ev.callv D_63 E_60 (by decide +kernel) C_3_87 3 [.int (0 : Int32), .int ((p8.1 4 5) - (1 : Int32))] (r := []) rfl (gd_o k_3 (by decide)) rfl (Nat.le_of_ble_eq_true rfl) (Nat.le_of_ble_eq_true rfl) (gD_takeNumber_ok (by omega)  e11) ?_
  refine Ev.seg D_63 [(.istore_n 2, 1), (.aload_n 0, 1)] (by decide +kernel) (j := 0) (pc' := 47) (lv' := [(2, .int p11.1), (1, .int p6.1), (0, .ref 3)]) (st' := [.ref 3]) rfl ?_
  refine Ev.ldc D_63 (i := 125) (by decide +kernel) (v := .ref (XB + 32)) (by decide +kernel) ?_
  obtain ⟨p13, e13, h⟩ := bd h
  refine Ev.callv D_63 E_57 (by decide +kernel) C_3_81 3 [.ref (XB + 32)] (r := []) rfl (gd_o k_3 (by decide)) rfl (Nat.le_of_ble_eq_true rfl) (Nat.le_of_ble_eq_true rfl) (gD_takeWord_ok (by omega) (by decide) e13) ?_
  refine Ev.seg D_63 [(.aload_n 0, 1), (.iload_n 2, 1), (.aload_n 0, 1)] (by decide +kernel) (j := 0) (pc' := 55) (lv' := [(2, .int p11.1), (1, .int p6.1), (0, .ref 3)]) (st' := [.ref 3, .int p11.1, .ref 3]) rfl ?_
  refine Ev.getR D_63 (by decide +kernel) F_3_12 T_3_1 (x := 4) (S_oR k_3 (by decide +kernel)) ?_
  refine Ev.getI D_63 (by decide +kernel) F_3_105 (Or.inl T_2_5) (S_oI k_4) ?_
  refine Ev.seg D_63 [(.iconst 1, 1), (.isub, 1)] (by decide +kernel) (j := 0) (pc' := 63) (lv' := [(2, .int p11.1), (1, .int p6.1), (0, .ref 3)]) (st' := [.int ((p13.1 4 5) - (1 : Int32)), .int p11.1, .ref 3]) rfl ?_
  obtain ⟨p16, e16, h⟩ := bd h
  refine Ev.callv D_63 E_60 (by decide +kernel) C_3_87 3 [.int p11.1, .int ((p13.1 4 5) - (1 : Int32))] (r := []) rfl (gd_o k_3 (by decide)) rfl (Nat.le_of_ble_eq_true rfl) (Nat.le_of_ble_eq_true rfl) (gD_takeNumber_ok (by omega)  e16) ?_
  refine Ev.seg D_63 [(.istore_n 3, 1), (.aload_n 0, 1)] (by decide +kernel) (j := 0) (pc' := 68) (lv' := [(3, .int p16.1), (2, .int p11.1), (1, .int p6.1), (0, .ref 3)]) (st' := [.ref 3]) rfl ?_
  refine Ev.ldc D_63 (i := 127) (by decide +kernel) (v := .ref (XB + 34)) (by decide +kernel) ?_
  obtain ⟨p18, e18, h⟩ := bd h
  refine Ev.callv D_63 E_57 (by decide +kernel) C_3_81 3 [.ref (XB + 34)] (r := []) rfl (gd_o k_3 (by decide)) rfl (Nat.le_of_ble_eq_true rfl) (Nat.le_of_ble_eq_true rfl) (gD_takeWord_ok (by omega) (by decide) e18) ?_
  refine Ev.seg D_63 [(.aload_n 0, 1), (.iload_n 2, 1), (.iload_n 3, 1)] (by decide +kernel) (j := 0) (pc' := 76) (lv' := [(3, .int p16.1), (2, .int p11.1), (1, .int p6.1), (0, .ref 3)]) (st' := [.int p16.1, .int p11.1, .ref 3]) rfl ?_
  obtain ⟨p19, e19, h⟩ := bd h
  refine Ev.callv D_63 E_60 (by decide +kernel) C_3_87 3 [.int p11.1, .int p16.1] (r := []) rfl (gd_o k_3 (by decide)) rfl (Nat.le_of_ble_eq_true rfl) (Nat.le_of_ble_eq_true rfl) (gD_takeNumber_ok (by omega)  e19) ?_
  refine Ev.seg D_63 [(.istore 4, 2), (.aload_n 0, 1)] (by decide +kernel) (j := 0) (pc' := 82) (lv' := [(4, .int p19.1), (3, .int p16.1), (2, .int p11.1), (1, .int p6.1), (0, .ref 3)]) (st' := [.ref 3]) rfl ?_
  refine Ev.getI D_63 (by decide +kernel) F_3_18 (Or.inl T_3_2) (S_oI k_3) ?_
  obtain ⟨x21, g21, h⟩ := bd h
  have j21 : Ev (d + 1) 63 100 [] [] (uS L x21) o := by
    clear g21
    cases h
    obtain rfl : o = _ := ho
    exact Ev.vret D_63 (by decide +kernel)
  clear h
  refine Ev.if_ D_63 (c := .ne) (off := 15) (by decide +kernel) (t := 100) rfl (fun c21 => ?_) (fun c21 => ?_)
  · have c21 : ¬ (p19.2.1 3 2) = 0 := of_decide_eq_true c21
    rw [if_neg c21] at g21
    cases g21
    exact Ev.sub2 j21 subL_nil
  · have c21 : (p19.2.1 3 2) = 0 := Decidable.of_not_not (of_decide_eq_false c21)
    rw [if_pos c21] at g21
    refine Ev.seg D_63 [(.aload_n 0, 1)] (by decide +kernel) (j := 0) (pc' := 89) (lv' := [(4, .int p19.1), (3, .int p16.1), (2, .int p11.1), (1, .int p6.1), (0, .ref 3)]) (st' := [.ref 3]) rfl ?_
    refine Ev.getR D_63 (by decide +kernel) F_3_12 T_3_1 (x := 4) (S_oR k_3 (by decide +kernel)) ?_
    refine Ev.seg D_63 [(.iload_n 1, 1), (.iload_n 2, 1), (.iload_n 3, 1), (.iload 4, 2)] (by decide +kernel) (j := 0) (pc' := 97) (lv' := [(4, .int p19.1), (3, .int p16.1), (2, .int p11.1), (1, .int p6.1), (0, .ref 3)]) (st' := [.int p19.1, .int p16.1, .int p11.1, .int p6.1, .ref 4]) rfl ?_
    obtain ⟨p23, e23, g21⟩ := bd g21
    refine Ev.callv D_63 E_36 (by decide +kernel) C_3_129 4 [.int p6.1, .int p11.1, .int p16.1, .int p19.1] (r := []) rfl (gd_o k_4 (by decide)) rfl (Nat.le_of_ble_eq_true rfl) (Nat.le_of_ble_eq_true rfl) (gR_addWatcher_ok (by omega) (by decide) e23) ?_
    cases g21
    exact Ev.sub2 j21 subL_nil
/- Reader readShowLine: 64 -/
def gD_readShowLine (s : mT) : Option (mT) :=
  (gD_takeKind (s.1 4 7) s).bind fun p3 =>
  (gD_takeNumber (1 : Int32) (9 : Int32) p3).bind fun p4 =>
  (gD_takeWord (XB + 22) p4.2).bind fun p6 =>
  (gD_takeNumber (0 : Int32) (19 : Int32) p6).bind fun p7 =>
  (
    if (p7.2.1 3 2) = 0 then
      (gR_addShow 4 p4.1 p7.1 p7.2).bind fun p11 =>
      some (p11)
    else
      some (p7.2) : Option (mT)).bind fun x9 =>
  some (x9)
set_option maxRecDepth 8000 in
theorem gD_readShowLine_ok {L d : Nat} (hd : 7 ≤ d) {s : mT} {p : mT} (h : gD_readShowLine s = some p) : Ev d 64 0 [(0, .ref 3)] [] (uS L s) (none, uS L p) := by
  obtain ⟨d, rfl⟩ : ∃ e, d = e + 1 := ⟨d - 1, by omega⟩
  obtain ⟨o, ho⟩ : ∃ o : Option Value × mS, o = (none, uS L p) := ⟨_, rfl⟩
  rw [← ho]
  unfold gD_readShowLine at h
  refine Ev.seg D_64 [(.aload_n 0, 1), (.aload_n 0, 1)] (by decide +kernel) (j := 0) (pc' := 2) (lv' := [(0, .ref 3)]) (st' := [.ref 3, .ref 3]) rfl ?_
  refine Ev.getR D_64 (by decide +kernel) F_3_12 T_3_1 (x := 4) (S_oR k_3 (by decide +kernel)) ?_
  refine Ev.getI D_64 (by decide +kernel) F_3_133 (Or.inl T_2_7) (S_oI k_4) ?_
  obtain ⟨p3, e3, h⟩ := bd h
  refine Ev.callv D_64 E_62 (by decide +kernel) C_3_108 3 [.int (s.1 4 7)] (r := []) rfl (gd_o k_3 (by decide)) rfl (Nat.le_of_ble_eq_true rfl) (Nat.le_of_ble_eq_true rfl) (gD_takeKind_ok (by omega)  e3) ?_
  refine Ev.seg D_64 [(.aload_n 0, 1), (.iconst 1, 1), (.bipush 9, 2)] (by decide +kernel) (j := 0) (pc' := 15) (lv' := [(0, .ref 3)]) (st' := [.int (9 : Int32), .int (1 : Int32), .ref 3]) rfl ?_
  obtain ⟨p4, e4, h⟩ := bd h
  refine Ev.callv D_64 E_60 (by decide +kernel) C_3_87 3 [.int (1 : Int32), .int (9 : Int32)] (r := []) rfl (gd_o k_3 (by decide)) rfl (Nat.le_of_ble_eq_true rfl) (Nat.le_of_ble_eq_true rfl) (gD_takeNumber_ok (by omega)  e4) ?_
  refine Ev.seg D_64 [(.istore_n 1, 1), (.aload_n 0, 1)] (by decide +kernel) (j := 0) (pc' := 20) (lv' := [(1, .int p4.1), (0, .ref 3)]) (st' := [.ref 3]) rfl ?_
  refine Ev.ldc D_64 (i := 111) (by decide +kernel) (v := .ref (XB + 22)) (by decide +kernel) ?_
  obtain ⟨p6, e6, h⟩ := bd h
  refine Ev.callv D_64 E_57 (by decide +kernel) C_3_81 3 [.ref (XB + 22)] (r := []) rfl (gd_o k_3 (by decide)) rfl (Nat.le_of_ble_eq_true rfl) (Nat.le_of_ble_eq_true rfl) (gD_takeWord_ok (by omega) (by decide) e6) ?_
  refine Ev.seg D_64 [(.aload_n 0, 1), (.iconst 0, 1), (.bipush 19, 2)] (by decide +kernel) (j := 0) (pc' := 29) (lv' := [(1, .int p4.1), (0, .ref 3)]) (st' := [.int (19 : Int32), .int (0 : Int32), .ref 3]) rfl ?_
  obtain ⟨p7, e7, h⟩ := bd h
  refine Ev.callv D_64 E_60 (by decide +kernel) C_3_87 3 [.int (0 : Int32), .int (19 : Int32)] (r := []) rfl (gd_o k_3 (by decide)) rfl (Nat.le_of_ble_eq_true rfl) (Nat.le_of_ble_eq_true rfl) (gD_takeNumber_ok (by omega)  e7) ?_
  refine Ev.seg D_64 [(.istore_n 2, 1), (.aload_n 0, 1)] (by decide +kernel) (j := 0) (pc' := 34) (lv' := [(2, .int p7.1), (1, .int p4.1), (0, .ref 3)]) (st' := [.ref 3]) rfl ?_
  refine Ev.getI D_64 (by decide +kernel) F_3_18 (Or.inl T_3_2) (S_oI k_3) ?_
  obtain ⟨x9, g9, h⟩ := bd h
  have j9 : Ev (d + 1) 64 49 [] [] (uS L x9) o := by
    clear g9
    cases h
    obtain rfl : o = _ := ho
    exact Ev.vret D_64 (by decide +kernel)
  clear h
  refine Ev.if_ D_64 (c := .ne) (off := 12) (by decide +kernel) (t := 49) rfl (fun c9 => ?_) (fun c9 => ?_)
  · have c9 : ¬ (p7.2.1 3 2) = 0 := of_decide_eq_true c9
    rw [if_neg c9] at g9
    cases g9
    exact Ev.sub2 j9 subL_nil
  · have c9 : (p7.2.1 3 2) = 0 := Decidable.of_not_not (of_decide_eq_false c9)
    rw [if_pos c9] at g9
    refine Ev.seg D_64 [(.aload_n 0, 1)] (by decide +kernel) (j := 0) (pc' := 41) (lv' := [(2, .int p7.1), (1, .int p4.1), (0, .ref 3)]) (st' := [.ref 3]) rfl ?_
    refine Ev.getR D_64 (by decide +kernel) F_3_12 T_3_1 (x := 4) (S_oR k_3 (by decide +kernel)) ?_
    refine Ev.seg D_64 [(.iload_n 1, 1), (.iload_n 2, 1)] (by decide +kernel) (j := 0) (pc' := 46) (lv' := [(2, .int p7.1), (1, .int p4.1), (0, .ref 3)]) (st' := [.int p7.1, .int p4.1, .ref 4]) rfl ?_
    obtain ⟨p11, e11, g9⟩ := bd g9
    refine Ev.callv D_64 E_37 (by decide +kernel) C_3_136 4 [.int p4.1, .int p7.1] (r := []) rfl (gd_o k_4 (by decide)) rfl (Nat.le_of_ble_eq_true rfl) (Nat.le_of_ble_eq_true rfl) (gR_addShow_ok (by omega) (by decide) e11) ?_
    cases g9
    exact Ev.sub2 j9 subL_nil
/- Reader readLine: 55 -/
def gD_readLine (s : mT) : Option (mT) :=
  (
    if (s.1 4 4) = 0 then
      (gD_readRaceLine s).bind fun p17 =>
      some (p17)
    else
      (gD_isAtWord (XB + 20) s).bind fun p5 =>
      if p5 = 0 then
        (gD_isAtWord (XB + 26) s).bind fun p8 =>
        if p8 = 0 then
          (gD_isAtWord (XB + 36) s).bind fun p11 =>
          if p11 = 0 then
            (gD_fail (1 : Int32) s).bind fun p13 =>
            some (p13)
          else
            (gD_readShowLine s).bind fun p14 =>
            some (p14)
        else
          (gD_readWatcherLine s).bind fun p15 =>
          some (p15)
      else
        (gD_readBoatLine s).bind fun p16 =>
        some (p16) : Option (mT)).bind fun x3 =>
  (
    if (x3.1 3 2) = 0 then
      if (x3.1 3 5) = (3 : Int32) then
        some (x3)
      else
        (gD_fail (1 : Int32) x3).bind fun p22 =>
        some (p22)
    else
      some (x3) : Option (mT)).bind fun x19 =>
  (
    if (x19.1 3 2) = 0 then
      (gD_takeToken (stI x19 4 4 ((x19.1 4 4) + (1 : Int32)))).bind fun p28 =>
      some (p28)
    else
      some (x19) : Option (mT)).bind fun x24 =>
  some (x24)
set_option maxRecDepth 8000 in
theorem gD_readLine_ok {L d : Nat} (hd : 8 ≤ d) {s : mT} {p : mT} (h : gD_readLine s = some p) : Ev d 55 0 [(0, .ref 3)] [] (uS L s) (none, uS L p) := by
  obtain ⟨d, rfl⟩ : ∃ e, d = e + 1 := ⟨d - 1, by omega⟩
  obtain ⟨o, ho⟩ : ∃ o : Option Value × mS, o = (none, uS L p) := ⟨_, rfl⟩
  rw [← ho]
  unfold gD_readLine at h
  refine Ev.seg D_55 [(.aload_n 0, 1)] (by decide +kernel) (j := 0) (pc' := 1) (lv' := [(0, .ref 3)]) (st' := [.ref 3]) rfl ?_
  refine Ev.getR D_55 (by decide +kernel) F_3_12 T_3_1 (x := 4) (S_oR k_3 (by decide +kernel)) ?_
  refine Ev.getI D_55 (by decide +kernel) F_3_50 (Or.inl T_2_4) (S_oI k_4) ?_
  obtain ⟨x3, g3, h⟩ := bd h
  have j3 : Ev (d + 1) 55 70 [(0, .ref 3)] [] (uS L x3) o := by
    clear g3
    refine Ev.seg D_55 [(.aload_n 0, 1)] (by decide +kernel) (j := 0) (pc' := 71) (lv' := [(0, .ref 3)]) (st' := [.ref 3]) rfl ?_
    refine Ev.getI D_55 (by decide +kernel) F_3_18 (Or.inl T_3_2) (S_oI k_3) ?_
    obtain ⟨x19, g19, h⟩ := bd h
    have j19 : Ev (d + 1) 55 90 [(0, .ref 3)] [] (uS L x19) o := by
      clear g19
      refine Ev.seg D_55 [(.aload_n 0, 1)] (by decide +kernel) (j := 0) (pc' := 91) (lv' := [(0, .ref 3)]) (st' := [.ref 3]) rfl ?_
      refine Ev.getI D_55 (by decide +kernel) F_3_18 (Or.inl T_3_2) (S_oI k_3) ?_
      obtain ⟨x24, g24, h⟩ := bd h
      have j24 : Ev (d + 1) 55 114 [] [] (uS L x24) o := by
        clear g24
        cases h
        obtain rfl : o = _ := ho
        exact Ev.vret D_55 (by decide +kernel)
      clear h
      refine Ev.if_ D_55 (c := .ne) (off := 20) (by decide +kernel) (t := 114) rfl (fun c24 => ?_) (fun c24 => ?_)
      · have c24 : ¬ (x19.1 3 2) = 0 := of_decide_eq_true c24
        rw [if_neg c24] at g24
        cases g24
        exact Ev.sub2 j24 subL_nil
      · have c24 : (x19.1 3 2) = 0 := Decidable.of_not_not (of_decide_eq_false c24)
        rw [if_pos c24] at g24
        refine Ev.seg D_55 [(.aload_n 0, 1)] (by decide +kernel) (j := 0) (pc' := 98) (lv' := [(0, .ref 3)]) (st' := [.ref 3]) rfl ?_
        refine Ev.getR D_55 (by decide +kernel) F_3_12 T_3_1 (x := 4) (S_oR k_3 (by decide +kernel)) ?_
        refine Ev.seg D_55 [(.dup, 1)] (by decide +kernel) (j := 0) (pc' := 102) (lv' := [(0, .ref 3)]) (st' := [.ref 4, .ref 4]) rfl ?_
        refine Ev.getI D_55 (by decide +kernel) F_3_50 (Or.inl T_2_4) (S_oI k_4) ?_
        refine Ev.seg D_55 [(.iconst 1, 1), (.iadd, 1)] (by decide +kernel) (j := 0) (pc' := 107) (lv' := [(0, .ref 3)]) (st' := [.int ((x19.1 4 4) + (1 : Int32)), .ref 4]) rfl ?_
        refine Ev.putI D_55 (by decide +kernel) F_3_50 N_2_4 T_2_4 (S_pI k_4) ?_
        refine Ev.seg D_55 [(.aload_n 0, 1)] (by decide +kernel) (j := 0) (pc' := 111) (lv' := [(0, .ref 3)]) (st' := [.ref 3]) rfl ?_
        obtain ⟨p28, e28, g24⟩ := bd g24
        refine Ev.callv D_55 E_49 (by decide +kernel) C_3_44 3 [] (r := []) rfl (gd_o k_3 (by decide)) rfl (Nat.le_of_ble_eq_true rfl) (Nat.le_of_ble_eq_true rfl) (gD_takeToken_ok (by omega)  e28) ?_
        cases g24
        exact Ev.sub2 j24 subL_nil
    clear h
    refine Ev.if_ D_55 (c := .ne) (off := 16) (by decide +kernel) (t := 90) rfl (fun c19 => ?_) (fun c19 => ?_)
    · have c19 : ¬ (x3.1 3 2) = 0 := of_decide_eq_true c19
      rw [if_neg c19] at g19
      cases g19
      exact Ev.sub2 j19 (subL_cons rfl subL_nil)
    · have c19 : (x3.1 3 2) = 0 := Decidable.of_not_not (of_decide_eq_false c19)
      rw [if_pos c19] at g19
      refine Ev.seg D_55 [(.aload_n 0, 1)] (by decide +kernel) (j := 0) (pc' := 78) (lv' := [(0, .ref 3)]) (st' := [.ref 3]) rfl ?_
      refine Ev.getI D_55 (by decide +kernel) F_3_28 (Or.inl T_3_5) (S_oI k_3) ?_
      refine Ev.seg D_55 [(.iconst 3, 1)] (by decide +kernel) (j := 0) (pc' := 82) (lv' := [(0, .ref 3)]) (st' := [.int (3 : Int32), .int (x3.1 3 5)]) rfl ?_
      refine Ev.icmp D_55 (c := .eq) (off := 8) (by decide +kernel) (t := 90) rfl (fun c21 => ?_) (fun c21 => ?_)
      · have c21 : (x3.1 3 5) = (3 : Int32) := of_decide_eq_true c21
        rw [if_pos c21] at g19
        cases g19
        exact Ev.sub2 j19 (subL_cons rfl subL_nil)
      · have c21 : ¬ (x3.1 3 5) = (3 : Int32) := of_decide_eq_false c21
        rw [if_neg c21] at g19
        refine Ev.seg D_55 [(.aload_n 0, 1), (.iconst 1, 1)] (by decide +kernel) (j := 0) (pc' := 87) (lv' := [(0, .ref 3)]) (st' := [.int (1 : Int32), .ref 3]) rfl ?_
        obtain ⟨p22, e22, g19⟩ := bd g19
        refine Ev.callv D_55 E_59 (by decide +kernel) C_3_75 3 [.int (1 : Int32)] (r := []) rfl (gd_o k_3 (by decide)) rfl (Nat.le_of_ble_eq_true rfl) (Nat.le_of_ble_eq_true rfl) (gD_fail_ok (by omega)  e22) ?_
        cases g19
        exact Ev.sub2 j19 (subL_cons rfl subL_nil)
  clear h
  refine Ev.if_ D_55 (c := .ne) (off := 10) (by decide +kernel) (t := 17) rfl (fun c3 => ?_) (fun c3 => ?_)
  · have c3 : ¬ (s.1 4 4) = 0 := of_decide_eq_true c3
    rw [if_neg c3] at g3
    refine Ev.seg D_55 [(.aload_n 0, 1)] (by decide +kernel) (j := 0) (pc' := 18) (lv' := [(0, .ref 3)]) (st' := [.ref 3]) rfl ?_
    refine Ev.ldc D_55 (i := 56) (by decide +kernel) (v := .ref (XB + 20)) (by decide +kernel) ?_
    obtain ⟨p5, e5, g3⟩ := bd g3
    refine Ev.callv D_55 E_58 (by decide +kernel) C_3_58 3 [.ref (XB + 20)] (r := []) rfl (gd_o k_3 (by decide)) rfl (Nat.le_of_ble_eq_true rfl) (Nat.le_of_ble_eq_true rfl) (gD_isAtWord_ok (by omega) (by decide) e5) ?_
    refine Ev.if_ D_55 (c := .eq) (off := 10) (by decide +kernel) (t := 33) rfl (fun c6 => ?_) (fun c6 => ?_)
    · have c6 : p5 = 0 := of_decide_eq_true c6
      rw [if_pos c6] at g3
      refine Ev.seg D_55 [(.aload_n 0, 1)] (by decide +kernel) (j := 0) (pc' := 34) (lv' := [(0, .ref 3)]) (st' := [.ref 3]) rfl ?_
      refine Ev.ldc D_55 (i := 65) (by decide +kernel) (v := .ref (XB + 26)) (by decide +kernel) ?_
      obtain ⟨p8, e8, g3⟩ := bd g3
      refine Ev.callv D_55 E_58 (by decide +kernel) C_3_58 3 [.ref (XB + 26)] (r := []) rfl (gd_o k_3 (by decide)) rfl (Nat.le_of_ble_eq_true rfl) (Nat.le_of_ble_eq_true rfl) (gD_isAtWord_ok (by omega) (by decide) e8) ?_
      refine Ev.if_ D_55 (c := .eq) (off := 10) (by decide +kernel) (t := 49) rfl (fun c9 => ?_) (fun c9 => ?_)
      · have c9 : p8 = 0 := of_decide_eq_true c9
        rw [if_pos c9] at g3
        refine Ev.seg D_55 [(.aload_n 0, 1)] (by decide +kernel) (j := 0) (pc' := 50) (lv' := [(0, .ref 3)]) (st' := [.ref 3]) rfl ?_
        refine Ev.ldc D_55 (i := 70) (by decide +kernel) (v := .ref (XB + 36)) (by decide +kernel) ?_
        obtain ⟨p11, e11, g3⟩ := bd g3
        refine Ev.callv D_55 E_58 (by decide +kernel) C_3_58 3 [.ref (XB + 36)] (r := []) rfl (gd_o k_3 (by decide)) rfl (Nat.le_of_ble_eq_true rfl) (Nat.le_of_ble_eq_true rfl) (gD_isAtWord_ok (by omega) (by decide) e11) ?_
        refine Ev.if_ D_55 (c := .eq) (off := 10) (by decide +kernel) (t := 65) rfl (fun c12 => ?_) (fun c12 => ?_)
        · have c12 : p11 = 0 := of_decide_eq_true c12
          rw [if_pos c12] at g3
          refine Ev.seg D_55 [(.aload_n 0, 1), (.iconst 1, 1)] (by decide +kernel) (j := 0) (pc' := 67) (lv' := [(0, .ref 3)]) (st' := [.int (1 : Int32), .ref 3]) rfl ?_
          obtain ⟨p13, e13, g3⟩ := bd g3
          refine Ev.callv D_55 E_59 (by decide +kernel) C_3_75 3 [.int (1 : Int32)] (r := []) rfl (gd_o k_3 (by decide)) rfl (Nat.le_of_ble_eq_true rfl) (Nat.le_of_ble_eq_true rfl) (gD_fail_ok (by omega)  e13) ?_
          cases g3
          exact Ev.sub2 j3 (subL_cons rfl subL_nil)
        · have c12 : ¬ p11 = 0 := of_decide_eq_false c12
          rw [if_neg c12] at g3
          refine Ev.seg D_55 [(.aload_n 0, 1)] (by decide +kernel) (j := 0) (pc' := 59) (lv' := [(0, .ref 3)]) (st' := [.ref 3]) rfl ?_
          obtain ⟨p14, e14, g3⟩ := bd g3
          refine Ev.callv D_55 E_64 (by decide +kernel) C_3_72 3 [] (r := []) rfl (gd_o k_3 (by decide)) rfl (Nat.le_of_ble_eq_true rfl) (Nat.le_of_ble_eq_true rfl) (gD_readShowLine_ok (by omega)  e14) ?_
          refine Ev.seg D_55 [(.goto 8, 3)] (by decide +kernel) (j := 0) (pc' := 70) (lv' := [(0, .ref 3)]) (st' := []) rfl ?_
          cases g3
          exact Ev.sub2 j3 (subL_cons rfl subL_nil)
      · have c9 : ¬ p8 = 0 := of_decide_eq_false c9
        rw [if_neg c9] at g3
        refine Ev.seg D_55 [(.aload_n 0, 1)] (by decide +kernel) (j := 0) (pc' := 43) (lv' := [(0, .ref 3)]) (st' := [.ref 3]) rfl ?_
        obtain ⟨p15, e15, g3⟩ := bd g3
        refine Ev.callv D_55 E_63 (by decide +kernel) C_3_67 3 [] (r := []) rfl (gd_o k_3 (by decide)) rfl (Nat.le_of_ble_eq_true rfl) (Nat.le_of_ble_eq_true rfl) (gD_readWatcherLine_ok (by omega)  e15) ?_
        refine Ev.seg D_55 [(.goto 24, 3)] (by decide +kernel) (j := 0) (pc' := 70) (lv' := [(0, .ref 3)]) (st' := []) rfl ?_
        cases g3
        exact Ev.sub2 j3 (subL_cons rfl subL_nil)
    · have c6 : ¬ p5 = 0 := of_decide_eq_false c6
      rw [if_neg c6] at g3
      refine Ev.seg D_55 [(.aload_n 0, 1)] (by decide +kernel) (j := 0) (pc' := 27) (lv' := [(0, .ref 3)]) (st' := [.ref 3]) rfl ?_
      obtain ⟨p16, e16, g3⟩ := bd g3
      refine Ev.callv D_55 E_61 (by decide +kernel) C_3_62 3 [] (r := []) rfl (gd_o k_3 (by decide)) rfl (Nat.le_of_ble_eq_true rfl) (Nat.le_of_ble_eq_true rfl) (gD_readBoatLine_ok (by omega)  e16) ?_
      refine Ev.seg D_55 [(.goto 40, 3)] (by decide +kernel) (j := 0) (pc' := 70) (lv' := [(0, .ref 3)]) (st' := []) rfl ?_
      cases g3
      exact Ev.sub2 j3 (subL_cons rfl subL_nil)
  · have c3 : (s.1 4 4) = 0 := Decidable.of_not_not (of_decide_eq_false c3)
    rw [if_pos c3] at g3
    refine Ev.seg D_55 [(.aload_n 0, 1)] (by decide +kernel) (j := 0) (pc' := 11) (lv' := [(0, .ref 3)]) (st' := [.ref 3]) rfl ?_
    obtain ⟨p17, e17, g3⟩ := bd g3
    refine Ev.callv D_55 E_56 (by decide +kernel) C_3_53 3 [] (r := []) rfl (gd_o k_3 (by decide)) rfl (Nat.le_of_ble_eq_true rfl) (Nat.le_of_ble_eq_true rfl) (gD_readRaceLine_ok (by omega)  e17) ?_
    refine Ev.seg D_55 [(.goto 56, 3)] (by decide +kernel) (j := 0) (pc' := 70) (lv' := [(0, .ref 3)]) (st' := []) rfl ?_
    cases g3
    exact Ev.sub2 j3 (subL_cons rfl subL_nil)
/- Reader readTape: 48 -/
def gD_readTape_h28  (q : Int32 × mT) : Option ((Int32 × mT) ⊕ (mT)) :=
  if (600 : Int32) < q.1 then
    some (.inr q.2)
  else
    if (q.2.1 3 5) = 0 then
      some (.inr q.2)
    else
      if (q.2.1 3 2) = 0 then
        (gD_readLine q.2).bind fun p6 =>
        some (.inl (q.1 + (1 : Int32), p6))
      else
        some (.inr q.2)
set_option maxRecDepth 8000 in
theorem gD_readTape_h28_ok {L d : Nat} (hd : 9 ≤ d + 1)  : ∀ (q : Int32 × mT) (x : (Int32 × mT) ⊕ (mT)), gD_readTape_h28 q = some x → ∀ o, sK (fun q => Ev (d + 1) 48 28 [(0, .ref 3), (1, .int q.1)] [] (uS L q.2) o) (fun r => Ev (d + 1) 48 59 [(0, .ref 3)] [] (uS L r) o) x → Ev (d + 1) 48 28 [(0, .ref 3), (1, .int q.1)] [] (uS L q.2) o := by
  intro q x h o ho
  unfold gD_readTape_h28 at h
  refine Ev.seg D_48 [(.iload_n 1, 1), (.sipush 600, 3)] (by decide +kernel) (j := 0) (pc' := 32) (lv' := [(0, .ref 3), (1, .int q.1)]) (st' := [.int (600 : Int32), .int q.1]) rfl ?_
  refine Ev.icmp D_48 (c := .gt) (off := 27) (by decide +kernel) (t := 59) rfl (fun c1 => ?_) (fun c1 => ?_)
  · have c1 : (600 : Int32) < q.1 := of_decide_eq_true c1
    rw [if_pos c1] at h
    cases h
    exact Ev.sub (lv' := [(0, .ref 3)]) (subL_cons rfl subL_nil) ho
  · have c1 : ¬ (600 : Int32) < q.1 := of_decide_eq_false c1
    rw [if_neg c1] at h
    refine Ev.seg D_48 [(.aload_n 0, 1)] (by decide +kernel) (j := 0) (pc' := 36) (lv' := [(0, .ref 3), (1, .int q.1)]) (st' := [.ref 3]) rfl ?_
    refine Ev.getI D_48 (by decide +kernel) F_3_28 (Or.inl T_3_5) (S_oI k_3) ?_
    refine Ev.if_ D_48 (c := .eq) (off := 20) (by decide +kernel) (t := 59) rfl (fun c3 => ?_) (fun c3 => ?_)
    · have c3 : (q.2.1 3 5) = 0 := of_decide_eq_true c3
      rw [if_pos c3] at h
      cases h
      exact Ev.sub (lv' := [(0, .ref 3)]) (subL_cons rfl subL_nil) ho
    · have c3 : ¬ (q.2.1 3 5) = 0 := of_decide_eq_false c3
      rw [if_neg c3] at h
      refine Ev.seg D_48 [(.aload_n 0, 1)] (by decide +kernel) (j := 0) (pc' := 43) (lv' := [(0, .ref 3), (1, .int q.1)]) (st' := [.ref 3]) rfl ?_
      refine Ev.getI D_48 (by decide +kernel) F_3_18 (Or.inl T_3_2) (S_oI k_3) ?_
      refine Ev.if_ D_48 (c := .ne) (off := 13) (by decide +kernel) (t := 59) rfl (fun c5 => ?_) (fun c5 => ?_)
      · have c5 : ¬ (q.2.1 3 2) = 0 := of_decide_eq_true c5
        rw [if_neg c5] at h
        cases h
        exact Ev.sub (lv' := [(0, .ref 3)]) (subL_cons rfl subL_nil) ho
      · have c5 : (q.2.1 3 2) = 0 := Decidable.of_not_not (of_decide_eq_false c5)
        rw [if_pos c5] at h
        refine Ev.seg D_48 [(.aload_n 0, 1)] (by decide +kernel) (j := 0) (pc' := 50) (lv' := [(0, .ref 3), (1, .int q.1)]) (st' := [.ref 3]) rfl ?_
        obtain ⟨p6, e6, h⟩ := bd h
        refine Ev.callv D_48 E_55 (by decide +kernel) C_3_47 3 [] (r := []) rfl (gd_o k_3 (by decide)) rfl (Nat.le_of_ble_eq_true rfl) (Nat.le_of_ble_eq_true rfl) (gD_readLine_ok (by omega)  e6) ?_
        refine Ev.seg D_48 [(.iinc 1 1, 3), (.goto (-28), 3)] (by decide +kernel) (j := 0) (pc' := 28) (lv' := [(1, .int (q.1 + (1 : Int32))), (0, .ref 3)]) (st' := []) rfl ?_
        cases h
        exact Ev.sub (lv' := [(0, .ref 3), (1, .int (q.1 + (1 : Int32)))]) (subL_cons rfl (subL_cons rfl subL_nil)) ho
theorem gD_readTape_h28_w {L d : Nat} (hd : 9 ≤ d + 1)  : ∀ (n : Nat) (q : Int32 × mT) (r : mT), wh n (gD_readTape_h28) q = some r → ∀ o, (fun r => Ev (d + 1) 48 59 [(0, .ref 3)] [] (uS L r) o) r → Ev (d + 1) 48 28 [(0, .ref 3), (1, .int q.1)] [] (uS L q.2) o :=
  fun n q r h o hc => wh_ev (E := fun (q : Int32 × mT) o => Ev (d + 1) 48 28 [(0, .ref 3), (1, .int q.1)] [] (uS L q.2) o) (C := fun (r : mT) o => (fun r => Ev (d + 1) 48 59 [(0, .ref 3)] [] (uS L r) o) r) (gD_readTape_h28_ok hd  ) n q r h o hc
def gD_readTape (s : mT) : Option (Int32 × mT) :=
  (gR_wipe 4 s).bind fun p2 =>
  (some (stI (stI (stI p2 3 2 (0 : Int32)) 3 3 (-1 : Int32)) 3 4 (0 : Int32))).bind fun s5 =>
  (gD_takeToken s5).bind fun p6 =>
  (wh FU (gD_readTape_h28) ((0 : Int32), p6)).bind fun x7 =>
  (
    if (x7.1 3 2) = 0 then
      some ((1 : Int32))
    else
      some ((0 : Int32)) : Option (Int32)).bind fun x9 =>
  if x9 = 0 ∨ x9 = 1 then some ((x9, x7)) else none
set_option maxRecDepth 8000 in
theorem gD_readTape_ok {L d : Nat} (hd : 9 ≤ d) {s : mT} {p : Int32 × mT} (h : gD_readTape s = some p) : Ev d 48 0 [(0, .ref 3)] [] (uS L s) (some (.int p.1), uS L p.2) := by
  obtain ⟨d, rfl⟩ : ∃ e, d = e + 1 := ⟨d - 1, by omega⟩
  obtain ⟨o, ho⟩ : ∃ o : Option Value × mS, o = (some (.int p.1), uS L p.2) := ⟨_, rfl⟩
  rw [← ho]
  unfold gD_readTape at h
  refine Ev.seg D_48 [(.aload_n 0, 1)] (by decide +kernel) (j := 0) (pc' := 1) (lv' := [(0, .ref 3)]) (st' := [.ref 3]) rfl ?_
  refine Ev.getR D_48 (by decide +kernel) F_3_12 T_3_1 (x := 4) (S_oR k_3 (by decide +kernel)) ?_
  obtain ⟨p2, e2, h⟩ := bd h
  refine Ev.callv D_48 E_34 (by decide +kernel) C_3_41 4 [] (r := []) rfl (gd_o k_4 (by decide)) rfl (Nat.le_of_ble_eq_true rfl) (Nat.le_of_ble_eq_true rfl) (gR_wipe_ok (by omega) (by decide) e2) ?_
  refine Ev.seg D_48 [(.aload_n 0, 1), (.iconst 0, 1)] (by decide +kernel) (j := 0) (pc' := 9) (lv' := [(0, .ref 3)]) (st' := [.int (0 : Int32), .ref 3]) rfl ?_
  refine Ev.putI D_48 (by decide +kernel) F_3_18 N_3_2 T_3_2 (S_pI k_3) ?_
  refine Ev.seg D_48 [(.aload_n 0, 1), (.iconst (-1), 1)] (by decide +kernel) (j := 0) (pc' := 14) (lv' := [(0, .ref 3)]) (st' := [.int (-1 : Int32), .ref 3]) rfl ?_
  refine Ev.putI D_48 (by decide +kernel) F_3_22 N_3_3 T_3_3 (S_pI k_3) ?_
  refine Ev.seg D_48 [(.aload_n 0, 1), (.iconst 0, 1)] (by decide +kernel) (j := 0) (pc' := 19) (lv' := [(0, .ref 3)]) (st' := [.int (0 : Int32), .ref 3]) rfl ?_
  obtain ⟨s5, e5, h⟩ := bd h
  refine Ev.putI D_48 (by decide +kernel) F_3_25 N_3_4 T_3_4 (S_pIb k_3 e5) ?_
  refine Ev.seg D_48 [(.aload_n 0, 1)] (by decide +kernel) (j := 0) (pc' := 23) (lv' := [(0, .ref 3)]) (st' := [.ref 3]) rfl ?_
  obtain ⟨p6, e6, h⟩ := bd h
  refine Ev.callv D_48 E_49 (by decide +kernel) C_3_44 3 [] (r := []) rfl (gd_o k_3 (by decide)) rfl (Nat.le_of_ble_eq_true rfl) (Nat.le_of_ble_eq_true rfl) (gD_takeToken_ok (by omega)  e6) ?_
  refine Ev.seg D_48 [(.iconst 0, 1), (.istore_n 1, 1)] (by decide +kernel) (j := 0) (pc' := 28) (lv' := [(1, .int (0 : Int32)), (0, .ref 3)]) (st' := []) rfl ?_
  obtain ⟨x7, w7, h⟩ := bd h
  have j7 : Ev (d + 1) 48 59 [(0, .ref 3)] [] (uS L x7) o := by
    clear w7
    refine Ev.seg D_48 [(.aload_n 0, 1)] (by decide +kernel) (j := 0) (pc' := 60) (lv' := [(0, .ref 3)]) (st' := [.ref 3]) rfl ?_
    refine Ev.getI D_48 (by decide +kernel) F_3_18 (Or.inl T_3_2) (S_oI k_3) ?_
    obtain ⟨x9, g9, h⟩ := bd h
    have j9 : Ev (d + 1) 48 71 [] [.int x9] (uS L x7) o := by
      clear g9
      by_cases c10 : x9 = 0 ∨ x9 = 1
      · rw [if_pos c10] at h
        cases h
        obtain rfl : o = _ := ho
        exact Ev.zret D_48 c10 (by decide +kernel)
      · rw [if_neg c10] at h; cases h
    clear h
    refine Ev.if_ D_48 (c := .ne) (off := 7) (by decide +kernel) (t := 70) rfl (fun c9 => ?_) (fun c9 => ?_)
    · have c9 : ¬ (x7.1 3 2) = 0 := of_decide_eq_true c9
      rw [if_neg c9] at g9
      refine Ev.seg D_48 [(.iconst 0, 1)] (by decide +kernel) (j := 0) (pc' := 71) (lv' := [(0, .ref 3)]) (st' := [.int (0 : Int32)]) rfl ?_
      cases g9
      exact Ev.sub2 j9 subL_nil
    · have c9 : (x7.1 3 2) = 0 := Decidable.of_not_not (of_decide_eq_false c9)
      rw [if_pos c9] at g9
      refine Ev.seg D_48 [(.iconst 1, 1), (.goto 4, 3)] (by decide +kernel) (j := 0) (pc' := 71) (lv' := [(0, .ref 3)]) (st' := [.int (1 : Int32)]) rfl ?_
      cases g9
      exact Ev.sub2 j9 subL_nil
  exact Ev.sub (lv' := [(0, .ref 3), (1, .int (0 : Int32))]) (subL_cons rfl (subL_cons rfl subL_nil)) (gD_readTape_h28_w hd   _ _ _ w7 _ j7)
/- Row tellsPlaces: 66 -/
def gW_tellsPlaces_h13 (v0 : Nat) (v1 : Nat) (s : mT) (q : Int32) : Option ((Int32) ⊕ (Int32)) :=
  if (s.1 v0 3) ≤ (q + (2 : Int32)) then
    some (.inr ((1 : Int32)))
  else
    (rdL (s.2 (v0 + 1)) 60 q).bind fun x5 =>
    (gR_hasBoat v1 x5 s).bind fun p6 =>
    if p6 = 0 then
      some (.inr ((0 : Int32)))
    else
      (rdL (s.2 (v0 + 1)) 60 (q + (1 : Int32))).bind fun x10 =>
      (gR_hasStep v1 x10 s).bind fun p11 =>
      if p11 = 0 then
        some (.inr ((0 : Int32)))
      else
        (rdL (s.2 (v0 + 1)) 60 (q + (2 : Int32))).bind fun x15 =>
        if (lg_cmp x15 (0 : Int64)) < 0 then
          some (.inr ((0 : Int32)))
        else
          (rdL (s.2 (v0 + 1)) 60 (q + (2 : Int32))).bind fun x19 =>
          if (lg_cmp x19 (60 : Int64)) ≤ 0 then
            some (.inl (q + (3 : Int32)))
          else
            some (.inr ((0 : Int32)))
set_option maxRecDepth 8000 in
theorem gW_tellsPlaces_h13_ok {L d : Nat} (hd : 3 ≤ d + 1) {v0 : Nat} {v1 : Nat} {s : mT} (i0 : isRw v0) (i1 : isRa v1) : ∀ (q : Int32) (x : (Int32) ⊕ (Int32)), gW_tellsPlaces_h13 v0 v1 s q = some x → ∀ o, sK (fun q => Ev (d + 1) 66 13 [(0, .ref v0), (1, .ref v1), (2, .int q)] [] (uS L s) o) (fun r => o = (some (.int r), uS L s)) x → Ev (d + 1) 66 13 [(0, .ref v0), (1, .ref v1), (2, .int q)] [] (uS L s) o := by
  intro q x h o ho
  unfold gW_tellsPlaces_h13 at h
  refine Ev.seg D_66 [(.iload_n 2, 1), (.iconst 2, 1), (.iadd, 1), (.aload_n 0, 1)] (by decide +kernel) (j := 0) (pc' := 17) (lv' := [(0, .ref v0), (1, .ref v1), (2, .int q)]) (st' := [.ref v0, .int (q + (2 : Int32))]) rfl ?_
  refine Ev.getI D_66 (by decide +kernel) F_4_23 (Or.inl T_4_3) (S_oI (rw_o i0)) ?_
  refine Ev.icmp D_66 (c := .ge) (off := 67) (by decide +kernel) (t := 87) rfl (fun c2 => ?_) (fun c2 => ?_)
  · have c2 : (s.1 v0 3) ≤ (q + (2 : Int32)) := of_decide_eq_true c2
    rw [if_pos c2] at h
    refine Ev.seg D_66 [(.iconst 1, 1)] (by decide +kernel) (j := 0) (pc' := 88) (lv' := [(0, .ref v0), (1, .ref v1), (2, .int q)]) (st' := [.int (1 : Int32)]) rfl ?_
    cases h
    obtain rfl : o = _ := ho
    exact Ev.zret D_66 (by decide) (by decide +kernel)
  · have c2 : ¬ (s.1 v0 3) ≤ (q + (2 : Int32)) := of_decide_eq_false c2
    rw [if_neg c2] at h
    refine Ev.seg D_66 [(.aload_n 1, 1), (.aload_n 0, 1)] (by decide +kernel) (j := 0) (pc' := 25) (lv' := [(0, .ref v0), (1, .ref v1), (2, .int q)]) (st' := [.ref v0, .ref v1]) rfl ?_
    refine Ev.getR D_66 (by decide +kernel) F_4_9 T_4_0 (x := (v0 + 1)) (S_oR (rw_o i0) (rw_r2 i0 0 1 (by decide +kernel))) ?_
    refine Ev.seg D_66 [(.iload_n 2, 1)] (by decide +kernel) (j := 0) (pc' := 29) (lv' := [(0, .ref v0), (1, .ref v1), (2, .int q)]) (st' := [.int q, .ref (v0 + 1), .ref v1]) rfl ?_
    obtain ⟨x5, e5, h⟩ := bd h
    refine Ev.lald D_66 (by decide +kernel) (S_aL (rw_k i0 1 _ (by decide +kernel)) e5) ?_
    obtain ⟨p6, e6, h⟩ := bd h
    refine Ev.callv D_66 E_39 (by decide +kernel) C_4_26 v1 [.long x5] (r := []) rfl (gd_o (ra_o i1) (by decide)) rfl (Nat.le_of_ble_eq_true rfl) (Nat.le_of_ble_eq_true rfl) (gR_hasBoat_ok (by omega) i1 e6) ?_
    refine Ev.if_ D_66 (c := .eq) (off := 46) (by decide +kernel) (t := 79) rfl (fun c7 => ?_) (fun c7 => ?_)
    · have c7 : p6 = 0 := of_decide_eq_true c7
      rw [if_pos c7] at h
      refine Ev.seg D_66 [(.iconst 0, 1)] (by decide +kernel) (j := 0) (pc' := 80) (lv' := [(0, .ref v0), (1, .ref v1), (2, .int q)]) (st' := [.int (0 : Int32)]) rfl ?_
      cases h
      obtain rfl : o = _ := ho
      exact Ev.zret D_66 (by decide) (by decide +kernel)
    · have c7 : ¬ p6 = 0 := of_decide_eq_false c7
      rw [if_neg c7] at h
      refine Ev.seg D_66 [(.aload_n 1, 1), (.aload_n 0, 1)] (by decide +kernel) (j := 0) (pc' := 38) (lv' := [(0, .ref v0), (1, .ref v1), (2, .int q)]) (st' := [.ref v0, .ref v1]) rfl ?_
      refine Ev.getR D_66 (by decide +kernel) F_4_9 T_4_0 (x := (v0 + 1)) (S_oR (rw_o i0) (rw_r2 i0 0 1 (by decide +kernel))) ?_
      refine Ev.seg D_66 [(.iload_n 2, 1), (.iconst 1, 1), (.iadd, 1)] (by decide +kernel) (j := 0) (pc' := 44) (lv' := [(0, .ref v0), (1, .ref v1), (2, .int q)]) (st' := [.int (q + (1 : Int32)), .ref (v0 + 1), .ref v1]) rfl ?_
      obtain ⟨x10, e10, h⟩ := bd h
      refine Ev.lald D_66 (by decide +kernel) (S_aL (rw_k i0 1 _ (by decide +kernel)) e10) ?_
      obtain ⟨p11, e11, h⟩ := bd h
      refine Ev.callv D_66 E_42 (by decide +kernel) C_4_32 v1 [.long x10] (r := []) rfl (gd_o (ra_o i1) (by decide)) rfl (Nat.le_of_ble_eq_true rfl) (Nat.le_of_ble_eq_true rfl) (gR_hasStep_ok (by omega) i1 e11) ?_
      refine Ev.if_ D_66 (c := .eq) (off := 31) (by decide +kernel) (t := 79) rfl (fun c12 => ?_) (fun c12 => ?_)
      · have c12 : p11 = 0 := of_decide_eq_true c12
        rw [if_pos c12] at h
        refine Ev.seg D_66 [(.iconst 0, 1)] (by decide +kernel) (j := 0) (pc' := 80) (lv' := [(0, .ref v0), (1, .ref v1), (2, .int q)]) (st' := [.int (0 : Int32)]) rfl ?_
        cases h
        obtain rfl : o = _ := ho
        exact Ev.zret D_66 (by decide) (by decide +kernel)
      · have c12 : ¬ p11 = 0 := of_decide_eq_false c12
        rw [if_neg c12] at h
        refine Ev.seg D_66 [(.aload_n 0, 1)] (by decide +kernel) (j := 0) (pc' := 52) (lv' := [(0, .ref v0), (1, .ref v1), (2, .int q)]) (st' := [.ref v0]) rfl ?_
        refine Ev.getR D_66 (by decide +kernel) F_4_9 T_4_0 (x := (v0 + 1)) (S_oR (rw_o i0) (rw_r2 i0 0 1 (by decide +kernel))) ?_
        refine Ev.seg D_66 [(.iload_n 2, 1), (.iconst 2, 1), (.iadd, 1)] (by decide +kernel) (j := 0) (pc' := 58) (lv' := [(0, .ref v0), (1, .ref v1), (2, .int q)]) (st' := [.int (q + (2 : Int32)), .ref (v0 + 1)]) rfl ?_
        obtain ⟨x15, e15, h⟩ := bd h
        refine Ev.lald D_66 (by decide +kernel) (S_aL (rw_k i0 1 _ (by decide +kernel)) e15) ?_
        refine Ev.seg D_66 [(.lconst 0, 1), (.lcmp, 1)] (by decide +kernel) (j := 0) (pc' := 61) (lv' := [(0, .ref v0), (1, .ref v1), (2, .int q)]) (st' := [.int (lg_cmp x15 (0 : Int64))]) rfl ?_
        refine Ev.if_ D_66 (c := .lt) (off := 18) (by decide +kernel) (t := 79) rfl (fun c16 => ?_) (fun c16 => ?_)
        · have c16 : (lg_cmp x15 (0 : Int64)) < 0 := of_decide_eq_true c16
          rw [if_pos c16] at h
          refine Ev.seg D_66 [(.iconst 0, 1)] (by decide +kernel) (j := 0) (pc' := 80) (lv' := [(0, .ref v0), (1, .ref v1), (2, .int q)]) (st' := [.int (0 : Int32)]) rfl ?_
          cases h
          obtain rfl : o = _ := ho
          exact Ev.zret D_66 (by decide) (by decide +kernel)
        · have c16 : ¬ (lg_cmp x15 (0 : Int64)) < 0 := of_decide_eq_false c16
          rw [if_neg c16] at h
          refine Ev.seg D_66 [(.aload_n 0, 1)] (by decide +kernel) (j := 0) (pc' := 65) (lv' := [(0, .ref v0), (1, .ref v1), (2, .int q)]) (st' := [.ref v0]) rfl ?_
          refine Ev.getR D_66 (by decide +kernel) F_4_9 T_4_0 (x := (v0 + 1)) (S_oR (rw_o i0) (rw_r2 i0 0 1 (by decide +kernel))) ?_
          refine Ev.seg D_66 [(.iload_n 2, 1), (.iconst 2, 1), (.iadd, 1)] (by decide +kernel) (j := 0) (pc' := 71) (lv' := [(0, .ref v0), (1, .ref v1), (2, .int q)]) (st' := [.int (q + (2 : Int32)), .ref (v0 + 1)]) rfl ?_
          obtain ⟨x19, e19, h⟩ := bd h
          refine Ev.lald D_66 (by decide +kernel) (S_aL (rw_k i0 1 _ (by decide +kernel)) e19) ?_
          refine Ev.ldc2 D_66 (i := 35) (by decide +kernel) (x := (60 : Int64)) (by decide +kernel) ?_
          refine Ev.seg D_66 [(.lcmp, 1)] (by decide +kernel) (j := 0) (pc' := 76) (lv' := [(0, .ref v0), (1, .ref v1), (2, .int q)]) (st' := [.int (lg_cmp x19 (60 : Int64))]) rfl ?_
          refine Ev.if_ D_66 (c := .le) (off := 5) (by decide +kernel) (t := 81) rfl (fun c21 => ?_) (fun c21 => ?_)
          · have c21 : (lg_cmp x19 (60 : Int64)) ≤ 0 := of_decide_eq_true c21
            rw [if_pos c21] at h
            refine Ev.seg D_66 [(.iinc 2 3, 3), (.goto (-71), 3)] (by decide +kernel) (j := 0) (pc' := 13) (lv' := [(2, .int (q + (3 : Int32))), (0, .ref v0), (1, .ref v1)]) (st' := []) rfl ?_
            cases h
            exact Ev.sub (lv' := [(0, .ref v0), (1, .ref v1), (2, .int (q + (3 : Int32)))]) (subL_cons rfl (subL_cons rfl (subL_cons rfl subL_nil))) ho
          · have c21 : ¬ (lg_cmp x19 (60 : Int64)) ≤ 0 := of_decide_eq_false c21
            rw [if_neg c21] at h
            refine Ev.seg D_66 [(.iconst 0, 1)] (by decide +kernel) (j := 0) (pc' := 80) (lv' := [(0, .ref v0), (1, .ref v1), (2, .int q)]) (st' := [.int (0 : Int32)]) rfl ?_
            cases h
            obtain rfl : o = _ := ho
            exact Ev.zret D_66 (by decide) (by decide +kernel)
theorem gW_tellsPlaces_h13_w {L d : Nat} (hd : 3 ≤ d + 1) {v0 : Nat} {v1 : Nat} {s : mT} (i0 : isRw v0) (i1 : isRa v1) : ∀ (n : Nat) (q : Int32) (r : Int32), wh n (gW_tellsPlaces_h13 v0 v1 s) q = some r → ∀ o, (fun r => o = (some (.int r), uS L s)) r → Ev (d + 1) 66 13 [(0, .ref v0), (1, .ref v1), (2, .int q)] [] (uS L s) o :=
  fun n q r h o hc => wh_ev (E := fun (q : Int32) o => Ev (d + 1) 66 13 [(0, .ref v0), (1, .ref v1), (2, .int q)] [] (uS L s) o) (C := fun (r : Int32) o => (fun r => o = (some (.int r), uS L s)) r) (gW_tellsPlaces_h13_ok hd i0 i1 ) n q r h o hc
def gW_tellsPlaces (v0 : Nat) (v1 : Nat) (s : mT) : Option (Int32) :=
  if (3 : Int32) = 0 then none else
  if ((s.1 v0 3) - (s.1 v0 3) / (3 : Int32) * (3 : Int32)) = 0 then
    wh FU (gW_tellsPlaces_h13 v0 v1 s) (0 : Int32)
  else
    some ((0 : Int32))
set_option maxRecDepth 8000 in
theorem gW_tellsPlaces_ok {L d : Nat} (hd : 3 ≤ d) {v0 : Nat} {v1 : Nat} {s : mT} (i0 : isRw v0) (i1 : isRa v1) {p : Int32} (h : gW_tellsPlaces v0 v1 s = some p) : Ev d 66 0 [(0, .ref v0), (1, .ref v1)] [] (uS L s) (some (.int p), uS L s) := by
  obtain ⟨d, rfl⟩ : ∃ e, d = e + 1 := ⟨d - 1, by omega⟩
  obtain ⟨o, ho⟩ : ∃ o : Option Value × mS, o = (some (.int p), uS L s) := ⟨_, rfl⟩
  rw [← ho]
  unfold gW_tellsPlaces at h
  refine Ev.seg D_66 [(.aload_n 0, 1)] (by decide +kernel) (j := 0) (pc' := 1) (lv' := [(0, .ref v0), (1, .ref v1)]) (st' := [.ref v0]) rfl ?_
  refine Ev.getI D_66 (by decide +kernel) F_4_23 (Or.inl T_4_3) (S_oI (rw_o i0)) ?_
  refine Ev.seg D_66 [(.iconst 3, 1)] (by decide +kernel) (j := 0) (pc' := 5) (lv' := [(0, .ref v0), (1, .ref v1)]) (st' := [.int (3 : Int32), .int (s.1 v0 3)]) rfl ?_
  by_cases c2 : (3 : Int32) = 0
  · rw [if_pos c2] at h; cases h
  rw [if_neg c2] at h
  refine Ev.irem D_66 (by decide +kernel) c2 ?_
  refine Ev.if_ D_66 (c := .eq) (off := 5) (by decide +kernel) (t := 11) rfl (fun c3 => ?_) (fun c3 => ?_)
  · have c3 : ((s.1 v0 3) - (s.1 v0 3) / (3 : Int32) * (3 : Int32)) = 0 := of_decide_eq_true c3
    rw [if_pos c3] at h
    refine Ev.seg D_66 [(.iconst 0, 1), (.istore_n 2, 1)] (by decide +kernel) (j := 0) (pc' := 13) (lv' := [(2, .int (0 : Int32)), (0, .ref v0), (1, .ref v1)]) (st' := []) rfl ?_
    exact Ev.sub (lv' := [(0, .ref v0), (1, .ref v1), (2, .int (0 : Int32))]) (subL_cons rfl (subL_cons rfl (subL_cons rfl subL_nil))) (gW_tellsPlaces_h13_w hd i0 i1  _ _ _ h _ ho)
  · have c3 : ¬ ((s.1 v0 3) - (s.1 v0 3) / (3 : Int32) * (3 : Int32)) = 0 := of_decide_eq_false c3
    rw [if_neg c3] at h
    refine Ev.seg D_66 [(.iconst 0, 1)] (by decide +kernel) (j := 0) (pc' := 10) (lv' := [(0, .ref v0), (1, .ref v1)]) (st' := [.int (0 : Int32)]) rfl ?_
    cases h
    obtain rfl : o = _ := ho
    exact Ev.zret D_66 (by decide) (by decide +kernel)
/- Row lastStepTold: 67 -/
def gW_lastStepTold_h4 (v0 : Nat) (v1 : Nat) (s : mT) (q : Int32 × Int32) : Option ((Int32 × Int32) ⊕ (Int32)) :=
  if (s.1 v0 3) ≤ (q.2 + (2 : Int32)) then
    some (.inr q.1)
  else
    (rdL (s.2 (v0 + 1)) 60 (q.2 + (1 : Int32))).bind fun x4 =>
    some (.inl (imax q.1 x4.toInt32, q.2 + (3 : Int32)))
set_option maxRecDepth 8000 in
theorem gW_lastStepTold_h4_ok {L d : Nat} (hd : 1 ≤ d + 1) {v0 : Nat} {v1 : Nat} {s : mT} (i0 : isRw v0) (i1 : isRa v1) : ∀ (q : Int32 × Int32) (x : (Int32 × Int32) ⊕ (Int32)), gW_lastStepTold_h4 v0 v1 s q = some x → ∀ o, sK (fun q => Ev (d + 1) 67 4 [(0, .ref v0), (1, .ref v1), (2, .int q.1), (3, .int q.2)] [] (uS L s) o) (fun r => Ev (d + 1) 67 34 [(1, .ref v1), (2, .int r)] [] (uS L s) o) x → Ev (d + 1) 67 4 [(0, .ref v0), (1, .ref v1), (2, .int q.1), (3, .int q.2)] [] (uS L s) o := by
  intro q x h o ho
  unfold gW_lastStepTold_h4 at h
  refine Ev.seg D_67 [(.iload_n 3, 1), (.iconst 2, 1), (.iadd, 1), (.aload_n 0, 1)] (by decide +kernel) (j := 0) (pc' := 8) (lv' := [(0, .ref v0), (1, .ref v1), (2, .int q.1), (3, .int q.2)]) (st' := [.ref v0, .int (q.2 + (2 : Int32))]) rfl ?_
  refine Ev.getI D_67 (by decide +kernel) F_4_23 (Or.inl T_4_3) (S_oI (rw_o i0)) ?_
  refine Ev.icmp D_67 (c := .ge) (off := 23) (by decide +kernel) (t := 34) rfl (fun c2 => ?_) (fun c2 => ?_)
  · have c2 : (s.1 v0 3) ≤ (q.2 + (2 : Int32)) := of_decide_eq_true c2
    rw [if_pos c2] at h
    cases h
    exact Ev.sub (lv' := [(1, .ref v1), (2, .int q.1)]) (subL_cons rfl (subL_cons rfl subL_nil)) ho
  · have c2 : ¬ (s.1 v0 3) ≤ (q.2 + (2 : Int32)) := of_decide_eq_false c2
    rw [if_neg c2] at h
    refine Ev.seg D_67 [(.iload_n 2, 1), (.aload_n 0, 1)] (by decide +kernel) (j := 0) (pc' := 16) (lv' := [(0, .ref v0), (1, .ref v1), (2, .int q.1), (3, .int q.2)]) (st' := [.ref v0, .int q.1]) rfl ?_
    refine Ev.getR D_67 (by decide +kernel) F_4_9 T_4_0 (x := (v0 + 1)) (S_oR (rw_o i0) (rw_r2 i0 0 1 (by decide +kernel))) ?_
    refine Ev.seg D_67 [(.iload_n 3, 1), (.iconst 1, 1), (.iadd, 1)] (by decide +kernel) (j := 0) (pc' := 22) (lv' := [(0, .ref v0), (1, .ref v1), (2, .int q.1), (3, .int q.2)]) (st' := [.int (q.2 + (1 : Int32)), .ref (v0 + 1), .int q.1]) rfl ?_
    obtain ⟨x4, e4, h⟩ := bd h
    refine Ev.lald D_67 (by decide +kernel) (S_aL (rw_k i0 1 _ (by decide +kernel)) e4) ?_
    refine Ev.seg D_67 [(.l2i, 1)] (by decide +kernel) (j := 0) (pc' := 24) (lv' := [(0, .ref v0), (1, .ref v1), (2, .int q.1), (3, .int q.2)]) (st' := [.int x4.toInt32, .int q.1]) rfl ?_
    refine Ev.max D_67 (by decide +kernel) (Nat.succ_pos _) C_4_37 (Nat.le_of_ble_eq_true rfl) ?_
    refine Ev.seg D_67 [(.istore_n 2, 1), (.iinc 3 3, 3), (.goto (-27), 3)] (by decide +kernel) (j := 0) (pc' := 4) (lv' := [(3, .int (q.2 + (3 : Int32))), (2, .int (imax q.1 x4.toInt32)), (0, .ref v0), (1, .ref v1)]) (st' := []) rfl ?_
    cases h
    exact Ev.sub (lv' := [(0, .ref v0), (1, .ref v1), (2, .int (imax q.1 x4.toInt32)), (3, .int (q.2 + (3 : Int32)))]) (subL_cons rfl (subL_cons rfl (subL_cons rfl (subL_cons rfl subL_nil)))) ho
theorem gW_lastStepTold_h4_w {L d : Nat} (hd : 1 ≤ d + 1) {v0 : Nat} {v1 : Nat} {s : mT} (i0 : isRw v0) (i1 : isRa v1) : ∀ (n : Nat) (q : Int32 × Int32) (r : Int32), wh n (gW_lastStepTold_h4 v0 v1 s) q = some r → ∀ o, (fun r => Ev (d + 1) 67 34 [(1, .ref v1), (2, .int r)] [] (uS L s) o) r → Ev (d + 1) 67 4 [(0, .ref v0), (1, .ref v1), (2, .int q.1), (3, .int q.2)] [] (uS L s) o :=
  fun n q r h o hc => wh_ev (E := fun (q : Int32 × Int32) o => Ev (d + 1) 67 4 [(0, .ref v0), (1, .ref v1), (2, .int q.1), (3, .int q.2)] [] (uS L s) o) (C := fun (r : Int32) o => (fun r => Ev (d + 1) 67 34 [(1, .ref v1), (2, .int r)] [] (uS L s) o) r) (gW_lastStepTold_h4_ok hd i0 i1 ) n q r h o hc
def gW_lastStepTold (v0 : Nat) (v1 : Nat) (s : mT) : Option (Int32) :=
  (wh FU (gW_lastStepTold_h4 v0 v1 s) ((0 : Int32), (0 : Int32))).bind fun x6 =>
  some (imin x6 (s.1 v1 0))
set_option maxRecDepth 8000 in
theorem gW_lastStepTold_ok {L d : Nat} (hd : 1 ≤ d) {v0 : Nat} {v1 : Nat} {s : mT} (i0 : isRw v0) (i1 : isRa v1) {p : Int32} (h : gW_lastStepTold v0 v1 s = some p) : Ev d 67 0 [(0, .ref v0), (1, .ref v1)] [] (uS L s) (some (.int p), uS L s) := by
  obtain ⟨d, rfl⟩ : ∃ e, d = e + 1 := ⟨d - 1, by omega⟩
  obtain ⟨o, ho⟩ : ∃ o : Option Value × mS, o = (some (.int p), uS L s) := ⟨_, rfl⟩
  rw [← ho]
  unfold gW_lastStepTold at h
  refine Ev.seg D_67 [(.iconst 0, 1), (.istore_n 2, 1), (.iconst 0, 1), (.istore_n 3, 1)] (by decide +kernel) (j := 0) (pc' := 4) (lv' := [(3, .int (0 : Int32)), (2, .int (0 : Int32)), (0, .ref v0), (1, .ref v1)]) (st' := []) rfl ?_
  obtain ⟨x6, w6, h⟩ := bd h
  have j6 : Ev (d + 1) 67 34 [(1, .ref v1), (2, .int x6)] [] (uS L s) o := by
    clear w6
    refine Ev.seg D_67 [(.iload_n 2, 1), (.aload_n 1, 1)] (by decide +kernel) (j := 0) (pc' := 36) (lv' := [(1, .ref v1), (2, .int x6)]) (st' := [.ref v1, .int x6]) rfl ?_
    refine Ev.getI D_67 (by decide +kernel) F_4_43 (Or.inl T_2_0) (S_oI (ra_o i1)) ?_
    refine Ev.min D_67 (by decide +kernel) (Nat.succ_pos _) C_4_46 (Nat.le_of_ble_eq_true rfl) ?_
    cases h
    obtain rfl : o = _ := ho
    exact Ev.iret D_67 (by decide +kernel)
  exact Ev.sub (lv' := [(0, .ref v0), (1, .ref v1), (2, .int (0 : Int32)), (3, .int (0 : Int32))]) (subL_cons rfl (subL_cons rfl (subL_cons rfl (subL_cons rfl subL_nil)))) (gW_lastStepTold_h4_w hd i0 i1  _ _ _ w6 _ j6)
