/-! The program's methods as functions of ints and longs, each with its certificate (wip/whole/gen_emit.py writes this) -/
/- PennantLawn count: 175 -/
def gL_count (v1 : Int32) (s : mT) : Option (Int32) :=
  if v1 = (0 : Int32) then
    some (s.1 16 0)
  else if v1 = (1 : Int32) then
    some (s.1 16 1)
  else if v1 = (2 : Int32) then
    some (s.1 16 2)
  else if v1 = (3 : Int32) then
    some (s.1 16 3)
  else if v1 = (4 : Int32) then
    some (s.1 16 5)
  else if v1 = (5 : Int32) then
    some (s.1 16 6)
  else if v1 = (6 : Int32) then
    some (s.1 16 7)
  else if v1 = (7 : Int32) then
    some (s.1 16 8)
  else if v1 = (8 : Int32) then
    some (s.1 16 4)
  else if v1 = (9 : Int32) then
    some (s.1 1 1)
  else if v1 = (10 : Int32) then
    (gL_rowsKept s).bind fun p32 =>
    some (p32)
  else 
  some ((-1 : Int32))
set_option maxRecDepth 8000 in
theorem gL_count_ok {L d : Nat} (hd : 2 ≤ d) {v1 : Int32} {s : mT} {p : Int32} (h : gL_count v1 s = some p) : Ev d 175 0 [(0, .ref 0), (1, .int v1)] [] (uS L s) (some (.int p), uS L s) := by
  obtain ⟨d, rfl⟩ : ∃ e, d = e + 1 := ⟨d - 1, by omega⟩
  obtain ⟨o, ho⟩ : ∃ o : Option Value × mS, o = (some (.int p), uS L s) := ⟨_, rfl⟩
  rw [← ho]
  unfold gL_count at h
  refine Ev.seg D_175 [(.iload_n 1, 1)] (by decide +kernel) (j := 0) (pc' := 1) (lv' := [(0, .ref 0), (1, .int v1)]) (st' := [.int v1]) rfl ?_
  by_cases c1_0 : v1 = (0 : Int32)
  · rw [if_pos c1_0] at h
    refine Ev.tab D_175 (len := 59) (df := 144) (lo := 0) (hi := 10) (offs := #[59, 67, 75, 83, 91, 99, 107, 115, 123, 131, 139]) (by decide +kernel) (off := 59) (t := 60) (by rw [c1_0]; decide +kernel) rfl ?_
    refine Ev.seg D_175 [(.aload_n 0, 1)] (by decide +kernel) (j := 0) (pc' := 61) (lv' := [(0, .ref 0), (1, .int v1)]) (st' := [.ref 0]) rfl ?_
    refine Ev.getR D_175 (by decide +kernel) F_9_28 T_9_2 (x := 16) (S_oR k_0 (by decide +kernel)) ?_
    refine Ev.getI D_175 (by decide +kernel) F_9_187 (Or.inl T_2_0) (S_oI k_16) ?_
    cases h
    obtain rfl : o = _ := ho
    exact Ev.iret D_175 (by decide +kernel)
  rw [if_neg c1_0] at h
  by_cases c1_1 : v1 = (1 : Int32)
  · rw [if_pos c1_1] at h
    refine Ev.tab D_175 (len := 59) (df := 144) (lo := 0) (hi := 10) (offs := #[59, 67, 75, 83, 91, 99, 107, 115, 123, 131, 139]) (by decide +kernel) (off := 67) (t := 68) (by rw [c1_1]; decide +kernel) rfl ?_
    refine Ev.seg D_175 [(.aload_n 0, 1)] (by decide +kernel) (j := 0) (pc' := 69) (lv' := [(0, .ref 0), (1, .int v1)]) (st' := [.ref 0]) rfl ?_
    refine Ev.getR D_175 (by decide +kernel) F_9_28 T_9_2 (x := 16) (S_oR k_0 (by decide +kernel)) ?_
    refine Ev.getI D_175 (by decide +kernel) F_9_398 (Or.inl T_2_1) (S_oI k_16) ?_
    cases h
    obtain rfl : o = _ := ho
    exact Ev.iret D_175 (by decide +kernel)
  rw [if_neg c1_1] at h
  by_cases c1_2 : v1 = (2 : Int32)
  · rw [if_pos c1_2] at h
    refine Ev.tab D_175 (len := 59) (df := 144) (lo := 0) (hi := 10) (offs := #[59, 67, 75, 83, 91, 99, 107, 115, 123, 131, 139]) (by decide +kernel) (off := 75) (t := 76) (by rw [c1_2]; decide +kernel) rfl ?_
    refine Ev.seg D_175 [(.aload_n 0, 1)] (by decide +kernel) (j := 0) (pc' := 77) (lv' := [(0, .ref 0), (1, .int v1)]) (st' := [.ref 0]) rfl ?_
    refine Ev.getR D_175 (by decide +kernel) F_9_28 T_9_2 (x := 16) (S_oR k_0 (by decide +kernel)) ?_
    refine Ev.getI D_175 (by decide +kernel) F_9_399 (Or.inl T_2_2) (S_oI k_16) ?_
    cases h
    obtain rfl : o = _ := ho
    exact Ev.iret D_175 (by decide +kernel)
  rw [if_neg c1_2] at h
  by_cases c1_3 : v1 = (3 : Int32)
  · rw [if_pos c1_3] at h
    refine Ev.tab D_175 (len := 59) (df := 144) (lo := 0) (hi := 10) (offs := #[59, 67, 75, 83, 91, 99, 107, 115, 123, 131, 139]) (by decide +kernel) (off := 83) (t := 84) (by rw [c1_3]; decide +kernel) rfl ?_
    refine Ev.seg D_175 [(.aload_n 0, 1)] (by decide +kernel) (j := 0) (pc' := 85) (lv' := [(0, .ref 0), (1, .int v1)]) (st' := [.ref 0]) rfl ?_
    refine Ev.getR D_175 (by decide +kernel) F_9_28 T_9_2 (x := 16) (S_oR k_0 (by decide +kernel)) ?_
    refine Ev.getI D_175 (by decide +kernel) F_9_357 (Or.inl T_2_3) (S_oI k_16) ?_
    cases h
    obtain rfl : o = _ := ho
    exact Ev.iret D_175 (by decide +kernel)
  rw [if_neg c1_3] at h
  by_cases c1_4 : v1 = (4 : Int32)
  · rw [if_pos c1_4] at h
    refine Ev.tab D_175 (len := 59) (df := 144) (lo := 0) (hi := 10) (offs := #[59, 67, 75, 83, 91, 99, 107, 115, 123, 131, 139]) (by decide +kernel) (off := 91) (t := 92) (by rw [c1_4]; decide +kernel) rfl ?_
    refine Ev.seg D_175 [(.aload_n 0, 1)] (by decide +kernel) (j := 0) (pc' := 93) (lv' := [(0, .ref 0), (1, .int v1)]) (st' := [.ref 0]) rfl ?_
    refine Ev.getR D_175 (by decide +kernel) F_9_28 T_9_2 (x := 16) (S_oR k_0 (by decide +kernel)) ?_
    refine Ev.getI D_175 (by decide +kernel) F_9_190 (Or.inl T_2_5) (S_oI k_16) ?_
    cases h
    obtain rfl : o = _ := ho
    exact Ev.iret D_175 (by decide +kernel)
  rw [if_neg c1_4] at h
  by_cases c1_5 : v1 = (5 : Int32)
  · rw [if_pos c1_5] at h
    refine Ev.tab D_175 (len := 59) (df := 144) (lo := 0) (hi := 10) (offs := #[59, 67, 75, 83, 91, 99, 107, 115, 123, 131, 139]) (by decide +kernel) (off := 99) (t := 100) (by rw [c1_5]; decide +kernel) rfl ?_
    refine Ev.seg D_175 [(.aload_n 0, 1)] (by decide +kernel) (j := 0) (pc' := 101) (lv' := [(0, .ref 0), (1, .int v1)]) (st' := [.ref 0]) rfl ?_
    refine Ev.getR D_175 (by decide +kernel) F_9_28 T_9_2 (x := 16) (S_oR k_0 (by decide +kernel)) ?_
    refine Ev.getI D_175 (by decide +kernel) F_9_218 (Or.inl T_2_6) (S_oI k_16) ?_
    cases h
    obtain rfl : o = _ := ho
    exact Ev.iret D_175 (by decide +kernel)
  rw [if_neg c1_5] at h
  by_cases c1_6 : v1 = (6 : Int32)
  · rw [if_pos c1_6] at h
    refine Ev.tab D_175 (len := 59) (df := 144) (lo := 0) (hi := 10) (offs := #[59, 67, 75, 83, 91, 99, 107, 115, 123, 131, 139]) (by decide +kernel) (off := 107) (t := 108) (by rw [c1_6]; decide +kernel) rfl ?_
    refine Ev.seg D_175 [(.aload_n 0, 1)] (by decide +kernel) (j := 0) (pc' := 109) (lv' := [(0, .ref 0), (1, .int v1)]) (st' := [.ref 0]) rfl ?_
    refine Ev.getR D_175 (by decide +kernel) F_9_28 T_9_2 (x := 16) (S_oR k_0 (by decide +kernel)) ?_
    refine Ev.getI D_175 (by decide +kernel) F_9_402 (Or.inl T_2_7) (S_oI k_16) ?_
    cases h
    obtain rfl : o = _ := ho
    exact Ev.iret D_175 (by decide +kernel)
  rw [if_neg c1_6] at h
  by_cases c1_7 : v1 = (7 : Int32)
  · rw [if_pos c1_7] at h
    refine Ev.tab D_175 (len := 59) (df := 144) (lo := 0) (hi := 10) (offs := #[59, 67, 75, 83, 91, 99, 107, 115, 123, 131, 139]) (by decide +kernel) (off := 115) (t := 116) (by rw [c1_7]; decide +kernel) rfl ?_
    refine Ev.seg D_175 [(.aload_n 0, 1)] (by decide +kernel) (j := 0) (pc' := 117) (lv' := [(0, .ref 0), (1, .int v1)]) (st' := [.ref 0]) rfl ?_
    refine Ev.getR D_175 (by decide +kernel) F_9_28 T_9_2 (x := 16) (S_oR k_0 (by decide +kernel)) ?_
    refine Ev.getI D_175 (by decide +kernel) F_9_373 (Or.inl T_2_8) (S_oI k_16) ?_
    cases h
    obtain rfl : o = _ := ho
    exact Ev.iret D_175 (by decide +kernel)
  rw [if_neg c1_7] at h
  by_cases c1_8 : v1 = (8 : Int32)
  · rw [if_pos c1_8] at h
    refine Ev.tab D_175 (len := 59) (df := 144) (lo := 0) (hi := 10) (offs := #[59, 67, 75, 83, 91, 99, 107, 115, 123, 131, 139]) (by decide +kernel) (off := 123) (t := 124) (by rw [c1_8]; decide +kernel) rfl ?_
    refine Ev.seg D_175 [(.aload_n 0, 1)] (by decide +kernel) (j := 0) (pc' := 125) (lv' := [(0, .ref 0), (1, .int v1)]) (st' := [.ref 0]) rfl ?_
    refine Ev.getR D_175 (by decide +kernel) F_9_28 T_9_2 (x := 16) (S_oR k_0 (by decide +kernel)) ?_
    refine Ev.getI D_175 (by decide +kernel) F_9_110 (Or.inl T_2_4) (S_oI k_16) ?_
    cases h
    obtain rfl : o = _ := ho
    exact Ev.iret D_175 (by decide +kernel)
  rw [if_neg c1_8] at h
  by_cases c1_9 : v1 = (9 : Int32)
  · rw [if_pos c1_9] at h
    refine Ev.tab D_175 (len := 59) (df := 144) (lo := 0) (hi := 10) (offs := #[59, 67, 75, 83, 91, 99, 107, 115, 123, 131, 139]) (by decide +kernel) (off := 131) (t := 132) (by rw [c1_9]; decide +kernel) rfl ?_
    refine Ev.seg D_175 [(.aload_n 0, 1)] (by decide +kernel) (j := 0) (pc' := 133) (lv' := [(0, .ref 0), (1, .int v1)]) (st' := [.ref 0]) rfl ?_
    refine Ev.getR D_175 (by decide +kernel) F_9_10 T_9_0 (x := 1) (S_oR k_0 (by decide +kernel)) ?_
    refine Ev.getI D_175 (by decide +kernel) F_9_89 (Or.inl T_8_1) (S_oI k_1) ?_
    cases h
    obtain rfl : o = _ := ho
    exact Ev.iret D_175 (by decide +kernel)
  rw [if_neg c1_9] at h
  by_cases c1_10 : v1 = (10 : Int32)
  · rw [if_pos c1_10] at h
    refine Ev.tab D_175 (len := 59) (df := 144) (lo := 0) (hi := 10) (offs := #[59, 67, 75, 83, 91, 99, 107, 115, 123, 131, 139]) (by decide +kernel) (off := 139) (t := 140) (by rw [c1_10]; decide +kernel) rfl ?_
    refine Ev.seg D_175 [(.aload_n 0, 1)] (by decide +kernel) (j := 0) (pc' := 141) (lv' := [(0, .ref 0), (1, .int v1)]) (st' := [.ref 0]) rfl ?_
    obtain ⟨p32, e32, h⟩ := bd h
    refine Ev.callv D_175 E_176 (by decide +kernel) C_9_405 0 [] (r := []) rfl (gd_o k_0 (by decide)) rfl (Nat.le_of_ble_eq_true rfl) (Nat.le_of_ble_eq_true rfl) (gL_rowsKept_ok (by omega)  e32) ?_
    cases h
    obtain rfl : o = _ := ho
    exact Ev.iret D_175 (by decide +kernel)
  rw [if_neg c1_10] at h
  refine Ev.tab D_175 (len := 59) (df := 144) (lo := 0) (hi := 10) (offs := #[59, 67, 75, 83, 91, 99, 107, 115, 123, 131, 139]) (by decide +kernel) (off := 144) (t := 145) (tab_df 11 (fun z hz => match z, hz with | 0, _ => c1_0 | 1, _ => c1_1 | 2, _ => c1_2 | 3, _ => c1_3 | 4, _ => c1_4 | 5, _ => c1_5 | 6, _ => c1_6 | 7, _ => c1_7 | 8, _ => c1_8 | 9, _ => c1_9 | 10, _ => c1_10 | z + 11, hz => absurd hz (by omega)) rfl) rfl ?_
  refine Ev.seg D_175 [(.iconst (-1), 1)] (by decide +kernel) (j := 0) (pc' := 146) (lv' := [(0, .ref 0), (1, .int v1)]) (st' := [.int (-1 : Int32)]) rfl ?_
  cases h
  obtain rfl : o = _ := ho
  exact Ev.iret D_175 (by decide +kernel)
/- PennantLawn image: 177 -/
def gL_image (v1 : Int32) (s : mT) : Option (Int32 × mT) :=
  if v1 < 0 then
    some (((-2 : Int32), s))
  else
    if v1 < (3 : Int32) then
      if ¬ (v1 < 0 ∨ 3 ≤ v1.toNatClampNeg) then
        (gR_copyFrom (249 + 12 * v1.toNatClampNeg) 16 s).bind fun p7 =>
        (wrI p7 248 3 v1 (vp_nar .boolean (1 : Int32))).bind fun s9 =>
        some (((0 : Int32), s9))
      else none
    else
      some (((-2 : Int32), s))
set_option maxRecDepth 8000 in
theorem gL_image_ok {L d : Nat} (hd : 2 ≤ d) {v1 : Int32} {s : mT} {p : Int32 × mT} (h : gL_image v1 s = some p) : Ev d 177 0 [(0, .ref 0), (1, .int v1)] [] (uS L s) (some (.int p.1), uS L p.2) := by
  obtain ⟨d, rfl⟩ : ∃ e, d = e + 1 := ⟨d - 1, by omega⟩
  obtain ⟨o, ho⟩ : ∃ o : Option Value × mS, o = (some (.int p.1), uS L p.2) := ⟨_, rfl⟩
  rw [← ho]
  unfold gL_image at h
  refine Ev.seg D_177 [(.iload_n 1, 1)] (by decide +kernel) (j := 0) (pc' := 1) (lv' := [(0, .ref 0), (1, .int v1)]) (st' := [.int v1]) rfl ?_
  refine Ev.if_ D_177 (c := .lt) (off := 8) (by decide +kernel) (t := 9) rfl (fun c1 => ?_) (fun c1 => ?_)
  · have c1 : v1 < 0 := of_decide_eq_true c1
    rw [if_pos c1] at h
    refine Ev.seg D_177 [(.bipush (-2), 2)] (by decide +kernel) (j := 0) (pc' := 11) (lv' := [(0, .ref 0), (1, .int v1)]) (st' := [.int (-2 : Int32)]) rfl ?_
    cases h
    obtain rfl : o = _ := ho
    exact Ev.iret D_177 (by decide +kernel)
  · have c1 : ¬ v1 < 0 := of_decide_eq_false c1
    rw [if_neg c1] at h
    refine Ev.seg D_177 [(.iload_n 1, 1), (.iconst 3, 1)] (by decide +kernel) (j := 0) (pc' := 6) (lv' := [(0, .ref 0), (1, .int v1)]) (st' := [.int (3 : Int32), .int v1]) rfl ?_
    refine Ev.icmp D_177 (c := .lt) (off := 6) (by decide +kernel) (t := 12) rfl (fun c3 => ?_) (fun c3 => ?_)
    · have c3 : v1 < (3 : Int32) := of_decide_eq_true c3
      rw [if_pos c3] at h
      refine Ev.seg D_177 [(.aload_n 0, 1)] (by decide +kernel) (j := 0) (pc' := 13) (lv' := [(0, .ref 0), (1, .int v1)]) (st' := [.ref 0]) rfl ?_
      refine Ev.getR D_177 (by decide +kernel) F_9_74 T_9_3 (x := 247) (S_oR k_0 (by decide +kernel)) ?_
      refine Ev.seg D_177 [(.iload_n 1, 1)] (by decide +kernel) (j := 0) (pc' := 17) (lv' := [(0, .ref 0), (1, .int v1)]) (st' := [.int v1, .ref 247]) rfl ?_
      by_cases b17 : ¬ (v1 < 0 ∨ 3 ≤ v1.toNatClampNeg)
      rotate_left
      · rw [if_neg b17] at h; cases h
      rw [if_pos b17] at h
      refine Ev.aald D_177 (by decide +kernel) (kd := 24) ⟨by decide, by decide⟩ (x := (249 + 12 * v1.toNatClampNeg)) (S_aR k_247 b17 (el_rar b17)) ?_
      refine Ev.seg D_177 [(.aload_n 0, 1)] (by decide +kernel) (j := 0) (pc' := 19) (lv' := [(0, .ref 0), (1, .int v1)]) (st' := [.ref 0, .ref (249 + 12 * v1.toNatClampNeg)]) rfl ?_
      refine Ev.getR D_177 (by decide +kernel) F_9_28 T_9_2 (x := 16) (S_oR k_0 (by decide +kernel)) ?_
      obtain ⟨p7, e7, h⟩ := bd h
      refine Ev.callv D_177 E_38 (by decide +kernel) C_9_104 (249 + 12 * v1.toNatClampNeg) [.ref 16] (r := []) rfl (gd_o (ra_o (el_ra b17)) (by decide)) rfl (Nat.le_of_ble_eq_true rfl) (Nat.le_of_ble_eq_true rfl) (gR_copyFrom_ok (by omega) (el_ra b17) (by decide) e7) ?_
      refine Ev.seg D_177 [(.aload_n 0, 1)] (by decide +kernel) (j := 0) (pc' := 26) (lv' := [(0, .ref 0), (1, .int v1)]) (st' := [.ref 0]) rfl ?_
      refine Ev.getR D_177 (by decide +kernel) F_9_78 T_9_4 (x := 248) (S_oR k_0 (by decide +kernel)) ?_
      refine Ev.seg D_177 [(.iload_n 1, 1), (.iconst 1, 1)] (by decide +kernel) (j := 0) (pc' := 31) (lv' := [(0, .ref 0), (1, .int v1)]) (st' := [.int (1 : Int32), .int v1, .ref 248]) rfl ?_
      obtain ⟨s9, e9, h⟩ := bd h
      refine Ev.zast D_177 (by decide +kernel) (S_sZ k_248 e9) ?_
      refine Ev.seg D_177 [(.iconst 0, 1)] (by decide +kernel) (j := 0) (pc' := 33) (lv' := [(0, .ref 0), (1, .int v1)]) (st' := [.int (0 : Int32)]) rfl ?_
      cases h
      obtain rfl : o = _ := ho
      exact Ev.iret D_177 (by decide +kernel)
    · have c3 : ¬ v1 < (3 : Int32) := of_decide_eq_false c3
      rw [if_neg c3] at h
      refine Ev.seg D_177 [(.bipush (-2), 2)] (by decide +kernel) (j := 0) (pc' := 11) (lv' := [(0, .ref 0), (1, .int v1)]) (st' := [.int (-2 : Int32)]) rfl ?_
      cases h
      obtain rfl : o = _ := ho
      exact Ev.iret D_177 (by decide +kernel)
/- PennantLawn back: 178 -/
def gL_back (v1 : Int32) (s : mT) : Option (Int32 × mT) :=
  if v1 < 0 then
    some (((-2 : Int32), s))
  else
    if v1 < (3 : Int32) then
      (rdI (s.1 248) 3 v1).bind fun x5 =>
      if x5 = 0 then
        some (((-6 : Int32), s))
      else
        if ¬ (v1 < 0 ∨ 3 ≤ v1.toNatClampNeg) then
          (gR_copyFrom 16 (249 + 12 * v1.toNatClampNeg) s).bind fun p10 =>
          (gL_sailAgain p10).bind fun p11 =>
          some (((0 : Int32), p11))
        else none
    else
      some (((-2 : Int32), s))
set_option maxRecDepth 8000 in
theorem gL_back_ok {L d : Nat} (hd : 6 ≤ d) {v1 : Int32} {s : mT} {p : Int32 × mT} (h : gL_back v1 s = some p) : Ev d 178 0 [(0, .ref 0), (1, .int v1)] [] (uS L s) (some (.int p.1), uS L p.2) := by
  obtain ⟨d, rfl⟩ : ∃ e, d = e + 1 := ⟨d - 1, by omega⟩
  obtain ⟨o, ho⟩ : ∃ o : Option Value × mS, o = (some (.int p.1), uS L p.2) := ⟨_, rfl⟩
  rw [← ho]
  unfold gL_back at h
  refine Ev.seg D_178 [(.iload_n 1, 1)] (by decide +kernel) (j := 0) (pc' := 1) (lv' := [(0, .ref 0), (1, .int v1)]) (st' := [.int v1]) rfl ?_
  refine Ev.if_ D_178 (c := .lt) (off := 8) (by decide +kernel) (t := 9) rfl (fun c1 => ?_) (fun c1 => ?_)
  · have c1 : v1 < 0 := of_decide_eq_true c1
    rw [if_pos c1] at h
    refine Ev.seg D_178 [(.bipush (-2), 2)] (by decide +kernel) (j := 0) (pc' := 11) (lv' := [(0, .ref 0), (1, .int v1)]) (st' := [.int (-2 : Int32)]) rfl ?_
    cases h
    obtain rfl : o = _ := ho
    exact Ev.iret D_178 (by decide +kernel)
  · have c1 : ¬ v1 < 0 := of_decide_eq_false c1
    rw [if_neg c1] at h
    refine Ev.seg D_178 [(.iload_n 1, 1), (.iconst 3, 1)] (by decide +kernel) (j := 0) (pc' := 6) (lv' := [(0, .ref 0), (1, .int v1)]) (st' := [.int (3 : Int32), .int v1]) rfl ?_
    refine Ev.icmp D_178 (c := .lt) (off := 6) (by decide +kernel) (t := 12) rfl (fun c3 => ?_) (fun c3 => ?_)
    · have c3 : v1 < (3 : Int32) := of_decide_eq_true c3
      rw [if_pos c3] at h
      refine Ev.seg D_178 [(.aload_n 0, 1)] (by decide +kernel) (j := 0) (pc' := 13) (lv' := [(0, .ref 0), (1, .int v1)]) (st' := [.ref 0]) rfl ?_
      refine Ev.getR D_178 (by decide +kernel) F_9_78 T_9_4 (x := 248) (S_oR k_0 (by decide +kernel)) ?_
      refine Ev.seg D_178 [(.iload_n 1, 1)] (by decide +kernel) (j := 0) (pc' := 17) (lv' := [(0, .ref 0), (1, .int v1)]) (st' := [.int v1, .ref 248]) rfl ?_
      obtain ⟨x5, e5, h⟩ := bd h
      refine Ev.zald D_178 (by decide +kernel) (S_aZ k_248 e5) ?_
      refine Ev.if_ D_178 (c := .ne) (off := 6) (by decide +kernel) (t := 24) rfl (fun c6 => ?_) (fun c6 => ?_)
      · have c6 : ¬ x5 = 0 := of_decide_eq_true c6
        rw [if_neg c6] at h
        refine Ev.seg D_178 [(.aload_n 0, 1)] (by decide +kernel) (j := 0) (pc' := 25) (lv' := [(0, .ref 0), (1, .int v1)]) (st' := [.ref 0]) rfl ?_
        refine Ev.getR D_178 (by decide +kernel) F_9_28 T_9_2 (x := 16) (S_oR k_0 (by decide +kernel)) ?_
        refine Ev.seg D_178 [(.aload_n 0, 1)] (by decide +kernel) (j := 0) (pc' := 29) (lv' := [(0, .ref 0), (1, .int v1)]) (st' := [.ref 0, .ref 16]) rfl ?_
        refine Ev.getR D_178 (by decide +kernel) F_9_74 T_9_3 (x := 247) (S_oR k_0 (by decide +kernel)) ?_
        refine Ev.seg D_178 [(.iload_n 1, 1)] (by decide +kernel) (j := 0) (pc' := 33) (lv' := [(0, .ref 0), (1, .int v1)]) (st' := [.int v1, .ref 247, .ref 16]) rfl ?_
        by_cases b33 : ¬ (v1 < 0 ∨ 3 ≤ v1.toNatClampNeg)
        rotate_left
        · rw [if_neg b33] at h; cases h
        rw [if_pos b33] at h
        refine Ev.aald D_178 (by decide +kernel) (kd := 24) ⟨by decide, by decide⟩ (x := (249 + 12 * v1.toNatClampNeg)) (S_aR k_247 b33 (el_rar b33)) ?_
        obtain ⟨p10, e10, h⟩ := bd h
        refine Ev.callv D_178 E_38 (by decide +kernel) C_9_104 16 [.ref (249 + 12 * v1.toNatClampNeg)] (r := []) rfl (gd_o k_16 (by decide)) rfl (Nat.le_of_ble_eq_true rfl) (Nat.le_of_ble_eq_true rfl) (gR_copyFrom_ok (by omega) (by decide) (el_ra b33) e10) ?_
        refine Ev.seg D_178 [(.aload_n 0, 1)] (by decide +kernel) (j := 0) (pc' := 38) (lv' := [(0, .ref 0), (1, .int v1)]) (st' := [.ref 0]) rfl ?_
        obtain ⟨p11, e11, h⟩ := bd h
        refine Ev.callv D_178 E_94 (by decide +kernel) C_9_107 0 [] (r := []) rfl (gd_o k_0 (by decide)) rfl (Nat.le_of_ble_eq_true rfl) (Nat.le_of_ble_eq_true rfl) (gL_sailAgain_ok (by omega)  e11) ?_
        refine Ev.seg D_178 [(.iconst 0, 1)] (by decide +kernel) (j := 0) (pc' := 42) (lv' := [(0, .ref 0), (1, .int v1)]) (st' := [.int (0 : Int32)]) rfl ?_
        cases h
        obtain rfl : o = _ := ho
        exact Ev.iret D_178 (by decide +kernel)
      · have c6 : x5 = 0 := Decidable.of_not_not (of_decide_eq_false c6)
        rw [if_pos c6] at h
        refine Ev.seg D_178 [(.bipush (-6), 2)] (by decide +kernel) (j := 0) (pc' := 23) (lv' := [(0, .ref 0), (1, .int v1)]) (st' := [.int (-6 : Int32)]) rfl ?_
        cases h
        obtain rfl : o = _ := ho
        exact Ev.iret D_178 (by decide +kernel)
    · have c3 : ¬ v1 < (3 : Int32) := of_decide_eq_false c3
      rw [if_neg c3] at h
      refine Ev.seg D_178 [(.bipush (-2), 2)] (by decide +kernel) (j := 0) (pc' := 11) (lv' := [(0, .ref 0), (1, .int v1)]) (st' := [.int (-2 : Int32)]) rfl ?_
      cases h
      obtain rfl : o = _ := ho
      exact Ev.iret D_178 (by decide +kernel)
/- PennantLawn row: 179 -/
def gL_row (v1 : Int32) (v2 : Int32) (v3 : Int32) (s : mT) : Option (Int32 × mT) :=
  (gL_isSlot v1 s).bind fun p1 =>
  if p1 = 0 then
    some (((-2 : Int32), s))
  else
    if v2 < 0 then
      some (((-2 : Int32), s))
    else
      if (4 : Int32) ≤ v2 then
        some (((-2 : Int32), s))
      else
        if v3 ≤ (60 : Int32) then
          if 0 ≤ v3 then
            if ¬ (v1 < 0 ∨ 4 ≤ v1.toNatClampNeg) then
              (gW_lay (286 + 2 * v1.toNatClampNeg) v2 v3 s).bind fun p12 =>
              some (((0 : Int32), (stI p12 225 2 (-1 : Int32))))
            else none
          else
            some (((-3 : Int32), s))
        else
          some (((-2 : Int32), s))
set_option maxRecDepth 8000 in
theorem gL_row_ok {L d : Nat} (hd : 2 ≤ d) {v1 : Int32} {v2 : Int32} {v3 : Int32} {s : mT} {p : Int32 × mT} (h : gL_row v1 v2 v3 s = some p) : Ev d 179 0 [(0, .ref 0), (1, .int v1), (2, .int v2), (3, .int v3)] [] (uS L s) (some (.int p.1), uS L p.2) := by
  obtain ⟨d, rfl⟩ : ∃ e, d = e + 1 := ⟨d - 1, by omega⟩
  obtain ⟨o, ho⟩ : ∃ o : Option Value × mS, o = (some (.int p.1), uS L p.2) := ⟨_, rfl⟩
  rw [← ho]
  unfold gL_row at h
  refine Ev.seg D_179 [(.iload_n 1, 1)] (by decide +kernel) (j := 0) (pc' := 1) (lv' := [(0, .ref 0), (1, .int v1), (2, .int v2), (3, .int v3)]) (st' := [.int v1]) rfl ?_
  obtain ⟨p1, e1, h⟩ := bd h
  refine Ev.calls D_179 E_149 (by decide +kernel) C_9_308 [.int v1] (r := []) rfl rfl (Nat.le_of_ble_eq_true rfl) (Nat.le_of_ble_eq_true rfl) (gL_isSlot_ok (by omega)  e1) ?_
  refine Ev.if_ D_179 (c := .eq) (off := 18) (by decide +kernel) (t := 22) rfl (fun c2 => ?_) (fun c2 => ?_)
  · have c2 : p1 = 0 := of_decide_eq_true c2
    rw [if_pos c2] at h
    refine Ev.seg D_179 [(.bipush (-2), 2)] (by decide +kernel) (j := 0) (pc' := 24) (lv' := [(0, .ref 0), (1, .int v1), (2, .int v2), (3, .int v3)]) (st' := [.int (-2 : Int32)]) rfl ?_
    cases h
    obtain rfl : o = _ := ho
    exact Ev.iret D_179 (by decide +kernel)
  · have c2 : ¬ p1 = 0 := of_decide_eq_false c2
    rw [if_neg c2] at h
    refine Ev.seg D_179 [(.iload_n 2, 1)] (by decide +kernel) (j := 0) (pc' := 8) (lv' := [(0, .ref 0), (1, .int v1), (2, .int v2), (3, .int v3)]) (st' := [.int v2]) rfl ?_
    refine Ev.if_ D_179 (c := .lt) (off := 14) (by decide +kernel) (t := 22) rfl (fun c4 => ?_) (fun c4 => ?_)
    · have c4 : v2 < 0 := of_decide_eq_true c4
      rw [if_pos c4] at h
      refine Ev.seg D_179 [(.bipush (-2), 2)] (by decide +kernel) (j := 0) (pc' := 24) (lv' := [(0, .ref 0), (1, .int v1), (2, .int v2), (3, .int v3)]) (st' := [.int (-2 : Int32)]) rfl ?_
      cases h
      obtain rfl : o = _ := ho
      exact Ev.iret D_179 (by decide +kernel)
    · have c4 : ¬ v2 < 0 := of_decide_eq_false c4
      rw [if_neg c4] at h
      refine Ev.seg D_179 [(.iload_n 2, 1), (.iconst 4, 1)] (by decide +kernel) (j := 0) (pc' := 13) (lv' := [(0, .ref 0), (1, .int v1), (2, .int v2), (3, .int v3)]) (st' := [.int (4 : Int32), .int v2]) rfl ?_
      refine Ev.icmp D_179 (c := .ge) (off := 9) (by decide +kernel) (t := 22) rfl (fun c6 => ?_) (fun c6 => ?_)
      · have c6 : (4 : Int32) ≤ v2 := of_decide_eq_true c6
        rw [if_pos c6] at h
        refine Ev.seg D_179 [(.bipush (-2), 2)] (by decide +kernel) (j := 0) (pc' := 24) (lv' := [(0, .ref 0), (1, .int v1), (2, .int v2), (3, .int v3)]) (st' := [.int (-2 : Int32)]) rfl ?_
        cases h
        obtain rfl : o = _ := ho
        exact Ev.iret D_179 (by decide +kernel)
      · have c6 : ¬ (4 : Int32) ≤ v2 := of_decide_eq_false c6
        rw [if_neg c6] at h
        refine Ev.seg D_179 [(.iload_n 3, 1), (.bipush 60, 2)] (by decide +kernel) (j := 0) (pc' := 19) (lv' := [(0, .ref 0), (1, .int v1), (2, .int v2), (3, .int v3)]) (st' := [.int (60 : Int32), .int v3]) rfl ?_
        refine Ev.icmp D_179 (c := .le) (off := 6) (by decide +kernel) (t := 25) rfl (fun c8 => ?_) (fun c8 => ?_)
        · have c8 : v3 ≤ (60 : Int32) := of_decide_eq_true c8
          rw [if_pos c8] at h
          refine Ev.seg D_179 [(.iload_n 3, 1)] (by decide +kernel) (j := 0) (pc' := 26) (lv' := [(0, .ref 0), (1, .int v1), (2, .int v2), (3, .int v3)]) (st' := [.int v3]) rfl ?_
          refine Ev.if_ D_179 (c := .ge) (off := 6) (by decide +kernel) (t := 32) rfl (fun c9 => ?_) (fun c9 => ?_)
          · have c9 : 0 ≤ v3 := of_decide_eq_true c9
            rw [if_pos c9] at h
            refine Ev.seg D_179 [(.aload_n 0, 1)] (by decide +kernel) (j := 0) (pc' := 33) (lv' := [(0, .ref 0), (1, .int v1), (2, .int v2), (3, .int v3)]) (st' := [.ref 0]) rfl ?_
            refine Ev.getR D_179 (by decide +kernel) F_9_84 T_9_11 (x := 285) (S_oR k_0 (by decide +kernel)) ?_
            refine Ev.seg D_179 [(.iload_n 1, 1)] (by decide +kernel) (j := 0) (pc' := 37) (lv' := [(0, .ref 0), (1, .int v1), (2, .int v2), (3, .int v3)]) (st' := [.int v1, .ref 285]) rfl ?_
            by_cases b37 : ¬ (v1 < 0 ∨ 4 ≤ v1.toNatClampNeg)
            rotate_left
            · rw [if_neg b37] at h; cases h
            rw [if_pos b37] at h
            refine Ev.aald D_179 (by decide +kernel) (kd := 25) ⟨by decide, by decide⟩ (x := (286 + 2 * v1.toNatClampNeg)) (S_aR k_285 b37 (el_rwr b37)) ?_
            refine Ev.seg D_179 [(.iload_n 2, 1), (.iload_n 3, 1)] (by decide +kernel) (j := 0) (pc' := 40) (lv' := [(0, .ref 0), (1, .int v1), (2, .int v2), (3, .int v3)]) (st' := [.int v3, .int v2, .ref (286 + 2 * v1.toNatClampNeg)]) rfl ?_
            obtain ⟨p12, e12, h⟩ := bd h
            refine Ev.callv D_179 E_69 (by decide +kernel) C_9_408 (286 + 2 * v1.toNatClampNeg) [.int v2, .int v3] (r := []) rfl (gd_o (rw_o (el_rw b37)) (by decide)) rfl (Nat.le_of_ble_eq_true rfl) (Nat.le_of_ble_eq_true rfl) (gW_lay_ok (by omega) (el_rw b37) e12) ?_
            refine Ev.seg D_179 [(.aload_n 0, 1)] (by decide +kernel) (j := 0) (pc' := 44) (lv' := [(0, .ref 0), (1, .int v1), (2, .int v2), (3, .int v3)]) (st' := [.ref 0]) rfl ?_
            refine Ev.getR D_179 (by decide +kernel) F_9_56 T_9_8 (x := 225) (S_oR k_0 (by decide +kernel)) ?_
            refine Ev.seg D_179 [(.iconst (-1), 1)] (by decide +kernel) (j := 0) (pc' := 48) (lv' := [(0, .ref 0), (1, .int v1), (2, .int v2), (3, .int v3)]) (st' := [.int (-1 : Int32), .ref 225]) rfl ?_
            refine Ev.putI D_179 (by decide +kernel) F_9_411 N_5_2 T_5_2 (S_pI k_225) ?_
            refine Ev.seg D_179 [(.iconst 0, 1)] (by decide +kernel) (j := 0) (pc' := 52) (lv' := [(0, .ref 0), (1, .int v1), (2, .int v2), (3, .int v3)]) (st' := [.int (0 : Int32)]) rfl ?_
            cases h
            obtain rfl : o = _ := ho
            exact Ev.iret D_179 (by decide +kernel)
          · have c9 : ¬ 0 ≤ v3 := of_decide_eq_false c9
            rw [if_neg c9] at h
            refine Ev.seg D_179 [(.bipush (-3), 2)] (by decide +kernel) (j := 0) (pc' := 31) (lv' := [(0, .ref 0), (1, .int v1), (2, .int v2), (3, .int v3)]) (st' := [.int (-3 : Int32)]) rfl ?_
            cases h
            obtain rfl : o = _ := ho
            exact Ev.iret D_179 (by decide +kernel)
        · have c8 : ¬ v3 ≤ (60 : Int32) := of_decide_eq_false c8
          rw [if_neg c8] at h
          refine Ev.seg D_179 [(.bipush (-2), 2)] (by decide +kernel) (j := 0) (pc' := 24) (lv' := [(0, .ref 0), (1, .int v1), (2, .int v2), (3, .int v3)]) (st' := [.int (-2 : Int32)]) rfl ?_
          cases h
          obtain rfl : o = _ := ho
          exact Ev.iret D_179 (by decide +kernel)
/- PennantLawn write: 180 -/
def gL_write (v1 : Int32) (v2 : Int32) (v3 : Int64) (s : mT) : Option (Int32 × mT) :=
  (gL_isSlot v1 s).bind fun p1 =>
  if p1 = 0 then
    some (((-2 : Int32), s))
  else
    if ¬ (v1 < 0 ∨ 4 ≤ v1.toNatClampNeg) then
      if (s.1 (286 + 2 * v1.toNatClampNeg) 1) = 0 then
        some (((-6 : Int32), s))
      else
        if v2 < 0 then
          some (((-7 : Int32), s))
        else
          if ¬ (v1 < 0 ∨ 4 ≤ v1.toNatClampNeg) then
            if v2 < (s.1 (286 + 2 * v1.toNatClampNeg) 3) then
              if ¬ (v1 < 0 ∨ 4 ≤ v1.toNatClampNeg) then
                (gW_put (286 + 2 * v1.toNatClampNeg) v2 v3 s).bind fun p15 =>
                some (((0 : Int32), (stI p15 225 2 (-1 : Int32))))
              else none
            else
              some (((-7 : Int32), s))
          else none
    else none
set_option maxRecDepth 8000 in
theorem gL_write_ok {L d : Nat} (hd : 2 ≤ d) {v1 : Int32} {v2 : Int32} {v3 : Int64} {s : mT} {p : Int32 × mT} (h : gL_write v1 v2 v3 s = some p) : Ev d 180 0 [(0, .ref 0), (1, .int v1), (2, .int v2), (3, .long v3)] [] (uS L s) (some (.int p.1), uS L p.2) := by
  obtain ⟨d, rfl⟩ : ∃ e, d = e + 1 := ⟨d - 1, by omega⟩
  obtain ⟨o, ho⟩ : ∃ o : Option Value × mS, o = (some (.int p.1), uS L p.2) := ⟨_, rfl⟩
  rw [← ho]
  unfold gL_write at h
  refine Ev.seg D_180 [(.iload_n 1, 1)] (by decide +kernel) (j := 0) (pc' := 1) (lv' := [(0, .ref 0), (1, .int v1), (2, .int v2), (3, .long v3)]) (st' := [.int v1]) rfl ?_
  obtain ⟨p1, e1, h⟩ := bd h
  refine Ev.calls D_180 E_149 (by decide +kernel) C_9_308 [.int v1] (r := []) rfl rfl (Nat.le_of_ble_eq_true rfl) (Nat.le_of_ble_eq_true rfl) (gL_isSlot_ok (by omega)  e1) ?_
  refine Ev.if_ D_180 (c := .ne) (off := 6) (by decide +kernel) (t := 10) rfl (fun c2 => ?_) (fun c2 => ?_)
  · have c2 : ¬ p1 = 0 := of_decide_eq_true c2
    rw [if_neg c2] at h
    refine Ev.seg D_180 [(.aload_n 0, 1)] (by decide +kernel) (j := 0) (pc' := 11) (lv' := [(0, .ref 0), (1, .int v1), (2, .int v2), (3, .long v3)]) (st' := [.ref 0]) rfl ?_
    refine Ev.getR D_180 (by decide +kernel) F_9_84 T_9_11 (x := 285) (S_oR k_0 (by decide +kernel)) ?_
    refine Ev.seg D_180 [(.iload_n 1, 1)] (by decide +kernel) (j := 0) (pc' := 15) (lv' := [(0, .ref 0), (1, .int v1), (2, .int v2), (3, .long v3)]) (st' := [.int v1, .ref 285]) rfl ?_
    by_cases b15 : ¬ (v1 < 0 ∨ 4 ≤ v1.toNatClampNeg)
    rotate_left
    · rw [if_neg b15] at h; cases h
    rw [if_pos b15] at h
    refine Ev.aald D_180 (by decide +kernel) (kd := 25) ⟨by decide, by decide⟩ (x := (286 + 2 * v1.toNatClampNeg)) (S_aR k_285 b15 (el_rwr b15)) ?_
    refine Ev.getI D_180 (by decide +kernel) F_9_311 (Or.inr T_4_1) (S_oI (rw_o (el_rw b15))) ?_
    refine Ev.if_ D_180 (c := .ne) (off := 6) (by decide +kernel) (t := 25) rfl (fun c6 => ?_) (fun c6 => ?_)
    · have c6 : ¬ (s.1 (286 + 2 * v1.toNatClampNeg) 1) = 0 := of_decide_eq_true c6
      rw [if_neg c6] at h
      refine Ev.seg D_180 [(.iload_n 2, 1)] (by decide +kernel) (j := 0) (pc' := 26) (lv' := [(0, .ref 0), (1, .int v1), (2, .int v2), (3, .long v3)]) (st' := [.int v2]) rfl ?_
      refine Ev.if_ D_180 (c := .lt) (off := 16) (by decide +kernel) (t := 42) rfl (fun c7 => ?_) (fun c7 => ?_)
      · have c7 : v2 < 0 := of_decide_eq_true c7
        rw [if_pos c7] at h
        refine Ev.seg D_180 [(.bipush (-7), 2)] (by decide +kernel) (j := 0) (pc' := 44) (lv' := [(0, .ref 0), (1, .int v1), (2, .int v2), (3, .long v3)]) (st' := [.int (-7 : Int32)]) rfl ?_
        cases h
        obtain rfl : o = _ := ho
        exact Ev.iret D_180 (by decide +kernel)
      · have c7 : ¬ v2 < 0 := of_decide_eq_false c7
        rw [if_neg c7] at h
        refine Ev.seg D_180 [(.iload_n 2, 1), (.aload_n 0, 1)] (by decide +kernel) (j := 0) (pc' := 31) (lv' := [(0, .ref 0), (1, .int v1), (2, .int v2), (3, .long v3)]) (st' := [.ref 0, .int v2]) rfl ?_
        refine Ev.getR D_180 (by decide +kernel) F_9_84 T_9_11 (x := 285) (S_oR k_0 (by decide +kernel)) ?_
        refine Ev.seg D_180 [(.iload_n 1, 1)] (by decide +kernel) (j := 0) (pc' := 35) (lv' := [(0, .ref 0), (1, .int v1), (2, .int v2), (3, .long v3)]) (st' := [.int v1, .ref 285, .int v2]) rfl ?_
        by_cases b35 : ¬ (v1 < 0 ∨ 4 ≤ v1.toNatClampNeg)
        rotate_left
        · rw [if_neg b35] at h; cases h
        rw [if_pos b35] at h
        refine Ev.aald D_180 (by decide +kernel) (kd := 25) ⟨by decide, by decide⟩ (x := (286 + 2 * v1.toNatClampNeg)) (S_aR k_285 b35 (el_rwr b35)) ?_
        refine Ev.getI D_180 (by decide +kernel) F_9_414 (Or.inl T_4_3) (S_oI (rw_o (el_rw b35))) ?_
        refine Ev.icmp D_180 (c := .lt) (off := 6) (by decide +kernel) (t := 45) rfl (fun c12 => ?_) (fun c12 => ?_)
        · have c12 : v2 < (s.1 (286 + 2 * v1.toNatClampNeg) 3) := of_decide_eq_true c12
          rw [if_pos c12] at h
          refine Ev.seg D_180 [(.aload_n 0, 1)] (by decide +kernel) (j := 0) (pc' := 46) (lv' := [(0, .ref 0), (1, .int v1), (2, .int v2), (3, .long v3)]) (st' := [.ref 0]) rfl ?_
          refine Ev.getR D_180 (by decide +kernel) F_9_84 T_9_11 (x := 285) (S_oR k_0 (by decide +kernel)) ?_
          refine Ev.seg D_180 [(.iload_n 1, 1)] (by decide +kernel) (j := 0) (pc' := 50) (lv' := [(0, .ref 0), (1, .int v1), (2, .int v2), (3, .long v3)]) (st' := [.int v1, .ref 285]) rfl ?_
          by_cases b50 : ¬ (v1 < 0 ∨ 4 ≤ v1.toNatClampNeg)
          rotate_left
          · rw [if_neg b50] at h; cases h
          rw [if_pos b50] at h
          refine Ev.aald D_180 (by decide +kernel) (kd := 25) ⟨by decide, by decide⟩ (x := (286 + 2 * v1.toNatClampNeg)) (S_aR k_285 b50 (el_rwr b50)) ?_
          refine Ev.seg D_180 [(.iload_n 2, 1), (.lload_n 3, 1)] (by decide +kernel) (j := 0) (pc' := 53) (lv' := [(0, .ref 0), (1, .int v1), (2, .int v2), (3, .long v3)]) (st' := [.long v3, .int v2, .ref (286 + 2 * v1.toNatClampNeg)]) rfl ?_
          obtain ⟨p15, e15, h⟩ := bd h
          refine Ev.callv D_180 E_70 (by decide +kernel) C_9_417 (286 + 2 * v1.toNatClampNeg) [.int v2, .long v3] (r := []) rfl (gd_o (rw_o (el_rw b50)) (by decide)) rfl (Nat.le_of_ble_eq_true rfl) (Nat.le_of_ble_eq_true rfl) (gW_put_ok (by omega) (el_rw b50) e15) ?_
          refine Ev.seg D_180 [(.aload_n 0, 1)] (by decide +kernel) (j := 0) (pc' := 57) (lv' := [(0, .ref 0), (1, .int v1), (2, .int v2), (3, .long v3)]) (st' := [.ref 0]) rfl ?_
          refine Ev.getR D_180 (by decide +kernel) F_9_56 T_9_8 (x := 225) (S_oR k_0 (by decide +kernel)) ?_
          refine Ev.seg D_180 [(.iconst (-1), 1)] (by decide +kernel) (j := 0) (pc' := 61) (lv' := [(0, .ref 0), (1, .int v1), (2, .int v2), (3, .long v3)]) (st' := [.int (-1 : Int32), .ref 225]) rfl ?_
          refine Ev.putI D_180 (by decide +kernel) F_9_411 N_5_2 T_5_2 (S_pI k_225) ?_
          refine Ev.seg D_180 [(.iconst 0, 1)] (by decide +kernel) (j := 0) (pc' := 65) (lv' := [(0, .ref 0), (1, .int v1), (2, .int v2), (3, .long v3)]) (st' := [.int (0 : Int32)]) rfl ?_
          cases h
          obtain rfl : o = _ := ho
          exact Ev.iret D_180 (by decide +kernel)
        · have c12 : ¬ v2 < (s.1 (286 + 2 * v1.toNatClampNeg) 3) := of_decide_eq_false c12
          rw [if_neg c12] at h
          refine Ev.seg D_180 [(.bipush (-7), 2)] (by decide +kernel) (j := 0) (pc' := 44) (lv' := [(0, .ref 0), (1, .int v1), (2, .int v2), (3, .long v3)]) (st' := [.int (-7 : Int32)]) rfl ?_
          cases h
          obtain rfl : o = _ := ho
          exact Ev.iret D_180 (by decide +kernel)
    · have c6 : (s.1 (286 + 2 * v1.toNatClampNeg) 1) = 0 := Decidable.of_not_not (of_decide_eq_false c6)
      rw [if_pos c6] at h
      refine Ev.seg D_180 [(.bipush (-6), 2)] (by decide +kernel) (j := 0) (pc' := 24) (lv' := [(0, .ref 0), (1, .int v1), (2, .int v2), (3, .long v3)]) (st' := [.int (-6 : Int32)]) rfl ?_
      cases h
      obtain rfl : o = _ := ho
      exact Ev.iret D_180 (by decide +kernel)
  · have c2 : p1 = 0 := Decidable.of_not_not (of_decide_eq_false c2)
    rw [if_pos c2] at h
    refine Ev.seg D_180 [(.bipush (-2), 2)] (by decide +kernel) (j := 0) (pc' := 9) (lv' := [(0, .ref 0), (1, .int v1), (2, .int v2), (3, .long v3)]) (st' := [.int (-2 : Int32)]) rfl ?_
    cases h
    obtain rfl : o = _ := ho
    exact Ev.iret D_180 (by decide +kernel)
/- PennantLawn paste: 181 -/
def gL_paste (v1 : Int32) (v2 : Int32) (v3 : Int32) (v4 : Int32) (v5 : Int32) (s : mT) : Option (Int32 × mT) :=
  (gL_isSlot v1 s).bind fun p1 =>
  if p1 = 0 then
    some (((-2 : Int32), s))
  else
    (gL_isSlot v3 s).bind fun p4 =>
    if p4 = 0 then
      some (((-2 : Int32), s))
    else
      if ¬ (v1 < 0 ∨ 4 ≤ v1.toNatClampNeg) then
        if ¬ (v3 < 0 ∨ 4 ≤ v3.toNatClampNeg) then
          if (s.1 (286 + 2 * v1.toNatClampNeg) 1) = 0 then
            some (((-6 : Int32), s))
          else
            if (s.1 (286 + 2 * v3.toNatClampNeg) 1) = 0 then
              some (((-6 : Int32), s))
            else
              if (s.1 (286 + 2 * v1.toNatClampNeg) 2) = (s.1 (286 + 2 * v3.toNatClampNeg) 2) then
                (gW_hasSpan (286 + 2 * v1.toNatClampNeg) v2 v5 s).bind fun p18 =>
                if p18 = 0 then
                  some (((-7 : Int32), s))
                else
                  (gW_hasSpan (286 + 2 * v3.toNatClampNeg) v4 v5 s).bind fun p21 =>
                  if p21 = 0 then
                    some (((-7 : Int32), s))
                  else
                    (cpL s ((286 + 2 * v1.toNatClampNeg) + 1) 60 v2 ((286 + 2 * v3.toNatClampNeg) + 1) 60 v4 v5).bind fun s25 =>
                    some (((0 : Int32), (stI s25 225 2 (-1 : Int32))))
              else
                some (((-8 : Int32), s))
        else none
      else none
set_option maxRecDepth 8000 in
theorem gL_paste_ok {L d : Nat} (hd : 2 ≤ d) {v1 : Int32} {v2 : Int32} {v3 : Int32} {v4 : Int32} {v5 : Int32} {s : mT} {p : Int32 × mT} (h : gL_paste v1 v2 v3 v4 v5 s = some p) : Ev d 181 0 [(0, .ref 0), (1, .int v1), (2, .int v2), (3, .int v3), (4, .int v4), (5, .int v5)] [] (uS L s) (some (.int p.1), uS L p.2) := by
  obtain ⟨d, rfl⟩ : ∃ e, d = e + 1 := ⟨d - 1, by omega⟩
  obtain ⟨o, ho⟩ : ∃ o : Option Value × mS, o = (some (.int p.1), uS L p.2) := ⟨_, rfl⟩
  rw [← ho]
  unfold gL_paste at h
  refine Ev.seg D_181 [(.iload_n 1, 1)] (by decide +kernel) (j := 0) (pc' := 1) (lv' := [(0, .ref 0), (1, .int v1), (2, .int v2), (3, .int v3), (4, .int v4), (5, .int v5)]) (st' := [.int v1]) rfl ?_
  obtain ⟨p1, e1, h⟩ := bd h
  refine Ev.calls D_181 E_149 (by decide +kernel) C_9_308 [.int v1] (r := []) rfl rfl (Nat.le_of_ble_eq_true rfl) (Nat.le_of_ble_eq_true rfl) (gL_isSlot_ok (by omega)  e1) ?_
  refine Ev.if_ D_181 (c := .eq) (off := 10) (by decide +kernel) (t := 14) rfl (fun c2 => ?_) (fun c2 => ?_)
  · have c2 : p1 = 0 := of_decide_eq_true c2
    rw [if_pos c2] at h
    refine Ev.seg D_181 [(.bipush (-2), 2)] (by decide +kernel) (j := 0) (pc' := 16) (lv' := [(0, .ref 0), (1, .int v1), (2, .int v2), (3, .int v3), (4, .int v4), (5, .int v5)]) (st' := [.int (-2 : Int32)]) rfl ?_
    cases h
    obtain rfl : o = _ := ho
    exact Ev.iret D_181 (by decide +kernel)
  · have c2 : ¬ p1 = 0 := of_decide_eq_false c2
    rw [if_neg c2] at h
    refine Ev.seg D_181 [(.iload_n 3, 1)] (by decide +kernel) (j := 0) (pc' := 8) (lv' := [(0, .ref 0), (1, .int v1), (2, .int v2), (3, .int v3), (4, .int v4), (5, .int v5)]) (st' := [.int v3]) rfl ?_
    obtain ⟨p4, e4, h⟩ := bd h
    refine Ev.calls D_181 E_149 (by decide +kernel) C_9_308 [.int v3] (r := []) rfl rfl (Nat.le_of_ble_eq_true rfl) (Nat.le_of_ble_eq_true rfl) (gL_isSlot_ok (by omega)  e4) ?_
    refine Ev.if_ D_181 (c := .ne) (off := 6) (by decide +kernel) (t := 17) rfl (fun c5 => ?_) (fun c5 => ?_)
    · have c5 : ¬ p4 = 0 := of_decide_eq_true c5
      rw [if_neg c5] at h
      refine Ev.seg D_181 [(.aload_n 0, 1)] (by decide +kernel) (j := 0) (pc' := 18) (lv' := [(0, .ref 0), (1, .int v1), (2, .int v2), (3, .int v3), (4, .int v4), (5, .int v5)]) (st' := [.ref 0]) rfl ?_
      refine Ev.getR D_181 (by decide +kernel) F_9_84 T_9_11 (x := 285) (S_oR k_0 (by decide +kernel)) ?_
      refine Ev.seg D_181 [(.iload_n 1, 1)] (by decide +kernel) (j := 0) (pc' := 22) (lv' := [(0, .ref 0), (1, .int v1), (2, .int v2), (3, .int v3), (4, .int v4), (5, .int v5)]) (st' := [.int v1, .ref 285]) rfl ?_
      by_cases b22 : ¬ (v1 < 0 ∨ 4 ≤ v1.toNatClampNeg)
      rotate_left
      · rw [if_neg b22] at h; cases h
      rw [if_pos b22] at h
      refine Ev.aald D_181 (by decide +kernel) (kd := 25) ⟨by decide, by decide⟩ (x := (286 + 2 * v1.toNatClampNeg)) (S_aR k_285 b22 (el_rwr b22)) ?_
      refine Ev.seg D_181 [(.astore 6, 2), (.aload_n 0, 1)] (by decide +kernel) (j := 0) (pc' := 26) (lv' := [(6, .ref (286 + 2 * v1.toNatClampNeg)), (0, .ref 0), (1, .int v1), (2, .int v2), (3, .int v3), (4, .int v4), (5, .int v5)]) (st' := [.ref 0]) rfl ?_
      refine Ev.getR D_181 (by decide +kernel) F_9_84 T_9_11 (x := 285) (S_oR k_0 (by decide +kernel)) ?_
      refine Ev.seg D_181 [(.iload_n 3, 1)] (by decide +kernel) (j := 0) (pc' := 30) (lv' := [(6, .ref (286 + 2 * v1.toNatClampNeg)), (0, .ref 0), (1, .int v1), (2, .int v2), (3, .int v3), (4, .int v4), (5, .int v5)]) (st' := [.int v3, .ref 285]) rfl ?_
      by_cases b30 : ¬ (v3 < 0 ∨ 4 ≤ v3.toNatClampNeg)
      rotate_left
      · rw [if_neg b30] at h; cases h
      rw [if_pos b30] at h
      refine Ev.aald D_181 (by decide +kernel) (kd := 25) ⟨by decide, by decide⟩ (x := (286 + 2 * v3.toNatClampNeg)) (S_aR k_285 b30 (el_rwr b30)) ?_
      refine Ev.seg D_181 [(.astore 7, 2), (.aload 6, 2)] (by decide +kernel) (j := 0) (pc' := 35) (lv' := [(7, .ref (286 + 2 * v3.toNatClampNeg)), (6, .ref (286 + 2 * v1.toNatClampNeg)), (0, .ref 0), (1, .int v1), (2, .int v2), (3, .int v3), (4, .int v4), (5, .int v5)]) (st' := [.ref (286 + 2 * v1.toNatClampNeg)]) rfl ?_
      refine Ev.getI D_181 (by decide +kernel) F_9_311 (Or.inr T_4_1) (S_oI (rw_o (el_rw b22))) ?_
      refine Ev.if_ D_181 (c := .eq) (off := 11) (by decide +kernel) (t := 49) rfl (fun c11 => ?_) (fun c11 => ?_)
      · have c11 : (s.1 (286 + 2 * v1.toNatClampNeg) 1) = 0 := of_decide_eq_true c11
        rw [if_pos c11] at h
        refine Ev.seg D_181 [(.bipush (-6), 2)] (by decide +kernel) (j := 0) (pc' := 51) (lv' := [(7, .ref (286 + 2 * v3.toNatClampNeg)), (6, .ref (286 + 2 * v1.toNatClampNeg)), (0, .ref 0), (1, .int v1), (2, .int v2), (3, .int v3), (4, .int v4), (5, .int v5)]) (st' := [.int (-6 : Int32)]) rfl ?_
        cases h
        obtain rfl : o = _ := ho
        exact Ev.iret D_181 (by decide +kernel)
      · have c11 : ¬ (s.1 (286 + 2 * v1.toNatClampNeg) 1) = 0 := of_decide_eq_false c11
        rw [if_neg c11] at h
        refine Ev.seg D_181 [(.aload 7, 2)] (by decide +kernel) (j := 0) (pc' := 43) (lv' := [(7, .ref (286 + 2 * v3.toNatClampNeg)), (6, .ref (286 + 2 * v1.toNatClampNeg)), (0, .ref 0), (1, .int v1), (2, .int v2), (3, .int v3), (4, .int v4), (5, .int v5)]) (st' := [.ref (286 + 2 * v3.toNatClampNeg)]) rfl ?_
        refine Ev.getI D_181 (by decide +kernel) F_9_311 (Or.inr T_4_1) (S_oI (rw_o (el_rw b30))) ?_
        refine Ev.if_ D_181 (c := .ne) (off := 6) (by decide +kernel) (t := 52) rfl (fun c14 => ?_) (fun c14 => ?_)
        · have c14 : ¬ (s.1 (286 + 2 * v3.toNatClampNeg) 1) = 0 := of_decide_eq_true c14
          rw [if_neg c14] at h
          refine Ev.seg D_181 [(.aload 6, 2)] (by decide +kernel) (j := 0) (pc' := 54) (lv' := [(7, .ref (286 + 2 * v3.toNatClampNeg)), (6, .ref (286 + 2 * v1.toNatClampNeg)), (0, .ref 0), (1, .int v1), (2, .int v2), (3, .int v3), (4, .int v4), (5, .int v5)]) (st' := [.ref (286 + 2 * v1.toNatClampNeg)]) rfl ?_
          refine Ev.getI D_181 (by decide +kernel) F_9_420 (Or.inl T_4_2) (S_oI (rw_o (el_rw b22))) ?_
          refine Ev.seg D_181 [(.aload 7, 2)] (by decide +kernel) (j := 0) (pc' := 59) (lv' := [(7, .ref (286 + 2 * v3.toNatClampNeg)), (6, .ref (286 + 2 * v1.toNatClampNeg)), (0, .ref 0), (1, .int v1), (2, .int v2), (3, .int v3), (4, .int v4), (5, .int v5)]) (st' := [.ref (286 + 2 * v3.toNatClampNeg), .int (s.1 (286 + 2 * v1.toNatClampNeg) 2)]) rfl ?_
          refine Ev.getI D_181 (by decide +kernel) F_9_420 (Or.inl T_4_2) (S_oI (rw_o (el_rw b30))) ?_
          refine Ev.icmp D_181 (c := .eq) (off := 6) (by decide +kernel) (t := 68) rfl (fun c17 => ?_) (fun c17 => ?_)
          · have c17 : (s.1 (286 + 2 * v1.toNatClampNeg) 2) = (s.1 (286 + 2 * v3.toNatClampNeg) 2) := of_decide_eq_true c17
            rw [if_pos c17] at h
            refine Ev.seg D_181 [(.aload 6, 2), (.iload_n 2, 1), (.iload 5, 2)] (by decide +kernel) (j := 0) (pc' := 73) (lv' := [(7, .ref (286 + 2 * v3.toNatClampNeg)), (6, .ref (286 + 2 * v1.toNatClampNeg)), (0, .ref 0), (1, .int v1), (2, .int v2), (3, .int v3), (4, .int v4), (5, .int v5)]) (st' := [.int v5, .int v2, .ref (286 + 2 * v1.toNatClampNeg)]) rfl ?_
            obtain ⟨p18, e18, h⟩ := bd h
            refine Ev.callv D_181 E_71 (by decide +kernel) C_9_423 (286 + 2 * v1.toNatClampNeg) [.int v2, .int v5] (r := []) rfl (gd_o (rw_o (el_rw b22)) (by decide)) rfl (Nat.le_of_ble_eq_true rfl) (Nat.le_of_ble_eq_true rfl) (gW_hasSpan_ok (by omega) (el_rw b22) e18) ?_
            refine Ev.if_ D_181 (c := .eq) (off := 15) (by decide +kernel) (t := 91) rfl (fun c19 => ?_) (fun c19 => ?_)
            · have c19 : p18 = 0 := of_decide_eq_true c19
              rw [if_pos c19] at h
              refine Ev.seg D_181 [(.bipush (-7), 2)] (by decide +kernel) (j := 0) (pc' := 93) (lv' := [(7, .ref (286 + 2 * v3.toNatClampNeg)), (6, .ref (286 + 2 * v1.toNatClampNeg)), (0, .ref 0), (1, .int v1), (2, .int v2), (3, .int v3), (4, .int v4), (5, .int v5)]) (st' := [.int (-7 : Int32)]) rfl ?_
              cases h
              obtain rfl : o = _ := ho
              exact Ev.iret D_181 (by decide +kernel)
            · have c19 : ¬ p18 = 0 := of_decide_eq_false c19
              rw [if_neg c19] at h
              refine Ev.seg D_181 [(.aload 7, 2), (.iload 4, 2), (.iload 5, 2)] (by decide +kernel) (j := 0) (pc' := 85) (lv' := [(7, .ref (286 + 2 * v3.toNatClampNeg)), (6, .ref (286 + 2 * v1.toNatClampNeg)), (0, .ref 0), (1, .int v1), (2, .int v2), (3, .int v3), (4, .int v4), (5, .int v5)]) (st' := [.int v5, .int v4, .ref (286 + 2 * v3.toNatClampNeg)]) rfl ?_
              obtain ⟨p21, e21, h⟩ := bd h
              refine Ev.callv D_181 E_71 (by decide +kernel) C_9_423 (286 + 2 * v3.toNatClampNeg) [.int v4, .int v5] (r := []) rfl (gd_o (rw_o (el_rw b30)) (by decide)) rfl (Nat.le_of_ble_eq_true rfl) (Nat.le_of_ble_eq_true rfl) (gW_hasSpan_ok (by omega) (el_rw b30) e21) ?_
              refine Ev.if_ D_181 (c := .ne) (off := 6) (by decide +kernel) (t := 94) rfl (fun c22 => ?_) (fun c22 => ?_)
              · have c22 : ¬ p21 = 0 := of_decide_eq_true c22
                rw [if_neg c22] at h
                refine Ev.seg D_181 [(.aload 6, 2)] (by decide +kernel) (j := 0) (pc' := 96) (lv' := [(7, .ref (286 + 2 * v3.toNatClampNeg)), (6, .ref (286 + 2 * v1.toNatClampNeg)), (0, .ref 0), (1, .int v1), (2, .int v2), (3, .int v3), (4, .int v4), (5, .int v5)]) (st' := [.ref (286 + 2 * v1.toNatClampNeg)]) rfl ?_
                refine Ev.getR D_181 (by decide +kernel) F_9_426 T_4_0 (x := ((286 + 2 * v1.toNatClampNeg) + 1)) (S_oR (rw_o (el_rw b22)) (rw_r2 (el_rw b22) 0 1 (by decide +kernel))) ?_
                refine Ev.seg D_181 [(.iload_n 2, 1), (.aload 7, 2)] (by decide +kernel) (j := 0) (pc' := 102) (lv' := [(7, .ref (286 + 2 * v3.toNatClampNeg)), (6, .ref (286 + 2 * v1.toNatClampNeg)), (0, .ref 0), (1, .int v1), (2, .int v2), (3, .int v3), (4, .int v4), (5, .int v5)]) (st' := [.ref (286 + 2 * v3.toNatClampNeg), .int v2, .ref ((286 + 2 * v1.toNatClampNeg) + 1)]) rfl ?_
                refine Ev.getR D_181 (by decide +kernel) F_9_426 T_4_0 (x := ((286 + 2 * v3.toNatClampNeg) + 1)) (S_oR (rw_o (el_rw b30)) (rw_r2 (el_rw b30) 0 1 (by decide +kernel))) ?_
                refine Ev.seg D_181 [(.iload 4, 2), (.iload 5, 2)] (by decide +kernel) (j := 0) (pc' := 109) (lv' := [(7, .ref (286 + 2 * v3.toNatClampNeg)), (6, .ref (286 + 2 * v1.toNatClampNeg)), (0, .ref 0), (1, .int v1), (2, .int v2), (3, .int v3), (4, .int v4), (5, .int v5)]) (st' := [.int v5, .int v4, .ref ((286 + 2 * v3.toNatClampNeg) + 1), .int v2, .ref ((286 + 2 * v1.toNatClampNeg) + 1)]) rfl ?_
                obtain ⟨s25, e25, h⟩ := bd h
                refine Ev.cpL D_181 (by decide +kernel) (Nat.succ_pos _) C_9_430 (Nat.le_of_ble_eq_true rfl) (S_cpL (rw_k (el_rw b22) 1 _ (by decide +kernel)) (rw_k (el_rw b30) 1 _ (by decide +kernel)) e25) ?_
                refine Ev.seg D_181 [(.aload_n 0, 1)] (by decide +kernel) (j := 0) (pc' := 113) (lv' := [(7, .ref (286 + 2 * v3.toNatClampNeg)), (6, .ref (286 + 2 * v1.toNatClampNeg)), (0, .ref 0), (1, .int v1), (2, .int v2), (3, .int v3), (4, .int v4), (5, .int v5)]) (st' := [.ref 0]) rfl ?_
                refine Ev.getR D_181 (by decide +kernel) F_9_56 T_9_8 (x := 225) (S_oR k_0 (by decide +kernel)) ?_
                refine Ev.seg D_181 [(.iconst (-1), 1)] (by decide +kernel) (j := 0) (pc' := 117) (lv' := [(7, .ref (286 + 2 * v3.toNatClampNeg)), (6, .ref (286 + 2 * v1.toNatClampNeg)), (0, .ref 0), (1, .int v1), (2, .int v2), (3, .int v3), (4, .int v4), (5, .int v5)]) (st' := [.int (-1 : Int32), .ref 225]) rfl ?_
                refine Ev.putI D_181 (by decide +kernel) F_9_411 N_5_2 T_5_2 (S_pI k_225) ?_
                refine Ev.seg D_181 [(.iconst 0, 1)] (by decide +kernel) (j := 0) (pc' := 121) (lv' := [(7, .ref (286 + 2 * v3.toNatClampNeg)), (6, .ref (286 + 2 * v1.toNatClampNeg)), (0, .ref 0), (1, .int v1), (2, .int v2), (3, .int v3), (4, .int v4), (5, .int v5)]) (st' := [.int (0 : Int32)]) rfl ?_
                cases h
                obtain rfl : o = _ := ho
                exact Ev.iret D_181 (by decide +kernel)
              · have c22 : p21 = 0 := Decidable.of_not_not (of_decide_eq_false c22)
                rw [if_pos c22] at h
                refine Ev.seg D_181 [(.bipush (-7), 2)] (by decide +kernel) (j := 0) (pc' := 93) (lv' := [(7, .ref (286 + 2 * v3.toNatClampNeg)), (6, .ref (286 + 2 * v1.toNatClampNeg)), (0, .ref 0), (1, .int v1), (2, .int v2), (3, .int v3), (4, .int v4), (5, .int v5)]) (st' := [.int (-7 : Int32)]) rfl ?_
                cases h
                obtain rfl : o = _ := ho
                exact Ev.iret D_181 (by decide +kernel)
          · have c17 : ¬ (s.1 (286 + 2 * v1.toNatClampNeg) 2) = (s.1 (286 + 2 * v3.toNatClampNeg) 2) := of_decide_eq_false c17
            rw [if_neg c17] at h
            refine Ev.seg D_181 [(.bipush (-8), 2)] (by decide +kernel) (j := 0) (pc' := 67) (lv' := [(7, .ref (286 + 2 * v3.toNatClampNeg)), (6, .ref (286 + 2 * v1.toNatClampNeg)), (0, .ref 0), (1, .int v1), (2, .int v2), (3, .int v3), (4, .int v4), (5, .int v5)]) (st' := [.int (-8 : Int32)]) rfl ?_
            cases h
            obtain rfl : o = _ := ho
            exact Ev.iret D_181 (by decide +kernel)
        · have c14 : (s.1 (286 + 2 * v3.toNatClampNeg) 1) = 0 := Decidable.of_not_not (of_decide_eq_false c14)
          rw [if_pos c14] at h
          refine Ev.seg D_181 [(.bipush (-6), 2)] (by decide +kernel) (j := 0) (pc' := 51) (lv' := [(7, .ref (286 + 2 * v3.toNatClampNeg)), (6, .ref (286 + 2 * v1.toNatClampNeg)), (0, .ref 0), (1, .int v1), (2, .int v2), (3, .int v3), (4, .int v4), (5, .int v5)]) (st' := [.int (-6 : Int32)]) rfl ?_
          cases h
          obtain rfl : o = _ := ho
          exact Ev.iret D_181 (by decide +kernel)
    · have c5 : p4 = 0 := Decidable.of_not_not (of_decide_eq_false c5)
      rw [if_pos c5] at h
      refine Ev.seg D_181 [(.bipush (-2), 2)] (by decide +kernel) (j := 0) (pc' := 16) (lv' := [(0, .ref 0), (1, .int v1), (2, .int v2), (3, .int v3), (4, .int v4), (5, .int v5)]) (st' := [.int (-2 : Int32)]) rfl ?_
      cases h
      obtain rfl : o = _ := ho
      exact Ev.iret D_181 (by decide +kernel)
/- PennantLawnModel in: 184 -/
def gM_in (v0 : Int64) (v2 : Int64) (v4 : Int64) (s : mT) : Option (Int32) :=
  (
    if (lg_cmp v0 v2) < 0 then
      some ((0 : Int32))
    else
      if 0 < (lg_cmp v0 v4) then
        some ((0 : Int32))
      else
        some ((1 : Int32)) : Option (Int32)).bind fun x1 =>
  if x1 = 0 ∨ x1 = 1 then some (x1) else none
set_option maxRecDepth 8000 in
theorem gM_in_ok {L d : Nat} (hd : 1 ≤ d) {v0 : Int64} {v2 : Int64} {v4 : Int64} {s : mT} {p : Int32} (h : gM_in v0 v2 v4 s = some p) : Ev d 184 0 [(0, .long v0), (2, .long v2), (4, .long v4)] [] (uS L s) (some (.int p), uS L s) := by
  obtain ⟨d, rfl⟩ : ∃ e, d = e + 1 := ⟨d - 1, by omega⟩
  obtain ⟨o, ho⟩ : ∃ o : Option Value × mS, o = (some (.int p), uS L s) := ⟨_, rfl⟩
  rw [← ho]
  unfold gM_in at h
  refine Ev.seg D_184 [(.lload_n 0, 1), (.lload_n 2, 1), (.lcmp, 1)] (by decide +kernel) (j := 0) (pc' := 3) (lv' := [(0, .long v0), (2, .long v2), (4, .long v4)]) (st' := [.int (lg_cmp v0 v2)]) rfl ?_
  obtain ⟨x1, g1, h⟩ := bd h
  have j1 : Ev (d + 1) 184 18 [] [.int x1] (uS L s) o := by
    clear g1
    by_cases c3 : x1 = 0 ∨ x1 = 1
    · rw [if_pos c3] at h
      cases h
      obtain rfl : o = _ := ho
      exact Ev.zret D_184 c3 (by decide +kernel)
    · rw [if_neg c3] at h; cases h
  clear h
  refine Ev.if_ D_184 (c := .lt) (off := 14) (by decide +kernel) (t := 17) rfl (fun c1 => ?_) (fun c1 => ?_)
  · have c1 : (lg_cmp v0 v2) < 0 := of_decide_eq_true c1
    rw [if_pos c1] at g1
    refine Ev.seg D_184 [(.iconst 0, 1)] (by decide +kernel) (j := 0) (pc' := 18) (lv' := [(0, .long v0), (2, .long v2), (4, .long v4)]) (st' := [.int (0 : Int32)]) rfl ?_
    cases g1
    exact Ev.sub2 j1 subL_nil
  · have c1 : ¬ (lg_cmp v0 v2) < 0 := of_decide_eq_false c1
    rw [if_neg c1] at g1
    refine Ev.seg D_184 [(.lload_n 0, 1), (.lload 4, 2), (.lcmp, 1)] (by decide +kernel) (j := 0) (pc' := 10) (lv' := [(0, .long v0), (2, .long v2), (4, .long v4)]) (st' := [.int (lg_cmp v0 v4)]) rfl ?_
    refine Ev.if_ D_184 (c := .gt) (off := 7) (by decide +kernel) (t := 17) rfl (fun c2 => ?_) (fun c2 => ?_)
    · have c2 : 0 < (lg_cmp v0 v4) := of_decide_eq_true c2
      rw [if_pos c2] at g1
      refine Ev.seg D_184 [(.iconst 0, 1)] (by decide +kernel) (j := 0) (pc' := 18) (lv' := [(0, .long v0), (2, .long v2), (4, .long v4)]) (st' := [.int (0 : Int32)]) rfl ?_
      cases g1
      exact Ev.sub2 j1 subL_nil
    · have c2 : ¬ 0 < (lg_cmp v0 v4) := of_decide_eq_false c2
      rw [if_neg c2] at g1
      refine Ev.seg D_184 [(.iconst 1, 1), (.goto 4, 3)] (by decide +kernel) (j := 0) (pc' := 18) (lv' := [(0, .long v0), (2, .long v2), (4, .long v4)]) (st' := [.int (1 : Int32)]) rfl ?_
      cases g1
      exact Ev.sub2 j1 subL_nil
/- PennantLawnModel image: 183 -/
def gM_image_h17 (v1 : Int32) (q : Int32 × mT) : Option ((Int32 × mT) ⊕ (mT)) :=
  if (79 : Int32) ≤ q.1 then
    some (.inr q.2)
  else
    (rdI (q.2.1 295) 79 q.1).bind fun x4 =>
    (wrI q.2 296 237 (((79 : Int32) * v1) + q.1) x4).bind fun s5 =>
    some (.inl (q.1 + (1 : Int32), s5))
set_option maxRecDepth 8000 in
theorem gM_image_h17_ok {L d : Nat} (hd : 2 ≤ d + 1) {v1 : Int32} : ∀ (q : Int32 × mT) (x : (Int32 × mT) ⊕ (mT)), gM_image_h17 v1 q = some x → ∀ o, sK (fun q => Ev (d + 1) 183 17 [(0, .ref 294), (1, .int v1), (2, .int q.1)] [] (uS L q.2) o) (fun r => Ev (d + 1) 183 46 [(0, .ref 294), (1, .int v1)] [] (uS L r) o) x → Ev (d + 1) 183 17 [(0, .ref 294), (1, .int v1), (2, .int q.1)] [] (uS L q.2) o := by
  intro q x h o ho
  unfold gM_image_h17 at h
  refine Ev.seg D_183 [(.iload_n 2, 1), (.bipush 79, 2)] (by decide +kernel) (j := 0) (pc' := 20) (lv' := [(0, .ref 294), (1, .int v1), (2, .int q.1)]) (st' := [.int (79 : Int32), .int q.1]) rfl ?_
  refine Ev.icmp D_183 (c := .ge) (off := 26) (by decide +kernel) (t := 46) rfl (fun c1 => ?_) (fun c1 => ?_)
  · have c1 : (79 : Int32) ≤ q.1 := of_decide_eq_true c1
    rw [if_pos c1] at h
    cases h
    exact Ev.sub (lv' := [(0, .ref 294), (1, .int v1)]) (subL_cons rfl (subL_cons rfl subL_nil)) ho
  · have c1 : ¬ (79 : Int32) ≤ q.1 := of_decide_eq_false c1
    rw [if_neg c1] at h
    refine Ev.seg D_183 [(.aload_n 0, 1)] (by decide +kernel) (j := 0) (pc' := 24) (lv' := [(0, .ref 294), (1, .int v1), (2, .int q.1)]) (st' := [.ref 294]) rfl ?_
    refine Ev.getR D_183 (by decide +kernel) F_10_13 T_10_2 (x := 296) (S_oR k_294 (by decide +kernel)) ?_
    refine Ev.seg D_183 [(.bipush 79, 2), (.iload_n 1, 1), (.imul, 1), (.iload_n 2, 1), (.iadd, 1), (.aload_n 0, 1)] (by decide +kernel) (j := 0) (pc' := 34) (lv' := [(0, .ref 294), (1, .int v1), (2, .int q.1)]) (st' := [.ref 294, .int (((79 : Int32) * v1) + q.1), .ref 296]) rfl ?_
    refine Ev.getR D_183 (by decide +kernel) F_10_9 T_10_1 (x := 295) (S_oR k_294 (by decide +kernel)) ?_
    refine Ev.seg D_183 [(.iload_n 2, 1)] (by decide +kernel) (j := 0) (pc' := 38) (lv' := [(0, .ref 294), (1, .int v1), (2, .int q.1)]) (st' := [.int q.1, .ref 295, .int (((79 : Int32) * v1) + q.1), .ref 296]) rfl ?_
    obtain ⟨x4, e4, h⟩ := bd h
    refine Ev.iald D_183 (by decide +kernel) (S_aI k_295 e4) ?_
    obtain ⟨s5, e5, h⟩ := bd h
    refine Ev.iast D_183 (by decide +kernel) (S_sI k_296 e5) ?_
    refine Ev.seg D_183 [(.iinc 2 1, 3), (.goto (-26), 3)] (by decide +kernel) (j := 0) (pc' := 17) (lv' := [(2, .int (q.1 + (1 : Int32))), (0, .ref 294), (1, .int v1)]) (st' := []) rfl ?_
    cases h
    exact Ev.sub (lv' := [(0, .ref 294), (1, .int v1), (2, .int (q.1 + (1 : Int32)))]) (subL_cons rfl (subL_cons rfl (subL_cons rfl subL_nil))) ho
theorem gM_image_h17_w {L d : Nat} (hd : 2 ≤ d + 1) {v1 : Int32} : ∀ (n : Nat) (q : Int32 × mT) (r : mT), wh n (gM_image_h17 v1) q = some r → ∀ o, (fun r => Ev (d + 1) 183 46 [(0, .ref 294), (1, .int v1)] [] (uS L r) o) r → Ev (d + 1) 183 17 [(0, .ref 294), (1, .int v1), (2, .int q.1)] [] (uS L q.2) o :=
  fun n q r h o hc => wh_ev (E := fun (q : Int32 × mT) o => Ev (d + 1) 183 17 [(0, .ref 294), (1, .int v1), (2, .int q.1)] [] (uS L q.2) o) (C := fun (r : mT) o => (fun r => Ev (d + 1) 183 46 [(0, .ref 294), (1, .int v1)] [] (uS L r) o) r) (gM_image_h17_ok hd  ) n q r h o hc
def gM_image (v1 : Int32) (s : mT) : Option (Int32 × mT) :=
  (gM_in v1.toInt64 (0 : Int64) (2 : Int64) s).bind fun p2 =>
  if p2 = 0 then
    some (((-2 : Int32), s))
  else
    (wh FU (gM_image_h17 v1) ((0 : Int32), s)).bind fun x6 =>
    (wrI x6 297 3 v1 (vp_nar .boolean (1 : Int32))).bind fun s8 =>
    some (((0 : Int32), s8))
set_option maxRecDepth 8000 in
theorem gM_image_ok {L d : Nat} (hd : 2 ≤ d) {v1 : Int32} {s : mT} {p : Int32 × mT} (h : gM_image v1 s = some p) : Ev d 183 0 [(0, .ref 294), (1, .int v1)] [] (uS L s) (some (.int p.1), uS L p.2) := by
  obtain ⟨d, rfl⟩ : ∃ e, d = e + 1 := ⟨d - 1, by omega⟩
  obtain ⟨o, ho⟩ : ∃ o : Option Value × mS, o = (some (.int p.1), uS L p.2) := ⟨_, rfl⟩
  rw [← ho]
  unfold gM_image at h
  refine Ev.seg D_183 [(.iload_n 1, 1), (.i2l, 1), (.lconst 0, 1)] (by decide +kernel) (j := 0) (pc' := 3) (lv' := [(0, .ref 294), (1, .int v1)]) (st' := [.long (0 : Int64), .long v1.toInt64]) rfl ?_
  refine Ev.ldc2 D_183 (i := 86) (by decide +kernel) (x := (2 : Int64)) (by decide +kernel) ?_
  obtain ⟨p2, e2, h⟩ := bd h
  refine Ev.calls D_183 E_184 (by decide +kernel) C_10_88 [.long v1.toInt64, .long (0 : Int64), .long (2 : Int64)] (r := []) rfl rfl (Nat.le_of_ble_eq_true rfl) (Nat.le_of_ble_eq_true rfl) (gM_in_ok (by omega)  e2) ?_
  refine Ev.if_ D_183 (c := .ne) (off := 6) (by decide +kernel) (t := 15) rfl (fun c3 => ?_) (fun c3 => ?_)
  · have c3 : ¬ p2 = 0 := of_decide_eq_true c3
    rw [if_neg c3] at h
    refine Ev.seg D_183 [(.iconst 0, 1), (.istore_n 2, 1)] (by decide +kernel) (j := 0) (pc' := 17) (lv' := [(2, .int (0 : Int32)), (0, .ref 294), (1, .int v1)]) (st' := []) rfl ?_
    obtain ⟨x6, w6, h⟩ := bd h
    have j6 : Ev (d + 1) 183 46 [(0, .ref 294), (1, .int v1)] [] (uS L x6) o := by
      clear w6
      refine Ev.seg D_183 [(.aload_n 0, 1)] (by decide +kernel) (j := 0) (pc' := 47) (lv' := [(0, .ref 294), (1, .int v1)]) (st' := [.ref 294]) rfl ?_
      refine Ev.getR D_183 (by decide +kernel) F_10_16 T_10_3 (x := 297) (S_oR k_294 (by decide +kernel)) ?_
      refine Ev.seg D_183 [(.iload_n 1, 1), (.iconst 1, 1)] (by decide +kernel) (j := 0) (pc' := 52) (lv' := [(0, .ref 294), (1, .int v1)]) (st' := [.int (1 : Int32), .int v1, .ref 297]) rfl ?_
      obtain ⟨s8, e8, h⟩ := bd h
      refine Ev.zast D_183 (by decide +kernel) (S_sZ k_297 e8) ?_
      refine Ev.seg D_183 [(.iconst 0, 1)] (by decide +kernel) (j := 0) (pc' := 54) (lv' := [(0, .ref 294), (1, .int v1)]) (st' := [.int (0 : Int32)]) rfl ?_
      cases h
      obtain rfl : o = _ := ho
      exact Ev.iret D_183 (by decide +kernel)
    exact Ev.sub (lv' := [(0, .ref 294), (1, .int v1), (2, .int (0 : Int32))]) (subL_cons rfl (subL_cons rfl (subL_cons rfl subL_nil))) (gM_image_h17_w hd   _ _ _ w6 _ j6)
  · have c3 : p2 = 0 := Decidable.of_not_not (of_decide_eq_false c3)
    rw [if_pos c3] at h
    refine Ev.seg D_183 [(.bipush (-2), 2)] (by decide +kernel) (j := 0) (pc' := 14) (lv' := [(0, .ref 294), (1, .int v1)]) (st' := [.int (-2 : Int32)]) rfl ?_
    cases h
    obtain rfl : o = _ := ho
    exact Ev.iret D_183 (by decide +kernel)
/- PennantLawnModel back: 185 -/
def gM_back_h29 (v1 : Int32) (q : Int32 × mT) : Option ((Int32 × mT) ⊕ (mT)) :=
  if (79 : Int32) ≤ q.1 then
    some (.inr q.2)
  else
    (rdI (q.2.1 296) 237 (((79 : Int32) * v1) + q.1)).bind fun x4 =>
    (wrI q.2 295 79 q.1 x4).bind fun s5 =>
    some (.inl (q.1 + (1 : Int32), s5))
set_option maxRecDepth 8000 in
theorem gM_back_h29_ok {L d : Nat} (hd : 2 ≤ d + 1) {v1 : Int32} : ∀ (q : Int32 × mT) (x : (Int32 × mT) ⊕ (mT)), gM_back_h29 v1 q = some x → ∀ o, sK (fun q => Ev (d + 1) 185 29 [(0, .ref 294), (1, .int v1), (2, .int q.1)] [] (uS L q.2) o) (fun r => Ev (d + 1) 185 58 [] [] (uS L r) o) x → Ev (d + 1) 185 29 [(0, .ref 294), (1, .int v1), (2, .int q.1)] [] (uS L q.2) o := by
  intro q x h o ho
  unfold gM_back_h29 at h
  refine Ev.seg D_185 [(.iload_n 2, 1), (.bipush 79, 2)] (by decide +kernel) (j := 0) (pc' := 32) (lv' := [(0, .ref 294), (1, .int v1), (2, .int q.1)]) (st' := [.int (79 : Int32), .int q.1]) rfl ?_
  refine Ev.icmp D_185 (c := .ge) (off := 26) (by decide +kernel) (t := 58) rfl (fun c1 => ?_) (fun c1 => ?_)
  · have c1 : (79 : Int32) ≤ q.1 := of_decide_eq_true c1
    rw [if_pos c1] at h
    cases h
    exact Ev.sub (lv' := []) subL_nil ho
  · have c1 : ¬ (79 : Int32) ≤ q.1 := of_decide_eq_false c1
    rw [if_neg c1] at h
    refine Ev.seg D_185 [(.aload_n 0, 1)] (by decide +kernel) (j := 0) (pc' := 36) (lv' := [(0, .ref 294), (1, .int v1), (2, .int q.1)]) (st' := [.ref 294]) rfl ?_
    refine Ev.getR D_185 (by decide +kernel) F_10_9 T_10_1 (x := 295) (S_oR k_294 (by decide +kernel)) ?_
    refine Ev.seg D_185 [(.iload_n 2, 1), (.aload_n 0, 1)] (by decide +kernel) (j := 0) (pc' := 41) (lv' := [(0, .ref 294), (1, .int v1), (2, .int q.1)]) (st' := [.ref 294, .int q.1, .ref 295]) rfl ?_
    refine Ev.getR D_185 (by decide +kernel) F_10_13 T_10_2 (x := 296) (S_oR k_294 (by decide +kernel)) ?_
    refine Ev.seg D_185 [(.bipush 79, 2), (.iload_n 1, 1), (.imul, 1), (.iload_n 2, 1), (.iadd, 1)] (by decide +kernel) (j := 0) (pc' := 50) (lv' := [(0, .ref 294), (1, .int v1), (2, .int q.1)]) (st' := [.int (((79 : Int32) * v1) + q.1), .ref 296, .int q.1, .ref 295]) rfl ?_
    obtain ⟨x4, e4, h⟩ := bd h
    refine Ev.iald D_185 (by decide +kernel) (S_aI k_296 e4) ?_
    obtain ⟨s5, e5, h⟩ := bd h
    refine Ev.iast D_185 (by decide +kernel) (S_sI k_295 e5) ?_
    refine Ev.seg D_185 [(.iinc 2 1, 3), (.goto (-26), 3)] (by decide +kernel) (j := 0) (pc' := 29) (lv' := [(2, .int (q.1 + (1 : Int32))), (0, .ref 294), (1, .int v1)]) (st' := []) rfl ?_
    cases h
    exact Ev.sub (lv' := [(0, .ref 294), (1, .int v1), (2, .int (q.1 + (1 : Int32)))]) (subL_cons rfl (subL_cons rfl (subL_cons rfl subL_nil))) ho
theorem gM_back_h29_w {L d : Nat} (hd : 2 ≤ d + 1) {v1 : Int32} : ∀ (n : Nat) (q : Int32 × mT) (r : mT), wh n (gM_back_h29 v1) q = some r → ∀ o, (fun r => Ev (d + 1) 185 58 [] [] (uS L r) o) r → Ev (d + 1) 185 29 [(0, .ref 294), (1, .int v1), (2, .int q.1)] [] (uS L q.2) o :=
  fun n q r h o hc => wh_ev (E := fun (q : Int32 × mT) o => Ev (d + 1) 185 29 [(0, .ref 294), (1, .int v1), (2, .int q.1)] [] (uS L q.2) o) (C := fun (r : mT) o => (fun r => Ev (d + 1) 185 58 [] [] (uS L r) o) r) (gM_back_h29_ok hd  ) n q r h o hc
def gM_back (v1 : Int32) (s : mT) : Option (Int32 × mT) :=
  (gM_in v1.toInt64 (0 : Int64) (2 : Int64) s).bind fun p2 =>
  if p2 = 0 then
    some (((-2 : Int32), s))
  else
    (rdI (s.1 297) 3 v1).bind fun x5 =>
    if x5 = 0 then
      some (((-6 : Int32), s))
    else
      (wh FU (gM_back_h29 v1) ((0 : Int32), s)).bind fun x7 =>
      some (((0 : Int32), x7))
set_option maxRecDepth 8000 in
theorem gM_back_ok {L d : Nat} (hd : 2 ≤ d) {v1 : Int32} {s : mT} {p : Int32 × mT} (h : gM_back v1 s = some p) : Ev d 185 0 [(0, .ref 294), (1, .int v1)] [] (uS L s) (some (.int p.1), uS L p.2) := by
  obtain ⟨d, rfl⟩ : ∃ e, d = e + 1 := ⟨d - 1, by omega⟩
  obtain ⟨o, ho⟩ : ∃ o : Option Value × mS, o = (some (.int p.1), uS L p.2) := ⟨_, rfl⟩
  rw [← ho]
  unfold gM_back at h
  refine Ev.seg D_185 [(.iload_n 1, 1), (.i2l, 1), (.lconst 0, 1)] (by decide +kernel) (j := 0) (pc' := 3) (lv' := [(0, .ref 294), (1, .int v1)]) (st' := [.long (0 : Int64), .long v1.toInt64]) rfl ?_
  refine Ev.ldc2 D_185 (i := 86) (by decide +kernel) (x := (2 : Int64)) (by decide +kernel) ?_
  obtain ⟨p2, e2, h⟩ := bd h
  refine Ev.calls D_185 E_184 (by decide +kernel) C_10_88 [.long v1.toInt64, .long (0 : Int64), .long (2 : Int64)] (r := []) rfl rfl (Nat.le_of_ble_eq_true rfl) (Nat.le_of_ble_eq_true rfl) (gM_in_ok (by omega)  e2) ?_
  refine Ev.if_ D_185 (c := .ne) (off := 6) (by decide +kernel) (t := 15) rfl (fun c3 => ?_) (fun c3 => ?_)
  · have c3 : ¬ p2 = 0 := of_decide_eq_true c3
    rw [if_neg c3] at h
    refine Ev.seg D_185 [(.aload_n 0, 1)] (by decide +kernel) (j := 0) (pc' := 16) (lv' := [(0, .ref 294), (1, .int v1)]) (st' := [.ref 294]) rfl ?_
    refine Ev.getR D_185 (by decide +kernel) F_10_16 T_10_3 (x := 297) (S_oR k_294 (by decide +kernel)) ?_
    refine Ev.seg D_185 [(.iload_n 1, 1)] (by decide +kernel) (j := 0) (pc' := 20) (lv' := [(0, .ref 294), (1, .int v1)]) (st' := [.int v1, .ref 297]) rfl ?_
    obtain ⟨x5, e5, h⟩ := bd h
    refine Ev.zald D_185 (by decide +kernel) (S_aZ k_297 e5) ?_
    refine Ev.if_ D_185 (c := .ne) (off := 6) (by decide +kernel) (t := 27) rfl (fun c6 => ?_) (fun c6 => ?_)
    · have c6 : ¬ x5 = 0 := of_decide_eq_true c6
      rw [if_neg c6] at h
      refine Ev.seg D_185 [(.iconst 0, 1), (.istore_n 2, 1)] (by decide +kernel) (j := 0) (pc' := 29) (lv' := [(2, .int (0 : Int32)), (0, .ref 294), (1, .int v1)]) (st' := []) rfl ?_
      obtain ⟨x7, w7, h⟩ := bd h
      have j7 : Ev (d + 1) 185 58 [] [] (uS L x7) o := by
        clear w7
        refine Ev.seg D_185 [(.iconst 0, 1)] (by decide +kernel) (j := 0) (pc' := 59) (lv' := []) (st' := [.int (0 : Int32)]) rfl ?_
        cases h
        obtain rfl : o = _ := ho
        exact Ev.iret D_185 (by decide +kernel)
      exact Ev.sub (lv' := [(0, .ref 294), (1, .int v1), (2, .int (0 : Int32))]) (subL_cons rfl (subL_cons rfl (subL_cons rfl subL_nil))) (gM_back_h29_w hd   _ _ _ w7 _ j7)
    · have c6 : x5 = 0 := Decidable.of_not_not (of_decide_eq_false c6)
      rw [if_pos c6] at h
      refine Ev.seg D_185 [(.bipush (-6), 2)] (by decide +kernel) (j := 0) (pc' := 26) (lv' := [(0, .ref 294), (1, .int v1)]) (st' := [.int (-6 : Int32)]) rfl ?_
      cases h
      obtain rfl : o = _ := ho
      exact Ev.iret D_185 (by decide +kernel)
  · have c3 : p2 = 0 := Decidable.of_not_not (of_decide_eq_false c3)
    rw [if_pos c3] at h
    refine Ev.seg D_185 [(.bipush (-2), 2)] (by decide +kernel) (j := 0) (pc' := 14) (lv' := [(0, .ref 294), (1, .int v1)]) (st' := [.int (-2 : Int32)]) rfl ?_
    cases h
    obtain rfl : o = _ := ho
    exact Ev.iret D_185 (by decide +kernel)
/- PennantLawnModel feed: 186 -/
def gM_feed_h55  (q : Int32 × mT) : Option ((Int32 × mT) ⊕ (mT)) :=
  if (20 : Int32) ≤ q.1 then
    some (.inr q.2)
  else
    if (4 : Int32) = 0 then none else
    (rdI (q.2.1 299) 5 (q.1 / (4 : Int32))).bind fun x6 =>
    if (4 : Int32) = 0 then none else
    (wrI q.2 298 600 ((q.2.1 294 5) + q.1) (vp_nar .byte ((x6 >>> (((24 : Int32) - ((8 : Int32) * (q.1 - q.1 / (4 : Int32) * (4 : Int32)))) &&& 31)).toInt8.toInt32))).bind fun s8 =>
    some (.inl (q.1 + (1 : Int32), s8))
set_option maxRecDepth 8000 in
theorem gM_feed_h55_ok {L d : Nat} (hd : 1 ≤ d + 1)  : ∀ (q : Int32 × mT) (x : (Int32 × mT) ⊕ (mT)), gM_feed_h55 q = some x → ∀ o, sK (fun q => Ev (d + 1) 186 55 [(0, .ref 294), (6, .int q.1)] [] (uS L q.2) o) (fun r => Ev (d + 1) 186 101 [(0, .ref 294)] [] (uS L r) o) x → Ev (d + 1) 186 55 [(0, .ref 294), (6, .int q.1)] [] (uS L q.2) o := by
  intro q x h o ho
  unfold gM_feed_h55 at h
  refine Ev.seg D_186 [(.iload 6, 2), (.bipush 20, 2)] (by decide +kernel) (j := 0) (pc' := 59) (lv' := [(0, .ref 294), (6, .int q.1)]) (st' := [.int (20 : Int32), .int q.1]) rfl ?_
  refine Ev.icmp D_186 (c := .ge) (off := 42) (by decide +kernel) (t := 101) rfl (fun c1 => ?_) (fun c1 => ?_)
  · have c1 : (20 : Int32) ≤ q.1 := of_decide_eq_true c1
    rw [if_pos c1] at h
    cases h
    exact Ev.sub (lv' := [(0, .ref 294)]) (subL_cons rfl subL_nil) ho
  · have c1 : ¬ (20 : Int32) ≤ q.1 := of_decide_eq_false c1
    rw [if_neg c1] at h
    refine Ev.seg D_186 [(.aload_n 0, 1)] (by decide +kernel) (j := 0) (pc' := 63) (lv' := [(0, .ref 294), (6, .int q.1)]) (st' := [.ref 294]) rfl ?_
    refine Ev.getR D_186 (by decide +kernel) F_10_20 T_10_4 (x := 298) (S_oR k_294 (by decide +kernel)) ?_
    refine Ev.seg D_186 [(.aload_n 0, 1)] (by decide +kernel) (j := 0) (pc' := 67) (lv' := [(0, .ref 294), (6, .int q.1)]) (st' := [.ref 294, .ref 298]) rfl ?_
    refine Ev.getI D_186 (by decide +kernel) F_10_106 (Or.inl T_10_5) (S_oI k_294) ?_
    refine Ev.seg D_186 [(.iload 6, 2), (.iadd, 1), (.aload_n 0, 1)] (by decide +kernel) (j := 0) (pc' := 74) (lv' := [(0, .ref 294), (6, .int q.1)]) (st' := [.ref 294, .int ((q.2.1 294 5) + q.1), .ref 298]) rfl ?_
    refine Ev.getR D_186 (by decide +kernel) F_10_24 T_10_6 (x := 299) (S_oR k_294 (by decide +kernel)) ?_
    refine Ev.seg D_186 [(.iload 6, 2), (.iconst 4, 1)] (by decide +kernel) (j := 0) (pc' := 80) (lv' := [(0, .ref 294), (6, .int q.1)]) (st' := [.int (4 : Int32), .int q.1, .ref 299, .int ((q.2.1 294 5) + q.1), .ref 298]) rfl ?_
    by_cases c5 : (4 : Int32) = 0
    · rw [if_pos c5] at h; cases h
    rw [if_neg c5] at h
    refine Ev.idiv D_186 (by decide +kernel) c5 ?_
    obtain ⟨x6, e6, h⟩ := bd h
    refine Ev.iald D_186 (by decide +kernel) (S_aI k_299 e6) ?_
    refine Ev.seg D_186 [(.bipush 24, 2), (.bipush 8, 2), (.iload 6, 2), (.iconst 4, 1)] (by decide +kernel) (j := 0) (pc' := 89) (lv' := [(0, .ref 294), (6, .int q.1)]) (st' := [.int (4 : Int32), .int q.1, .int (8 : Int32), .int (24 : Int32), .int x6, .int ((q.2.1 294 5) + q.1), .ref 298]) rfl ?_
    by_cases c7 : (4 : Int32) = 0
    · rw [if_pos c7] at h; cases h
    rw [if_neg c7] at h
    refine Ev.irem D_186 (by decide +kernel) c7 ?_
    refine Ev.seg D_186 [(.imul, 1), (.isub, 1), (.ishr, 1), (.i2b, 1)] (by decide +kernel) (j := 0) (pc' := 94) (lv' := [(0, .ref 294), (6, .int q.1)]) (st' := [.int ((x6 >>> (((24 : Int32) - ((8 : Int32) * (q.1 - q.1 / (4 : Int32) * (4 : Int32)))) &&& 31)).toInt8.toInt32), .int ((q.2.1 294 5) + q.1), .ref 298]) rfl ?_
    obtain ⟨s8, e8, h⟩ := bd h
    refine Ev.bast D_186 (by decide +kernel) (S_sB k_298 e8) ?_
    refine Ev.seg D_186 [(.iinc 6 1, 3), (.goto (-43), 3)] (by decide +kernel) (j := 0) (pc' := 55) (lv' := [(6, .int (q.1 + (1 : Int32))), (0, .ref 294)]) (st' := []) rfl ?_
    cases h
    exact Ev.sub (lv' := [(0, .ref 294), (6, .int (q.1 + (1 : Int32)))]) (subL_cons rfl (subL_cons rfl subL_nil)) ho
theorem gM_feed_h55_w {L d : Nat} (hd : 1 ≤ d + 1)  : ∀ (n : Nat) (q : Int32 × mT) (r : mT), wh n (gM_feed_h55) q = some r → ∀ o, (fun r => Ev (d + 1) 186 101 [(0, .ref 294)] [] (uS L r) o) r → Ev (d + 1) 186 55 [(0, .ref 294), (6, .int q.1)] [] (uS L q.2) o :=
  fun n q r h o hc => wh_ev (E := fun (q : Int32 × mT) o => Ev (d + 1) 186 55 [(0, .ref 294), (6, .int q.1)] [] (uS L q.2) o) (C := fun (r : mT) o => (fun r => Ev (d + 1) 186 101 [(0, .ref 294)] [] (uS L r) o) r) (gM_feed_h55_ok hd  ) n q r h o hc
def gM_feed (v1 : Int32) (v2 : Int32) (v3 : Int32) (v4 : Int32) (v5 : Int32) (s : mT) : Option (Int32 × mT) :=
  if ((s.1 294 5) + (20 : Int32)) ≤ (600 : Int32) then
    (wrI s 299 5 (0 : Int32) v1).bind fun s4 =>
    (wrI s4 299 5 (1 : Int32) v2).bind fun s6 =>
    (wrI s6 299 5 (2 : Int32) v3).bind fun s8 =>
    (wrI s8 299 5 (3 : Int32) v4).bind fun s10 =>
    (wrI s10 299 5 (4 : Int32) v5).bind fun s12 =>
    (wh FU (gM_feed_h55) ((0 : Int32), s12)).bind fun x13 =>
    some (((stI x13 294 5 ((x13.1 294 5) + (20 : Int32))).1 294 5, (stI x13 294 5 ((x13.1 294 5) + (20 : Int32)))))
  else
    some (((-1 : Int32), s))
set_option maxRecDepth 8000 in
theorem gM_feed_ok {L d : Nat} (hd : 1 ≤ d) {v1 : Int32} {v2 : Int32} {v3 : Int32} {v4 : Int32} {v5 : Int32} {s : mT} {p : Int32 × mT} (h : gM_feed v1 v2 v3 v4 v5 s = some p) : Ev d 186 0 [(0, .ref 294), (1, .int v1), (2, .int v2), (3, .int v3), (4, .int v4), (5, .int v5)] [] (uS L s) (some (.int p.1), uS L p.2) := by
  obtain ⟨d, rfl⟩ : ∃ e, d = e + 1 := ⟨d - 1, by omega⟩
  obtain ⟨o, ho⟩ : ∃ o : Option Value × mS, o = (some (.int p.1), uS L p.2) := ⟨_, rfl⟩
  rw [← ho]
  unfold gM_feed at h
  refine Ev.seg D_186 [(.aload_n 0, 1)] (by decide +kernel) (j := 0) (pc' := 1) (lv' := [(0, .ref 294), (1, .int v1), (2, .int v2), (3, .int v3), (4, .int v4), (5, .int v5)]) (st' := [.ref 294]) rfl ?_
  refine Ev.getI D_186 (by decide +kernel) F_10_106 (Or.inl T_10_5) (S_oI k_294) ?_
  refine Ev.seg D_186 [(.bipush 20, 2), (.iadd, 1), (.sipush 600, 3)] (by decide +kernel) (j := 0) (pc' := 10) (lv' := [(0, .ref 294), (1, .int v1), (2, .int v2), (3, .int v3), (4, .int v4), (5, .int v5)]) (st' := [.int (600 : Int32), .int ((s.1 294 5) + (20 : Int32))]) rfl ?_
  refine Ev.icmp D_186 (c := .le) (off := 5) (by decide +kernel) (t := 15) rfl (fun c2 => ?_) (fun c2 => ?_)
  · have c2 : ((s.1 294 5) + (20 : Int32)) ≤ (600 : Int32) := of_decide_eq_true c2
    rw [if_pos c2] at h
    refine Ev.seg D_186 [(.aload_n 0, 1)] (by decide +kernel) (j := 0) (pc' := 16) (lv' := [(0, .ref 294), (1, .int v1), (2, .int v2), (3, .int v3), (4, .int v4), (5, .int v5)]) (st' := [.ref 294]) rfl ?_
    refine Ev.getR D_186 (by decide +kernel) F_10_24 T_10_6 (x := 299) (S_oR k_294 (by decide +kernel)) ?_
    refine Ev.seg D_186 [(.iconst 0, 1), (.iload_n 1, 1)] (by decide +kernel) (j := 0) (pc' := 21) (lv' := [(0, .ref 294), (1, .int v1), (2, .int v2), (3, .int v3), (4, .int v4), (5, .int v5)]) (st' := [.int v1, .int (0 : Int32), .ref 299]) rfl ?_
    obtain ⟨s4, e4, h⟩ := bd h
    refine Ev.iast D_186 (by decide +kernel) (S_sI k_299 e4) ?_
    refine Ev.seg D_186 [(.aload_n 0, 1)] (by decide +kernel) (j := 0) (pc' := 23) (lv' := [(0, .ref 294), (1, .int v1), (2, .int v2), (3, .int v3), (4, .int v4), (5, .int v5)]) (st' := [.ref 294]) rfl ?_
    refine Ev.getR D_186 (by decide +kernel) F_10_24 T_10_6 (x := 299) (S_oR k_294 (by decide +kernel)) ?_
    refine Ev.seg D_186 [(.iconst 1, 1), (.iload_n 2, 1)] (by decide +kernel) (j := 0) (pc' := 28) (lv' := [(0, .ref 294), (1, .int v1), (2, .int v2), (3, .int v3), (4, .int v4), (5, .int v5)]) (st' := [.int v2, .int (1 : Int32), .ref 299]) rfl ?_
    obtain ⟨s6, e6, h⟩ := bd h
    refine Ev.iast D_186 (by decide +kernel) (S_sI k_299 e6) ?_
    refine Ev.seg D_186 [(.aload_n 0, 1)] (by decide +kernel) (j := 0) (pc' := 30) (lv' := [(0, .ref 294), (1, .int v1), (2, .int v2), (3, .int v3), (4, .int v4), (5, .int v5)]) (st' := [.ref 294]) rfl ?_
    refine Ev.getR D_186 (by decide +kernel) F_10_24 T_10_6 (x := 299) (S_oR k_294 (by decide +kernel)) ?_
    refine Ev.seg D_186 [(.iconst 2, 1), (.iload_n 3, 1)] (by decide +kernel) (j := 0) (pc' := 35) (lv' := [(0, .ref 294), (1, .int v1), (2, .int v2), (3, .int v3), (4, .int v4), (5, .int v5)]) (st' := [.int v3, .int (2 : Int32), .ref 299]) rfl ?_
    obtain ⟨s8, e8, h⟩ := bd h
    refine Ev.iast D_186 (by decide +kernel) (S_sI k_299 e8) ?_
    refine Ev.seg D_186 [(.aload_n 0, 1)] (by decide +kernel) (j := 0) (pc' := 37) (lv' := [(0, .ref 294), (1, .int v1), (2, .int v2), (3, .int v3), (4, .int v4), (5, .int v5)]) (st' := [.ref 294]) rfl ?_
    refine Ev.getR D_186 (by decide +kernel) F_10_24 T_10_6 (x := 299) (S_oR k_294 (by decide +kernel)) ?_
    refine Ev.seg D_186 [(.iconst 3, 1), (.iload 4, 2)] (by decide +kernel) (j := 0) (pc' := 43) (lv' := [(0, .ref 294), (1, .int v1), (2, .int v2), (3, .int v3), (4, .int v4), (5, .int v5)]) (st' := [.int v4, .int (3 : Int32), .ref 299]) rfl ?_
    obtain ⟨s10, e10, h⟩ := bd h
    refine Ev.iast D_186 (by decide +kernel) (S_sI k_299 e10) ?_
    refine Ev.seg D_186 [(.aload_n 0, 1)] (by decide +kernel) (j := 0) (pc' := 45) (lv' := [(0, .ref 294), (1, .int v1), (2, .int v2), (3, .int v3), (4, .int v4), (5, .int v5)]) (st' := [.ref 294]) rfl ?_
    refine Ev.getR D_186 (by decide +kernel) F_10_24 T_10_6 (x := 299) (S_oR k_294 (by decide +kernel)) ?_
    refine Ev.seg D_186 [(.iconst 4, 1), (.iload 5, 2)] (by decide +kernel) (j := 0) (pc' := 51) (lv' := [(0, .ref 294), (1, .int v1), (2, .int v2), (3, .int v3), (4, .int v4), (5, .int v5)]) (st' := [.int v5, .int (4 : Int32), .ref 299]) rfl ?_
    obtain ⟨s12, e12, h⟩ := bd h
    refine Ev.iast D_186 (by decide +kernel) (S_sI k_299 e12) ?_
    refine Ev.seg D_186 [(.iconst 0, 1), (.istore 6, 2)] (by decide +kernel) (j := 0) (pc' := 55) (lv' := [(6, .int (0 : Int32)), (0, .ref 294), (1, .int v1), (2, .int v2), (3, .int v3), (4, .int v4), (5, .int v5)]) (st' := []) rfl ?_
    obtain ⟨x13, w13, h⟩ := bd h
    have j13 : Ev (d + 1) 186 101 [(0, .ref 294)] [] (uS L x13) o := by
      clear w13
      refine Ev.seg D_186 [(.aload_n 0, 1), (.dup, 1)] (by decide +kernel) (j := 0) (pc' := 103) (lv' := [(0, .ref 294)]) (st' := [.ref 294, .ref 294]) rfl ?_
      refine Ev.getI D_186 (by decide +kernel) F_10_106 (Or.inl T_10_5) (S_oI k_294) ?_
      refine Ev.seg D_186 [(.bipush 20, 2), (.iadd, 1)] (by decide +kernel) (j := 0) (pc' := 109) (lv' := [(0, .ref 294)]) (st' := [.int ((x13.1 294 5) + (20 : Int32)), .ref 294]) rfl ?_
      refine Ev.putI D_186 (by decide +kernel) F_10_106 N_10_5 T_10_5 (S_pI k_294) ?_
      refine Ev.seg D_186 [(.aload_n 0, 1)] (by decide +kernel) (j := 0) (pc' := 113) (lv' := [(0, .ref 294)]) (st' := [.ref 294]) rfl ?_
      refine Ev.getI D_186 (by decide +kernel) F_10_106 (Or.inl T_10_5) (S_oI k_294) ?_
      cases h
      obtain rfl : o = _ := ho
      exact Ev.iret D_186 (by decide +kernel)
    exact Ev.sub (lv' := [(0, .ref 294), (6, .int (0 : Int32))]) (subL_cons rfl (subL_cons rfl subL_nil)) (gM_feed_h55_w hd   _ _ _ w13 _ j13)
  · have c2 : ¬ ((s.1 294 5) + (20 : Int32)) ≤ (600 : Int32) := of_decide_eq_false c2
    rw [if_neg c2] at h
    refine Ev.seg D_186 [(.iconst (-1), 1)] (by decide +kernel) (j := 0) (pc' := 14) (lv' := [(0, .ref 294), (1, .int v1), (2, .int v2), (3, .int v3), (4, .int v4), (5, .int v5)]) (st' := [.int (-1 : Int32)]) rfl ?_
    cases h
    obtain rfl : o = _ := ho
    exact Ev.iret D_186 (by decide +kernel)
/- PennantLawnModel end: 187 -/
def gM_end (v1 : Int32) (s : mT) : Option (Int32 × mT) :=
  (gM_in v1.toInt64 (0 : Int64) ((s.1 294 5).toInt64) s).bind fun p2 =>
  if p2 = 0 then
    some (((-1 : Int32), s))
  else
    some ((v1, (stI s 294 5 v1)))
set_option maxRecDepth 8000 in
theorem gM_end_ok {L d : Nat} (hd : 2 ≤ d) {v1 : Int32} {s : mT} {p : Int32 × mT} (h : gM_end v1 s = some p) : Ev d 187 0 [(0, .ref 294), (1, .int v1)] [] (uS L s) (some (.int p.1), uS L p.2) := by
  obtain ⟨d, rfl⟩ : ∃ e, d = e + 1 := ⟨d - 1, by omega⟩
  obtain ⟨o, ho⟩ : ∃ o : Option Value × mS, o = (some (.int p.1), uS L p.2) := ⟨_, rfl⟩
  rw [← ho]
  unfold gM_end at h
  refine Ev.seg D_187 [(.iload_n 1, 1), (.i2l, 1), (.lconst 0, 1), (.aload_n 0, 1)] (by decide +kernel) (j := 0) (pc' := 4) (lv' := [(0, .ref 294), (1, .int v1)]) (st' := [.ref 294, .long (0 : Int64), .long v1.toInt64]) rfl ?_
  refine Ev.getI D_187 (by decide +kernel) F_10_106 (Or.inl T_10_5) (S_oI k_294) ?_
  refine Ev.seg D_187 [(.i2l, 1)] (by decide +kernel) (j := 0) (pc' := 8) (lv' := [(0, .ref 294), (1, .int v1)]) (st' := [.long ((s.1 294 5).toInt64), .long (0 : Int64), .long v1.toInt64]) rfl ?_
  obtain ⟨p2, e2, h⟩ := bd h
  refine Ev.calls D_187 E_184 (by decide +kernel) C_10_88 [.long v1.toInt64, .long (0 : Int64), .long ((s.1 294 5).toInt64)] (r := []) rfl rfl (Nat.le_of_ble_eq_true rfl) (Nat.le_of_ble_eq_true rfl) (gM_in_ok (by omega)  e2) ?_
  refine Ev.if_ D_187 (c := .ne) (off := 5) (by decide +kernel) (t := 16) rfl (fun c3 => ?_) (fun c3 => ?_)
  · have c3 : ¬ p2 = 0 := of_decide_eq_true c3
    rw [if_neg c3] at h
    refine Ev.seg D_187 [(.aload_n 0, 1), (.iload_n 1, 1)] (by decide +kernel) (j := 0) (pc' := 18) (lv' := [(0, .ref 294), (1, .int v1)]) (st' := [.int v1, .ref 294]) rfl ?_
    refine Ev.putI D_187 (by decide +kernel) F_10_106 N_10_5 T_10_5 (S_pI k_294) ?_
    refine Ev.seg D_187 [(.iload_n 1, 1)] (by decide +kernel) (j := 0) (pc' := 22) (lv' := [(0, .ref 294), (1, .int v1)]) (st' := [.int v1]) rfl ?_
    cases h
    obtain rfl : o = _ := ho
    exact Ev.iret D_187 (by decide +kernel)
  · have c3 : p2 = 0 := Decidable.of_not_not (of_decide_eq_false c3)
    rw [if_pos c3] at h
    refine Ev.seg D_187 [(.iconst (-1), 1)] (by decide +kernel) (j := 0) (pc' := 15) (lv' := [(0, .ref 294), (1, .int v1)]) (st' := [.int (-1 : Int32)]) rfl ?_
    cases h
    obtain rfl : o = _ := ho
    exact Ev.iret D_187 (by decide +kernel)
/- PennantLawnModel fault: 188 -/
def gM_fault (v1 : Int32) (s : mT) : Option (Int32) :=
  (
    if v1 = 0 then
      some (s.1 294 12)
    else
      if v1 = (1 : Int32) then
        some (s.1 294 13)
      else
        some ((-1 : Int32)) : Option (Int32)).bind fun x1 =>
  some (x1)
set_option maxRecDepth 8000 in
theorem gM_fault_ok {L d : Nat} (hd : 1 ≤ d) {v1 : Int32} {s : mT} {p : Int32} (h : gM_fault v1 s = some p) : Ev d 188 0 [(0, .ref 294), (1, .int v1)] [] (uS L s) (some (.int p), uS L s) := by
  obtain ⟨d, rfl⟩ : ∃ e, d = e + 1 := ⟨d - 1, by omega⟩
  obtain ⟨o, ho⟩ : ∃ o : Option Value × mS, o = (some (.int p), uS L s) := ⟨_, rfl⟩
  rw [← ho]
  unfold gM_fault at h
  refine Ev.seg D_188 [(.iload_n 1, 1)] (by decide +kernel) (j := 0) (pc' := 1) (lv' := [(0, .ref 294), (1, .int v1)]) (st' := [.int v1]) rfl ?_
  obtain ⟨x1, g1, h⟩ := bd h
  have j1 : Ev (d + 1) 188 24 [] [.int x1] (uS L s) o := by
    clear g1
    cases h
    obtain rfl : o = _ := ho
    exact Ev.iret D_188 (by decide +kernel)
  clear h
  refine Ev.if_ D_188 (c := .ne) (off := 10) (by decide +kernel) (t := 11) rfl (fun c1 => ?_) (fun c1 => ?_)
  · have c1 : ¬ v1 = 0 := of_decide_eq_true c1
    rw [if_neg c1] at g1
    refine Ev.seg D_188 [(.iload_n 1, 1), (.iconst 1, 1)] (by decide +kernel) (j := 0) (pc' := 13) (lv' := [(0, .ref 294), (1, .int v1)]) (st' := [.int (1 : Int32), .int v1]) rfl ?_
    refine Ev.icmp D_188 (c := .ne) (off := 10) (by decide +kernel) (t := 23) rfl (fun c2 => ?_) (fun c2 => ?_)
    · have c2 : ¬ v1 = (1 : Int32) := of_decide_eq_true c2
      rw [if_neg c2] at g1
      refine Ev.seg D_188 [(.iconst (-1), 1)] (by decide +kernel) (j := 0) (pc' := 24) (lv' := [(0, .ref 294), (1, .int v1)]) (st' := [.int (-1 : Int32)]) rfl ?_
      cases g1
      exact Ev.sub2 j1 subL_nil
    · have c2 : v1 = (1 : Int32) := Decidable.of_not_not (of_decide_eq_false c2)
      rw [if_pos c2] at g1
      refine Ev.seg D_188 [(.aload_n 0, 1)] (by decide +kernel) (j := 0) (pc' := 17) (lv' := [(0, .ref 294), (1, .int v1)]) (st' := [.ref 294]) rfl ?_
      refine Ev.getI D_188 (by decide +kernel) F_10_27 (Or.inl T_10_13) (S_oI k_294) ?_
      refine Ev.seg D_188 [(.goto 4, 3)] (by decide +kernel) (j := 0) (pc' := 24) (lv' := [(0, .ref 294), (1, .int v1)]) (st' := [.int (s.1 294 13)]) rfl ?_
      cases g1
      exact Ev.sub2 j1 subL_nil
  · have c1 : v1 = 0 := Decidable.of_not_not (of_decide_eq_false c1)
    rw [if_pos c1] at g1
    refine Ev.seg D_188 [(.aload_n 0, 1)] (by decide +kernel) (j := 0) (pc' := 5) (lv' := [(0, .ref 294), (1, .int v1)]) (st' := [.ref 294]) rfl ?_
    refine Ev.getI D_188 (by decide +kernel) F_10_142 (Or.inl T_10_12) (S_oI k_294) ?_
    refine Ev.seg D_188 [(.goto 16, 3)] (by decide +kernel) (j := 0) (pc' := 24) (lv' := [(0, .ref 294), (1, .int v1)]) (st' := [.int (s.1 294 12)]) rfl ?_
    cases g1
    exact Ev.sub2 j1 subL_nil
/- PennantLawnModel see: 191 -/
def gM_see (v1 : Int32) (s : mT) : Option (Int32) :=
  (
    if (s.1 294 7) ≤ v1 then
      some ((-1 : Int32))
    else
      (rdI (s.1 298) 600 v1).bind fun x4 =>
      some (x4 &&& (255 : Int32)) : Option (Int32)).bind fun x2 =>
  some (x2)
set_option maxRecDepth 8000 in
theorem gM_see_ok {L d : Nat} (hd : 1 ≤ d) {v1 : Int32} {s : mT} {p : Int32} (h : gM_see v1 s = some p) : Ev d 191 0 [(0, .ref 294), (1, .int v1)] [] (uS L s) (some (.int p), uS L s) := by
  obtain ⟨d, rfl⟩ : ∃ e, d = e + 1 := ⟨d - 1, by omega⟩
  obtain ⟨o, ho⟩ : ∃ o : Option Value × mS, o = (some (.int p), uS L s) := ⟨_, rfl⟩
  rw [← ho]
  unfold gM_see at h
  refine Ev.seg D_191 [(.iload_n 1, 1), (.aload_n 0, 1)] (by decide +kernel) (j := 0) (pc' := 2) (lv' := [(0, .ref 294), (1, .int v1)]) (st' := [.ref 294, .int v1]) rfl ?_
  refine Ev.getI D_191 (by decide +kernel) F_10_109 (Or.inl T_10_7) (S_oI k_294) ?_
  obtain ⟨x2, g2, h⟩ := bd h
  have j2 : Ev (d + 1) 191 22 [] [.int x2] (uS L s) o := by
    clear g2
    cases h
    obtain rfl : o = _ := ho
    exact Ev.iret D_191 (by decide +kernel)
  clear h
  refine Ev.icmp D_191 (c := .ge) (off := 16) (by decide +kernel) (t := 21) rfl (fun c2 => ?_) (fun c2 => ?_)
  · have c2 : (s.1 294 7) ≤ v1 := of_decide_eq_true c2
    rw [if_pos c2] at g2
    refine Ev.seg D_191 [(.iconst (-1), 1)] (by decide +kernel) (j := 0) (pc' := 22) (lv' := [(0, .ref 294), (1, .int v1)]) (st' := [.int (-1 : Int32)]) rfl ?_
    cases g2
    exact Ev.sub2 j2 subL_nil
  · have c2 : ¬ (s.1 294 7) ≤ v1 := of_decide_eq_false c2
    rw [if_neg c2] at g2
    refine Ev.seg D_191 [(.aload_n 0, 1)] (by decide +kernel) (j := 0) (pc' := 9) (lv' := [(0, .ref 294), (1, .int v1)]) (st' := [.ref 294]) rfl ?_
    refine Ev.getR D_191 (by decide +kernel) F_10_20 T_10_4 (x := 298) (S_oR k_294 (by decide +kernel)) ?_
    refine Ev.seg D_191 [(.iload_n 1, 1)] (by decide +kernel) (j := 0) (pc' := 13) (lv' := [(0, .ref 294), (1, .int v1)]) (st' := [.int v1, .ref 298]) rfl ?_
    obtain ⟨x4, e4, g2⟩ := bd g2
    refine Ev.bald D_191 (by decide +kernel) (S_aI k_298 e4) ?_
    refine Ev.seg D_191 [(.sipush 255, 3), (.iand, 1), (.goto 4, 3)] (by decide +kernel) (j := 0) (pc' := 22) (lv' := [(0, .ref 294), (1, .int v1)]) (st' := [.int (x4 &&& (255 : Int32))]) rfl ?_
    cases g2
    exact Ev.sub2 j2 subL_nil
/- PennantLawnModel advance: 190 -/
def gM_advance_h0  (q : mT) : Option ((mT) ⊕ (mT)) :=
  (gM_see (q.1 294 8) q).bind fun p2 =>
  if p2 = (32 : Int32) then
    some (.inl (stI q 294 8 ((q.1 294 8) + (1 : Int32))))
  else
    (gM_see (q.1 294 8) q).bind fun p7 =>
    if p7 = (10 : Int32) then
      some (.inl (stI q 294 8 ((q.1 294 8) + (1 : Int32))))
    else
      some (.inr q)
set_option maxRecDepth 8000 in
theorem gM_advance_h0_ok {L d : Nat} (hd : 2 ≤ d + 1)  : ∀ (q : mT) (x : (mT) ⊕ (mT)), gM_advance_h0 q = some x → ∀ o, sK (fun q => Ev (d + 1) 190 0 [(0, .ref 294)] [] (uS L q) o) (fun r => Ev (d + 1) 190 39 [(0, .ref 294)] [] (uS L r) o) x → Ev (d + 1) 190 0 [(0, .ref 294)] [] (uS L q) o := by
  intro q x h o ho
  unfold gM_advance_h0 at h
  refine Ev.seg D_190 [(.aload_n 0, 1), (.aload_n 0, 1)] (by decide +kernel) (j := 0) (pc' := 2) (lv' := [(0, .ref 294)]) (st' := [.ref 294, .ref 294]) rfl ?_
  refine Ev.getI D_190 (by decide +kernel) F_10_112 (Or.inl T_10_8) (S_oI k_294) ?_
  obtain ⟨p2, e2, h⟩ := bd h
  refine Ev.callv D_190 E_191 (by decide +kernel) C_10_115 294 [.int (q.1 294 8)] (r := []) rfl (gd_o k_294 (by decide)) rfl (Nat.le_of_ble_eq_true rfl) (Nat.le_of_ble_eq_true rfl) (gM_see_ok (by omega)  e2) ?_
  refine Ev.seg D_190 [(.bipush 32, 2)] (by decide +kernel) (j := 0) (pc' := 10) (lv' := [(0, .ref 294)]) (st' := [.int (32 : Int32), .int p2]) rfl ?_
  refine Ev.icmp D_190 (c := .eq) (off := 16) (by decide +kernel) (t := 26) rfl (fun c3 => ?_) (fun c3 => ?_)
  · have c3 : p2 = (32 : Int32) := of_decide_eq_true c3
    rw [if_pos c3] at h
    refine Ev.seg D_190 [(.aload_n 0, 1), (.dup, 1)] (by decide +kernel) (j := 0) (pc' := 28) (lv' := [(0, .ref 294)]) (st' := [.ref 294, .ref 294]) rfl ?_
    refine Ev.getI D_190 (by decide +kernel) F_10_112 (Or.inl T_10_8) (S_oI k_294) ?_
    refine Ev.seg D_190 [(.iconst 1, 1), (.iadd, 1)] (by decide +kernel) (j := 0) (pc' := 33) (lv' := [(0, .ref 294)]) (st' := [.int ((q.1 294 8) + (1 : Int32)), .ref 294]) rfl ?_
    refine Ev.putI D_190 (by decide +kernel) F_10_112 N_10_8 T_10_8 (S_pI k_294) ?_
    refine Ev.seg D_190 [(.goto (-36), 3)] (by decide +kernel) (j := 0) (pc' := 0) (lv' := [(0, .ref 294)]) (st' := []) rfl ?_
    cases h
    exact Ev.sub (lv' := [(0, .ref 294)]) (subL_cons rfl subL_nil) ho
  · have c3 : ¬ p2 = (32 : Int32) := of_decide_eq_false c3
    rw [if_neg c3] at h
    refine Ev.seg D_190 [(.aload_n 0, 1), (.aload_n 0, 1)] (by decide +kernel) (j := 0) (pc' := 15) (lv' := [(0, .ref 294)]) (st' := [.ref 294, .ref 294]) rfl ?_
    refine Ev.getI D_190 (by decide +kernel) F_10_112 (Or.inl T_10_8) (S_oI k_294) ?_
    obtain ⟨p7, e7, h⟩ := bd h
    refine Ev.callv D_190 E_191 (by decide +kernel) C_10_115 294 [.int (q.1 294 8)] (r := []) rfl (gd_o k_294 (by decide)) rfl (Nat.le_of_ble_eq_true rfl) (Nat.le_of_ble_eq_true rfl) (gM_see_ok (by omega)  e7) ?_
    refine Ev.seg D_190 [(.bipush 10, 2)] (by decide +kernel) (j := 0) (pc' := 23) (lv' := [(0, .ref 294)]) (st' := [.int (10 : Int32), .int p7]) rfl ?_
    refine Ev.icmp D_190 (c := .ne) (off := 16) (by decide +kernel) (t := 39) rfl (fun c8 => ?_) (fun c8 => ?_)
    · have c8 : ¬ p7 = (10 : Int32) := of_decide_eq_true c8
      rw [if_neg c8] at h
      cases h
      exact Ev.sub (lv' := [(0, .ref 294)]) (subL_cons rfl subL_nil) ho
    · have c8 : p7 = (10 : Int32) := Decidable.of_not_not (of_decide_eq_false c8)
      rw [if_pos c8] at h
      refine Ev.seg D_190 [(.aload_n 0, 1), (.dup, 1)] (by decide +kernel) (j := 0) (pc' := 28) (lv' := [(0, .ref 294)]) (st' := [.ref 294, .ref 294]) rfl ?_
      refine Ev.getI D_190 (by decide +kernel) F_10_112 (Or.inl T_10_8) (S_oI k_294) ?_
      refine Ev.seg D_190 [(.iconst 1, 1), (.iadd, 1)] (by decide +kernel) (j := 0) (pc' := 33) (lv' := [(0, .ref 294)]) (st' := [.int ((q.1 294 8) + (1 : Int32)), .ref 294]) rfl ?_
      refine Ev.putI D_190 (by decide +kernel) F_10_112 N_10_8 T_10_8 (S_pI k_294) ?_
      refine Ev.seg D_190 [(.goto (-36), 3)] (by decide +kernel) (j := 0) (pc' := 0) (lv' := [(0, .ref 294)]) (st' := []) rfl ?_
      cases h
      exact Ev.sub (lv' := [(0, .ref 294)]) (subL_cons rfl subL_nil) ho
theorem gM_advance_h0_w {L d : Nat} (hd : 2 ≤ d + 1)  : ∀ (n : Nat) (q : mT) (r : mT), wh n (gM_advance_h0) q = some r → ∀ o, (fun r => Ev (d + 1) 190 39 [(0, .ref 294)] [] (uS L r) o) r → Ev (d + 1) 190 0 [(0, .ref 294)] [] (uS L q) o :=
  fun n q r h o hc => wh_ev (E := fun (q : mT) o => Ev (d + 1) 190 0 [(0, .ref 294)] [] (uS L q) o) (C := fun (r : mT) o => (fun r => Ev (d + 1) 190 39 [(0, .ref 294)] [] (uS L r) o) r) (gM_advance_h0_ok hd  ) n q r h o hc
def gM_advance_h144  (q : mT) : Option ((mT) ⊕ (mT)) :=
  (gM_see (q.1 294 8) q).bind fun p2 =>
  (gM_in p2.toInt64 (48 : Int64) (57 : Int64) q).bind fun p5 =>
  if p5 = 0 then
    some (.inr q)
  else
    (gM_see (q.1 294 8) q).bind fun p10 =>
    (some (stI (stI q 294 11 (imin (99999 : Int32) ((((10 : Int32) * (q.1 294 11)) + p10) - (48 : Int32)))) 294 8 (((stI q 294 11 (imin (99999 : Int32) ((((10 : Int32) * (q.1 294 11)) + p10) - (48 : Int32)))).1 294 8) + (1 : Int32)))).bind fun s14 =>
    some (.inl s14)
set_option maxRecDepth 8000 in
theorem gM_advance_h144_ok {L d : Nat} (hd : 2 ≤ d + 1)  : ∀ (q : mT) (x : (mT) ⊕ (mT)), gM_advance_h144 q = some x → ∀ o, sK (fun q => Ev (d + 1) 190 144 [(0, .ref 294)] [] (uS L q) o) (fun r => Ev (d + 1) 190 206 [(0, .ref 294)] [] (uS L r) o) x → Ev (d + 1) 190 144 [(0, .ref 294)] [] (uS L q) o := by
  intro q x h o ho
  unfold gM_advance_h144 at h
  refine Ev.seg D_190 [(.aload_n 0, 1), (.aload_n 0, 1)] (by decide +kernel) (j := 0) (pc' := 146) (lv' := [(0, .ref 294)]) (st' := [.ref 294, .ref 294]) rfl ?_
  refine Ev.getI D_190 (by decide +kernel) F_10_112 (Or.inl T_10_8) (S_oI k_294) ?_
  obtain ⟨p2, e2, h⟩ := bd h
  refine Ev.callv D_190 E_191 (by decide +kernel) C_10_115 294 [.int (q.1 294 8)] (r := []) rfl (gd_o k_294 (by decide)) rfl (Nat.le_of_ble_eq_true rfl) (Nat.le_of_ble_eq_true rfl) (gM_see_ok (by omega)  e2) ?_
  refine Ev.seg D_190 [(.i2l, 1)] (by decide +kernel) (j := 0) (pc' := 153) (lv' := [(0, .ref 294)]) (st' := [.long p2.toInt64]) rfl ?_
  refine Ev.ldc2 D_190 (i := 129) (by decide +kernel) (x := (48 : Int64)) (by decide +kernel) ?_
  refine Ev.ldc2 D_190 (i := 131) (by decide +kernel) (x := (57 : Int64)) (by decide +kernel) ?_
  obtain ⟨p5, e5, h⟩ := bd h
  refine Ev.calls D_190 E_184 (by decide +kernel) C_10_88 [.long p2.toInt64, .long (48 : Int64), .long (57 : Int64)] (r := []) rfl rfl (Nat.le_of_ble_eq_true rfl) (Nat.le_of_ble_eq_true rfl) (gM_in_ok (by omega)  e5) ?_
  refine Ev.if_ D_190 (c := .eq) (off := 44) (by decide +kernel) (t := 206) rfl (fun c6 => ?_) (fun c6 => ?_)
  · have c6 : p5 = 0 := of_decide_eq_true c6
    rw [if_pos c6] at h
    cases h
    exact Ev.sub (lv' := [(0, .ref 294)]) (subL_cons rfl subL_nil) ho
  · have c6 : ¬ p5 = 0 := of_decide_eq_false c6
    rw [if_neg c6] at h
    refine Ev.seg D_190 [(.aload_n 0, 1)] (by decide +kernel) (j := 0) (pc' := 166) (lv' := [(0, .ref 294)]) (st' := [.ref 294]) rfl ?_
    refine Ev.ldc D_190 (i := 136) (by decide +kernel) (v := .int (99999 : Int32)) (by decide +kernel) ?_
    refine Ev.seg D_190 [(.bipush 10, 2), (.aload_n 0, 1)] (by decide +kernel) (j := 0) (pc' := 171) (lv' := [(0, .ref 294)]) (st' := [.ref 294, .int (10 : Int32), .int (99999 : Int32), .ref 294]) rfl ?_
    refine Ev.getI D_190 (by decide +kernel) F_10_133 (Or.inl T_10_11) (S_oI k_294) ?_
    refine Ev.seg D_190 [(.imul, 1), (.aload_n 0, 1), (.aload_n 0, 1)] (by decide +kernel) (j := 0) (pc' := 177) (lv' := [(0, .ref 294)]) (st' := [.ref 294, .ref 294, .int ((10 : Int32) * (q.1 294 11)), .int (99999 : Int32), .ref 294]) rfl ?_
    refine Ev.getI D_190 (by decide +kernel) F_10_112 (Or.inl T_10_8) (S_oI k_294) ?_
    obtain ⟨p10, e10, h⟩ := bd h
    refine Ev.callv D_190 E_191 (by decide +kernel) C_10_115 294 [.int (q.1 294 8)] (r := [.int ((10 : Int32) * (q.1 294 11)), .int (99999 : Int32), .ref 294]) rfl (gd_o k_294 (by decide)) rfl (Nat.le_of_ble_eq_true rfl) (Nat.le_of_ble_eq_true rfl) (gM_see_ok (by omega)  e10) ?_
    refine Ev.seg D_190 [(.iadd, 1), (.bipush 48, 2), (.isub, 1)] (by decide +kernel) (j := 0) (pc' := 187) (lv' := [(0, .ref 294)]) (st' := [.int ((((10 : Int32) * (q.1 294 11)) + p10) - (48 : Int32)), .int (99999 : Int32), .ref 294]) rfl ?_
    refine Ev.min D_190 (by decide +kernel) (Nat.succ_pos _) C_10_137 (Nat.le_of_ble_eq_true rfl) ?_
    refine Ev.putI D_190 (by decide +kernel) F_10_133 N_10_11 T_10_11 (S_pI k_294) ?_
    refine Ev.seg D_190 [(.aload_n 0, 1), (.dup, 1)] (by decide +kernel) (j := 0) (pc' := 195) (lv' := [(0, .ref 294)]) (st' := [.ref 294, .ref 294]) rfl ?_
    refine Ev.getI D_190 (by decide +kernel) F_10_112 (Or.inl T_10_8) (S_oI k_294) ?_
    refine Ev.seg D_190 [(.iconst 1, 1), (.iadd, 1)] (by decide +kernel) (j := 0) (pc' := 200) (lv' := [(0, .ref 294)]) (st' := [.int (((stI q 294 11 (imin (99999 : Int32) ((((10 : Int32) * (q.1 294 11)) + p10) - (48 : Int32)))).1 294 8) + (1 : Int32)), .ref 294]) rfl ?_
    obtain ⟨s14, e14, h⟩ := bd h
    refine Ev.putI D_190 (by decide +kernel) F_10_112 N_10_8 T_10_8 (S_pIb k_294 e14) ?_
    refine Ev.seg D_190 [(.goto (-59), 3)] (by decide +kernel) (j := 0) (pc' := 144) (lv' := [(0, .ref 294)]) (st' := []) rfl ?_
    cases h
    exact Ev.sub (lv' := [(0, .ref 294)]) (subL_cons rfl subL_nil) ho
theorem gM_advance_h144_w {L d : Nat} (hd : 2 ≤ d + 1)  : ∀ (n : Nat) (q : mT) (r : mT), wh n (gM_advance_h144) q = some r → ∀ o, (fun r => Ev (d + 1) 190 206 [(0, .ref 294)] [] (uS L r) o) r → Ev (d + 1) 190 144 [(0, .ref 294)] [] (uS L q) o :=
  fun n q r h o hc => wh_ev (E := fun (q : mT) o => Ev (d + 1) 190 144 [(0, .ref 294)] [] (uS L q) o) (C := fun (r : mT) o => (fun r => Ev (d + 1) 190 206 [(0, .ref 294)] [] (uS L r) o) r) (gM_advance_h144_ok hd  ) n q r h o hc
def gM_advance_h83  (q : mT) : Option ((mT) ⊕ (mT)) :=
  (gM_see (q.1 294 8) q).bind fun p2 =>
  (gM_in p2.toInt64 (97 : Int64) (122 : Int64) q).bind fun p5 =>
  if p5 = 0 then
    some (.inr q)
  else
    some (.inl (stI q 294 8 ((q.1 294 8) + (1 : Int32))))
set_option maxRecDepth 8000 in
theorem gM_advance_h83_ok {L d : Nat} (hd : 2 ≤ d + 1)  : ∀ (q : mT) (x : (mT) ⊕ (mT)), gM_advance_h83 q = some x → ∀ o, sK (fun q => Ev (d + 1) 190 83 [(0, .ref 294)] [] (uS L q) o) (fun r => Ev (d + 1) 190 117 [(0, .ref 294)] [] (uS L r) o) x → Ev (d + 1) 190 83 [(0, .ref 294)] [] (uS L q) o := by
  intro q x h o ho
  unfold gM_advance_h83 at h
  refine Ev.seg D_190 [(.aload_n 0, 1), (.aload_n 0, 1)] (by decide +kernel) (j := 0) (pc' := 85) (lv' := [(0, .ref 294)]) (st' := [.ref 294, .ref 294]) rfl ?_
  refine Ev.getI D_190 (by decide +kernel) F_10_112 (Or.inl T_10_8) (S_oI k_294) ?_
  obtain ⟨p2, e2, h⟩ := bd h
  refine Ev.callv D_190 E_191 (by decide +kernel) C_10_115 294 [.int (q.1 294 8)] (r := []) rfl (gd_o k_294 (by decide)) rfl (Nat.le_of_ble_eq_true rfl) (Nat.le_of_ble_eq_true rfl) (gM_see_ok (by omega)  e2) ?_
  refine Ev.seg D_190 [(.i2l, 1)] (by decide +kernel) (j := 0) (pc' := 92) (lv' := [(0, .ref 294)]) (st' := [.long p2.toInt64]) rfl ?_
  refine Ev.ldc2 D_190 (i := 125) (by decide +kernel) (x := (97 : Int64)) (by decide +kernel) ?_
  refine Ev.ldc2 D_190 (i := 127) (by decide +kernel) (x := (122 : Int64)) (by decide +kernel) ?_
  obtain ⟨p5, e5, h⟩ := bd h
  refine Ev.calls D_190 E_184 (by decide +kernel) C_10_88 [.long p2.toInt64, .long (97 : Int64), .long (122 : Int64)] (r := []) rfl rfl (Nat.le_of_ble_eq_true rfl) (Nat.le_of_ble_eq_true rfl) (gM_in_ok (by omega)  e5) ?_
  refine Ev.if_ D_190 (c := .eq) (off := 16) (by decide +kernel) (t := 117) rfl (fun c6 => ?_) (fun c6 => ?_)
  · have c6 : p5 = 0 := of_decide_eq_true c6
    rw [if_pos c6] at h
    cases h
    exact Ev.sub (lv' := [(0, .ref 294)]) (subL_cons rfl subL_nil) ho
  · have c6 : ¬ p5 = 0 := of_decide_eq_false c6
    rw [if_neg c6] at h
    refine Ev.seg D_190 [(.aload_n 0, 1), (.dup, 1)] (by decide +kernel) (j := 0) (pc' := 106) (lv' := [(0, .ref 294)]) (st' := [.ref 294, .ref 294]) rfl ?_
    refine Ev.getI D_190 (by decide +kernel) F_10_112 (Or.inl T_10_8) (S_oI k_294) ?_
    refine Ev.seg D_190 [(.iconst 1, 1), (.iadd, 1)] (by decide +kernel) (j := 0) (pc' := 111) (lv' := [(0, .ref 294)]) (st' := [.int ((q.1 294 8) + (1 : Int32)), .ref 294]) rfl ?_
    refine Ev.putI D_190 (by decide +kernel) F_10_112 N_10_8 T_10_8 (S_pI k_294) ?_
    refine Ev.seg D_190 [(.goto (-31), 3)] (by decide +kernel) (j := 0) (pc' := 83) (lv' := [(0, .ref 294)]) (st' := []) rfl ?_
    cases h
    exact Ev.sub (lv' := [(0, .ref 294)]) (subL_cons rfl subL_nil) ho
theorem gM_advance_h83_w {L d : Nat} (hd : 2 ≤ d + 1)  : ∀ (n : Nat) (q : mT) (r : mT), wh n (gM_advance_h83) q = some r → ∀ o, (fun r => Ev (d + 1) 190 117 [(0, .ref 294)] [] (uS L r) o) r → Ev (d + 1) 190 83 [(0, .ref 294)] [] (uS L q) o :=
  fun n q r h o hc => wh_ev (E := fun (q : mT) o => Ev (d + 1) 190 83 [(0, .ref 294)] [] (uS L q) o) (C := fun (r : mT) o => (fun r => Ev (d + 1) 190 117 [(0, .ref 294)] [] (uS L r) o) r) (gM_advance_h83_ok hd  ) n q r h o hc
def gM_advance (s : mT) : Option (mT) :=
  (wh FU (gM_advance_h0) s).bind fun x11 =>
  (gM_see ((stI x11 294 9 (x11.1 294 8)).1 294 8) (stI x11 294 9 (x11.1 294 8))).bind fun p15 =>
  (
    if p15 = (-1 : Int32) then
      some ((stI (stI x11 294 9 (x11.1 294 8)) 294 10 (0 : Int32)))
    else
      (gM_in p15.toInt64 (97 : Int64) (122 : Int64) (stI x11 294 9 (x11.1 294 8))).bind fun p19 =>
      if p19 = 0 then
        (gM_in p15.toInt64 (48 : Int64) (57 : Int64) (stI x11 294 9 (x11.1 294 8))).bind fun p23 =>
        if p23 = 0 then
          (
            if p15 = (59 : Int32) then
              some ((3 : Int32))
            else
              some ((4 : Int32)) : Option (Int32)).bind fun x25 =>
          (some (stI (stI (stI x11 294 9 (x11.1 294 8)) 294 10 x25) 294 8 (((stI (stI x11 294 9 (x11.1 294 8)) 294 10 x25).1 294 8) + (1 : Int32)))).bind fun s28 =>
          some (s28)
        else
          (wh FU (gM_advance_h144) (stI (stI x11 294 9 (x11.1 294 8)) 294 11 (0 : Int32))).bind fun x30 =>
          some ((stI x30 294 10 (2 : Int32)))
      else
        (wh FU (gM_advance_h83) (stI x11 294 9 (x11.1 294 8))).bind fun x32 =>
        some ((stI x32 294 10 (1 : Int32))) : Option (mT)).bind fun x16 =>
  some (x16)
set_option maxRecDepth 8000 in
theorem gM_advance_ok {L d : Nat} (hd : 2 ≤ d) {s : mT} {p : mT} (h : gM_advance s = some p) : Ev d 190 0 [(0, .ref 294)] [] (uS L s) (none, uS L p) := by
  obtain ⟨d, rfl⟩ : ∃ e, d = e + 1 := ⟨d - 1, by omega⟩
  obtain ⟨o, ho⟩ : ∃ o : Option Value × mS, o = (none, uS L p) := ⟨_, rfl⟩
  rw [← ho]
  unfold gM_advance at h
  obtain ⟨x11, w11, h⟩ := bd h
  have j11 : Ev (d + 1) 190 39 [(0, .ref 294)] [] (uS L x11) o := by
    clear w11
    refine Ev.seg D_190 [(.aload_n 0, 1), (.aload_n 0, 1)] (by decide +kernel) (j := 0) (pc' := 41) (lv' := [(0, .ref 294)]) (st' := [.ref 294, .ref 294]) rfl ?_
    refine Ev.getI D_190 (by decide +kernel) F_10_112 (Or.inl T_10_8) (S_oI k_294) ?_
    refine Ev.putI D_190 (by decide +kernel) F_10_119 N_10_9 T_10_9 (S_pI k_294) ?_
    refine Ev.seg D_190 [(.aload_n 0, 1), (.aload_n 0, 1)] (by decide +kernel) (j := 0) (pc' := 49) (lv' := [(0, .ref 294)]) (st' := [.ref 294, .ref 294]) rfl ?_
    refine Ev.getI D_190 (by decide +kernel) F_10_112 (Or.inl T_10_8) (S_oI k_294) ?_
    obtain ⟨p15, e15, h⟩ := bd h
    refine Ev.callv D_190 E_191 (by decide +kernel) C_10_115 294 [.int ((stI x11 294 9 (x11.1 294 8)).1 294 8)] (r := []) rfl (gd_o k_294 (by decide)) rfl (Nat.le_of_ble_eq_true rfl) (Nat.le_of_ble_eq_true rfl) (gM_see_ok (by omega)  e15) ?_
    refine Ev.seg D_190 [(.istore_n 1, 1), (.iload_n 1, 1), (.iconst (-1), 1)] (by decide +kernel) (j := 0) (pc' := 58) (lv' := [(1, .int p15), (0, .ref 294)]) (st' := [.int (-1 : Int32), .int p15]) rfl ?_
    obtain ⟨x16, g16, h⟩ := bd h
    have j16 : Ev (d + 1) 190 239 [] [] (uS L x16) o := by
      clear g16
      cases h
      obtain rfl : o = _ := ho
      exact Ev.vret D_190 (by decide +kernel)
    clear h
    refine Ev.icmp D_190 (c := .ne) (off := 11) (by decide +kernel) (t := 69) rfl (fun c16 => ?_) (fun c16 => ?_)
    · have c16 : ¬ p15 = (-1 : Int32) := of_decide_eq_true c16
      rw [if_neg c16] at g16
      refine Ev.seg D_190 [(.iload_n 1, 1), (.i2l, 1)] (by decide +kernel) (j := 0) (pc' := 71) (lv' := [(1, .int p15), (0, .ref 294)]) (st' := [.long p15.toInt64]) rfl ?_
      refine Ev.ldc2 D_190 (i := 125) (by decide +kernel) (x := (97 : Int64)) (by decide +kernel) ?_
      refine Ev.ldc2 D_190 (i := 127) (by decide +kernel) (x := (122 : Int64)) (by decide +kernel) ?_
      obtain ⟨p19, e19, g16⟩ := bd g16
      refine Ev.calls D_190 E_184 (by decide +kernel) C_10_88 [.long p15.toInt64, .long (97 : Int64), .long (122 : Int64)] (r := []) rfl rfl (Nat.le_of_ble_eq_true rfl) (Nat.le_of_ble_eq_true rfl) (gM_in_ok (by omega)  e19) ?_
      refine Ev.if_ D_190 (c := .eq) (off := 45) (by decide +kernel) (t := 125) rfl (fun c20 => ?_) (fun c20 => ?_)
      · have c20 : p19 = 0 := of_decide_eq_true c20
        rw [if_pos c20] at g16
        refine Ev.seg D_190 [(.iload_n 1, 1), (.i2l, 1)] (by decide +kernel) (j := 0) (pc' := 127) (lv' := [(1, .int p15), (0, .ref 294)]) (st' := [.long p15.toInt64]) rfl ?_
        refine Ev.ldc2 D_190 (i := 129) (by decide +kernel) (x := (48 : Int64)) (by decide +kernel) ?_
        refine Ev.ldc2 D_190 (i := 131) (by decide +kernel) (x := (57 : Int64)) (by decide +kernel) ?_
        obtain ⟨p23, e23, g16⟩ := bd g16
        refine Ev.calls D_190 E_184 (by decide +kernel) C_10_88 [.long p15.toInt64, .long (48 : Int64), .long (57 : Int64)] (r := []) rfl rfl (Nat.le_of_ble_eq_true rfl) (Nat.le_of_ble_eq_true rfl) (gM_in_ok (by omega)  e23) ?_
        refine Ev.if_ D_190 (c := .eq) (off := 78) (by decide +kernel) (t := 214) rfl (fun c24 => ?_) (fun c24 => ?_)
        · have c24 : p23 = 0 := of_decide_eq_true c24
          rw [if_pos c24] at g16
          refine Ev.seg D_190 [(.aload_n 0, 1), (.iload_n 1, 1), (.bipush 59, 2)] (by decide +kernel) (j := 0) (pc' := 218) (lv' := [(1, .int p15), (0, .ref 294)]) (st' := [.int (59 : Int32), .int p15, .ref 294]) rfl ?_
          obtain ⟨x25, g25, g16⟩ := bd g16
          have j25 : Ev (d + 1) 190 226 [(0, .ref 294)] [.int x25, .ref 294] (uS L (stI x11 294 9 (x11.1 294 8))) o := by
            clear g25
            refine Ev.putI D_190 (by decide +kernel) F_10_122 N_10_10 T_10_10 (S_pI k_294) ?_
            refine Ev.seg D_190 [(.aload_n 0, 1), (.dup, 1)] (by decide +kernel) (j := 0) (pc' := 231) (lv' := [(0, .ref 294)]) (st' := [.ref 294, .ref 294]) rfl ?_
            refine Ev.getI D_190 (by decide +kernel) F_10_112 (Or.inl T_10_8) (S_oI k_294) ?_
            refine Ev.seg D_190 [(.iconst 1, 1), (.iadd, 1)] (by decide +kernel) (j := 0) (pc' := 236) (lv' := [(0, .ref 294)]) (st' := [.int (((stI (stI x11 294 9 (x11.1 294 8)) 294 10 x25).1 294 8) + (1 : Int32)), .ref 294]) rfl ?_
            obtain ⟨s28, e28, g16⟩ := bd g16
            refine Ev.putI D_190 (by decide +kernel) F_10_112 N_10_8 T_10_8 (S_pIb k_294 e28) ?_
            cases g16
            exact Ev.sub2 j16 subL_nil
          clear g16
          refine Ev.icmp D_190 (c := .ne) (off := 7) (by decide +kernel) (t := 225) rfl (fun c25 => ?_) (fun c25 => ?_)
          · have c25 : ¬ p15 = (59 : Int32) := of_decide_eq_true c25
            rw [if_neg c25] at g25
            refine Ev.seg D_190 [(.iconst 4, 1)] (by decide +kernel) (j := 0) (pc' := 226) (lv' := [(1, .int p15), (0, .ref 294)]) (st' := [.int (4 : Int32), .ref 294]) rfl ?_
            cases g25
            exact Ev.sub2 j25 (subL_cons rfl subL_nil)
          · have c25 : p15 = (59 : Int32) := Decidable.of_not_not (of_decide_eq_false c25)
            rw [if_pos c25] at g25
            refine Ev.seg D_190 [(.iconst 3, 1), (.goto 4, 3)] (by decide +kernel) (j := 0) (pc' := 226) (lv' := [(1, .int p15), (0, .ref 294)]) (st' := [.int (3 : Int32), .ref 294]) rfl ?_
            cases g25
            exact Ev.sub2 j25 (subL_cons rfl subL_nil)
        · have c24 : ¬ p23 = 0 := of_decide_eq_false c24
          rw [if_neg c24] at g16
          refine Ev.seg D_190 [(.aload_n 0, 1), (.iconst 0, 1)] (by decide +kernel) (j := 0) (pc' := 141) (lv' := [(1, .int p15), (0, .ref 294)]) (st' := [.int (0 : Int32), .ref 294]) rfl ?_
          refine Ev.putI D_190 (by decide +kernel) F_10_133 N_10_11 T_10_11 (S_pI k_294) ?_
          obtain ⟨x30, w30, g16⟩ := bd g16
          have j30 : Ev (d + 1) 190 206 [(0, .ref 294)] [] (uS L x30) o := by
            clear w30
            refine Ev.seg D_190 [(.aload_n 0, 1), (.iconst 2, 1)] (by decide +kernel) (j := 0) (pc' := 208) (lv' := [(0, .ref 294)]) (st' := [.int (2 : Int32), .ref 294]) rfl ?_
            refine Ev.putI D_190 (by decide +kernel) F_10_122 N_10_10 T_10_10 (S_pI k_294) ?_
            refine Ev.seg D_190 [(.goto 28, 3)] (by decide +kernel) (j := 0) (pc' := 239) (lv' := [(0, .ref 294)]) (st' := []) rfl ?_
            cases g16
            exact Ev.sub2 j16 subL_nil
          exact Ev.sub (lv' := [(0, .ref 294)]) (subL_cons rfl subL_nil) (gM_advance_h144_w hd   _ _ _ w30 _ j30)
      · have c20 : ¬ p19 = 0 := of_decide_eq_false c20
        rw [if_neg c20] at g16
        obtain ⟨x32, w32, g16⟩ := bd g16
        have j32 : Ev (d + 1) 190 117 [(0, .ref 294)] [] (uS L x32) o := by
          clear w32
          refine Ev.seg D_190 [(.aload_n 0, 1), (.iconst 1, 1)] (by decide +kernel) (j := 0) (pc' := 119) (lv' := [(0, .ref 294)]) (st' := [.int (1 : Int32), .ref 294]) rfl ?_
          refine Ev.putI D_190 (by decide +kernel) F_10_122 N_10_10 T_10_10 (S_pI k_294) ?_
          refine Ev.seg D_190 [(.goto 117, 3)] (by decide +kernel) (j := 0) (pc' := 239) (lv' := [(0, .ref 294)]) (st' := []) rfl ?_
          cases g16
          exact Ev.sub2 j16 subL_nil
        exact Ev.sub (lv' := [(0, .ref 294)]) (subL_cons rfl subL_nil) (gM_advance_h83_w hd   _ _ _ w32 _ j32)
    · have c16 : p15 = (-1 : Int32) := Decidable.of_not_not (of_decide_eq_false c16)
      rw [if_pos c16] at g16
      refine Ev.seg D_190 [(.aload_n 0, 1), (.iconst 0, 1)] (by decide +kernel) (j := 0) (pc' := 63) (lv' := [(1, .int p15), (0, .ref 294)]) (st' := [.int (0 : Int32), .ref 294]) rfl ?_
      refine Ev.putI D_190 (by decide +kernel) F_10_122 N_10_10 T_10_10 (S_pI k_294) ?_
      refine Ev.seg D_190 [(.goto 173, 3)] (by decide +kernel) (j := 0) (pc' := 239) (lv' := [(1, .int p15), (0, .ref 294)]) (st' := []) rfl ?_
      cases g16
      exact Ev.sub2 j16 subL_nil
  exact Ev.sub (lv' := [(0, .ref 294)]) (subL_cons rfl subL_nil) (gM_advance_h0_w hd   _ _ _ w11 _ j11)
/- PennantLawnModel good: 192 -/
def gM_good (s : mT) : Option (Int32) :=
  (
    if (s.1 294 12) = 0 then
      some ((1 : Int32))
    else
      some ((0 : Int32)) : Option (Int32)).bind fun x2 =>
  if x2 = 0 ∨ x2 = 1 then some (x2) else none
set_option maxRecDepth 8000 in
theorem gM_good_ok {L d : Nat} (hd : 1 ≤ d) {s : mT} {p : Int32} (h : gM_good s = some p) : Ev d 192 0 [(0, .ref 294)] [] (uS L s) (some (.int p), uS L s) := by
  obtain ⟨d, rfl⟩ : ∃ e, d = e + 1 := ⟨d - 1, by omega⟩
  obtain ⟨o, ho⟩ : ∃ o : Option Value × mS, o = (some (.int p), uS L s) := ⟨_, rfl⟩
  rw [← ho]
  unfold gM_good at h
  refine Ev.seg D_192 [(.aload_n 0, 1)] (by decide +kernel) (j := 0) (pc' := 1) (lv' := [(0, .ref 294)]) (st' := [.ref 294]) rfl ?_
  refine Ev.getI D_192 (by decide +kernel) F_10_142 (Or.inl T_10_12) (S_oI k_294) ?_
  obtain ⟨x2, g2, h⟩ := bd h
  have j2 : Ev (d + 1) 192 12 [] [.int x2] (uS L s) o := by
    clear g2
    by_cases c3 : x2 = 0 ∨ x2 = 1
    · rw [if_pos c3] at h
      cases h
      obtain rfl : o = _ := ho
      exact Ev.zret D_192 c3 (by decide +kernel)
    · rw [if_neg c3] at h; cases h
  clear h
  refine Ev.if_ D_192 (c := .ne) (off := 7) (by decide +kernel) (t := 11) rfl (fun c2 => ?_) (fun c2 => ?_)
  · have c2 : ¬ (s.1 294 12) = 0 := of_decide_eq_true c2
    rw [if_neg c2] at g2
    refine Ev.seg D_192 [(.iconst 0, 1)] (by decide +kernel) (j := 0) (pc' := 12) (lv' := [(0, .ref 294)]) (st' := [.int (0 : Int32)]) rfl ?_
    cases g2
    exact Ev.sub2 j2 subL_nil
  · have c2 : (s.1 294 12) = 0 := Decidable.of_not_not (of_decide_eq_false c2)
    rw [if_pos c2] at g2
    refine Ev.seg D_192 [(.iconst 1, 1), (.goto 4, 3)] (by decide +kernel) (j := 0) (pc' := 12) (lv' := [(0, .ref 294)]) (st' := [.int (1 : Int32)]) rfl ?_
    cases g2
    exact Ev.sub2 j2 subL_nil
