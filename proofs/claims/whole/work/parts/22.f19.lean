/-! The program's methods as functions of ints and longs, each with its certificate (wip/whole/gen_emit.py writes this) -/
/- PennantLawnModel row: 323 -/
def gM_row_h52 (v1 : Int32) (q : Int32 × mT) : Option ((Int32 × mT) ⊕ (mT)) :=
  if (60 : Int32) ≤ q.1 then
    some (.inr q.2)
  else
    (wrL q.2 315 240 (((60 : Int32) * v1) + q.1) (0 : Int64)).bind fun s3 =>
    some (.inl (q.1 + (1 : Int32), s3))
set_option maxRecDepth 8000 in
theorem gM_row_h52_ok {L d : Nat} (hd : 3 ≤ d + 1) {v1 : Int32} : ∀ (q : Int32 × mT) (x : (Int32 × mT) ⊕ (mT)), gM_row_h52 v1 q = some x → ∀ o, sK (fun q => Ev (d + 1) 323 52 [(0, .ref 294), (1, .int v1), (4, .int q.1)] [] (uS L q.2) o) (fun r => Ev (d + 1) 323 78 [] [] (uS L r) o) x → Ev (d + 1) 323 52 [(0, .ref 294), (1, .int v1), (4, .int q.1)] [] (uS L q.2) o := by
  intro q x h o ho
  unfold gM_row_h52 at h
  refine Ev.seg D_323 [(.iload 4, 2), (.bipush 60, 2)] (by decide +kernel) (j := 0) (pc' := 56) (lv' := [(0, .ref 294), (1, .int v1), (4, .int q.1)]) (st' := [.int (60 : Int32), .int q.1]) rfl ?_
  refine Ev.icmp D_323 (c := .ge) (off := 22) (by decide +kernel) (t := 78) rfl (fun c1 => ?_) (fun c1 => ?_)
  · have c1 : (60 : Int32) ≤ q.1 := of_decide_eq_true c1
    rw [if_pos c1] at h
    cases h
    exact Ev.sub (lv' := []) subL_nil ho
  · have c1 : ¬ (60 : Int32) ≤ q.1 := of_decide_eq_false c1
    rw [if_neg c1] at h
    refine Ev.seg D_323 [(.aload_n 0, 1)] (by decide +kernel) (j := 0) (pc' := 60) (lv' := [(0, .ref 294), (1, .int v1), (4, .int q.1)]) (st' := [.ref 294]) rfl ?_
    refine Ev.getR D_323 (by decide +kernel) F_10_76 T_10_45 (x := 315) (S_oR k_294 (by decide +kernel)) ?_
    refine Ev.seg D_323 [(.bipush 60, 2), (.iload_n 1, 1), (.imul, 1), (.iload 4, 2), (.iadd, 1), (.lconst 0, 1)] (by decide +kernel) (j := 0) (pc' := 71) (lv' := [(0, .ref 294), (1, .int v1), (4, .int q.1)]) (st' := [.long (0 : Int64), .int (((60 : Int32) * v1) + q.1), .ref 315]) rfl ?_
    obtain ⟨s3, e3, h⟩ := bd h
    refine Ev.last D_323 (by decide +kernel) (S_sL k_315 e3) ?_
    refine Ev.seg D_323 [(.iinc 4 1, 3), (.goto (-23), 3)] (by decide +kernel) (j := 0) (pc' := 52) (lv' := [(4, .int (q.1 + (1 : Int32))), (0, .ref 294), (1, .int v1)]) (st' := []) rfl ?_
    cases h
    exact Ev.sub (lv' := [(0, .ref 294), (1, .int v1), (4, .int (q.1 + (1 : Int32)))]) (subL_cons rfl (subL_cons rfl (subL_cons rfl subL_nil))) ho
theorem gM_row_h52_w {L d : Nat} (hd : 3 ≤ d + 1) {v1 : Int32} : ∀ (n : Nat) (q : Int32 × mT) (r : mT), wh n (gM_row_h52 v1) q = some r → ∀ o, (fun r => Ev (d + 1) 323 78 [] [] (uS L r) o) r → Ev (d + 1) 323 52 [(0, .ref 294), (1, .int v1), (4, .int q.1)] [] (uS L q.2) o :=
  fun n q r h o hc => wh_ev (E := fun (q : Int32 × mT) o => Ev (d + 1) 323 52 [(0, .ref 294), (1, .int v1), (4, .int q.1)] [] (uS L q.2) o) (C := fun (r : mT) o => (fun r => Ev (d + 1) 323 78 [] [] (uS L r) o) r) (gM_row_h52_ok hd  ) n q r h o hc
def gM_row (v1 : Int32) (v2 : Int32) (v3 : Int32) (s : mT) : Option (Int32 × mT) :=
  (gM_isSlot v1 s).bind fun p1 =>
  if p1 = 0 then
    some (((-2 : Int32), s))
  else
    (gM_in v2.toInt64 (0 : Int64) (3 : Int64) s).bind fun p5 =>
    if p5 = 0 then
      some (((-2 : Int32), s))
    else
      if v3 ≤ (60 : Int32) then
        if 0 ≤ v3 then
          (wrI s 313 4 v1 v3).bind fun s11 =>
          (wrI s11 314 4 v1 v2).bind fun s13 =>
          (wh FU (gM_row_h52 v1) ((0 : Int32), s13)).bind fun x14 =>
          some (((0 : Int32), x14))
        else
          some (((-3 : Int32), s))
      else
        some (((-2 : Int32), s))
set_option maxRecDepth 8000 in
theorem gM_row_ok {L d : Nat} (hd : 3 ≤ d) {v1 : Int32} {v2 : Int32} {v3 : Int32} {s : mT} {p : Int32 × mT} (h : gM_row v1 v2 v3 s = some p) : Ev d 323 0 [(0, .ref 294), (1, .int v1), (2, .int v2), (3, .int v3)] [] (uS L s) (some (.int p.1), uS L p.2) := by
  obtain ⟨d, rfl⟩ : ∃ e, d = e + 1 := ⟨d - 1, by omega⟩
  obtain ⟨o, ho⟩ : ∃ o : Option Value × mS, o = (some (.int p.1), uS L p.2) := ⟨_, rfl⟩
  rw [← ho]
  unfold gM_row at h
  refine Ev.seg D_323 [(.iload_n 1, 1)] (by decide +kernel) (j := 0) (pc' := 1) (lv' := [(0, .ref 294), (1, .int v1), (2, .int v2), (3, .int v3)]) (st' := [.int v1]) rfl ?_
  obtain ⟨p1, e1, h⟩ := bd h
  refine Ev.calls D_323 E_292 (by decide +kernel) C_10_363 [.int v1] (r := []) rfl rfl (Nat.le_of_ble_eq_true rfl) (Nat.le_of_ble_eq_true rfl) (gM_isSlot_ok (by omega)  e1) ?_
  refine Ev.if_ D_323 (c := .eq) (off := 21) (by decide +kernel) (t := 25) rfl (fun c2 => ?_) (fun c2 => ?_)
  · have c2 : p1 = 0 := of_decide_eq_true c2
    rw [if_pos c2] at h
    refine Ev.seg D_323 [(.bipush (-2), 2)] (by decide +kernel) (j := 0) (pc' := 27) (lv' := [(0, .ref 294), (1, .int v1), (2, .int v2), (3, .int v3)]) (st' := [.int (-2 : Int32)]) rfl ?_
    cases h
    obtain rfl : o = _ := ho
    exact Ev.iret D_323 (by decide +kernel)
  · have c2 : ¬ p1 = 0 := of_decide_eq_false c2
    rw [if_neg c2] at h
    refine Ev.seg D_323 [(.iload_n 2, 1), (.i2l, 1), (.lconst 0, 1)] (by decide +kernel) (j := 0) (pc' := 10) (lv' := [(0, .ref 294), (1, .int v1), (2, .int v2), (3, .int v3)]) (st' := [.long (0 : Int64), .long v2.toInt64]) rfl ?_
    refine Ev.ldc2 D_323 (i := 100) (by decide +kernel) (x := (3 : Int64)) (by decide +kernel) ?_
    obtain ⟨p5, e5, h⟩ := bd h
    refine Ev.calls D_323 E_184 (by decide +kernel) C_10_88 [.long v2.toInt64, .long (0 : Int64), .long (3 : Int64)] (r := []) rfl rfl (Nat.le_of_ble_eq_true rfl) (Nat.le_of_ble_eq_true rfl) (gM_in_ok (by omega)  e5) ?_
    refine Ev.if_ D_323 (c := .eq) (off := 9) (by decide +kernel) (t := 25) rfl (fun c6 => ?_) (fun c6 => ?_)
    · have c6 : p5 = 0 := of_decide_eq_true c6
      rw [if_pos c6] at h
      refine Ev.seg D_323 [(.bipush (-2), 2)] (by decide +kernel) (j := 0) (pc' := 27) (lv' := [(0, .ref 294), (1, .int v1), (2, .int v2), (3, .int v3)]) (st' := [.int (-2 : Int32)]) rfl ?_
      cases h
      obtain rfl : o = _ := ho
      exact Ev.iret D_323 (by decide +kernel)
    · have c6 : ¬ p5 = 0 := of_decide_eq_false c6
      rw [if_neg c6] at h
      refine Ev.seg D_323 [(.iload_n 3, 1), (.bipush 60, 2)] (by decide +kernel) (j := 0) (pc' := 22) (lv' := [(0, .ref 294), (1, .int v1), (2, .int v2), (3, .int v3)]) (st' := [.int (60 : Int32), .int v3]) rfl ?_
      refine Ev.icmp D_323 (c := .le) (off := 6) (by decide +kernel) (t := 28) rfl (fun c8 => ?_) (fun c8 => ?_)
      · have c8 : v3 ≤ (60 : Int32) := of_decide_eq_true c8
        rw [if_pos c8] at h
        refine Ev.seg D_323 [(.iload_n 3, 1)] (by decide +kernel) (j := 0) (pc' := 29) (lv' := [(0, .ref 294), (1, .int v1), (2, .int v2), (3, .int v3)]) (st' := [.int v3]) rfl ?_
        refine Ev.if_ D_323 (c := .ge) (off := 6) (by decide +kernel) (t := 35) rfl (fun c9 => ?_) (fun c9 => ?_)
        · have c9 : 0 ≤ v3 := of_decide_eq_true c9
          rw [if_pos c9] at h
          refine Ev.seg D_323 [(.aload_n 0, 1)] (by decide +kernel) (j := 0) (pc' := 36) (lv' := [(0, .ref 294), (1, .int v1), (2, .int v2), (3, .int v3)]) (st' := [.ref 294]) rfl ?_
          refine Ev.getR D_323 (by decide +kernel) F_10_70 T_10_43 (x := 313) (S_oR k_294 (by decide +kernel)) ?_
          refine Ev.seg D_323 [(.iload_n 1, 1), (.iload_n 3, 1)] (by decide +kernel) (j := 0) (pc' := 41) (lv' := [(0, .ref 294), (1, .int v1), (2, .int v2), (3, .int v3)]) (st' := [.int v3, .int v1, .ref 313]) rfl ?_
          obtain ⟨s11, e11, h⟩ := bd h
          refine Ev.iast D_323 (by decide +kernel) (S_sI k_313 e11) ?_
          refine Ev.seg D_323 [(.aload_n 0, 1)] (by decide +kernel) (j := 0) (pc' := 43) (lv' := [(0, .ref 294), (1, .int v1), (2, .int v2), (3, .int v3)]) (st' := [.ref 294]) rfl ?_
          refine Ev.getR D_323 (by decide +kernel) F_10_73 T_10_44 (x := 314) (S_oR k_294 (by decide +kernel)) ?_
          refine Ev.seg D_323 [(.iload_n 1, 1), (.iload_n 2, 1)] (by decide +kernel) (j := 0) (pc' := 48) (lv' := [(0, .ref 294), (1, .int v1), (2, .int v2), (3, .int v3)]) (st' := [.int v2, .int v1, .ref 314]) rfl ?_
          obtain ⟨s13, e13, h⟩ := bd h
          refine Ev.iast D_323 (by decide +kernel) (S_sI k_314 e13) ?_
          refine Ev.seg D_323 [(.iconst 0, 1), (.istore 4, 2)] (by decide +kernel) (j := 0) (pc' := 52) (lv' := [(4, .int (0 : Int32)), (0, .ref 294), (1, .int v1), (2, .int v2), (3, .int v3)]) (st' := []) rfl ?_
          obtain ⟨x14, w14, h⟩ := bd h
          have j14 : Ev (d + 1) 323 78 [] [] (uS L x14) o := by
            clear w14
            refine Ev.seg D_323 [(.iconst 0, 1)] (by decide +kernel) (j := 0) (pc' := 79) (lv' := []) (st' := [.int (0 : Int32)]) rfl ?_
            cases h
            obtain rfl : o = _ := ho
            exact Ev.iret D_323 (by decide +kernel)
          exact Ev.sub (lv' := [(0, .ref 294), (1, .int v1), (4, .int (0 : Int32))]) (subL_cons rfl (subL_cons rfl (subL_cons rfl subL_nil))) (gM_row_h52_w hd   _ _ _ w14 _ j14)
        · have c9 : ¬ 0 ≤ v3 := of_decide_eq_false c9
          rw [if_neg c9] at h
          refine Ev.seg D_323 [(.bipush (-3), 2)] (by decide +kernel) (j := 0) (pc' := 34) (lv' := [(0, .ref 294), (1, .int v1), (2, .int v2), (3, .int v3)]) (st' := [.int (-3 : Int32)]) rfl ?_
          cases h
          obtain rfl : o = _ := ho
          exact Ev.iret D_323 (by decide +kernel)
      · have c8 : ¬ v3 ≤ (60 : Int32) := of_decide_eq_false c8
        rw [if_neg c8] at h
        refine Ev.seg D_323 [(.bipush (-2), 2)] (by decide +kernel) (j := 0) (pc' := 27) (lv' := [(0, .ref 294), (1, .int v1), (2, .int v2), (3, .int v3)]) (st' := [.int (-2 : Int32)]) rfl ?_
        cases h
        obtain rfl : o = _ := ho
        exact Ev.iret D_323 (by decide +kernel)
/- PennantLawnModel cut: 325 -/
def gM_cut (v0 : Int64) (v2 : Int32) (s : mT) : Option (Int64) :=
  some ((v0 <<< (((64 : Int32) - ((8 : Int32) <<< (v2 &&& 31))).toInt64 &&& 63)) >>> (((64 : Int32) - ((8 : Int32) <<< (v2 &&& 31))).toInt64 &&& 63))
set_option maxRecDepth 8000 in
theorem gM_cut_ok {L d : Nat} (hd : 1 ≤ d) {v0 : Int64} {v2 : Int32} {s : mT} {p : Int64} (h : gM_cut v0 v2 s = some p) : Ev d 325 0 [(0, .long v0), (2, .int v2)] [] (uS L s) (some (.long p), uS L s) := by
  obtain ⟨d, rfl⟩ : ∃ e, d = e + 1 := ⟨d - 1, by omega⟩
  obtain ⟨o, ho⟩ : ∃ o : Option Value × mS, o = (some (.long p), uS L s) := ⟨_, rfl⟩
  rw [← ho]
  unfold gM_cut at h
  refine Ev.seg D_325 [(.bipush 64, 2), (.bipush 8, 2), (.iload_n 2, 1), (.ishl, 1), (.isub, 1), (.istore_n 3, 1), (.lload_n 0, 1), (.iload_n 3, 1), (.lshl, 1), (.iload_n 3, 1), (.lshr, 1)] (by decide +kernel) (j := 0) (pc' := 13) (lv' := [(3, .int ((64 : Int32) - ((8 : Int32) <<< (v2 &&& 31)))), (0, .long v0), (2, .int v2)]) (st' := [.long ((v0 <<< (((64 : Int32) - ((8 : Int32) <<< (v2 &&& 31))).toInt64 &&& 63)) >>> (((64 : Int32) - ((8 : Int32) <<< (v2 &&& 31))).toInt64 &&& 63))]) rfl ?_
  cases h
  obtain rfl : o = _ := ho
  exact Ev.lret D_325 (by decide +kernel)
/- PennantLawnModel write: 324 -/
def gM_write (v1 : Int32) (v2 : Int32) (v3 : Int64) (s : mT) : Option (Int32 × mT) :=
  (gM_isSlot v1 s).bind fun p1 =>
  if p1 = 0 then
    some (((-2 : Int32), s))
  else
    (rdI (s.1 313) 4 v1).bind fun x4 =>
    if x4 = (-1 : Int32) then
      some (((-6 : Int32), s))
    else
      (rdI (s.1 313) 4 v1).bind fun x7 =>
      (gM_in v2.toInt64 (0 : Int64) ((x7 - (1 : Int32)).toInt64) s).bind fun p8 =>
      if p8 = 0 then
        some (((-7 : Int32), s))
      else
        (rdI (s.1 314) 4 v1).bind fun x12 =>
        (gM_cut v3 x12 s).bind fun p13 =>
        (wrL s 315 240 (((60 : Int32) * v1) + v2) p13).bind fun s14 =>
        some (((0 : Int32), s14))
set_option maxRecDepth 8000 in
theorem gM_write_ok {L d : Nat} (hd : 3 ≤ d) {v1 : Int32} {v2 : Int32} {v3 : Int64} {s : mT} {p : Int32 × mT} (h : gM_write v1 v2 v3 s = some p) : Ev d 324 0 [(0, .ref 294), (1, .int v1), (2, .int v2), (3, .long v3)] [] (uS L s) (some (.int p.1), uS L p.2) := by
  obtain ⟨d, rfl⟩ : ∃ e, d = e + 1 := ⟨d - 1, by omega⟩
  obtain ⟨o, ho⟩ : ∃ o : Option Value × mS, o = (some (.int p.1), uS L p.2) := ⟨_, rfl⟩
  rw [← ho]
  unfold gM_write at h
  refine Ev.seg D_324 [(.iload_n 1, 1)] (by decide +kernel) (j := 0) (pc' := 1) (lv' := [(0, .ref 294), (1, .int v1), (2, .int v2), (3, .long v3)]) (st' := [.int v1]) rfl ?_
  obtain ⟨p1, e1, h⟩ := bd h
  refine Ev.calls D_324 E_292 (by decide +kernel) C_10_363 [.int v1] (r := []) rfl rfl (Nat.le_of_ble_eq_true rfl) (Nat.le_of_ble_eq_true rfl) (gM_isSlot_ok (by omega)  e1) ?_
  refine Ev.if_ D_324 (c := .ne) (off := 6) (by decide +kernel) (t := 10) rfl (fun c2 => ?_) (fun c2 => ?_)
  · have c2 : ¬ p1 = 0 := of_decide_eq_true c2
    rw [if_neg c2] at h
    refine Ev.seg D_324 [(.aload_n 0, 1)] (by decide +kernel) (j := 0) (pc' := 11) (lv' := [(0, .ref 294), (1, .int v1), (2, .int v2), (3, .long v3)]) (st' := [.ref 294]) rfl ?_
    refine Ev.getR D_324 (by decide +kernel) F_10_70 T_10_43 (x := 313) (S_oR k_294 (by decide +kernel)) ?_
    refine Ev.seg D_324 [(.iload_n 1, 1)] (by decide +kernel) (j := 0) (pc' := 15) (lv' := [(0, .ref 294), (1, .int v1), (2, .int v2), (3, .long v3)]) (st' := [.int v1, .ref 313]) rfl ?_
    obtain ⟨x4, e4, h⟩ := bd h
    refine Ev.iald D_324 (by decide +kernel) (S_aI k_313 e4) ?_
    refine Ev.seg D_324 [(.iconst (-1), 1)] (by decide +kernel) (j := 0) (pc' := 17) (lv' := [(0, .ref 294), (1, .int v1), (2, .int v2), (3, .long v3)]) (st' := [.int (-1 : Int32), .int x4]) rfl ?_
    refine Ev.icmp D_324 (c := .ne) (off := 6) (by decide +kernel) (t := 23) rfl (fun c5 => ?_) (fun c5 => ?_)
    · have c5 : ¬ x4 = (-1 : Int32) := of_decide_eq_true c5
      rw [if_neg c5] at h
      refine Ev.seg D_324 [(.iload_n 2, 1), (.i2l, 1), (.lconst 0, 1), (.aload_n 0, 1)] (by decide +kernel) (j := 0) (pc' := 27) (lv' := [(0, .ref 294), (1, .int v1), (2, .int v2), (3, .long v3)]) (st' := [.ref 294, .long (0 : Int64), .long v2.toInt64]) rfl ?_
      refine Ev.getR D_324 (by decide +kernel) F_10_70 T_10_43 (x := 313) (S_oR k_294 (by decide +kernel)) ?_
      refine Ev.seg D_324 [(.iload_n 1, 1)] (by decide +kernel) (j := 0) (pc' := 31) (lv' := [(0, .ref 294), (1, .int v1), (2, .int v2), (3, .long v3)]) (st' := [.int v1, .ref 313, .long (0 : Int64), .long v2.toInt64]) rfl ?_
      obtain ⟨x7, e7, h⟩ := bd h
      refine Ev.iald D_324 (by decide +kernel) (S_aI k_313 e7) ?_
      refine Ev.seg D_324 [(.iconst 1, 1), (.isub, 1), (.i2l, 1)] (by decide +kernel) (j := 0) (pc' := 35) (lv' := [(0, .ref 294), (1, .int v1), (2, .int v2), (3, .long v3)]) (st' := [.long ((x7 - (1 : Int32)).toInt64), .long (0 : Int64), .long v2.toInt64]) rfl ?_
      obtain ⟨p8, e8, h⟩ := bd h
      refine Ev.calls D_324 E_184 (by decide +kernel) C_10_88 [.long v2.toInt64, .long (0 : Int64), .long ((x7 - (1 : Int32)).toInt64)] (r := []) rfl rfl (Nat.le_of_ble_eq_true rfl) (Nat.le_of_ble_eq_true rfl) (gM_in_ok (by omega)  e8) ?_
      refine Ev.if_ D_324 (c := .ne) (off := 6) (by decide +kernel) (t := 44) rfl (fun c9 => ?_) (fun c9 => ?_)
      · have c9 : ¬ p8 = 0 := of_decide_eq_true c9
        rw [if_neg c9] at h
        refine Ev.seg D_324 [(.aload_n 0, 1)] (by decide +kernel) (j := 0) (pc' := 45) (lv' := [(0, .ref 294), (1, .int v1), (2, .int v2), (3, .long v3)]) (st' := [.ref 294]) rfl ?_
        refine Ev.getR D_324 (by decide +kernel) F_10_76 T_10_45 (x := 315) (S_oR k_294 (by decide +kernel)) ?_
        refine Ev.seg D_324 [(.bipush 60, 2), (.iload_n 1, 1), (.imul, 1), (.iload_n 2, 1), (.iadd, 1), (.lload_n 3, 1), (.aload_n 0, 1)] (by decide +kernel) (j := 0) (pc' := 56) (lv' := [(0, .ref 294), (1, .int v1), (2, .int v2), (3, .long v3)]) (st' := [.ref 294, .long v3, .int (((60 : Int32) * v1) + v2), .ref 315]) rfl ?_
        refine Ev.getR D_324 (by decide +kernel) F_10_73 T_10_44 (x := 314) (S_oR k_294 (by decide +kernel)) ?_
        refine Ev.seg D_324 [(.iload_n 1, 1)] (by decide +kernel) (j := 0) (pc' := 60) (lv' := [(0, .ref 294), (1, .int v1), (2, .int v2), (3, .long v3)]) (st' := [.int v1, .ref 314, .long v3, .int (((60 : Int32) * v1) + v2), .ref 315]) rfl ?_
        obtain ⟨x12, e12, h⟩ := bd h
        refine Ev.iald D_324 (by decide +kernel) (S_aI k_314 e12) ?_
        obtain ⟨p13, e13, h⟩ := bd h
        refine Ev.calls D_324 E_325 (by decide +kernel) C_10_468 [.long v3, .int x12] (r := [.int (((60 : Int32) * v1) + v2), .ref 315]) rfl rfl (Nat.le_of_ble_eq_true rfl) (Nat.le_of_ble_eq_true rfl) (gM_cut_ok (by omega)  e13) ?_
        obtain ⟨s14, e14, h⟩ := bd h
        refine Ev.last D_324 (by decide +kernel) (S_sL k_315 e14) ?_
        refine Ev.seg D_324 [(.iconst 0, 1)] (by decide +kernel) (j := 0) (pc' := 66) (lv' := [(0, .ref 294), (1, .int v1), (2, .int v2), (3, .long v3)]) (st' := [.int (0 : Int32)]) rfl ?_
        cases h
        obtain rfl : o = _ := ho
        exact Ev.iret D_324 (by decide +kernel)
      · have c9 : p8 = 0 := Decidable.of_not_not (of_decide_eq_false c9)
        rw [if_pos c9] at h
        refine Ev.seg D_324 [(.bipush (-7), 2)] (by decide +kernel) (j := 0) (pc' := 43) (lv' := [(0, .ref 294), (1, .int v1), (2, .int v2), (3, .long v3)]) (st' := [.int (-7 : Int32)]) rfl ?_
        cases h
        obtain rfl : o = _ := ho
        exact Ev.iret D_324 (by decide +kernel)
    · have c5 : x4 = (-1 : Int32) := Decidable.of_not_not (of_decide_eq_false c5)
      rw [if_pos c5] at h
      refine Ev.seg D_324 [(.bipush (-6), 2)] (by decide +kernel) (j := 0) (pc' := 22) (lv' := [(0, .ref 294), (1, .int v1), (2, .int v2), (3, .long v3)]) (st' := [.int (-6 : Int32)]) rfl ?_
      cases h
      obtain rfl : o = _ := ho
      exact Ev.iret D_324 (by decide +kernel)
  · have c2 : p1 = 0 := Decidable.of_not_not (of_decide_eq_false c2)
    rw [if_pos c2] at h
    refine Ev.seg D_324 [(.bipush (-2), 2)] (by decide +kernel) (j := 0) (pc' := 9) (lv' := [(0, .ref 294), (1, .int v1), (2, .int v2), (3, .long v3)]) (st' := [.int (-2 : Int32)]) rfl ?_
    cases h
    obtain rfl : o = _ := ho
    exact Ev.iret D_324 (by decide +kernel)
/- PennantLawnModel paste: 326 -/
def gM_paste_h113 (v1 : Int32) (v2 : Int32) (v3 : Int32) (v4 : Int32) (v5 : Int32) (q : Int32 × mT) : Option ((Int32 × mT) ⊕ (mT)) :=
  if v5 ≤ q.1 then
    some (.inr q.2)
  else
    (rdL (q.2.2 315) 240 ((((60 : Int32) * v1) + v2) + q.1)).bind fun x4 =>
    (wrL q.2 316 60 q.1 x4).bind fun s5 =>
    some (.inl (q.1 + (1 : Int32), s5))
set_option maxRecDepth 8000 in
theorem gM_paste_h113_ok {L d : Nat} (hd : 3 ≤ d + 1) {v1 : Int32} {v2 : Int32} {v3 : Int32} {v4 : Int32} {v5 : Int32} : ∀ (q : Int32 × mT) (x : (Int32 × mT) ⊕ (mT)), gM_paste_h113 v1 v2 v3 v4 v5 q = some x → ∀ o, sK (fun q => Ev (d + 1) 326 113 [(0, .ref 294), (1, .int v1), (2, .int v2), (3, .int v3), (4, .int v4), (5, .int v5), (6, .int q.1)] [] (uS L q.2) o) (fun r => Ev (d + 1) 326 147 [(0, .ref 294), (3, .int v3), (4, .int v4), (5, .int v5)] [] (uS L r) o) x → Ev (d + 1) 326 113 [(0, .ref 294), (1, .int v1), (2, .int v2), (3, .int v3), (4, .int v4), (5, .int v5), (6, .int q.1)] [] (uS L q.2) o := by
  intro q x h o ho
  unfold gM_paste_h113 at h
  refine Ev.seg D_326 [(.iload 6, 2), (.iload 5, 2)] (by decide +kernel) (j := 0) (pc' := 117) (lv' := [(0, .ref 294), (1, .int v1), (2, .int v2), (3, .int v3), (4, .int v4), (5, .int v5), (6, .int q.1)]) (st' := [.int v5, .int q.1]) rfl ?_
  refine Ev.icmp D_326 (c := .ge) (off := 30) (by decide +kernel) (t := 147) rfl (fun c1 => ?_) (fun c1 => ?_)
  · have c1 : v5 ≤ q.1 := of_decide_eq_true c1
    rw [if_pos c1] at h
    cases h
    exact Ev.sub (lv' := [(0, .ref 294), (3, .int v3), (4, .int v4), (5, .int v5)]) (subL_cons rfl (subL_cons rfl (subL_cons rfl (subL_cons rfl subL_nil)))) ho
  · have c1 : ¬ v5 ≤ q.1 := of_decide_eq_false c1
    rw [if_neg c1] at h
    refine Ev.seg D_326 [(.aload_n 0, 1)] (by decide +kernel) (j := 0) (pc' := 121) (lv' := [(0, .ref 294), (1, .int v1), (2, .int v2), (3, .int v3), (4, .int v4), (5, .int v5), (6, .int q.1)]) (st' := [.ref 294]) rfl ?_
    refine Ev.getR D_326 (by decide +kernel) F_10_80 T_10_46 (x := 316) (S_oR k_294 (by decide +kernel)) ?_
    refine Ev.seg D_326 [(.iload 6, 2), (.aload_n 0, 1)] (by decide +kernel) (j := 0) (pc' := 127) (lv' := [(0, .ref 294), (1, .int v1), (2, .int v2), (3, .int v3), (4, .int v4), (5, .int v5), (6, .int q.1)]) (st' := [.ref 294, .int q.1, .ref 316]) rfl ?_
    refine Ev.getR D_326 (by decide +kernel) F_10_76 T_10_45 (x := 315) (S_oR k_294 (by decide +kernel)) ?_
    refine Ev.seg D_326 [(.bipush 60, 2), (.iload_n 1, 1), (.imul, 1), (.iload_n 2, 1), (.iadd, 1), (.iload 6, 2), (.iadd, 1)] (by decide +kernel) (j := 0) (pc' := 139) (lv' := [(0, .ref 294), (1, .int v1), (2, .int v2), (3, .int v3), (4, .int v4), (5, .int v5), (6, .int q.1)]) (st' := [.int ((((60 : Int32) * v1) + v2) + q.1), .ref 315, .int q.1, .ref 316]) rfl ?_
    obtain ⟨x4, e4, h⟩ := bd h
    refine Ev.lald D_326 (by decide +kernel) (S_aL k_315 e4) ?_
    obtain ⟨s5, e5, h⟩ := bd h
    refine Ev.last D_326 (by decide +kernel) (S_sL k_316 e5) ?_
    refine Ev.seg D_326 [(.iinc 6 1, 3), (.goto (-31), 3)] (by decide +kernel) (j := 0) (pc' := 113) (lv' := [(6, .int (q.1 + (1 : Int32))), (0, .ref 294), (1, .int v1), (2, .int v2), (3, .int v3), (4, .int v4), (5, .int v5)]) (st' := []) rfl ?_
    cases h
    exact Ev.sub (lv' := [(0, .ref 294), (1, .int v1), (2, .int v2), (3, .int v3), (4, .int v4), (5, .int v5), (6, .int (q.1 + (1 : Int32)))]) (subL_cons rfl (subL_cons rfl (subL_cons rfl (subL_cons rfl (subL_cons rfl (subL_cons rfl (subL_cons rfl subL_nil))))))) ho
theorem gM_paste_h113_w {L d : Nat} (hd : 3 ≤ d + 1) {v1 : Int32} {v2 : Int32} {v3 : Int32} {v4 : Int32} {v5 : Int32} : ∀ (n : Nat) (q : Int32 × mT) (r : mT), wh n (gM_paste_h113 v1 v2 v3 v4 v5) q = some r → ∀ o, (fun r => Ev (d + 1) 326 147 [(0, .ref 294), (3, .int v3), (4, .int v4), (5, .int v5)] [] (uS L r) o) r → Ev (d + 1) 326 113 [(0, .ref 294), (1, .int v1), (2, .int v2), (3, .int v3), (4, .int v4), (5, .int v5), (6, .int q.1)] [] (uS L q.2) o :=
  fun n q r h o hc => wh_ev (E := fun (q : Int32 × mT) o => Ev (d + 1) 326 113 [(0, .ref 294), (1, .int v1), (2, .int v2), (3, .int v3), (4, .int v4), (5, .int v5), (6, .int q.1)] [] (uS L q.2) o) (C := fun (r : mT) o => (fun r => Ev (d + 1) 326 147 [(0, .ref 294), (3, .int v3), (4, .int v4), (5, .int v5)] [] (uS L r) o) r) (gM_paste_h113_ok hd  ) n q r h o hc
def gM_paste_h150 (v3 : Int32) (v4 : Int32) (v5 : Int32) (q : Int32 × mT) : Option ((Int32 × mT) ⊕ (mT)) :=
  if v5 ≤ q.1 then
    some (.inr q.2)
  else
    (rdL (q.2.2 316) 60 q.1).bind fun x4 =>
    (wrL q.2 315 240 ((((60 : Int32) * v3) + v4) + q.1) x4).bind fun s5 =>
    some (.inl (q.1 + (1 : Int32), s5))
set_option maxRecDepth 8000 in
theorem gM_paste_h150_ok {L d : Nat} (hd : 3 ≤ d + 1) {v3 : Int32} {v4 : Int32} {v5 : Int32} : ∀ (q : Int32 × mT) (x : (Int32 × mT) ⊕ (mT)), gM_paste_h150 v3 v4 v5 q = some x → ∀ o, sK (fun q => Ev (d + 1) 326 150 [(0, .ref 294), (3, .int v3), (4, .int v4), (5, .int v5), (6, .int q.1)] [] (uS L q.2) o) (fun r => Ev (d + 1) 326 185 [] [] (uS L r) o) x → Ev (d + 1) 326 150 [(0, .ref 294), (3, .int v3), (4, .int v4), (5, .int v5), (6, .int q.1)] [] (uS L q.2) o := by
  intro q x h o ho
  unfold gM_paste_h150 at h
  refine Ev.seg D_326 [(.iload 6, 2), (.iload 5, 2)] (by decide +kernel) (j := 0) (pc' := 154) (lv' := [(0, .ref 294), (3, .int v3), (4, .int v4), (5, .int v5), (6, .int q.1)]) (st' := [.int v5, .int q.1]) rfl ?_
  refine Ev.icmp D_326 (c := .ge) (off := 31) (by decide +kernel) (t := 185) rfl (fun c1 => ?_) (fun c1 => ?_)
  · have c1 : v5 ≤ q.1 := of_decide_eq_true c1
    rw [if_pos c1] at h
    cases h
    exact Ev.sub (lv' := []) subL_nil ho
  · have c1 : ¬ v5 ≤ q.1 := of_decide_eq_false c1
    rw [if_neg c1] at h
    refine Ev.seg D_326 [(.aload_n 0, 1)] (by decide +kernel) (j := 0) (pc' := 158) (lv' := [(0, .ref 294), (3, .int v3), (4, .int v4), (5, .int v5), (6, .int q.1)]) (st' := [.ref 294]) rfl ?_
    refine Ev.getR D_326 (by decide +kernel) F_10_76 T_10_45 (x := 315) (S_oR k_294 (by decide +kernel)) ?_
    refine Ev.seg D_326 [(.bipush 60, 2), (.iload_n 3, 1), (.imul, 1), (.iload 4, 2), (.iadd, 1), (.iload 6, 2), (.iadd, 1), (.aload_n 0, 1)] (by decide +kernel) (j := 0) (pc' := 172) (lv' := [(0, .ref 294), (3, .int v3), (4, .int v4), (5, .int v5), (6, .int q.1)]) (st' := [.ref 294, .int ((((60 : Int32) * v3) + v4) + q.1), .ref 315]) rfl ?_
    refine Ev.getR D_326 (by decide +kernel) F_10_80 T_10_46 (x := 316) (S_oR k_294 (by decide +kernel)) ?_
    refine Ev.seg D_326 [(.iload 6, 2)] (by decide +kernel) (j := 0) (pc' := 177) (lv' := [(0, .ref 294), (3, .int v3), (4, .int v4), (5, .int v5), (6, .int q.1)]) (st' := [.int q.1, .ref 316, .int ((((60 : Int32) * v3) + v4) + q.1), .ref 315]) rfl ?_
    obtain ⟨x4, e4, h⟩ := bd h
    refine Ev.lald D_326 (by decide +kernel) (S_aL k_316 e4) ?_
    obtain ⟨s5, e5, h⟩ := bd h
    refine Ev.last D_326 (by decide +kernel) (S_sL k_315 e5) ?_
    refine Ev.seg D_326 [(.iinc 6 1, 3), (.goto (-32), 3)] (by decide +kernel) (j := 0) (pc' := 150) (lv' := [(6, .int (q.1 + (1 : Int32))), (0, .ref 294), (3, .int v3), (4, .int v4), (5, .int v5)]) (st' := []) rfl ?_
    cases h
    exact Ev.sub (lv' := [(0, .ref 294), (3, .int v3), (4, .int v4), (5, .int v5), (6, .int (q.1 + (1 : Int32)))]) (subL_cons rfl (subL_cons rfl (subL_cons rfl (subL_cons rfl (subL_cons rfl subL_nil))))) ho
theorem gM_paste_h150_w {L d : Nat} (hd : 3 ≤ d + 1) {v3 : Int32} {v4 : Int32} {v5 : Int32} : ∀ (n : Nat) (q : Int32 × mT) (r : mT), wh n (gM_paste_h150 v3 v4 v5) q = some r → ∀ o, (fun r => Ev (d + 1) 326 185 [] [] (uS L r) o) r → Ev (d + 1) 326 150 [(0, .ref 294), (3, .int v3), (4, .int v4), (5, .int v5), (6, .int q.1)] [] (uS L q.2) o :=
  fun n q r h o hc => wh_ev (E := fun (q : Int32 × mT) o => Ev (d + 1) 326 150 [(0, .ref 294), (3, .int v3), (4, .int v4), (5, .int v5), (6, .int q.1)] [] (uS L q.2) o) (C := fun (r : mT) o => (fun r => Ev (d + 1) 326 185 [] [] (uS L r) o) r) (gM_paste_h150_ok hd  ) n q r h o hc
def gM_paste (v1 : Int32) (v2 : Int32) (v3 : Int32) (v4 : Int32) (v5 : Int32) (s : mT) : Option (Int32 × mT) :=
  (gM_isSlot v1 s).bind fun p1 =>
  if p1 = 0 then
    some (((-2 : Int32), s))
  else
    (gM_isSlot v3 s).bind fun p4 =>
    if p4 = 0 then
      some (((-2 : Int32), s))
    else
      (rdI (s.1 313) 4 v1).bind fun x7 =>
      if x7 = (-1 : Int32) then
        some (((-6 : Int32), s))
      else
        (rdI (s.1 313) 4 v3).bind fun x11 =>
        if x11 = (-1 : Int32) then
          some (((-6 : Int32), s))
        else
          (rdI (s.1 314) 4 v1).bind fun x14 =>
          (rdI (s.1 314) 4 v3).bind fun x16 =>
          if x14 = x16 then
            if v2 < 0 then
              some (((-7 : Int32), s))
            else
              if v4 < 0 then
                some (((-7 : Int32), s))
              else
                if v5 < 0 then
                  some (((-7 : Int32), s))
                else
                  (rdI (s.1 313) 4 v1).bind fun x25 =>
                  if 0 < (lg_cmp (v2.toInt64 + v5.toInt64) x25.toInt64) then
                    some (((-7 : Int32), s))
                  else
                    (rdI (s.1 313) 4 v3).bind fun x29 =>
                    if (lg_cmp (v4.toInt64 + v5.toInt64) x29.toInt64) ≤ 0 then
                      (wh FU (gM_paste_h113 v1 v2 v3 v4 v5) ((0 : Int32), s)).bind fun x31 =>
                      (wh FU (gM_paste_h150 v3 v4 v5) ((0 : Int32), x31)).bind fun x32 =>
                      some (((0 : Int32), x32))
                    else
                      some (((-7 : Int32), s))
          else
            some (((-8 : Int32), s))
set_option maxRecDepth 8000 in
theorem gM_paste_ok {L d : Nat} (hd : 3 ≤ d) {v1 : Int32} {v2 : Int32} {v3 : Int32} {v4 : Int32} {v5 : Int32} {s : mT} {p : Int32 × mT} (h : gM_paste v1 v2 v3 v4 v5 s = some p) : Ev d 326 0 [(0, .ref 294), (1, .int v1), (2, .int v2), (3, .int v3), (4, .int v4), (5, .int v5)] [] (uS L s) (some (.int p.1), uS L p.2) := by
  obtain ⟨d, rfl⟩ : ∃ e, d = e + 1 := ⟨d - 1, by omega⟩
  obtain ⟨o, ho⟩ : ∃ o : Option Value × mS, o = (some (.int p.1), uS L p.2) := ⟨_, rfl⟩
  rw [← ho]
  unfold gM_paste at h
  refine Ev.seg D_326 [(.iload_n 1, 1)] (by decide +kernel) (j := 0) (pc' := 1) (lv' := [(0, .ref 294), (1, .int v1), (2, .int v2), (3, .int v3), (4, .int v4), (5, .int v5)]) (st' := [.int v1]) rfl ?_
  obtain ⟨p1, e1, h⟩ := bd h
  refine Ev.calls D_326 E_292 (by decide +kernel) C_10_363 [.int v1] (r := []) rfl rfl (Nat.le_of_ble_eq_true rfl) (Nat.le_of_ble_eq_true rfl) (gM_isSlot_ok (by omega)  e1) ?_
  refine Ev.if_ D_326 (c := .eq) (off := 10) (by decide +kernel) (t := 14) rfl (fun c2 => ?_) (fun c2 => ?_)
  · have c2 : p1 = 0 := of_decide_eq_true c2
    rw [if_pos c2] at h
    refine Ev.seg D_326 [(.bipush (-2), 2)] (by decide +kernel) (j := 0) (pc' := 16) (lv' := [(0, .ref 294), (1, .int v1), (2, .int v2), (3, .int v3), (4, .int v4), (5, .int v5)]) (st' := [.int (-2 : Int32)]) rfl ?_
    cases h
    obtain rfl : o = _ := ho
    exact Ev.iret D_326 (by decide +kernel)
  · have c2 : ¬ p1 = 0 := of_decide_eq_false c2
    rw [if_neg c2] at h
    refine Ev.seg D_326 [(.iload_n 3, 1)] (by decide +kernel) (j := 0) (pc' := 8) (lv' := [(0, .ref 294), (1, .int v1), (2, .int v2), (3, .int v3), (4, .int v4), (5, .int v5)]) (st' := [.int v3]) rfl ?_
    obtain ⟨p4, e4, h⟩ := bd h
    refine Ev.calls D_326 E_292 (by decide +kernel) C_10_363 [.int v3] (r := []) rfl rfl (Nat.le_of_ble_eq_true rfl) (Nat.le_of_ble_eq_true rfl) (gM_isSlot_ok (by omega)  e4) ?_
    refine Ev.if_ D_326 (c := .ne) (off := 6) (by decide +kernel) (t := 17) rfl (fun c5 => ?_) (fun c5 => ?_)
    · have c5 : ¬ p4 = 0 := of_decide_eq_true c5
      rw [if_neg c5] at h
      refine Ev.seg D_326 [(.aload_n 0, 1)] (by decide +kernel) (j := 0) (pc' := 18) (lv' := [(0, .ref 294), (1, .int v1), (2, .int v2), (3, .int v3), (4, .int v4), (5, .int v5)]) (st' := [.ref 294]) rfl ?_
      refine Ev.getR D_326 (by decide +kernel) F_10_70 T_10_43 (x := 313) (S_oR k_294 (by decide +kernel)) ?_
      refine Ev.seg D_326 [(.iload_n 1, 1)] (by decide +kernel) (j := 0) (pc' := 22) (lv' := [(0, .ref 294), (1, .int v1), (2, .int v2), (3, .int v3), (4, .int v4), (5, .int v5)]) (st' := [.int v1, .ref 313]) rfl ?_
      obtain ⟨x7, e7, h⟩ := bd h
      refine Ev.iald D_326 (by decide +kernel) (S_aI k_313 e7) ?_
      refine Ev.seg D_326 [(.iconst (-1), 1)] (by decide +kernel) (j := 0) (pc' := 24) (lv' := [(0, .ref 294), (1, .int v1), (2, .int v2), (3, .int v3), (4, .int v4), (5, .int v5)]) (st' := [.int (-1 : Int32), .int x7]) rfl ?_
      refine Ev.icmp D_326 (c := .eq) (off := 13) (by decide +kernel) (t := 37) rfl (fun c8 => ?_) (fun c8 => ?_)
      · have c8 : x7 = (-1 : Int32) := of_decide_eq_true c8
        rw [if_pos c8] at h
        refine Ev.seg D_326 [(.bipush (-6), 2)] (by decide +kernel) (j := 0) (pc' := 39) (lv' := [(0, .ref 294), (1, .int v1), (2, .int v2), (3, .int v3), (4, .int v4), (5, .int v5)]) (st' := [.int (-6 : Int32)]) rfl ?_
        cases h
        obtain rfl : o = _ := ho
        exact Ev.iret D_326 (by decide +kernel)
      · have c8 : ¬ x7 = (-1 : Int32) := of_decide_eq_false c8
        rw [if_neg c8] at h
        refine Ev.seg D_326 [(.aload_n 0, 1)] (by decide +kernel) (j := 0) (pc' := 28) (lv' := [(0, .ref 294), (1, .int v1), (2, .int v2), (3, .int v3), (4, .int v4), (5, .int v5)]) (st' := [.ref 294]) rfl ?_
        refine Ev.getR D_326 (by decide +kernel) F_10_70 T_10_43 (x := 313) (S_oR k_294 (by decide +kernel)) ?_
        refine Ev.seg D_326 [(.iload_n 3, 1)] (by decide +kernel) (j := 0) (pc' := 32) (lv' := [(0, .ref 294), (1, .int v1), (2, .int v2), (3, .int v3), (4, .int v4), (5, .int v5)]) (st' := [.int v3, .ref 313]) rfl ?_
        obtain ⟨x11, e11, h⟩ := bd h
        refine Ev.iald D_326 (by decide +kernel) (S_aI k_313 e11) ?_
        refine Ev.seg D_326 [(.iconst (-1), 1)] (by decide +kernel) (j := 0) (pc' := 34) (lv' := [(0, .ref 294), (1, .int v1), (2, .int v2), (3, .int v3), (4, .int v4), (5, .int v5)]) (st' := [.int (-1 : Int32), .int x11]) rfl ?_
        refine Ev.icmp D_326 (c := .ne) (off := 6) (by decide +kernel) (t := 40) rfl (fun c12 => ?_) (fun c12 => ?_)
        · have c12 : ¬ x11 = (-1 : Int32) := of_decide_eq_true c12
          rw [if_neg c12] at h
          refine Ev.seg D_326 [(.aload_n 0, 1)] (by decide +kernel) (j := 0) (pc' := 41) (lv' := [(0, .ref 294), (1, .int v1), (2, .int v2), (3, .int v3), (4, .int v4), (5, .int v5)]) (st' := [.ref 294]) rfl ?_
          refine Ev.getR D_326 (by decide +kernel) F_10_73 T_10_44 (x := 314) (S_oR k_294 (by decide +kernel)) ?_
          refine Ev.seg D_326 [(.iload_n 1, 1)] (by decide +kernel) (j := 0) (pc' := 45) (lv' := [(0, .ref 294), (1, .int v1), (2, .int v2), (3, .int v3), (4, .int v4), (5, .int v5)]) (st' := [.int v1, .ref 314]) rfl ?_
          obtain ⟨x14, e14, h⟩ := bd h
          refine Ev.iald D_326 (by decide +kernel) (S_aI k_314 e14) ?_
          refine Ev.seg D_326 [(.aload_n 0, 1)] (by decide +kernel) (j := 0) (pc' := 47) (lv' := [(0, .ref 294), (1, .int v1), (2, .int v2), (3, .int v3), (4, .int v4), (5, .int v5)]) (st' := [.ref 294, .int x14]) rfl ?_
          refine Ev.getR D_326 (by decide +kernel) F_10_73 T_10_44 (x := 314) (S_oR k_294 (by decide +kernel)) ?_
          refine Ev.seg D_326 [(.iload_n 3, 1)] (by decide +kernel) (j := 0) (pc' := 51) (lv' := [(0, .ref 294), (1, .int v1), (2, .int v2), (3, .int v3), (4, .int v4), (5, .int v5)]) (st' := [.int v3, .ref 314, .int x14]) rfl ?_
          obtain ⟨x16, e16, h⟩ := bd h
          refine Ev.iald D_326 (by decide +kernel) (S_aI k_314 e16) ?_
          refine Ev.icmp D_326 (c := .eq) (off := 6) (by decide +kernel) (t := 58) rfl (fun c17 => ?_) (fun c17 => ?_)
          · have c17 : x14 = x16 := of_decide_eq_true c17
            rw [if_pos c17] at h
            refine Ev.seg D_326 [(.iload_n 2, 1)] (by decide +kernel) (j := 0) (pc' := 59) (lv' := [(0, .ref 294), (1, .int v1), (2, .int v2), (3, .int v3), (4, .int v4), (5, .int v5)]) (st' := [.int v2]) rfl ?_
            refine Ev.if_ D_326 (c := .lt) (off := 48) (by decide +kernel) (t := 107) rfl (fun c18 => ?_) (fun c18 => ?_)
            · have c18 : v2 < 0 := of_decide_eq_true c18
              rw [if_pos c18] at h
              refine Ev.seg D_326 [(.bipush (-7), 2)] (by decide +kernel) (j := 0) (pc' := 109) (lv' := [(0, .ref 294), (1, .int v1), (2, .int v2), (3, .int v3), (4, .int v4), (5, .int v5)]) (st' := [.int (-7 : Int32)]) rfl ?_
              cases h
              obtain rfl : o = _ := ho
              exact Ev.iret D_326 (by decide +kernel)
            · have c18 : ¬ v2 < 0 := of_decide_eq_false c18
              rw [if_neg c18] at h
              refine Ev.seg D_326 [(.iload 4, 2)] (by decide +kernel) (j := 0) (pc' := 64) (lv' := [(0, .ref 294), (1, .int v1), (2, .int v2), (3, .int v3), (4, .int v4), (5, .int v5)]) (st' := [.int v4]) rfl ?_
              refine Ev.if_ D_326 (c := .lt) (off := 43) (by decide +kernel) (t := 107) rfl (fun c20 => ?_) (fun c20 => ?_)
              · have c20 : v4 < 0 := of_decide_eq_true c20
                rw [if_pos c20] at h
                refine Ev.seg D_326 [(.bipush (-7), 2)] (by decide +kernel) (j := 0) (pc' := 109) (lv' := [(0, .ref 294), (1, .int v1), (2, .int v2), (3, .int v3), (4, .int v4), (5, .int v5)]) (st' := [.int (-7 : Int32)]) rfl ?_
                cases h
                obtain rfl : o = _ := ho
                exact Ev.iret D_326 (by decide +kernel)
              · have c20 : ¬ v4 < 0 := of_decide_eq_false c20
                rw [if_neg c20] at h
                refine Ev.seg D_326 [(.iload 5, 2)] (by decide +kernel) (j := 0) (pc' := 69) (lv' := [(0, .ref 294), (1, .int v1), (2, .int v2), (3, .int v3), (4, .int v4), (5, .int v5)]) (st' := [.int v5]) rfl ?_
                refine Ev.if_ D_326 (c := .lt) (off := 38) (by decide +kernel) (t := 107) rfl (fun c22 => ?_) (fun c22 => ?_)
                · have c22 : v5 < 0 := of_decide_eq_true c22
                  rw [if_pos c22] at h
                  refine Ev.seg D_326 [(.bipush (-7), 2)] (by decide +kernel) (j := 0) (pc' := 109) (lv' := [(0, .ref 294), (1, .int v1), (2, .int v2), (3, .int v3), (4, .int v4), (5, .int v5)]) (st' := [.int (-7 : Int32)]) rfl ?_
                  cases h
                  obtain rfl : o = _ := ho
                  exact Ev.iret D_326 (by decide +kernel)
                · have c22 : ¬ v5 < 0 := of_decide_eq_false c22
                  rw [if_neg c22] at h
                  refine Ev.seg D_326 [(.iload_n 2, 1), (.i2l, 1), (.iload 5, 2), (.i2l, 1), (.ladd, 1), (.aload_n 0, 1)] (by decide +kernel) (j := 0) (pc' := 79) (lv' := [(0, .ref 294), (1, .int v1), (2, .int v2), (3, .int v3), (4, .int v4), (5, .int v5)]) (st' := [.ref 294, .long (v2.toInt64 + v5.toInt64)]) rfl ?_
                  refine Ev.getR D_326 (by decide +kernel) F_10_70 T_10_43 (x := 313) (S_oR k_294 (by decide +kernel)) ?_
                  refine Ev.seg D_326 [(.iload_n 1, 1)] (by decide +kernel) (j := 0) (pc' := 83) (lv' := [(0, .ref 294), (1, .int v1), (2, .int v2), (3, .int v3), (4, .int v4), (5, .int v5)]) (st' := [.int v1, .ref 313, .long (v2.toInt64 + v5.toInt64)]) rfl ?_
                  obtain ⟨x25, e25, h⟩ := bd h
                  refine Ev.iald D_326 (by decide +kernel) (S_aI k_313 e25) ?_
                  refine Ev.seg D_326 [(.i2l, 1), (.lcmp, 1)] (by decide +kernel) (j := 0) (pc' := 86) (lv' := [(0, .ref 294), (1, .int v1), (2, .int v2), (3, .int v3), (4, .int v4), (5, .int v5)]) (st' := [.int (lg_cmp (v2.toInt64 + v5.toInt64) x25.toInt64)]) rfl ?_
                  refine Ev.if_ D_326 (c := .gt) (off := 21) (by decide +kernel) (t := 107) rfl (fun c26 => ?_) (fun c26 => ?_)
                  · have c26 : 0 < (lg_cmp (v2.toInt64 + v5.toInt64) x25.toInt64) := of_decide_eq_true c26
                    rw [if_pos c26] at h
                    refine Ev.seg D_326 [(.bipush (-7), 2)] (by decide +kernel) (j := 0) (pc' := 109) (lv' := [(0, .ref 294), (1, .int v1), (2, .int v2), (3, .int v3), (4, .int v4), (5, .int v5)]) (st' := [.int (-7 : Int32)]) rfl ?_
                    cases h
                    obtain rfl : o = _ := ho
                    exact Ev.iret D_326 (by decide +kernel)
                  · have c26 : ¬ 0 < (lg_cmp (v2.toInt64 + v5.toInt64) x25.toInt64) := of_decide_eq_false c26
                    rw [if_neg c26] at h
                    refine Ev.seg D_326 [(.iload 4, 2), (.i2l, 1), (.iload 5, 2), (.i2l, 1), (.ladd, 1), (.aload_n 0, 1)] (by decide +kernel) (j := 0) (pc' := 97) (lv' := [(0, .ref 294), (1, .int v1), (2, .int v2), (3, .int v3), (4, .int v4), (5, .int v5)]) (st' := [.ref 294, .long (v4.toInt64 + v5.toInt64)]) rfl ?_
                    refine Ev.getR D_326 (by decide +kernel) F_10_70 T_10_43 (x := 313) (S_oR k_294 (by decide +kernel)) ?_
                    refine Ev.seg D_326 [(.iload_n 3, 1)] (by decide +kernel) (j := 0) (pc' := 101) (lv' := [(0, .ref 294), (1, .int v1), (2, .int v2), (3, .int v3), (4, .int v4), (5, .int v5)]) (st' := [.int v3, .ref 313, .long (v4.toInt64 + v5.toInt64)]) rfl ?_
                    obtain ⟨x29, e29, h⟩ := bd h
                    refine Ev.iald D_326 (by decide +kernel) (S_aI k_313 e29) ?_
                    refine Ev.seg D_326 [(.i2l, 1), (.lcmp, 1)] (by decide +kernel) (j := 0) (pc' := 104) (lv' := [(0, .ref 294), (1, .int v1), (2, .int v2), (3, .int v3), (4, .int v4), (5, .int v5)]) (st' := [.int (lg_cmp (v4.toInt64 + v5.toInt64) x29.toInt64)]) rfl ?_
                    refine Ev.if_ D_326 (c := .le) (off := 6) (by decide +kernel) (t := 110) rfl (fun c30 => ?_) (fun c30 => ?_)
                    · have c30 : (lg_cmp (v4.toInt64 + v5.toInt64) x29.toInt64) ≤ 0 := of_decide_eq_true c30
                      rw [if_pos c30] at h
                      refine Ev.seg D_326 [(.iconst 0, 1), (.istore 6, 2)] (by decide +kernel) (j := 0) (pc' := 113) (lv' := [(6, .int (0 : Int32)), (0, .ref 294), (1, .int v1), (2, .int v2), (3, .int v3), (4, .int v4), (5, .int v5)]) (st' := []) rfl ?_
                      obtain ⟨x31, w31, h⟩ := bd h
                      have j31 : Ev (d + 1) 326 147 [(0, .ref 294), (3, .int v3), (4, .int v4), (5, .int v5)] [] (uS L x31) o := by
                        clear w31
                        refine Ev.seg D_326 [(.iconst 0, 1), (.istore 6, 2)] (by decide +kernel) (j := 0) (pc' := 150) (lv' := [(6, .int (0 : Int32)), (0, .ref 294), (3, .int v3), (4, .int v4), (5, .int v5)]) (st' := []) rfl ?_
                        obtain ⟨x32, w32, h⟩ := bd h
                        have j32 : Ev (d + 1) 326 185 [] [] (uS L x32) o := by
                          clear w32
                          refine Ev.seg D_326 [(.iconst 0, 1)] (by decide +kernel) (j := 0) (pc' := 186) (lv' := []) (st' := [.int (0 : Int32)]) rfl ?_
                          cases h
                          obtain rfl : o = _ := ho
                          exact Ev.iret D_326 (by decide +kernel)
                        exact Ev.sub (lv' := [(0, .ref 294), (3, .int v3), (4, .int v4), (5, .int v5), (6, .int (0 : Int32))]) (subL_cons rfl (subL_cons rfl (subL_cons rfl (subL_cons rfl (subL_cons rfl subL_nil))))) (gM_paste_h150_w hd   _ _ _ w32 _ j32)
                      exact Ev.sub (lv' := [(0, .ref 294), (1, .int v1), (2, .int v2), (3, .int v3), (4, .int v4), (5, .int v5), (6, .int (0 : Int32))]) (subL_cons rfl (subL_cons rfl (subL_cons rfl (subL_cons rfl (subL_cons rfl (subL_cons rfl (subL_cons rfl subL_nil))))))) (gM_paste_h113_w hd   _ _ _ w31 _ j31)
                    · have c30 : ¬ (lg_cmp (v4.toInt64 + v5.toInt64) x29.toInt64) ≤ 0 := of_decide_eq_false c30
                      rw [if_neg c30] at h
                      refine Ev.seg D_326 [(.bipush (-7), 2)] (by decide +kernel) (j := 0) (pc' := 109) (lv' := [(0, .ref 294), (1, .int v1), (2, .int v2), (3, .int v3), (4, .int v4), (5, .int v5)]) (st' := [.int (-7 : Int32)]) rfl ?_
                      cases h
                      obtain rfl : o = _ := ho
                      exact Ev.iret D_326 (by decide +kernel)
          · have c17 : ¬ x14 = x16 := of_decide_eq_false c17
            rw [if_neg c17] at h
            refine Ev.seg D_326 [(.bipush (-8), 2)] (by decide +kernel) (j := 0) (pc' := 57) (lv' := [(0, .ref 294), (1, .int v1), (2, .int v2), (3, .int v3), (4, .int v4), (5, .int v5)]) (st' := [.int (-8 : Int32)]) rfl ?_
            cases h
            obtain rfl : o = _ := ho
            exact Ev.iret D_326 (by decide +kernel)
        · have c12 : x11 = (-1 : Int32) := Decidable.of_not_not (of_decide_eq_false c12)
          rw [if_pos c12] at h
          refine Ev.seg D_326 [(.bipush (-6), 2)] (by decide +kernel) (j := 0) (pc' := 39) (lv' := [(0, .ref 294), (1, .int v1), (2, .int v2), (3, .int v3), (4, .int v4), (5, .int v5)]) (st' := [.int (-6 : Int32)]) rfl ?_
          cases h
          obtain rfl : o = _ := ho
          exact Ev.iret D_326 (by decide +kernel)
    · have c5 : p4 = 0 := Decidable.of_not_not (of_decide_eq_false c5)
      rw [if_pos c5] at h
      refine Ev.seg D_326 [(.bipush (-2), 2)] (by decide +kernel) (j := 0) (pc' := 16) (lv' := [(0, .ref 294), (1, .int v1), (2, .int v2), (3, .int v3), (4, .int v4), (5, .int v5)]) (st' := [.int (-2 : Int32)]) rfl ?_
      cases h
      obtain rfl : o = _ := ho
      exact Ev.iret D_326 (by decide +kernel)
