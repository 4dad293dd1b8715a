/-! The program's methods as functions of ints and longs, each with its certificate (wip/whole/gen_emit.py writes this) -/
/- PennantLawnModel show: 208 -/
def gM_show (v1 : Int32) (v2 : Int32) (s : mT) : Option (Int32) :=
  (rdI (s.1 295) 79 (6 : Int32)).bind fun x2 =>
  (gM_in v1.toInt64 (0 : Int64) ((x2 - (1 : Int32)).toInt64) s).bind fun p3 =>
  (
    if p3 = 0 then
      some ((-2 : Int32))
    else
      (gM_in v2.toInt64 (0 : Int64) (1 : Int64) s).bind fun p5 =>
      if p5 = 0 then
        some ((-2 : Int32))
      else
        (rdI (s.1 295) 79 (((39 : Int32) + ((2 : Int32) * v1)) + v2)).bind fun x8 =>
        some (x8) : Option (Int32)).bind fun x4 =>
  some (x4)
set_option maxRecDepth 8000 in
theorem gM_show_ok {L d : Nat} (hd : 2 ≤ d) {v1 : Int32} {v2 : Int32} {s : mT} {p : Int32} (h : gM_show v1 v2 s = some p) : Ev d 208 0 [(0, .ref 294), (1, .int v1), (2, .int v2)] [] (uS L s) (some (.int p), uS L s) := by
  obtain ⟨d, rfl⟩ : ∃ e, d = e + 1 := ⟨d - 1, by omega⟩
  obtain ⟨o, ho⟩ : ∃ o : Option Value × mS, o = (some (.int p), uS L s) := ⟨_, rfl⟩
  rw [← ho]
  unfold gM_show at h
  refine Ev.seg D_208 [(.iload_n 1, 1), (.i2l, 1), (.lconst 0, 1), (.aload_n 0, 1)] (by decide +kernel) (j := 0) (pc' := 4) (lv' := [(0, .ref 294), (1, .int v1), (2, .int v2)]) (st' := [.ref 294, .long (0 : Int64), .long v1.toInt64]) rfl ?_
  refine Ev.getR D_208 (by decide +kernel) F_10_9 T_10_1 (x := 295) (S_oR k_294 (by decide +kernel)) ?_
  refine Ev.seg D_208 [(.bipush 6, 2)] (by decide +kernel) (j := 0) (pc' := 9) (lv' := [(0, .ref 294), (1, .int v1), (2, .int v2)]) (st' := [.int (6 : Int32), .ref 295, .long (0 : Int64), .long v1.toInt64]) rfl ?_
  obtain ⟨x2, e2, h⟩ := bd h
  refine Ev.iald D_208 (by decide +kernel) (S_aI k_295 e2) ?_
  refine Ev.seg D_208 [(.iconst 1, 1), (.isub, 1), (.i2l, 1)] (by decide +kernel) (j := 0) (pc' := 13) (lv' := [(0, .ref 294), (1, .int v1), (2, .int v2)]) (st' := [.long ((x2 - (1 : Int32)).toInt64), .long (0 : Int64), .long v1.toInt64]) rfl ?_
  obtain ⟨p3, e3, h⟩ := bd h
  refine Ev.calls D_208 E_184 (by decide +kernel) C_10_88 [.long v1.toInt64, .long (0 : Int64), .long ((x2 - (1 : Int32)).toInt64)] (r := []) rfl rfl (Nat.le_of_ble_eq_true rfl) (Nat.le_of_ble_eq_true rfl) (gM_in_ok (by omega)  e3) ?_
  obtain ⟨x4, g4, h⟩ := bd h
  have j4 : Ev (d + 1) 208 47 [] [.int x4] (uS L s) o := by
    clear g4
    cases h
    obtain rfl : o = _ := ho
    exact Ev.iret D_208 (by decide +kernel)
  clear h
  refine Ev.if_ D_208 (c := .eq) (off := 29) (by decide +kernel) (t := 45) rfl (fun c4 => ?_) (fun c4 => ?_)
  · have c4 : p3 = 0 := of_decide_eq_true c4
    rw [if_pos c4] at g4
    refine Ev.seg D_208 [(.bipush (-2), 2)] (by decide +kernel) (j := 0) (pc' := 47) (lv' := [(0, .ref 294), (1, .int v1), (2, .int v2)]) (st' := [.int (-2 : Int32)]) rfl ?_
    cases g4
    exact Ev.sub2 j4 subL_nil
  · have c4 : ¬ p3 = 0 := of_decide_eq_false c4
    rw [if_neg c4] at g4
    refine Ev.seg D_208 [(.iload_n 2, 1), (.i2l, 1), (.lconst 0, 1), (.lconst 1, 1)] (by decide +kernel) (j := 0) (pc' := 23) (lv' := [(0, .ref 294), (1, .int v1), (2, .int v2)]) (st' := [.long (1 : Int64), .long (0 : Int64), .long v2.toInt64]) rfl ?_
    obtain ⟨p5, e5, g4⟩ := bd g4
    refine Ev.calls D_208 E_184 (by decide +kernel) C_10_88 [.long v2.toInt64, .long (0 : Int64), .long (1 : Int64)] (r := []) rfl rfl (Nat.le_of_ble_eq_true rfl) (Nat.le_of_ble_eq_true rfl) (gM_in_ok (by omega)  e5) ?_
    refine Ev.if_ D_208 (c := .eq) (off := 19) (by decide +kernel) (t := 45) rfl (fun c6 => ?_) (fun c6 => ?_)
    · have c6 : p5 = 0 := of_decide_eq_true c6
      rw [if_pos c6] at g4
      refine Ev.seg D_208 [(.bipush (-2), 2)] (by decide +kernel) (j := 0) (pc' := 47) (lv' := [(0, .ref 294), (1, .int v1), (2, .int v2)]) (st' := [.int (-2 : Int32)]) rfl ?_
      cases g4
      exact Ev.sub2 j4 subL_nil
    · have c6 : ¬ p5 = 0 := of_decide_eq_false c6
      rw [if_neg c6] at g4
      refine Ev.seg D_208 [(.aload_n 0, 1)] (by decide +kernel) (j := 0) (pc' := 30) (lv' := [(0, .ref 294), (1, .int v1), (2, .int v2)]) (st' := [.ref 294]) rfl ?_
      refine Ev.getR D_208 (by decide +kernel) F_10_9 T_10_1 (x := 295) (S_oR k_294 (by decide +kernel)) ?_
      refine Ev.seg D_208 [(.bipush 39, 2), (.iconst 2, 1), (.iload_n 1, 1), (.imul, 1), (.iadd, 1), (.iload_n 2, 1), (.iadd, 1)] (by decide +kernel) (j := 0) (pc' := 41) (lv' := [(0, .ref 294), (1, .int v1), (2, .int v2)]) (st' := [.int (((39 : Int32) + ((2 : Int32) * v1)) + v2), .ref 295]) rfl ?_
      obtain ⟨x8, e8, g4⟩ := bd g4
      refine Ev.iald D_208 (by decide +kernel) (S_aI k_295 e8) ?_
      refine Ev.seg D_208 [(.goto 5, 3)] (by decide +kernel) (j := 0) (pc' := 47) (lv' := [(0, .ref 294), (1, .int v1), (2, .int v2)]) (st' := [.int x8]) rfl ?_
      cases g4
      exact Ev.sub2 j4 subL_nil
/- PennantLawnModel layShows: 213 -/
def gM_layShows_h2 (v1 : Int32) (q : Int32 × mT) : Option ((Int32 × mT) ⊕ (mT)) :=
  if (20 : Int32) < q.1 then
    some (.inr q.2)
  else
    (wrI q.2 304 21 q.1 (0 : Int32)).bind fun s3 =>
    some (.inl (q.1 + (1 : Int32), s3))
set_option maxRecDepth 8000 in
theorem gM_layShows_h2_ok {L d : Nat} (hd : 1 ≤ d + 1) {v1 : Int32} : ∀ (q : Int32 × mT) (x : (Int32 × mT) ⊕ (mT)), gM_layShows_h2 v1 q = some x → ∀ o, sK (fun q => Ev (d + 1) 213 2 [(0, .ref 294), (1, .int v1), (2, .int q.1)] [] (uS L q.2) o) (fun r => Ev (d + 1) 213 21 [(0, .ref 294), (1, .int v1)] [] (uS L r) o) x → Ev (d + 1) 213 2 [(0, .ref 294), (1, .int v1), (2, .int q.1)] [] (uS L q.2) o := by
  intro q x h o ho
  unfold gM_layShows_h2 at h
  refine Ev.seg D_213 [(.iload_n 2, 1), (.bipush 20, 2)] (by decide +kernel) (j := 0) (pc' := 5) (lv' := [(0, .ref 294), (1, .int v1), (2, .int q.1)]) (st' := [.int (20 : Int32), .int q.1]) rfl ?_
  refine Ev.icmp D_213 (c := .gt) (off := 16) (by decide +kernel) (t := 21) rfl (fun c1 => ?_) (fun c1 => ?_)
  · have c1 : (20 : Int32) < q.1 := of_decide_eq_true c1
    rw [if_pos c1] at h
    cases h
    exact Ev.sub (lv' := [(0, .ref 294), (1, .int v1)]) (subL_cons rfl (subL_cons rfl subL_nil)) ho
  · have c1 : ¬ (20 : Int32) < q.1 := of_decide_eq_false c1
    rw [if_neg c1] at h
    refine Ev.seg D_213 [(.aload_n 0, 1)] (by decide +kernel) (j := 0) (pc' := 9) (lv' := [(0, .ref 294), (1, .int v1), (2, .int q.1)]) (st' := [.ref 294]) rfl ?_
    refine Ev.getR D_213 (by decide +kernel) F_10_43 T_10_18 (x := 304) (S_oR k_294 (by decide +kernel)) ?_
    refine Ev.seg D_213 [(.iload_n 2, 1), (.iconst 0, 1)] (by decide +kernel) (j := 0) (pc' := 14) (lv' := [(0, .ref 294), (1, .int v1), (2, .int q.1)]) (st' := [.int (0 : Int32), .int q.1, .ref 304]) rfl ?_
    obtain ⟨s3, e3, h⟩ := bd h
    refine Ev.iast D_213 (by decide +kernel) (S_sI k_304 e3) ?_
    refine Ev.seg D_213 [(.iinc 2 1, 3), (.goto (-16), 3)] (by decide +kernel) (j := 0) (pc' := 2) (lv' := [(2, .int (q.1 + (1 : Int32))), (0, .ref 294), (1, .int v1)]) (st' := []) rfl ?_
    cases h
    exact Ev.sub (lv' := [(0, .ref 294), (1, .int v1), (2, .int (q.1 + (1 : Int32)))]) (subL_cons rfl (subL_cons rfl (subL_cons rfl subL_nil))) ho
theorem gM_layShows_h2_w {L d : Nat} (hd : 1 ≤ d + 1) {v1 : Int32} : ∀ (n : Nat) (q : Int32 × mT) (r : mT), wh n (gM_layShows_h2 v1) q = some r → ∀ o, (fun r => Ev (d + 1) 213 21 [(0, .ref 294), (1, .int v1)] [] (uS L r) o) r → Ev (d + 1) 213 2 [(0, .ref 294), (1, .int v1), (2, .int q.1)] [] (uS L q.2) o :=
  fun n q r h o hc => wh_ev (E := fun (q : Int32 × mT) o => Ev (d + 1) 213 2 [(0, .ref 294), (1, .int v1), (2, .int q.1)] [] (uS L q.2) o) (C := fun (r : mT) o => (fun r => Ev (d + 1) 213 21 [(0, .ref 294), (1, .int v1)] [] (uS L r) o) r) (gM_layShows_h2_ok hd  ) n q r h o hc
def gM_layShows_h23 (v1 : Int32) (q : Int32 × mT) : Option ((Int32 × mT) ⊕ (mT)) :=
  (rdI (q.2.1 295) 79 (6 : Int32)).bind fun x2 =>
  if x2 ≤ q.1 then
    some (.inr q.2)
  else
    (
      if q.1 = v1 then
        some (q.2)
      else
        (rdI (q.2.1 295) 79 (((39 : Int32) + ((2 : Int32) * q.1)) + (1 : Int32))).bind fun x7 =>
        (rdI (q.2.1 295) 79 (((39 : Int32) + ((2 : Int32) * q.1)) + (1 : Int32))).bind fun x10 =>
        (rdI (q.2.1 304) 21 x10).bind fun x11 =>
        (rdI (q.2.1 295) 79 ((39 : Int32) + ((2 : Int32) * q.1))).bind fun x13 =>
        (wrI q.2 304 21 x7 (imax x11 x13)).bind fun s15 =>
        some (s15) : Option (mT)).bind fun x4 =>
    some (.inl (q.1 + (1 : Int32), x4))
set_option maxRecDepth 8000 in
theorem gM_layShows_h23_ok {L d : Nat} (hd : 1 ≤ d + 1) {v1 : Int32} : ∀ (q : Int32 × mT) (x : (Int32 × mT) ⊕ (mT)), gM_layShows_h23 v1 q = some x → ∀ o, sK (fun q => Ev (d + 1) 213 23 [(0, .ref 294), (1, .int v1), (2, .int q.1)] [] (uS L q.2) o) (fun r => Ev (d + 1) 213 95 [] [] (uS L r) o) x → Ev (d + 1) 213 23 [(0, .ref 294), (1, .int v1), (2, .int q.1)] [] (uS L q.2) o := by
  intro q x h o ho
  unfold gM_layShows_h23 at h
  refine Ev.seg D_213 [(.iload_n 2, 1), (.aload_n 0, 1)] (by decide +kernel) (j := 0) (pc' := 25) (lv' := [(0, .ref 294), (1, .int v1), (2, .int q.1)]) (st' := [.ref 294, .int q.1]) rfl ?_
  refine Ev.getR D_213 (by decide +kernel) F_10_9 T_10_1 (x := 295) (S_oR k_294 (by decide +kernel)) ?_
  refine Ev.seg D_213 [(.bipush 6, 2)] (by decide +kernel) (j := 0) (pc' := 30) (lv' := [(0, .ref 294), (1, .int v1), (2, .int q.1)]) (st' := [.int (6 : Int32), .ref 295, .int q.1]) rfl ?_
  obtain ⟨x2, e2, h⟩ := bd h
  refine Ev.iald D_213 (by decide +kernel) (S_aI k_295 e2) ?_
  refine Ev.icmp D_213 (c := .ge) (off := 64) (by decide +kernel) (t := 95) rfl (fun c3 => ?_) (fun c3 => ?_)
  · have c3 : x2 ≤ q.1 := of_decide_eq_true c3
    rw [if_pos c3] at h
    cases h
    exact Ev.sub (lv' := []) subL_nil ho
  · have c3 : ¬ x2 ≤ q.1 := of_decide_eq_false c3
    rw [if_neg c3] at h
    refine Ev.seg D_213 [(.iload_n 2, 1), (.iload_n 1, 1)] (by decide +kernel) (j := 0) (pc' := 36) (lv' := [(0, .ref 294), (1, .int v1), (2, .int q.1)]) (st' := [.int v1, .int q.1]) rfl ?_
    obtain ⟨x4, g4, h⟩ := bd h
    have j4 : Ev (d + 1) 213 89 [(0, .ref 294), (1, .int v1), (2, .int q.1)] [] (uS L x4) o := by
      clear g4
      refine Ev.seg D_213 [(.iinc 2 1, 3), (.goto (-69), 3)] (by decide +kernel) (j := 0) (pc' := 23) (lv' := [(2, .int (q.1 + (1 : Int32))), (0, .ref 294), (1, .int v1)]) (st' := []) rfl ?_
      cases h
      exact Ev.sub (lv' := [(0, .ref 294), (1, .int v1), (2, .int (q.1 + (1 : Int32)))]) (subL_cons rfl (subL_cons rfl (subL_cons rfl subL_nil))) ho
    clear h
    refine Ev.icmp D_213 (c := .eq) (off := 53) (by decide +kernel) (t := 89) rfl (fun c4 => ?_) (fun c4 => ?_)
    · have c4 : q.1 = v1 := of_decide_eq_true c4
      rw [if_pos c4] at g4
      cases g4
      exact Ev.sub2 j4 (subL_cons rfl (subL_cons rfl (subL_cons rfl subL_nil)))
    · have c4 : ¬ q.1 = v1 := of_decide_eq_false c4
      rw [if_neg c4] at g4
      refine Ev.seg D_213 [(.aload_n 0, 1)] (by decide +kernel) (j := 0) (pc' := 40) (lv' := [(0, .ref 294), (1, .int v1), (2, .int q.1)]) (st' := [.ref 294]) rfl ?_
      refine Ev.getR D_213 (by decide +kernel) F_10_43 T_10_18 (x := 304) (S_oR k_294 (by decide +kernel)) ?_
      refine Ev.seg D_213 [(.aload_n 0, 1)] (by decide +kernel) (j := 0) (pc' := 44) (lv' := [(0, .ref 294), (1, .int v1), (2, .int q.1)]) (st' := [.ref 294, .ref 304]) rfl ?_
      refine Ev.getR D_213 (by decide +kernel) F_10_9 T_10_1 (x := 295) (S_oR k_294 (by decide +kernel)) ?_
      refine Ev.seg D_213 [(.bipush 39, 2), (.iconst 2, 1), (.iload_n 2, 1), (.imul, 1), (.iadd, 1), (.iconst 1, 1), (.iadd, 1)] (by decide +kernel) (j := 0) (pc' := 55) (lv' := [(0, .ref 294), (1, .int v1), (2, .int q.1)]) (st' := [.int (((39 : Int32) + ((2 : Int32) * q.1)) + (1 : Int32)), .ref 295, .ref 304]) rfl ?_
      obtain ⟨x7, e7, g4⟩ := bd g4
      refine Ev.iald D_213 (by decide +kernel) (S_aI k_295 e7) ?_
      refine Ev.seg D_213 [(.aload_n 0, 1)] (by decide +kernel) (j := 0) (pc' := 57) (lv' := [(0, .ref 294), (1, .int v1), (2, .int q.1)]) (st' := [.ref 294, .int x7, .ref 304]) rfl ?_
      refine Ev.getR D_213 (by decide +kernel) F_10_43 T_10_18 (x := 304) (S_oR k_294 (by decide +kernel)) ?_
      refine Ev.seg D_213 [(.aload_n 0, 1)] (by decide +kernel) (j := 0) (pc' := 61) (lv' := [(0, .ref 294), (1, .int v1), (2, .int q.1)]) (st' := [.ref 294, .ref 304, .int x7, .ref 304]) rfl ?_
      refine Ev.getR D_213 (by decide +kernel) F_10_9 T_10_1 (x := 295) (S_oR k_294 (by decide +kernel)) ?_
      refine Ev.seg D_213 [(.bipush 39, 2), (.iconst 2, 1), (.iload_n 2, 1), (.imul, 1), (.iadd, 1), (.iconst 1, 1), (.iadd, 1)] (by decide +kernel) (j := 0) (pc' := 72) (lv' := [(0, .ref 294), (1, .int v1), (2, .int q.1)]) (st' := [.int (((39 : Int32) + ((2 : Int32) * q.1)) + (1 : Int32)), .ref 295, .ref 304, .int x7, .ref 304]) rfl ?_
      obtain ⟨x10, e10, g4⟩ := bd g4
      refine Ev.iald D_213 (by decide +kernel) (S_aI k_295 e10) ?_
      obtain ⟨x11, e11, g4⟩ := bd g4
      refine Ev.iald D_213 (by decide +kernel) (S_aI k_304 e11) ?_
      refine Ev.seg D_213 [(.aload_n 0, 1)] (by decide +kernel) (j := 0) (pc' := 75) (lv' := [(0, .ref 294), (1, .int v1), (2, .int q.1)]) (st' := [.ref 294, .int x11, .int x7, .ref 304]) rfl ?_
      refine Ev.getR D_213 (by decide +kernel) F_10_9 T_10_1 (x := 295) (S_oR k_294 (by decide +kernel)) ?_
      refine Ev.seg D_213 [(.bipush 39, 2), (.iconst 2, 1), (.iload_n 2, 1), (.imul, 1), (.iadd, 1)] (by decide +kernel) (j := 0) (pc' := 84) (lv' := [(0, .ref 294), (1, .int v1), (2, .int q.1)]) (st' := [.int ((39 : Int32) + ((2 : Int32) * q.1)), .ref 295, .int x11, .int x7, .ref 304]) rfl ?_
      obtain ⟨x13, e13, g4⟩ := bd g4
      refine Ev.iald D_213 (by decide +kernel) (S_aI k_295 e13) ?_
      refine Ev.max D_213 (by decide +kernel) (Nat.succ_pos _) C_10_237 (Nat.le_of_ble_eq_true rfl) ?_
      obtain ⟨s15, e15, g4⟩ := bd g4
      refine Ev.iast D_213 (by decide +kernel) (S_sI k_304 e15) ?_
      cases g4
      exact Ev.sub2 j4 (subL_cons rfl (subL_cons rfl (subL_cons rfl subL_nil)))
theorem gM_layShows_h23_w {L d : Nat} (hd : 1 ≤ d + 1) {v1 : Int32} : ∀ (n : Nat) (q : Int32 × mT) (r : mT), wh n (gM_layShows_h23 v1) q = some r → ∀ o, (fun r => Ev (d + 1) 213 95 [] [] (uS L r) o) r → Ev (d + 1) 213 23 [(0, .ref 294), (1, .int v1), (2, .int q.1)] [] (uS L q.2) o :=
  fun n q r h o hc => wh_ev (E := fun (q : Int32 × mT) o => Ev (d + 1) 213 23 [(0, .ref 294), (1, .int v1), (2, .int q.1)] [] (uS L q.2) o) (C := fun (r : mT) o => (fun r => Ev (d + 1) 213 95 [] [] (uS L r) o) r) (gM_layShows_h23_ok hd  ) n q r h o hc
def gM_layShows (v1 : Int32) (s : mT) : Option (mT) :=
  (wh FU (gM_layShows_h2 v1) ((0 : Int32), s)).bind fun x4 =>
  (wh FU (gM_layShows_h23 v1) ((0 : Int32), x4)).bind fun x16 =>
  some (x16)
set_option maxRecDepth 8000 in
theorem gM_layShows_ok {L d : Nat} (hd : 1 ≤ d) {v1 : Int32} {s : mT} {p : mT} (h : gM_layShows v1 s = some p) : Ev d 213 0 [(0, .ref 294), (1, .int v1)] [] (uS L s) (none, uS L p) := by
  obtain ⟨d, rfl⟩ : ∃ e, d = e + 1 := ⟨d - 1, by omega⟩
  obtain ⟨o, ho⟩ : ∃ o : Option Value × mS, o = (none, uS L p) := ⟨_, rfl⟩
  rw [← ho]
  unfold gM_layShows at h
  refine Ev.seg D_213 [(.iconst 0, 1), (.istore_n 2, 1)] (by decide +kernel) (j := 0) (pc' := 2) (lv' := [(2, .int (0 : Int32)), (0, .ref 294), (1, .int v1)]) (st' := []) rfl ?_
  obtain ⟨x4, w4, h⟩ := bd h
  have j4 : Ev (d + 1) 213 21 [(0, .ref 294), (1, .int v1)] [] (uS L x4) o := by
    clear w4
    refine Ev.seg D_213 [(.iconst 0, 1), (.istore_n 2, 1)] (by decide +kernel) (j := 0) (pc' := 23) (lv' := [(2, .int (0 : Int32)), (0, .ref 294), (1, .int v1)]) (st' := []) rfl ?_
    obtain ⟨x16, w16, h⟩ := bd h
    have j16 : Ev (d + 1) 213 95 [] [] (uS L x16) o := by
      clear w16
      cases h
      obtain rfl : o = _ := ho
      exact Ev.vret D_213 (by decide +kernel)
    exact Ev.sub (lv' := [(0, .ref 294), (1, .int v1), (2, .int (0 : Int32))]) (subL_cons rfl (subL_cons rfl (subL_cons rfl subL_nil))) (gM_layShows_h23_w hd   _ _ _ w16 _ j16)
  exact Ev.sub (lv' := [(0, .ref 294), (1, .int v1), (2, .int (0 : Int32))]) (subL_cons rfl (subL_cons rfl (subL_cons rfl subL_nil))) (gM_layShows_h2_w hd   _ _ _ w4 _ j4)
/- PennantLawnModel asItIs: 212 -/
def gM_asItIs_h17  (q : Int32 × mT) : Option ((Int32 × mT) ⊕ (mT)) :=
  if (5 : Int32) ≤ q.1 then
    some (.inr q.2)
  else
    (rdI (q.2.1 295) 79 ((9 : Int32) + ((2 : Int32) * q.1))).bind fun x4 =>
    (wrI q.2 301 5 q.1 x4).bind fun s5 =>
    (rdI (s5.1 295) 79 (((9 : Int32) + ((2 : Int32) * q.1)) + (1 : Int32))).bind fun x8 =>
    (wrI s5 302 5 q.1 x8).bind fun s9 =>
    some (.inl (q.1 + (1 : Int32), s9))
set_option maxRecDepth 8000 in
theorem gM_asItIs_h17_ok {L d : Nat} (hd : 2 ≤ d + 1)  : ∀ (q : Int32 × mT) (x : (Int32 × mT) ⊕ (mT)), gM_asItIs_h17 q = some x → ∀ o, sK (fun q => Ev (d + 1) 212 17 [(0, .ref 294), (1, .int q.1)] [] (uS L q.2) o) (fun r => Ev (d + 1) 212 64 [(0, .ref 294)] [] (uS L r) o) x → Ev (d + 1) 212 17 [(0, .ref 294), (1, .int q.1)] [] (uS L q.2) o := by
  intro q x h o ho
  unfold gM_asItIs_h17 at h
  refine Ev.seg D_212 [(.iload_n 1, 1), (.iconst 5, 1)] (by decide +kernel) (j := 0) (pc' := 19) (lv' := [(0, .ref 294), (1, .int q.1)]) (st' := [.int (5 : Int32), .int q.1]) rfl ?_
  refine Ev.icmp D_212 (c := .ge) (off := 45) (by decide +kernel) (t := 64) rfl (fun c1 => ?_) (fun c1 => ?_)
  · have c1 : (5 : Int32) ≤ q.1 := of_decide_eq_true c1
    rw [if_pos c1] at h
    cases h
    exact Ev.sub (lv' := [(0, .ref 294)]) (subL_cons rfl subL_nil) ho
  · have c1 : ¬ (5 : Int32) ≤ q.1 := of_decide_eq_false c1
    rw [if_neg c1] at h
    refine Ev.seg D_212 [(.aload_n 0, 1)] (by decide +kernel) (j := 0) (pc' := 23) (lv' := [(0, .ref 294), (1, .int q.1)]) (st' := [.ref 294]) rfl ?_
    refine Ev.getR D_212 (by decide +kernel) F_10_34 T_10_15 (x := 301) (S_oR k_294 (by decide +kernel)) ?_
    refine Ev.seg D_212 [(.iload_n 1, 1), (.aload_n 0, 1)] (by decide +kernel) (j := 0) (pc' := 28) (lv' := [(0, .ref 294), (1, .int q.1)]) (st' := [.ref 294, .int q.1, .ref 301]) rfl ?_
    refine Ev.getR D_212 (by decide +kernel) F_10_9 T_10_1 (x := 295) (S_oR k_294 (by decide +kernel)) ?_
    refine Ev.seg D_212 [(.bipush 9, 2), (.iconst 2, 1), (.iload_n 1, 1), (.imul, 1), (.iadd, 1)] (by decide +kernel) (j := 0) (pc' := 37) (lv' := [(0, .ref 294), (1, .int q.1)]) (st' := [.int ((9 : Int32) + ((2 : Int32) * q.1)), .ref 295, .int q.1, .ref 301]) rfl ?_
    obtain ⟨x4, e4, h⟩ := bd h
    refine Ev.iald D_212 (by decide +kernel) (S_aI k_295 e4) ?_
    obtain ⟨s5, e5, h⟩ := bd h
    refine Ev.iast D_212 (by decide +kernel) (S_sI k_301 e5) ?_
    refine Ev.seg D_212 [(.aload_n 0, 1)] (by decide +kernel) (j := 0) (pc' := 40) (lv' := [(0, .ref 294), (1, .int q.1)]) (st' := [.ref 294]) rfl ?_
    refine Ev.getR D_212 (by decide +kernel) F_10_37 T_10_16 (x := 302) (S_oR k_294 (by decide +kernel)) ?_
    refine Ev.seg D_212 [(.iload_n 1, 1), (.aload_n 0, 1)] (by decide +kernel) (j := 0) (pc' := 45) (lv' := [(0, .ref 294), (1, .int q.1)]) (st' := [.ref 294, .int q.1, .ref 302]) rfl ?_
    refine Ev.getR D_212 (by decide +kernel) F_10_9 T_10_1 (x := 295) (S_oR k_294 (by decide +kernel)) ?_
    refine Ev.seg D_212 [(.bipush 9, 2), (.iconst 2, 1), (.iload_n 1, 1), (.imul, 1), (.iadd, 1), (.iconst 1, 1), (.iadd, 1)] (by decide +kernel) (j := 0) (pc' := 56) (lv' := [(0, .ref 294), (1, .int q.1)]) (st' := [.int (((9 : Int32) + ((2 : Int32) * q.1)) + (1 : Int32)), .ref 295, .int q.1, .ref 302]) rfl ?_
    obtain ⟨x8, e8, h⟩ := bd h
    refine Ev.iald D_212 (by decide +kernel) (S_aI k_295 e8) ?_
    obtain ⟨s9, e9, h⟩ := bd h
    refine Ev.iast D_212 (by decide +kernel) (S_sI k_302 e9) ?_
    refine Ev.seg D_212 [(.iinc 1 1, 3), (.goto (-44), 3)] (by decide +kernel) (j := 0) (pc' := 17) (lv' := [(1, .int (q.1 + (1 : Int32))), (0, .ref 294)]) (st' := []) rfl ?_
    cases h
    exact Ev.sub (lv' := [(0, .ref 294), (1, .int (q.1 + (1 : Int32)))]) (subL_cons rfl (subL_cons rfl subL_nil)) ho
theorem gM_asItIs_h17_w {L d : Nat} (hd : 2 ≤ d + 1)  : ∀ (n : Nat) (q : Int32 × mT) (r : mT), wh n (gM_asItIs_h17) q = some r → ∀ o, (fun r => Ev (d + 1) 212 64 [(0, .ref 294)] [] (uS L r) o) r → Ev (d + 1) 212 17 [(0, .ref 294), (1, .int q.1)] [] (uS L q.2) o :=
  fun n q r h o hc => wh_ev (E := fun (q : Int32 × mT) o => Ev (d + 1) 212 17 [(0, .ref 294), (1, .int q.1)] [] (uS L q.2) o) (C := fun (r : mT) o => (fun r => Ev (d + 1) 212 64 [(0, .ref 294)] [] (uS L r) o) r) (gM_asItIs_h17_ok hd  ) n q r h o hc
def gM_asItIs_h66  (q : Int32 × mT) : Option ((Int32 × mT) ⊕ (mT)) :=
  if (5 : Int32) ≤ q.1 then
    some (.inr q.2)
  else
    (gM_of q.1 (3 : Int32) q.2).bind fun p3 =>
    (wrI q.2 303 5 q.1 p3).bind fun s4 =>
    some (.inl (q.1 + (1 : Int32), s4))
set_option maxRecDepth 8000 in
theorem gM_asItIs_h66_ok {L d : Nat} (hd : 2 ≤ d + 1)  : ∀ (q : Int32 × mT) (x : (Int32 × mT) ⊕ (mT)), gM_asItIs_h66 q = some x → ∀ o, sK (fun q => Ev (d + 1) 212 66 [(0, .ref 294), (1, .int q.1)] [] (uS L q.2) o) (fun r => Ev (d + 1) 212 89 [(0, .ref 294)] [] (uS L r) o) x → Ev (d + 1) 212 66 [(0, .ref 294), (1, .int q.1)] [] (uS L q.2) o := by
  intro q x h o ho
  unfold gM_asItIs_h66 at h
  refine Ev.seg D_212 [(.iload_n 1, 1), (.iconst 5, 1)] (by decide +kernel) (j := 0) (pc' := 68) (lv' := [(0, .ref 294), (1, .int q.1)]) (st' := [.int (5 : Int32), .int q.1]) rfl ?_
  refine Ev.icmp D_212 (c := .ge) (off := 21) (by decide +kernel) (t := 89) rfl (fun c1 => ?_) (fun c1 => ?_)
  · have c1 : (5 : Int32) ≤ q.1 := of_decide_eq_true c1
    rw [if_pos c1] at h
    cases h
    exact Ev.sub (lv' := [(0, .ref 294)]) (subL_cons rfl subL_nil) ho
  · have c1 : ¬ (5 : Int32) ≤ q.1 := of_decide_eq_false c1
    rw [if_neg c1] at h
    refine Ev.seg D_212 [(.aload_n 0, 1)] (by decide +kernel) (j := 0) (pc' := 72) (lv' := [(0, .ref 294), (1, .int q.1)]) (st' := [.ref 294]) rfl ?_
    refine Ev.getR D_212 (by decide +kernel) F_10_40 T_10_17 (x := 303) (S_oR k_294 (by decide +kernel)) ?_
    refine Ev.seg D_212 [(.iload_n 1, 1), (.aload_n 0, 1), (.iload_n 1, 1), (.iconst 3, 1)] (by decide +kernel) (j := 0) (pc' := 79) (lv' := [(0, .ref 294), (1, .int q.1)]) (st' := [.int (3 : Int32), .int q.1, .ref 294, .int q.1, .ref 303]) rfl ?_
    obtain ⟨p3, e3, h⟩ := bd h
    refine Ev.callv D_212 E_207 (by decide +kernel) C_10_102 294 [.int q.1, .int (3 : Int32)] (r := [.int q.1, .ref 303]) rfl (gd_o k_294 (by decide)) rfl (Nat.le_of_ble_eq_true rfl) (Nat.le_of_ble_eq_true rfl) (gM_of_ok (by omega)  e3) ?_
    obtain ⟨s4, e4, h⟩ := bd h
    refine Ev.iast D_212 (by decide +kernel) (S_sI k_303 e4) ?_
    refine Ev.seg D_212 [(.iinc 1 1, 3), (.goto (-20), 3)] (by decide +kernel) (j := 0) (pc' := 66) (lv' := [(1, .int (q.1 + (1 : Int32))), (0, .ref 294)]) (st' := []) rfl ?_
    cases h
    exact Ev.sub (lv' := [(0, .ref 294), (1, .int (q.1 + (1 : Int32)))]) (subL_cons rfl (subL_cons rfl subL_nil)) ho
theorem gM_asItIs_h66_w {L d : Nat} (hd : 2 ≤ d + 1)  : ∀ (n : Nat) (q : Int32 × mT) (r : mT), wh n (gM_asItIs_h66) q = some r → ∀ o, (fun r => Ev (d + 1) 212 89 [(0, .ref 294)] [] (uS L r) o) r → Ev (d + 1) 212 66 [(0, .ref 294), (1, .int q.1)] [] (uS L q.2) o :=
  fun n q r h o hc => wh_ev (E := fun (q : Int32 × mT) o => Ev (d + 1) 212 66 [(0, .ref 294), (1, .int q.1)] [] (uS L q.2) o) (C := fun (r : mT) o => (fun r => Ev (d + 1) 212 89 [(0, .ref 294)] [] (uS L r) o) r) (gM_asItIs_h66_ok hd  ) n q r h o hc
def gM_asItIs (s : mT) : Option (mT) :=
  (rdI (s.1 295) 79 (1 : Int32)).bind fun x2 =>
  (wh FU (gM_asItIs_h17) ((0 : Int32), (stI (stI s 294 19 x2) 294 20 (0 : Int32)))).bind fun x10 =>
  (wh FU (gM_asItIs_h66) ((0 : Int32), x10)).bind fun x11 =>
  (gM_layShows (-1 : Int32) x11).bind fun p12 =>
  some (p12)
set_option maxRecDepth 8000 in
theorem gM_asItIs_ok {L d : Nat} (hd : 2 ≤ d) {s : mT} {p : mT} (h : gM_asItIs s = some p) : Ev d 212 0 [(0, .ref 294)] [] (uS L s) (none, uS L p) := by
  obtain ⟨d, rfl⟩ : ∃ e, d = e + 1 := ⟨d - 1, by omega⟩
  obtain ⟨o, ho⟩ : ∃ o : Option Value × mS, o = (none, uS L p) := ⟨_, rfl⟩
  rw [← ho]
  unfold gM_asItIs at h
  refine Ev.seg D_212 [(.aload_n 0, 1), (.aload_n 0, 1)] (by decide +kernel) (j := 0) (pc' := 2) (lv' := [(0, .ref 294)]) (st' := [.ref 294, .ref 294]) rfl ?_
  refine Ev.getR D_212 (by decide +kernel) F_10_9 T_10_1 (x := 295) (S_oR k_294 (by decide +kernel)) ?_
  refine Ev.seg D_212 [(.iconst 1, 1)] (by decide +kernel) (j := 0) (pc' := 6) (lv' := [(0, .ref 294)]) (st' := [.int (1 : Int32), .ref 295, .ref 294]) rfl ?_
  obtain ⟨x2, e2, h⟩ := bd h
  refine Ev.iald D_212 (by decide +kernel) (S_aI k_295 e2) ?_
  refine Ev.putI D_212 (by decide +kernel) F_10_228 N_10_19 T_10_19 (S_pI k_294) ?_
  refine Ev.seg D_212 [(.aload_n 0, 1), (.iconst 0, 1)] (by decide +kernel) (j := 0) (pc' := 12) (lv' := [(0, .ref 294)]) (st' := [.int (0 : Int32), .ref 294]) rfl ?_
  refine Ev.putI D_212 (by decide +kernel) F_10_231 N_10_20 T_10_20 (S_pI k_294) ?_
  refine Ev.seg D_212 [(.iconst 0, 1), (.istore_n 1, 1)] (by decide +kernel) (j := 0) (pc' := 17) (lv' := [(1, .int (0 : Int32)), (0, .ref 294)]) (st' := []) rfl ?_
  obtain ⟨x10, w10, h⟩ := bd h
  have j10 : Ev (d + 1) 212 64 [(0, .ref 294)] [] (uS L x10) o := by
    clear w10
    refine Ev.seg D_212 [(.iconst 0, 1), (.istore_n 1, 1)] (by decide +kernel) (j := 0) (pc' := 66) (lv' := [(1, .int (0 : Int32)), (0, .ref 294)]) (st' := []) rfl ?_
    obtain ⟨x11, w11, h⟩ := bd h
    have j11 : Ev (d + 1) 212 89 [(0, .ref 294)] [] (uS L x11) o := by
      clear w11
      refine Ev.seg D_212 [(.aload_n 0, 1), (.iconst (-1), 1)] (by decide +kernel) (j := 0) (pc' := 91) (lv' := [(0, .ref 294)]) (st' := [.int (-1 : Int32), .ref 294]) rfl ?_
      obtain ⟨p12, e12, h⟩ := bd h
      refine Ev.callv D_212 E_213 (by decide +kernel) C_10_234 294 [.int (-1 : Int32)] (r := []) rfl (gd_o k_294 (by decide)) rfl (Nat.le_of_ble_eq_true rfl) (Nat.le_of_ble_eq_true rfl) (gM_layShows_ok (by omega)  e12) ?_
      cases h
      obtain rfl : o = _ := ho
      exact Ev.vret D_212 (by decide +kernel)
    exact Ev.sub (lv' := [(0, .ref 294), (1, .int (0 : Int32))]) (subL_cons rfl (subL_cons rfl subL_nil)) (gM_asItIs_h66_w hd   _ _ _ w11 _ j11)
  exact Ev.sub (lv' := [(0, .ref 294), (1, .int (0 : Int32))]) (subL_cons rfl (subL_cons rfl subL_nil)) (gM_asItIs_h17_w hd   _ _ _ w10 _ j10)
/- PennantLawnModel isRace: 214 -/
def gM_isRace (s : mT) : Option (Int32) :=
  (rdI (s.1 295) 79 (8 : Int32)).bind fun x2 =>
  (
    if x2 ≤ 0 then
      some ((0 : Int32))
    else
      some ((1 : Int32)) : Option (Int32)).bind fun x3 =>
  if x3 = 0 ∨ x3 = 1 then some (x3) else none
set_option maxRecDepth 8000 in
theorem gM_isRace_ok {L d : Nat} (hd : 1 ≤ d) {s : mT} {p : Int32} (h : gM_isRace s = some p) : Ev d 214 0 [(0, .ref 294)] [] (uS L s) (some (.int p), uS L s) := by
  obtain ⟨d, rfl⟩ : ∃ e, d = e + 1 := ⟨d - 1, by omega⟩
  obtain ⟨o, ho⟩ : ∃ o : Option Value × mS, o = (some (.int p), uS L s) := ⟨_, rfl⟩
  rw [← ho]
  unfold gM_isRace at h
  refine Ev.seg D_214 [(.aload_n 0, 1)] (by decide +kernel) (j := 0) (pc' := 1) (lv' := [(0, .ref 294)]) (st' := [.ref 294]) rfl ?_
  refine Ev.getR D_214 (by decide +kernel) F_10_9 T_10_1 (x := 295) (S_oR k_294 (by decide +kernel)) ?_
  refine Ev.seg D_214 [(.bipush 8, 2)] (by decide +kernel) (j := 0) (pc' := 6) (lv' := [(0, .ref 294)]) (st' := [.int (8 : Int32), .ref 295]) rfl ?_
  obtain ⟨x2, e2, h⟩ := bd h
  refine Ev.iald D_214 (by decide +kernel) (S_aI k_295 e2) ?_
  obtain ⟨x3, g3, h⟩ := bd h
  have j3 : Ev (d + 1) 214 15 [] [.int x3] (uS L s) o := by
    clear g3
    by_cases c4 : x3 = 0 ∨ x3 = 1
    · rw [if_pos c4] at h
      cases h
      obtain rfl : o = _ := ho
      exact Ev.zret D_214 c4 (by decide +kernel)
    · rw [if_neg c4] at h; cases h
  clear h
  refine Ev.if_ D_214 (c := .le) (off := 7) (by decide +kernel) (t := 14) rfl (fun c3 => ?_) (fun c3 => ?_)
  · have c3 : x2 ≤ 0 := of_decide_eq_true c3
    rw [if_pos c3] at g3
    refine Ev.seg D_214 [(.iconst 0, 1)] (by decide +kernel) (j := 0) (pc' := 15) (lv' := [(0, .ref 294)]) (st' := [.int (0 : Int32)]) rfl ?_
    cases g3
    exact Ev.sub2 j3 subL_nil
  · have c3 : ¬ x2 ≤ 0 := of_decide_eq_false c3
    rw [if_neg c3] at g3
    refine Ev.seg D_214 [(.iconst 1, 1), (.goto 4, 3)] (by decide +kernel) (j := 0) (pc' := 15) (lv' := [(0, .ref 294)]) (st' := [.int (1 : Int32)]) rfl ?_
    cases g3
    exact Ev.sub2 j3 subL_nil
/- PennantLawnModel last: 216 -/
def gM_last (s : mT) : Option (Int32) :=
  (rdI (s.1 295) 79 (0 : Int32)).bind fun x2 =>
  some (x2)
set_option maxRecDepth 8000 in
theorem gM_last_ok {L d : Nat} (hd : 1 ≤ d) {s : mT} {p : Int32} (h : gM_last s = some p) : Ev d 216 0 [(0, .ref 294)] [] (uS L s) (some (.int p), uS L s) := by
  obtain ⟨d, rfl⟩ : ∃ e, d = e + 1 := ⟨d - 1, by omega⟩
  obtain ⟨o, ho⟩ : ∃ o : Option Value × mS, o = (some (.int p), uS L s) := ⟨_, rfl⟩
  rw [← ho]
  unfold gM_last at h
  refine Ev.seg D_216 [(.aload_n 0, 1)] (by decide +kernel) (j := 0) (pc' := 1) (lv' := [(0, .ref 294)]) (st' := [.ref 294]) rfl ?_
  refine Ev.getR D_216 (by decide +kernel) F_10_9 T_10_1 (x := 295) (S_oR k_294 (by decide +kernel)) ?_
  refine Ev.seg D_216 [(.iconst 0, 1)] (by decide +kernel) (j := 0) (pc' := 5) (lv' := [(0, .ref 294)]) (st' := [.int (0 : Int32), .ref 295]) rfl ?_
  obtain ⟨x2, e2, h⟩ := bd h
  refine Ev.iald D_216 (by decide +kernel) (S_aI k_295 e2) ?_
  cases h
  obtain rfl : o = _ := ho
  exact Ev.iret D_216 (by decide +kernel)
/- PennantLawnModel onOf: 218 -/
def gM_onOf (v1 : Int32) (v2 : Int32) (s : mT) : Option (Int32) :=
  (rdI (s.1 306) 105 (((5 : Int32) * v2) + v1)).bind fun x2 =>
  some (x2)
set_option maxRecDepth 8000 in
theorem gM_onOf_ok {L d : Nat} (hd : 1 ≤ d) {v1 : Int32} {v2 : Int32} {s : mT} {p : Int32} (h : gM_onOf v1 v2 s = some p) : Ev d 218 0 [(0, .ref 294), (1, .int v1), (2, .int v2)] [] (uS L s) (some (.int p), uS L s) := by
  obtain ⟨d, rfl⟩ : ∃ e, d = e + 1 := ⟨d - 1, by omega⟩
  obtain ⟨o, ho⟩ : ∃ o : Option Value × mS, o = (some (.int p), uS L s) := ⟨_, rfl⟩
  rw [← ho]
  unfold gM_onOf at h
  refine Ev.seg D_218 [(.aload_n 0, 1)] (by decide +kernel) (j := 0) (pc' := 1) (lv' := [(0, .ref 294), (1, .int v1), (2, .int v2)]) (st' := [.ref 294]) rfl ?_
  refine Ev.getR D_218 (by decide +kernel) F_10_49 T_10_22 (x := 306) (S_oR k_294 (by decide +kernel)) ?_
  refine Ev.seg D_218 [(.iconst 5, 1), (.iload_n 2, 1), (.imul, 1), (.iload_n 1, 1), (.iadd, 1)] (by decide +kernel) (j := 0) (pc' := 9) (lv' := [(0, .ref 294), (1, .int v1), (2, .int v2)]) (st' := [.int (((5 : Int32) * v2) + v1), .ref 306]) rfl ?_
  obtain ⟨x2, e2, h⟩ := bd h
  refine Ev.iald D_218 (by decide +kernel) (S_aI k_306 e2) ?_
  cases h
  obtain rfl : o = _ := ho
  exact Ev.iret D_218 (by decide +kernel)
/- PennantLawnModel placeOf: 220 -/
def gM_placeOf (v1 : Int32) (v2 : Int32) (s : mT) : Option (Int32) :=
  (rdI (s.1 305) 105 (((5 : Int32) * v2) + v1)).bind fun x2 =>
  some (x2)
set_option maxRecDepth 8000 in
theorem gM_placeOf_ok {L d : Nat} (hd : 1 ≤ d) {v1 : Int32} {v2 : Int32} {s : mT} {p : Int32} (h : gM_placeOf v1 v2 s = some p) : Ev d 220 0 [(0, .ref 294), (1, .int v1), (2, .int v2)] [] (uS L s) (some (.int p), uS L s) := by
  obtain ⟨d, rfl⟩ : ∃ e, d = e + 1 := ⟨d - 1, by omega⟩
  obtain ⟨o, ho⟩ : ∃ o : Option Value × mS, o = (some (.int p), uS L s) := ⟨_, rfl⟩
  rw [← ho]
  unfold gM_placeOf at h
  refine Ev.seg D_220 [(.aload_n 0, 1)] (by decide +kernel) (j := 0) (pc' := 1) (lv' := [(0, .ref 294), (1, .int v1), (2, .int v2)]) (st' := [.ref 294]) rfl ?_
  refine Ev.getR D_220 (by decide +kernel) F_10_46 T_10_21 (x := 305) (S_oR k_294 (by decide +kernel)) ?_
  refine Ev.seg D_220 [(.iconst 5, 1), (.iload_n 2, 1), (.imul, 1), (.iload_n 1, 1), (.iadd, 1)] (by decide +kernel) (j := 0) (pc' := 9) (lv' := [(0, .ref 294), (1, .int v1), (2, .int v2)]) (st' := [.int (((5 : Int32) * v2) + v1), .ref 305]) rfl ?_
  obtain ⟨x2, e2, h⟩ := bd h
  refine Ev.iald D_220 (by decide +kernel) (S_aI k_305 e2) ?_
  cases h
  obtain rfl : o = _ := ho
  exact Ev.iret D_220 (by decide +kernel)
/- PennantLawnModel turned: 219 -/
def gM_turned_h68 (v1 : Int32) (v2 : Int32) (s : mT) (q : Int32 × Int32) : Option ((Int32 × Int32) ⊕ (Int32)) :=
  (gM_of v1 (2 : Int32) s).bind fun p1 =>
  if p1 < q.2 then
    some (.inr q.1)
  else
    (
      if (s.1 294 19) = (1 : Int32) then
        (gM_placeOf q.2 v2 s).bind fun p8 =>
        (gM_placeOf q.1 v2 s).bind fun p9 =>
        if p8 ≤ p9 then
          some ((0 : Int32))
        else
          some ((1 : Int32))
      else
        (gM_placeOf q.2 v2 s).bind fun p5 =>
        (gM_placeOf q.1 v2 s).bind fun p6 =>
        if p6 ≤ p5 then
          some ((0 : Int32))
        else
          some ((1 : Int32)) : Option (Int32)).bind fun x4 =>
    (
      if x4 = 0 then
        some (q.1)
      else
        some (q.2) : Option (Int32)).bind fun x11 =>
    some (.inl (x11, q.2 + (1 : Int32)))
set_option maxRecDepth 8000 in
theorem gM_turned_h68_ok {L d : Nat} (hd : 2 ≤ d + 1) {v1 : Int32} {v2 : Int32} {s : mT} : ∀ (q : Int32 × Int32) (x : (Int32 × Int32) ⊕ (Int32)), gM_turned_h68 v1 v2 s q = some x → ∀ o, sK (fun q => Ev (d + 1) 219 68 [(0, .ref 294), (1, .int v1), (2, .int v2), (4, .int q.1), (5, .int q.2)] [] (uS L s) o) (fun r => Ev (d + 1) 219 151 [(4, .int r)] [] (uS L s) o) x → Ev (d + 1) 219 68 [(0, .ref 294), (1, .int v1), (2, .int v2), (4, .int q.1), (5, .int q.2)] [] (uS L s) o := by
  intro q x h o ho
  unfold gM_turned_h68 at h
  refine Ev.seg D_219 [(.iload 5, 2), (.aload_n 0, 1), (.iload_n 1, 1), (.iconst 2, 1)] (by decide +kernel) (j := 0) (pc' := 73) (lv' := [(0, .ref 294), (1, .int v1), (2, .int v2), (4, .int q.1), (5, .int q.2)]) (st' := [.int (2 : Int32), .int v1, .ref 294, .int q.2]) rfl ?_
  obtain ⟨p1, e1, h⟩ := bd h
  refine Ev.callv D_219 E_207 (by decide +kernel) C_10_102 294 [.int v1, .int (2 : Int32)] (r := [.int q.2]) rfl (gd_o k_294 (by decide)) rfl (Nat.le_of_ble_eq_true rfl) (Nat.le_of_ble_eq_true rfl) (gM_of_ok (by omega)  e1) ?_
  refine Ev.icmp D_219 (c := .gt) (off := 75) (by decide +kernel) (t := 151) rfl (fun c2 => ?_) (fun c2 => ?_)
  · have c2 : p1 < q.2 := of_decide_eq_true c2
    rw [if_pos c2] at h
    cases h
    exact Ev.sub (lv' := [(4, .int q.1)]) (subL_cons rfl subL_nil) ho
  · have c2 : ¬ p1 < q.2 := of_decide_eq_false c2
    rw [if_neg c2] at h
    refine Ev.seg D_219 [(.aload_n 0, 1)] (by decide +kernel) (j := 0) (pc' := 80) (lv' := [(0, .ref 294), (1, .int v1), (2, .int v2), (4, .int q.1), (5, .int q.2)]) (st' := [.ref 294]) rfl ?_
    refine Ev.getI D_219 (by decide +kernel) F_10_228 (Or.inl T_10_19) (S_oI k_294) ?_
    refine Ev.seg D_219 [(.iconst 1, 1)] (by decide +kernel) (j := 0) (pc' := 84) (lv' := [(0, .ref 294), (1, .int v1), (2, .int v2), (4, .int q.1), (5, .int q.2)]) (st' := [.int (1 : Int32), .int (s.1 294 19)]) rfl ?_
    obtain ⟨x4, g4, h⟩ := bd h
    have j4 : Ev (d + 1) 219 134 [(0, .ref 294), (1, .int v1), (2, .int v2), (4, .int q.1), (5, .int q.2)] [.int x4] (uS L s) o := by
      clear g4
      refine Ev.seg D_219 [(.istore 6, 2), (.iload 6, 2)] (by decide +kernel) (j := 0) (pc' := 138) (lv' := [(6, .int x4), (0, .ref 294), (1, .int v1), (2, .int v2), (4, .int q.1), (5, .int q.2)]) (st' := [.int x4]) rfl ?_
      obtain ⟨x11, g11, h⟩ := bd h
      have j11 : Ev (d + 1) 219 145 [(0, .ref 294), (1, .int v1), (2, .int v2), (4, .int x11), (5, .int q.2)] [] (uS L s) o := by
        clear g11
        refine Ev.seg D_219 [(.iinc 5 1, 3), (.goto (-80), 3)] (by decide +kernel) (j := 0) (pc' := 68) (lv' := [(5, .int (q.2 + (1 : Int32))), (0, .ref 294), (1, .int v1), (2, .int v2), (4, .int x11)]) (st' := []) rfl ?_
        cases h
        exact Ev.sub (lv' := [(0, .ref 294), (1, .int v1), (2, .int v2), (4, .int (x11)), (5, .int (q.2 + (1 : Int32)))]) (subL_cons rfl (subL_cons rfl (subL_cons rfl (subL_cons rfl (subL_cons rfl subL_nil))))) ho
      clear h
      refine Ev.if_ D_219 (c := .eq) (off := 7) (by decide +kernel) (t := 145) rfl (fun c11 => ?_) (fun c11 => ?_)
      · have c11 : x4 = 0 := of_decide_eq_true c11
        rw [if_pos c11] at g11
        cases g11
        exact Ev.sub2 j11 (subL_cons rfl (subL_cons rfl (subL_cons rfl (subL_cons rfl (subL_cons rfl subL_nil)))))
      · have c11 : ¬ x4 = 0 := of_decide_eq_false c11
        rw [if_neg c11] at g11
        refine Ev.seg D_219 [(.iload 5, 2), (.istore 4, 2)] (by decide +kernel) (j := 0) (pc' := 145) (lv' := [(4, .int q.2), (6, .int x4), (0, .ref 294), (1, .int v1), (2, .int v2), (5, .int q.2)]) (st' := []) rfl ?_
        cases g11
        exact Ev.sub2 j11 (subL_cons rfl (subL_cons rfl (subL_cons rfl (subL_cons rfl (subL_cons rfl subL_nil)))))
    clear h
    refine Ev.icmp D_219 (c := .ne) (off := 28) (by decide +kernel) (t := 112) rfl (fun c4 => ?_) (fun c4 => ?_)
    · have c4 : ¬ (s.1 294 19) = (1 : Int32) := of_decide_eq_true c4
      rw [if_neg c4] at g4
      refine Ev.seg D_219 [(.aload_n 0, 1), (.iload 5, 2), (.iload_n 2, 1)] (by decide +kernel) (j := 0) (pc' := 116) (lv' := [(0, .ref 294), (1, .int v1), (2, .int v2), (4, .int q.1), (5, .int q.2)]) (st' := [.int v2, .int q.2, .ref 294]) rfl ?_
      obtain ⟨p5, e5, g4⟩ := bd g4
      refine Ev.callv D_219 E_220 (by decide +kernel) C_10_240 294 [.int q.2, .int v2] (r := []) rfl (gd_o k_294 (by decide)) rfl (Nat.le_of_ble_eq_true rfl) (Nat.le_of_ble_eq_true rfl) (gM_placeOf_ok (by omega)  e5) ?_
      refine Ev.seg D_219 [(.aload_n 0, 1), (.iload 4, 2), (.iload_n 2, 1)] (by decide +kernel) (j := 0) (pc' := 123) (lv' := [(0, .ref 294), (1, .int v1), (2, .int v2), (4, .int q.1), (5, .int q.2)]) (st' := [.int v2, .int q.1, .ref 294, .int p5]) rfl ?_
      obtain ⟨p6, e6, g4⟩ := bd g4
      refine Ev.callv D_219 E_220 (by decide +kernel) C_10_240 294 [.int q.1, .int v2] (r := [.int p5]) rfl (gd_o k_294 (by decide)) rfl (Nat.le_of_ble_eq_true rfl) (Nat.le_of_ble_eq_true rfl) (gM_placeOf_ok (by omega)  e6) ?_
      refine Ev.icmp D_219 (c := .ge) (off := 7) (by decide +kernel) (t := 133) rfl (fun c7 => ?_) (fun c7 => ?_)
      · have c7 : p6 ≤ p5 := of_decide_eq_true c7
        rw [if_pos c7] at g4
        refine Ev.seg D_219 [(.iconst 0, 1)] (by decide +kernel) (j := 0) (pc' := 134) (lv' := [(0, .ref 294), (1, .int v1), (2, .int v2), (4, .int q.1), (5, .int q.2)]) (st' := [.int (0 : Int32)]) rfl ?_
        cases g4
        exact Ev.sub2 j4 (subL_cons rfl (subL_cons rfl (subL_cons rfl (subL_cons rfl (subL_cons rfl subL_nil)))))
      · have c7 : ¬ p6 ≤ p5 := of_decide_eq_false c7
        rw [if_neg c7] at g4
        refine Ev.seg D_219 [(.iconst 1, 1), (.goto 4, 3)] (by decide +kernel) (j := 0) (pc' := 134) (lv' := [(0, .ref 294), (1, .int v1), (2, .int v2), (4, .int q.1), (5, .int q.2)]) (st' := [.int (1 : Int32)]) rfl ?_
        cases g4
        exact Ev.sub2 j4 (subL_cons rfl (subL_cons rfl (subL_cons rfl (subL_cons rfl (subL_cons rfl subL_nil)))))
    · have c4 : (s.1 294 19) = (1 : Int32) := Decidable.of_not_not (of_decide_eq_false c4)
      rw [if_pos c4] at g4
      refine Ev.seg D_219 [(.aload_n 0, 1), (.iload 5, 2), (.iload_n 2, 1)] (by decide +kernel) (j := 0) (pc' := 91) (lv' := [(0, .ref 294), (1, .int v1), (2, .int v2), (4, .int q.1), (5, .int q.2)]) (st' := [.int v2, .int q.2, .ref 294]) rfl ?_
      obtain ⟨p8, e8, g4⟩ := bd g4
      refine Ev.callv D_219 E_220 (by decide +kernel) C_10_240 294 [.int q.2, .int v2] (r := []) rfl (gd_o k_294 (by decide)) rfl (Nat.le_of_ble_eq_true rfl) (Nat.le_of_ble_eq_true rfl) (gM_placeOf_ok (by omega)  e8) ?_
      refine Ev.seg D_219 [(.aload_n 0, 1), (.iload 4, 2), (.iload_n 2, 1)] (by decide +kernel) (j := 0) (pc' := 98) (lv' := [(0, .ref 294), (1, .int v1), (2, .int v2), (4, .int q.1), (5, .int q.2)]) (st' := [.int v2, .int q.1, .ref 294, .int p8]) rfl ?_
      obtain ⟨p9, e9, g4⟩ := bd g4
      refine Ev.callv D_219 E_220 (by decide +kernel) C_10_240 294 [.int q.1, .int v2] (r := [.int p8]) rfl (gd_o k_294 (by decide)) rfl (Nat.le_of_ble_eq_true rfl) (Nat.le_of_ble_eq_true rfl) (gM_placeOf_ok (by omega)  e9) ?_
      refine Ev.icmp D_219 (c := .le) (off := 7) (by decide +kernel) (t := 108) rfl (fun c10 => ?_) (fun c10 => ?_)
      · have c10 : p8 ≤ p9 := of_decide_eq_true c10
        rw [if_pos c10] at g4
        refine Ev.seg D_219 [(.iconst 0, 1), (.goto 25, 3)] (by decide +kernel) (j := 0) (pc' := 134) (lv' := [(0, .ref 294), (1, .int v1), (2, .int v2), (4, .int q.1), (5, .int q.2)]) (st' := [.int (0 : Int32)]) rfl ?_
        cases g4
        exact Ev.sub2 j4 (subL_cons rfl (subL_cons rfl (subL_cons rfl (subL_cons rfl (subL_cons rfl subL_nil)))))
      · have c10 : ¬ p8 ≤ p9 := of_decide_eq_false c10
        rw [if_neg c10] at g4
        refine Ev.seg D_219 [(.iconst 1, 1), (.goto 29, 3)] (by decide +kernel) (j := 0) (pc' := 134) (lv' := [(0, .ref 294), (1, .int v1), (2, .int v2), (4, .int q.1), (5, .int q.2)]) (st' := [.int (1 : Int32)]) rfl ?_
        cases g4
        exact Ev.sub2 j4 (subL_cons rfl (subL_cons rfl (subL_cons rfl (subL_cons rfl (subL_cons rfl subL_nil)))))
theorem gM_turned_h68_w {L d : Nat} (hd : 2 ≤ d + 1) {v1 : Int32} {v2 : Int32} {s : mT} : ∀ (n : Nat) (q : Int32 × Int32) (r : Int32), wh n (gM_turned_h68 v1 v2 s) q = some r → ∀ o, (fun r => Ev (d + 1) 219 151 [(4, .int r)] [] (uS L s) o) r → Ev (d + 1) 219 68 [(0, .ref 294), (1, .int v1), (2, .int v2), (4, .int q.1), (5, .int q.2)] [] (uS L s) o :=
  fun n q r h o hc => wh_ev (E := fun (q : Int32 × Int32) o => Ev (d + 1) 219 68 [(0, .ref 294), (1, .int v1), (2, .int v2), (4, .int q.1), (5, .int q.2)] [] (uS L s) o) (C := fun (r : Int32) o => (fun r => Ev (d + 1) 219 151 [(4, .int r)] [] (uS L s) o) r) (gM_turned_h68_ok hd  ) n q r h o hc
def gM_turned (v1 : Int32) (v2 : Int32) (v3 : Int32) (s : mT) : Option (Int32) :=
  if (s.1 294 19) = 0 then
    some (v3)
  else
    if (s.1 294 19) = (3 : Int32) then
      (gM_of v1 (1 : Int32) s).bind fun p14 =>
      (gM_of v1 (2 : Int32) s).bind fun p15 =>
      (gM_in v3.toInt64 p14.toInt64 ((p15 - (1 : Int32)).toInt64) s).bind fun p16 =>
      (
        if p16 = 0 then
          (gM_of v1 (1 : Int32) s).bind fun p18 =>
          some (p18)
        else
          some (v3 + (1 : Int32)) : Option (Int32)).bind fun x17 =>
      some (x17)
    else
      (gM_of v1 (1 : Int32) s).bind fun p5 =>
      (wh FU (gM_turned_h68 v1 v2 s) (p5, p5 + (1 : Int32))).bind fun x12 =>
      some (x12)
set_option maxRecDepth 8000 in
theorem gM_turned_ok {L d : Nat} (hd : 2 ≤ d) {v1 : Int32} {v2 : Int32} {v3 : Int32} {s : mT} {p : Int32} (h : gM_turned v1 v2 v3 s = some p) : Ev d 219 0 [(0, .ref 294), (1, .int v1), (2, .int v2), (3, .int v3)] [] (uS L s) (some (.int p), uS L s) := by
  obtain ⟨d, rfl⟩ : ∃ e, d = e + 1 := ⟨d - 1, by omega⟩
  obtain ⟨o, ho⟩ : ∃ o : Option Value × mS, o = (some (.int p), uS L s) := ⟨_, rfl⟩
  rw [← ho]
  unfold gM_turned at h
  refine Ev.seg D_219 [(.aload_n 0, 1)] (by decide +kernel) (j := 0) (pc' := 1) (lv' := [(0, .ref 294), (1, .int v1), (2, .int v2), (3, .int v3)]) (st' := [.ref 294]) rfl ?_
  refine Ev.getI D_219 (by decide +kernel) F_10_228 (Or.inl T_10_19) (S_oI k_294) ?_
  refine Ev.if_ D_219 (c := .ne) (off := 5) (by decide +kernel) (t := 9) rfl (fun c2 => ?_) (fun c2 => ?_)
  · have c2 : ¬ (s.1 294 19) = 0 := of_decide_eq_true c2
    rw [if_neg c2] at h
    refine Ev.seg D_219 [(.aload_n 0, 1)] (by decide +kernel) (j := 0) (pc' := 10) (lv' := [(0, .ref 294), (1, .int v1), (2, .int v2), (3, .int v3)]) (st' := [.ref 294]) rfl ?_
    refine Ev.getI D_219 (by decide +kernel) F_10_228 (Or.inl T_10_19) (S_oI k_294) ?_
    refine Ev.seg D_219 [(.iconst 3, 1)] (by decide +kernel) (j := 0) (pc' := 14) (lv' := [(0, .ref 294), (1, .int v1), (2, .int v2), (3, .int v3)]) (st' := [.int (3 : Int32), .int (s.1 294 19)]) rfl ?_
    refine Ev.icmp D_219 (c := .ne) (off := 40) (by decide +kernel) (t := 54) rfl (fun c4 => ?_) (fun c4 => ?_)
    · have c4 : ¬ (s.1 294 19) = (3 : Int32) := of_decide_eq_true c4
      rw [if_neg c4] at h
      refine Ev.seg D_219 [(.aload_n 0, 1), (.iload_n 1, 1), (.iconst 1, 1)] (by decide +kernel) (j := 0) (pc' := 57) (lv' := [(0, .ref 294), (1, .int v1), (2, .int v2), (3, .int v3)]) (st' := [.int (1 : Int32), .int v1, .ref 294]) rfl ?_
      obtain ⟨p5, e5, h⟩ := bd h
      refine Ev.callv D_219 E_207 (by decide +kernel) C_10_102 294 [.int v1, .int (1 : Int32)] (r := []) rfl (gd_o k_294 (by decide)) rfl (Nat.le_of_ble_eq_true rfl) (Nat.le_of_ble_eq_true rfl) (gM_of_ok (by omega)  e5) ?_
      refine Ev.seg D_219 [(.istore 4, 2), (.iload 4, 2), (.iconst 1, 1), (.iadd, 1), (.istore 5, 2)] (by decide +kernel) (j := 0) (pc' := 68) (lv' := [(5, .int (p5 + (1 : Int32))), (4, .int p5), (0, .ref 294), (1, .int v1), (2, .int v2), (3, .int v3)]) (st' := []) rfl ?_
      obtain ⟨x12, w12, h⟩ := bd h
      have j12 : Ev (d + 1) 219 151 [(4, .int x12)] [] (uS L s) o := by
        clear w12
        refine Ev.seg D_219 [(.iload 4, 2)] (by decide +kernel) (j := 0) (pc' := 153) (lv' := [(4, .int x12)]) (st' := [.int x12]) rfl ?_
        cases h
        obtain rfl : o = _ := ho
        exact Ev.iret D_219 (by decide +kernel)
      exact Ev.sub (lv' := [(0, .ref 294), (1, .int v1), (2, .int v2), (4, .int p5), (5, .int (p5 + (1 : Int32)))]) (subL_cons rfl (subL_cons rfl (subL_cons rfl (subL_cons rfl (subL_cons rfl subL_nil))))) (gM_turned_h68_w hd   _ _ _ w12 _ j12)
    · have c4 : (s.1 294 19) = (3 : Int32) := Decidable.of_not_not (of_decide_eq_false c4)
      rw [if_pos c4] at h
      refine Ev.seg D_219 [(.iload_n 3, 1), (.i2l, 1), (.aload_n 0, 1), (.iload_n 1, 1), (.iconst 1, 1)] (by decide +kernel) (j := 0) (pc' := 22) (lv' := [(0, .ref 294), (1, .int v1), (2, .int v2), (3, .int v3)]) (st' := [.int (1 : Int32), .int v1, .ref 294, .long v3.toInt64]) rfl ?_
      obtain ⟨p14, e14, h⟩ := bd h
      refine Ev.callv D_219 E_207 (by decide +kernel) C_10_102 294 [.int v1, .int (1 : Int32)] (r := [.long v3.toInt64]) rfl (gd_o k_294 (by decide)) rfl (Nat.le_of_ble_eq_true rfl) (Nat.le_of_ble_eq_true rfl) (gM_of_ok (by omega)  e14) ?_
      refine Ev.seg D_219 [(.i2l, 1), (.aload_n 0, 1), (.iload_n 1, 1), (.iconst 2, 1)] (by decide +kernel) (j := 0) (pc' := 29) (lv' := [(0, .ref 294), (1, .int v1), (2, .int v2), (3, .int v3)]) (st' := [.int (2 : Int32), .int v1, .ref 294, .long p14.toInt64, .long v3.toInt64]) rfl ?_
      obtain ⟨p15, e15, h⟩ := bd h
      refine Ev.callv D_219 E_207 (by decide +kernel) C_10_102 294 [.int v1, .int (2 : Int32)] (r := [.long p14.toInt64, .long v3.toInt64]) rfl (gd_o k_294 (by decide)) rfl (Nat.le_of_ble_eq_true rfl) (Nat.le_of_ble_eq_true rfl) (gM_of_ok (by omega)  e15) ?_
      refine Ev.seg D_219 [(.iconst 1, 1), (.isub, 1), (.i2l, 1)] (by decide +kernel) (j := 0) (pc' := 35) (lv' := [(0, .ref 294), (1, .int v1), (2, .int v2), (3, .int v3)]) (st' := [.long ((p15 - (1 : Int32)).toInt64), .long p14.toInt64, .long v3.toInt64]) rfl ?_
      obtain ⟨p16, e16, h⟩ := bd h
      refine Ev.calls D_219 E_184 (by decide +kernel) C_10_88 [.long v3.toInt64, .long p14.toInt64, .long ((p15 - (1 : Int32)).toInt64)] (r := []) rfl rfl (Nat.le_of_ble_eq_true rfl) (Nat.le_of_ble_eq_true rfl) (gM_in_ok (by omega)  e16) ?_
      obtain ⟨x17, g17, h⟩ := bd h
      have j17 : Ev (d + 1) 219 53 [] [.int x17] (uS L s) o := by
        clear g17
        cases h
        obtain rfl : o = _ := ho
        exact Ev.iret D_219 (by decide +kernel)
      clear h
      refine Ev.if_ D_219 (c := .eq) (off := 9) (by decide +kernel) (t := 47) rfl (fun c17 => ?_) (fun c17 => ?_)
      · have c17 : p16 = 0 := of_decide_eq_true c17
        rw [if_pos c17] at g17
        refine Ev.seg D_219 [(.aload_n 0, 1), (.iload_n 1, 1), (.iconst 1, 1)] (by decide +kernel) (j := 0) (pc' := 50) (lv' := [(0, .ref 294), (1, .int v1), (2, .int v2), (3, .int v3)]) (st' := [.int (1 : Int32), .int v1, .ref 294]) rfl ?_
        obtain ⟨p18, e18, g17⟩ := bd g17
        refine Ev.callv D_219 E_207 (by decide +kernel) C_10_102 294 [.int v1, .int (1 : Int32)] (r := []) rfl (gd_o k_294 (by decide)) rfl (Nat.le_of_ble_eq_true rfl) (Nat.le_of_ble_eq_true rfl) (gM_of_ok (by omega)  e18) ?_
        cases g17
        exact Ev.sub2 j17 subL_nil
      · have c17 : ¬ p16 = 0 := of_decide_eq_false c17
        rw [if_neg c17] at g17
        refine Ev.seg D_219 [(.iload_n 3, 1), (.iconst 1, 1), (.iadd, 1), (.goto 9, 3)] (by decide +kernel) (j := 0) (pc' := 53) (lv' := [(0, .ref 294), (1, .int v1), (2, .int v2), (3, .int v3)]) (st' := [.int (v3 + (1 : Int32))]) rfl ?_
        cases g17
        exact Ev.sub2 j17 subL_nil
  · have c2 : (s.1 294 19) = 0 := Decidable.of_not_not (of_decide_eq_false c2)
    rw [if_pos c2] at h
    refine Ev.seg D_219 [(.iload_n 3, 1)] (by decide +kernel) (j := 0) (pc' := 8) (lv' := [(0, .ref 294), (1, .int v1), (2, .int v2), (3, .int v3)]) (st' := [.int v3]) rfl ?_
    cases h
    obtain rfl : o = _ := ho
    exact Ev.iret D_219 (by decide +kernel)
/- PennantLawnModel bit: 221 -/
def gM_bit (v0 : Int32) (v1 : Int32) (s : mT) : Option (Int32) :=
  some ((v0 >>> (v1 &&& 31)) &&& (1 : Int32))
set_option maxRecDepth 8000 in
theorem gM_bit_ok {L d : Nat} (hd : 1 ≤ d) {v0 : Int32} {v1 : Int32} {s : mT} {p : Int32} (h : gM_bit v0 v1 s = some p) : Ev d 221 0 [(0, .int v0), (1, .int v1)] [] (uS L s) (some (.int p), uS L s) := by
  obtain ⟨d, rfl⟩ : ∃ e, d = e + 1 := ⟨d - 1, by omega⟩
  obtain ⟨o, ho⟩ : ∃ o : Option Value × mS, o = (some (.int p), uS L s) := ⟨_, rfl⟩
  rw [← ho]
  unfold gM_bit at h
  refine Ev.seg D_221 [(.iload_n 0, 1), (.iload_n 1, 1), (.ishr, 1), (.iconst 1, 1), (.iand, 1)] (by decide +kernel) (j := 0) (pc' := 5) (lv' := [(0, .int v0), (1, .int v1)]) (st' := [.int ((v0 >>> (v1 &&& 31)) &&& (1 : Int32))]) rfl ?_
  cases h
  obtain rfl : o = _ := ho
  exact Ev.iret D_221 (by decide +kernel)
/- PennantLawnModel goLooks: 217 -/
def gM_goLooks_h77 (v1 : Int32) (v2 : Int32) (q : Int32 × Int32 × Int32 × mT) : Option ((Int32 × Int32 × Int32 × mT) ⊕ (Int32 × Int32 × mT)) :=
  (rdI (q.2.2.2.1 295) 79 (7 : Int32)).bind fun x2 =>
  if x2 ≤ q.2.2.1 then
    some (.inr (q.1, q.2.1, q.2.2.2))
  else
    (rdI (q.2.2.2.1 295) 79 ((49 : Int32) + q.2.2.1)).bind fun x5 =>
    (
      if (100000 : Int32) ≤ x5 then
        some ((0 : Int32))
      else
        some ((1 : Int32)) : Option (Int32)).bind fun x7 =>
    (
      if x7 = 0 then
        if (100 : Int32) = 0 then none else
        some ((x5 - (100000 : Int32)) / (100 : Int32))
      else
        if (1000 : Int32) = 0 then none else
        some (x5 / (1000 : Int32)) : Option (Int32)).bind fun x8 =>
    (
      if x8 = v2 then
        if (100 : Int32) = 0 then none else
        if (x5 - x5 / (100 : Int32) * (100 : Int32)) = v1 then
          (rdI (q.2.2.2.1 295) 79 (7 : Int32)).bind fun x16 =>
          (
            if q.2.2.1 = (x16 - (1 : Int32)) then
              (
                if q.2.1 = 0 then
                  some ((1 : Int32))
                else
                  some ((0 : Int32)) : Option (Int32)).bind fun x19 =>
              some ((stI (stI q.2.2.2 294 25 q.1) 294 26 x19))
            else
              some (q.2.2.2) : Option (mT)).bind fun x17 =>
          if x7 = 0 then
            some ((q.1, (1 : Int32), x17))
          else
            if (100 : Int32) = 0 then none else
            if (10 : Int32) = 0 then none else
            some (((x5 / (100 : Int32)) - (x5 / (100 : Int32)) / (10 : Int32) * (10 : Int32), q.2.1, x17))
        else
          some ((q.1, q.2.1, q.2.2.2))
      else
        some ((q.1, q.2.1, q.2.2.2)) : Option (Int32 × Int32 × mT)).bind fun x12 =>
    some (.inl (x12.1, x12.2.1, q.2.2.1 + (1 : Int32), x12.2.2))
set_option maxRecDepth 8000 in
theorem gM_goLooks_h77_ok {L d : Nat} (hd : 3 ≤ d + 1) {v1 : Int32} {v2 : Int32} : ∀ (q : Int32 × Int32 × Int32 × mT) (x : (Int32 × Int32 × Int32 × mT) ⊕ (Int32 × Int32 × mT)), gM_goLooks_h77 v1 v2 q = some x → ∀ o, sK (fun q => Ev (d + 1) 217 77 [(0, .ref 294), (1, .int v1), (2, .int v2), (3, .int q.1), (4, .int q.2.1), (5, .int q.2.2.1)] [] (uS L q.2.2.2) o) (fun r => Ev (d + 1) 217 216 [(0, .ref 294), (1, .int v1), (2, .int v2), (3, .int r.1), (4, .int r.2.1)] [] (uS L r.2.2) o) x → Ev (d + 1) 217 77 [(0, .ref 294), (1, .int v1), (2, .int v2), (3, .int q.1), (4, .int q.2.1), (5, .int q.2.2.1)] [] (uS L q.2.2.2) o := by
  intro q x h o ho
  unfold gM_goLooks_h77 at h
  refine Ev.seg D_217 [(.iload 5, 2), (.aload_n 0, 1)] (by decide +kernel) (j := 0) (pc' := 80) (lv' := [(0, .ref 294), (1, .int v1), (2, .int v2), (3, .int q.1), (4, .int q.2.1), (5, .int q.2.2.1)]) (st' := [.ref 294, .int q.2.2.1]) rfl ?_
  refine Ev.getR D_217 (by decide +kernel) F_10_9 T_10_1 (x := 295) (S_oR k_294 (by decide +kernel)) ?_
  refine Ev.seg D_217 [(.bipush 7, 2)] (by decide +kernel) (j := 0) (pc' := 85) (lv' := [(0, .ref 294), (1, .int v1), (2, .int v2), (3, .int q.1), (4, .int q.2.1), (5, .int q.2.2.1)]) (st' := [.int (7 : Int32), .ref 295, .int q.2.2.1]) rfl ?_
  obtain ⟨x2, e2, h⟩ := bd h
  refine Ev.iald D_217 (by decide +kernel) (S_aI k_295 e2) ?_
  refine Ev.icmp D_217 (c := .ge) (off := 130) (by decide +kernel) (t := 216) rfl (fun c3 => ?_) (fun c3 => ?_)
  · have c3 : x2 ≤ q.2.2.1 := of_decide_eq_true c3
    rw [if_pos c3] at h
    cases h
    exact Ev.sub (lv' := [(0, .ref 294), (1, .int v1), (2, .int v2), (3, .int q.1), (4, .int q.2.1)]) (subL_cons rfl (subL_cons rfl (subL_cons rfl (subL_cons rfl (subL_cons rfl subL_nil))))) ho
  · have c3 : ¬ x2 ≤ q.2.2.1 := of_decide_eq_false c3
    rw [if_neg c3] at h
    refine Ev.seg D_217 [(.aload_n 0, 1)] (by decide +kernel) (j := 0) (pc' := 90) (lv' := [(0, .ref 294), (1, .int v1), (2, .int v2), (3, .int q.1), (4, .int q.2.1), (5, .int q.2.2.1)]) (st' := [.ref 294]) rfl ?_
    refine Ev.getR D_217 (by decide +kernel) F_10_9 T_10_1 (x := 295) (S_oR k_294 (by decide +kernel)) ?_
    refine Ev.seg D_217 [(.bipush 49, 2), (.iload 5, 2), (.iadd, 1)] (by decide +kernel) (j := 0) (pc' := 98) (lv' := [(0, .ref 294), (1, .int v1), (2, .int v2), (3, .int q.1), (4, .int q.2.1), (5, .int q.2.2.1)]) (st' := [.int ((49 : Int32) + q.2.2.1), .ref 295]) rfl ?_
    obtain ⟨x5, e5, h⟩ := bd h
    refine Ev.iald D_217 (by decide +kernel) (S_aI k_295 e5) ?_
    refine Ev.seg D_217 [(.istore 6, 2), (.iload 6, 2)] (by decide +kernel) (j := 0) (pc' := 103) (lv' := [(6, .int x5), (0, .ref 294), (1, .int v1), (2, .int v2), (3, .int q.1), (4, .int q.2.1), (5, .int q.2.2.1)]) (st' := [.int x5]) rfl ?_
    refine Ev.ldc D_217 (i := 253) (by decide +kernel) (v := .int (100000 : Int32)) (by decide +kernel) ?_
    obtain ⟨x7, g7, h⟩ := bd h
    have j7 : Ev (d + 1) 217 113 [(0, .ref 294), (1, .int v1), (2, .int v2), (3, .int q.1), (4, .int q.2.1), (5, .int q.2.2.1), (6, .int x5)] [.int x7] (uS L q.2.2.2) o := by
      clear g7
      refine Ev.seg D_217 [(.istore 7, 2), (.iload 7, 2)] (by decide +kernel) (j := 0) (pc' := 117) (lv' := [(7, .int x7), (0, .ref 294), (1, .int v1), (2, .int v2), (3, .int q.1), (4, .int q.2.1), (5, .int q.2.2.1), (6, .int x5)]) (st' := [.int x7]) rfl ?_
      obtain ⟨x8, g8, h⟩ := bd h
      have j8 : Ev (d + 1) 217 137 [(0, .ref 294), (1, .int v1), (2, .int v2), (3, .int q.1), (4, .int q.2.1), (5, .int q.2.2.1), (6, .int x5), (7, .int x7)] [.int x8] (uS L q.2.2.2) o := by
        clear g8
        refine Ev.seg D_217 [(.istore 8, 2), (.iload 8, 2), (.iload_n 2, 1)] (by decide +kernel) (j := 0) (pc' := 142) (lv' := [(8, .int x8), (0, .ref 294), (1, .int v1), (2, .int v2), (3, .int q.1), (4, .int q.2.1), (5, .int q.2.2.1), (6, .int x5), (7, .int x7)]) (st' := [.int v2, .int x8]) rfl ?_
        obtain ⟨x12, g12, h⟩ := bd h
        have j12 : Ev (d + 1) 217 210 [(0, .ref 294), (1, .int v1), (2, .int v2), (3, .int x12.1), (4, .int x12.2.1), (5, .int q.2.2.1)] [] (uS L x12.2.2) o := by
          clear g12
          refine Ev.seg D_217 [(.iinc 5 1, 3), (.goto (-136), 3)] (by decide +kernel) (j := 0) (pc' := 77) (lv' := [(5, .int (q.2.2.1 + (1 : Int32))), (0, .ref 294), (1, .int v1), (2, .int v2), (3, .int x12.1), (4, .int x12.2.1)]) (st' := []) rfl ?_
          cases h
          exact Ev.sub (lv' := [(0, .ref 294), (1, .int v1), (2, .int v2), (3, .int (x12.1)), (4, .int (x12.2.1)), (5, .int (q.2.2.1 + (1 : Int32)))]) (subL_cons rfl (subL_cons rfl (subL_cons rfl (subL_cons rfl (subL_cons rfl (subL_cons rfl subL_nil)))))) ho
        clear h
        refine Ev.icmp D_217 (c := .ne) (off := 68) (by decide +kernel) (t := 210) rfl (fun c12 => ?_) (fun c12 => ?_)
        · have c12 : ¬ x8 = v2 := of_decide_eq_true c12
          rw [if_neg c12] at g12
          cases g12
          exact Ev.sub2 j12 (subL_cons rfl (subL_cons rfl (subL_cons rfl (subL_cons rfl (subL_cons rfl (subL_cons rfl subL_nil))))))
        · have c12 : x8 = v2 := Decidable.of_not_not (of_decide_eq_false c12)
          rw [if_pos c12] at g12
          refine Ev.seg D_217 [(.iload 6, 2), (.bipush 100, 2)] (by decide +kernel) (j := 0) (pc' := 149) (lv' := [(8, .int x8), (0, .ref 294), (1, .int v1), (2, .int v2), (3, .int q.1), (4, .int q.2.1), (5, .int q.2.2.1), (6, .int x5), (7, .int x7)]) (st' := [.int (100 : Int32), .int x5]) rfl ?_
          by_cases c13 : (100 : Int32) = 0
          · rw [if_pos c13] at g12; cases g12
          rw [if_neg c13] at g12
          refine Ev.irem D_217 (by decide +kernel) c13 ?_
          refine Ev.seg D_217 [(.iload_n 1, 1)] (by decide +kernel) (j := 0) (pc' := 151) (lv' := [(8, .int x8), (0, .ref 294), (1, .int v1), (2, .int v2), (3, .int q.1), (4, .int q.2.1), (5, .int q.2.2.1), (6, .int x5), (7, .int x7)]) (st' := [.int v1, .int (x5 - x5 / (100 : Int32) * (100 : Int32))]) rfl ?_
          refine Ev.icmp D_217 (c := .eq) (off := 6) (by decide +kernel) (t := 157) rfl (fun c14 => ?_) (fun c14 => ?_)
          · have c14 : (x5 - x5 / (100 : Int32) * (100 : Int32)) = v1 := of_decide_eq_true c14
            rw [if_pos c14] at g12
            refine Ev.seg D_217 [(.iload 5, 2), (.aload_n 0, 1)] (by decide +kernel) (j := 0) (pc' := 160) (lv' := [(8, .int x8), (0, .ref 294), (1, .int v1), (2, .int v2), (3, .int q.1), (4, .int q.2.1), (5, .int q.2.2.1), (6, .int x5), (7, .int x7)]) (st' := [.ref 294, .int q.2.2.1]) rfl ?_
            refine Ev.getR D_217 (by decide +kernel) F_10_9 T_10_1 (x := 295) (S_oR k_294 (by decide +kernel)) ?_
            refine Ev.seg D_217 [(.bipush 7, 2)] (by decide +kernel) (j := 0) (pc' := 165) (lv' := [(8, .int x8), (0, .ref 294), (1, .int v1), (2, .int v2), (3, .int q.1), (4, .int q.2.1), (5, .int q.2.2.1), (6, .int x5), (7, .int x7)]) (st' := [.int (7 : Int32), .ref 295, .int q.2.2.1]) rfl ?_
            obtain ⟨x16, e16, g12⟩ := bd g12
            refine Ev.iald D_217 (by decide +kernel) (S_aI k_295 e16) ?_
            refine Ev.seg D_217 [(.iconst 1, 1), (.isub, 1)] (by decide +kernel) (j := 0) (pc' := 168) (lv' := [(8, .int x8), (0, .ref 294), (1, .int v1), (2, .int v2), (3, .int q.1), (4, .int q.2.1), (5, .int q.2.2.1), (6, .int x5), (7, .int x7)]) (st' := [.int (x16 - (1 : Int32)), .int q.2.2.1]) rfl ?_
            obtain ⟨x17, g17, g12⟩ := bd g12
            have j17 : Ev (d + 1) 217 190 [(0, .ref 294), (1, .int v1), (2, .int v2), (3, .int q.1), (4, .int q.2.1), (5, .int q.2.2.1), (6, .int x5), (7, .int x7)] [] (uS L x17) o := by
              clear g17
              refine Ev.seg D_217 [(.iload 7, 2)] (by decide +kernel) (j := 0) (pc' := 192) (lv' := [(0, .ref 294), (1, .int v1), (2, .int v2), (3, .int q.1), (4, .int q.2.1), (5, .int q.2.2.1), (6, .int x5), (7, .int x7)]) (st' := [.int x7]) rfl ?_
              refine Ev.if_ D_217 (c := .eq) (off := 15) (by decide +kernel) (t := 207) rfl (fun c21 => ?_) (fun c21 => ?_)
              · have c21 : x7 = 0 := of_decide_eq_true c21
                rw [if_pos c21] at g12
                refine Ev.seg D_217 [(.iconst 1, 1), (.istore 4, 2)] (by decide +kernel) (j := 0) (pc' := 210) (lv' := [(4, .int (1 : Int32)), (0, .ref 294), (1, .int v1), (2, .int v2), (3, .int q.1), (5, .int q.2.2.1), (6, .int x5), (7, .int x7)]) (st' := []) rfl ?_
                cases g12
                exact Ev.sub2 j12 (subL_cons rfl (subL_cons rfl (subL_cons rfl (subL_cons rfl (subL_cons rfl (subL_cons rfl subL_nil))))))
              · have c21 : ¬ x7 = 0 := of_decide_eq_false c21
                rw [if_neg c21] at g12
                refine Ev.seg D_217 [(.iload 6, 2), (.bipush 100, 2)] (by decide +kernel) (j := 0) (pc' := 199) (lv' := [(0, .ref 294), (1, .int v1), (2, .int v2), (3, .int q.1), (4, .int q.2.1), (5, .int q.2.2.1), (6, .int x5), (7, .int x7)]) (st' := [.int (100 : Int32), .int x5]) rfl ?_
                by_cases c22 : (100 : Int32) = 0
                · rw [if_pos c22] at g12; cases g12
                rw [if_neg c22] at g12
                refine Ev.idiv D_217 (by decide +kernel) c22 ?_
                refine Ev.seg D_217 [(.bipush 10, 2)] (by decide +kernel) (j := 0) (pc' := 202) (lv' := [(0, .ref 294), (1, .int v1), (2, .int v2), (3, .int q.1), (4, .int q.2.1), (5, .int q.2.2.1), (6, .int x5), (7, .int x7)]) (st' := [.int (10 : Int32), .int (x5 / (100 : Int32))]) rfl ?_
                by_cases c23 : (10 : Int32) = 0
                · rw [if_pos c23] at g12; cases g12
                rw [if_neg c23] at g12
                refine Ev.irem D_217 (by decide +kernel) c23 ?_
                refine Ev.seg D_217 [(.istore_n 3, 1), (.goto 6, 3)] (by decide +kernel) (j := 0) (pc' := 210) (lv' := [(3, .int ((x5 / (100 : Int32)) - (x5 / (100 : Int32)) / (10 : Int32) * (10 : Int32))), (0, .ref 294), (1, .int v1), (2, .int v2), (4, .int q.2.1), (5, .int q.2.2.1), (6, .int x5), (7, .int x7)]) (st' := []) rfl ?_
                cases g12
                exact Ev.sub2 j12 (subL_cons rfl (subL_cons rfl (subL_cons rfl (subL_cons rfl (subL_cons rfl (subL_cons rfl subL_nil))))))
            clear g12
            refine Ev.icmp D_217 (c := .ne) (off := 22) (by decide +kernel) (t := 190) rfl (fun c17 => ?_) (fun c17 => ?_)
            · have c17 : ¬ q.2.2.1 = (x16 - (1 : Int32)) := of_decide_eq_true c17
              rw [if_neg c17] at g17
              cases g17
              exact Ev.sub2 j17 (subL_cons rfl (subL_cons rfl (subL_cons rfl (subL_cons rfl (subL_cons rfl (subL_cons rfl (subL_cons rfl (subL_cons rfl subL_nil))))))))
            · have c17 : q.2.2.1 = (x16 - (1 : Int32)) := Decidable.of_not_not (of_decide_eq_false c17)
              rw [if_pos c17] at g17
              refine Ev.seg D_217 [(.aload_n 0, 1), (.iload_n 3, 1)] (by decide +kernel) (j := 0) (pc' := 173) (lv' := [(8, .int x8), (0, .ref 294), (1, .int v1), (2, .int v2), (3, .int q.1), (4, .int q.2.1), (5, .int q.2.2.1), (6, .int x5), (7, .int x7)]) (st' := [.int q.1, .ref 294]) rfl ?_
              refine Ev.putI D_217 (by decide +kernel) F_10_254 N_10_25 T_10_25 (S_pI k_294) ?_
              refine Ev.seg D_217 [(.aload_n 0, 1), (.iload 4, 2)] (by decide +kernel) (j := 0) (pc' := 179) (lv' := [(8, .int x8), (0, .ref 294), (1, .int v1), (2, .int v2), (3, .int q.1), (4, .int q.2.1), (5, .int q.2.2.1), (6, .int x5), (7, .int x7)]) (st' := [.int q.2.1, .ref 294]) rfl ?_
              obtain ⟨x19, g19, g17⟩ := bd g17
              have j19 : Ev (d + 1) 217 187 [(0, .ref 294), (1, .int v1), (2, .int v2), (3, .int q.1), (4, .int q.2.1), (5, .int q.2.2.1), (6, .int x5), (7, .int x7)] [.int x19, .ref 294] (uS L (stI q.2.2.2 294 25 q.1)) o := by
                clear g19
                refine Ev.putI D_217 (by decide +kernel) F_10_257 N_10_26 T_10_26 (S_pI k_294) ?_
                cases g17
                exact Ev.sub2 j17 (subL_cons rfl (subL_cons rfl (subL_cons rfl (subL_cons rfl (subL_cons rfl (subL_cons rfl (subL_cons rfl (subL_cons rfl subL_nil))))))))
              clear g17
              refine Ev.if_ D_217 (c := .eq) (off := 7) (by decide +kernel) (t := 186) rfl (fun c19 => ?_) (fun c19 => ?_)
              · have c19 : q.2.1 = 0 := of_decide_eq_true c19
                rw [if_pos c19] at g19
                refine Ev.seg D_217 [(.iconst 1, 1)] (by decide +kernel) (j := 0) (pc' := 187) (lv' := [(8, .int x8), (0, .ref 294), (1, .int v1), (2, .int v2), (3, .int q.1), (4, .int q.2.1), (5, .int q.2.2.1), (6, .int x5), (7, .int x7)]) (st' := [.int (1 : Int32), .ref 294]) rfl ?_
                cases g19
                exact Ev.sub2 j19 (subL_cons rfl (subL_cons rfl (subL_cons rfl (subL_cons rfl (subL_cons rfl (subL_cons rfl (subL_cons rfl (subL_cons rfl subL_nil))))))))
              · have c19 : ¬ q.2.1 = 0 := of_decide_eq_false c19
                rw [if_neg c19] at g19
                refine Ev.seg D_217 [(.iconst 0, 1), (.goto 4, 3)] (by decide +kernel) (j := 0) (pc' := 187) (lv' := [(8, .int x8), (0, .ref 294), (1, .int v1), (2, .int v2), (3, .int q.1), (4, .int q.2.1), (5, .int q.2.2.1), (6, .int x5), (7, .int x7)]) (st' := [.int (0 : Int32), .ref 294]) rfl ?_
                cases g19
                exact Ev.sub2 j19 (subL_cons rfl (subL_cons rfl (subL_cons rfl (subL_cons rfl (subL_cons rfl (subL_cons rfl (subL_cons rfl (subL_cons rfl subL_nil))))))))
          · have c14 : ¬ (x5 - x5 / (100 : Int32) * (100 : Int32)) = v1 := of_decide_eq_false c14
            rw [if_neg c14] at g12
            refine Ev.seg D_217 [(.goto 56, 3)] (by decide +kernel) (j := 0) (pc' := 210) (lv' := [(8, .int x8), (0, .ref 294), (1, .int v1), (2, .int v2), (3, .int q.1), (4, .int q.2.1), (5, .int q.2.2.1), (6, .int x5), (7, .int x7)]) (st' := []) rfl ?_
            cases g12
            exact Ev.sub2 j12 (subL_cons rfl (subL_cons rfl (subL_cons rfl (subL_cons rfl (subL_cons rfl (subL_cons rfl subL_nil))))))
      clear h
      refine Ev.if_ D_217 (c := .eq) (off := 12) (by decide +kernel) (t := 129) rfl (fun c8 => ?_) (fun c8 => ?_)
      · have c8 : x7 = 0 := of_decide_eq_true c8
        rw [if_pos c8] at g8
        refine Ev.seg D_217 [(.iload 6, 2)] (by decide +kernel) (j := 0) (pc' := 131) (lv' := [(7, .int x7), (0, .ref 294), (1, .int v1), (2, .int v2), (3, .int q.1), (4, .int q.2.1), (5, .int q.2.2.1), (6, .int x5)]) (st' := [.int x5]) rfl ?_
        refine Ev.ldc D_217 (i := 253) (by decide +kernel) (v := .int (100000 : Int32)) (by decide +kernel) ?_
        refine Ev.seg D_217 [(.isub, 1), (.bipush 100, 2)] (by decide +kernel) (j := 0) (pc' := 136) (lv' := [(7, .int x7), (0, .ref 294), (1, .int v1), (2, .int v2), (3, .int q.1), (4, .int q.2.1), (5, .int q.2.2.1), (6, .int x5)]) (st' := [.int (100 : Int32), .int (x5 - (100000 : Int32))]) rfl ?_
        by_cases c10 : (100 : Int32) = 0
        · rw [if_pos c10] at g8; cases g8
        rw [if_neg c10] at g8
        refine Ev.idiv D_217 (by decide +kernel) c10 ?_
        cases g8
        exact Ev.sub2 j8 (subL_cons rfl (subL_cons rfl (subL_cons rfl (subL_cons rfl (subL_cons rfl (subL_cons rfl (subL_cons rfl (subL_cons rfl subL_nil))))))))
      · have c8 : ¬ x7 = 0 := of_decide_eq_false c8
        rw [if_neg c8] at g8
        refine Ev.seg D_217 [(.iload 6, 2), (.sipush 1000, 3)] (by decide +kernel) (j := 0) (pc' := 125) (lv' := [(7, .int x7), (0, .ref 294), (1, .int v1), (2, .int v2), (3, .int q.1), (4, .int q.2.1), (5, .int q.2.2.1), (6, .int x5)]) (st' := [.int (1000 : Int32), .int x5]) rfl ?_
        by_cases c11 : (1000 : Int32) = 0
        · rw [if_pos c11] at g8; cases g8
        rw [if_neg c11] at g8
        refine Ev.idiv D_217 (by decide +kernel) c11 ?_
        refine Ev.seg D_217 [(.goto 11, 3)] (by decide +kernel) (j := 0) (pc' := 137) (lv' := [(7, .int x7), (0, .ref 294), (1, .int v1), (2, .int v2), (3, .int q.1), (4, .int q.2.1), (5, .int q.2.2.1), (6, .int x5)]) (st' := [.int (x5 / (1000 : Int32))]) rfl ?_
        cases g8
        exact Ev.sub2 j8 (subL_cons rfl (subL_cons rfl (subL_cons rfl (subL_cons rfl (subL_cons rfl (subL_cons rfl (subL_cons rfl (subL_cons rfl subL_nil))))))))
    clear h
    refine Ev.icmp D_217 (c := .ge) (off := 7) (by decide +kernel) (t := 112) rfl (fun c7 => ?_) (fun c7 => ?_)
    · have c7 : (100000 : Int32) ≤ x5 := of_decide_eq_true c7
      rw [if_pos c7] at g7
      refine Ev.seg D_217 [(.iconst 0, 1)] (by decide +kernel) (j := 0) (pc' := 113) (lv' := [(6, .int x5), (0, .ref 294), (1, .int v1), (2, .int v2), (3, .int q.1), (4, .int q.2.1), (5, .int q.2.2.1)]) (st' := [.int (0 : Int32)]) rfl ?_
      cases g7
      exact Ev.sub2 j7 (subL_cons rfl (subL_cons rfl (subL_cons rfl (subL_cons rfl (subL_cons rfl (subL_cons rfl (subL_cons rfl subL_nil)))))))
    · have c7 : ¬ (100000 : Int32) ≤ x5 := of_decide_eq_false c7
      rw [if_neg c7] at g7
      refine Ev.seg D_217 [(.iconst 1, 1), (.goto 4, 3)] (by decide +kernel) (j := 0) (pc' := 113) (lv' := [(6, .int x5), (0, .ref 294), (1, .int v1), (2, .int v2), (3, .int q.1), (4, .int q.2.1), (5, .int q.2.2.1)]) (st' := [.int (1 : Int32)]) rfl ?_
      cases g7
      exact Ev.sub2 j7 (subL_cons rfl (subL_cons rfl (subL_cons rfl (subL_cons rfl (subL_cons rfl (subL_cons rfl (subL_cons rfl subL_nil)))))))
theorem gM_goLooks_h77_w {L d : Nat} (hd : 3 ≤ d + 1) {v1 : Int32} {v2 : Int32} : ∀ (n : Nat) (q : Int32 × Int32 × Int32 × mT) (r : Int32 × Int32 × mT), wh n (gM_goLooks_h77 v1 v2) q = some r → ∀ o, (fun r => Ev (d + 1) 217 216 [(0, .ref 294), (1, .int v1), (2, .int v2), (3, .int r.1), (4, .int r.2.1)] [] (uS L r.2.2) o) r → Ev (d + 1) 217 77 [(0, .ref 294), (1, .int v1), (2, .int v2), (3, .int q.1), (4, .int q.2.1), (5, .int q.2.2.1)] [] (uS L q.2.2.2) o :=
  fun n q r h o hc => wh_ev (E := fun (q : Int32 × Int32 × Int32 × mT) o => Ev (d + 1) 217 77 [(0, .ref 294), (1, .int v1), (2, .int v2), (3, .int q.1), (4, .int q.2.1), (5, .int q.2.2.1)] [] (uS L q.2.2.2) o) (C := fun (r : Int32 × Int32 × mT) o => (fun r => Ev (d + 1) 217 216 [(0, .ref 294), (1, .int v1), (2, .int v2), (3, .int r.1), (4, .int r.2.1)] [] (uS L r.2.2) o) r) (gM_goLooks_h77_ok hd  ) n q r h o hc
def gM_goLooks_h2 (v1 : Int32) (q : Int32 × mT) : Option ((Int32 × mT) ⊕ (mT)) :=
  (rdI (q.2.1 295) 79 (5 : Int32)).bind fun x2 =>
  if x2 ≤ q.1 then
    some (.inr q.2)
  else
    (
      if v1 = 0 then
        (rdI (q.2.1 303) 5 q.1).bind fun x8 =>
        some (x8)
      else
        (gM_onOf q.1 (v1 - (1 : Int32)) q.2).bind fun p5 =>
        (gM_turned q.1 v1 p5 q.2).bind fun p6 =>
        some (p6) : Option (Int32)).bind fun x4 =>
    (gM_bit (q.2.1 294 20) q.1 q.2).bind fun p10 =>
    (
      if p10 = (1 : Int32) then
        some ((1 : Int32))
      else
        (gM_of q.1 (0 : Int32) q.2).bind fun p12 =>
        (rdI (q.2.1 304) 21 v1).bind fun x14 =>
        if x14 < p12 then
          some ((0 : Int32))
        else
          some ((1 : Int32)) : Option (Int32)).bind fun x11 =>
    (wh FU (gM_goLooks_h77 v1 q.1) (x4, x11, (0 : Int32), q.2)).bind fun x24 =>
    (wrI x24.2.2 306 105 (((5 : Int32) * v1) + q.1) x24.1).bind fun s26 =>
    (rdI (s26.1 308) 21 v1).bind fun x28 =>
    (
      if x24.2.1 = 0 then
        some ((1 : Int32) <<< (q.1 &&& 31))
      else
        some ((0 : Int32)) : Option (Int32)).bind fun x29 =>
    (wrI s26 308 21 v1 (x28 ||| x29)).bind fun s30 =>
    some (.inl (q.1 + (1 : Int32), s30))
set_option maxRecDepth 8000 in
theorem gM_goLooks_h2_ok {L d : Nat} (hd : 3 ≤ d + 1) {v1 : Int32} : ∀ (q : Int32 × mT) (x : (Int32 × mT) ⊕ (mT)), gM_goLooks_h2 v1 q = some x → ∀ o, sK (fun q => Ev (d + 1) 217 2 [(0, .ref 294), (1, .int v1), (2, .int q.1)] [] (uS L q.2) o) (fun r => Ev (d + 1) 217 254 [] [] (uS L r) o) x → Ev (d + 1) 217 2 [(0, .ref 294), (1, .int v1), (2, .int q.1)] [] (uS L q.2) o := by
  intro q x h o ho
  unfold gM_goLooks_h2 at h
  refine Ev.seg D_217 [(.iload_n 2, 1), (.aload_n 0, 1)] (by decide +kernel) (j := 0) (pc' := 4) (lv' := [(0, .ref 294), (1, .int v1), (2, .int q.1)]) (st' := [.ref 294, .int q.1]) rfl ?_
  refine Ev.getR D_217 (by decide +kernel) F_10_9 T_10_1 (x := 295) (S_oR k_294 (by decide +kernel)) ?_
  refine Ev.seg D_217 [(.iconst 5, 1)] (by decide +kernel) (j := 0) (pc' := 8) (lv' := [(0, .ref 294), (1, .int v1), (2, .int q.1)]) (st' := [.int (5 : Int32), .ref 295, .int q.1]) rfl ?_
  obtain ⟨x2, e2, h⟩ := bd h
  refine Ev.iald D_217 (by decide +kernel) (S_aI k_295 e2) ?_
  refine Ev.icmp D_217 (c := .ge) (off := 245) (by decide +kernel) (t := 254) rfl (fun c3 => ?_) (fun c3 => ?_)
  · have c3 : x2 ≤ q.1 := of_decide_eq_true c3
    rw [if_pos c3] at h
    cases h
    exact Ev.sub (lv' := []) subL_nil ho
  · have c3 : ¬ x2 ≤ q.1 := of_decide_eq_false c3
    rw [if_neg c3] at h
    refine Ev.seg D_217 [(.iload_n 1, 1)] (by decide +kernel) (j := 0) (pc' := 13) (lv' := [(0, .ref 294), (1, .int v1), (2, .int q.1)]) (st' := [.int v1]) rfl ?_
    obtain ⟨x4, g4, h⟩ := bd h
    have j4 : Ev (d + 1) 217 39 [(0, .ref 294), (1, .int v1), (2, .int q.1)] [.int x4] (uS L q.2) o := by
      clear g4
      refine Ev.seg D_217 [(.istore_n 3, 1), (.aload_n 0, 1)] (by decide +kernel) (j := 0) (pc' := 41) (lv' := [(3, .int x4), (0, .ref 294), (1, .int v1), (2, .int q.1)]) (st' := [.ref 294]) rfl ?_
      refine Ev.getI D_217 (by decide +kernel) F_10_231 (Or.inl T_10_20) (S_oI k_294) ?_
      refine Ev.seg D_217 [(.iload_n 2, 1)] (by decide +kernel) (j := 0) (pc' := 45) (lv' := [(3, .int x4), (0, .ref 294), (1, .int v1), (2, .int q.1)]) (st' := [.int q.1, .int (q.2.1 294 20)]) rfl ?_
      obtain ⟨p10, e10, h⟩ := bd h
      refine Ev.calls D_217 E_221 (by decide +kernel) C_10_250 [.int (q.2.1 294 20), .int q.1] (r := []) rfl rfl (Nat.le_of_ble_eq_true rfl) (Nat.le_of_ble_eq_true rfl) (gM_bit_ok (by omega)  e10) ?_
      refine Ev.seg D_217 [(.iconst 1, 1)] (by decide +kernel) (j := 0) (pc' := 49) (lv' := [(3, .int x4), (0, .ref 294), (1, .int v1), (2, .int q.1)]) (st' := [.int (1 : Int32), .int p10]) rfl ?_
      obtain ⟨x11, g11, h⟩ := bd h
      have j11 : Ev (d + 1) 217 72 [(0, .ref 294), (1, .int v1), (2, .int q.1), (3, .int x4)] [.int x11] (uS L q.2) o := by
        clear g11
        refine Ev.seg D_217 [(.istore 4, 2), (.iconst 0, 1), (.istore 5, 2)] (by decide +kernel) (j := 0) (pc' := 77) (lv' := [(5, .int (0 : Int32)), (4, .int x11), (0, .ref 294), (1, .int v1), (2, .int q.1), (3, .int x4)]) (st' := []) rfl ?_
        obtain ⟨x24, w24, h⟩ := bd h
        have j24 : Ev (d + 1) 217 216 [(0, .ref 294), (1, .int v1), (2, .int q.1), (3, .int x24.1), (4, .int x24.2.1)] [] (uS L x24.2.2) o := by
          clear w24
          refine Ev.seg D_217 [(.aload_n 0, 1)] (by decide +kernel) (j := 0) (pc' := 217) (lv' := [(0, .ref 294), (1, .int v1), (2, .int q.1), (3, .int x24.1), (4, .int x24.2.1)]) (st' := [.ref 294]) rfl ?_
          refine Ev.getR D_217 (by decide +kernel) F_10_49 T_10_22 (x := 306) (S_oR k_294 (by decide +kernel)) ?_
          refine Ev.seg D_217 [(.iconst 5, 1), (.iload_n 1, 1), (.imul, 1), (.iload_n 2, 1), (.iadd, 1), (.iload_n 3, 1)] (by decide +kernel) (j := 0) (pc' := 226) (lv' := [(0, .ref 294), (1, .int v1), (2, .int q.1), (3, .int x24.1), (4, .int x24.2.1)]) (st' := [.int x24.1, .int (((5 : Int32) * v1) + q.1), .ref 306]) rfl ?_
          obtain ⟨s26, e26, h⟩ := bd h
          refine Ev.iast D_217 (by decide +kernel) (S_sI k_306 e26) ?_
          refine Ev.seg D_217 [(.aload_n 0, 1)] (by decide +kernel) (j := 0) (pc' := 228) (lv' := [(0, .ref 294), (1, .int v1), (2, .int q.1), (3, .int x24.1), (4, .int x24.2.1)]) (st' := [.ref 294]) rfl ?_
          refine Ev.getR D_217 (by decide +kernel) F_10_55 T_10_24 (x := 308) (S_oR k_294 (by decide +kernel)) ?_
          refine Ev.seg D_217 [(.iload_n 1, 1), (.dup2, 1)] (by decide +kernel) (j := 0) (pc' := 233) (lv' := [(0, .ref 294), (1, .int v1), (2, .int q.1), (3, .int x24.1), (4, .int x24.2.1)]) (st' := [.int v1, .ref 308, .int v1, .ref 308]) rfl ?_
          obtain ⟨x28, e28, h⟩ := bd h
          refine Ev.iald D_217 (by decide +kernel) (S_aI k_308 e28) ?_
          refine Ev.seg D_217 [(.iload 4, 2)] (by decide +kernel) (j := 0) (pc' := 236) (lv' := [(0, .ref 294), (1, .int v1), (2, .int q.1), (3, .int x24.1), (4, .int x24.2.1)]) (st' := [.int x24.2.1, .int x28, .int v1, .ref 308]) rfl ?_
          obtain ⟨x29, g29, h⟩ := bd h
          have j29 : Ev (d + 1) 217 246 [(0, .ref 294), (1, .int v1), (2, .int q.1)] [.int x29, .int x28, .int v1, .ref 308] (uS L s26) o := by
            clear g29
            refine Ev.seg D_217 [(.ior, 1)] (by decide +kernel) (j := 0) (pc' := 247) (lv' := [(0, .ref 294), (1, .int v1), (2, .int q.1)]) (st' := [.int (x28 ||| x29), .int v1, .ref 308]) rfl ?_
            obtain ⟨s30, e30, h⟩ := bd h
            refine Ev.iast D_217 (by decide +kernel) (S_sI k_308 e30) ?_
            refine Ev.seg D_217 [(.iinc 2 1, 3), (.goto (-249), 3)] (by decide +kernel) (j := 0) (pc' := 2) (lv' := [(2, .int (q.1 + (1 : Int32))), (0, .ref 294), (1, .int v1)]) (st' := []) rfl ?_
            cases h
            exact Ev.sub (lv' := [(0, .ref 294), (1, .int v1), (2, .int (q.1 + (1 : Int32)))]) (subL_cons rfl (subL_cons rfl (subL_cons rfl subL_nil))) ho
          clear h
          refine Ev.if_ D_217 (c := .eq) (off := 7) (by decide +kernel) (t := 243) rfl (fun c29 => ?_) (fun c29 => ?_)
          · have c29 : x24.2.1 = 0 := of_decide_eq_true c29
            rw [if_pos c29] at g29
            refine Ev.seg D_217 [(.iconst 1, 1), (.iload_n 2, 1), (.ishl, 1)] (by decide +kernel) (j := 0) (pc' := 246) (lv' := [(0, .ref 294), (1, .int v1), (2, .int q.1), (3, .int x24.1), (4, .int x24.2.1)]) (st' := [.int ((1 : Int32) <<< (q.1 &&& 31)), .int x28, .int v1, .ref 308]) rfl ?_
            cases g29
            exact Ev.sub2 j29 (subL_cons rfl (subL_cons rfl (subL_cons rfl subL_nil)))
          · have c29 : ¬ x24.2.1 = 0 := of_decide_eq_false c29
            rw [if_neg c29] at g29
            refine Ev.seg D_217 [(.iconst 0, 1), (.goto 6, 3)] (by decide +kernel) (j := 0) (pc' := 246) (lv' := [(0, .ref 294), (1, .int v1), (2, .int q.1), (3, .int x24.1), (4, .int x24.2.1)]) (st' := [.int (0 : Int32), .int x28, .int v1, .ref 308]) rfl ?_
            cases g29
            exact Ev.sub2 j29 (subL_cons rfl (subL_cons rfl (subL_cons rfl subL_nil)))
        exact Ev.sub (lv' := [(0, .ref 294), (1, .int v1), (2, .int q.1), (3, .int x4), (4, .int x11), (5, .int (0 : Int32))]) (subL_cons rfl (subL_cons rfl (subL_cons rfl (subL_cons rfl (subL_cons rfl (subL_cons rfl subL_nil)))))) (gM_goLooks_h77_w hd   _ _ _ w24 _ j24)
      clear h
      refine Ev.icmp D_217 (c := .eq) (off := 18) (by decide +kernel) (t := 67) rfl (fun c11 => ?_) (fun c11 => ?_)
      · have c11 : p10 = (1 : Int32) := of_decide_eq_true c11
        rw [if_pos c11] at g11
        refine Ev.seg D_217 [(.iconst 1, 1), (.goto 4, 3)] (by decide +kernel) (j := 0) (pc' := 72) (lv' := [(3, .int x4), (0, .ref 294), (1, .int v1), (2, .int q.1)]) (st' := [.int (1 : Int32)]) rfl ?_
        cases g11
        exact Ev.sub2 j11 (subL_cons rfl (subL_cons rfl (subL_cons rfl (subL_cons rfl subL_nil))))
      · have c11 : ¬ p10 = (1 : Int32) := of_decide_eq_false c11
        rw [if_neg c11] at g11
        refine Ev.seg D_217 [(.aload_n 0, 1), (.iload_n 2, 1), (.iconst 0, 1)] (by decide +kernel) (j := 0) (pc' := 55) (lv' := [(3, .int x4), (0, .ref 294), (1, .int v1), (2, .int q.1)]) (st' := [.int (0 : Int32), .int q.1, .ref 294]) rfl ?_
        obtain ⟨p12, e12, g11⟩ := bd g11
        refine Ev.callv D_217 E_207 (by decide +kernel) C_10_102 294 [.int q.1, .int (0 : Int32)] (r := []) rfl (gd_o k_294 (by decide)) rfl (Nat.le_of_ble_eq_true rfl) (Nat.le_of_ble_eq_true rfl) (gM_of_ok (by omega)  e12) ?_
        refine Ev.seg D_217 [(.aload_n 0, 1)] (by decide +kernel) (j := 0) (pc' := 59) (lv' := [(3, .int x4), (0, .ref 294), (1, .int v1), (2, .int q.1)]) (st' := [.ref 294, .int p12]) rfl ?_
        refine Ev.getR D_217 (by decide +kernel) F_10_43 T_10_18 (x := 304) (S_oR k_294 (by decide +kernel)) ?_
        refine Ev.seg D_217 [(.iload_n 1, 1)] (by decide +kernel) (j := 0) (pc' := 63) (lv' := [(3, .int x4), (0, .ref 294), (1, .int v1), (2, .int q.1)]) (st' := [.int v1, .ref 304, .int p12]) rfl ?_
        obtain ⟨x14, e14, g11⟩ := bd g11
        refine Ev.iald D_217 (by decide +kernel) (S_aI k_304 e14) ?_
        refine Ev.icmp D_217 (c := .gt) (off := 7) (by decide +kernel) (t := 71) rfl (fun c15 => ?_) (fun c15 => ?_)
        · have c15 : x14 < p12 := of_decide_eq_true c15
          rw [if_pos c15] at g11
          refine Ev.seg D_217 [(.iconst 0, 1)] (by decide +kernel) (j := 0) (pc' := 72) (lv' := [(3, .int x4), (0, .ref 294), (1, .int v1), (2, .int q.1)]) (st' := [.int (0 : Int32)]) rfl ?_
          cases g11
          exact Ev.sub2 j11 (subL_cons rfl (subL_cons rfl (subL_cons rfl (subL_cons rfl subL_nil))))
        · have c15 : ¬ x14 < p12 := of_decide_eq_false c15
          rw [if_neg c15] at g11
          refine Ev.seg D_217 [(.iconst 1, 1), (.goto 4, 3)] (by decide +kernel) (j := 0) (pc' := 72) (lv' := [(3, .int x4), (0, .ref 294), (1, .int v1), (2, .int q.1)]) (st' := [.int (1 : Int32)]) rfl ?_
          cases g11
          exact Ev.sub2 j11 (subL_cons rfl (subL_cons rfl (subL_cons rfl (subL_cons rfl subL_nil))))
    clear h
    refine Ev.if_ D_217 (c := .ne) (off := 12) (by decide +kernel) (t := 25) rfl (fun c4 => ?_) (fun c4 => ?_)
    · have c4 : ¬ v1 = 0 := of_decide_eq_true c4
      rw [if_neg c4] at g4
      refine Ev.seg D_217 [(.aload_n 0, 1), (.iload_n 2, 1), (.iload_n 1, 1), (.aload_n 0, 1), (.iload_n 2, 1), (.iload_n 1, 1), (.iconst 1, 1), (.isub, 1)] (by decide +kernel) (j := 0) (pc' := 33) (lv' := [(0, .ref 294), (1, .int v1), (2, .int q.1)]) (st' := [.int (v1 - (1 : Int32)), .int q.1, .ref 294, .int v1, .int q.1, .ref 294]) rfl ?_
      obtain ⟨p5, e5, g4⟩ := bd g4
      refine Ev.callv D_217 E_218 (by decide +kernel) C_10_243 294 [.int q.1, .int (v1 - (1 : Int32))] (r := [.int v1, .int q.1, .ref 294]) rfl (gd_o k_294 (by decide)) rfl (Nat.le_of_ble_eq_true rfl) (Nat.le_of_ble_eq_true rfl) (gM_onOf_ok (by omega)  e5) ?_
      obtain ⟨p6, e6, g4⟩ := bd g4
      refine Ev.callv D_217 E_219 (by decide +kernel) C_10_246 294 [.int q.1, .int v1, .int p5] (r := []) rfl (gd_o k_294 (by decide)) rfl (Nat.le_of_ble_eq_true rfl) (Nat.le_of_ble_eq_true rfl) (gM_turned_ok (by omega)  e6) ?_
      cases g4
      exact Ev.sub2 j4 (subL_cons rfl (subL_cons rfl (subL_cons rfl subL_nil)))
    · have c4 : v1 = 0 := Decidable.of_not_not (of_decide_eq_false c4)
      rw [if_pos c4] at g4
      refine Ev.seg D_217 [(.aload_n 0, 1)] (by decide +kernel) (j := 0) (pc' := 17) (lv' := [(0, .ref 294), (1, .int v1), (2, .int q.1)]) (st' := [.ref 294]) rfl ?_
      refine Ev.getR D_217 (by decide +kernel) F_10_40 T_10_17 (x := 303) (S_oR k_294 (by decide +kernel)) ?_
      refine Ev.seg D_217 [(.iload_n 2, 1)] (by decide +kernel) (j := 0) (pc' := 21) (lv' := [(0, .ref 294), (1, .int v1), (2, .int q.1)]) (st' := [.int q.1, .ref 303]) rfl ?_
      obtain ⟨x8, e8, g4⟩ := bd g4
      refine Ev.iald D_217 (by decide +kernel) (S_aI k_303 e8) ?_
      refine Ev.seg D_217 [(.goto 17, 3)] (by decide +kernel) (j := 0) (pc' := 39) (lv' := [(0, .ref 294), (1, .int v1), (2, .int q.1)]) (st' := [.int x8]) rfl ?_
      cases g4
      exact Ev.sub2 j4 (subL_cons rfl (subL_cons rfl (subL_cons rfl subL_nil)))
theorem gM_goLooks_h2_w {L d : Nat} (hd : 3 ≤ d + 1) {v1 : Int32} : ∀ (n : Nat) (q : Int32 × mT) (r : mT), wh n (gM_goLooks_h2 v1) q = some r → ∀ o, (fun r => Ev (d + 1) 217 254 [] [] (uS L r) o) r → Ev (d + 1) 217 2 [(0, .ref 294), (1, .int v1), (2, .int q.1)] [] (uS L q.2) o :=
  fun n q r h o hc => wh_ev (E := fun (q : Int32 × mT) o => Ev (d + 1) 217 2 [(0, .ref 294), (1, .int v1), (2, .int q.1)] [] (uS L q.2) o) (C := fun (r : mT) o => (fun r => Ev (d + 1) 217 254 [] [] (uS L r) o) r) (gM_goLooks_h2_ok hd  ) n q r h o hc
def gM_goLooks (v1 : Int32) (s : mT) : Option (mT) :=
  (wh FU (gM_goLooks_h2 v1) ((0 : Int32), s)).bind fun x31 =>
  some (x31)
set_option maxRecDepth 8000 in
theorem gM_goLooks_ok {L d : Nat} (hd : 3 ≤ d) {v1 : Int32} {s : mT} {p : mT} (h : gM_goLooks v1 s = some p) : Ev d 217 0 [(0, .ref 294), (1, .int v1)] [] (uS L s) (none, uS L p) := by
  obtain ⟨d, rfl⟩ : ∃ e, d = e + 1 := ⟨d - 1, by omega⟩
  obtain ⟨o, ho⟩ : ∃ o : Option Value × mS, o = (none, uS L p) := ⟨_, rfl⟩
  rw [← ho]
  unfold gM_goLooks at h
  refine Ev.seg D_217 [(.iconst 0, 1), (.istore_n 2, 1)] (by decide +kernel) (j := 0) (pc' := 2) (lv' := [(2, .int (0 : Int32)), (0, .ref 294), (1, .int v1)]) (st' := []) rfl ?_
  obtain ⟨x31, w31, h⟩ := bd h
  have j31 : Ev (d + 1) 217 254 [] [] (uS L x31) o := by
    clear w31
    cases h
    obtain rfl : o = _ := ho
    exact Ev.vret D_217 (by decide +kernel)
  exact Ev.sub (lv' := [(0, .ref 294), (1, .int v1), (2, .int (0 : Int32))]) (subL_cons rfl (subL_cons rfl (subL_cons rfl subL_nil))) (gM_goLooks_h2_w hd   _ _ _ w31 _ j31)
/- PennantLawnModel goAll: 215 -/
def gM_goAll_h2  (q : Int32 × mT) : Option ((Int32 × mT) ⊕ (mT)) :=
  (rdI (q.2.1 295) 79 (4 : Int32)).bind fun x2 =>
  if x2 ≤ q.1 then
    some (.inr q.2)
  else
    (rdI (q.2.1 301) 5 q.1).bind fun x6 =>
    (rdI (q.2.1 295) 79 (2 : Int32)).bind fun x8 =>
    (wrI q.2 305 105 q.1 (imin x6 x8)).bind fun s10 =>
    some (.inl (q.1 + (1 : Int32), s10))
set_option maxRecDepth 8000 in
theorem gM_goAll_h2_ok {L d : Nat} (hd : 4 ≤ d + 1)  : ∀ (q : Int32 × mT) (x : (Int32 × mT) ⊕ (mT)), gM_goAll_h2 q = some x → ∀ o, sK (fun q => Ev (d + 1) 215 2 [(0, .ref 294), (1, .int q.1)] [] (uS L q.2) o) (fun r => Ev (d + 1) 215 39 [(0, .ref 294)] [] (uS L r) o) x → Ev (d + 1) 215 2 [(0, .ref 294), (1, .int q.1)] [] (uS L q.2) o := by
  intro q x h o ho
  unfold gM_goAll_h2 at h
  refine Ev.seg D_215 [(.iload_n 1, 1), (.aload_n 0, 1)] (by decide +kernel) (j := 0) (pc' := 4) (lv' := [(0, .ref 294), (1, .int q.1)]) (st' := [.ref 294, .int q.1]) rfl ?_
  refine Ev.getR D_215 (by decide +kernel) F_10_9 T_10_1 (x := 295) (S_oR k_294 (by decide +kernel)) ?_
  refine Ev.seg D_215 [(.iconst 4, 1)] (by decide +kernel) (j := 0) (pc' := 8) (lv' := [(0, .ref 294), (1, .int q.1)]) (st' := [.int (4 : Int32), .ref 295, .int q.1]) rfl ?_
  obtain ⟨x2, e2, h⟩ := bd h
  refine Ev.iald D_215 (by decide +kernel) (S_aI k_295 e2) ?_
  refine Ev.icmp D_215 (c := .ge) (off := 30) (by decide +kernel) (t := 39) rfl (fun c3 => ?_) (fun c3 => ?_)
  · have c3 : x2 ≤ q.1 := of_decide_eq_true c3
    rw [if_pos c3] at h
    cases h
    exact Ev.sub (lv' := [(0, .ref 294)]) (subL_cons rfl subL_nil) ho
  · have c3 : ¬ x2 ≤ q.1 := of_decide_eq_false c3
    rw [if_neg c3] at h
    refine Ev.seg D_215 [(.aload_n 0, 1)] (by decide +kernel) (j := 0) (pc' := 13) (lv' := [(0, .ref 294), (1, .int q.1)]) (st' := [.ref 294]) rfl ?_
    refine Ev.getR D_215 (by decide +kernel) F_10_46 T_10_21 (x := 305) (S_oR k_294 (by decide +kernel)) ?_
    refine Ev.seg D_215 [(.iload_n 1, 1), (.aload_n 0, 1)] (by decide +kernel) (j := 0) (pc' := 18) (lv' := [(0, .ref 294), (1, .int q.1)]) (st' := [.ref 294, .int q.1, .ref 305]) rfl ?_
    refine Ev.getR D_215 (by decide +kernel) F_10_34 T_10_15 (x := 301) (S_oR k_294 (by decide +kernel)) ?_
    refine Ev.seg D_215 [(.iload_n 1, 1)] (by decide +kernel) (j := 0) (pc' := 22) (lv' := [(0, .ref 294), (1, .int q.1)]) (st' := [.int q.1, .ref 301, .int q.1, .ref 305]) rfl ?_
    obtain ⟨x6, e6, h⟩ := bd h
    refine Ev.iald D_215 (by decide +kernel) (S_aI k_301 e6) ?_
    refine Ev.seg D_215 [(.aload_n 0, 1)] (by decide +kernel) (j := 0) (pc' := 24) (lv' := [(0, .ref 294), (1, .int q.1)]) (st' := [.ref 294, .int x6, .int q.1, .ref 305]) rfl ?_
    refine Ev.getR D_215 (by decide +kernel) F_10_9 T_10_1 (x := 295) (S_oR k_294 (by decide +kernel)) ?_
    refine Ev.seg D_215 [(.iconst 2, 1)] (by decide +kernel) (j := 0) (pc' := 28) (lv' := [(0, .ref 294), (1, .int q.1)]) (st' := [.int (2 : Int32), .ref 295, .int x6, .int q.1, .ref 305]) rfl ?_
    obtain ⟨x8, e8, h⟩ := bd h
    refine Ev.iald D_215 (by decide +kernel) (S_aI k_295 e8) ?_
    refine Ev.min D_215 (by decide +kernel) (Nat.succ_pos _) C_10_137 (Nat.le_of_ble_eq_true rfl) ?_
    obtain ⟨s10, e10, h⟩ := bd h
    refine Ev.iast D_215 (by decide +kernel) (S_sI k_305 e10) ?_
    refine Ev.seg D_215 [(.iinc 1 1, 3), (.goto (-34), 3)] (by decide +kernel) (j := 0) (pc' := 2) (lv' := [(1, .int (q.1 + (1 : Int32))), (0, .ref 294)]) (st' := []) rfl ?_
    cases h
    exact Ev.sub (lv' := [(0, .ref 294), (1, .int (q.1 + (1 : Int32)))]) (subL_cons rfl (subL_cons rfl subL_nil)) ho
theorem gM_goAll_h2_w {L d : Nat} (hd : 4 ≤ d + 1)  : ∀ (n : Nat) (q : Int32 × mT) (r : mT), wh n (gM_goAll_h2) q = some r → ∀ o, (fun r => Ev (d + 1) 215 39 [(0, .ref 294)] [] (uS L r) o) r → Ev (d + 1) 215 2 [(0, .ref 294), (1, .int q.1)] [] (uS L q.2) o :=
  fun n q r h o hc => wh_ev (E := fun (q : Int32 × mT) o => Ev (d + 1) 215 2 [(0, .ref 294), (1, .int q.1)] [] (uS L q.2) o) (C := fun (r : mT) o => (fun r => Ev (d + 1) 215 39 [(0, .ref 294)] [] (uS L r) o) r) (gM_goAll_h2_ok hd  ) n q r h o hc
def gM_goAll_h78 (v1 : Int32) (v2 : Int32) (s : mT) (q : Int32 × Int32) : Option ((Int32 × Int32) ⊕ (Int32)) :=
  (rdI (s.1 295) 79 (5 : Int32)).bind fun x2 =>
  if x2 ≤ q.2 then
    some (.inr q.1)
  else
    (rdI (s.1 308) 21 v1).bind fun x5 =>
    (gM_bit x5 q.2 s).bind fun p6 =>
    (
      if p6 = (1 : Int32) then
        (gM_onOf q.2 v1 s).bind fun p8 =>
        if p8 = v2 then
          (gM_of q.2 (0 : Int32) s).bind fun p10 =>
          some (p10)
        else
          some ((0 : Int32))
      else
        some ((0 : Int32)) : Option (Int32)).bind fun x7 =>
    some (.inl (q.1 + x7, q.2 + (1 : Int32)))
set_option maxRecDepth 8000 in
theorem gM_goAll_h78_ok {L d : Nat} (hd : 4 ≤ d + 1) {v1 : Int32} {v2 : Int32} {s : mT} : ∀ (q : Int32 × Int32) (x : (Int32 × Int32) ⊕ (Int32)), gM_goAll_h78 v1 v2 s q = some x → ∀ o, sK (fun q => Ev (d + 1) 215 78 [(0, .ref 294), (1, .int v1), (2, .int v2), (3, .int q.1), (4, .int q.2)] [] (uS L s) o) (fun r => Ev (d + 1) 215 135 [(0, .ref 294), (1, .int v1), (2, .int v2), (3, .int r)] [] (uS L s) o) x → Ev (d + 1) 215 78 [(0, .ref 294), (1, .int v1), (2, .int v2), (3, .int q.1), (4, .int q.2)] [] (uS L s) o := by
  intro q x h o ho
  unfold gM_goAll_h78 at h
  refine Ev.seg D_215 [(.iload 4, 2), (.aload_n 0, 1)] (by decide +kernel) (j := 0) (pc' := 81) (lv' := [(0, .ref 294), (1, .int v1), (2, .int v2), (3, .int q.1), (4, .int q.2)]) (st' := [.ref 294, .int q.2]) rfl ?_
  refine Ev.getR D_215 (by decide +kernel) F_10_9 T_10_1 (x := 295) (S_oR k_294 (by decide +kernel)) ?_
  refine Ev.seg D_215 [(.iconst 5, 1)] (by decide +kernel) (j := 0) (pc' := 85) (lv' := [(0, .ref 294), (1, .int v1), (2, .int v2), (3, .int q.1), (4, .int q.2)]) (st' := [.int (5 : Int32), .ref 295, .int q.2]) rfl ?_
  obtain ⟨x2, e2, h⟩ := bd h
  refine Ev.iald D_215 (by decide +kernel) (S_aI k_295 e2) ?_
  refine Ev.icmp D_215 (c := .ge) (off := 49) (by decide +kernel) (t := 135) rfl (fun c3 => ?_) (fun c3 => ?_)
  · have c3 : x2 ≤ q.2 := of_decide_eq_true c3
    rw [if_pos c3] at h
    cases h
    exact Ev.sub (lv' := [(0, .ref 294), (1, .int v1), (2, .int v2), (3, .int q.1)]) (subL_cons rfl (subL_cons rfl (subL_cons rfl (subL_cons rfl subL_nil)))) ho
  · have c3 : ¬ x2 ≤ q.2 := of_decide_eq_false c3
    rw [if_neg c3] at h
    refine Ev.seg D_215 [(.iload_n 3, 1), (.aload_n 0, 1)] (by decide +kernel) (j := 0) (pc' := 91) (lv' := [(0, .ref 294), (1, .int v1), (2, .int v2), (3, .int q.1), (4, .int q.2)]) (st' := [.ref 294, .int q.1]) rfl ?_
    refine Ev.getR D_215 (by decide +kernel) F_10_55 T_10_24 (x := 308) (S_oR k_294 (by decide +kernel)) ?_
    refine Ev.seg D_215 [(.iload_n 1, 1)] (by decide +kernel) (j := 0) (pc' := 95) (lv' := [(0, .ref 294), (1, .int v1), (2, .int v2), (3, .int q.1), (4, .int q.2)]) (st' := [.int v1, .ref 308, .int q.1]) rfl ?_
    obtain ⟨x5, e5, h⟩ := bd h
    refine Ev.iald D_215 (by decide +kernel) (S_aI k_308 e5) ?_
    refine Ev.seg D_215 [(.iload 4, 2)] (by decide +kernel) (j := 0) (pc' := 98) (lv' := [(0, .ref 294), (1, .int v1), (2, .int v2), (3, .int q.1), (4, .int q.2)]) (st' := [.int q.2, .int x5, .int q.1]) rfl ?_
    obtain ⟨p6, e6, h⟩ := bd h
    refine Ev.calls D_215 E_221 (by decide +kernel) C_10_250 [.int x5, .int q.2] (r := [.int q.1]) rfl rfl (Nat.le_of_ble_eq_true rfl) (Nat.le_of_ble_eq_true rfl) (gM_bit_ok (by omega)  e6) ?_
    refine Ev.seg D_215 [(.iconst 1, 1)] (by decide +kernel) (j := 0) (pc' := 102) (lv' := [(0, .ref 294), (1, .int v1), (2, .int v2), (3, .int q.1), (4, .int q.2)]) (st' := [.int (1 : Int32), .int p6, .int q.1]) rfl ?_
    obtain ⟨x7, g7, h⟩ := bd h
    have j7 : Ev (d + 1) 215 127 [(0, .ref 294), (1, .int v1), (2, .int v2), (4, .int q.2)] [.int x7, .int q.1] (uS L s) o := by
      clear g7
      refine Ev.seg D_215 [(.iadd, 1), (.istore_n 3, 1), (.iinc 4 1, 3), (.goto (-54), 3)] (by decide +kernel) (j := 0) (pc' := 78) (lv' := [(4, .int (q.2 + (1 : Int32))), (3, .int (q.1 + x7)), (0, .ref 294), (1, .int v1), (2, .int v2)]) (st' := []) rfl ?_
      cases h
      exact Ev.sub (lv' := [(0, .ref 294), (1, .int v1), (2, .int v2), (3, .int (q.1 + x7)), (4, .int (q.2 + (1 : Int32)))]) (subL_cons rfl (subL_cons rfl (subL_cons rfl (subL_cons rfl (subL_cons rfl subL_nil))))) ho
    clear h
    refine Ev.icmp D_215 (c := .ne) (off := 24) (by decide +kernel) (t := 126) rfl (fun c7 => ?_) (fun c7 => ?_)
    · have c7 : ¬ p6 = (1 : Int32) := of_decide_eq_true c7
      rw [if_neg c7] at g7
      refine Ev.seg D_215 [(.iconst 0, 1)] (by decide +kernel) (j := 0) (pc' := 127) (lv' := [(0, .ref 294), (1, .int v1), (2, .int v2), (3, .int q.1), (4, .int q.2)]) (st' := [.int (0 : Int32), .int q.1]) rfl ?_
      cases g7
      exact Ev.sub2 j7 (subL_cons rfl (subL_cons rfl (subL_cons rfl (subL_cons rfl subL_nil))))
    · have c7 : p6 = (1 : Int32) := Decidable.of_not_not (of_decide_eq_false c7)
      rw [if_pos c7] at g7
      refine Ev.seg D_215 [(.aload_n 0, 1), (.iload 4, 2), (.iload_n 1, 1)] (by decide +kernel) (j := 0) (pc' := 109) (lv' := [(0, .ref 294), (1, .int v1), (2, .int v2), (3, .int q.1), (4, .int q.2)]) (st' := [.int v1, .int q.2, .ref 294, .int q.1]) rfl ?_
      obtain ⟨p8, e8, g7⟩ := bd g7
      refine Ev.callv D_215 E_218 (by decide +kernel) C_10_243 294 [.int q.2, .int v1] (r := [.int q.1]) rfl (gd_o k_294 (by decide)) rfl (Nat.le_of_ble_eq_true rfl) (Nat.le_of_ble_eq_true rfl) (gM_onOf_ok (by omega)  e8) ?_
      refine Ev.seg D_215 [(.iload_n 2, 1)] (by decide +kernel) (j := 0) (pc' := 113) (lv' := [(0, .ref 294), (1, .int v1), (2, .int v2), (3, .int q.1), (4, .int q.2)]) (st' := [.int v2, .int p8, .int q.1]) rfl ?_
      refine Ev.icmp D_215 (c := .ne) (off := 13) (by decide +kernel) (t := 126) rfl (fun c9 => ?_) (fun c9 => ?_)
      · have c9 : ¬ p8 = v2 := of_decide_eq_true c9
        rw [if_neg c9] at g7
        refine Ev.seg D_215 [(.iconst 0, 1)] (by decide +kernel) (j := 0) (pc' := 127) (lv' := [(0, .ref 294), (1, .int v1), (2, .int v2), (3, .int q.1), (4, .int q.2)]) (st' := [.int (0 : Int32), .int q.1]) rfl ?_
        cases g7
        exact Ev.sub2 j7 (subL_cons rfl (subL_cons rfl (subL_cons rfl (subL_cons rfl subL_nil))))
      · have c9 : p8 = v2 := Decidable.of_not_not (of_decide_eq_false c9)
        rw [if_pos c9] at g7
        refine Ev.seg D_215 [(.aload_n 0, 1), (.iload 4, 2), (.iconst 0, 1)] (by decide +kernel) (j := 0) (pc' := 120) (lv' := [(0, .ref 294), (1, .int v1), (2, .int v2), (3, .int q.1), (4, .int q.2)]) (st' := [.int (0 : Int32), .int q.2, .ref 294, .int q.1]) rfl ?_
        obtain ⟨p10, e10, g7⟩ := bd g7
        refine Ev.callv D_215 E_207 (by decide +kernel) C_10_102 294 [.int q.2, .int (0 : Int32)] (r := [.int q.1]) rfl (gd_o k_294 (by decide)) rfl (Nat.le_of_ble_eq_true rfl) (Nat.le_of_ble_eq_true rfl) (gM_of_ok (by omega)  e10) ?_
        refine Ev.seg D_215 [(.goto 4, 3)] (by decide +kernel) (j := 0) (pc' := 127) (lv' := [(0, .ref 294), (1, .int v1), (2, .int v2), (3, .int q.1), (4, .int q.2)]) (st' := [.int p10, .int q.1]) rfl ?_
        cases g7
        exact Ev.sub2 j7 (subL_cons rfl (subL_cons rfl (subL_cons rfl (subL_cons rfl subL_nil))))
theorem gM_goAll_h78_w {L d : Nat} (hd : 4 ≤ d + 1) {v1 : Int32} {v2 : Int32} {s : mT} : ∀ (n : Nat) (q : Int32 × Int32) (r : Int32), wh n (gM_goAll_h78 v1 v2 s) q = some r → ∀ o, (fun r => Ev (d + 1) 215 135 [(0, .ref 294), (1, .int v1), (2, .int v2), (3, .int r)] [] (uS L s) o) r → Ev (d + 1) 215 78 [(0, .ref 294), (1, .int v1), (2, .int v2), (3, .int q.1), (4, .int q.2)] [] (uS L s) o :=
  fun n q r h o hc => wh_ev (E := fun (q : Int32 × Int32) o => Ev (d + 1) 215 78 [(0, .ref 294), (1, .int v1), (2, .int v2), (3, .int q.1), (4, .int q.2)] [] (uS L s) o) (C := fun (r : Int32) o => (fun r => Ev (d + 1) 215 135 [(0, .ref 294), (1, .int v1), (2, .int v2), (3, .int r)] [] (uS L s) o) r) (gM_goAll_h78_ok hd  ) n q r h o hc
def gM_goAll_h63 (v1 : Int32) (q : Int32 × mT) : Option ((Int32 × mT) ⊕ (mT)) :=
  (rdI (q.2.1 295) 79 (4 : Int32)).bind fun x2 =>
  if x2 ≤ q.1 then
    some (.inr q.2)
  else
    (wh FU (gM_goAll_h78 v1 q.1 q.2) ((0 : Int32), (0 : Int32))).bind fun x11 =>
    (wrI q.2 307 105 (((5 : Int32) * v1) + q.1) x11).bind fun s13 =>
    (gM_last s13).bind fun p14 =>
    (
      if p14 ≤ v1 then
        some (s13)
      else
        (rdI (s13.1 295) 79 (2 : Int32)).bind fun x18 =>
        (gM_placeOf q.1 v1 s13).bind fun p19 =>
        (rdI (s13.1 302) 5 q.1).bind fun x21 =>
        if x21 = 0 then none else
        (wrI s13 305 105 (((5 : Int32) * (v1 + (1 : Int32))) + q.1) (imin x18 (p19 + (imin (3 : Int32) (x11 / x21))))).bind fun s25 =>
        some (s25) : Option (mT)).bind fun x15 =>
    some (.inl (q.1 + (1 : Int32), x15))
set_option maxRecDepth 8000 in
theorem gM_goAll_h63_ok {L d : Nat} (hd : 4 ≤ d + 1) {v1 : Int32} : ∀ (q : Int32 × mT) (x : (Int32 × mT) ⊕ (mT)), gM_goAll_h63 v1 q = some x → ∀ o, sK (fun q => Ev (d + 1) 215 63 [(0, .ref 294), (1, .int v1), (2, .int q.1)] [] (uS L q.2) o) (fun r => Ev (d + 1) 215 200 [(0, .ref 294), (1, .int v1)] [] (uS L r) o) x → Ev (d + 1) 215 63 [(0, .ref 294), (1, .int v1), (2, .int q.1)] [] (uS L q.2) o := by
  intro q x h o ho
  unfold gM_goAll_h63 at h
  refine Ev.seg D_215 [(.iload_n 2, 1), (.aload_n 0, 1)] (by decide +kernel) (j := 0) (pc' := 65) (lv' := [(0, .ref 294), (1, .int v1), (2, .int q.1)]) (st' := [.ref 294, .int q.1]) rfl ?_
  refine Ev.getR D_215 (by decide +kernel) F_10_9 T_10_1 (x := 295) (S_oR k_294 (by decide +kernel)) ?_
  refine Ev.seg D_215 [(.iconst 4, 1)] (by decide +kernel) (j := 0) (pc' := 69) (lv' := [(0, .ref 294), (1, .int v1), (2, .int q.1)]) (st' := [.int (4 : Int32), .ref 295, .int q.1]) rfl ?_
  obtain ⟨x2, e2, h⟩ := bd h
  refine Ev.iald D_215 (by decide +kernel) (S_aI k_295 e2) ?_
  refine Ev.icmp D_215 (c := .ge) (off := 130) (by decide +kernel) (t := 200) rfl (fun c3 => ?_) (fun c3 => ?_)
  · have c3 : x2 ≤ q.1 := of_decide_eq_true c3
    rw [if_pos c3] at h
    cases h
    exact Ev.sub (lv' := [(0, .ref 294), (1, .int v1)]) (subL_cons rfl (subL_cons rfl subL_nil)) ho
  · have c3 : ¬ x2 ≤ q.1 := of_decide_eq_false c3
    rw [if_neg c3] at h
    refine Ev.seg D_215 [(.iconst 0, 1), (.istore_n 3, 1), (.iconst 0, 1), (.istore 4, 2)] (by decide +kernel) (j := 0) (pc' := 78) (lv' := [(4, .int (0 : Int32)), (3, .int (0 : Int32)), (0, .ref 294), (1, .int v1), (2, .int q.1)]) (st' := []) rfl ?_
    obtain ⟨x11, w11, h⟩ := bd h
    have j11 : Ev (d + 1) 215 135 [(0, .ref 294), (1, .int v1), (2, .int q.1), (3, .int x11)] [] (uS L q.2) o := by
      clear w11
      refine Ev.seg D_215 [(.aload_n 0, 1)] (by decide +kernel) (j := 0) (pc' := 136) (lv' := [(0, .ref 294), (1, .int v1), (2, .int q.1), (3, .int x11)]) (st' := [.ref 294]) rfl ?_
      refine Ev.getR D_215 (by decide +kernel) F_10_52 T_10_23 (x := 307) (S_oR k_294 (by decide +kernel)) ?_
      refine Ev.seg D_215 [(.iconst 5, 1), (.iload_n 1, 1), (.imul, 1), (.iload_n 2, 1), (.iadd, 1), (.iload_n 3, 1)] (by decide +kernel) (j := 0) (pc' := 145) (lv' := [(0, .ref 294), (1, .int v1), (2, .int q.1), (3, .int x11)]) (st' := [.int x11, .int (((5 : Int32) * v1) + q.1), .ref 307]) rfl ?_
      obtain ⟨s13, e13, h⟩ := bd h
      refine Ev.iast D_215 (by decide +kernel) (S_sI k_307 e13) ?_
      refine Ev.seg D_215 [(.iload_n 1, 1), (.aload_n 0, 1)] (by decide +kernel) (j := 0) (pc' := 148) (lv' := [(0, .ref 294), (1, .int v1), (2, .int q.1), (3, .int x11)]) (st' := [.ref 294, .int v1]) rfl ?_
      obtain ⟨p14, e14, h⟩ := bd h
      refine Ev.callv D_215 E_216 (by decide +kernel) C_10_96 294 [] (r := [.int v1]) rfl (gd_o k_294 (by decide)) rfl (Nat.le_of_ble_eq_true rfl) (Nat.le_of_ble_eq_true rfl) (gM_last_ok (by omega)  e14) ?_
      obtain ⟨x15, g15, h⟩ := bd h
      have j15 : Ev (d + 1) 215 194 [(0, .ref 294), (1, .int v1), (2, .int q.1)] [] (uS L x15) o := by
        clear g15
        refine Ev.seg D_215 [(.iinc 2 1, 3), (.goto (-134), 3)] (by decide +kernel) (j := 0) (pc' := 63) (lv' := [(2, .int (q.1 + (1 : Int32))), (0, .ref 294), (1, .int v1)]) (st' := []) rfl ?_
        cases h
        exact Ev.sub (lv' := [(0, .ref 294), (1, .int v1), (2, .int (q.1 + (1 : Int32)))]) (subL_cons rfl (subL_cons rfl (subL_cons rfl subL_nil))) ho
      clear h
      refine Ev.icmp D_215 (c := .ge) (off := 43) (by decide +kernel) (t := 194) rfl (fun c15 => ?_) (fun c15 => ?_)
      · have c15 : p14 ≤ v1 := of_decide_eq_true c15
        rw [if_pos c15] at g15
        cases g15
        exact Ev.sub2 j15 (subL_cons rfl (subL_cons rfl (subL_cons rfl subL_nil)))
      · have c15 : ¬ p14 ≤ v1 := of_decide_eq_false c15
        rw [if_neg c15] at g15
        refine Ev.seg D_215 [(.aload_n 0, 1)] (by decide +kernel) (j := 0) (pc' := 155) (lv' := [(0, .ref 294), (1, .int v1), (2, .int q.1), (3, .int x11)]) (st' := [.ref 294]) rfl ?_
        refine Ev.getR D_215 (by decide +kernel) F_10_46 T_10_21 (x := 305) (S_oR k_294 (by decide +kernel)) ?_
        refine Ev.seg D_215 [(.iconst 5, 1), (.iload_n 1, 1), (.iconst 1, 1), (.iadd, 1), (.imul, 1), (.iload_n 2, 1), (.iadd, 1), (.aload_n 0, 1)] (by decide +kernel) (j := 0) (pc' := 166) (lv' := [(0, .ref 294), (1, .int v1), (2, .int q.1), (3, .int x11)]) (st' := [.ref 294, .int (((5 : Int32) * (v1 + (1 : Int32))) + q.1), .ref 305]) rfl ?_
        refine Ev.getR D_215 (by decide +kernel) F_10_9 T_10_1 (x := 295) (S_oR k_294 (by decide +kernel)) ?_
        refine Ev.seg D_215 [(.iconst 2, 1)] (by decide +kernel) (j := 0) (pc' := 170) (lv' := [(0, .ref 294), (1, .int v1), (2, .int q.1), (3, .int x11)]) (st' := [.int (2 : Int32), .ref 295, .int (((5 : Int32) * (v1 + (1 : Int32))) + q.1), .ref 305]) rfl ?_
        obtain ⟨x18, e18, g15⟩ := bd g15
        refine Ev.iald D_215 (by decide +kernel) (S_aI k_295 e18) ?_
        refine Ev.seg D_215 [(.aload_n 0, 1), (.iload_n 2, 1), (.iload_n 1, 1)] (by decide +kernel) (j := 0) (pc' := 174) (lv' := [(0, .ref 294), (1, .int v1), (2, .int q.1), (3, .int x11)]) (st' := [.int v1, .int q.1, .ref 294, .int x18, .int (((5 : Int32) * (v1 + (1 : Int32))) + q.1), .ref 305]) rfl ?_
        obtain ⟨p19, e19, g15⟩ := bd g15
        refine Ev.callv D_215 E_220 (by decide +kernel) C_10_240 294 [.int q.1, .int v1] (r := [.int x18, .int (((5 : Int32) * (v1 + (1 : Int32))) + q.1), .ref 305]) rfl (gd_o k_294 (by decide)) rfl (Nat.le_of_ble_eq_true rfl) (Nat.le_of_ble_eq_true rfl) (gM_placeOf_ok (by omega)  e19) ?_
        refine Ev.seg D_215 [(.iconst 3, 1), (.iload_n 3, 1), (.aload_n 0, 1)] (by decide +kernel) (j := 0) (pc' := 180) (lv' := [(0, .ref 294), (1, .int v1), (2, .int q.1), (3, .int x11)]) (st' := [.ref 294, .int x11, .int (3 : Int32), .int p19, .int x18, .int (((5 : Int32) * (v1 + (1 : Int32))) + q.1), .ref 305]) rfl ?_
        refine Ev.getR D_215 (by decide +kernel) F_10_37 T_10_16 (x := 302) (S_oR k_294 (by decide +kernel)) ?_
        refine Ev.seg D_215 [(.iload_n 2, 1)] (by decide +kernel) (j := 0) (pc' := 184) (lv' := [(0, .ref 294), (1, .int v1), (2, .int q.1), (3, .int x11)]) (st' := [.int q.1, .ref 302, .int x11, .int (3 : Int32), .int p19, .int x18, .int (((5 : Int32) * (v1 + (1 : Int32))) + q.1), .ref 305]) rfl ?_
        obtain ⟨x21, e21, g15⟩ := bd g15
        refine Ev.iald D_215 (by decide +kernel) (S_aI k_302 e21) ?_
        by_cases c22 : x21 = 0
        · rw [if_pos c22] at g15; cases g15
        rw [if_neg c22] at g15
        refine Ev.idiv D_215 (by decide +kernel) c22 ?_
        refine Ev.min D_215 (by decide +kernel) (Nat.succ_pos _) C_10_137 (Nat.le_of_ble_eq_true rfl) ?_
        refine Ev.seg D_215 [(.iadd, 1)] (by decide +kernel) (j := 0) (pc' := 190) (lv' := [(0, .ref 294), (1, .int v1), (2, .int q.1), (3, .int x11)]) (st' := [.int (p19 + (imin (3 : Int32) (x11 / x21))), .int x18, .int (((5 : Int32) * (v1 + (1 : Int32))) + q.1), .ref 305]) rfl ?_
        refine Ev.min D_215 (by decide +kernel) (Nat.succ_pos _) C_10_137 (Nat.le_of_ble_eq_true rfl) ?_
        obtain ⟨s25, e25, g15⟩ := bd g15
        refine Ev.iast D_215 (by decide +kernel) (S_sI k_305 e25) ?_
        cases g15
        exact Ev.sub2 j15 (subL_cons rfl (subL_cons rfl (subL_cons rfl subL_nil)))
    exact Ev.sub (lv' := [(0, .ref 294), (1, .int v1), (2, .int q.1), (3, .int (0 : Int32)), (4, .int (0 : Int32))]) (subL_cons rfl (subL_cons rfl (subL_cons rfl (subL_cons rfl (subL_cons rfl subL_nil))))) (gM_goAll_h78_w hd   _ _ _ w11 _ j11)
theorem gM_goAll_h63_w {L d : Nat} (hd : 4 ≤ d + 1) {v1 : Int32} : ∀ (n : Nat) (q : Int32 × mT) (r : mT), wh n (gM_goAll_h63 v1) q = some r → ∀ o, (fun r => Ev (d + 1) 215 200 [(0, .ref 294), (1, .int v1)] [] (uS L r) o) r → Ev (d + 1) 215 63 [(0, .ref 294), (1, .int v1), (2, .int q.1)] [] (uS L q.2) o :=
  fun n q r h o hc => wh_ev (E := fun (q : Int32 × mT) o => Ev (d + 1) 215 63 [(0, .ref 294), (1, .int v1), (2, .int q.1)] [] (uS L q.2) o) (C := fun (r : mT) o => (fun r => Ev (d + 1) 215 200 [(0, .ref 294), (1, .int v1)] [] (uS L r) o) r) (gM_goAll_h63_ok hd  ) n q r h o hc
def gM_goAll_h41  (q : Int32 × mT) : Option ((Int32 × mT) ⊕ (mT)) :=
  (gM_last q.2).bind fun p1 =>
  if p1 < q.1 then
    some (.inr q.2)
  else
    (wrI q.2 308 21 q.1 (0 : Int32)).bind fun s4 =>
    (gM_goLooks q.1 s4).bind fun p5 =>
    (wh FU (gM_goAll_h63 q.1) ((0 : Int32), p5)).bind fun x26 =>
    some (.inl (q.1 + (1 : Int32), x26))
set_option maxRecDepth 8000 in
theorem gM_goAll_h41_ok {L d : Nat} (hd : 4 ≤ d + 1)  : ∀ (q : Int32 × mT) (x : (Int32 × mT) ⊕ (mT)), gM_goAll_h41 q = some x → ∀ o, sK (fun q => Ev (d + 1) 215 41 [(0, .ref 294), (1, .int q.1)] [] (uS L q.2) o) (fun r => Ev (d + 1) 215 206 [] [] (uS L r) o) x → Ev (d + 1) 215 41 [(0, .ref 294), (1, .int q.1)] [] (uS L q.2) o := by
  intro q x h o ho
  unfold gM_goAll_h41 at h
  refine Ev.seg D_215 [(.iload_n 1, 1), (.aload_n 0, 1)] (by decide +kernel) (j := 0) (pc' := 43) (lv' := [(0, .ref 294), (1, .int q.1)]) (st' := [.ref 294, .int q.1]) rfl ?_
  obtain ⟨p1, e1, h⟩ := bd h
  refine Ev.callv D_215 E_216 (by decide +kernel) C_10_96 294 [] (r := [.int q.1]) rfl (gd_o k_294 (by decide)) rfl (Nat.le_of_ble_eq_true rfl) (Nat.le_of_ble_eq_true rfl) (gM_last_ok (by omega)  e1) ?_
  refine Ev.icmp D_215 (c := .gt) (off := 160) (by decide +kernel) (t := 206) rfl (fun c2 => ?_) (fun c2 => ?_)
  · have c2 : p1 < q.1 := of_decide_eq_true c2
    rw [if_pos c2] at h
    cases h
    exact Ev.sub (lv' := []) subL_nil ho
  · have c2 : ¬ p1 < q.1 := of_decide_eq_false c2
    rw [if_neg c2] at h
    refine Ev.seg D_215 [(.aload_n 0, 1)] (by decide +kernel) (j := 0) (pc' := 50) (lv' := [(0, .ref 294), (1, .int q.1)]) (st' := [.ref 294]) rfl ?_
    refine Ev.getR D_215 (by decide +kernel) F_10_55 T_10_24 (x := 308) (S_oR k_294 (by decide +kernel)) ?_
    refine Ev.seg D_215 [(.iload_n 1, 1), (.iconst 0, 1)] (by decide +kernel) (j := 0) (pc' := 55) (lv' := [(0, .ref 294), (1, .int q.1)]) (st' := [.int (0 : Int32), .int q.1, .ref 308]) rfl ?_
    obtain ⟨s4, e4, h⟩ := bd h
    refine Ev.iast D_215 (by decide +kernel) (S_sI k_308 e4) ?_
    refine Ev.seg D_215 [(.aload_n 0, 1), (.iload_n 1, 1)] (by decide +kernel) (j := 0) (pc' := 58) (lv' := [(0, .ref 294), (1, .int q.1)]) (st' := [.int q.1, .ref 294]) rfl ?_
    obtain ⟨p5, e5, h⟩ := bd h
    refine Ev.callv D_215 E_217 (by decide +kernel) C_10_260 294 [.int q.1] (r := []) rfl (gd_o k_294 (by decide)) rfl (Nat.le_of_ble_eq_true rfl) (Nat.le_of_ble_eq_true rfl) (gM_goLooks_ok (by omega)  e5) ?_
    refine Ev.seg D_215 [(.iconst 0, 1), (.istore_n 2, 1)] (by decide +kernel) (j := 0) (pc' := 63) (lv' := [(2, .int (0 : Int32)), (0, .ref 294), (1, .int q.1)]) (st' := []) rfl ?_
    obtain ⟨x26, w26, h⟩ := bd h
    have j26 : Ev (d + 1) 215 200 [(0, .ref 294), (1, .int q.1)] [] (uS L x26) o := by
      clear w26
      refine Ev.seg D_215 [(.iinc 1 1, 3), (.goto (-162), 3)] (by decide +kernel) (j := 0) (pc' := 41) (lv' := [(1, .int (q.1 + (1 : Int32))), (0, .ref 294)]) (st' := []) rfl ?_
      cases h
      exact Ev.sub (lv' := [(0, .ref 294), (1, .int (q.1 + (1 : Int32)))]) (subL_cons rfl (subL_cons rfl subL_nil)) ho
    exact Ev.sub (lv' := [(0, .ref 294), (1, .int q.1), (2, .int (0 : Int32))]) (subL_cons rfl (subL_cons rfl (subL_cons rfl subL_nil))) (gM_goAll_h63_w hd   _ _ _ w26 _ j26)
theorem gM_goAll_h41_w {L d : Nat} (hd : 4 ≤ d + 1)  : ∀ (n : Nat) (q : Int32 × mT) (r : mT), wh n (gM_goAll_h41) q = some r → ∀ o, (fun r => Ev (d + 1) 215 206 [] [] (uS L r) o) r → Ev (d + 1) 215 41 [(0, .ref 294), (1, .int q.1)] [] (uS L q.2) o :=
  fun n q r h o hc => wh_ev (E := fun (q : Int32 × mT) o => Ev (d + 1) 215 41 [(0, .ref 294), (1, .int q.1)] [] (uS L q.2) o) (C := fun (r : mT) o => (fun r => Ev (d + 1) 215 206 [] [] (uS L r) o) r) (gM_goAll_h41_ok hd  ) n q r h o hc
def gM_goAll (s : mT) : Option (mT) :=
  (wh FU (gM_goAll_h2) ((0 : Int32), s)).bind fun x11 =>
  (wh FU (gM_goAll_h41) ((0 : Int32), x11)).bind fun x27 =>
  some (x27)
set_option maxRecDepth 8000 in
theorem gM_goAll_ok {L d : Nat} (hd : 4 ≤ d) {s : mT} {p : mT} (h : gM_goAll s = some p) : Ev d 215 0 [(0, .ref 294)] [] (uS L s) (none, uS L p) := by
  obtain ⟨d, rfl⟩ : ∃ e, d = e + 1 := ⟨d - 1, by omega⟩
  obtain ⟨o, ho⟩ : ∃ o : Option Value × mS, o = (none, uS L p) := ⟨_, rfl⟩
  rw [← ho]
  unfold gM_goAll at h
  refine Ev.seg D_215 [(.iconst 0, 1), (.istore_n 1, 1)] (by decide +kernel) (j := 0) (pc' := 2) (lv' := [(1, .int (0 : Int32)), (0, .ref 294)]) (st' := []) rfl ?_
  obtain ⟨x11, w11, h⟩ := bd h
  have j11 : Ev (d + 1) 215 39 [(0, .ref 294)] [] (uS L x11) o := by
    clear w11
    refine Ev.seg D_215 [(.iconst 0, 1), (.istore_n 1, 1)] (by decide +kernel) (j := 0) (pc' := 41) (lv' := [(1, .int (0 : Int32)), (0, .ref 294)]) (st' := []) rfl ?_
    obtain ⟨x27, w27, h⟩ := bd h
    have j27 : Ev (d + 1) 215 206 [] [] (uS L x27) o := by
      clear w27
      cases h
      obtain rfl : o = _ := ho
      exact Ev.vret D_215 (by decide +kernel)
    exact Ev.sub (lv' := [(0, .ref 294), (1, .int (0 : Int32))]) (subL_cons rfl (subL_cons rfl subL_nil)) (gM_goAll_h41_w hd   _ _ _ w27 _ j27)
  exact Ev.sub (lv' := [(0, .ref 294), (1, .int (0 : Int32))]) (subL_cons rfl (subL_cons rfl subL_nil)) (gM_goAll_h2_w hd   _ _ _ w11 _ j11)
