/-! The program's methods as functions of ints and longs, each with its certificate (wip/whole/gen_emit.py writes this) -/
/- PennantLawnModel rest: 307 -/
def gM_rest (v1 : Int32) (v2 : Int32) (s : mT) : Option (Int32 × mT) :=
  (gM_asksRests v1 v2 s).bind fun p1 =>
  (
    if p1.1 = 0 then
      some ((-2 : Int32))
    else
      some (p1.2.1 294 39) : Option (Int32)).bind fun x2 =>
  some ((x2, p1.2))
set_option maxRecDepth 8000 in
theorem gM_rest_ok {L d : Nat} (hd : 6 ≤ d) {v1 : Int32} {v2 : Int32} {s : mT} {p : Int32 × mT} (h : gM_rest v1 v2 s = some p) : Ev d 307 0 [(0, .ref 294), (1, .int v1), (2, .int v2)] [] (uS L s) (some (.int p.1), uS L p.2) := by
  obtain ⟨d, rfl⟩ : ∃ e, d = e + 1 := ⟨d - 1, by omega⟩
  obtain ⟨o, ho⟩ : ∃ o : Option Value × mS, o = (some (.int p.1), uS L p.2) := ⟨_, rfl⟩
  rw [← ho]
  unfold gM_rest at h
  refine Ev.seg D_307 [(.aload_n 0, 1), (.iload_n 1, 1), (.iload_n 2, 1)] (by decide +kernel) (j := 0) (pc' := 3) (lv' := [(0, .ref 294), (1, .int v1), (2, .int v2)]) (st' := [.int v2, .int v1, .ref 294]) rfl ?_
  obtain ⟨p1, e1, h⟩ := bd h
  refine Ev.callv D_307 E_305 (by decide +kernel) C_10_415 294 [.int v1, .int v2] (r := []) rfl (gd_o k_294 (by decide)) rfl (Nat.le_of_ble_eq_true rfl) (Nat.le_of_ble_eq_true rfl) (gM_asksRests_ok (by omega)  e1) ?_
  obtain ⟨x2, g2, h⟩ := bd h
  have j2 : Ev (d + 1) 307 18 [] [.int x2] (uS L p1.2) o := by
    clear g2
    cases h
    obtain rfl : o = _ := ho
    exact Ev.iret D_307 (by decide +kernel)
  clear h
  refine Ev.if_ D_307 (c := .eq) (off := 10) (by decide +kernel) (t := 16) rfl (fun c2 => ?_) (fun c2 => ?_)
  · have c2 : p1.1 = 0 := of_decide_eq_true c2
    rw [if_pos c2] at g2
    refine Ev.seg D_307 [(.bipush (-2), 2)] (by decide +kernel) (j := 0) (pc' := 18) (lv' := [(0, .ref 294), (1, .int v1), (2, .int v2)]) (st' := [.int (-2 : Int32)]) rfl ?_
    cases g2
    exact Ev.sub2 j2 subL_nil
  · have c2 : ¬ p1.1 = 0 := of_decide_eq_false c2
    rw [if_neg c2] at g2
    refine Ev.seg D_307 [(.aload_n 0, 1)] (by decide +kernel) (j := 0) (pc' := 10) (lv' := [(0, .ref 294), (1, .int v1), (2, .int v2)]) (st' := [.ref 294]) rfl ?_
    refine Ev.getI D_307 (by decide +kernel) F_10_408 (Or.inl T_10_39) (S_oI k_294) ?_
    refine Ev.seg D_307 [(.goto 5, 3)] (by decide +kernel) (j := 0) (pc' := 18) (lv' := [(0, .ref 294), (1, .int v1), (2, .int v2)]) (st' := [.int (p1.2.1 294 39)]) rfl ?_
    cases g2
    exact Ev.sub2 j2 subL_nil
/- PennantLawnModel isFishers: 309 -/
def gM_isFishers (v1 : Int32) (v2 : Int32) (v3 : Int32) (s : mT) : Option (Int32) :=
  (gM_isBoat v1.toInt64 s).bind fun p1 =>
  (
    if p1 = 0 then
      some ((0 : Int32))
    else
      (gM_isAhead v2 s).bind fun p3 =>
      if p3 = 0 then
        some ((0 : Int32))
      else
        (gM_in v2.toInt64 (0 : Int64) (7 : Int64) s).bind fun p6 =>
        if p6 = 0 then
          some ((0 : Int32))
        else
          (gM_in v3.toInt64 (0 : Int64) (1 : Int64) s).bind fun p8 =>
          if p8 = 0 then
            some ((0 : Int32))
          else
            some ((1 : Int32)) : Option (Int32)).bind fun x2 =>
  if x2 = 0 ∨ x2 = 1 then some (x2) else none
set_option maxRecDepth 8000 in
theorem gM_isFishers_ok {L d : Nat} (hd : 3 ≤ d) {v1 : Int32} {v2 : Int32} {v3 : Int32} {s : mT} {p : Int32} (h : gM_isFishers v1 v2 v3 s = some p) : Ev d 309 0 [(0, .ref 294), (1, .int v1), (2, .int v2), (3, .int v3)] [] (uS L s) (some (.int p), uS L s) := by
  obtain ⟨d, rfl⟩ : ∃ e, d = e + 1 := ⟨d - 1, by omega⟩
  obtain ⟨o, ho⟩ : ∃ o : Option Value × mS, o = (some (.int p), uS L s) := ⟨_, rfl⟩
  rw [← ho]
  unfold gM_isFishers at h
  refine Ev.seg D_309 [(.aload_n 0, 1), (.iload_n 1, 1), (.i2l, 1)] (by decide +kernel) (j := 0) (pc' := 3) (lv' := [(0, .ref 294), (1, .int v1), (2, .int v2), (3, .int v3)]) (st' := [.long v1.toInt64, .ref 294]) rfl ?_
  obtain ⟨p1, e1, h⟩ := bd h
  refine Ev.callv D_309 E_204 (by decide +kernel) C_10_220 294 [.long v1.toInt64] (r := []) rfl (gd_o k_294 (by decide)) rfl (Nat.le_of_ble_eq_true rfl) (Nat.le_of_ble_eq_true rfl) (gM_isBoat_ok (by omega)  e1) ?_
  obtain ⟨x2, g2, h⟩ := bd h
  have j2 : Ev (d + 1) 309 44 [] [.int x2] (uS L s) o := by
    clear g2
    by_cases c10 : x2 = 0 ∨ x2 = 1
    · rw [if_pos c10] at h
      cases h
      obtain rfl : o = _ := ho
      exact Ev.zret D_309 c10 (by decide +kernel)
    · rw [if_neg c10] at h; cases h
  clear h
  refine Ev.if_ D_309 (c := .eq) (off := 37) (by decide +kernel) (t := 43) rfl (fun c2 => ?_) (fun c2 => ?_)
  · have c2 : p1 = 0 := of_decide_eq_true c2
    rw [if_pos c2] at g2
    refine Ev.seg D_309 [(.iconst 0, 1)] (by decide +kernel) (j := 0) (pc' := 44) (lv' := [(0, .ref 294), (1, .int v1), (2, .int v2), (3, .int v3)]) (st' := [.int (0 : Int32)]) rfl ?_
    cases g2
    exact Ev.sub2 j2 subL_nil
  · have c2 : ¬ p1 = 0 := of_decide_eq_false c2
    rw [if_neg c2] at g2
    refine Ev.seg D_309 [(.aload_n 0, 1), (.iload_n 2, 1)] (by decide +kernel) (j := 0) (pc' := 11) (lv' := [(0, .ref 294), (1, .int v1), (2, .int v2), (3, .int v3)]) (st' := [.int v2, .ref 294]) rfl ?_
    obtain ⟨p3, e3, g2⟩ := bd g2
    refine Ev.callv D_309 E_226 (by decide +kernel) C_10_275 294 [.int v2] (r := []) rfl (gd_o k_294 (by decide)) rfl (Nat.le_of_ble_eq_true rfl) (Nat.le_of_ble_eq_true rfl) (gM_isAhead_ok (by omega)  e3) ?_
    refine Ev.if_ D_309 (c := .eq) (off := 29) (by decide +kernel) (t := 43) rfl (fun c4 => ?_) (fun c4 => ?_)
    · have c4 : p3 = 0 := of_decide_eq_true c4
      rw [if_pos c4] at g2
      refine Ev.seg D_309 [(.iconst 0, 1)] (by decide +kernel) (j := 0) (pc' := 44) (lv' := [(0, .ref 294), (1, .int v1), (2, .int v2), (3, .int v3)]) (st' := [.int (0 : Int32)]) rfl ?_
      cases g2
      exact Ev.sub2 j2 subL_nil
    · have c4 : ¬ p3 = 0 := of_decide_eq_false c4
      rw [if_neg c4] at g2
      refine Ev.seg D_309 [(.iload_n 2, 1), (.i2l, 1), (.lconst 0, 1)] (by decide +kernel) (j := 0) (pc' := 20) (lv' := [(0, .ref 294), (1, .int v1), (2, .int v2), (3, .int v3)]) (st' := [.long (0 : Int64), .long v2.toInt64]) rfl ?_
      refine Ev.ldc2 D_309 (i := 428) (by decide +kernel) (x := (7 : Int64)) (by decide +kernel) ?_
      obtain ⟨p6, e6, g2⟩ := bd g2
      refine Ev.calls D_309 E_184 (by decide +kernel) C_10_88 [.long v2.toInt64, .long (0 : Int64), .long (7 : Int64)] (r := []) rfl rfl (Nat.le_of_ble_eq_true rfl) (Nat.le_of_ble_eq_true rfl) (gM_in_ok (by omega)  e6) ?_
      refine Ev.if_ D_309 (c := .eq) (off := 17) (by decide +kernel) (t := 43) rfl (fun c7 => ?_) (fun c7 => ?_)
      · have c7 : p6 = 0 := of_decide_eq_true c7
        rw [if_pos c7] at g2
        refine Ev.seg D_309 [(.iconst 0, 1)] (by decide +kernel) (j := 0) (pc' := 44) (lv' := [(0, .ref 294), (1, .int v1), (2, .int v2), (3, .int v3)]) (st' := [.int (0 : Int32)]) rfl ?_
        cases g2
        exact Ev.sub2 j2 subL_nil
      · have c7 : ¬ p6 = 0 := of_decide_eq_false c7
        rw [if_neg c7] at g2
        refine Ev.seg D_309 [(.iload_n 3, 1), (.i2l, 1), (.lconst 0, 1), (.lconst 1, 1)] (by decide +kernel) (j := 0) (pc' := 33) (lv' := [(0, .ref 294), (1, .int v1), (2, .int v2), (3, .int v3)]) (st' := [.long (1 : Int64), .long (0 : Int64), .long v3.toInt64]) rfl ?_
        obtain ⟨p8, e8, g2⟩ := bd g2
        refine Ev.calls D_309 E_184 (by decide +kernel) C_10_88 [.long v3.toInt64, .long (0 : Int64), .long (1 : Int64)] (r := []) rfl rfl (Nat.le_of_ble_eq_true rfl) (Nat.le_of_ble_eq_true rfl) (gM_in_ok (by omega)  e8) ?_
        refine Ev.if_ D_309 (c := .eq) (off := 7) (by decide +kernel) (t := 43) rfl (fun c9 => ?_) (fun c9 => ?_)
        · have c9 : p8 = 0 := of_decide_eq_true c9
          rw [if_pos c9] at g2
          refine Ev.seg D_309 [(.iconst 0, 1)] (by decide +kernel) (j := 0) (pc' := 44) (lv' := [(0, .ref 294), (1, .int v1), (2, .int v2), (3, .int v3)]) (st' := [.int (0 : Int32)]) rfl ?_
          cases g2
          exact Ev.sub2 j2 subL_nil
        · have c9 : ¬ p8 = 0 := of_decide_eq_false c9
          rw [if_neg c9] at g2
          refine Ev.seg D_309 [(.iconst 1, 1), (.goto 4, 3)] (by decide +kernel) (j := 0) (pc' := 44) (lv' := [(0, .ref 294), (1, .int v1), (2, .int v2), (3, .int v3)]) (st' := [.int (1 : Int32)]) rfl ?_
          cases g2
          exact Ev.sub2 j2 subL_nil
/- PennantLawnModel layFishers: 310 -/
def gM_layFishers_h34 (v1 : Int32) (v2 : Int32) (v3 : Int32) (q : Int64 × Int32 × mT) : Option ((Int64 × Int32 × mT) ⊕ (Int64 × mT)) :=
  if v2 < q.2.1 then
    some (.inr (q.1, q.2.2))
  else
    (gM_bit v3 q.2.1 q.2.2).bind fun p2 =>
    (
      if p2 = (1 : Int32) then
        (rdI (q.2.2.1 295) 79 (3 : Int32)).bind fun x7 =>
        some (x7.toInt64)
      else
        (rdI (q.2.2.1 295) 79 (3 : Int32)).bind fun x5 =>
        some (((10 : Int32) - x5).toInt64) : Option (Int64)).bind fun x3 =>
    (gM_bit v3 q.2.1 q.2.2).bind fun p8 =>
    (
      if p8 = (1 : Int32) then
        (rdI (q.2.2.1 304) 21 q.2.1).bind fun x12 =>
        (wrI q.2.2 304 21 q.2.1 (imax x12 (5 : Int32))).bind fun s14 =>
        some (s14)
      else
        some (q.2.2) : Option (mT)).bind fun x9 =>
    some (.inl (q.1 * x3, q.2.1 + (1 : Int32), x9))
set_option maxRecDepth 8000 in
theorem gM_layFishers_h34_ok {L d : Nat} (hd : 5 ≤ d + 1) {v1 : Int32} {v2 : Int32} {v3 : Int32} : ∀ (q : Int64 × Int32 × mT) (x : (Int64 × Int32 × mT) ⊕ (Int64 × mT)), gM_layFishers_h34 v1 v2 v3 q = some x → ∀ o, sK (fun q => Ev (d + 1) 310 34 [(0, .ref 294), (1, .int v1), (2, .int v2), (3, .int v3), (4, .long q.1), (6, .int q.2.1)] [] (uS L q.2.2) o) (fun r => Ev (d + 1) 310 109 [(0, .ref 294), (1, .int v1), (2, .int v2), (3, .int v3), (4, .long r.1)] [] (uS L r.2) o) x → Ev (d + 1) 310 34 [(0, .ref 294), (1, .int v1), (2, .int v2), (3, .int v3), (4, .long q.1), (6, .int q.2.1)] [] (uS L q.2.2) o := by
  intro q x h o ho
  unfold gM_layFishers_h34 at h
  refine Ev.seg D_310 [(.iload 6, 2), (.iload_n 2, 1)] (by decide +kernel) (j := 0) (pc' := 37) (lv' := [(0, .ref 294), (1, .int v1), (2, .int v2), (3, .int v3), (4, .long q.1), (6, .int q.2.1)]) (st' := [.int v2, .int q.2.1]) rfl ?_
  refine Ev.icmp D_310 (c := .gt) (off := 72) (by decide +kernel) (t := 109) rfl (fun c1 => ?_) (fun c1 => ?_)
  · have c1 : v2 < q.2.1 := of_decide_eq_true c1
    rw [if_pos c1] at h
    cases h
    exact Ev.sub (lv' := [(0, .ref 294), (1, .int v1), (2, .int v2), (3, .int v3), (4, .long q.1)]) (subL_cons rfl (subL_cons rfl (subL_cons rfl (subL_cons rfl (subL_cons rfl subL_nil))))) ho
  · have c1 : ¬ v2 < q.2.1 := of_decide_eq_false c1
    rw [if_neg c1] at h
    refine Ev.seg D_310 [(.lload 4, 2), (.iload_n 3, 1), (.iload 6, 2)] (by decide +kernel) (j := 0) (pc' := 45) (lv' := [(0, .ref 294), (1, .int v1), (2, .int v2), (3, .int v3), (4, .long q.1), (6, .int q.2.1)]) (st' := [.int q.2.1, .int v3, .long q.1]) rfl ?_
    obtain ⟨p2, e2, h⟩ := bd h
    refine Ev.calls D_310 E_221 (by decide +kernel) C_10_250 [.int v3, .int q.2.1] (r := [.long q.1]) rfl rfl (Nat.le_of_ble_eq_true rfl) (Nat.le_of_ble_eq_true rfl) (gM_bit_ok (by omega)  e2) ?_
    refine Ev.seg D_310 [(.iconst 1, 1)] (by decide +kernel) (j := 0) (pc' := 49) (lv' := [(0, .ref 294), (1, .int v1), (2, .int v2), (3, .int v3), (4, .long q.1), (6, .int q.2.1)]) (st' := [.int (1 : Int32), .int p2, .long q.1]) rfl ?_
    obtain ⟨x3, g3, h⟩ := bd h
    have j3 : Ev (d + 1) 310 72 [(0, .ref 294), (1, .int v1), (2, .int v2), (3, .int v3), (6, .int q.2.1)] [.long x3, .long q.1] (uS L q.2.2) o := by
      clear g3
      refine Ev.seg D_310 [(.lmul, 1), (.lstore 4, 2), (.iload_n 3, 1), (.iload 6, 2)] (by decide +kernel) (j := 0) (pc' := 78) (lv' := [(4, .long (q.1 * x3)), (0, .ref 294), (1, .int v1), (2, .int v2), (3, .int v3), (6, .int q.2.1)]) (st' := [.int q.2.1, .int v3]) rfl ?_
      obtain ⟨p8, e8, h⟩ := bd h
      refine Ev.calls D_310 E_221 (by decide +kernel) C_10_250 [.int v3, .int q.2.1] (r := []) rfl rfl (Nat.le_of_ble_eq_true rfl) (Nat.le_of_ble_eq_true rfl) (gM_bit_ok (by omega)  e8) ?_
      refine Ev.seg D_310 [(.iconst 1, 1)] (by decide +kernel) (j := 0) (pc' := 82) (lv' := [(4, .long (q.1 * x3)), (0, .ref 294), (1, .int v1), (2, .int v2), (3, .int v3), (6, .int q.2.1)]) (st' := [.int (1 : Int32), .int p8]) rfl ?_
      obtain ⟨x9, g9, h⟩ := bd h
      have j9 : Ev (d + 1) 310 103 [(0, .ref 294), (1, .int v1), (2, .int v2), (3, .int v3), (4, .long (q.1 * x3)), (6, .int q.2.1)] [] (uS L x9) o := by
        clear g9
        refine Ev.seg D_310 [(.iinc 6 1, 3), (.goto (-72), 3)] (by decide +kernel) (j := 0) (pc' := 34) (lv' := [(6, .int (q.2.1 + (1 : Int32))), (0, .ref 294), (1, .int v1), (2, .int v2), (3, .int v3), (4, .long (q.1 * x3))]) (st' := []) rfl ?_
        cases h
        exact Ev.sub (lv' := [(0, .ref 294), (1, .int v1), (2, .int v2), (3, .int v3), (4, .long (q.1 * x3)), (6, .int (q.2.1 + (1 : Int32)))]) (subL_cons rfl (subL_cons rfl (subL_cons rfl (subL_cons rfl (subL_cons rfl (subL_cons rfl subL_nil)))))) ho
      clear h
      refine Ev.icmp D_310 (c := .ne) (off := 21) (by decide +kernel) (t := 103) rfl (fun c9 => ?_) (fun c9 => ?_)
      · have c9 : ¬ p8 = (1 : Int32) := of_decide_eq_true c9
        rw [if_neg c9] at g9
        cases g9
        exact Ev.sub2 j9 (subL_cons rfl (subL_cons rfl (subL_cons rfl (subL_cons rfl (subL_cons rfl (subL_cons rfl subL_nil))))))
      · have c9 : p8 = (1 : Int32) := Decidable.of_not_not (of_decide_eq_false c9)
        rw [if_pos c9] at g9
        refine Ev.seg D_310 [(.aload_n 0, 1)] (by decide +kernel) (j := 0) (pc' := 86) (lv' := [(4, .long (q.1 * x3)), (0, .ref 294), (1, .int v1), (2, .int v2), (3, .int v3), (6, .int q.2.1)]) (st' := [.ref 294]) rfl ?_
        refine Ev.getR D_310 (by decide +kernel) F_10_43 T_10_18 (x := 304) (S_oR k_294 (by decide +kernel)) ?_
        refine Ev.seg D_310 [(.iload 6, 2), (.aload_n 0, 1)] (by decide +kernel) (j := 0) (pc' := 92) (lv' := [(4, .long (q.1 * x3)), (0, .ref 294), (1, .int v1), (2, .int v2), (3, .int v3), (6, .int q.2.1)]) (st' := [.ref 294, .int q.2.1, .ref 304]) rfl ?_
        refine Ev.getR D_310 (by decide +kernel) F_10_43 T_10_18 (x := 304) (S_oR k_294 (by decide +kernel)) ?_
        refine Ev.seg D_310 [(.iload 6, 2)] (by decide +kernel) (j := 0) (pc' := 97) (lv' := [(4, .long (q.1 * x3)), (0, .ref 294), (1, .int v1), (2, .int v2), (3, .int v3), (6, .int q.2.1)]) (st' := [.int q.2.1, .ref 304, .int q.2.1, .ref 304]) rfl ?_
        obtain ⟨x12, e12, g9⟩ := bd g9
        refine Ev.iald D_310 (by decide +kernel) (S_aI k_304 e12) ?_
        refine Ev.seg D_310 [(.iconst 5, 1)] (by decide +kernel) (j := 0) (pc' := 99) (lv' := [(4, .long (q.1 * x3)), (0, .ref 294), (1, .int v1), (2, .int v2), (3, .int v3), (6, .int q.2.1)]) (st' := [.int (5 : Int32), .int x12, .int q.2.1, .ref 304]) rfl ?_
        refine Ev.max D_310 (by decide +kernel) (Nat.succ_pos _) C_10_237 (Nat.le_of_ble_eq_true rfl) ?_
        obtain ⟨s14, e14, g9⟩ := bd g9
        refine Ev.iast D_310 (by decide +kernel) (S_sI k_304 e14) ?_
        cases g9
        exact Ev.sub2 j9 (subL_cons rfl (subL_cons rfl (subL_cons rfl (subL_cons rfl (subL_cons rfl (subL_cons rfl subL_nil))))))
    clear h
    refine Ev.icmp D_310 (c := .ne) (off := 13) (by decide +kernel) (t := 62) rfl (fun c3 => ?_) (fun c3 => ?_)
    · have c3 : ¬ p2 = (1 : Int32) := of_decide_eq_true c3
      rw [if_neg c3] at g3
      refine Ev.seg D_310 [(.bipush 10, 2), (.aload_n 0, 1)] (by decide +kernel) (j := 0) (pc' := 65) (lv' := [(0, .ref 294), (1, .int v1), (2, .int v2), (3, .int v3), (4, .long q.1), (6, .int q.2.1)]) (st' := [.ref 294, .int (10 : Int32), .long q.1]) rfl ?_
      refine Ev.getR D_310 (by decide +kernel) F_10_9 T_10_1 (x := 295) (S_oR k_294 (by decide +kernel)) ?_
      refine Ev.seg D_310 [(.iconst 3, 1)] (by decide +kernel) (j := 0) (pc' := 69) (lv' := [(0, .ref 294), (1, .int v1), (2, .int v2), (3, .int v3), (4, .long q.1), (6, .int q.2.1)]) (st' := [.int (3 : Int32), .ref 295, .int (10 : Int32), .long q.1]) rfl ?_
      obtain ⟨x5, e5, g3⟩ := bd g3
      refine Ev.iald D_310 (by decide +kernel) (S_aI k_295 e5) ?_
      refine Ev.seg D_310 [(.isub, 1), (.i2l, 1)] (by decide +kernel) (j := 0) (pc' := 72) (lv' := [(0, .ref 294), (1, .int v1), (2, .int v2), (3, .int v3), (4, .long q.1), (6, .int q.2.1)]) (st' := [.long (((10 : Int32) - x5).toInt64), .long q.1]) rfl ?_
      cases g3
      exact Ev.sub2 j3 (subL_cons rfl (subL_cons rfl (subL_cons rfl (subL_cons rfl (subL_cons rfl subL_nil)))))
    · have c3 : p2 = (1 : Int32) := Decidable.of_not_not (of_decide_eq_false c3)
      rw [if_pos c3] at g3
      refine Ev.seg D_310 [(.aload_n 0, 1)] (by decide +kernel) (j := 0) (pc' := 53) (lv' := [(0, .ref 294), (1, .int v1), (2, .int v2), (3, .int v3), (4, .long q.1), (6, .int q.2.1)]) (st' := [.ref 294, .long q.1]) rfl ?_
      refine Ev.getR D_310 (by decide +kernel) F_10_9 T_10_1 (x := 295) (S_oR k_294 (by decide +kernel)) ?_
      refine Ev.seg D_310 [(.iconst 3, 1)] (by decide +kernel) (j := 0) (pc' := 57) (lv' := [(0, .ref 294), (1, .int v1), (2, .int v2), (3, .int v3), (4, .long q.1), (6, .int q.2.1)]) (st' := [.int (3 : Int32), .ref 295, .long q.1]) rfl ?_
      obtain ⟨x7, e7, g3⟩ := bd g3
      refine Ev.iald D_310 (by decide +kernel) (S_aI k_295 e7) ?_
      refine Ev.seg D_310 [(.i2l, 1), (.goto 13, 3)] (by decide +kernel) (j := 0) (pc' := 72) (lv' := [(0, .ref 294), (1, .int v1), (2, .int v2), (3, .int v3), (4, .long q.1), (6, .int q.2.1)]) (st' := [.long x7.toInt64, .long q.1]) rfl ?_
      cases g3
      exact Ev.sub2 j3 (subL_cons rfl (subL_cons rfl (subL_cons rfl (subL_cons rfl (subL_cons rfl subL_nil)))))
theorem gM_layFishers_h34_w {L d : Nat} (hd : 5 ≤ d + 1) {v1 : Int32} {v2 : Int32} {v3 : Int32} : ∀ (n : Nat) (q : Int64 × Int32 × mT) (r : Int64 × mT), wh n (gM_layFishers_h34 v1 v2 v3) q = some r → ∀ o, (fun r => Ev (d + 1) 310 109 [(0, .ref 294), (1, .int v1), (2, .int v2), (3, .int v3), (4, .long r.1)] [] (uS L r.2) o) r → Ev (d + 1) 310 34 [(0, .ref 294), (1, .int v1), (2, .int v2), (3, .int v3), (4, .long q.1), (6, .int q.2.1)] [] (uS L q.2.2) o :=
  fun n q r h o hc => wh_ev (E := fun (q : Int64 × Int32 × mT) o => Ev (d + 1) 310 34 [(0, .ref 294), (1, .int v1), (2, .int v2), (3, .int v3), (4, .long q.1), (6, .int q.2.1)] [] (uS L q.2.2) o) (C := fun (r : Int64 × mT) o => (fun r => Ev (d + 1) 310 109 [(0, .ref 294), (1, .int v1), (2, .int v2), (3, .int v3), (4, .long r.1)] [] (uS L r.2) o) r) (gM_layFishers_h34_ok hd  ) n q r h o hc
def gM_layFishers_h17 (v1 : Int32) (v2 : Int32) (q : Int32 × mT) : Option ((Int32 × mT) ⊕ (mT)) :=
  if ((2 : Int32) <<< (v2 &&& 31)) ≤ q.1 then
    some (.inr q.2)
  else
    (gM_asItIs q.2).bind fun p2 =>
    (wh FU (gM_layFishers_h34 v1 v2 q.1) ((1 : Int64), (0 : Int32), p2)).bind fun x15 =>
    (
      if (lg_cmp x15.1 (0 : Int64)) = 0 then
        some (x15.2)
      else
        (gM_goAll x15.2).bind fun p17 =>
        (gM_leadsOf (v2 + (1 : Int32)) (stL p17 294 40 ((p17.2 294 40) + x15.1))).bind fun p21 =>
        (
          if p21 = v1 then
            some (x15.1)
          else
            some ((0 : Int64)) : Option (Int64)).bind fun x22 =>
        (some (stL (stL p17 294 40 ((p17.2 294 40) + x15.1)) 294 41 (((stL p17 294 40 ((p17.2 294 40) + x15.1)).2 294 41) + x22))).bind fun s23 =>
        (gM_placeOf v1 (v2 + (1 : Int32)) s23).bind fun p25 =>
        some ((stL s23 294 42 ((s23.2 294 42) + (x15.1 * p25.toInt64)))) : Option (mT)).bind fun x16 =>
    some (.inl (q.1 + (1 : Int32), x16))
set_option maxRecDepth 8000 in
theorem gM_layFishers_h17_ok {L d : Nat} (hd : 5 ≤ d + 1) {v1 : Int32} {v2 : Int32} : ∀ (q : Int32 × mT) (x : (Int32 × mT) ⊕ (mT)), gM_layFishers_h17 v1 v2 q = some x → ∀ o, sK (fun q => Ev (d + 1) 310 17 [(0, .ref 294), (1, .int v1), (2, .int v2), (3, .int q.1)] [] (uS L q.2) o) (fun r => Ev (d + 1) 310 187 [] [] (uS L r) o) x → Ev (d + 1) 310 17 [(0, .ref 294), (1, .int v1), (2, .int v2), (3, .int q.1)] [] (uS L q.2) o := by
  intro q x h o ho
  unfold gM_layFishers_h17 at h
  refine Ev.seg D_310 [(.iload_n 3, 1), (.iconst 2, 1), (.iload_n 2, 1), (.ishl, 1)] (by decide +kernel) (j := 0) (pc' := 21) (lv' := [(0, .ref 294), (1, .int v1), (2, .int v2), (3, .int q.1)]) (st' := [.int ((2 : Int32) <<< (v2 &&& 31)), .int q.1]) rfl ?_
  refine Ev.icmp D_310 (c := .ge) (off := 166) (by decide +kernel) (t := 187) rfl (fun c1 => ?_) (fun c1 => ?_)
  · have c1 : ((2 : Int32) <<< (v2 &&& 31)) ≤ q.1 := of_decide_eq_true c1
    rw [if_pos c1] at h
    cases h
    exact Ev.sub (lv' := []) subL_nil ho
  · have c1 : ¬ ((2 : Int32) <<< (v2 &&& 31)) ≤ q.1 := of_decide_eq_false c1
    rw [if_neg c1] at h
    refine Ev.seg D_310 [(.lconst 1, 1), (.lstore 4, 2), (.aload_n 0, 1)] (by decide +kernel) (j := 0) (pc' := 28) (lv' := [(4, .long (1 : Int64)), (0, .ref 294), (1, .int v1), (2, .int v2), (3, .int q.1)]) (st' := [.ref 294]) rfl ?_
    obtain ⟨p2, e2, h⟩ := bd h
    refine Ev.callv D_310 E_212 (by decide +kernel) C_10_263 294 [] (r := []) rfl (gd_o k_294 (by decide)) rfl (Nat.le_of_ble_eq_true rfl) (Nat.le_of_ble_eq_true rfl) (gM_asItIs_ok (by omega)  e2) ?_
    refine Ev.seg D_310 [(.iconst 0, 1), (.istore 6, 2)] (by decide +kernel) (j := 0) (pc' := 34) (lv' := [(6, .int (0 : Int32)), (4, .long (1 : Int64)), (0, .ref 294), (1, .int v1), (2, .int v2), (3, .int q.1)]) (st' := []) rfl ?_
    obtain ⟨x15, w15, h⟩ := bd h
    have j15 : Ev (d + 1) 310 109 [(0, .ref 294), (1, .int v1), (2, .int v2), (3, .int q.1), (4, .long x15.1)] [] (uS L x15.2) o := by
      clear w15
      refine Ev.seg D_310 [(.lload 4, 2), (.lconst 0, 1), (.lcmp, 1)] (by decide +kernel) (j := 0) (pc' := 113) (lv' := [(0, .ref 294), (1, .int v1), (2, .int v2), (3, .int q.1), (4, .long x15.1)]) (st' := [.int (lg_cmp x15.1 (0 : Int64))]) rfl ?_
      obtain ⟨x16, g16, h⟩ := bd h
      have j16 : Ev (d + 1) 310 181 [(0, .ref 294), (1, .int v1), (2, .int v2), (3, .int q.1)] [] (uS L x16) o := by
        clear g16
        refine Ev.seg D_310 [(.iinc 3 1, 3), (.goto (-167), 3)] (by decide +kernel) (j := 0) (pc' := 17) (lv' := [(3, .int (q.1 + (1 : Int32))), (0, .ref 294), (1, .int v1), (2, .int v2)]) (st' := []) rfl ?_
        cases h
        exact Ev.sub (lv' := [(0, .ref 294), (1, .int v1), (2, .int v2), (3, .int (q.1 + (1 : Int32)))]) (subL_cons rfl (subL_cons rfl (subL_cons rfl (subL_cons rfl subL_nil)))) ho
      clear h
      refine Ev.if_ D_310 (c := .ne) (off := 6) (by decide +kernel) (t := 119) rfl (fun c16 => ?_) (fun c16 => ?_)
      · have c16 : ¬ (lg_cmp x15.1 (0 : Int64)) = 0 := of_decide_eq_true c16
        rw [if_neg c16] at g16
        refine Ev.seg D_310 [(.aload_n 0, 1)] (by decide +kernel) (j := 0) (pc' := 120) (lv' := [(0, .ref 294), (1, .int v1), (2, .int v2), (3, .int q.1), (4, .long x15.1)]) (st' := [.ref 294]) rfl ?_
        obtain ⟨p17, e17, g16⟩ := bd g16
        refine Ev.callv D_310 E_215 (by decide +kernel) C_10_266 294 [] (r := []) rfl (gd_o k_294 (by decide)) rfl (Nat.le_of_ble_eq_true rfl) (Nat.le_of_ble_eq_true rfl) (gM_goAll_ok (by omega)  e17) ?_
        refine Ev.seg D_310 [(.aload_n 0, 1), (.dup, 1)] (by decide +kernel) (j := 0) (pc' := 125) (lv' := [(0, .ref 294), (1, .int v1), (2, .int v2), (3, .int q.1), (4, .long x15.1)]) (st' := [.ref 294, .ref 294]) rfl ?_
        refine Ev.getL D_310 (by decide +kernel) F_10_418 T_10_40 (S_oL k_294) ?_
        refine Ev.seg D_310 [(.lload 4, 2), (.ladd, 1)] (by decide +kernel) (j := 0) (pc' := 131) (lv' := [(0, .ref 294), (1, .int v1), (2, .int v2), (3, .int q.1), (4, .long x15.1)]) (st' := [.long ((p17.2 294 40) + x15.1), .ref 294]) rfl ?_
        refine Ev.putL D_310 (by decide +kernel) F_10_418 N_10_40 T_10_40 (S_pL k_294) ?_
        refine Ev.seg D_310 [(.aload_n 0, 1), (.dup, 1)] (by decide +kernel) (j := 0) (pc' := 136) (lv' := [(0, .ref 294), (1, .int v1), (2, .int v2), (3, .int q.1), (4, .long x15.1)]) (st' := [.ref 294, .ref 294]) rfl ?_
        refine Ev.getL D_310 (by decide +kernel) F_10_422 T_10_41 (S_oL k_294) ?_
        refine Ev.seg D_310 [(.aload_n 0, 1), (.iload_n 2, 1), (.iconst 1, 1), (.iadd, 1)] (by decide +kernel) (j := 0) (pc' := 143) (lv' := [(0, .ref 294), (1, .int v1), (2, .int v2), (3, .int q.1), (4, .long x15.1)]) (st' := [.int (v2 + (1 : Int32)), .ref 294, .long ((stL p17 294 40 ((p17.2 294 40) + x15.1)).2 294 41), .ref 294]) rfl ?_
        obtain ⟨p21, e21, g16⟩ := bd g16
        refine Ev.callv D_310 E_231 (by decide +kernel) C_10_287 294 [.int (v2 + (1 : Int32))] (r := [.long ((stL p17 294 40 ((p17.2 294 40) + x15.1)).2 294 41), .ref 294]) rfl (gd_o k_294 (by decide)) rfl (Nat.le_of_ble_eq_true rfl) (Nat.le_of_ble_eq_true rfl) (gM_leadsOf_ok (by omega)  e21) ?_
        refine Ev.seg D_310 [(.iload_n 1, 1)] (by decide +kernel) (j := 0) (pc' := 147) (lv' := [(0, .ref 294), (1, .int v1), (2, .int v2), (3, .int q.1), (4, .long x15.1)]) (st' := [.int v1, .int p21, .long ((stL p17 294 40 ((p17.2 294 40) + x15.1)).2 294 41), .ref 294]) rfl ?_
        obtain ⟨x22, g22, g16⟩ := bd g16
        have j22 : Ev (d + 1) 310 156 [(0, .ref 294), (1, .int v1), (2, .int v2), (3, .int q.1), (4, .long x15.1)] [.long x22, .long ((stL p17 294 40 ((p17.2 294 40) + x15.1)).2 294 41), .ref 294] (uS L (stL p17 294 40 ((p17.2 294 40) + x15.1))) o := by
          clear g22
          refine Ev.seg D_310 [(.ladd, 1)] (by decide +kernel) (j := 0) (pc' := 157) (lv' := [(0, .ref 294), (1, .int v1), (2, .int v2), (3, .int q.1), (4, .long x15.1)]) (st' := [.long (((stL p17 294 40 ((p17.2 294 40) + x15.1)).2 294 41) + x22), .ref 294]) rfl ?_
          obtain ⟨s23, e23, g16⟩ := bd g16
          refine Ev.putL D_310 (by decide +kernel) F_10_422 N_10_41 T_10_41 (S_pLb k_294 e23) ?_
          refine Ev.seg D_310 [(.aload_n 0, 1), (.dup, 1)] (by decide +kernel) (j := 0) (pc' := 162) (lv' := [(0, .ref 294), (1, .int v1), (2, .int v2), (3, .int q.1), (4, .long x15.1)]) (st' := [.ref 294, .ref 294]) rfl ?_
          refine Ev.getL D_310 (by decide +kernel) F_10_425 T_10_42 (S_oL k_294) ?_
          refine Ev.seg D_310 [(.lload 4, 2), (.aload_n 0, 1), (.iload_n 1, 1), (.iload_n 2, 1), (.iconst 1, 1), (.iadd, 1)] (by decide +kernel) (j := 0) (pc' := 172) (lv' := [(0, .ref 294), (1, .int v1), (2, .int v2), (3, .int q.1), (4, .long x15.1)]) (st' := [.int (v2 + (1 : Int32)), .int v1, .ref 294, .long x15.1, .long (s23.2 294 42), .ref 294]) rfl ?_
          obtain ⟨p25, e25, g16⟩ := bd g16
          refine Ev.callv D_310 E_220 (by decide +kernel) C_10_240 294 [.int v1, .int (v2 + (1 : Int32))] (r := [.long x15.1, .long (s23.2 294 42), .ref 294]) rfl (gd_o k_294 (by decide)) rfl (Nat.le_of_ble_eq_true rfl) (Nat.le_of_ble_eq_true rfl) (gM_placeOf_ok (by omega)  e25) ?_
          refine Ev.seg D_310 [(.i2l, 1), (.lmul, 1), (.ladd, 1)] (by decide +kernel) (j := 0) (pc' := 178) (lv' := [(0, .ref 294), (1, .int v1), (2, .int v2), (3, .int q.1), (4, .long x15.1)]) (st' := [.long ((s23.2 294 42) + (x15.1 * p25.toInt64)), .ref 294]) rfl ?_
          refine Ev.putL D_310 (by decide +kernel) F_10_425 N_10_42 T_10_42 (S_pL k_294) ?_
          cases g16
          exact Ev.sub2 j16 (subL_cons rfl (subL_cons rfl (subL_cons rfl (subL_cons rfl subL_nil))))
        clear g16
        refine Ev.icmp D_310 (c := .ne) (off := 8) (by decide +kernel) (t := 155) rfl (fun c22 => ?_) (fun c22 => ?_)
        · have c22 : ¬ p21 = v1 := of_decide_eq_true c22
          rw [if_neg c22] at g22
          refine Ev.seg D_310 [(.lconst 0, 1)] (by decide +kernel) (j := 0) (pc' := 156) (lv' := [(0, .ref 294), (1, .int v1), (2, .int v2), (3, .int q.1), (4, .long x15.1)]) (st' := [.long (0 : Int64), .long ((stL p17 294 40 ((p17.2 294 40) + x15.1)).2 294 41), .ref 294]) rfl ?_
          cases g22
          exact Ev.sub2 j22 (subL_cons rfl (subL_cons rfl (subL_cons rfl (subL_cons rfl (subL_cons rfl subL_nil)))))
        · have c22 : p21 = v1 := Decidable.of_not_not (of_decide_eq_false c22)
          rw [if_pos c22] at g22
          refine Ev.seg D_310 [(.lload 4, 2), (.goto 4, 3)] (by decide +kernel) (j := 0) (pc' := 156) (lv' := [(0, .ref 294), (1, .int v1), (2, .int v2), (3, .int q.1), (4, .long x15.1)]) (st' := [.long x15.1, .long ((stL p17 294 40 ((p17.2 294 40) + x15.1)).2 294 41), .ref 294]) rfl ?_
          cases g22
          exact Ev.sub2 j22 (subL_cons rfl (subL_cons rfl (subL_cons rfl (subL_cons rfl (subL_cons rfl subL_nil)))))
      · have c16 : (lg_cmp x15.1 (0 : Int64)) = 0 := Decidable.of_not_not (of_decide_eq_false c16)
        rw [if_pos c16] at g16
        refine Ev.seg D_310 [(.goto 65, 3)] (by decide +kernel) (j := 0) (pc' := 181) (lv' := [(0, .ref 294), (1, .int v1), (2, .int v2), (3, .int q.1), (4, .long x15.1)]) (st' := []) rfl ?_
        cases g16
        exact Ev.sub2 j16 (subL_cons rfl (subL_cons rfl (subL_cons rfl (subL_cons rfl subL_nil))))
    exact Ev.sub (lv' := [(0, .ref 294), (1, .int v1), (2, .int v2), (3, .int q.1), (4, .long (1 : Int64)), (6, .int (0 : Int32))]) (subL_cons rfl (subL_cons rfl (subL_cons rfl (subL_cons rfl (subL_cons rfl (subL_cons rfl subL_nil)))))) (gM_layFishers_h34_w hd   _ _ _ w15 _ j15)
theorem gM_layFishers_h17_w {L d : Nat} (hd : 5 ≤ d + 1) {v1 : Int32} {v2 : Int32} : ∀ (n : Nat) (q : Int32 × mT) (r : mT), wh n (gM_layFishers_h17 v1 v2) q = some r → ∀ o, (fun r => Ev (d + 1) 310 187 [] [] (uS L r) o) r → Ev (d + 1) 310 17 [(0, .ref 294), (1, .int v1), (2, .int v2), (3, .int q.1)] [] (uS L q.2) o :=
  fun n q r h o hc => wh_ev (E := fun (q : Int32 × mT) o => Ev (d + 1) 310 17 [(0, .ref 294), (1, .int v1), (2, .int v2), (3, .int q.1)] [] (uS L q.2) o) (C := fun (r : mT) o => (fun r => Ev (d + 1) 310 187 [] [] (uS L r) o) r) (gM_layFishers_h17_ok hd  ) n q r h o hc
def gM_layFishers (v1 : Int32) (v2 : Int32) (s : mT) : Option (mT) :=
  (some (stL (stL (stL s 294 40 (0 : Int64)) 294 41 (0 : Int64)) 294 42 (0 : Int64))).bind fun s3 =>
  (wh FU (gM_layFishers_h17 v1 v2) ((0 : Int32), s3)).bind fun x27 =>
  some (x27)
set_option maxRecDepth 8000 in
theorem gM_layFishers_ok {L d : Nat} (hd : 5 ≤ d) {v1 : Int32} {v2 : Int32} {s : mT} {p : mT} (h : gM_layFishers v1 v2 s = some p) : Ev d 310 0 [(0, .ref 294), (1, .int v1), (2, .int v2)] [] (uS L s) (none, uS L p) := by
  obtain ⟨d, rfl⟩ : ∃ e, d = e + 1 := ⟨d - 1, by omega⟩
  obtain ⟨o, ho⟩ : ∃ o : Option Value × mS, o = (none, uS L p) := ⟨_, rfl⟩
  rw [← ho]
  unfold gM_layFishers at h
  refine Ev.seg D_310 [(.aload_n 0, 1), (.lconst 0, 1)] (by decide +kernel) (j := 0) (pc' := 2) (lv' := [(0, .ref 294), (1, .int v1), (2, .int v2)]) (st' := [.long (0 : Int64), .ref 294]) rfl ?_
  refine Ev.putL D_310 (by decide +kernel) F_10_418 N_10_40 T_10_40 (S_pL k_294) ?_
  refine Ev.seg D_310 [(.aload_n 0, 1), (.lconst 0, 1)] (by decide +kernel) (j := 0) (pc' := 7) (lv' := [(0, .ref 294), (1, .int v1), (2, .int v2)]) (st' := [.long (0 : Int64), .ref 294]) rfl ?_
  refine Ev.putL D_310 (by decide +kernel) F_10_422 N_10_41 T_10_41 (S_pL k_294) ?_
  refine Ev.seg D_310 [(.aload_n 0, 1), (.lconst 0, 1)] (by decide +kernel) (j := 0) (pc' := 12) (lv' := [(0, .ref 294), (1, .int v1), (2, .int v2)]) (st' := [.long (0 : Int64), .ref 294]) rfl ?_
  obtain ⟨s3, e3, h⟩ := bd h
  refine Ev.putL D_310 (by decide +kernel) F_10_425 N_10_42 T_10_42 (S_pLb k_294 e3) ?_
  refine Ev.seg D_310 [(.iconst 0, 1), (.istore_n 3, 1)] (by decide +kernel) (j := 0) (pc' := 17) (lv' := [(3, .int (0 : Int32)), (0, .ref 294), (1, .int v1), (2, .int v2)]) (st' := []) rfl ?_
  obtain ⟨x27, w27, h⟩ := bd h
  have j27 : Ev (d + 1) 310 187 [] [] (uS L x27) o := by
    clear w27
    cases h
    obtain rfl : o = _ := ho
    exact Ev.vret D_310 (by decide +kernel)
  exact Ev.sub (lv' := [(0, .ref 294), (1, .int v1), (2, .int v2), (3, .int (0 : Int32))]) (subL_cons rfl (subL_cons rfl (subL_cons rfl (subL_cons rfl subL_nil)))) (gM_layFishers_h17_w hd   _ _ _ w27 _ j27)
/- PennantLawnModel chance: 308 -/
def gM_chance (v1 : Int32) (v2 : Int32) (v3 : Int32) (s : mT) : Option (Int64 × mT) :=
  (gM_isFishers v1 v2 v3 s).bind fun p1 =>
  if p1 = 0 then
    some (((-2 : Int64), s))
  else
    (gM_layFishers v1 v2 s).bind fun p3 =>
    (gM_part (p3.2 294 41) (p3.2 294 40) v3 p3).bind fun p6 =>
    some ((p6, p3))
set_option maxRecDepth 8000 in
theorem gM_chance_ok {L d : Nat} (hd : 6 ≤ d) {v1 : Int32} {v2 : Int32} {v3 : Int32} {s : mT} {p : Int64 × mT} (h : gM_chance v1 v2 v3 s = some p) : Ev d 308 0 [(0, .ref 294), (1, .int v1), (2, .int v2), (3, .int v3)] [] (uS L s) (some (.long p.1), uS L p.2) := by
  obtain ⟨d, rfl⟩ : ∃ e, d = e + 1 := ⟨d - 1, by omega⟩
  obtain ⟨o, ho⟩ : ∃ o : Option Value × mS, o = (some (.long p.1), uS L p.2) := ⟨_, rfl⟩
  rw [← ho]
  unfold gM_chance at h
  refine Ev.seg D_308 [(.aload_n 0, 1), (.iload_n 1, 1), (.iload_n 2, 1), (.iload_n 3, 1)] (by decide +kernel) (j := 0) (pc' := 4) (lv' := [(0, .ref 294), (1, .int v1), (2, .int v2), (3, .int v3)]) (st' := [.int v3, .int v2, .int v1, .ref 294]) rfl ?_
  obtain ⟨p1, e1, h⟩ := bd h
  refine Ev.callv D_308 E_309 (by decide +kernel) C_10_430 294 [.int v1, .int v2, .int v3] (r := []) rfl (gd_o k_294 (by decide)) rfl (Nat.le_of_ble_eq_true rfl) (Nat.le_of_ble_eq_true rfl) (gM_isFishers_ok (by omega)  e1) ?_
  refine Ev.if_ D_308 (c := .ne) (off := 7) (by decide +kernel) (t := 14) rfl (fun c2 => ?_) (fun c2 => ?_)
  · have c2 : ¬ p1 = 0 := of_decide_eq_true c2
    rw [if_neg c2] at h
    refine Ev.seg D_308 [(.aload_n 0, 1), (.iload_n 1, 1), (.iload_n 2, 1)] (by decide +kernel) (j := 0) (pc' := 17) (lv' := [(0, .ref 294), (1, .int v1), (2, .int v2), (3, .int v3)]) (st' := [.int v2, .int v1, .ref 294]) rfl ?_
    obtain ⟨p3, e3, h⟩ := bd h
    refine Ev.callv D_308 E_310 (by decide +kernel) C_10_436 294 [.int v1, .int v2] (r := []) rfl (gd_o k_294 (by decide)) rfl (Nat.le_of_ble_eq_true rfl) (Nat.le_of_ble_eq_true rfl) (gM_layFishers_ok (by omega)  e3) ?_
    refine Ev.seg D_308 [(.aload_n 0, 1)] (by decide +kernel) (j := 0) (pc' := 21) (lv' := [(0, .ref 294), (1, .int v1), (2, .int v2), (3, .int v3)]) (st' := [.ref 294]) rfl ?_
    refine Ev.getL D_308 (by decide +kernel) F_10_422 T_10_41 (S_oL k_294) ?_
    refine Ev.seg D_308 [(.aload_n 0, 1)] (by decide +kernel) (j := 0) (pc' := 25) (lv' := [(0, .ref 294), (1, .int v1), (2, .int v2), (3, .int v3)]) (st' := [.ref 294, .long (p3.2 294 41)]) rfl ?_
    refine Ev.getL D_308 (by decide +kernel) F_10_418 T_10_40 (S_oL k_294) ?_
    refine Ev.seg D_308 [(.iload_n 3, 1)] (by decide +kernel) (j := 0) (pc' := 29) (lv' := [(0, .ref 294), (1, .int v1), (2, .int v2), (3, .int v3)]) (st' := [.int v3, .long (p3.2 294 40), .long (p3.2 294 41)]) rfl ?_
    obtain ⟨p6, e6, h⟩ := bd h
    refine Ev.calls D_308 E_302 (by decide +kernel) C_10_401 [.long (p3.2 294 41), .long (p3.2 294 40), .int v3] (r := []) rfl rfl (Nat.le_of_ble_eq_true rfl) (Nat.le_of_ble_eq_true rfl) (gM_part_ok (by omega)  e6) ?_
    cases h
    obtain rfl : o = _ := ho
    exact Ev.lret D_308 (by decide +kernel)
  · have c2 : p1 = 0 := Decidable.of_not_not (of_decide_eq_false c2)
    rw [if_pos c2] at h
    refine Ev.ldc2 D_308 (i := 434) (by decide +kernel) (x := (-2 : Int64)) (by decide +kernel) ?_
    cases h
    obtain rfl : o = _ := ho
    exact Ev.lret D_308 (by decide +kernel)
/- PennantLawnModel mean: 311 -/
def gM_mean (v1 : Int32) (v2 : Int32) (v3 : Int32) (s : mT) : Option (Int64 × mT) :=
  (gM_isFishers v1 v2 v3 s).bind fun p1 =>
  if p1 = 0 then
    some (((-2 : Int64), s))
  else
    (gM_layFishers v1 v2 s).bind fun p3 =>
    (gM_part (p3.2 294 42) (p3.2 294 40) v3 p3).bind fun p6 =>
    some ((p6, p3))
set_option maxRecDepth 8000 in
theorem gM_mean_ok {L d : Nat} (hd : 6 ≤ d) {v1 : Int32} {v2 : Int32} {v3 : Int32} {s : mT} {p : Int64 × mT} (h : gM_mean v1 v2 v3 s = some p) : Ev d 311 0 [(0, .ref 294), (1, .int v1), (2, .int v2), (3, .int v3)] [] (uS L s) (some (.long p.1), uS L p.2) := by
  obtain ⟨d, rfl⟩ : ∃ e, d = e + 1 := ⟨d - 1, by omega⟩
  obtain ⟨o, ho⟩ : ∃ o : Option Value × mS, o = (some (.long p.1), uS L p.2) := ⟨_, rfl⟩
  rw [← ho]
  unfold gM_mean at h
  refine Ev.seg D_311 [(.aload_n 0, 1), (.iload_n 1, 1), (.iload_n 2, 1), (.iload_n 3, 1)] (by decide +kernel) (j := 0) (pc' := 4) (lv' := [(0, .ref 294), (1, .int v1), (2, .int v2), (3, .int v3)]) (st' := [.int v3, .int v2, .int v1, .ref 294]) rfl ?_
  obtain ⟨p1, e1, h⟩ := bd h
  refine Ev.callv D_311 E_309 (by decide +kernel) C_10_430 294 [.int v1, .int v2, .int v3] (r := []) rfl (gd_o k_294 (by decide)) rfl (Nat.le_of_ble_eq_true rfl) (Nat.le_of_ble_eq_true rfl) (gM_isFishers_ok (by omega)  e1) ?_
  refine Ev.if_ D_311 (c := .ne) (off := 7) (by decide +kernel) (t := 14) rfl (fun c2 => ?_) (fun c2 => ?_)
  · have c2 : ¬ p1 = 0 := of_decide_eq_true c2
    rw [if_neg c2] at h
    refine Ev.seg D_311 [(.aload_n 0, 1), (.iload_n 1, 1), (.iload_n 2, 1)] (by decide +kernel) (j := 0) (pc' := 17) (lv' := [(0, .ref 294), (1, .int v1), (2, .int v2), (3, .int v3)]) (st' := [.int v2, .int v1, .ref 294]) rfl ?_
    obtain ⟨p3, e3, h⟩ := bd h
    refine Ev.callv D_311 E_310 (by decide +kernel) C_10_436 294 [.int v1, .int v2] (r := []) rfl (gd_o k_294 (by decide)) rfl (Nat.le_of_ble_eq_true rfl) (Nat.le_of_ble_eq_true rfl) (gM_layFishers_ok (by omega)  e3) ?_
    refine Ev.seg D_311 [(.aload_n 0, 1)] (by decide +kernel) (j := 0) (pc' := 21) (lv' := [(0, .ref 294), (1, .int v1), (2, .int v2), (3, .int v3)]) (st' := [.ref 294]) rfl ?_
    refine Ev.getL D_311 (by decide +kernel) F_10_425 T_10_42 (S_oL k_294) ?_
    refine Ev.seg D_311 [(.aload_n 0, 1)] (by decide +kernel) (j := 0) (pc' := 25) (lv' := [(0, .ref 294), (1, .int v1), (2, .int v2), (3, .int v3)]) (st' := [.ref 294, .long (p3.2 294 42)]) rfl ?_
    refine Ev.getL D_311 (by decide +kernel) F_10_418 T_10_40 (S_oL k_294) ?_
    refine Ev.seg D_311 [(.iload_n 3, 1)] (by decide +kernel) (j := 0) (pc' := 29) (lv' := [(0, .ref 294), (1, .int v1), (2, .int v2), (3, .int v3)]) (st' := [.int v3, .long (p3.2 294 40), .long (p3.2 294 42)]) rfl ?_
    obtain ⟨p6, e6, h⟩ := bd h
    refine Ev.calls D_311 E_302 (by decide +kernel) C_10_401 [.long (p3.2 294 42), .long (p3.2 294 40), .int v3] (r := []) rfl rfl (Nat.le_of_ble_eq_true rfl) (Nat.le_of_ble_eq_true rfl) (gM_part_ok (by omega)  e6) ?_
    cases h
    obtain rfl : o = _ := ho
    exact Ev.lret D_311 (by decide +kernel)
  · have c2 : p1 = 0 := Decidable.of_not_not (of_decide_eq_false c2)
    rw [if_pos c2] at h
    refine Ev.ldc2 D_311 (i := 434) (by decide +kernel) (x := (-2 : Int64)) (by decide +kernel) ?_
    cases h
    obtain rfl : o = _ := ho
    exact Ev.lret D_311 (by decide +kernel)
/- PennantLawnModel keepAct: 313 -/
def gM_keepAct (v1 : Int32) (s : mT) : Option (Int32 × mT) :=
  (rdI (s.1 295) 79 (7 : Int32)).bind fun x2 =>
  if x2 = (30 : Int32) then
    some (((-5 : Int32), s))
  else
    (rdI (s.1 295) 79 (7 : Int32)).bind fun x6 =>
    (wrI s 295 79 ((49 : Int32) + x6) v1).bind fun s7 =>
    (rdI (s7.1 295) 79 (7 : Int32)).bind fun x9 =>
    (wrI s7 295 79 (7 : Int32) (x9 + (1 : Int32))).bind fun s10 =>
    (gM_asksRace s10).bind fun p11 =>
    some (((0 : Int32), p11.2))
set_option maxRecDepth 8000 in
theorem gM_keepAct_ok {L d : Nat} (hd : 6 ≤ d) {v1 : Int32} {s : mT} {p : Int32 × mT} (h : gM_keepAct v1 s = some p) : Ev d 313 0 [(0, .ref 294), (1, .int v1)] [] (uS L s) (some (.int p.1), uS L p.2) := by
  obtain ⟨d, rfl⟩ : ∃ e, d = e + 1 := ⟨d - 1, by omega⟩
  obtain ⟨o, ho⟩ : ∃ o : Option Value × mS, o = (some (.int p.1), uS L p.2) := ⟨_, rfl⟩
  rw [← ho]
  unfold gM_keepAct at h
  refine Ev.seg D_313 [(.aload_n 0, 1)] (by decide +kernel) (j := 0) (pc' := 1) (lv' := [(0, .ref 294), (1, .int v1)]) (st' := [.ref 294]) rfl ?_
  refine Ev.getR D_313 (by decide +kernel) F_10_9 T_10_1 (x := 295) (S_oR k_294 (by decide +kernel)) ?_
  refine Ev.seg D_313 [(.bipush 7, 2)] (by decide +kernel) (j := 0) (pc' := 6) (lv' := [(0, .ref 294), (1, .int v1)]) (st' := [.int (7 : Int32), .ref 295]) rfl ?_
  obtain ⟨x2, e2, h⟩ := bd h
  refine Ev.iald D_313 (by decide +kernel) (S_aI k_295 e2) ?_
  refine Ev.seg D_313 [(.bipush 30, 2)] (by decide +kernel) (j := 0) (pc' := 9) (lv' := [(0, .ref 294), (1, .int v1)]) (st' := [.int (30 : Int32), .int x2]) rfl ?_
  refine Ev.icmp D_313 (c := .ne) (off := 6) (by decide +kernel) (t := 15) rfl (fun c3 => ?_) (fun c3 => ?_)
  · have c3 : ¬ x2 = (30 : Int32) := of_decide_eq_true c3
    rw [if_neg c3] at h
    refine Ev.seg D_313 [(.aload_n 0, 1)] (by decide +kernel) (j := 0) (pc' := 16) (lv' := [(0, .ref 294), (1, .int v1)]) (st' := [.ref 294]) rfl ?_
    refine Ev.getR D_313 (by decide +kernel) F_10_9 T_10_1 (x := 295) (S_oR k_294 (by decide +kernel)) ?_
    refine Ev.seg D_313 [(.bipush 49, 2), (.aload_n 0, 1)] (by decide +kernel) (j := 0) (pc' := 22) (lv' := [(0, .ref 294), (1, .int v1)]) (st' := [.ref 294, .int (49 : Int32), .ref 295]) rfl ?_
    refine Ev.getR D_313 (by decide +kernel) F_10_9 T_10_1 (x := 295) (S_oR k_294 (by decide +kernel)) ?_
    refine Ev.seg D_313 [(.bipush 7, 2)] (by decide +kernel) (j := 0) (pc' := 27) (lv' := [(0, .ref 294), (1, .int v1)]) (st' := [.int (7 : Int32), .ref 295, .int (49 : Int32), .ref 295]) rfl ?_
    obtain ⟨x6, e6, h⟩ := bd h
    refine Ev.iald D_313 (by decide +kernel) (S_aI k_295 e6) ?_
    refine Ev.seg D_313 [(.iadd, 1), (.iload_n 1, 1)] (by decide +kernel) (j := 0) (pc' := 30) (lv' := [(0, .ref 294), (1, .int v1)]) (st' := [.int v1, .int ((49 : Int32) + x6), .ref 295]) rfl ?_
    obtain ⟨s7, e7, h⟩ := bd h
    refine Ev.iast D_313 (by decide +kernel) (S_sI k_295 e7) ?_
    refine Ev.seg D_313 [(.aload_n 0, 1)] (by decide +kernel) (j := 0) (pc' := 32) (lv' := [(0, .ref 294), (1, .int v1)]) (st' := [.ref 294]) rfl ?_
    refine Ev.getR D_313 (by decide +kernel) F_10_9 T_10_1 (x := 295) (S_oR k_294 (by decide +kernel)) ?_
    refine Ev.seg D_313 [(.bipush 7, 2), (.dup2, 1)] (by decide +kernel) (j := 0) (pc' := 38) (lv' := [(0, .ref 294), (1, .int v1)]) (st' := [.int (7 : Int32), .ref 295, .int (7 : Int32), .ref 295]) rfl ?_
    obtain ⟨x9, e9, h⟩ := bd h
    refine Ev.iald D_313 (by decide +kernel) (S_aI k_295 e9) ?_
    refine Ev.seg D_313 [(.iconst 1, 1), (.iadd, 1)] (by decide +kernel) (j := 0) (pc' := 41) (lv' := [(0, .ref 294), (1, .int v1)]) (st' := [.int (x9 + (1 : Int32)), .int (7 : Int32), .ref 295]) rfl ?_
    obtain ⟨s10, e10, h⟩ := bd h
    refine Ev.iast D_313 (by decide +kernel) (S_sI k_295 e10) ?_
    refine Ev.seg D_313 [(.aload_n 0, 1)] (by decide +kernel) (j := 0) (pc' := 43) (lv' := [(0, .ref 294), (1, .int v1)]) (st' := [.ref 294]) rfl ?_
    obtain ⟨p11, e11, h⟩ := bd h
    refine Ev.callv D_313 E_211 (by decide +kernel) C_10_269 294 [] (r := []) rfl (gd_o k_294 (by decide)) rfl (Nat.le_of_ble_eq_true rfl) (Nat.le_of_ble_eq_true rfl) (gM_asksRace_ok (by omega)  e11) ?_
    refine Ev.seg D_313 [(.pop, 1), (.iconst 0, 1)] (by decide +kernel) (j := 0) (pc' := 48) (lv' := [(0, .ref 294), (1, .int v1)]) (st' := [.int (0 : Int32)]) rfl ?_
    cases h
    obtain rfl : o = _ := ho
    exact Ev.iret D_313 (by decide +kernel)
  · have c3 : x2 = (30 : Int32) := Decidable.of_not_not (of_decide_eq_false c3)
    rw [if_pos c3] at h
    refine Ev.seg D_313 [(.bipush (-5), 2)] (by decide +kernel) (j := 0) (pc' := 14) (lv' := [(0, .ref 294), (1, .int v1)]) (st' := [.int (-5 : Int32)]) rfl ?_
    cases h
    obtain rfl : o = _ := ho
    exact Ev.iret D_313 (by decide +kernel)
/- PennantLawnModel look: 312 -/
def gM_look (v1 : Int32) (v2 : Int32) (v3 : Int32) (s : mT) : Option (Int32 × mT) :=
  (gM_isWatcher v1 s).bind fun p1 =>
  if p1 = 0 then
    some (((-2 : Int32), s))
  else
    (gM_isBoat v2.toInt64 s).bind fun p4 =>
    if p4 = 0 then
      some (((-2 : Int32), s))
    else
      (gM_isStep v3.toInt64 s).bind fun p7 =>
      if p7 = 0 then
        some (((-2 : Int32), s))
      else
        (gM_keepAct ((((1000 : Int32) * v1) + ((100 : Int32) * v2)) + v3) s).bind fun p9 =>
        (
          if 0 ≤ p9.1 then
            some (p9.2.1 294 25)
          else
            some ((-5 : Int32)) : Option (Int32)).bind fun x10 =>
        some ((x10, p9.2))
set_option maxRecDepth 8000 in
theorem gM_look_ok {L d : Nat} (hd : 7 ≤ d) {v1 : Int32} {v2 : Int32} {v3 : Int32} {s : mT} {p : Int32 × mT} (h : gM_look v1 v2 v3 s = some p) : Ev d 312 0 [(0, .ref 294), (1, .int v1), (2, .int v2), (3, .int v3)] [] (uS L s) (some (.int p.1), uS L p.2) := by
  obtain ⟨d, rfl⟩ : ∃ e, d = e + 1 := ⟨d - 1, by omega⟩
  obtain ⟨o, ho⟩ : ∃ o : Option Value × mS, o = (some (.int p.1), uS L p.2) := ⟨_, rfl⟩
  rw [← ho]
  unfold gM_look at h
  refine Ev.seg D_312 [(.aload_n 0, 1), (.iload_n 1, 1)] (by decide +kernel) (j := 0) (pc' := 2) (lv' := [(0, .ref 294), (1, .int v1), (2, .int v2), (3, .int v3)]) (st' := [.int v1, .ref 294]) rfl ?_
  obtain ⟨p1, e1, h⟩ := bd h
  refine Ev.callv D_312 E_206 (by decide +kernel) C_10_224 294 [.int v1] (r := []) rfl (gd_o k_294 (by decide)) rfl (Nat.le_of_ble_eq_true rfl) (Nat.le_of_ble_eq_true rfl) (gM_isWatcher_ok (by omega)  e1) ?_
  refine Ev.if_ D_312 (c := .eq) (off := 21) (by decide +kernel) (t := 26) rfl (fun c2 => ?_) (fun c2 => ?_)
  · have c2 : p1 = 0 := of_decide_eq_true c2
    rw [if_pos c2] at h
    refine Ev.seg D_312 [(.bipush (-2), 2)] (by decide +kernel) (j := 0) (pc' := 28) (lv' := [(0, .ref 294), (1, .int v1), (2, .int v2), (3, .int v3)]) (st' := [.int (-2 : Int32)]) rfl ?_
    cases h
    obtain rfl : o = _ := ho
    exact Ev.iret D_312 (by decide +kernel)
  · have c2 : ¬ p1 = 0 := of_decide_eq_false c2
    rw [if_neg c2] at h
    refine Ev.seg D_312 [(.aload_n 0, 1), (.iload_n 2, 1), (.i2l, 1)] (by decide +kernel) (j := 0) (pc' := 11) (lv' := [(0, .ref 294), (1, .int v1), (2, .int v2), (3, .int v3)]) (st' := [.long v2.toInt64, .ref 294]) rfl ?_
    obtain ⟨p4, e4, h⟩ := bd h
    refine Ev.callv D_312 E_204 (by decide +kernel) C_10_220 294 [.long v2.toInt64] (r := []) rfl (gd_o k_294 (by decide)) rfl (Nat.le_of_ble_eq_true rfl) (Nat.le_of_ble_eq_true rfl) (gM_isBoat_ok (by omega)  e4) ?_
    refine Ev.if_ D_312 (c := .eq) (off := 12) (by decide +kernel) (t := 26) rfl (fun c5 => ?_) (fun c5 => ?_)
    · have c5 : p4 = 0 := of_decide_eq_true c5
      rw [if_pos c5] at h
      refine Ev.seg D_312 [(.bipush (-2), 2)] (by decide +kernel) (j := 0) (pc' := 28) (lv' := [(0, .ref 294), (1, .int v1), (2, .int v2), (3, .int v3)]) (st' := [.int (-2 : Int32)]) rfl ?_
      cases h
      obtain rfl : o = _ := ho
      exact Ev.iret D_312 (by decide +kernel)
    · have c5 : ¬ p4 = 0 := of_decide_eq_false c5
      rw [if_neg c5] at h
      refine Ev.seg D_312 [(.aload_n 0, 1), (.iload_n 3, 1), (.i2l, 1)] (by decide +kernel) (j := 0) (pc' := 20) (lv' := [(0, .ref 294), (1, .int v1), (2, .int v2), (3, .int v3)]) (st' := [.long v3.toInt64, .ref 294]) rfl ?_
      obtain ⟨p7, e7, h⟩ := bd h
      refine Ev.callv D_312 E_222 (by decide +kernel) C_10_272 294 [.long v3.toInt64] (r := []) rfl (gd_o k_294 (by decide)) rfl (Nat.le_of_ble_eq_true rfl) (Nat.le_of_ble_eq_true rfl) (gM_isStep_ok (by omega)  e7) ?_
      refine Ev.if_ D_312 (c := .ne) (off := 6) (by decide +kernel) (t := 29) rfl (fun c8 => ?_) (fun c8 => ?_)
      · have c8 : ¬ p7 = 0 := of_decide_eq_true c8
        rw [if_neg c8] at h
        refine Ev.seg D_312 [(.aload_n 0, 1), (.sipush 1000, 3), (.iload_n 1, 1), (.imul, 1), (.bipush 100, 2), (.iload_n 2, 1), (.imul, 1), (.iadd, 1), (.iload_n 3, 1), (.iadd, 1)] (by decide +kernel) (j := 0) (pc' := 42) (lv' := [(0, .ref 294), (1, .int v1), (2, .int v2), (3, .int v3)]) (st' := [.int ((((1000 : Int32) * v1) + ((100 : Int32) * v2)) + v3), .ref 294]) rfl ?_
        obtain ⟨p9, e9, h⟩ := bd h
        refine Ev.callv D_312 E_313 (by decide +kernel) C_10_440 294 [.int ((((1000 : Int32) * v1) + ((100 : Int32) * v2)) + v3)] (r := []) rfl (gd_o k_294 (by decide)) rfl (Nat.le_of_ble_eq_true rfl) (Nat.le_of_ble_eq_true rfl) (gM_keepAct_ok (by omega)  e9) ?_
        obtain ⟨x10, g10, h⟩ := bd h
        have j10 : Ev (d + 1) 312 57 [] [.int x10] (uS L p9.2) o := by
          clear g10
          cases h
          obtain rfl : o = _ := ho
          exact Ev.iret D_312 (by decide +kernel)
        clear h
        refine Ev.if_ D_312 (c := .ge) (off := 8) (by decide +kernel) (t := 53) rfl (fun c10 => ?_) (fun c10 => ?_)
        · have c10 : 0 ≤ p9.1 := of_decide_eq_true c10
          rw [if_pos c10] at g10
          refine Ev.seg D_312 [(.aload_n 0, 1)] (by decide +kernel) (j := 0) (pc' := 54) (lv' := [(0, .ref 294), (1, .int v1), (2, .int v2), (3, .int v3)]) (st' := [.ref 294]) rfl ?_
          refine Ev.getI D_312 (by decide +kernel) F_10_254 (Or.inl T_10_25) (S_oI k_294) ?_
          cases g10
          exact Ev.sub2 j10 subL_nil
        · have c10 : ¬ 0 ≤ p9.1 := of_decide_eq_false c10
          rw [if_neg c10] at g10
          refine Ev.seg D_312 [(.bipush (-5), 2), (.goto 7, 3)] (by decide +kernel) (j := 0) (pc' := 57) (lv' := [(0, .ref 294), (1, .int v1), (2, .int v2), (3, .int v3)]) (st' := [.int (-5 : Int32)]) rfl ?_
          cases g10
          exact Ev.sub2 j10 subL_nil
      · have c8 : p7 = 0 := Decidable.of_not_not (of_decide_eq_false c8)
        rw [if_pos c8] at h
        refine Ev.seg D_312 [(.bipush (-2), 2)] (by decide +kernel) (j := 0) (pc' := 28) (lv' := [(0, .ref 294), (1, .int v1), (2, .int v2), (3, .int v3)]) (st' := [.int (-2 : Int32)]) rfl ?_
        cases h
        obtain rfl : o = _ := ho
        exact Ev.iret D_312 (by decide +kernel)
/- PennantLawnModel sneeze: 314 -/
def gM_sneeze (v1 : Int32) (v2 : Int32) (s : mT) : Option (Int32 × mT) :=
  (gM_isWatcher v1 s).bind fun p1 =>
  if p1 = 0 then
    some (((-2 : Int32), s))
  else
    (gM_isAhead v2 s).bind fun p4 =>
    if p4 = 0 then
      some (((-2 : Int32), s))
    else
      (gM_keepAct (((100000 : Int32) + ((100 : Int32) * v1)) + v2) s).bind fun p7 =>
      (
        if 0 ≤ p7.1 then
          some (p7.2.1 294 26)
        else
          some ((-5 : Int32)) : Option (Int32)).bind fun x8 =>
      some ((x8, p7.2))
set_option maxRecDepth 8000 in
theorem gM_sneeze_ok {L d : Nat} (hd : 7 ≤ d) {v1 : Int32} {v2 : Int32} {s : mT} {p : Int32 × mT} (h : gM_sneeze v1 v2 s = some p) : Ev d 314 0 [(0, .ref 294), (1, .int v1), (2, .int v2)] [] (uS L s) (some (.int p.1), uS L p.2) := by
  obtain ⟨d, rfl⟩ : ∃ e, d = e + 1 := ⟨d - 1, by omega⟩
  obtain ⟨o, ho⟩ : ∃ o : Option Value × mS, o = (some (.int p.1), uS L p.2) := ⟨_, rfl⟩
  rw [← ho]
  unfold gM_sneeze at h
  refine Ev.seg D_314 [(.aload_n 0, 1), (.iload_n 1, 1)] (by decide +kernel) (j := 0) (pc' := 2) (lv' := [(0, .ref 294), (1, .int v1), (2, .int v2)]) (st' := [.int v1, .ref 294]) rfl ?_
  obtain ⟨p1, e1, h⟩ := bd h
  refine Ev.callv D_314 E_206 (by decide +kernel) C_10_224 294 [.int v1] (r := []) rfl (gd_o k_294 (by decide)) rfl (Nat.le_of_ble_eq_true rfl) (Nat.le_of_ble_eq_true rfl) (gM_isWatcher_ok (by omega)  e1) ?_
  refine Ev.if_ D_314 (c := .eq) (off := 11) (by decide +kernel) (t := 16) rfl (fun c2 => ?_) (fun c2 => ?_)
  · have c2 : p1 = 0 := of_decide_eq_true c2
    rw [if_pos c2] at h
    refine Ev.seg D_314 [(.bipush (-2), 2)] (by decide +kernel) (j := 0) (pc' := 18) (lv' := [(0, .ref 294), (1, .int v1), (2, .int v2)]) (st' := [.int (-2 : Int32)]) rfl ?_
    cases h
    obtain rfl : o = _ := ho
    exact Ev.iret D_314 (by decide +kernel)
  · have c2 : ¬ p1 = 0 := of_decide_eq_false c2
    rw [if_neg c2] at h
    refine Ev.seg D_314 [(.aload_n 0, 1), (.iload_n 2, 1)] (by decide +kernel) (j := 0) (pc' := 10) (lv' := [(0, .ref 294), (1, .int v1), (2, .int v2)]) (st' := [.int v2, .ref 294]) rfl ?_
    obtain ⟨p4, e4, h⟩ := bd h
    refine Ev.callv D_314 E_226 (by decide +kernel) C_10_275 294 [.int v2] (r := []) rfl (gd_o k_294 (by decide)) rfl (Nat.le_of_ble_eq_true rfl) (Nat.le_of_ble_eq_true rfl) (gM_isAhead_ok (by omega)  e4) ?_
    refine Ev.if_ D_314 (c := .ne) (off := 6) (by decide +kernel) (t := 19) rfl (fun c5 => ?_) (fun c5 => ?_)
    · have c5 : ¬ p4 = 0 := of_decide_eq_true c5
      rw [if_neg c5] at h
      refine Ev.seg D_314 [(.aload_n 0, 1)] (by decide +kernel) (j := 0) (pc' := 20) (lv' := [(0, .ref 294), (1, .int v1), (2, .int v2)]) (st' := [.ref 294]) rfl ?_
      refine Ev.ldc D_314 (i := 253) (by decide +kernel) (v := .int (100000 : Int32)) (by decide +kernel) ?_
      refine Ev.seg D_314 [(.bipush 100, 2), (.iload_n 1, 1), (.imul, 1), (.iadd, 1), (.iload_n 2, 1), (.iadd, 1)] (by decide +kernel) (j := 0) (pc' := 29) (lv' := [(0, .ref 294), (1, .int v1), (2, .int v2)]) (st' := [.int (((100000 : Int32) + ((100 : Int32) * v1)) + v2), .ref 294]) rfl ?_
      obtain ⟨p7, e7, h⟩ := bd h
      refine Ev.callv D_314 E_313 (by decide +kernel) C_10_440 294 [.int (((100000 : Int32) + ((100 : Int32) * v1)) + v2)] (r := []) rfl (gd_o k_294 (by decide)) rfl (Nat.le_of_ble_eq_true rfl) (Nat.le_of_ble_eq_true rfl) (gM_keepAct_ok (by omega)  e7) ?_
      obtain ⟨x8, g8, h⟩ := bd h
      have j8 : Ev (d + 1) 314 44 [] [.int x8] (uS L p7.2) o := by
        clear g8
        cases h
        obtain rfl : o = _ := ho
        exact Ev.iret D_314 (by decide +kernel)
      clear h
      refine Ev.if_ D_314 (c := .ge) (off := 8) (by decide +kernel) (t := 40) rfl (fun c8 => ?_) (fun c8 => ?_)
      · have c8 : 0 ≤ p7.1 := of_decide_eq_true c8
        rw [if_pos c8] at g8
        refine Ev.seg D_314 [(.aload_n 0, 1)] (by decide +kernel) (j := 0) (pc' := 41) (lv' := [(0, .ref 294), (1, .int v1), (2, .int v2)]) (st' := [.ref 294]) rfl ?_
        refine Ev.getI D_314 (by decide +kernel) F_10_257 (Or.inl T_10_26) (S_oI k_294) ?_
        cases g8
        exact Ev.sub2 j8 subL_nil
      · have c8 : ¬ 0 ≤ p7.1 := of_decide_eq_false c8
        rw [if_neg c8] at g8
        refine Ev.seg D_314 [(.bipush (-5), 2), (.goto 7, 3)] (by decide +kernel) (j := 0) (pc' := 44) (lv' := [(0, .ref 294), (1, .int v1), (2, .int v2)]) (st' := [.int (-5 : Int32)]) rfl ?_
        cases g8
        exact Ev.sub2 j8 subL_nil
    · have c5 : p4 = 0 := Decidable.of_not_not (of_decide_eq_false c5)
      rw [if_pos c5] at h
      refine Ev.seg D_314 [(.bipush (-2), 2)] (by decide +kernel) (j := 0) (pc' := 18) (lv' := [(0, .ref 294), (1, .int v1), (2, .int v2)]) (st' := [.int (-2 : Int32)]) rfl ?_
      cases h
      obtain rfl : o = _ := ho
      exact Ev.iret D_314 (by decide +kernel)
/- PennantLawnModel undo: 315 -/
def gM_undo (s : mT) : Option (Int32 × mT) :=
  (gM_isRace s).bind fun p1 =>
  if p1 = 0 then
    some (((-2 : Int32), s))
  else
    (rdI (s.1 295) 79 (7 : Int32)).bind fun x4 =>
    if x4 = 0 then
      some (((-5 : Int32), s))
    else
      (rdI (s.1 295) 79 (7 : Int32)).bind fun x7 =>
      (wrI s 295 79 (7 : Int32) (x7 - (1 : Int32))).bind fun s8 =>
      (rdI (s8.1 295) 79 (7 : Int32)).bind fun x10 =>
      some ((x10, s8))
set_option maxRecDepth 8000 in
theorem gM_undo_ok {L d : Nat} (hd : 2 ≤ d) {s : mT} {p : Int32 × mT} (h : gM_undo s = some p) : Ev d 315 0 [(0, .ref 294)] [] (uS L s) (some (.int p.1), uS L p.2) := by
  obtain ⟨d, rfl⟩ : ∃ e, d = e + 1 := ⟨d - 1, by omega⟩
  obtain ⟨o, ho⟩ : ∃ o : Option Value × mS, o = (some (.int p.1), uS L p.2) := ⟨_, rfl⟩
  rw [← ho]
  unfold gM_undo at h
  refine Ev.seg D_315 [(.aload_n 0, 1)] (by decide +kernel) (j := 0) (pc' := 1) (lv' := [(0, .ref 294)]) (st' := [.ref 294]) rfl ?_
  obtain ⟨p1, e1, h⟩ := bd h
  refine Ev.callv D_315 E_214 (by decide +kernel) C_10_92 294 [] (r := []) rfl (gd_o k_294 (by decide)) rfl (Nat.le_of_ble_eq_true rfl) (Nat.le_of_ble_eq_true rfl) (gM_isRace_ok (by omega)  e1) ?_
  refine Ev.if_ D_315 (c := .ne) (off := 6) (by decide +kernel) (t := 10) rfl (fun c2 => ?_) (fun c2 => ?_)
  · have c2 : ¬ p1 = 0 := of_decide_eq_true c2
    rw [if_neg c2] at h
    refine Ev.seg D_315 [(.aload_n 0, 1)] (by decide +kernel) (j := 0) (pc' := 11) (lv' := [(0, .ref 294)]) (st' := [.ref 294]) rfl ?_
    refine Ev.getR D_315 (by decide +kernel) F_10_9 T_10_1 (x := 295) (S_oR k_294 (by decide +kernel)) ?_
    refine Ev.seg D_315 [(.bipush 7, 2)] (by decide +kernel) (j := 0) (pc' := 16) (lv' := [(0, .ref 294)]) (st' := [.int (7 : Int32), .ref 295]) rfl ?_
    obtain ⟨x4, e4, h⟩ := bd h
    refine Ev.iald D_315 (by decide +kernel) (S_aI k_295 e4) ?_
    refine Ev.if_ D_315 (c := .ne) (off := 6) (by decide +kernel) (t := 23) rfl (fun c5 => ?_) (fun c5 => ?_)
    · have c5 : ¬ x4 = 0 := of_decide_eq_true c5
      rw [if_neg c5] at h
      refine Ev.seg D_315 [(.aload_n 0, 1)] (by decide +kernel) (j := 0) (pc' := 24) (lv' := [(0, .ref 294)]) (st' := [.ref 294]) rfl ?_
      refine Ev.getR D_315 (by decide +kernel) F_10_9 T_10_1 (x := 295) (S_oR k_294 (by decide +kernel)) ?_
      refine Ev.seg D_315 [(.bipush 7, 2), (.dup2, 1)] (by decide +kernel) (j := 0) (pc' := 30) (lv' := [(0, .ref 294)]) (st' := [.int (7 : Int32), .ref 295, .int (7 : Int32), .ref 295]) rfl ?_
      obtain ⟨x7, e7, h⟩ := bd h
      refine Ev.iald D_315 (by decide +kernel) (S_aI k_295 e7) ?_
      refine Ev.seg D_315 [(.iconst 1, 1), (.isub, 1)] (by decide +kernel) (j := 0) (pc' := 33) (lv' := [(0, .ref 294)]) (st' := [.int (x7 - (1 : Int32)), .int (7 : Int32), .ref 295]) rfl ?_
      obtain ⟨s8, e8, h⟩ := bd h
      refine Ev.iast D_315 (by decide +kernel) (S_sI k_295 e8) ?_
      refine Ev.seg D_315 [(.aload_n 0, 1)] (by decide +kernel) (j := 0) (pc' := 35) (lv' := [(0, .ref 294)]) (st' := [.ref 294]) rfl ?_
      refine Ev.getR D_315 (by decide +kernel) F_10_9 T_10_1 (x := 295) (S_oR k_294 (by decide +kernel)) ?_
      refine Ev.seg D_315 [(.bipush 7, 2)] (by decide +kernel) (j := 0) (pc' := 40) (lv' := [(0, .ref 294)]) (st' := [.int (7 : Int32), .ref 295]) rfl ?_
      obtain ⟨x10, e10, h⟩ := bd h
      refine Ev.iald D_315 (by decide +kernel) (S_aI k_295 e10) ?_
      cases h
      obtain rfl : o = _ := ho
      exact Ev.iret D_315 (by decide +kernel)
    · have c5 : x4 = 0 := Decidable.of_not_not (of_decide_eq_false c5)
      rw [if_pos c5] at h
      refine Ev.seg D_315 [(.bipush (-5), 2)] (by decide +kernel) (j := 0) (pc' := 22) (lv' := [(0, .ref 294)]) (st' := [.int (-5 : Int32)]) rfl ?_
      cases h
      obtain rfl : o = _ := ho
      exact Ev.iret D_315 (by decide +kernel)
  · have c2 : p1 = 0 := Decidable.of_not_not (of_decide_eq_false c2)
    rw [if_pos c2] at h
    refine Ev.seg D_315 [(.bipush (-2), 2)] (by decide +kernel) (j := 0) (pc' := 9) (lv' := [(0, .ref 294)]) (st' := [.int (-2 : Int32)]) rfl ?_
    cases h
    obtain rfl : o = _ := ho
    exact Ev.iret D_315 (by decide +kernel)
/- PennantLawnModel anew: 316 -/
def gM_anew (s : mT) : Option (Int32 × mT) :=
  (gM_isRace s).bind fun p1 =>
  if p1 = 0 then
    some (((-2 : Int32), s))
  else
    (rdI (s.1 295) 79 (7 : Int32)).bind fun x4 =>
    (wrI s 295 79 (7 : Int32) (0 : Int32)).bind fun s6 =>
    some ((x4, s6))
set_option maxRecDepth 8000 in
theorem gM_anew_ok {L d : Nat} (hd : 2 ≤ d) {s : mT} {p : Int32 × mT} (h : gM_anew s = some p) : Ev d 316 0 [(0, .ref 294)] [] (uS L s) (some (.int p.1), uS L p.2) := by
  obtain ⟨d, rfl⟩ : ∃ e, d = e + 1 := ⟨d - 1, by omega⟩
  obtain ⟨o, ho⟩ : ∃ o : Option Value × mS, o = (some (.int p.1), uS L p.2) := ⟨_, rfl⟩
  rw [← ho]
  unfold gM_anew at h
  refine Ev.seg D_316 [(.aload_n 0, 1)] (by decide +kernel) (j := 0) (pc' := 1) (lv' := [(0, .ref 294)]) (st' := [.ref 294]) rfl ?_
  obtain ⟨p1, e1, h⟩ := bd h
  refine Ev.callv D_316 E_214 (by decide +kernel) C_10_92 294 [] (r := []) rfl (gd_o k_294 (by decide)) rfl (Nat.le_of_ble_eq_true rfl) (Nat.le_of_ble_eq_true rfl) (gM_isRace_ok (by omega)  e1) ?_
  refine Ev.if_ D_316 (c := .ne) (off := 6) (by decide +kernel) (t := 10) rfl (fun c2 => ?_) (fun c2 => ?_)
  · have c2 : ¬ p1 = 0 := of_decide_eq_true c2
    rw [if_neg c2] at h
    refine Ev.seg D_316 [(.aload_n 0, 1)] (by decide +kernel) (j := 0) (pc' := 11) (lv' := [(0, .ref 294)]) (st' := [.ref 294]) rfl ?_
    refine Ev.getR D_316 (by decide +kernel) F_10_9 T_10_1 (x := 295) (S_oR k_294 (by decide +kernel)) ?_
    refine Ev.seg D_316 [(.bipush 7, 2)] (by decide +kernel) (j := 0) (pc' := 16) (lv' := [(0, .ref 294)]) (st' := [.int (7 : Int32), .ref 295]) rfl ?_
    obtain ⟨x4, e4, h⟩ := bd h
    refine Ev.iald D_316 (by decide +kernel) (S_aI k_295 e4) ?_
    refine Ev.seg D_316 [(.istore_n 1, 1), (.aload_n 0, 1)] (by decide +kernel) (j := 0) (pc' := 19) (lv' := [(1, .int x4), (0, .ref 294)]) (st' := [.ref 294]) rfl ?_
    refine Ev.getR D_316 (by decide +kernel) F_10_9 T_10_1 (x := 295) (S_oR k_294 (by decide +kernel)) ?_
    refine Ev.seg D_316 [(.bipush 7, 2), (.iconst 0, 1)] (by decide +kernel) (j := 0) (pc' := 25) (lv' := [(1, .int x4), (0, .ref 294)]) (st' := [.int (0 : Int32), .int (7 : Int32), .ref 295]) rfl ?_
    obtain ⟨s6, e6, h⟩ := bd h
    refine Ev.iast D_316 (by decide +kernel) (S_sI k_295 e6) ?_
    refine Ev.seg D_316 [(.iload_n 1, 1)] (by decide +kernel) (j := 0) (pc' := 27) (lv' := [(1, .int x4), (0, .ref 294)]) (st' := [.int x4]) rfl ?_
    cases h
    obtain rfl : o = _ := ho
    exact Ev.iret D_316 (by decide +kernel)
  · have c2 : p1 = 0 := Decidable.of_not_not (of_decide_eq_false c2)
    rw [if_pos c2] at h
    refine Ev.seg D_316 [(.bipush (-2), 2)] (by decide +kernel) (j := 0) (pc' := 9) (lv' := [(0, .ref 294)]) (st' := [.int (-2 : Int32)]) rfl ?_
    cases h
    obtain rfl : o = _ := ho
    exact Ev.iret D_316 (by decide +kernel)
/- PennantLawnModel isSeed: 318 -/
def gM_isSeed (v0 : Int32) (s : mT) : Option (Int32) :=
  (gM_in v0.toInt64 (0 : Int64) (2000000000 : Int64) s).bind fun p2 =>
  if p2 = 0 ∨ p2 = 1 then some (p2) else none
set_option maxRecDepth 8000 in
theorem gM_isSeed_ok {L d : Nat} (hd : 2 ≤ d) {v0 : Int32} {s : mT} {p : Int32} (h : gM_isSeed v0 s = some p) : Ev d 318 0 [(0, .int v0)] [] (uS L s) (some (.int p), uS L s) := by
  obtain ⟨d, rfl⟩ : ∃ e, d = e + 1 := ⟨d - 1, by omega⟩
  obtain ⟨o, ho⟩ : ∃ o : Option Value × mS, o = (some (.int p), uS L s) := ⟨_, rfl⟩
  rw [← ho]
  unfold gM_isSeed at h
  refine Ev.seg D_318 [(.iload_n 0, 1), (.i2l, 1), (.lconst 0, 1)] (by decide +kernel) (j := 0) (pc' := 3) (lv' := [(0, .int v0)]) (st' := [.long (0 : Int64), .long v0.toInt64]) rfl ?_
  refine Ev.ldc2 D_318 (i := 453) (by decide +kernel) (x := (2000000000 : Int64)) (by decide +kernel) ?_
  obtain ⟨p2, e2, h⟩ := bd h
  refine Ev.calls D_318 E_184 (by decide +kernel) C_10_88 [.long v0.toInt64, .long (0 : Int64), .long (2000000000 : Int64)] (r := []) rfl rfl (Nat.le_of_ble_eq_true rfl) (Nat.le_of_ble_eq_true rfl) (gM_in_ok (by omega)  e2) ?_
  by_cases c3 : p2 = 0 ∨ p2 = 1
  · rw [if_pos c3] at h
    cases h
    obtain rfl : o = _ := ho
    exact Ev.zret D_318 c3 (by decide +kernel)
  · rw [if_neg c3] at h; cases h
/- PennantLawnModel goDrawn: 319 -/
def gM_goDrawn_h12  (q : Int64 × Int32 × Int32 × mT) : Option ((Int64 × Int32 × Int32 × mT) ⊕ (Int32 × mT)) :=
  (gM_last q.2.2.2).bind fun p1 =>
  if p1 ≤ q.2.2.1 then
    some (.inr (q.2.1, q.2.2.2))
  else
    if (2147483648 : Int64) = 0 then none else
    if (65536 : Int64) = 0 then none else
    if (10 : Int64) = 0 then none else
    (rdI (q.2.2.2.1 295) 79 (3 : Int32)).bind fun x12 =>
    (
      if (lg_cmp ((((((1103515245 : Int64) * q.1) + (12345 : Int64)) - (((1103515245 : Int64) * q.1) + (12345 : Int64)) / (2147483648 : Int64) * (2147483648 : Int64)) / (65536 : Int64)) - (((((1103515245 : Int64) * q.1) + (12345 : Int64)) - (((1103515245 : Int64) * q.1) + (12345 : Int64)) / (2147483648 : Int64) * (2147483648 : Int64)) / (65536 : Int64)) / (10 : Int64) * (10 : Int64)) x12.toInt64) < 0 then
        (rdI (q.2.2.2.1 304) 21 q.2.2.1).bind fun x16 =>
        (wrI q.2.2.2 304 21 q.2.2.1 (imax x16 (5 : Int32))).bind fun s18 =>
        some ((q.2.1 ||| ((1 : Int32) <<< (q.2.2.1 &&& 31)), s18))
      else
        some ((q.2.1, q.2.2.2)) : Option (Int32 × mT)).bind fun x13 =>
    some (.inl ((((1103515245 : Int64) * q.1) + (12345 : Int64)) - (((1103515245 : Int64) * q.1) + (12345 : Int64)) / (2147483648 : Int64) * (2147483648 : Int64), x13.1, q.2.2.1 + (1 : Int32), x13.2))
set_option maxRecDepth 8000 in
theorem gM_goDrawn_h12_ok {L d : Nat} (hd : 5 ≤ d + 1)  : ∀ (q : Int64 × Int32 × Int32 × mT) (x : (Int64 × Int32 × Int32 × mT) ⊕ (Int32 × mT)), gM_goDrawn_h12 q = some x → ∀ o, sK (fun q => Ev (d + 1) 319 12 [(0, .ref 294), (3, .long q.1), (5, .int q.2.1), (6, .int q.2.2.1)] [] (uS L q.2.2.2) o) (fun r => Ev (d + 1) 319 91 [(0, .ref 294), (5, .int r.1)] [] (uS L r.2) o) x → Ev (d + 1) 319 12 [(0, .ref 294), (3, .long q.1), (5, .int q.2.1), (6, .int q.2.2.1)] [] (uS L q.2.2.2) o := by
  intro q x h o ho
  unfold gM_goDrawn_h12 at h
  refine Ev.seg D_319 [(.iload 6, 2), (.aload_n 0, 1)] (by decide +kernel) (j := 0) (pc' := 15) (lv' := [(0, .ref 294), (3, .long q.1), (5, .int q.2.1), (6, .int q.2.2.1)]) (st' := [.ref 294, .int q.2.2.1]) rfl ?_
  obtain ⟨p1, e1, h⟩ := bd h
  refine Ev.callv D_319 E_216 (by decide +kernel) C_10_96 294 [] (r := [.int q.2.2.1]) rfl (gd_o k_294 (by decide)) rfl (Nat.le_of_ble_eq_true rfl) (Nat.le_of_ble_eq_true rfl) (gM_last_ok (by omega)  e1) ?_
  refine Ev.icmp D_319 (c := .ge) (off := 73) (by decide +kernel) (t := 91) rfl (fun c2 => ?_) (fun c2 => ?_)
  · have c2 : p1 ≤ q.2.2.1 := of_decide_eq_true c2
    rw [if_pos c2] at h
    cases h
    exact Ev.sub (lv' := [(0, .ref 294), (5, .int q.2.1)]) (subL_cons rfl (subL_cons rfl subL_nil)) ho
  · have c2 : ¬ p1 ≤ q.2.2.1 := of_decide_eq_false c2
    rw [if_neg c2] at h
    refine Ev.ldc2 D_319 (i := 443) (by decide +kernel) (x := (1103515245 : Int64)) (by decide +kernel) ?_
    refine Ev.seg D_319 [(.lload_n 3, 1), (.lmul, 1)] (by decide +kernel) (j := 0) (pc' := 26) (lv' := [(0, .ref 294), (3, .long q.1), (5, .int q.2.1), (6, .int q.2.2.1)]) (st' := [.long ((1103515245 : Int64) * q.1)]) rfl ?_
    refine Ev.ldc2 D_319 (i := 445) (by decide +kernel) (x := (12345 : Int64)) (by decide +kernel) ?_
    refine Ev.seg D_319 [(.ladd, 1)] (by decide +kernel) (j := 0) (pc' := 30) (lv' := [(0, .ref 294), (3, .long q.1), (5, .int q.2.1), (6, .int q.2.2.1)]) (st' := [.long (((1103515245 : Int64) * q.1) + (12345 : Int64))]) rfl ?_
    refine Ev.ldc2 D_319 (i := 447) (by decide +kernel) (x := (2147483648 : Int64)) (by decide +kernel) ?_
    by_cases c6 : (2147483648 : Int64) = 0
    · rw [if_pos c6] at h; cases h
    rw [if_neg c6] at h
    refine Ev.lrem D_319 (by decide +kernel) c6 ?_
    refine Ev.seg D_319 [(.lstore_n 3, 1), (.lload_n 3, 1)] (by decide +kernel) (j := 0) (pc' := 36) (lv' := [(3, .long ((((1103515245 : Int64) * q.1) + (12345 : Int64)) - (((1103515245 : Int64) * q.1) + (12345 : Int64)) / (2147483648 : Int64) * (2147483648 : Int64))), (0, .ref 294), (5, .int q.2.1), (6, .int q.2.2.1)]) (st' := [.long ((((1103515245 : Int64) * q.1) + (12345 : Int64)) - (((1103515245 : Int64) * q.1) + (12345 : Int64)) / (2147483648 : Int64) * (2147483648 : Int64))]) rfl ?_
    refine Ev.ldc2 D_319 (i := 449) (by decide +kernel) (x := (65536 : Int64)) (by decide +kernel) ?_
    by_cases c8 : (65536 : Int64) = 0
    · rw [if_pos c8] at h; cases h
    rw [if_neg c8] at h
    refine Ev.ldiv D_319 (by decide +kernel) c8 ?_
    refine Ev.ldc2 D_319 (i := 451) (by decide +kernel) (x := (10 : Int64)) (by decide +kernel) ?_
    by_cases c10 : (10 : Int64) = 0
    · rw [if_pos c10] at h; cases h
    rw [if_neg c10] at h
    refine Ev.lrem D_319 (by decide +kernel) c10 ?_
    refine Ev.seg D_319 [(.aload_n 0, 1)] (by decide +kernel) (j := 0) (pc' := 45) (lv' := [(3, .long ((((1103515245 : Int64) * q.1) + (12345 : Int64)) - (((1103515245 : Int64) * q.1) + (12345 : Int64)) / (2147483648 : Int64) * (2147483648 : Int64))), (0, .ref 294), (5, .int q.2.1), (6, .int q.2.2.1)]) (st' := [.ref 294, .long ((((((1103515245 : Int64) * q.1) + (12345 : Int64)) - (((1103515245 : Int64) * q.1) + (12345 : Int64)) / (2147483648 : Int64) * (2147483648 : Int64)) / (65536 : Int64)) - (((((1103515245 : Int64) * q.1) + (12345 : Int64)) - (((1103515245 : Int64) * q.1) + (12345 : Int64)) / (2147483648 : Int64) * (2147483648 : Int64)) / (65536 : Int64)) / (10 : Int64) * (10 : Int64))]) rfl ?_
    refine Ev.getR D_319 (by decide +kernel) F_10_9 T_10_1 (x := 295) (S_oR k_294 (by decide +kernel)) ?_
    refine Ev.seg D_319 [(.iconst 3, 1)] (by decide +kernel) (j := 0) (pc' := 49) (lv' := [(3, .long ((((1103515245 : Int64) * q.1) + (12345 : Int64)) - (((1103515245 : Int64) * q.1) + (12345 : Int64)) / (2147483648 : Int64) * (2147483648 : Int64))), (0, .ref 294), (5, .int q.2.1), (6, .int q.2.2.1)]) (st' := [.int (3 : Int32), .ref 295, .long ((((((1103515245 : Int64) * q.1) + (12345 : Int64)) - (((1103515245 : Int64) * q.1) + (12345 : Int64)) / (2147483648 : Int64) * (2147483648 : Int64)) / (65536 : Int64)) - (((((1103515245 : Int64) * q.1) + (12345 : Int64)) - (((1103515245 : Int64) * q.1) + (12345 : Int64)) / (2147483648 : Int64) * (2147483648 : Int64)) / (65536 : Int64)) / (10 : Int64) * (10 : Int64))]) rfl ?_
    obtain ⟨x12, e12, h⟩ := bd h
    refine Ev.iald D_319 (by decide +kernel) (S_aI k_295 e12) ?_
    refine Ev.seg D_319 [(.i2l, 1), (.lcmp, 1)] (by decide +kernel) (j := 0) (pc' := 52) (lv' := [(3, .long ((((1103515245 : Int64) * q.1) + (12345 : Int64)) - (((1103515245 : Int64) * q.1) + (12345 : Int64)) / (2147483648 : Int64) * (2147483648 : Int64))), (0, .ref 294), (5, .int q.2.1), (6, .int q.2.2.1)]) (st' := [.int (lg_cmp ((((((1103515245 : Int64) * q.1) + (12345 : Int64)) - (((1103515245 : Int64) * q.1) + (12345 : Int64)) / (2147483648 : Int64) * (2147483648 : Int64)) / (65536 : Int64)) - (((((1103515245 : Int64) * q.1) + (12345 : Int64)) - (((1103515245 : Int64) * q.1) + (12345 : Int64)) / (2147483648 : Int64) * (2147483648 : Int64)) / (65536 : Int64)) / (10 : Int64) * (10 : Int64)) x12.toInt64)]) rfl ?_
    obtain ⟨x13, g13, h⟩ := bd h
    have j13 : Ev (d + 1) 319 85 [(0, .ref 294), (3, .long ((((1103515245 : Int64) * q.1) + (12345 : Int64)) - (((1103515245 : Int64) * q.1) + (12345 : Int64)) / (2147483648 : Int64) * (2147483648 : Int64))), (5, .int x13.1), (6, .int q.2.2.1)] [] (uS L x13.2) o := by
      clear g13
      refine Ev.seg D_319 [(.iinc 6 1, 3), (.goto (-76), 3)] (by decide +kernel) (j := 0) (pc' := 12) (lv' := [(6, .int (q.2.2.1 + (1 : Int32))), (0, .ref 294), (3, .long ((((1103515245 : Int64) * q.1) + (12345 : Int64)) - (((1103515245 : Int64) * q.1) + (12345 : Int64)) / (2147483648 : Int64) * (2147483648 : Int64))), (5, .int x13.1)]) (st' := []) rfl ?_
      cases h
      exact Ev.sub (lv' := [(0, .ref 294), (3, .long ((((1103515245 : Int64) * q.1) + (12345 : Int64)) - (((1103515245 : Int64) * q.1) + (12345 : Int64)) / (2147483648 : Int64) * (2147483648 : Int64))), (5, .int (x13.1)), (6, .int (q.2.2.1 + (1 : Int32)))]) (subL_cons rfl (subL_cons rfl (subL_cons rfl (subL_cons rfl subL_nil)))) ho
    clear h
    refine Ev.if_ D_319 (c := .lt) (off := 6) (by decide +kernel) (t := 58) rfl (fun c13 => ?_) (fun c13 => ?_)
    · have c13 : (lg_cmp ((((((1103515245 : Int64) * q.1) + (12345 : Int64)) - (((1103515245 : Int64) * q.1) + (12345 : Int64)) / (2147483648 : Int64) * (2147483648 : Int64)) / (65536 : Int64)) - (((((1103515245 : Int64) * q.1) + (12345 : Int64)) - (((1103515245 : Int64) * q.1) + (12345 : Int64)) / (2147483648 : Int64) * (2147483648 : Int64)) / (65536 : Int64)) / (10 : Int64) * (10 : Int64)) x12.toInt64) < 0 := of_decide_eq_true c13
      rw [if_pos c13] at g13
      refine Ev.seg D_319 [(.aload_n 0, 1)] (by decide +kernel) (j := 0) (pc' := 59) (lv' := [(3, .long ((((1103515245 : Int64) * q.1) + (12345 : Int64)) - (((1103515245 : Int64) * q.1) + (12345 : Int64)) / (2147483648 : Int64) * (2147483648 : Int64))), (0, .ref 294), (5, .int q.2.1), (6, .int q.2.2.1)]) (st' := [.ref 294]) rfl ?_
      refine Ev.getR D_319 (by decide +kernel) F_10_43 T_10_18 (x := 304) (S_oR k_294 (by decide +kernel)) ?_
      refine Ev.seg D_319 [(.iload 6, 2), (.aload_n 0, 1)] (by decide +kernel) (j := 0) (pc' := 65) (lv' := [(3, .long ((((1103515245 : Int64) * q.1) + (12345 : Int64)) - (((1103515245 : Int64) * q.1) + (12345 : Int64)) / (2147483648 : Int64) * (2147483648 : Int64))), (0, .ref 294), (5, .int q.2.1), (6, .int q.2.2.1)]) (st' := [.ref 294, .int q.2.2.1, .ref 304]) rfl ?_
      refine Ev.getR D_319 (by decide +kernel) F_10_43 T_10_18 (x := 304) (S_oR k_294 (by decide +kernel)) ?_
      refine Ev.seg D_319 [(.iload 6, 2)] (by decide +kernel) (j := 0) (pc' := 70) (lv' := [(3, .long ((((1103515245 : Int64) * q.1) + (12345 : Int64)) - (((1103515245 : Int64) * q.1) + (12345 : Int64)) / (2147483648 : Int64) * (2147483648 : Int64))), (0, .ref 294), (5, .int q.2.1), (6, .int q.2.2.1)]) (st' := [.int q.2.2.1, .ref 304, .int q.2.2.1, .ref 304]) rfl ?_
      obtain ⟨x16, e16, g13⟩ := bd g13
      refine Ev.iald D_319 (by decide +kernel) (S_aI k_304 e16) ?_
      refine Ev.seg D_319 [(.iconst 5, 1)] (by decide +kernel) (j := 0) (pc' := 72) (lv' := [(3, .long ((((1103515245 : Int64) * q.1) + (12345 : Int64)) - (((1103515245 : Int64) * q.1) + (12345 : Int64)) / (2147483648 : Int64) * (2147483648 : Int64))), (0, .ref 294), (5, .int q.2.1), (6, .int q.2.2.1)]) (st' := [.int (5 : Int32), .int x16, .int q.2.2.1, .ref 304]) rfl ?_
      refine Ev.max D_319 (by decide +kernel) (Nat.succ_pos _) C_10_237 (Nat.le_of_ble_eq_true rfl) ?_
      obtain ⟨s18, e18, g13⟩ := bd g13
      refine Ev.iast D_319 (by decide +kernel) (S_sI k_304 e18) ?_
      refine Ev.seg D_319 [(.iload 5, 2), (.iconst 1, 1), (.iload 6, 2), (.ishl, 1), (.ior, 1), (.istore 5, 2)] (by decide +kernel) (j := 0) (pc' := 85) (lv' := [(5, .int (q.2.1 ||| ((1 : Int32) <<< (q.2.2.1 &&& 31)))), (3, .long ((((1103515245 : Int64) * q.1) + (12345 : Int64)) - (((1103515245 : Int64) * q.1) + (12345 : Int64)) / (2147483648 : Int64) * (2147483648 : Int64))), (0, .ref 294), (6, .int q.2.2.1)]) (st' := []) rfl ?_
      cases g13
      exact Ev.sub2 j13 (subL_cons rfl (subL_cons rfl (subL_cons rfl (subL_cons rfl subL_nil))))
    · have c13 : ¬ (lg_cmp ((((((1103515245 : Int64) * q.1) + (12345 : Int64)) - (((1103515245 : Int64) * q.1) + (12345 : Int64)) / (2147483648 : Int64) * (2147483648 : Int64)) / (65536 : Int64)) - (((((1103515245 : Int64) * q.1) + (12345 : Int64)) - (((1103515245 : Int64) * q.1) + (12345 : Int64)) / (2147483648 : Int64) * (2147483648 : Int64)) / (65536 : Int64)) / (10 : Int64) * (10 : Int64)) x12.toInt64) < 0 := of_decide_eq_false c13
      rw [if_neg c13] at g13
      refine Ev.seg D_319 [(.goto 30, 3)] (by decide +kernel) (j := 0) (pc' := 85) (lv' := [(3, .long ((((1103515245 : Int64) * q.1) + (12345 : Int64)) - (((1103515245 : Int64) * q.1) + (12345 : Int64)) / (2147483648 : Int64) * (2147483648 : Int64))), (0, .ref 294), (5, .int q.2.1), (6, .int q.2.2.1)]) (st' := []) rfl ?_
      cases g13
      exact Ev.sub2 j13 (subL_cons rfl (subL_cons rfl (subL_cons rfl (subL_cons rfl subL_nil))))
theorem gM_goDrawn_h12_w {L d : Nat} (hd : 5 ≤ d + 1)  : ∀ (n : Nat) (q : Int64 × Int32 × Int32 × mT) (r : Int32 × mT), wh n (gM_goDrawn_h12) q = some r → ∀ o, (fun r => Ev (d + 1) 319 91 [(0, .ref 294), (5, .int r.1)] [] (uS L r.2) o) r → Ev (d + 1) 319 12 [(0, .ref 294), (3, .long q.1), (5, .int q.2.1), (6, .int q.2.2.1)] [] (uS L q.2.2.2) o :=
  fun n q r h o hc => wh_ev (E := fun (q : Int64 × Int32 × Int32 × mT) o => Ev (d + 1) 319 12 [(0, .ref 294), (3, .long q.1), (5, .int q.2.1), (6, .int q.2.2.1)] [] (uS L q.2.2.2) o) (C := fun (r : Int32 × mT) o => (fun r => Ev (d + 1) 319 91 [(0, .ref 294), (5, .int r.1)] [] (uS L r.2) o) r) (gM_goDrawn_h12_ok hd  ) n q r h o hc
def gM_goDrawn (v1 : Int64) (s : mT) : Option (Int32 × mT) :=
  (gM_asItIs s).bind fun p1 =>
  (wh FU (gM_goDrawn_h12) (v1, (0 : Int32), (0 : Int32), p1)).bind fun x19 =>
  (gM_goAll x19.2).bind fun p20 =>
  some ((x19.1, p20))
set_option maxRecDepth 8000 in
theorem gM_goDrawn_ok {L d : Nat} (hd : 5 ≤ d) {v1 : Int64} {s : mT} {p : Int32 × mT} (h : gM_goDrawn v1 s = some p) : Ev d 319 0 [(0, .ref 294), (1, .long v1)] [] (uS L s) (some (.int p.1), uS L p.2) := by
  obtain ⟨d, rfl⟩ : ∃ e, d = e + 1 := ⟨d - 1, by omega⟩
  obtain ⟨o, ho⟩ : ∃ o : Option Value × mS, o = (some (.int p.1), uS L p.2) := ⟨_, rfl⟩
  rw [← ho]
  unfold gM_goDrawn at h
  refine Ev.seg D_319 [(.aload_n 0, 1)] (by decide +kernel) (j := 0) (pc' := 1) (lv' := [(0, .ref 294), (1, .long v1)]) (st' := [.ref 294]) rfl ?_
  obtain ⟨p1, e1, h⟩ := bd h
  refine Ev.callv D_319 E_212 (by decide +kernel) C_10_263 294 [] (r := []) rfl (gd_o k_294 (by decide)) rfl (Nat.le_of_ble_eq_true rfl) (Nat.le_of_ble_eq_true rfl) (gM_asItIs_ok (by omega)  e1) ?_
  refine Ev.seg D_319 [(.lload_n 1, 1), (.lstore_n 3, 1), (.iconst 0, 1), (.istore 5, 2), (.iconst 0, 1), (.istore 6, 2)] (by decide +kernel) (j := 0) (pc' := 12) (lv' := [(6, .int (0 : Int32)), (5, .int (0 : Int32)), (3, .long v1), (0, .ref 294), (1, .long v1)]) (st' := []) rfl ?_
  obtain ⟨x19, w19, h⟩ := bd h
  have j19 : Ev (d + 1) 319 91 [(0, .ref 294), (5, .int x19.1)] [] (uS L x19.2) o := by
    clear w19
    refine Ev.seg D_319 [(.aload_n 0, 1)] (by decide +kernel) (j := 0) (pc' := 92) (lv' := [(0, .ref 294), (5, .int x19.1)]) (st' := [.ref 294]) rfl ?_
    obtain ⟨p20, e20, h⟩ := bd h
    refine Ev.callv D_319 E_215 (by decide +kernel) C_10_266 294 [] (r := []) rfl (gd_o k_294 (by decide)) rfl (Nat.le_of_ble_eq_true rfl) (Nat.le_of_ble_eq_true rfl) (gM_goAll_ok (by omega)  e20) ?_
    refine Ev.seg D_319 [(.iload 5, 2)] (by decide +kernel) (j := 0) (pc' := 97) (lv' := [(0, .ref 294), (5, .int x19.1)]) (st' := [.int x19.1]) rfl ?_
    cases h
    obtain rfl : o = _ := ho
    exact Ev.iret D_319 (by decide +kernel)
  exact Ev.sub (lv' := [(0, .ref 294), (3, .long v1), (5, .int (0 : Int32)), (6, .int (0 : Int32))]) (subL_cons rfl (subL_cons rfl (subL_cons rfl (subL_cons rfl subL_nil)))) (gM_goDrawn_h12_w hd   _ _ _ w19 _ j19)
/- PennantLawnModel drawn: 317 -/
def gM_drawn (v1 : Int32) (v2 : Int32) (s : mT) : Option (Int32 × mT) :=
  (gM_isRace s).bind fun p1 =>
  if p1 = 0 then
    some (((-2 : Int32), s))
  else
    (gM_isSeed v1 s).bind fun p4 =>
    if p4 = 0 then
      some (((-2 : Int32), s))
    else
      (gM_in v2.toInt64 (0 : Int64) (1 : Int64) s).bind fun p7 =>
      if p7 = 0 then
        some (((-2 : Int32), s))
      else
        (gM_goDrawn v1.toInt64 s).bind fun p9 =>
        (
          if v2 = 0 then
            some (p9.1)
          else
            (gM_winsOf p9.2).bind fun p11 =>
            some (p11) : Option (Int32)).bind fun x10 =>
        some ((x10, p9.2))
set_option maxRecDepth 8000 in
theorem gM_drawn_ok {L d : Nat} (hd : 6 ≤ d) {v1 : Int32} {v2 : Int32} {s : mT} {p : Int32 × mT} (h : gM_drawn v1 v2 s = some p) : Ev d 317 0 [(0, .ref 294), (1, .int v1), (2, .int v2)] [] (uS L s) (some (.int p.1), uS L p.2) := by
  obtain ⟨d, rfl⟩ : ∃ e, d = e + 1 := ⟨d - 1, by omega⟩
  obtain ⟨o, ho⟩ : ∃ o : Option Value × mS, o = (some (.int p.1), uS L p.2) := ⟨_, rfl⟩
  rw [← ho]
  unfold gM_drawn at h
  refine Ev.seg D_317 [(.aload_n 0, 1)] (by decide +kernel) (j := 0) (pc' := 1) (lv' := [(0, .ref 294), (1, .int v1), (2, .int v2)]) (st' := [.ref 294]) rfl ?_
  obtain ⟨p1, e1, h⟩ := bd h
  refine Ev.callv D_317 E_214 (by decide +kernel) C_10_92 294 [] (r := []) rfl (gd_o k_294 (by decide)) rfl (Nat.le_of_ble_eq_true rfl) (Nat.le_of_ble_eq_true rfl) (gM_isRace_ok (by omega)  e1) ?_
  refine Ev.if_ D_317 (c := .eq) (off := 20) (by decide +kernel) (t := 24) rfl (fun c2 => ?_) (fun c2 => ?_)
  · have c2 : p1 = 0 := of_decide_eq_true c2
    rw [if_pos c2] at h
    refine Ev.seg D_317 [(.bipush (-2), 2)] (by decide +kernel) (j := 0) (pc' := 26) (lv' := [(0, .ref 294), (1, .int v1), (2, .int v2)]) (st' := [.int (-2 : Int32)]) rfl ?_
    cases h
    obtain rfl : o = _ := ho
    exact Ev.iret D_317 (by decide +kernel)
  · have c2 : ¬ p1 = 0 := of_decide_eq_false c2
    rw [if_neg c2] at h
    refine Ev.seg D_317 [(.iload_n 1, 1)] (by decide +kernel) (j := 0) (pc' := 8) (lv' := [(0, .ref 294), (1, .int v1), (2, .int v2)]) (st' := [.int v1]) rfl ?_
    obtain ⟨p4, e4, h⟩ := bd h
    refine Ev.calls D_317 E_318 (by decide +kernel) C_10_455 [.int v1] (r := []) rfl rfl (Nat.le_of_ble_eq_true rfl) (Nat.le_of_ble_eq_true rfl) (gM_isSeed_ok (by omega)  e4) ?_
    refine Ev.if_ D_317 (c := .eq) (off := 13) (by decide +kernel) (t := 24) rfl (fun c5 => ?_) (fun c5 => ?_)
    · have c5 : p4 = 0 := of_decide_eq_true c5
      rw [if_pos c5] at h
      refine Ev.seg D_317 [(.bipush (-2), 2)] (by decide +kernel) (j := 0) (pc' := 26) (lv' := [(0, .ref 294), (1, .int v1), (2, .int v2)]) (st' := [.int (-2 : Int32)]) rfl ?_
      cases h
      obtain rfl : o = _ := ho
      exact Ev.iret D_317 (by decide +kernel)
    · have c5 : ¬ p4 = 0 := of_decide_eq_false c5
      rw [if_neg c5] at h
      refine Ev.seg D_317 [(.iload_n 2, 1), (.i2l, 1), (.lconst 0, 1), (.lconst 1, 1)] (by decide +kernel) (j := 0) (pc' := 18) (lv' := [(0, .ref 294), (1, .int v1), (2, .int v2)]) (st' := [.long (1 : Int64), .long (0 : Int64), .long v2.toInt64]) rfl ?_
      obtain ⟨p7, e7, h⟩ := bd h
      refine Ev.calls D_317 E_184 (by decide +kernel) C_10_88 [.long v2.toInt64, .long (0 : Int64), .long (1 : Int64)] (r := []) rfl rfl (Nat.le_of_ble_eq_true rfl) (Nat.le_of_ble_eq_true rfl) (gM_in_ok (by omega)  e7) ?_
      refine Ev.if_ D_317 (c := .ne) (off := 6) (by decide +kernel) (t := 27) rfl (fun c8 => ?_) (fun c8 => ?_)
      · have c8 : ¬ p7 = 0 := of_decide_eq_true c8
        rw [if_neg c8] at h
        refine Ev.seg D_317 [(.aload_n 0, 1), (.iload_n 1, 1), (.i2l, 1)] (by decide +kernel) (j := 0) (pc' := 30) (lv' := [(0, .ref 294), (1, .int v1), (2, .int v2)]) (st' := [.long v1.toInt64, .ref 294]) rfl ?_
        obtain ⟨p9, e9, h⟩ := bd h
        refine Ev.callv D_317 E_319 (by decide +kernel) C_10_458 294 [.long v1.toInt64] (r := []) rfl (gd_o k_294 (by decide)) rfl (Nat.le_of_ble_eq_true rfl) (Nat.le_of_ble_eq_true rfl) (gM_goDrawn_ok (by omega)  e9) ?_
        refine Ev.seg D_317 [(.istore_n 3, 1), (.iload_n 2, 1)] (by decide +kernel) (j := 0) (pc' := 35) (lv' := [(3, .int p9.1), (0, .ref 294), (1, .int v1), (2, .int v2)]) (st' := [.int v2]) rfl ?_
        obtain ⟨x10, g10, h⟩ := bd h
        have j10 : Ev (d + 1) 317 46 [] [.int x10] (uS L p9.2) o := by
          clear g10
          cases h
          obtain rfl : o = _ := ho
          exact Ev.iret D_317 (by decide +kernel)
        clear h
        refine Ev.if_ D_317 (c := .ne) (off := 7) (by decide +kernel) (t := 42) rfl (fun c10 => ?_) (fun c10 => ?_)
        · have c10 : ¬ v2 = 0 := of_decide_eq_true c10
          rw [if_neg c10] at g10
          refine Ev.seg D_317 [(.aload_n 0, 1)] (by decide +kernel) (j := 0) (pc' := 43) (lv' := [(3, .int p9.1), (0, .ref 294), (1, .int v1), (2, .int v2)]) (st' := [.ref 294]) rfl ?_
          obtain ⟨p11, e11, g10⟩ := bd g10
          refine Ev.callv D_317 E_242 (by decide +kernel) C_10_299 294 [] (r := []) rfl (gd_o k_294 (by decide)) rfl (Nat.le_of_ble_eq_true rfl) (Nat.le_of_ble_eq_true rfl) (gM_winsOf_ok (by omega)  e11) ?_
          cases g10
          exact Ev.sub2 j10 subL_nil
        · have c10 : v2 = 0 := Decidable.of_not_not (of_decide_eq_false c10)
          rw [if_pos c10] at g10
          refine Ev.seg D_317 [(.iload_n 3, 1), (.goto 7, 3)] (by decide +kernel) (j := 0) (pc' := 46) (lv' := [(3, .int p9.1), (0, .ref 294), (1, .int v1), (2, .int v2)]) (st' := [.int p9.1]) rfl ?_
          cases g10
          exact Ev.sub2 j10 subL_nil
      · have c8 : p7 = 0 := Decidable.of_not_not (of_decide_eq_false c8)
        rw [if_pos c8] at h
        refine Ev.seg D_317 [(.bipush (-2), 2)] (by decide +kernel) (j := 0) (pc' := 26) (lv' := [(0, .ref 294), (1, .int v1), (2, .int v2)]) (st' := [.int (-2 : Int32)]) rfl ?_
        cases h
        obtain rfl : o = _ := ho
        exact Ev.iret D_317 (by decide +kernel)
/- PennantLawnModel luck: 320 -/
def gM_luck_h37 (v1 : Int32) (v2 : Int32) (v3 : Int32) (q : Int32 × Int32 × mT) : Option ((Int32 × Int32 × mT) ⊕ (Int32 × mT)) :=
  if v2 ≤ q.2.1 then
    some (.inr (q.1, q.2.2))
  else
    (gM_goDrawn (v1.toInt64 + q.2.1.toInt64) q.2.2).bind fun p2 =>
    (gM_winsOf p2.2).bind fun p3 =>
    (
      if p3 = v3 then
        some ((1 : Int32))
      else
        some ((0 : Int32)) : Option (Int32)).bind fun x4 =>
    some (.inl (q.1 + x4, q.2.1 + (1 : Int32), p2.2))
set_option maxRecDepth 8000 in
theorem gM_luck_h37_ok {L d : Nat} (hd : 6 ≤ d + 1) {v1 : Int32} {v2 : Int32} {v3 : Int32} : ∀ (q : Int32 × Int32 × mT) (x : (Int32 × Int32 × mT) ⊕ (Int32 × mT)), gM_luck_h37 v1 v2 v3 q = some x → ∀ o, sK (fun q => Ev (d + 1) 320 37 [(0, .ref 294), (1, .int v1), (2, .int v2), (3, .int v3), (4, .int q.1), (5, .int q.2.1)] [] (uS L q.2.2) o) (fun r => Ev (d + 1) 320 78 [(4, .int r.1)] [] (uS L r.2) o) x → Ev (d + 1) 320 37 [(0, .ref 294), (1, .int v1), (2, .int v2), (3, .int v3), (4, .int q.1), (5, .int q.2.1)] [] (uS L q.2.2) o := by
  intro q x h o ho
  unfold gM_luck_h37 at h
  refine Ev.seg D_320 [(.iload 5, 2), (.iload_n 2, 1)] (by decide +kernel) (j := 0) (pc' := 40) (lv' := [(0, .ref 294), (1, .int v1), (2, .int v2), (3, .int v3), (4, .int q.1), (5, .int q.2.1)]) (st' := [.int v2, .int q.2.1]) rfl ?_
  refine Ev.icmp D_320 (c := .ge) (off := 38) (by decide +kernel) (t := 78) rfl (fun c1 => ?_) (fun c1 => ?_)
  · have c1 : v2 ≤ q.2.1 := of_decide_eq_true c1
    rw [if_pos c1] at h
    cases h
    exact Ev.sub (lv' := [(4, .int q.1)]) (subL_cons rfl subL_nil) ho
  · have c1 : ¬ v2 ≤ q.2.1 := of_decide_eq_false c1
    rw [if_neg c1] at h
    refine Ev.seg D_320 [(.aload_n 0, 1), (.iload_n 1, 1), (.i2l, 1), (.iload 5, 2), (.i2l, 1), (.ladd, 1)] (by decide +kernel) (j := 0) (pc' := 50) (lv' := [(0, .ref 294), (1, .int v1), (2, .int v2), (3, .int v3), (4, .int q.1), (5, .int q.2.1)]) (st' := [.long (v1.toInt64 + q.2.1.toInt64), .ref 294]) rfl ?_
    obtain ⟨p2, e2, h⟩ := bd h
    refine Ev.callv D_320 E_319 (by decide +kernel) C_10_458 294 [.long (v1.toInt64 + q.2.1.toInt64)] (r := []) rfl (gd_o k_294 (by decide)) rfl (Nat.le_of_ble_eq_true rfl) (Nat.le_of_ble_eq_true rfl) (gM_goDrawn_ok (by omega)  e2) ?_
    refine Ev.seg D_320 [(.pop, 1), (.iload 4, 2), (.aload_n 0, 1)] (by decide +kernel) (j := 0) (pc' := 57) (lv' := [(0, .ref 294), (1, .int v1), (2, .int v2), (3, .int v3), (4, .int q.1), (5, .int q.2.1)]) (st' := [.ref 294, .int q.1]) rfl ?_
    obtain ⟨p3, e3, h⟩ := bd h
    refine Ev.callv D_320 E_242 (by decide +kernel) C_10_299 294 [] (r := [.int q.1]) rfl (gd_o k_294 (by decide)) rfl (Nat.le_of_ble_eq_true rfl) (Nat.le_of_ble_eq_true rfl) (gM_winsOf_ok (by omega)  e3) ?_
    refine Ev.seg D_320 [(.iload_n 3, 1)] (by decide +kernel) (j := 0) (pc' := 61) (lv' := [(0, .ref 294), (1, .int v1), (2, .int v2), (3, .int v3), (4, .int q.1), (5, .int q.2.1)]) (st' := [.int v3, .int p3, .int q.1]) rfl ?_
    obtain ⟨x4, g4, h⟩ := bd h
    have j4 : Ev (d + 1) 320 69 [(0, .ref 294), (1, .int v1), (2, .int v2), (3, .int v3), (5, .int q.2.1)] [.int x4, .int q.1] (uS L p2.2) o := by
      clear g4
      refine Ev.seg D_320 [(.iadd, 1), (.istore 4, 2), (.iinc 5 1, 3), (.goto (-38), 3)] (by decide +kernel) (j := 0) (pc' := 37) (lv' := [(5, .int (q.2.1 + (1 : Int32))), (4, .int (q.1 + x4)), (0, .ref 294), (1, .int v1), (2, .int v2), (3, .int v3)]) (st' := []) rfl ?_
      cases h
      exact Ev.sub (lv' := [(0, .ref 294), (1, .int v1), (2, .int v2), (3, .int v3), (4, .int (q.1 + x4)), (5, .int (q.2.1 + (1 : Int32)))]) (subL_cons rfl (subL_cons rfl (subL_cons rfl (subL_cons rfl (subL_cons rfl (subL_cons rfl subL_nil)))))) ho
    clear h
    refine Ev.icmp D_320 (c := .ne) (off := 7) (by decide +kernel) (t := 68) rfl (fun c4 => ?_) (fun c4 => ?_)
    · have c4 : ¬ p3 = v3 := of_decide_eq_true c4
      rw [if_neg c4] at g4
      refine Ev.seg D_320 [(.iconst 0, 1)] (by decide +kernel) (j := 0) (pc' := 69) (lv' := [(0, .ref 294), (1, .int v1), (2, .int v2), (3, .int v3), (4, .int q.1), (5, .int q.2.1)]) (st' := [.int (0 : Int32), .int q.1]) rfl ?_
      cases g4
      exact Ev.sub2 j4 (subL_cons rfl (subL_cons rfl (subL_cons rfl (subL_cons rfl (subL_cons rfl subL_nil)))))
    · have c4 : p3 = v3 := Decidable.of_not_not (of_decide_eq_false c4)
      rw [if_pos c4] at g4
      refine Ev.seg D_320 [(.iconst 1, 1), (.goto 4, 3)] (by decide +kernel) (j := 0) (pc' := 69) (lv' := [(0, .ref 294), (1, .int v1), (2, .int v2), (3, .int v3), (4, .int q.1), (5, .int q.2.1)]) (st' := [.int (1 : Int32), .int q.1]) rfl ?_
      cases g4
      exact Ev.sub2 j4 (subL_cons rfl (subL_cons rfl (subL_cons rfl (subL_cons rfl (subL_cons rfl subL_nil)))))
theorem gM_luck_h37_w {L d : Nat} (hd : 6 ≤ d + 1) {v1 : Int32} {v2 : Int32} {v3 : Int32} : ∀ (n : Nat) (q : Int32 × Int32 × mT) (r : Int32 × mT), wh n (gM_luck_h37 v1 v2 v3) q = some r → ∀ o, (fun r => Ev (d + 1) 320 78 [(4, .int r.1)] [] (uS L r.2) o) r → Ev (d + 1) 320 37 [(0, .ref 294), (1, .int v1), (2, .int v2), (3, .int v3), (4, .int q.1), (5, .int q.2.1)] [] (uS L q.2.2) o :=
  fun n q r h o hc => wh_ev (E := fun (q : Int32 × Int32 × mT) o => Ev (d + 1) 320 37 [(0, .ref 294), (1, .int v1), (2, .int v2), (3, .int v3), (4, .int q.1), (5, .int q.2.1)] [] (uS L q.2.2) o) (C := fun (r : Int32 × mT) o => (fun r => Ev (d + 1) 320 78 [(4, .int r.1)] [] (uS L r.2) o) r) (gM_luck_h37_ok hd  ) n q r h o hc
def gM_luck (v1 : Int32) (v2 : Int32) (v3 : Int32) (s : mT) : Option (Int32 × mT) :=
  (gM_isSeed v1 s).bind fun p1 =>
  if p1 = 0 then
    some (((-2 : Int32), s))
  else
    (gM_in v2.toInt64 (1 : Int64) (20 : Int64) s).bind fun p5 =>
    if p5 = 0 then
      some (((-2 : Int32), s))
    else
      (gM_isBoat v3.toInt64 s).bind fun p8 =>
      if p8 = 0 then
        some (((-2 : Int32), s))
      else
        (wh FU (gM_luck_h37 v1 v2 v3) ((0 : Int32), (0 : Int32), s)).bind fun x10 =>
        some ((x10.1, x10.2))
set_option maxRecDepth 8000 in
theorem gM_luck_ok {L d : Nat} (hd : 6 ≤ d) {v1 : Int32} {v2 : Int32} {v3 : Int32} {s : mT} {p : Int32 × mT} (h : gM_luck v1 v2 v3 s = some p) : Ev d 320 0 [(0, .ref 294), (1, .int v1), (2, .int v2), (3, .int v3)] [] (uS L s) (some (.int p.1), uS L p.2) := by
  obtain ⟨d, rfl⟩ : ∃ e, d = e + 1 := ⟨d - 1, by omega⟩
  obtain ⟨o, ho⟩ : ∃ o : Option Value × mS, o = (some (.int p.1), uS L p.2) := ⟨_, rfl⟩
  rw [← ho]
  unfold gM_luck at h
  refine Ev.seg D_320 [(.iload_n 1, 1)] (by decide +kernel) (j := 0) (pc' := 1) (lv' := [(0, .ref 294), (1, .int v1), (2, .int v2), (3, .int v3)]) (st' := [.int v1]) rfl ?_
  obtain ⟨p1, e1, h⟩ := bd h
  refine Ev.calls D_320 E_318 (by decide +kernel) C_10_455 [.int v1] (r := []) rfl rfl (Nat.le_of_ble_eq_true rfl) (Nat.le_of_ble_eq_true rfl) (gM_isSeed_ok (by omega)  e1) ?_
  refine Ev.if_ D_320 (c := .eq) (off := 24) (by decide +kernel) (t := 28) rfl (fun c2 => ?_) (fun c2 => ?_)
  · have c2 : p1 = 0 := of_decide_eq_true c2
    rw [if_pos c2] at h
    refine Ev.seg D_320 [(.bipush (-2), 2)] (by decide +kernel) (j := 0) (pc' := 30) (lv' := [(0, .ref 294), (1, .int v1), (2, .int v2), (3, .int v3)]) (st' := [.int (-2 : Int32)]) rfl ?_
    cases h
    obtain rfl : o = _ := ho
    exact Ev.iret D_320 (by decide +kernel)
  · have c2 : ¬ p1 = 0 := of_decide_eq_false c2
    rw [if_neg c2] at h
    refine Ev.seg D_320 [(.iload_n 2, 1), (.i2l, 1), (.lconst 1, 1)] (by decide +kernel) (j := 0) (pc' := 10) (lv' := [(0, .ref 294), (1, .int v1), (2, .int v2), (3, .int v3)]) (st' := [.long (1 : Int64), .long v2.toInt64]) rfl ?_
    refine Ev.ldc2 D_320 (i := 462) (by decide +kernel) (x := (20 : Int64)) (by decide +kernel) ?_
    obtain ⟨p5, e5, h⟩ := bd h
    refine Ev.calls D_320 E_184 (by decide +kernel) C_10_88 [.long v2.toInt64, .long (1 : Int64), .long (20 : Int64)] (r := []) rfl rfl (Nat.le_of_ble_eq_true rfl) (Nat.le_of_ble_eq_true rfl) (gM_in_ok (by omega)  e5) ?_
    refine Ev.if_ D_320 (c := .eq) (off := 12) (by decide +kernel) (t := 28) rfl (fun c6 => ?_) (fun c6 => ?_)
    · have c6 : p5 = 0 := of_decide_eq_true c6
      rw [if_pos c6] at h
      refine Ev.seg D_320 [(.bipush (-2), 2)] (by decide +kernel) (j := 0) (pc' := 30) (lv' := [(0, .ref 294), (1, .int v1), (2, .int v2), (3, .int v3)]) (st' := [.int (-2 : Int32)]) rfl ?_
      cases h
      obtain rfl : o = _ := ho
      exact Ev.iret D_320 (by decide +kernel)
    · have c6 : ¬ p5 = 0 := of_decide_eq_false c6
      rw [if_neg c6] at h
      refine Ev.seg D_320 [(.aload_n 0, 1), (.iload_n 3, 1), (.i2l, 1)] (by decide +kernel) (j := 0) (pc' := 22) (lv' := [(0, .ref 294), (1, .int v1), (2, .int v2), (3, .int v3)]) (st' := [.long v3.toInt64, .ref 294]) rfl ?_
      obtain ⟨p8, e8, h⟩ := bd h
      refine Ev.callv D_320 E_204 (by decide +kernel) C_10_220 294 [.long v3.toInt64] (r := []) rfl (gd_o k_294 (by decide)) rfl (Nat.le_of_ble_eq_true rfl) (Nat.le_of_ble_eq_true rfl) (gM_isBoat_ok (by omega)  e8) ?_
      refine Ev.if_ D_320 (c := .ne) (off := 6) (by decide +kernel) (t := 31) rfl (fun c9 => ?_) (fun c9 => ?_)
      · have c9 : ¬ p8 = 0 := of_decide_eq_true c9
        rw [if_neg c9] at h
        refine Ev.seg D_320 [(.iconst 0, 1), (.istore 4, 2), (.iconst 0, 1), (.istore 5, 2)] (by decide +kernel) (j := 0) (pc' := 37) (lv' := [(5, .int (0 : Int32)), (4, .int (0 : Int32)), (0, .ref 294), (1, .int v1), (2, .int v2), (3, .int v3)]) (st' := []) rfl ?_
        obtain ⟨x10, w10, h⟩ := bd h
        have j10 : Ev (d + 1) 320 78 [(4, .int x10.1)] [] (uS L x10.2) o := by
          clear w10
          refine Ev.seg D_320 [(.iload 4, 2)] (by decide +kernel) (j := 0) (pc' := 80) (lv' := [(4, .int x10.1)]) (st' := [.int x10.1]) rfl ?_
          cases h
          obtain rfl : o = _ := ho
          exact Ev.iret D_320 (by decide +kernel)
        exact Ev.sub (lv' := [(0, .ref 294), (1, .int v1), (2, .int v2), (3, .int v3), (4, .int (0 : Int32)), (5, .int (0 : Int32))]) (subL_cons rfl (subL_cons rfl (subL_cons rfl (subL_cons rfl (subL_cons rfl (subL_cons rfl subL_nil)))))) (gM_luck_h37_w hd   _ _ _ w10 _ j10)
      · have c9 : p8 = 0 := Decidable.of_not_not (of_decide_eq_false c9)
        rw [if_pos c9] at h
        refine Ev.seg D_320 [(.bipush (-2), 2)] (by decide +kernel) (j := 0) (pc' := 30) (lv' := [(0, .ref 294), (1, .int v1), (2, .int v2), (3, .int v3)]) (st' := [.int (-2 : Int32)]) rfl ?_
        cases h
        obtain rfl : o = _ := ho
        exact Ev.iret D_320 (by decide +kernel)
/- PennantLawnModel rate: 321 -/
def gM_rate (v1 : Int32) (v2 : Int32) (s : mT) : Option (Int32 × mT) :=
  (gM_isBoat v1.toInt64 s).bind fun p1 =>
  if p1 = 0 then
    some (((-2 : Int32), s))
  else
    (gM_in v2.toInt64 (1 : Int64) (9 : Int64) s).bind fun p5 =>
    if p5 = 0 then
      some (((-2 : Int32), s))
    else
      (rdI (s.1 295) 79 (7 : Int32)).bind fun x8 =>
      if x8 ≤ 0 then
        (rdI (s.1 295) 79 (((9 : Int32) + ((2 : Int32) * v1)) + (1 : Int32))).bind fun x11 =>
        (wrI s 295 79 (((9 : Int32) + ((2 : Int32) * v1)) + (1 : Int32)) v2).bind fun s13 =>
        some ((x11, s13))
      else
        some (((-5 : Int32), s))
set_option maxRecDepth 8000 in
theorem gM_rate_ok {L d : Nat} (hd : 3 ≤ d) {v1 : Int32} {v2 : Int32} {s : mT} {p : Int32 × mT} (h : gM_rate v1 v2 s = some p) : Ev d 321 0 [(0, .ref 294), (1, .int v1), (2, .int v2)] [] (uS L s) (some (.int p.1), uS L p.2) := by
  obtain ⟨d, rfl⟩ : ∃ e, d = e + 1 := ⟨d - 1, by omega⟩
  obtain ⟨o, ho⟩ : ∃ o : Option Value × mS, o = (some (.int p.1), uS L p.2) := ⟨_, rfl⟩
  rw [← ho]
  unfold gM_rate at h
  refine Ev.seg D_321 [(.aload_n 0, 1), (.iload_n 1, 1), (.i2l, 1)] (by decide +kernel) (j := 0) (pc' := 3) (lv' := [(0, .ref 294), (1, .int v1), (2, .int v2)]) (st' := [.long v1.toInt64, .ref 294]) rfl ?_
  obtain ⟨p1, e1, h⟩ := bd h
  refine Ev.callv D_321 E_204 (by decide +kernel) C_10_220 294 [.long v1.toInt64] (r := []) rfl (gd_o k_294 (by decide)) rfl (Nat.le_of_ble_eq_true rfl) (Nat.le_of_ble_eq_true rfl) (gM_isBoat_ok (by omega)  e1) ?_
  refine Ev.if_ D_321 (c := .eq) (off := 15) (by decide +kernel) (t := 21) rfl (fun c2 => ?_) (fun c2 => ?_)
  · have c2 : p1 = 0 := of_decide_eq_true c2
    rw [if_pos c2] at h
    refine Ev.seg D_321 [(.bipush (-2), 2)] (by decide +kernel) (j := 0) (pc' := 23) (lv' := [(0, .ref 294), (1, .int v1), (2, .int v2)]) (st' := [.int (-2 : Int32)]) rfl ?_
    cases h
    obtain rfl : o = _ := ho
    exact Ev.iret D_321 (by decide +kernel)
  · have c2 : ¬ p1 = 0 := of_decide_eq_false c2
    rw [if_neg c2] at h
    refine Ev.seg D_321 [(.iload_n 2, 1), (.i2l, 1), (.lconst 1, 1)] (by decide +kernel) (j := 0) (pc' := 12) (lv' := [(0, .ref 294), (1, .int v1), (2, .int v2)]) (st' := [.long (1 : Int64), .long v2.toInt64]) rfl ?_
    refine Ev.ldc2 D_321 (i := 464) (by decide +kernel) (x := (9 : Int64)) (by decide +kernel) ?_
    obtain ⟨p5, e5, h⟩ := bd h
    refine Ev.calls D_321 E_184 (by decide +kernel) C_10_88 [.long v2.toInt64, .long (1 : Int64), .long (9 : Int64)] (r := []) rfl rfl (Nat.le_of_ble_eq_true rfl) (Nat.le_of_ble_eq_true rfl) (gM_in_ok (by omega)  e5) ?_
    refine Ev.if_ D_321 (c := .ne) (off := 6) (by decide +kernel) (t := 24) rfl (fun c6 => ?_) (fun c6 => ?_)
    · have c6 : ¬ p5 = 0 := of_decide_eq_true c6
      rw [if_neg c6] at h
      refine Ev.seg D_321 [(.aload_n 0, 1)] (by decide +kernel) (j := 0) (pc' := 25) (lv' := [(0, .ref 294), (1, .int v1), (2, .int v2)]) (st' := [.ref 294]) rfl ?_
      refine Ev.getR D_321 (by decide +kernel) F_10_9 T_10_1 (x := 295) (S_oR k_294 (by decide +kernel)) ?_
      refine Ev.seg D_321 [(.bipush 7, 2)] (by decide +kernel) (j := 0) (pc' := 30) (lv' := [(0, .ref 294), (1, .int v1), (2, .int v2)]) (st' := [.int (7 : Int32), .ref 295]) rfl ?_
      obtain ⟨x8, e8, h⟩ := bd h
      refine Ev.iald D_321 (by decide +kernel) (S_aI k_295 e8) ?_
      refine Ev.if_ D_321 (c := .le) (off := 6) (by decide +kernel) (t := 37) rfl (fun c9 => ?_) (fun c9 => ?_)
      · have c9 : x8 ≤ 0 := of_decide_eq_true c9
        rw [if_pos c9] at h
        refine Ev.seg D_321 [(.aload_n 0, 1)] (by decide +kernel) (j := 0) (pc' := 38) (lv' := [(0, .ref 294), (1, .int v1), (2, .int v2)]) (st' := [.ref 294]) rfl ?_
        refine Ev.getR D_321 (by decide +kernel) F_10_9 T_10_1 (x := 295) (S_oR k_294 (by decide +kernel)) ?_
        refine Ev.seg D_321 [(.bipush 9, 2), (.iconst 2, 1), (.iload_n 1, 1), (.imul, 1), (.iadd, 1), (.iconst 1, 1), (.iadd, 1)] (by decide +kernel) (j := 0) (pc' := 49) (lv' := [(0, .ref 294), (1, .int v1), (2, .int v2)]) (st' := [.int (((9 : Int32) + ((2 : Int32) * v1)) + (1 : Int32)), .ref 295]) rfl ?_
        obtain ⟨x11, e11, h⟩ := bd h
        refine Ev.iald D_321 (by decide +kernel) (S_aI k_295 e11) ?_
        refine Ev.seg D_321 [(.istore_n 3, 1), (.aload_n 0, 1)] (by decide +kernel) (j := 0) (pc' := 52) (lv' := [(3, .int x11), (0, .ref 294), (1, .int v1), (2, .int v2)]) (st' := [.ref 294]) rfl ?_
        refine Ev.getR D_321 (by decide +kernel) F_10_9 T_10_1 (x := 295) (S_oR k_294 (by decide +kernel)) ?_
        refine Ev.seg D_321 [(.bipush 9, 2), (.iconst 2, 1), (.iload_n 1, 1), (.imul, 1), (.iadd, 1), (.iconst 1, 1), (.iadd, 1), (.iload_n 2, 1)] (by decide +kernel) (j := 0) (pc' := 64) (lv' := [(3, .int x11), (0, .ref 294), (1, .int v1), (2, .int v2)]) (st' := [.int v2, .int (((9 : Int32) + ((2 : Int32) * v1)) + (1 : Int32)), .ref 295]) rfl ?_
        obtain ⟨s13, e13, h⟩ := bd h
        refine Ev.iast D_321 (by decide +kernel) (S_sI k_295 e13) ?_
        refine Ev.seg D_321 [(.iload_n 3, 1)] (by decide +kernel) (j := 0) (pc' := 66) (lv' := [(3, .int x11), (0, .ref 294), (1, .int v1), (2, .int v2)]) (st' := [.int x11]) rfl ?_
        cases h
        obtain rfl : o = _ := ho
        exact Ev.iret D_321 (by decide +kernel)
      · have c9 : ¬ x8 ≤ 0 := of_decide_eq_false c9
        rw [if_neg c9] at h
        refine Ev.seg D_321 [(.bipush (-5), 2)] (by decide +kernel) (j := 0) (pc' := 36) (lv' := [(0, .ref 294), (1, .int v1), (2, .int v2)]) (st' := [.int (-5 : Int32)]) rfl ?_
        cases h
        obtain rfl : o = _ := ho
        exact Ev.iret D_321 (by decide +kernel)
    · have c6 : p5 = 0 := Decidable.of_not_not (of_decide_eq_false c6)
      rw [if_pos c6] at h
      refine Ev.seg D_321 [(.bipush (-2), 2)] (by decide +kernel) (j := 0) (pc' := 23) (lv' := [(0, .ref 294), (1, .int v1), (2, .int v2)]) (st' := [.int (-2 : Int32)]) rfl ?_
      cases h
      obtain rfl : o = _ := ho
      exact Ev.iret D_321 (by decide +kernel)
/- PennantLawnModel count: 322 -/
def gM_count_h42 (s : mT) (q : Int32 × Int32) : Option ((Int32 × Int32) ⊕ (Int32)) :=
  if (4 : Int32) ≤ q.2 then
    some (.inr q.1)
  else
    (rdI (s.1 313) 4 q.2).bind fun x3 =>
    (
      if x3 = (-1 : Int32) then
        some ((0 : Int32))
      else
        some ((1 : Int32)) : Option (Int32)).bind fun x4 =>
    some (.inl (q.1 + x4, q.2 + (1 : Int32)))
set_option maxRecDepth 8000 in
theorem gM_count_h42_ok {L d : Nat} (hd : 2 ≤ d + 1) {s : mT} : ∀ (q : Int32 × Int32) (x : (Int32 × Int32) ⊕ (Int32)), gM_count_h42 s q = some x → ∀ o, sK (fun q => Ev (d + 1) 322 42 [(0, .ref 294), (2, .int q.1), (3, .int q.2)] [] (uS L s) o) (fun r => Ev (d + 1) 322 71 [(2, .int r)] [] (uS L s) o) x → Ev (d + 1) 322 42 [(0, .ref 294), (2, .int q.1), (3, .int q.2)] [] (uS L s) o := by
  intro q x h o ho
  unfold gM_count_h42 at h
  refine Ev.seg D_322 [(.iload_n 3, 1), (.iconst 4, 1)] (by decide +kernel) (j := 0) (pc' := 44) (lv' := [(0, .ref 294), (2, .int q.1), (3, .int q.2)]) (st' := [.int (4 : Int32), .int q.2]) rfl ?_
  refine Ev.icmp D_322 (c := .ge) (off := 27) (by decide +kernel) (t := 71) rfl (fun c1 => ?_) (fun c1 => ?_)
  · have c1 : (4 : Int32) ≤ q.2 := of_decide_eq_true c1
    rw [if_pos c1] at h
    cases h
    exact Ev.sub (lv' := [(2, .int q.1)]) (subL_cons rfl subL_nil) ho
  · have c1 : ¬ (4 : Int32) ≤ q.2 := of_decide_eq_false c1
    rw [if_neg c1] at h
    refine Ev.seg D_322 [(.iload_n 2, 1), (.aload_n 0, 1)] (by decide +kernel) (j := 0) (pc' := 49) (lv' := [(0, .ref 294), (2, .int q.1), (3, .int q.2)]) (st' := [.ref 294, .int q.1]) rfl ?_
    refine Ev.getR D_322 (by decide +kernel) F_10_70 T_10_43 (x := 313) (S_oR k_294 (by decide +kernel)) ?_
    refine Ev.seg D_322 [(.iload_n 3, 1)] (by decide +kernel) (j := 0) (pc' := 53) (lv' := [(0, .ref 294), (2, .int q.1), (3, .int q.2)]) (st' := [.int q.2, .ref 313, .int q.1]) rfl ?_
    obtain ⟨x3, e3, h⟩ := bd h
    refine Ev.iald D_322 (by decide +kernel) (S_aI k_313 e3) ?_
    refine Ev.seg D_322 [(.iconst (-1), 1)] (by decide +kernel) (j := 0) (pc' := 55) (lv' := [(0, .ref 294), (2, .int q.1), (3, .int q.2)]) (st' := [.int (-1 : Int32), .int x3, .int q.1]) rfl ?_
    obtain ⟨x4, g4, h⟩ := bd h
    have j4 : Ev (d + 1) 322 63 [(0, .ref 294), (3, .int q.2)] [.int x4, .int q.1] (uS L s) o := by
      clear g4
      refine Ev.seg D_322 [(.iadd, 1), (.istore_n 2, 1), (.iinc 3 1, 3), (.goto (-26), 3)] (by decide +kernel) (j := 0) (pc' := 42) (lv' := [(3, .int (q.2 + (1 : Int32))), (2, .int (q.1 + x4)), (0, .ref 294)]) (st' := []) rfl ?_
      cases h
      exact Ev.sub (lv' := [(0, .ref 294), (2, .int (q.1 + x4)), (3, .int (q.2 + (1 : Int32)))]) (subL_cons rfl (subL_cons rfl (subL_cons rfl subL_nil))) ho
    clear h
    refine Ev.icmp D_322 (c := .ne) (off := 7) (by decide +kernel) (t := 62) rfl (fun c4 => ?_) (fun c4 => ?_)
    · have c4 : ¬ x3 = (-1 : Int32) := of_decide_eq_true c4
      rw [if_neg c4] at g4
      refine Ev.seg D_322 [(.iconst 1, 1)] (by decide +kernel) (j := 0) (pc' := 63) (lv' := [(0, .ref 294), (2, .int q.1), (3, .int q.2)]) (st' := [.int (1 : Int32), .int q.1]) rfl ?_
      cases g4
      exact Ev.sub2 j4 (subL_cons rfl (subL_cons rfl subL_nil))
    · have c4 : x3 = (-1 : Int32) := Decidable.of_not_not (of_decide_eq_false c4)
      rw [if_pos c4] at g4
      refine Ev.seg D_322 [(.iconst 0, 1), (.goto 4, 3)] (by decide +kernel) (j := 0) (pc' := 63) (lv' := [(0, .ref 294), (2, .int q.1), (3, .int q.2)]) (st' := [.int (0 : Int32), .int q.1]) rfl ?_
      cases g4
      exact Ev.sub2 j4 (subL_cons rfl (subL_cons rfl subL_nil))
theorem gM_count_h42_w {L d : Nat} (hd : 2 ≤ d + 1) {s : mT} : ∀ (n : Nat) (q : Int32 × Int32) (r : Int32), wh n (gM_count_h42 s) q = some r → ∀ o, (fun r => Ev (d + 1) 322 71 [(2, .int r)] [] (uS L s) o) r → Ev (d + 1) 322 42 [(0, .ref 294), (2, .int q.1), (3, .int q.2)] [] (uS L s) o :=
  fun n q r h o hc => wh_ev (E := fun (q : Int32 × Int32) o => Ev (d + 1) 322 42 [(0, .ref 294), (2, .int q.1), (3, .int q.2)] [] (uS L s) o) (C := fun (r : Int32) o => (fun r => Ev (d + 1) 322 71 [(2, .int r)] [] (uS L s) o) r) (gM_count_h42_ok hd  ) n q r h o hc
def gM_count (v1 : Int32) (s : mT) : Option (Int32) :=
  (gM_in v1.toInt64 (0 : Int64) (8 : Int64) s).bind fun p2 =>
  if p2 = 0 then
    if v1 = (9 : Int32) then
      some (s.1 294 5)
    else
      if v1 = (10 : Int32) then
        (wh FU (gM_count_h42 s) ((0 : Int32), (0 : Int32))).bind fun x6 =>
        some (x6)
      else
        some ((-1 : Int32))
  else
    (rdI (s.1 295) 79 v1).bind fun x12 =>
    some (x12)
set_option maxRecDepth 8000 in
theorem gM_count_ok {L d : Nat} (hd : 2 ≤ d) {v1 : Int32} {s : mT} {p : Int32} (h : gM_count v1 s = some p) : Ev d 322 0 [(0, .ref 294), (1, .int v1)] [] (uS L s) (some (.int p), uS L s) := by
  obtain ⟨d, rfl⟩ : ∃ e, d = e + 1 := ⟨d - 1, by omega⟩
  obtain ⟨o, ho⟩ : ∃ o : Option Value × mS, o = (some (.int p), uS L s) := ⟨_, rfl⟩
  rw [← ho]
  unfold gM_count at h
  refine Ev.seg D_322 [(.iload_n 1, 1), (.i2l, 1), (.lconst 0, 1)] (by decide +kernel) (j := 0) (pc' := 3) (lv' := [(0, .ref 294), (1, .int v1)]) (st' := [.long (0 : Int64), .long v1.toInt64]) rfl ?_
  refine Ev.ldc2 D_322 (i := 466) (by decide +kernel) (x := (8 : Int64)) (by decide +kernel) ?_
  obtain ⟨p2, e2, h⟩ := bd h
  refine Ev.calls D_322 E_184 (by decide +kernel) C_10_88 [.long v1.toInt64, .long (0 : Int64), .long (8 : Int64)] (r := []) rfl rfl (Nat.le_of_ble_eq_true rfl) (Nat.le_of_ble_eq_true rfl) (gM_in_ok (by omega)  e2) ?_
  refine Ev.if_ D_322 (c := .eq) (off := 10) (by decide +kernel) (t := 19) rfl (fun c3 => ?_) (fun c3 => ?_)
  · have c3 : p2 = 0 := of_decide_eq_true c3
    rw [if_pos c3] at h
    refine Ev.seg D_322 [(.iload_n 1, 1), (.bipush 9, 2)] (by decide +kernel) (j := 0) (pc' := 22) (lv' := [(0, .ref 294), (1, .int v1)]) (st' := [.int (9 : Int32), .int v1]) rfl ?_
    refine Ev.icmp D_322 (c := .ne) (off := 8) (by decide +kernel) (t := 30) rfl (fun c4 => ?_) (fun c4 => ?_)
    · have c4 : ¬ v1 = (9 : Int32) := of_decide_eq_true c4
      rw [if_neg c4] at h
      refine Ev.seg D_322 [(.iload_n 1, 1), (.bipush 10, 2)] (by decide +kernel) (j := 0) (pc' := 33) (lv' := [(0, .ref 294), (1, .int v1)]) (st' := [.int (10 : Int32), .int v1]) rfl ?_
      refine Ev.icmp D_322 (c := .eq) (off := 5) (by decide +kernel) (t := 38) rfl (fun c5 => ?_) (fun c5 => ?_)
      · have c5 : v1 = (10 : Int32) := of_decide_eq_true c5
        rw [if_pos c5] at h
        refine Ev.seg D_322 [(.iconst 0, 1), (.istore_n 2, 1), (.iconst 0, 1), (.istore_n 3, 1)] (by decide +kernel) (j := 0) (pc' := 42) (lv' := [(3, .int (0 : Int32)), (2, .int (0 : Int32)), (0, .ref 294), (1, .int v1)]) (st' := []) rfl ?_
        obtain ⟨x6, w6, h⟩ := bd h
        have j6 : Ev (d + 1) 322 71 [(2, .int x6)] [] (uS L s) o := by
          clear w6
          refine Ev.seg D_322 [(.iload_n 2, 1)] (by decide +kernel) (j := 0) (pc' := 72) (lv' := [(2, .int x6)]) (st' := [.int x6]) rfl ?_
          cases h
          obtain rfl : o = _ := ho
          exact Ev.iret D_322 (by decide +kernel)
        exact Ev.sub (lv' := [(0, .ref 294), (2, .int (0 : Int32)), (3, .int (0 : Int32))]) (subL_cons rfl (subL_cons rfl (subL_cons rfl subL_nil))) (gM_count_h42_w hd   _ _ _ w6 _ j6)
      · have c5 : ¬ v1 = (10 : Int32) := of_decide_eq_false c5
        rw [if_neg c5] at h
        refine Ev.seg D_322 [(.iconst (-1), 1)] (by decide +kernel) (j := 0) (pc' := 37) (lv' := [(0, .ref 294), (1, .int v1)]) (st' := [.int (-1 : Int32)]) rfl ?_
        cases h
        obtain rfl : o = _ := ho
        exact Ev.iret D_322 (by decide +kernel)
    · have c4 : v1 = (9 : Int32) := Decidable.of_not_not (of_decide_eq_false c4)
      rw [if_pos c4] at h
      refine Ev.seg D_322 [(.aload_n 0, 1)] (by decide +kernel) (j := 0) (pc' := 26) (lv' := [(0, .ref 294), (1, .int v1)]) (st' := [.ref 294]) rfl ?_
      refine Ev.getI D_322 (by decide +kernel) F_10_106 (Or.inl T_10_5) (S_oI k_294) ?_
      cases h
      obtain rfl : o = _ := ho
      exact Ev.iret D_322 (by decide +kernel)
  · have c3 : ¬ p2 = 0 := of_decide_eq_false c3
    rw [if_neg c3] at h
    refine Ev.seg D_322 [(.aload_n 0, 1)] (by decide +kernel) (j := 0) (pc' := 13) (lv' := [(0, .ref 294), (1, .int v1)]) (st' := [.ref 294]) rfl ?_
    refine Ev.getR D_322 (by decide +kernel) F_10_9 T_10_1 (x := 295) (S_oR k_294 (by decide +kernel)) ?_
    refine Ev.seg D_322 [(.iload_n 1, 1)] (by decide +kernel) (j := 0) (pc' := 17) (lv' := [(0, .ref 294), (1, .int v1)]) (st' := [.int v1, .ref 295]) rfl ?_
    obtain ⟨x12, e12, h⟩ := bd h
    refine Ev.iald D_322 (by decide +kernel) (S_aI k_295 e12) ?_
    cases h
    obtain rfl : o = _ := ho
    exact Ev.iret D_322 (by decide +kernel)
