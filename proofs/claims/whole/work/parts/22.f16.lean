/-! The program's methods as functions of ints and longs, each with its certificate (wip/whole/gen_emit.py writes this) -/
/- PennantLawnModel plan: 277 -/
def gM_plan (v1 : Int32) (v2 : Int32) (s : mT) : Option (Int32 × mT) :=
  (gM_isWatcher v2 s).bind fun p1 =>
  (
    if p1 = 0 then
      some (((-2 : Int32), s))
    else
      (gM_asksLooks v1 s).bind fun p3 =>
      if p3.1 = 0 then
        some (((-2 : Int32), p3.2))
      else
        if (p3.2.1 294 28) = 0 then
          some (((-1 : Int32), p3.2))
        else
          (rdI (p3.2.1 309) 5 v2).bind fun x8 =>
          some ((x8, p3.2)) : Option (Int32 × mT)).bind fun x2 =>
  some ((x2.1, x2.2))
set_option maxRecDepth 8000 in
theorem gM_plan_ok {L d : Nat} (hd : 7 ≤ d) {v1 : Int32} {v2 : Int32} {s : mT} {p : Int32 × mT} (h : gM_plan v1 v2 s = some p) : Ev d 277 0 [(0, .ref 294), (1, .int v1), (2, .int v2)] [] (uS L s) (some (.int p.1), uS L p.2) := by
  obtain ⟨d, rfl⟩ : ∃ e, d = e + 1 := ⟨d - 1, by omega⟩
  obtain ⟨o, ho⟩ : ∃ o : Option Value × mS, o = (some (.int p.1), uS L p.2) := ⟨_, rfl⟩
  rw [← ho]
  unfold gM_plan at h
  refine Ev.seg D_277 [(.aload_n 0, 1), (.iload_n 2, 1)] (by decide +kernel) (j := 0) (pc' := 2) (lv' := [(0, .ref 294), (1, .int v1), (2, .int v2)]) (st' := [.int v2, .ref 294]) rfl ?_
  obtain ⟨p1, e1, h⟩ := bd h
  refine Ev.callv D_277 E_206 (by decide +kernel) C_10_224 294 [.int v2] (r := []) rfl (gd_o k_294 (by decide)) rfl (Nat.le_of_ble_eq_true rfl) (Nat.le_of_ble_eq_true rfl) (gM_isWatcher_ok (by omega)  e1) ?_
  obtain ⟨x2, g2, h⟩ := bd h
  have j2 : Ev (d + 1) 277 38 [] [.int x2.1] (uS L x2.2) o := by
    clear g2
    cases h
    obtain rfl : o = _ := ho
    exact Ev.iret D_277 (by decide +kernel)
  clear h
  refine Ev.if_ D_277 (c := .eq) (off := 31) (by decide +kernel) (t := 36) rfl (fun c2 => ?_) (fun c2 => ?_)
  · have c2 : p1 = 0 := of_decide_eq_true c2
    rw [if_pos c2] at g2
    refine Ev.seg D_277 [(.bipush (-2), 2)] (by decide +kernel) (j := 0) (pc' := 38) (lv' := [(0, .ref 294), (1, .int v1), (2, .int v2)]) (st' := [.int (-2 : Int32)]) rfl ?_
    cases g2
    exact Ev.sub2 j2 subL_nil
  · have c2 : ¬ p1 = 0 := of_decide_eq_false c2
    rw [if_neg c2] at g2
    refine Ev.seg D_277 [(.aload_n 0, 1), (.iload_n 1, 1)] (by decide +kernel) (j := 0) (pc' := 10) (lv' := [(0, .ref 294), (1, .int v1), (2, .int v2)]) (st' := [.int v1, .ref 294]) rfl ?_
    obtain ⟨p3, e3, g2⟩ := bd g2
    refine Ev.callv D_277 E_271 (by decide +kernel) C_10_351 294 [.int v1] (r := []) rfl (gd_o k_294 (by decide)) rfl (Nat.le_of_ble_eq_true rfl) (Nat.le_of_ble_eq_true rfl) (gM_asksLooks_ok (by omega)  e3) ?_
    refine Ev.if_ D_277 (c := .eq) (off := 23) (by decide +kernel) (t := 36) rfl (fun c4 => ?_) (fun c4 => ?_)
    · have c4 : p3.1 = 0 := of_decide_eq_true c4
      rw [if_pos c4] at g2
      refine Ev.seg D_277 [(.bipush (-2), 2)] (by decide +kernel) (j := 0) (pc' := 38) (lv' := [(0, .ref 294), (1, .int v1), (2, .int v2)]) (st' := [.int (-2 : Int32)]) rfl ?_
      cases g2
      exact Ev.sub2 j2 subL_nil
    · have c4 : ¬ p3.1 = 0 := of_decide_eq_false c4
      rw [if_neg c4] at g2
      refine Ev.seg D_277 [(.aload_n 0, 1)] (by decide +kernel) (j := 0) (pc' := 17) (lv' := [(0, .ref 294), (1, .int v1), (2, .int v2)]) (st' := [.ref 294]) rfl ?_
      refine Ev.getI D_277 (by decide +kernel) F_10_329 (Or.inl T_10_28) (S_oI k_294) ?_
      refine Ev.if_ D_277 (c := .ne) (off := 7) (by decide +kernel) (t := 27) rfl (fun c6 => ?_) (fun c6 => ?_)
      · have c6 : ¬ (p3.2.1 294 28) = 0 := of_decide_eq_true c6
        rw [if_neg c6] at g2
        refine Ev.seg D_277 [(.aload_n 0, 1)] (by decide +kernel) (j := 0) (pc' := 28) (lv' := [(0, .ref 294), (1, .int v1), (2, .int v2)]) (st' := [.ref 294]) rfl ?_
        refine Ev.getR D_277 (by decide +kernel) F_10_58 T_10_27 (x := 309) (S_oR k_294 (by decide +kernel)) ?_
        refine Ev.seg D_277 [(.iload_n 2, 1)] (by decide +kernel) (j := 0) (pc' := 32) (lv' := [(0, .ref 294), (1, .int v1), (2, .int v2)]) (st' := [.int v2, .ref 309]) rfl ?_
        obtain ⟨x8, e8, g2⟩ := bd g2
        refine Ev.iald D_277 (by decide +kernel) (S_aI k_309 e8) ?_
        refine Ev.seg D_277 [(.goto 5, 3)] (by decide +kernel) (j := 0) (pc' := 38) (lv' := [(0, .ref 294), (1, .int v1), (2, .int v2)]) (st' := [.int x8]) rfl ?_
        cases g2
        exact Ev.sub2 j2 subL_nil
      · have c6 : (p3.2.1 294 28) = 0 := Decidable.of_not_not (of_decide_eq_false c6)
        rw [if_pos c6] at g2
        refine Ev.seg D_277 [(.iconst (-1), 1), (.goto 14, 3)] (by decide +kernel) (j := 0) (pc' := 38) (lv' := [(0, .ref 294), (1, .int v1), (2, .int v2)]) (st' := [.int (-1 : Int32)]) rfl ?_
        cases g2
        exact Ev.sub2 j2 subL_nil
/- PennantLawnModel orNone: 279 -/
def gM_orNone (v0 : Int32) (s : mT) : Option (Int32) :=
  (
    if v0 < (1000000000 : Int32) then
      some (v0)
    else
      some ((-1 : Int32)) : Option (Int32)).bind fun x2 =>
  some (x2)
set_option maxRecDepth 8000 in
theorem gM_orNone_ok {L d : Nat} (hd : 1 ≤ d) {v0 : Int32} {s : mT} {p : Int32} (h : gM_orNone v0 s = some p) : Ev d 279 0 [(0, .int v0)] [] (uS L s) (some (.int p), uS L s) := by
  obtain ⟨d, rfl⟩ : ∃ e, d = e + 1 := ⟨d - 1, by omega⟩
  obtain ⟨o, ho⟩ : ∃ o : Option Value × mS, o = (some (.int p), uS L s) := ⟨_, rfl⟩
  rw [← ho]
  unfold gM_orNone at h
  refine Ev.seg D_279 [(.iload_n 0, 1)] (by decide +kernel) (j := 0) (pc' := 1) (lv' := [(0, .int v0)]) (st' := [.int v0]) rfl ?_
  refine Ev.ldcw D_279 (i := 338) (by decide +kernel) (x := (1000000000 : Int32)) (by decide +kernel) ?_
  obtain ⟨x2, g2, h⟩ := bd h
  have j2 : Ev (d + 1) 279 12 [] [.int x2] (uS L s) o := by
    clear g2
    cases h
    obtain rfl : o = _ := ho
    exact Ev.iret D_279 (by decide +kernel)
  clear h
  refine Ev.icmp D_279 (c := .lt) (off := 7) (by decide +kernel) (t := 11) rfl (fun c2 => ?_) (fun c2 => ?_)
  · have c2 : v0 < (1000000000 : Int32) := of_decide_eq_true c2
    rw [if_pos c2] at g2
    refine Ev.seg D_279 [(.iload_n 0, 1)] (by decide +kernel) (j := 0) (pc' := 12) (lv' := [(0, .int v0)]) (st' := [.int v0]) rfl ?_
    cases g2
    exact Ev.sub2 j2 subL_nil
  · have c2 : ¬ v0 < (1000000000 : Int32) := of_decide_eq_false c2
    rw [if_neg c2] at g2
    refine Ev.seg D_279 [(.iconst (-1), 1), (.goto 4, 3)] (by decide +kernel) (j := 0) (pc' := 12) (lv' := [(0, .int v0)]) (st' := [.int (-1 : Int32)]) rfl ?_
    cases g2
    exact Ev.sub2 j2 subL_nil
/- PennantLawnModel fewest: 278 -/
def gM_fewest (v1 : Int32) (s : mT) : Option (Int32 × mT) :=
  (gM_asksLooks v1 s).bind fun p1 =>
  (
    if p1.1 = 0 then
      some ((-2 : Int32))
    else
      (gM_orNone (p1.2.1 294 29) p1.2).bind fun p4 =>
      some (p4) : Option (Int32)).bind fun x2 =>
  some ((x2, p1.2))
set_option maxRecDepth 8000 in
theorem gM_fewest_ok {L d : Nat} (hd : 7 ≤ d) {v1 : Int32} {s : mT} {p : Int32 × mT} (h : gM_fewest v1 s = some p) : Ev d 278 0 [(0, .ref 294), (1, .int v1)] [] (uS L s) (some (.int p.1), uS L p.2) := by
  obtain ⟨d, rfl⟩ : ∃ e, d = e + 1 := ⟨d - 1, by omega⟩
  obtain ⟨o, ho⟩ : ∃ o : Option Value × mS, o = (some (.int p.1), uS L p.2) := ⟨_, rfl⟩
  rw [← ho]
  unfold gM_fewest at h
  refine Ev.seg D_278 [(.aload_n 0, 1), (.iload_n 1, 1)] (by decide +kernel) (j := 0) (pc' := 2) (lv' := [(0, .ref 294), (1, .int v1)]) (st' := [.int v1, .ref 294]) rfl ?_
  obtain ⟨p1, e1, h⟩ := bd h
  refine Ev.callv D_278 E_271 (by decide +kernel) C_10_351 294 [.int v1] (r := []) rfl (gd_o k_294 (by decide)) rfl (Nat.le_of_ble_eq_true rfl) (Nat.le_of_ble_eq_true rfl) (gM_asksLooks_ok (by omega)  e1) ?_
  obtain ⟨x2, g2, h⟩ := bd h
  have j2 : Ev (d + 1) 278 20 [] [.int x2] (uS L p1.2) o := by
    clear g2
    cases h
    obtain rfl : o = _ := ho
    exact Ev.iret D_278 (by decide +kernel)
  clear h
  refine Ev.if_ D_278 (c := .eq) (off := 13) (by decide +kernel) (t := 18) rfl (fun c2 => ?_) (fun c2 => ?_)
  · have c2 : p1.1 = 0 := of_decide_eq_true c2
    rw [if_pos c2] at g2
    refine Ev.seg D_278 [(.bipush (-2), 2)] (by decide +kernel) (j := 0) (pc' := 20) (lv' := [(0, .ref 294), (1, .int v1)]) (st' := [.int (-2 : Int32)]) rfl ?_
    cases g2
    exact Ev.sub2 j2 subL_nil
  · have c2 : ¬ p1.1 = 0 := of_decide_eq_false c2
    rw [if_neg c2] at g2
    refine Ev.seg D_278 [(.aload_n 0, 1)] (by decide +kernel) (j := 0) (pc' := 9) (lv' := [(0, .ref 294), (1, .int v1)]) (st' := [.ref 294]) rfl ?_
    refine Ev.getI D_278 (by decide +kernel) F_10_332 (Or.inl T_10_29) (S_oI k_294) ?_
    obtain ⟨p4, e4, g2⟩ := bd g2
    refine Ev.calls D_278 E_279 (by decide +kernel) C_10_354 [.int (p1.2.1 294 29)] (r := []) rfl rfl (Nat.le_of_ble_eq_true rfl) (Nat.le_of_ble_eq_true rfl) (gM_orNone_ok (by omega)  e4) ?_
    refine Ev.seg D_278 [(.goto 5, 3)] (by decide +kernel) (j := 0) (pc' := 20) (lv' := [(0, .ref 294), (1, .int v1)]) (st' := [.int p4]) rfl ?_
    cases g2
    exact Ev.sub2 j2 subL_nil
/- PennantLawnModel soonest: 280 -/
def gM_soonest (v1 : Int32) (s : mT) : Option (Int32 × mT) :=
  (gM_asksLooks v1 s).bind fun p1 =>
  (
    if p1.1 = 0 then
      some ((-2 : Int32))
    else
      (gM_orNone (p1.2.1 294 30) p1.2).bind fun p4 =>
      some (p4) : Option (Int32)).bind fun x2 =>
  some ((x2, p1.2))
set_option maxRecDepth 8000 in
theorem gM_soonest_ok {L d : Nat} (hd : 7 ≤ d) {v1 : Int32} {s : mT} {p : Int32 × mT} (h : gM_soonest v1 s = some p) : Ev d 280 0 [(0, .ref 294), (1, .int v1)] [] (uS L s) (some (.int p.1), uS L p.2) := by
  obtain ⟨d, rfl⟩ : ∃ e, d = e + 1 := ⟨d - 1, by omega⟩
  obtain ⟨o, ho⟩ : ∃ o : Option Value × mS, o = (some (.int p.1), uS L p.2) := ⟨_, rfl⟩
  rw [← ho]
  unfold gM_soonest at h
  refine Ev.seg D_280 [(.aload_n 0, 1), (.iload_n 1, 1)] (by decide +kernel) (j := 0) (pc' := 2) (lv' := [(0, .ref 294), (1, .int v1)]) (st' := [.int v1, .ref 294]) rfl ?_
  obtain ⟨p1, e1, h⟩ := bd h
  refine Ev.callv D_280 E_271 (by decide +kernel) C_10_351 294 [.int v1] (r := []) rfl (gd_o k_294 (by decide)) rfl (Nat.le_of_ble_eq_true rfl) (Nat.le_of_ble_eq_true rfl) (gM_asksLooks_ok (by omega)  e1) ?_
  obtain ⟨x2, g2, h⟩ := bd h
  have j2 : Ev (d + 1) 280 20 [] [.int x2] (uS L p1.2) o := by
    clear g2
    cases h
    obtain rfl : o = _ := ho
    exact Ev.iret D_280 (by decide +kernel)
  clear h
  refine Ev.if_ D_280 (c := .eq) (off := 13) (by decide +kernel) (t := 18) rfl (fun c2 => ?_) (fun c2 => ?_)
  · have c2 : p1.1 = 0 := of_decide_eq_true c2
    rw [if_pos c2] at g2
    refine Ev.seg D_280 [(.bipush (-2), 2)] (by decide +kernel) (j := 0) (pc' := 20) (lv' := [(0, .ref 294), (1, .int v1)]) (st' := [.int (-2 : Int32)]) rfl ?_
    cases g2
    exact Ev.sub2 j2 subL_nil
  · have c2 : ¬ p1.1 = 0 := of_decide_eq_false c2
    rw [if_neg c2] at g2
    refine Ev.seg D_280 [(.aload_n 0, 1)] (by decide +kernel) (j := 0) (pc' := 9) (lv' := [(0, .ref 294), (1, .int v1)]) (st' := [.ref 294]) rfl ?_
    refine Ev.getI D_280 (by decide +kernel) F_10_323 (Or.inl T_10_30) (S_oI k_294) ?_
    obtain ⟨p4, e4, g2⟩ := bd g2
    refine Ev.calls D_280 E_279 (by decide +kernel) C_10_354 [.int (p1.2.1 294 30)] (r := []) rfl rfl (Nat.le_of_ble_eq_true rfl) (Nat.le_of_ble_eq_true rfl) (gM_orNone_ok (by omega)  e4) ?_
    refine Ev.seg D_280 [(.goto 5, 3)] (by decide +kernel) (j := 0) (pc' := 20) (lv' := [(0, .ref 294), (1, .int v1)]) (st' := [.int p4]) rfl ?_
    cases g2
    exact Ev.sub2 j2 subL_nil
/- PennantLawnModel far: 281 -/
def gM_far (v1 : Int32) (s : mT) : Option (Int32 × mT) :=
  (gM_asksLooks v1 s).bind fun p1 =>
  (
    if p1.1 = 0 then
      some ((-2 : Int32))
    else
      some (p1.2.1 294 31) : Option (Int32)).bind fun x2 =>
  some ((x2, p1.2))
set_option maxRecDepth 8000 in
theorem gM_far_ok {L d : Nat} (hd : 7 ≤ d) {v1 : Int32} {s : mT} {p : Int32 × mT} (h : gM_far v1 s = some p) : Ev d 281 0 [(0, .ref 294), (1, .int v1)] [] (uS L s) (some (.int p.1), uS L p.2) := by
  obtain ⟨d, rfl⟩ : ∃ e, d = e + 1 := ⟨d - 1, by omega⟩
  obtain ⟨o, ho⟩ : ∃ o : Option Value × mS, o = (some (.int p.1), uS L p.2) := ⟨_, rfl⟩
  rw [← ho]
  unfold gM_far at h
  refine Ev.seg D_281 [(.aload_n 0, 1), (.iload_n 1, 1)] (by decide +kernel) (j := 0) (pc' := 2) (lv' := [(0, .ref 294), (1, .int v1)]) (st' := [.int v1, .ref 294]) rfl ?_
  obtain ⟨p1, e1, h⟩ := bd h
  refine Ev.callv D_281 E_271 (by decide +kernel) C_10_351 294 [.int v1] (r := []) rfl (gd_o k_294 (by decide)) rfl (Nat.le_of_ble_eq_true rfl) (Nat.le_of_ble_eq_true rfl) (gM_asksLooks_ok (by omega)  e1) ?_
  obtain ⟨x2, g2, h⟩ := bd h
  have j2 : Ev (d + 1) 281 17 [] [.int x2] (uS L p1.2) o := by
    clear g2
    cases h
    obtain rfl : o = _ := ho
    exact Ev.iret D_281 (by decide +kernel)
  clear h
  refine Ev.if_ D_281 (c := .eq) (off := 10) (by decide +kernel) (t := 15) rfl (fun c2 => ?_) (fun c2 => ?_)
  · have c2 : p1.1 = 0 := of_decide_eq_true c2
    rw [if_pos c2] at g2
    refine Ev.seg D_281 [(.bipush (-2), 2)] (by decide +kernel) (j := 0) (pc' := 17) (lv' := [(0, .ref 294), (1, .int v1)]) (st' := [.int (-2 : Int32)]) rfl ?_
    cases g2
    exact Ev.sub2 j2 subL_nil
  · have c2 : ¬ p1.1 = 0 := of_decide_eq_false c2
    rw [if_neg c2] at g2
    refine Ev.seg D_281 [(.aload_n 0, 1)] (by decide +kernel) (j := 0) (pc' := 9) (lv' := [(0, .ref 294), (1, .int v1)]) (st' := [.ref 294]) rfl ?_
    refine Ev.getI D_281 (by decide +kernel) F_10_326 (Or.inl T_10_31) (S_oI k_294) ?_
    refine Ev.seg D_281 [(.goto 5, 3)] (by decide +kernel) (j := 0) (pc' := 17) (lv' := [(0, .ref 294), (1, .int v1)]) (st' := [.int (p1.2.1 294 31)]) rfl ?_
    cases g2
    exact Ev.sub2 j2 subL_nil
/- PennantLawnModel can: 282 -/
def gM_can (s : mT) : Option (Int32 × mT) :=
  (gM_isRace s).bind fun p1 =>
  if p1 = 0 then
    some (((-2 : Int32), s))
  else
    (rdI (s.1 295) 79 (4 : Int32)).bind fun x4 =>
    if x4 = 0 then
      some (((0 : Int32), s))
    else
      (gM_asksLooks (0 : Int32) s).bind fun p6 =>
      some ((p6.2.1 294 32, p6.2))
set_option maxRecDepth 8000 in
theorem gM_can_ok {L d : Nat} (hd : 7 ≤ d) {s : mT} {p : Int32 × mT} (h : gM_can s = some p) : Ev d 282 0 [(0, .ref 294)] [] (uS L s) (some (.int p.1), uS L p.2) := by
  obtain ⟨d, rfl⟩ : ∃ e, d = e + 1 := ⟨d - 1, by omega⟩
  obtain ⟨o, ho⟩ : ∃ o : Option Value × mS, o = (some (.int p.1), uS L p.2) := ⟨_, rfl⟩
  rw [← ho]
  unfold gM_can at h
  refine Ev.seg D_282 [(.aload_n 0, 1)] (by decide +kernel) (j := 0) (pc' := 1) (lv' := [(0, .ref 294)]) (st' := [.ref 294]) rfl ?_
  obtain ⟨p1, e1, h⟩ := bd h
  refine Ev.callv D_282 E_214 (by decide +kernel) C_10_92 294 [] (r := []) rfl (gd_o k_294 (by decide)) rfl (Nat.le_of_ble_eq_true rfl) (Nat.le_of_ble_eq_true rfl) (gM_isRace_ok (by omega)  e1) ?_
  refine Ev.if_ D_282 (c := .ne) (off := 6) (by decide +kernel) (t := 10) rfl (fun c2 => ?_) (fun c2 => ?_)
  · have c2 : ¬ p1 = 0 := of_decide_eq_true c2
    rw [if_neg c2] at h
    refine Ev.seg D_282 [(.aload_n 0, 1)] (by decide +kernel) (j := 0) (pc' := 11) (lv' := [(0, .ref 294)]) (st' := [.ref 294]) rfl ?_
    refine Ev.getR D_282 (by decide +kernel) F_10_9 T_10_1 (x := 295) (S_oR k_294 (by decide +kernel)) ?_
    refine Ev.seg D_282 [(.iconst 4, 1)] (by decide +kernel) (j := 0) (pc' := 15) (lv' := [(0, .ref 294)]) (st' := [.int (4 : Int32), .ref 295]) rfl ?_
    obtain ⟨x4, e4, h⟩ := bd h
    refine Ev.iald D_282 (by decide +kernel) (S_aI k_295 e4) ?_
    refine Ev.if_ D_282 (c := .ne) (off := 5) (by decide +kernel) (t := 21) rfl (fun c5 => ?_) (fun c5 => ?_)
    · have c5 : ¬ x4 = 0 := of_decide_eq_true c5
      rw [if_neg c5] at h
      refine Ev.seg D_282 [(.aload_n 0, 1), (.iconst 0, 1)] (by decide +kernel) (j := 0) (pc' := 23) (lv' := [(0, .ref 294)]) (st' := [.int (0 : Int32), .ref 294]) rfl ?_
      obtain ⟨p6, e6, h⟩ := bd h
      refine Ev.callv D_282 E_271 (by decide +kernel) C_10_351 294 [.int (0 : Int32)] (r := []) rfl (gd_o k_294 (by decide)) rfl (Nat.le_of_ble_eq_true rfl) (Nat.le_of_ble_eq_true rfl) (gM_asksLooks_ok (by omega)  e6) ?_
      refine Ev.seg D_282 [(.pop, 1), (.aload_n 0, 1)] (by decide +kernel) (j := 0) (pc' := 28) (lv' := [(0, .ref 294)]) (st' := [.ref 294]) rfl ?_
      refine Ev.getI D_282 (by decide +kernel) F_10_320 (Or.inl T_10_32) (S_oI k_294) ?_
      cases h
      obtain rfl : o = _ := ho
      exact Ev.iret D_282 (by decide +kernel)
    · have c5 : x4 = 0 := Decidable.of_not_not (of_decide_eq_false c5)
      rw [if_pos c5] at h
      refine Ev.seg D_282 [(.iconst 0, 1)] (by decide +kernel) (j := 0) (pc' := 20) (lv' := [(0, .ref 294)]) (st' := [.int (0 : Int32)]) rfl ?_
      cases h
      obtain rfl : o = _ := ho
      exact Ev.iret D_282 (by decide +kernel)
  · have c2 : p1 = 0 := Decidable.of_not_not (of_decide_eq_false c2)
    rw [if_pos c2] at h
    refine Ev.seg D_282 [(.bipush (-2), 2)] (by decide +kernel) (j := 0) (pc' := 9) (lv' := [(0, .ref 294)]) (st' := [.int (-2 : Int32)]) rfl ?_
    cases h
    obtain rfl : o = _ := ho
    exact Ev.iret D_282 (by decide +kernel)
/- PennantLawnModel lureOf: 284 -/
def gM_lureOf_h14 (v1 : Int32) (v2 : Int32) (v4 : Int32) (q : Int32 × Int32 × mT) : Option ((Int32 × Int32 × mT) ⊕ (Int32 × mT)) :=
  if (9 : Int32) < q.2.1 then
    some (.inr (q.1, q.2.2))
  else
    if q.1 = (-1 : Int32) then
      (wrI q.2.2 304 21 v1 (imax v4 q.2.1)).bind fun s5 =>
      (gM_goAll s5).bind fun p6 =>
      (gM_winsOf p6).bind fun p7 =>
      (
        if p7 = v2 then
          some ((-1 : Int32))
        else
          some (q.2.1) : Option (Int32)).bind fun x8 =>
      some (.inl (x8, q.2.1 + (1 : Int32), p6))
    else
      some (.inr (q.1, q.2.2))
set_option maxRecDepth 8000 in
theorem gM_lureOf_h14_ok {L d : Nat} (hd : 5 ≤ d + 1) {v1 : Int32} {v2 : Int32} {v4 : Int32} : ∀ (q : Int32 × Int32 × mT) (x : (Int32 × Int32 × mT) ⊕ (Int32 × mT)), gM_lureOf_h14 v1 v2 v4 q = some x → ∀ o, sK (fun q => Ev (d + 1) 284 14 [(0, .ref 294), (1, .int v1), (2, .int v2), (4, .int v4), (5, .int q.1), (6, .int q.2.1)] [] (uS L q.2.2) o) (fun r => Ev (d + 1) 284 66 [(0, .ref 294), (1, .int v1), (4, .int v4), (5, .int r.1)] [] (uS L r.2) o) x → Ev (d + 1) 284 14 [(0, .ref 294), (1, .int v1), (2, .int v2), (4, .int v4), (5, .int q.1), (6, .int q.2.1)] [] (uS L q.2.2) o := by
  intro q x h o ho
  unfold gM_lureOf_h14 at h
  refine Ev.seg D_284 [(.iload 6, 2), (.bipush 9, 2)] (by decide +kernel) (j := 0) (pc' := 18) (lv' := [(0, .ref 294), (1, .int v1), (2, .int v2), (4, .int v4), (5, .int q.1), (6, .int q.2.1)]) (st' := [.int (9 : Int32), .int q.2.1]) rfl ?_
  refine Ev.icmp D_284 (c := .gt) (off := 48) (by decide +kernel) (t := 66) rfl (fun c1 => ?_) (fun c1 => ?_)
  · have c1 : (9 : Int32) < q.2.1 := of_decide_eq_true c1
    rw [if_pos c1] at h
    cases h
    exact Ev.sub (lv' := [(0, .ref 294), (1, .int v1), (4, .int v4), (5, .int q.1)]) (subL_cons rfl (subL_cons rfl (subL_cons rfl (subL_cons rfl subL_nil)))) ho
  · have c1 : ¬ (9 : Int32) < q.2.1 := of_decide_eq_false c1
    rw [if_neg c1] at h
    refine Ev.seg D_284 [(.iload 5, 2), (.iconst (-1), 1)] (by decide +kernel) (j := 0) (pc' := 24) (lv' := [(0, .ref 294), (1, .int v1), (2, .int v2), (4, .int v4), (5, .int q.1), (6, .int q.2.1)]) (st' := [.int (-1 : Int32), .int q.1]) rfl ?_
    refine Ev.icmp D_284 (c := .ne) (off := 42) (by decide +kernel) (t := 66) rfl (fun c2 => ?_) (fun c2 => ?_)
    · have c2 : ¬ q.1 = (-1 : Int32) := of_decide_eq_true c2
      rw [if_neg c2] at h
      cases h
      exact Ev.sub (lv' := [(0, .ref 294), (1, .int v1), (4, .int v4), (5, .int q.1)]) (subL_cons rfl (subL_cons rfl (subL_cons rfl (subL_cons rfl subL_nil)))) ho
    · have c2 : q.1 = (-1 : Int32) := Decidable.of_not_not (of_decide_eq_false c2)
      rw [if_pos c2] at h
      refine Ev.seg D_284 [(.aload_n 0, 1)] (by decide +kernel) (j := 0) (pc' := 28) (lv' := [(0, .ref 294), (1, .int v1), (2, .int v2), (4, .int v4), (5, .int q.1), (6, .int q.2.1)]) (st' := [.ref 294]) rfl ?_
      refine Ev.getR D_284 (by decide +kernel) F_10_43 T_10_18 (x := 304) (S_oR k_294 (by decide +kernel)) ?_
      refine Ev.seg D_284 [(.iload_n 1, 1), (.iload 4, 2), (.iload 6, 2)] (by decide +kernel) (j := 0) (pc' := 36) (lv' := [(0, .ref 294), (1, .int v1), (2, .int v2), (4, .int v4), (5, .int q.1), (6, .int q.2.1)]) (st' := [.int q.2.1, .int v4, .int v1, .ref 304]) rfl ?_
      refine Ev.max D_284 (by decide +kernel) (Nat.succ_pos _) C_10_237 (Nat.le_of_ble_eq_true rfl) ?_
      obtain ⟨s5, e5, h⟩ := bd h
      refine Ev.iast D_284 (by decide +kernel) (S_sI k_304 e5) ?_
      refine Ev.seg D_284 [(.aload_n 0, 1)] (by decide +kernel) (j := 0) (pc' := 41) (lv' := [(0, .ref 294), (1, .int v1), (2, .int v2), (4, .int v4), (5, .int q.1), (6, .int q.2.1)]) (st' := [.ref 294]) rfl ?_
      obtain ⟨p6, e6, h⟩ := bd h
      refine Ev.callv D_284 E_215 (by decide +kernel) C_10_266 294 [] (r := []) rfl (gd_o k_294 (by decide)) rfl (Nat.le_of_ble_eq_true rfl) (Nat.le_of_ble_eq_true rfl) (gM_goAll_ok (by omega)  e6) ?_
      refine Ev.seg D_284 [(.aload_n 0, 1)] (by decide +kernel) (j := 0) (pc' := 45) (lv' := [(0, .ref 294), (1, .int v1), (2, .int v2), (4, .int v4), (5, .int q.1), (6, .int q.2.1)]) (st' := [.ref 294]) rfl ?_
      obtain ⟨p7, e7, h⟩ := bd h
      refine Ev.callv D_284 E_242 (by decide +kernel) C_10_299 294 [] (r := []) rfl (gd_o k_294 (by decide)) rfl (Nat.le_of_ble_eq_true rfl) (Nat.le_of_ble_eq_true rfl) (gM_winsOf_ok (by omega)  e7) ?_
      refine Ev.seg D_284 [(.iload_n 2, 1)] (by decide +kernel) (j := 0) (pc' := 49) (lv' := [(0, .ref 294), (1, .int v1), (2, .int v2), (4, .int v4), (5, .int q.1), (6, .int q.2.1)]) (st' := [.int v2, .int p7]) rfl ?_
      obtain ⟨x8, g8, h⟩ := bd h
      have j8 : Ev (d + 1) 284 58 [(0, .ref 294), (1, .int v1), (2, .int v2), (4, .int v4), (6, .int q.2.1)] [.int x8] (uS L p6) o := by
        clear g8
        refine Ev.seg D_284 [(.istore 5, 2), (.iinc 6 1, 3), (.goto (-49), 3)] (by decide +kernel) (j := 0) (pc' := 14) (lv' := [(6, .int (q.2.1 + (1 : Int32))), (5, .int x8), (0, .ref 294), (1, .int v1), (2, .int v2), (4, .int v4)]) (st' := []) rfl ?_
        cases h
        exact Ev.sub (lv' := [(0, .ref 294), (1, .int v1), (2, .int v2), (4, .int v4), (5, .int (x8)), (6, .int (q.2.1 + (1 : Int32)))]) (subL_cons rfl (subL_cons rfl (subL_cons rfl (subL_cons rfl (subL_cons rfl (subL_cons rfl subL_nil)))))) ho
      clear h
      refine Ev.icmp D_284 (c := .eq) (off := 8) (by decide +kernel) (t := 57) rfl (fun c8 => ?_) (fun c8 => ?_)
      · have c8 : p7 = v2 := of_decide_eq_true c8
        rw [if_pos c8] at g8
        refine Ev.seg D_284 [(.iconst (-1), 1)] (by decide +kernel) (j := 0) (pc' := 58) (lv' := [(0, .ref 294), (1, .int v1), (2, .int v2), (4, .int v4), (5, .int q.1), (6, .int q.2.1)]) (st' := [.int (-1 : Int32)]) rfl ?_
        cases g8
        exact Ev.sub2 j8 (subL_cons rfl (subL_cons rfl (subL_cons rfl (subL_cons rfl (subL_cons rfl subL_nil)))))
      · have c8 : ¬ p7 = v2 := of_decide_eq_false c8
        rw [if_neg c8] at g8
        refine Ev.seg D_284 [(.iload 6, 2), (.goto 4, 3)] (by decide +kernel) (j := 0) (pc' := 58) (lv' := [(0, .ref 294), (1, .int v1), (2, .int v2), (4, .int v4), (5, .int q.1), (6, .int q.2.1)]) (st' := [.int q.2.1]) rfl ?_
        cases g8
        exact Ev.sub2 j8 (subL_cons rfl (subL_cons rfl (subL_cons rfl (subL_cons rfl (subL_cons rfl subL_nil)))))
theorem gM_lureOf_h14_w {L d : Nat} (hd : 5 ≤ d + 1) {v1 : Int32} {v2 : Int32} {v4 : Int32} : ∀ (n : Nat) (q : Int32 × Int32 × mT) (r : Int32 × mT), wh n (gM_lureOf_h14 v1 v2 v4) q = some r → ∀ o, (fun r => Ev (d + 1) 284 66 [(0, .ref 294), (1, .int v1), (4, .int v4), (5, .int r.1)] [] (uS L r.2) o) r → Ev (d + 1) 284 14 [(0, .ref 294), (1, .int v1), (2, .int v2), (4, .int v4), (5, .int q.1), (6, .int q.2.1)] [] (uS L q.2.2) o :=
  fun n q r h o hc => wh_ev (E := fun (q : Int32 × Int32 × mT) o => Ev (d + 1) 284 14 [(0, .ref 294), (1, .int v1), (2, .int v2), (4, .int v4), (5, .int q.1), (6, .int q.2.1)] [] (uS L q.2.2) o) (C := fun (r : Int32 × mT) o => (fun r => Ev (d + 1) 284 66 [(0, .ref 294), (1, .int v1), (4, .int v4), (5, .int r.1)] [] (uS L r.2) o) r) (gM_lureOf_h14_ok hd  ) n q r h o hc
def gM_lureOf (v1 : Int32) (v2 : Int32) (v3 : Int32) (s : mT) : Option (Int32 × mT) :=
  (rdI (s.1 304) 21 v1).bind fun x2 =>
  (wh FU (gM_lureOf_h14 v1 v2 x2) ((-1 : Int32), v3, s)).bind fun x9 =>
  (wrI x9.2 304 21 v1 x2).bind fun s11 =>
  some ((x9.1, s11))
set_option maxRecDepth 8000 in
theorem gM_lureOf_ok {L d : Nat} (hd : 5 ≤ d) {v1 : Int32} {v2 : Int32} {v3 : Int32} {s : mT} {p : Int32 × mT} (h : gM_lureOf v1 v2 v3 s = some p) : Ev d 284 0 [(0, .ref 294), (1, .int v1), (2, .int v2), (3, .int v3)] [] (uS L s) (some (.int p.1), uS L p.2) := by
  obtain ⟨d, rfl⟩ : ∃ e, d = e + 1 := ⟨d - 1, by omega⟩
  obtain ⟨o, ho⟩ : ∃ o : Option Value × mS, o = (some (.int p.1), uS L p.2) := ⟨_, rfl⟩
  rw [← ho]
  unfold gM_lureOf at h
  refine Ev.seg D_284 [(.aload_n 0, 1)] (by decide +kernel) (j := 0) (pc' := 1) (lv' := [(0, .ref 294), (1, .int v1), (2, .int v2), (3, .int v3)]) (st' := [.ref 294]) rfl ?_
  refine Ev.getR D_284 (by decide +kernel) F_10_43 T_10_18 (x := 304) (S_oR k_294 (by decide +kernel)) ?_
  refine Ev.seg D_284 [(.iload_n 1, 1)] (by decide +kernel) (j := 0) (pc' := 5) (lv' := [(0, .ref 294), (1, .int v1), (2, .int v2), (3, .int v3)]) (st' := [.int v1, .ref 304]) rfl ?_
  obtain ⟨x2, e2, h⟩ := bd h
  refine Ev.iald D_284 (by decide +kernel) (S_aI k_304 e2) ?_
  refine Ev.seg D_284 [(.istore 4, 2), (.iconst (-1), 1), (.istore 5, 2), (.iload_n 3, 1), (.istore 6, 2)] (by decide +kernel) (j := 0) (pc' := 14) (lv' := [(6, .int v3), (5, .int (-1 : Int32)), (4, .int x2), (0, .ref 294), (1, .int v1), (2, .int v2), (3, .int v3)]) (st' := []) rfl ?_
  obtain ⟨x9, w9, h⟩ := bd h
  have j9 : Ev (d + 1) 284 66 [(0, .ref 294), (1, .int v1), (4, .int x2), (5, .int x9.1)] [] (uS L x9.2) o := by
    clear w9
    refine Ev.seg D_284 [(.aload_n 0, 1)] (by decide +kernel) (j := 0) (pc' := 67) (lv' := [(0, .ref 294), (1, .int v1), (4, .int x2), (5, .int x9.1)]) (st' := [.ref 294]) rfl ?_
    refine Ev.getR D_284 (by decide +kernel) F_10_43 T_10_18 (x := 304) (S_oR k_294 (by decide +kernel)) ?_
    refine Ev.seg D_284 [(.iload_n 1, 1), (.iload 4, 2)] (by decide +kernel) (j := 0) (pc' := 73) (lv' := [(0, .ref 294), (1, .int v1), (4, .int x2), (5, .int x9.1)]) (st' := [.int x2, .int v1, .ref 304]) rfl ?_
    obtain ⟨s11, e11, h⟩ := bd h
    refine Ev.iast D_284 (by decide +kernel) (S_sI k_304 e11) ?_
    refine Ev.seg D_284 [(.iload 5, 2)] (by decide +kernel) (j := 0) (pc' := 76) (lv' := [(0, .ref 294), (1, .int v1), (4, .int x2), (5, .int x9.1)]) (st' := [.int x9.1]) rfl ?_
    cases h
    obtain rfl : o = _ := ho
    exact Ev.iret D_284 (by decide +kernel)
  exact Ev.sub (lv' := [(0, .ref 294), (1, .int v1), (2, .int v2), (4, .int x2), (5, .int (-1 : Int32)), (6, .int v3)]) (subL_cons rfl (subL_cons rfl (subL_cons rfl (subL_cons rfl (subL_cons rfl (subL_cons rfl subL_nil)))))) (gM_lureOf_h14_w hd   _ _ _ w9 _ j9)
/- PennantLawnModel spoils: 283 -/
def gM_spoils_h19 (v1 : Int32) (q : Int32 × Int32 × mT) : Option ((Int32 × Int32 × mT) ⊕ (Int32 × mT)) :=
  (gM_last q.2.2).bind fun p1 =>
  if p1 ≤ q.2.1 then
    some (.inr (q.1, q.2.2))
  else
    if v1 = (-1 : Int32) then
      some (.inr (q.1, q.2.2))
    else
      (gM_lureOf q.2.1 v1 (9 : Int32) q.2.2).bind fun p4 =>
      (
        if p4.1 = (-1 : Int32) then
          some ((0 : Int32))
        else
          some ((1 : Int32) <<< (q.2.1 &&& 31)) : Option (Int32)).bind fun x5 =>
      some (.inl (q.1 ||| x5, q.2.1 + (1 : Int32), p4.2))
set_option maxRecDepth 8000 in
theorem gM_spoils_h19_ok {L d : Nat} (hd : 6 ≤ d + 1) {v1 : Int32} : ∀ (q : Int32 × Int32 × mT) (x : (Int32 × Int32 × mT) ⊕ (Int32 × mT)), gM_spoils_h19 v1 q = some x → ∀ o, sK (fun q => Ev (d + 1) 283 19 [(0, .ref 294), (1, .int v1), (2, .int q.1), (3, .int q.2.1)] [] (uS L q.2.2) o) (fun r => Ev (d + 1) 283 60 [(2, .int r.1)] [] (uS L r.2) o) x → Ev (d + 1) 283 19 [(0, .ref 294), (1, .int v1), (2, .int q.1), (3, .int q.2.1)] [] (uS L q.2.2) o := by
  intro q x h o ho
  unfold gM_spoils_h19 at h
  refine Ev.seg D_283 [(.iload_n 3, 1), (.aload_n 0, 1)] (by decide +kernel) (j := 0) (pc' := 21) (lv' := [(0, .ref 294), (1, .int v1), (2, .int q.1), (3, .int q.2.1)]) (st' := [.ref 294, .int q.2.1]) rfl ?_
  obtain ⟨p1, e1, h⟩ := bd h
  refine Ev.callv D_283 E_216 (by decide +kernel) C_10_96 294 [] (r := [.int q.2.1]) rfl (gd_o k_294 (by decide)) rfl (Nat.le_of_ble_eq_true rfl) (Nat.le_of_ble_eq_true rfl) (gM_last_ok (by omega)  e1) ?_
  refine Ev.icmp D_283 (c := .ge) (off := 36) (by decide +kernel) (t := 60) rfl (fun c2 => ?_) (fun c2 => ?_)
  · have c2 : p1 ≤ q.2.1 := of_decide_eq_true c2
    rw [if_pos c2] at h
    cases h
    exact Ev.sub (lv' := [(2, .int q.1)]) (subL_cons rfl subL_nil) ho
  · have c2 : ¬ p1 ≤ q.2.1 := of_decide_eq_false c2
    rw [if_neg c2] at h
    refine Ev.seg D_283 [(.iload_n 1, 1), (.iconst (-1), 1)] (by decide +kernel) (j := 0) (pc' := 29) (lv' := [(0, .ref 294), (1, .int v1), (2, .int q.1), (3, .int q.2.1)]) (st' := [.int (-1 : Int32), .int v1]) rfl ?_
    refine Ev.icmp D_283 (c := .eq) (off := 31) (by decide +kernel) (t := 60) rfl (fun c3 => ?_) (fun c3 => ?_)
    · have c3 : v1 = (-1 : Int32) := of_decide_eq_true c3
      rw [if_pos c3] at h
      cases h
      exact Ev.sub (lv' := [(2, .int q.1)]) (subL_cons rfl subL_nil) ho
    · have c3 : ¬ v1 = (-1 : Int32) := of_decide_eq_false c3
      rw [if_neg c3] at h
      refine Ev.seg D_283 [(.iload_n 2, 1), (.aload_n 0, 1), (.iload_n 3, 1), (.iload_n 1, 1), (.bipush 9, 2)] (by decide +kernel) (j := 0) (pc' := 38) (lv' := [(0, .ref 294), (1, .int v1), (2, .int q.1), (3, .int q.2.1)]) (st' := [.int (9 : Int32), .int v1, .int q.2.1, .ref 294, .int q.1]) rfl ?_
      obtain ⟨p4, e4, h⟩ := bd h
      refine Ev.callv D_283 E_284 (by decide +kernel) C_10_357 294 [.int q.2.1, .int v1, .int (9 : Int32)] (r := [.int q.1]) rfl (gd_o k_294 (by decide)) rfl (Nat.le_of_ble_eq_true rfl) (Nat.le_of_ble_eq_true rfl) (gM_lureOf_ok (by omega)  e4) ?_
      refine Ev.seg D_283 [(.iconst (-1), 1)] (by decide +kernel) (j := 0) (pc' := 42) (lv' := [(0, .ref 294), (1, .int v1), (2, .int q.1), (3, .int q.2.1)]) (st' := [.int (-1 : Int32), .int p4.1, .int q.1]) rfl ?_
      obtain ⟨x5, g5, h⟩ := bd h
      have j5 : Ev (d + 1) 283 52 [(0, .ref 294), (1, .int v1), (3, .int q.2.1)] [.int x5, .int q.1] (uS L p4.2) o := by
        clear g5
        refine Ev.seg D_283 [(.ior, 1), (.istore_n 2, 1), (.iinc 3 1, 3), (.goto (-38), 3)] (by decide +kernel) (j := 0) (pc' := 19) (lv' := [(3, .int (q.2.1 + (1 : Int32))), (2, .int (q.1 ||| x5)), (0, .ref 294), (1, .int v1)]) (st' := []) rfl ?_
        cases h
        exact Ev.sub (lv' := [(0, .ref 294), (1, .int v1), (2, .int (q.1 ||| x5)), (3, .int (q.2.1 + (1 : Int32)))]) (subL_cons rfl (subL_cons rfl (subL_cons rfl (subL_cons rfl subL_nil)))) ho
      clear h
      refine Ev.icmp D_283 (c := .eq) (off := 9) (by decide +kernel) (t := 51) rfl (fun c5 => ?_) (fun c5 => ?_)
      · have c5 : p4.1 = (-1 : Int32) := of_decide_eq_true c5
        rw [if_pos c5] at g5
        refine Ev.seg D_283 [(.iconst 0, 1)] (by decide +kernel) (j := 0) (pc' := 52) (lv' := [(0, .ref 294), (1, .int v1), (2, .int q.1), (3, .int q.2.1)]) (st' := [.int (0 : Int32), .int q.1]) rfl ?_
        cases g5
        exact Ev.sub2 j5 (subL_cons rfl (subL_cons rfl (subL_cons rfl subL_nil)))
      · have c5 : ¬ p4.1 = (-1 : Int32) := of_decide_eq_false c5
        rw [if_neg c5] at g5
        refine Ev.seg D_283 [(.iconst 1, 1), (.iload_n 3, 1), (.ishl, 1), (.goto 4, 3)] (by decide +kernel) (j := 0) (pc' := 52) (lv' := [(0, .ref 294), (1, .int v1), (2, .int q.1), (3, .int q.2.1)]) (st' := [.int ((1 : Int32) <<< (q.2.1 &&& 31)), .int q.1]) rfl ?_
        cases g5
        exact Ev.sub2 j5 (subL_cons rfl (subL_cons rfl (subL_cons rfl subL_nil)))
theorem gM_spoils_h19_w {L d : Nat} (hd : 6 ≤ d + 1) {v1 : Int32} : ∀ (n : Nat) (q : Int32 × Int32 × mT) (r : Int32 × mT), wh n (gM_spoils_h19 v1) q = some r → ∀ o, (fun r => Ev (d + 1) 283 60 [(2, .int r.1)] [] (uS L r.2) o) r → Ev (d + 1) 283 19 [(0, .ref 294), (1, .int v1), (2, .int q.1), (3, .int q.2.1)] [] (uS L q.2.2) o :=
  fun n q r h o hc => wh_ev (E := fun (q : Int32 × Int32 × mT) o => Ev (d + 1) 283 19 [(0, .ref 294), (1, .int v1), (2, .int q.1), (3, .int q.2.1)] [] (uS L q.2.2) o) (C := fun (r : Int32 × mT) o => (fun r => Ev (d + 1) 283 60 [(2, .int r.1)] [] (uS L r.2) o) r) (gM_spoils_h19_ok hd  ) n q r h o hc
def gM_spoils (s : mT) : Option (Int32 × mT) :=
  (gM_asksRace s).bind fun p1 =>
  if p1.1 = 0 then
    some (((-2 : Int32), p1.2))
  else
    (gM_winsOf p1.2).bind fun p3 =>
    (wh FU (gM_spoils_h19 p3) ((0 : Int32), (0 : Int32), p1.2)).bind fun x6 =>
    some ((x6.1, x6.2))
set_option maxRecDepth 8000 in
theorem gM_spoils_ok {L d : Nat} (hd : 6 ≤ d) {s : mT} {p : Int32 × mT} (h : gM_spoils s = some p) : Ev d 283 0 [(0, .ref 294)] [] (uS L s) (some (.int p.1), uS L p.2) := by
  obtain ⟨d, rfl⟩ : ∃ e, d = e + 1 := ⟨d - 1, by omega⟩
  obtain ⟨o, ho⟩ : ∃ o : Option Value × mS, o = (some (.int p.1), uS L p.2) := ⟨_, rfl⟩
  rw [← ho]
  unfold gM_spoils at h
  refine Ev.seg D_283 [(.aload_n 0, 1)] (by decide +kernel) (j := 0) (pc' := 1) (lv' := [(0, .ref 294)]) (st' := [.ref 294]) rfl ?_
  obtain ⟨p1, e1, h⟩ := bd h
  refine Ev.callv D_283 E_211 (by decide +kernel) C_10_269 294 [] (r := []) rfl (gd_o k_294 (by decide)) rfl (Nat.le_of_ble_eq_true rfl) (Nat.le_of_ble_eq_true rfl) (gM_asksRace_ok (by omega)  e1) ?_
  refine Ev.if_ D_283 (c := .ne) (off := 6) (by decide +kernel) (t := 10) rfl (fun c2 => ?_) (fun c2 => ?_)
  · have c2 : ¬ p1.1 = 0 := of_decide_eq_true c2
    rw [if_neg c2] at h
    refine Ev.seg D_283 [(.aload_n 0, 1)] (by decide +kernel) (j := 0) (pc' := 11) (lv' := [(0, .ref 294)]) (st' := [.ref 294]) rfl ?_
    obtain ⟨p3, e3, h⟩ := bd h
    refine Ev.callv D_283 E_242 (by decide +kernel) C_10_299 294 [] (r := []) rfl (gd_o k_294 (by decide)) rfl (Nat.le_of_ble_eq_true rfl) (Nat.le_of_ble_eq_true rfl) (gM_winsOf_ok (by omega)  e3) ?_
    refine Ev.seg D_283 [(.istore_n 1, 1), (.iconst 0, 1), (.istore_n 2, 1), (.iconst 0, 1), (.istore_n 3, 1)] (by decide +kernel) (j := 0) (pc' := 19) (lv' := [(3, .int (0 : Int32)), (2, .int (0 : Int32)), (1, .int p3), (0, .ref 294)]) (st' := []) rfl ?_
    obtain ⟨x6, w6, h⟩ := bd h
    have j6 : Ev (d + 1) 283 60 [(2, .int x6.1)] [] (uS L x6.2) o := by
      clear w6
      refine Ev.seg D_283 [(.iload_n 2, 1)] (by decide +kernel) (j := 0) (pc' := 61) (lv' := [(2, .int x6.1)]) (st' := [.int x6.1]) rfl ?_
      cases h
      obtain rfl : o = _ := ho
      exact Ev.iret D_283 (by decide +kernel)
    exact Ev.sub (lv' := [(0, .ref 294), (1, .int p3), (2, .int (0 : Int32)), (3, .int (0 : Int32))]) (subL_cons rfl (subL_cons rfl (subL_cons rfl (subL_cons rfl subL_nil)))) (gM_spoils_h19_w hd   _ _ _ w6 _ j6)
  · have c2 : p1.1 = 0 := Decidable.of_not_not (of_decide_eq_false c2)
    rw [if_pos c2] at h
    refine Ev.seg D_283 [(.bipush (-2), 2)] (by decide +kernel) (j := 0) (pc' := 9) (lv' := [(0, .ref 294)]) (st' := [.int (-2 : Int32)]) rfl ?_
    cases h
    obtain rfl : o = _ := ho
    exact Ev.iret D_283 (by decide +kernel)
/- PennantLawnModel lure: 285 -/
def gM_lure (v1 : Int32) (s : mT) : Option (Int32 × mT) :=
  (gM_asksAhead v1 s).bind fun p1 =>
  if p1.1 = 0 then
    some (((-2 : Int32), p1.2))
  else
    (gM_winsOf p1.2).bind fun p3 =>
    (
      if p3 = (-1 : Int32) then
        some (((-1 : Int32), p1.2))
      else
        (gM_lureOf v1 p3 (1 : Int32) p1.2).bind fun p5 =>
        some ((p5.1, p5.2)) : Option (Int32 × mT)).bind fun x4 =>
    some ((x4.1, x4.2))
set_option maxRecDepth 8000 in
theorem gM_lure_ok {L d : Nat} (hd : 7 ≤ d) {v1 : Int32} {s : mT} {p : Int32 × mT} (h : gM_lure v1 s = some p) : Ev d 285 0 [(0, .ref 294), (1, .int v1)] [] (uS L s) (some (.int p.1), uS L p.2) := by
  obtain ⟨d, rfl⟩ : ∃ e, d = e + 1 := ⟨d - 1, by omega⟩
  obtain ⟨o, ho⟩ : ∃ o : Option Value × mS, o = (some (.int p.1), uS L p.2) := ⟨_, rfl⟩
  rw [← ho]
  unfold gM_lure at h
  refine Ev.seg D_285 [(.aload_n 0, 1), (.iload_n 1, 1)] (by decide +kernel) (j := 0) (pc' := 2) (lv' := [(0, .ref 294), (1, .int v1)]) (st' := [.int v1, .ref 294]) rfl ?_
  obtain ⟨p1, e1, h⟩ := bd h
  refine Ev.callv D_285 E_225 (by decide +kernel) C_10_281 294 [.int v1] (r := []) rfl (gd_o k_294 (by decide)) rfl (Nat.le_of_ble_eq_true rfl) (Nat.le_of_ble_eq_true rfl) (gM_asksAhead_ok (by omega)  e1) ?_
  refine Ev.if_ D_285 (c := .ne) (off := 6) (by decide +kernel) (t := 11) rfl (fun c2 => ?_) (fun c2 => ?_)
  · have c2 : ¬ p1.1 = 0 := of_decide_eq_true c2
    rw [if_neg c2] at h
    refine Ev.seg D_285 [(.aload_n 0, 1)] (by decide +kernel) (j := 0) (pc' := 12) (lv' := [(0, .ref 294), (1, .int v1)]) (st' := [.ref 294]) rfl ?_
    obtain ⟨p3, e3, h⟩ := bd h
    refine Ev.callv D_285 E_242 (by decide +kernel) C_10_299 294 [] (r := []) rfl (gd_o k_294 (by decide)) rfl (Nat.le_of_ble_eq_true rfl) (Nat.le_of_ble_eq_true rfl) (gM_winsOf_ok (by omega)  e3) ?_
    refine Ev.seg D_285 [(.istore_n 2, 1), (.iload_n 2, 1), (.iconst (-1), 1)] (by decide +kernel) (j := 0) (pc' := 18) (lv' := [(2, .int p3), (0, .ref 294), (1, .int v1)]) (st' := [.int (-1 : Int32), .int p3]) rfl ?_
    obtain ⟨x4, g4, h⟩ := bd h
    have j4 : Ev (d + 1) 285 32 [] [.int x4.1] (uS L x4.2) o := by
      clear g4
      cases h
      obtain rfl : o = _ := ho
      exact Ev.iret D_285 (by decide +kernel)
    clear h
    refine Ev.icmp D_285 (c := .ne) (off := 7) (by decide +kernel) (t := 25) rfl (fun c4 => ?_) (fun c4 => ?_)
    · have c4 : ¬ p3 = (-1 : Int32) := of_decide_eq_true c4
      rw [if_neg c4] at g4
      refine Ev.seg D_285 [(.aload_n 0, 1), (.iload_n 1, 1), (.iload_n 2, 1), (.iconst 1, 1)] (by decide +kernel) (j := 0) (pc' := 29) (lv' := [(2, .int p3), (0, .ref 294), (1, .int v1)]) (st' := [.int (1 : Int32), .int p3, .int v1, .ref 294]) rfl ?_
      obtain ⟨p5, e5, g4⟩ := bd g4
      refine Ev.callv D_285 E_284 (by decide +kernel) C_10_357 294 [.int v1, .int p3, .int (1 : Int32)] (r := []) rfl (gd_o k_294 (by decide)) rfl (Nat.le_of_ble_eq_true rfl) (Nat.le_of_ble_eq_true rfl) (gM_lureOf_ok (by omega)  e5) ?_
      cases g4
      exact Ev.sub2 j4 subL_nil
    · have c4 : p3 = (-1 : Int32) := Decidable.of_not_not (of_decide_eq_false c4)
      rw [if_pos c4] at g4
      refine Ev.seg D_285 [(.iconst (-1), 1), (.goto 10, 3)] (by decide +kernel) (j := 0) (pc' := 32) (lv' := [(2, .int p3), (0, .ref 294), (1, .int v1)]) (st' := [.int (-1 : Int32)]) rfl ?_
      cases g4
      exact Ev.sub2 j4 subL_nil
  · have c2 : p1.1 = 0 := Decidable.of_not_not (of_decide_eq_false c2)
    rw [if_pos c2] at h
    refine Ev.seg D_285 [(.bipush (-2), 2)] (by decide +kernel) (j := 0) (pc' := 10) (lv' := [(0, .ref 294), (1, .int v1)]) (st' := [.int (-2 : Int32)]) rfl ?_
    cases h
    obtain rfl : o = _ := ho
    exact Ev.iret D_285 (by decide +kernel)
/- PennantLawnModel coverSet: 287 -/
def gM_coverSet_h21 (v1 : Int32) (v2 : Int32) (s : mT) (q : Int32 × Int32) : Option ((Int32 × Int32) ⊕ (Int32)) :=
  (rdI (s.1 295) 79 (4 : Int32)).bind fun x2 =>
  if x2 ≤ q.2 then
    some (.inr q.1)
  else
    (
      if q.1 = 0 then
        some ((0 : Int32))
      else
        (gM_seersOf q.2 s).bind fun p5 =>
        if (p5 &&& v2) = 0 then
          some ((0 : Int32))
        else
          some ((1 : Int32)) : Option (Int32)).bind fun x4 =>
    some (.inl (x4, q.2 + (1 : Int32)))
set_option maxRecDepth 8000 in
theorem gM_coverSet_h21_ok {L d : Nat} (hd : 4 ≤ d + 1) {v1 : Int32} {v2 : Int32} {s : mT} : ∀ (q : Int32 × Int32) (x : (Int32 × Int32) ⊕ (Int32)), gM_coverSet_h21 v1 v2 s q = some x → ∀ o, sK (fun q => Ev (d + 1) 287 21 [(0, .ref 294), (1, .int v1), (2, .int v2), (3, .int q.1), (4, .int q.2)] [] (uS L s) o) (fun r => Ev (d + 1) 287 59 [(0, .ref 294), (1, .int v1), (2, .int v2), (3, .int r)] [] (uS L s) o) x → Ev (d + 1) 287 21 [(0, .ref 294), (1, .int v1), (2, .int v2), (3, .int q.1), (4, .int q.2)] [] (uS L s) o := by
  intro q x h o ho
  unfold gM_coverSet_h21 at h
  refine Ev.seg D_287 [(.iload 4, 2), (.aload_n 0, 1)] (by decide +kernel) (j := 0) (pc' := 24) (lv' := [(0, .ref 294), (1, .int v1), (2, .int v2), (3, .int q.1), (4, .int q.2)]) (st' := [.ref 294, .int q.2]) rfl ?_
  refine Ev.getR D_287 (by decide +kernel) F_10_9 T_10_1 (x := 295) (S_oR k_294 (by decide +kernel)) ?_
  refine Ev.seg D_287 [(.iconst 4, 1)] (by decide +kernel) (j := 0) (pc' := 28) (lv' := [(0, .ref 294), (1, .int v1), (2, .int v2), (3, .int q.1), (4, .int q.2)]) (st' := [.int (4 : Int32), .ref 295, .int q.2]) rfl ?_
  obtain ⟨x2, e2, h⟩ := bd h
  refine Ev.iald D_287 (by decide +kernel) (S_aI k_295 e2) ?_
  refine Ev.icmp D_287 (c := .ge) (off := 30) (by decide +kernel) (t := 59) rfl (fun c3 => ?_) (fun c3 => ?_)
  · have c3 : x2 ≤ q.2 := of_decide_eq_true c3
    rw [if_pos c3] at h
    cases h
    exact Ev.sub (lv' := [(0, .ref 294), (1, .int v1), (2, .int v2), (3, .int q.1)]) (subL_cons rfl (subL_cons rfl (subL_cons rfl (subL_cons rfl subL_nil)))) ho
  · have c3 : ¬ x2 ≤ q.2 := of_decide_eq_false c3
    rw [if_neg c3] at h
    refine Ev.seg D_287 [(.iload_n 3, 1)] (by decide +kernel) (j := 0) (pc' := 33) (lv' := [(0, .ref 294), (1, .int v1), (2, .int v2), (3, .int q.1), (4, .int q.2)]) (st' := [.int q.1]) rfl ?_
    obtain ⟨x4, g4, h⟩ := bd h
    have j4 : Ev (d + 1) 287 52 [(0, .ref 294), (1, .int v1), (2, .int v2), (4, .int q.2)] [.int x4] (uS L s) o := by
      clear g4
      refine Ev.seg D_287 [(.istore_n 3, 1), (.iinc 4 1, 3), (.goto (-35), 3)] (by decide +kernel) (j := 0) (pc' := 21) (lv' := [(4, .int (q.2 + (1 : Int32))), (3, .int x4), (0, .ref 294), (1, .int v1), (2, .int v2)]) (st' := []) rfl ?_
      cases h
      exact Ev.sub (lv' := [(0, .ref 294), (1, .int v1), (2, .int v2), (3, .int (x4)), (4, .int (q.2 + (1 : Int32)))]) (subL_cons rfl (subL_cons rfl (subL_cons rfl (subL_cons rfl (subL_cons rfl subL_nil))))) ho
    clear h
    refine Ev.if_ D_287 (c := .eq) (off := 18) (by decide +kernel) (t := 51) rfl (fun c4 => ?_) (fun c4 => ?_)
    · have c4 : q.1 = 0 := of_decide_eq_true c4
      rw [if_pos c4] at g4
      refine Ev.seg D_287 [(.iconst 0, 1)] (by decide +kernel) (j := 0) (pc' := 52) (lv' := [(0, .ref 294), (1, .int v1), (2, .int v2), (3, .int q.1), (4, .int q.2)]) (st' := [.int (0 : Int32)]) rfl ?_
      cases g4
      exact Ev.sub2 j4 (subL_cons rfl (subL_cons rfl (subL_cons rfl (subL_cons rfl subL_nil))))
    · have c4 : ¬ q.1 = 0 := of_decide_eq_false c4
      rw [if_neg c4] at g4
      refine Ev.seg D_287 [(.aload_n 0, 1), (.iload 4, 2)] (by decide +kernel) (j := 0) (pc' := 39) (lv' := [(0, .ref 294), (1, .int v1), (2, .int v2), (3, .int q.1), (4, .int q.2)]) (st' := [.int q.2, .ref 294]) rfl ?_
      obtain ⟨p5, e5, g4⟩ := bd g4
      refine Ev.callv D_287 E_255 (by decide +kernel) C_10_308 294 [.int q.2] (r := []) rfl (gd_o k_294 (by decide)) rfl (Nat.le_of_ble_eq_true rfl) (Nat.le_of_ble_eq_true rfl) (gM_seersOf_ok (by omega)  e5) ?_
      refine Ev.seg D_287 [(.iload_n 2, 1), (.iand, 1)] (by decide +kernel) (j := 0) (pc' := 44) (lv' := [(0, .ref 294), (1, .int v1), (2, .int v2), (3, .int q.1), (4, .int q.2)]) (st' := [.int (p5 &&& v2)]) rfl ?_
      refine Ev.if_ D_287 (c := .eq) (off := 7) (by decide +kernel) (t := 51) rfl (fun c6 => ?_) (fun c6 => ?_)
      · have c6 : (p5 &&& v2) = 0 := of_decide_eq_true c6
        rw [if_pos c6] at g4
        refine Ev.seg D_287 [(.iconst 0, 1)] (by decide +kernel) (j := 0) (pc' := 52) (lv' := [(0, .ref 294), (1, .int v1), (2, .int v2), (3, .int q.1), (4, .int q.2)]) (st' := [.int (0 : Int32)]) rfl ?_
        cases g4
        exact Ev.sub2 j4 (subL_cons rfl (subL_cons rfl (subL_cons rfl (subL_cons rfl subL_nil))))
      · have c6 : ¬ (p5 &&& v2) = 0 := of_decide_eq_false c6
        rw [if_neg c6] at g4
        refine Ev.seg D_287 [(.iconst 1, 1), (.goto 4, 3)] (by decide +kernel) (j := 0) (pc' := 52) (lv' := [(0, .ref 294), (1, .int v1), (2, .int v2), (3, .int q.1), (4, .int q.2)]) (st' := [.int (1 : Int32)]) rfl ?_
        cases g4
        exact Ev.sub2 j4 (subL_cons rfl (subL_cons rfl (subL_cons rfl (subL_cons rfl subL_nil))))
theorem gM_coverSet_h21_w {L d : Nat} (hd : 4 ≤ d + 1) {v1 : Int32} {v2 : Int32} {s : mT} : ∀ (n : Nat) (q : Int32 × Int32) (r : Int32), wh n (gM_coverSet_h21 v1 v2 s) q = some r → ∀ o, (fun r => Ev (d + 1) 287 59 [(0, .ref 294), (1, .int v1), (2, .int v2), (3, .int r)] [] (uS L s) o) r → Ev (d + 1) 287 21 [(0, .ref 294), (1, .int v1), (2, .int v2), (3, .int q.1), (4, .int q.2)] [] (uS L s) o :=
  fun n q r h o hc => wh_ev (E := fun (q : Int32 × Int32) o => Ev (d + 1) 287 21 [(0, .ref 294), (1, .int v1), (2, .int v2), (3, .int q.1), (4, .int q.2)] [] (uS L s) o) (C := fun (r : Int32) o => (fun r => Ev (d + 1) 287 59 [(0, .ref 294), (1, .int v1), (2, .int v2), (3, .int r)] [] (uS L s) o) r) (gM_coverSet_h21_ok hd  ) n q r h o hc
def gM_coverSet_h4 (s : mT) (q : Int32 × Int32) : Option ((Int32 × Int32) ⊕ (Int32)) :=
  (rdI (s.1 295) 79 (5 : Int32)).bind fun x2 =>
  if ((1 : Int32) <<< (x2 &&& 31)) ≤ q.2 then
    some (.inr q.1)
  else
    (wh FU (gM_coverSet_h21 q.1 q.2 s) ((1 : Int32), (0 : Int32))).bind fun x7 =>
    (
      if x7 = 0 then
        some (q.1)
      else
        if q.1 = (-1 : Int32) then
          some (q.2)
        else
          (gM_bits q.2 s).bind fun p10 =>
          (gM_bits q.1 s).bind fun p11 =>
          if p11 ≤ p10 then
            some (q.1)
          else
            some (q.2) : Option (Int32)).bind fun x8 =>
    some (.inl (x8, q.2 + (1 : Int32)))
set_option maxRecDepth 8000 in
theorem gM_coverSet_h4_ok {L d : Nat} (hd : 4 ≤ d + 1) {s : mT} : ∀ (q : Int32 × Int32) (x : (Int32 × Int32) ⊕ (Int32)), gM_coverSet_h4 s q = some x → ∀ o, sK (fun q => Ev (d + 1) 287 4 [(0, .ref 294), (1, .int q.1), (2, .int q.2)] [] (uS L s) o) (fun r => Ev (d + 1) 287 87 [(1, .int r)] [] (uS L s) o) x → Ev (d + 1) 287 4 [(0, .ref 294), (1, .int q.1), (2, .int q.2)] [] (uS L s) o := by
  intro q x h o ho
  unfold gM_coverSet_h4 at h
  refine Ev.seg D_287 [(.iload_n 2, 1), (.iconst 1, 1), (.aload_n 0, 1)] (by decide +kernel) (j := 0) (pc' := 7) (lv' := [(0, .ref 294), (1, .int q.1), (2, .int q.2)]) (st' := [.ref 294, .int (1 : Int32), .int q.2]) rfl ?_
  refine Ev.getR D_287 (by decide +kernel) F_10_9 T_10_1 (x := 295) (S_oR k_294 (by decide +kernel)) ?_
  refine Ev.seg D_287 [(.iconst 5, 1)] (by decide +kernel) (j := 0) (pc' := 11) (lv' := [(0, .ref 294), (1, .int q.1), (2, .int q.2)]) (st' := [.int (5 : Int32), .ref 295, .int (1 : Int32), .int q.2]) rfl ?_
  obtain ⟨x2, e2, h⟩ := bd h
  refine Ev.iald D_287 (by decide +kernel) (S_aI k_295 e2) ?_
  refine Ev.seg D_287 [(.ishl, 1)] (by decide +kernel) (j := 0) (pc' := 13) (lv' := [(0, .ref 294), (1, .int q.1), (2, .int q.2)]) (st' := [.int ((1 : Int32) <<< (x2 &&& 31)), .int q.2]) rfl ?_
  refine Ev.icmp D_287 (c := .ge) (off := 74) (by decide +kernel) (t := 87) rfl (fun c3 => ?_) (fun c3 => ?_)
  · have c3 : ((1 : Int32) <<< (x2 &&& 31)) ≤ q.2 := of_decide_eq_true c3
    rw [if_pos c3] at h
    cases h
    exact Ev.sub (lv' := [(1, .int q.1)]) (subL_cons rfl subL_nil) ho
  · have c3 : ¬ ((1 : Int32) <<< (x2 &&& 31)) ≤ q.2 := of_decide_eq_false c3
    rw [if_neg c3] at h
    refine Ev.seg D_287 [(.iconst 1, 1), (.istore_n 3, 1), (.iconst 0, 1), (.istore 4, 2)] (by decide +kernel) (j := 0) (pc' := 21) (lv' := [(4, .int (0 : Int32)), (3, .int (1 : Int32)), (0, .ref 294), (1, .int q.1), (2, .int q.2)]) (st' := []) rfl ?_
    obtain ⟨x7, w7, h⟩ := bd h
    have j7 : Ev (d + 1) 287 59 [(0, .ref 294), (1, .int q.1), (2, .int q.2), (3, .int x7)] [] (uS L s) o := by
      clear w7
      refine Ev.seg D_287 [(.iload_n 3, 1)] (by decide +kernel) (j := 0) (pc' := 60) (lv' := [(0, .ref 294), (1, .int q.1), (2, .int q.2), (3, .int x7)]) (st' := [.int x7]) rfl ?_
      obtain ⟨x8, g8, h⟩ := bd h
      have j8 : Ev (d + 1) 287 81 [(0, .ref 294), (1, .int x8), (2, .int q.2)] [] (uS L s) o := by
        clear g8
        refine Ev.seg D_287 [(.iinc 2 1, 3), (.goto (-80), 3)] (by decide +kernel) (j := 0) (pc' := 4) (lv' := [(2, .int (q.2 + (1 : Int32))), (0, .ref 294), (1, .int x8)]) (st' := []) rfl ?_
        cases h
        exact Ev.sub (lv' := [(0, .ref 294), (1, .int (x8)), (2, .int (q.2 + (1 : Int32)))]) (subL_cons rfl (subL_cons rfl (subL_cons rfl subL_nil))) ho
      clear h
      refine Ev.if_ D_287 (c := .eq) (off := 21) (by decide +kernel) (t := 81) rfl (fun c8 => ?_) (fun c8 => ?_)
      · have c8 : x7 = 0 := of_decide_eq_true c8
        rw [if_pos c8] at g8
        cases g8
        exact Ev.sub2 j8 (subL_cons rfl (subL_cons rfl (subL_cons rfl subL_nil)))
      · have c8 : ¬ x7 = 0 := of_decide_eq_false c8
        rw [if_neg c8] at g8
        refine Ev.seg D_287 [(.iload_n 1, 1), (.iconst (-1), 1)] (by decide +kernel) (j := 0) (pc' := 65) (lv' := [(0, .ref 294), (1, .int q.1), (2, .int q.2), (3, .int x7)]) (st' := [.int (-1 : Int32), .int q.1]) rfl ?_
        refine Ev.icmp D_287 (c := .eq) (off := 14) (by decide +kernel) (t := 79) rfl (fun c9 => ?_) (fun c9 => ?_)
        · have c9 : q.1 = (-1 : Int32) := of_decide_eq_true c9
          rw [if_pos c9] at g8
          refine Ev.seg D_287 [(.iload_n 2, 1), (.istore_n 1, 1)] (by decide +kernel) (j := 0) (pc' := 81) (lv' := [(1, .int q.2), (0, .ref 294), (2, .int q.2), (3, .int x7)]) (st' := []) rfl ?_
          cases g8
          exact Ev.sub2 j8 (subL_cons rfl (subL_cons rfl (subL_cons rfl subL_nil)))
        · have c9 : ¬ q.1 = (-1 : Int32) := of_decide_eq_false c9
          rw [if_neg c9] at g8
          refine Ev.seg D_287 [(.iload_n 2, 1)] (by decide +kernel) (j := 0) (pc' := 69) (lv' := [(0, .ref 294), (1, .int q.1), (2, .int q.2), (3, .int x7)]) (st' := [.int q.2]) rfl ?_
          obtain ⟨p10, e10, g8⟩ := bd g8
          refine Ev.calls D_287 E_262 (by decide +kernel) C_10_311 [.int q.2] (r := []) rfl rfl (Nat.le_of_ble_eq_true rfl) (Nat.le_of_ble_eq_true rfl) (gM_bits_ok (by omega)  e10) ?_
          refine Ev.seg D_287 [(.iload_n 1, 1)] (by decide +kernel) (j := 0) (pc' := 73) (lv' := [(0, .ref 294), (1, .int q.1), (2, .int q.2), (3, .int x7)]) (st' := [.int q.1, .int p10]) rfl ?_
          obtain ⟨p11, e11, g8⟩ := bd g8
          refine Ev.calls D_287 E_262 (by decide +kernel) C_10_311 [.int q.1] (r := [.int p10]) rfl rfl (Nat.le_of_ble_eq_true rfl) (Nat.le_of_ble_eq_true rfl) (gM_bits_ok (by omega)  e11) ?_
          refine Ev.icmp D_287 (c := .ge) (off := 5) (by decide +kernel) (t := 81) rfl (fun c12 => ?_) (fun c12 => ?_)
          · have c12 : p11 ≤ p10 := of_decide_eq_true c12
            rw [if_pos c12] at g8
            cases g8
            exact Ev.sub2 j8 (subL_cons rfl (subL_cons rfl (subL_cons rfl subL_nil)))
          · have c12 : ¬ p11 ≤ p10 := of_decide_eq_false c12
            rw [if_neg c12] at g8
            refine Ev.seg D_287 [(.iload_n 2, 1), (.istore_n 1, 1)] (by decide +kernel) (j := 0) (pc' := 81) (lv' := [(1, .int q.2), (0, .ref 294), (2, .int q.2), (3, .int x7)]) (st' := []) rfl ?_
            cases g8
            exact Ev.sub2 j8 (subL_cons rfl (subL_cons rfl (subL_cons rfl subL_nil)))
    exact Ev.sub (lv' := [(0, .ref 294), (1, .int q.1), (2, .int q.2), (3, .int (1 : Int32)), (4, .int (0 : Int32))]) (subL_cons rfl (subL_cons rfl (subL_cons rfl (subL_cons rfl (subL_cons rfl subL_nil))))) (gM_coverSet_h21_w hd   _ _ _ w7 _ j7)
theorem gM_coverSet_h4_w {L d : Nat} (hd : 4 ≤ d + 1) {s : mT} : ∀ (n : Nat) (q : Int32 × Int32) (r : Int32), wh n (gM_coverSet_h4 s) q = some r → ∀ o, (fun r => Ev (d + 1) 287 87 [(1, .int r)] [] (uS L s) o) r → Ev (d + 1) 287 4 [(0, .ref 294), (1, .int q.1), (2, .int q.2)] [] (uS L s) o :=
  fun n q r h o hc => wh_ev (E := fun (q : Int32 × Int32) o => Ev (d + 1) 287 4 [(0, .ref 294), (1, .int q.1), (2, .int q.2)] [] (uS L s) o) (C := fun (r : Int32) o => (fun r => Ev (d + 1) 287 87 [(1, .int r)] [] (uS L s) o) r) (gM_coverSet_h4_ok hd  ) n q r h o hc
def gM_coverSet (s : mT) : Option (Int32) :=
  (wh FU (gM_coverSet_h4 s) ((-1 : Int32), (0 : Int32))).bind fun x13 =>
  some (x13)
set_option maxRecDepth 8000 in
theorem gM_coverSet_ok {L d : Nat} (hd : 4 ≤ d) {s : mT} {p : Int32} (h : gM_coverSet s = some p) : Ev d 287 0 [(0, .ref 294)] [] (uS L s) (some (.int p), uS L s) := by
  obtain ⟨d, rfl⟩ : ∃ e, d = e + 1 := ⟨d - 1, by omega⟩
  obtain ⟨o, ho⟩ : ∃ o : Option Value × mS, o = (some (.int p), uS L s) := ⟨_, rfl⟩
  rw [← ho]
  unfold gM_coverSet at h
  refine Ev.seg D_287 [(.iconst (-1), 1), (.istore_n 1, 1), (.iconst 0, 1), (.istore_n 2, 1)] (by decide +kernel) (j := 0) (pc' := 4) (lv' := [(2, .int (0 : Int32)), (1, .int (-1 : Int32)), (0, .ref 294)]) (st' := []) rfl ?_
  obtain ⟨x13, w13, h⟩ := bd h
  have j13 : Ev (d + 1) 287 87 [(1, .int x13)] [] (uS L s) o := by
    clear w13
    refine Ev.seg D_287 [(.iload_n 1, 1)] (by decide +kernel) (j := 0) (pc' := 88) (lv' := [(1, .int x13)]) (st' := [.int x13]) rfl ?_
    cases h
    obtain rfl : o = _ := ho
    exact Ev.iret D_287 (by decide +kernel)
  exact Ev.sub (lv' := [(0, .ref 294), (1, .int (-1 : Int32)), (2, .int (0 : Int32))]) (subL_cons rfl (subL_cons rfl (subL_cons rfl subL_nil))) (gM_coverSet_h4_w hd   _ _ _ w13 _ j13)
/- PennantLawnModel cover: 286 -/
def gM_cover (s : mT) : Option (Int32) :=
  (gM_isRace s).bind fun p1 =>
  if p1 = 0 then
    some ((-2 : Int32))
  else
    (gM_coverSet s).bind fun p3 =>
    (
      if p3 = (-1 : Int32) then
        some ((-1 : Int32))
      else
        (gM_bits p3 s).bind fun p5 =>
        some (p5) : Option (Int32)).bind fun x4 =>
    some (x4)
set_option maxRecDepth 8000 in
theorem gM_cover_ok {L d : Nat} (hd : 5 ≤ d) {s : mT} {p : Int32} (h : gM_cover s = some p) : Ev d 286 0 [(0, .ref 294)] [] (uS L s) (some (.int p), uS L s) := by
  obtain ⟨d, rfl⟩ : ∃ e, d = e + 1 := ⟨d - 1, by omega⟩
  obtain ⟨o, ho⟩ : ∃ o : Option Value × mS, o = (some (.int p), uS L s) := ⟨_, rfl⟩
  rw [← ho]
  unfold gM_cover at h
  refine Ev.seg D_286 [(.aload_n 0, 1)] (by decide +kernel) (j := 0) (pc' := 1) (lv' := [(0, .ref 294)]) (st' := [.ref 294]) rfl ?_
  obtain ⟨p1, e1, h⟩ := bd h
  refine Ev.callv D_286 E_214 (by decide +kernel) C_10_92 294 [] (r := []) rfl (gd_o k_294 (by decide)) rfl (Nat.le_of_ble_eq_true rfl) (Nat.le_of_ble_eq_true rfl) (gM_isRace_ok (by omega)  e1) ?_
  refine Ev.if_ D_286 (c := .ne) (off := 6) (by decide +kernel) (t := 10) rfl (fun c2 => ?_) (fun c2 => ?_)
  · have c2 : ¬ p1 = 0 := of_decide_eq_true c2
    rw [if_neg c2] at h
    refine Ev.seg D_286 [(.aload_n 0, 1)] (by decide +kernel) (j := 0) (pc' := 11) (lv' := [(0, .ref 294)]) (st' := [.ref 294]) rfl ?_
    obtain ⟨p3, e3, h⟩ := bd h
    refine Ev.callv D_286 E_287 (by decide +kernel) C_10_360 294 [] (r := []) rfl (gd_o k_294 (by decide)) rfl (Nat.le_of_ble_eq_true rfl) (Nat.le_of_ble_eq_true rfl) (gM_coverSet_ok (by omega)  e3) ?_
    refine Ev.seg D_286 [(.istore_n 1, 1), (.iload_n 1, 1), (.iconst (-1), 1)] (by decide +kernel) (j := 0) (pc' := 17) (lv' := [(1, .int p3), (0, .ref 294)]) (st' := [.int (-1 : Int32), .int p3]) rfl ?_
    obtain ⟨x4, g4, h⟩ := bd h
    have j4 : Ev (d + 1) 286 28 [] [.int x4] (uS L s) o := by
      clear g4
      cases h
      obtain rfl : o = _ := ho
      exact Ev.iret D_286 (by decide +kernel)
    clear h
    refine Ev.icmp D_286 (c := .ne) (off := 7) (by decide +kernel) (t := 24) rfl (fun c4 => ?_) (fun c4 => ?_)
    · have c4 : ¬ p3 = (-1 : Int32) := of_decide_eq_true c4
      rw [if_neg c4] at g4
      refine Ev.seg D_286 [(.iload_n 1, 1)] (by decide +kernel) (j := 0) (pc' := 25) (lv' := [(1, .int p3), (0, .ref 294)]) (st' := [.int p3]) rfl ?_
      obtain ⟨p5, e5, g4⟩ := bd g4
      refine Ev.calls D_286 E_262 (by decide +kernel) C_10_311 [.int p3] (r := []) rfl rfl (Nat.le_of_ble_eq_true rfl) (Nat.le_of_ble_eq_true rfl) (gM_bits_ok (by omega)  e5) ?_
      cases g4
      exact Ev.sub2 j4 subL_nil
    · have c4 : p3 = (-1 : Int32) := Decidable.of_not_not (of_decide_eq_false c4)
      rw [if_pos c4] at g4
      refine Ev.seg D_286 [(.iconst (-1), 1), (.goto 7, 3)] (by decide +kernel) (j := 0) (pc' := 28) (lv' := [(1, .int p3), (0, .ref 294)]) (st' := [.int (-1 : Int32)]) rfl ?_
      cases g4
      exact Ev.sub2 j4 subL_nil
  · have c2 : p1 = 0 := Decidable.of_not_not (of_decide_eq_false c2)
    rw [if_pos c2] at h
    refine Ev.seg D_286 [(.bipush (-2), 2)] (by decide +kernel) (j := 0) (pc' := 9) (lv' := [(0, .ref 294)]) (st' := [.int (-2 : Int32)]) rfl ?_
    cases h
    obtain rfl : o = _ := ho
    exact Ev.iret D_286 (by decide +kernel)
/- PennantLawnModel covers: 288 -/
def gM_covers (s : mT) : Option (Int32) :=
  (gM_isRace s).bind fun p1 =>
  (
    if p1 = 0 then
      some ((-2 : Int32))
    else
      (gM_coverSet s).bind fun p3 =>
      some (p3) : Option (Int32)).bind fun x2 =>
  some (x2)
set_option maxRecDepth 8000 in
theorem gM_covers_ok {L d : Nat} (hd : 5 ≤ d) {s : mT} {p : Int32} (h : gM_covers s = some p) : Ev d 288 0 [(0, .ref 294)] [] (uS L s) (some (.int p), uS L s) := by
  obtain ⟨d, rfl⟩ : ∃ e, d = e + 1 := ⟨d - 1, by omega⟩
  obtain ⟨o, ho⟩ : ∃ o : Option Value × mS, o = (some (.int p), uS L s) := ⟨_, rfl⟩
  rw [← ho]
  unfold gM_covers at h
  refine Ev.seg D_288 [(.aload_n 0, 1)] (by decide +kernel) (j := 0) (pc' := 1) (lv' := [(0, .ref 294)]) (st' := [.ref 294]) rfl ?_
  obtain ⟨p1, e1, h⟩ := bd h
  refine Ev.callv D_288 E_214 (by decide +kernel) C_10_92 294 [] (r := []) rfl (gd_o k_294 (by decide)) rfl (Nat.le_of_ble_eq_true rfl) (Nat.le_of_ble_eq_true rfl) (gM_isRace_ok (by omega)  e1) ?_
  obtain ⟨x2, g2, h⟩ := bd h
  have j2 : Ev (d + 1) 288 16 [] [.int x2] (uS L s) o := by
    clear g2
    cases h
    obtain rfl : o = _ := ho
    exact Ev.iret D_288 (by decide +kernel)
  clear h
  refine Ev.if_ D_288 (c := .eq) (off := 10) (by decide +kernel) (t := 14) rfl (fun c2 => ?_) (fun c2 => ?_)
  · have c2 : p1 = 0 := of_decide_eq_true c2
    rw [if_pos c2] at g2
    refine Ev.seg D_288 [(.bipush (-2), 2)] (by decide +kernel) (j := 0) (pc' := 16) (lv' := [(0, .ref 294)]) (st' := [.int (-2 : Int32)]) rfl ?_
    cases g2
    exact Ev.sub2 j2 subL_nil
  · have c2 : ¬ p1 = 0 := of_decide_eq_false c2
    rw [if_neg c2] at g2
    refine Ev.seg D_288 [(.aload_n 0, 1)] (by decide +kernel) (j := 0) (pc' := 8) (lv' := [(0, .ref 294)]) (st' := [.ref 294]) rfl ?_
    obtain ⟨p3, e3, g2⟩ := bd g2
    refine Ev.callv D_288 E_287 (by decide +kernel) C_10_360 294 [] (r := []) rfl (gd_o k_294 (by decide)) rfl (Nat.le_of_ble_eq_true rfl) (Nat.le_of_ble_eq_true rfl) (gM_coverSet_ok (by omega)  e3) ?_
    refine Ev.seg D_288 [(.goto 5, 3)] (by decide +kernel) (j := 0) (pc' := 16) (lv' := [(0, .ref 294)]) (st' := [.int p3]) rfl ?_
    cases g2
    exact Ev.sub2 j2 subL_nil
/- PennantLawnModel isSlot: 292 -/
def gM_isSlot (v0 : Int32) (s : mT) : Option (Int32) :=
  (gM_in v0.toInt64 (0 : Int64) (3 : Int64) s).bind fun p2 =>
  if p2 = 0 ∨ p2 = 1 then some (p2) else none
set_option maxRecDepth 8000 in
theorem gM_isSlot_ok {L d : Nat} (hd : 2 ≤ d) {v0 : Int32} {s : mT} {p : Int32} (h : gM_isSlot v0 s = some p) : Ev d 292 0 [(0, .int v0)] [] (uS L s) (some (.int p), uS L s) := by
  obtain ⟨d, rfl⟩ : ∃ e, d = e + 1 := ⟨d - 1, by omega⟩
  obtain ⟨o, ho⟩ : ∃ o : Option Value × mS, o = (some (.int p), uS L s) := ⟨_, rfl⟩
  rw [← ho]
  unfold gM_isSlot at h
  refine Ev.seg D_292 [(.iload_n 0, 1), (.i2l, 1), (.lconst 0, 1)] (by decide +kernel) (j := 0) (pc' := 3) (lv' := [(0, .int v0)]) (st' := [.long (0 : Int64), .long v0.toInt64]) rfl ?_
  refine Ev.ldc2 D_292 (i := 100) (by decide +kernel) (x := (3 : Int64)) (by decide +kernel) ?_
  obtain ⟨p2, e2, h⟩ := bd h
  refine Ev.calls D_292 E_184 (by decide +kernel) C_10_88 [.long v0.toInt64, .long (0 : Int64), .long (3 : Int64)] (r := []) rfl rfl (Nat.le_of_ble_eq_true rfl) (Nat.le_of_ble_eq_true rfl) (gM_in_ok (by omega)  e2) ?_
  by_cases c3 : p2 = 0 ∨ p2 = 1
  · rw [if_pos c3] at h
    cases h
    obtain rfl : o = _ := ho
    exact Ev.zret D_292 c3 (by decide +kernel)
  · rw [if_neg c3] at h; cases h
/- PennantLawnModel numberAt: 293 -/
def gM_numberAt (v1 : Int32) (v2 : Int32) (s : mT) : Option (Int64) :=
  (rdL (s.2 315) 240 (((60 : Int32) * v1) + v2)).bind fun x2 =>
  some (x2)
set_option maxRecDepth 8000 in
theorem gM_numberAt_ok {L d : Nat} (hd : 1 ≤ d) {v1 : Int32} {v2 : Int32} {s : mT} {p : Int64} (h : gM_numberAt v1 v2 s = some p) : Ev d 293 0 [(0, .ref 294), (1, .int v1), (2, .int v2)] [] (uS L s) (some (.long p), uS L s) := by
  obtain ⟨d, rfl⟩ : ∃ e, d = e + 1 := ⟨d - 1, by omega⟩
  obtain ⟨o, ho⟩ : ∃ o : Option Value × mS, o = (some (.long p), uS L s) := ⟨_, rfl⟩
  rw [← ho]
  unfold gM_numberAt at h
  refine Ev.seg D_293 [(.aload_n 0, 1)] (by decide +kernel) (j := 0) (pc' := 1) (lv' := [(0, .ref 294), (1, .int v1), (2, .int v2)]) (st' := [.ref 294]) rfl ?_
  refine Ev.getR D_293 (by decide +kernel) F_10_76 T_10_45 (x := 315) (S_oR k_294 (by decide +kernel)) ?_
  refine Ev.seg D_293 [(.bipush 60, 2), (.iload_n 1, 1), (.imul, 1), (.iload_n 2, 1), (.iadd, 1)] (by decide +kernel) (j := 0) (pc' := 10) (lv' := [(0, .ref 294), (1, .int v1), (2, .int v2)]) (st' := [.int (((60 : Int32) * v1) + v2), .ref 315]) rfl ?_
  obtain ⟨x2, e2, h⟩ := bd h
  refine Ev.lald D_293 (by decide +kernel) (S_aL k_315 e2) ?_
  cases h
  obtain rfl : o = _ := ho
  exact Ev.lret D_293 (by decide +kernel)
/- PennantLawnModel askSeen: 291 -/
def gM_askSeen_h46 (v1 : Int32) (s : mT) (q : Int32) : Option ((Int32) ⊕ (Int32 × mT)) :=
  (rdI (s.1 313) 4 v1).bind fun x2 =>
  if x2 ≤ q then
    (gM_asItIs s).bind fun p4 =>
    some (.inr (((0 : Int32), p4)))
  else
    (gM_numberAt v1 q s).bind fun p6 =>
    (gM_isBoat p6 s).bind fun p7 =>
    if p7 = 0 then
      some (.inr (((-2 : Int32), s)))
    else
      (gM_numberAt v1 (q + (1 : Int32)) s).bind fun p10 =>
      (gM_isStep p10 s).bind fun p11 =>
      if p11 = 0 then
        some (.inr (((-2 : Int32), s)))
      else
        (gM_numberAt v1 (q + (2 : Int32)) s).bind fun p14 =>
        (gM_in p14 (0 : Int64) (60 : Int64) s).bind fun p16 =>
        if p16 = 0 then
          some (.inr (((-2 : Int32), s)))
        else
          some (.inl (q + (3 : Int32)))
set_option maxRecDepth 8000 in
theorem gM_askSeen_h46_ok {L d : Nat} (hd : 3 ≤ d + 1) {v1 : Int32} {s : mT} : ∀ (q : Int32) (x : (Int32) ⊕ (Int32 × mT)), gM_askSeen_h46 v1 s q = some x → ∀ o, sK (fun q => Ev (d + 1) 291 46 [(0, .ref 294), (1, .int v1), (2, .int q)] [] (uS L s) o) (fun r => o = (some (.int r.1), uS L r.2)) x → Ev (d + 1) 291 46 [(0, .ref 294), (1, .int v1), (2, .int q)] [] (uS L s) o := by
  intro q x h o ho
  unfold gM_askSeen_h46 at h
  refine Ev.seg D_291 [(.iload_n 2, 1), (.aload_n 0, 1)] (by decide +kernel) (j := 0) (pc' := 48) (lv' := [(0, .ref 294), (1, .int v1), (2, .int q)]) (st' := [.ref 294, .int q]) rfl ?_
  refine Ev.getR D_291 (by decide +kernel) F_10_70 T_10_43 (x := 313) (S_oR k_294 (by decide +kernel)) ?_
  refine Ev.seg D_291 [(.iload_n 1, 1)] (by decide +kernel) (j := 0) (pc' := 52) (lv' := [(0, .ref 294), (1, .int v1), (2, .int q)]) (st' := [.int v1, .ref 313, .int q]) rfl ?_
  obtain ⟨x2, e2, h⟩ := bd h
  refine Ev.iald D_291 (by decide +kernel) (S_aI k_313 e2) ?_
  refine Ev.icmp D_291 (c := .ge) (off := 58) (by decide +kernel) (t := 111) rfl (fun c3 => ?_) (fun c3 => ?_)
  · have c3 : x2 ≤ q := of_decide_eq_true c3
    rw [if_pos c3] at h
    refine Ev.seg D_291 [(.aload_n 0, 1)] (by decide +kernel) (j := 0) (pc' := 112) (lv' := [(0, .ref 294), (1, .int v1), (2, .int q)]) (st' := [.ref 294]) rfl ?_
    obtain ⟨p4, e4, h⟩ := bd h
    refine Ev.callv D_291 E_212 (by decide +kernel) C_10_263 294 [] (r := []) rfl (gd_o k_294 (by decide)) rfl (Nat.le_of_ble_eq_true rfl) (Nat.le_of_ble_eq_true rfl) (gM_asItIs_ok (by omega)  e4) ?_
    refine Ev.seg D_291 [(.iconst 0, 1)] (by decide +kernel) (j := 0) (pc' := 116) (lv' := [(0, .ref 294), (1, .int v1), (2, .int q)]) (st' := [.int (0 : Int32)]) rfl ?_
    cases h
    obtain rfl : o = _ := ho
    exact Ev.iret D_291 (by decide +kernel)
  · have c3 : ¬ x2 ≤ q := of_decide_eq_false c3
    rw [if_neg c3] at h
    refine Ev.seg D_291 [(.aload_n 0, 1), (.aload_n 0, 1), (.iload_n 1, 1), (.iload_n 2, 1)] (by decide +kernel) (j := 0) (pc' := 60) (lv' := [(0, .ref 294), (1, .int v1), (2, .int q)]) (st' := [.int q, .int v1, .ref 294, .ref 294]) rfl ?_
    obtain ⟨p6, e6, h⟩ := bd h
    refine Ev.callv D_291 E_293 (by decide +kernel) C_10_366 294 [.int v1, .int q] (r := [.ref 294]) rfl (gd_o k_294 (by decide)) rfl (Nat.le_of_ble_eq_true rfl) (Nat.le_of_ble_eq_true rfl) (gM_numberAt_ok (by omega)  e6) ?_
    obtain ⟨p7, e7, h⟩ := bd h
    refine Ev.callv D_291 E_204 (by decide +kernel) C_10_220 294 [.long p6] (r := []) rfl (gd_o k_294 (by decide)) rfl (Nat.le_of_ble_eq_true rfl) (Nat.le_of_ble_eq_true rfl) (gM_isBoat_ok (by omega)  e7) ?_
    refine Ev.if_ D_291 (c := .eq) (off := 36) (by decide +kernel) (t := 102) rfl (fun c8 => ?_) (fun c8 => ?_)
    · have c8 : p7 = 0 := of_decide_eq_true c8
      rw [if_pos c8] at h
      refine Ev.seg D_291 [(.bipush (-2), 2)] (by decide +kernel) (j := 0) (pc' := 104) (lv' := [(0, .ref 294), (1, .int v1), (2, .int q)]) (st' := [.int (-2 : Int32)]) rfl ?_
      cases h
      obtain rfl : o = _ := ho
      exact Ev.iret D_291 (by decide +kernel)
    · have c8 : ¬ p7 = 0 := of_decide_eq_false c8
      rw [if_neg c8] at h
      refine Ev.seg D_291 [(.aload_n 0, 1), (.aload_n 0, 1), (.iload_n 1, 1), (.iload_n 2, 1), (.iconst 1, 1), (.iadd, 1)] (by decide +kernel) (j := 0) (pc' := 75) (lv' := [(0, .ref 294), (1, .int v1), (2, .int q)]) (st' := [.int (q + (1 : Int32)), .int v1, .ref 294, .ref 294]) rfl ?_
      obtain ⟨p10, e10, h⟩ := bd h
      refine Ev.callv D_291 E_293 (by decide +kernel) C_10_366 294 [.int v1, .int (q + (1 : Int32))] (r := [.ref 294]) rfl (gd_o k_294 (by decide)) rfl (Nat.le_of_ble_eq_true rfl) (Nat.le_of_ble_eq_true rfl) (gM_numberAt_ok (by omega)  e10) ?_
      obtain ⟨p11, e11, h⟩ := bd h
      refine Ev.callv D_291 E_222 (by decide +kernel) C_10_272 294 [.long p10] (r := []) rfl (gd_o k_294 (by decide)) rfl (Nat.le_of_ble_eq_true rfl) (Nat.le_of_ble_eq_true rfl) (gM_isStep_ok (by omega)  e11) ?_
      refine Ev.if_ D_291 (c := .eq) (off := 21) (by decide +kernel) (t := 102) rfl (fun c12 => ?_) (fun c12 => ?_)
      · have c12 : p11 = 0 := of_decide_eq_true c12
        rw [if_pos c12] at h
        refine Ev.seg D_291 [(.bipush (-2), 2)] (by decide +kernel) (j := 0) (pc' := 104) (lv' := [(0, .ref 294), (1, .int v1), (2, .int q)]) (st' := [.int (-2 : Int32)]) rfl ?_
        cases h
        obtain rfl : o = _ := ho
        exact Ev.iret D_291 (by decide +kernel)
      · have c12 : ¬ p11 = 0 := of_decide_eq_false c12
        rw [if_neg c12] at h
        refine Ev.seg D_291 [(.aload_n 0, 1), (.iload_n 1, 1), (.iload_n 2, 1), (.iconst 2, 1), (.iadd, 1)] (by decide +kernel) (j := 0) (pc' := 89) (lv' := [(0, .ref 294), (1, .int v1), (2, .int q)]) (st' := [.int (q + (2 : Int32)), .int v1, .ref 294]) rfl ?_
        obtain ⟨p14, e14, h⟩ := bd h
        refine Ev.callv D_291 E_293 (by decide +kernel) C_10_366 294 [.int v1, .int (q + (2 : Int32))] (r := []) rfl (gd_o k_294 (by decide)) rfl (Nat.le_of_ble_eq_true rfl) (Nat.le_of_ble_eq_true rfl) (gM_numberAt_ok (by omega)  e14) ?_
        refine Ev.seg D_291 [(.lconst 0, 1)] (by decide +kernel) (j := 0) (pc' := 93) (lv' := [(0, .ref 294), (1, .int v1), (2, .int q)]) (st' := [.long (0 : Int64), .long p14]) rfl ?_
        refine Ev.ldc2 D_291 (i := 370) (by decide +kernel) (x := (60 : Int64)) (by decide +kernel) ?_
        obtain ⟨p16, e16, h⟩ := bd h
        refine Ev.calls D_291 E_184 (by decide +kernel) C_10_88 [.long p14, .long (0 : Int64), .long (60 : Int64)] (r := []) rfl rfl (Nat.le_of_ble_eq_true rfl) (Nat.le_of_ble_eq_true rfl) (gM_in_ok (by omega)  e16) ?_
        refine Ev.if_ D_291 (c := .ne) (off := 6) (by decide +kernel) (t := 105) rfl (fun c17 => ?_) (fun c17 => ?_)
        · have c17 : ¬ p16 = 0 := of_decide_eq_true c17
          rw [if_neg c17] at h
          refine Ev.seg D_291 [(.iinc 2 3, 3), (.goto (-62), 3)] (by decide +kernel) (j := 0) (pc' := 46) (lv' := [(2, .int (q + (3 : Int32))), (0, .ref 294), (1, .int v1)]) (st' := []) rfl ?_
          cases h
          exact Ev.sub (lv' := [(0, .ref 294), (1, .int v1), (2, .int (q + (3 : Int32)))]) (subL_cons rfl (subL_cons rfl (subL_cons rfl subL_nil))) ho
        · have c17 : p16 = 0 := Decidable.of_not_not (of_decide_eq_false c17)
          rw [if_pos c17] at h
          refine Ev.seg D_291 [(.bipush (-2), 2)] (by decide +kernel) (j := 0) (pc' := 104) (lv' := [(0, .ref 294), (1, .int v1), (2, .int q)]) (st' := [.int (-2 : Int32)]) rfl ?_
          cases h
          obtain rfl : o = _ := ho
          exact Ev.iret D_291 (by decide +kernel)
theorem gM_askSeen_h46_w {L d : Nat} (hd : 3 ≤ d + 1) {v1 : Int32} {s : mT} : ∀ (n : Nat) (q : Int32) (r : Int32 × mT), wh n (gM_askSeen_h46 v1 s) q = some r → ∀ o, (fun r => o = (some (.int r.1), uS L r.2)) r → Ev (d + 1) 291 46 [(0, .ref 294), (1, .int v1), (2, .int q)] [] (uS L s) o :=
  fun n q r h o hc => wh_ev (E := fun (q : Int32) o => Ev (d + 1) 291 46 [(0, .ref 294), (1, .int v1), (2, .int q)] [] (uS L s) o) (C := fun (r : Int32 × mT) o => (fun r => o = (some (.int r.1), uS L r.2)) r) (gM_askSeen_h46_ok hd  ) n q r h o hc
def gM_askSeen (v1 : Int32) (s : mT) : Option (Int32 × mT) :=
  (gM_isSlot v1 s).bind fun p1 =>
  if p1 = 0 then
    some (((-2 : Int32), s))
  else
    (gM_isRace s).bind fun p4 =>
    if p4 = 0 then
      some (((-2 : Int32), s))
    else
      (rdI (s.1 313) 4 v1).bind fun x7 =>
      if x7 = (-1 : Int32) then
        some (((-6 : Int32), s))
      else
        (rdI (s.1 313) 4 v1).bind fun x10 =>
        if (3 : Int32) = 0 then none else
        if (x10 - x10 / (3 : Int32) * (3 : Int32)) = 0 then
          wh FU (gM_askSeen_h46 v1 s) (0 : Int32)
        else
          some (((-2 : Int32), s))
set_option maxRecDepth 8000 in
theorem gM_askSeen_ok {L d : Nat} (hd : 3 ≤ d) {v1 : Int32} {s : mT} {p : Int32 × mT} (h : gM_askSeen v1 s = some p) : Ev d 291 0 [(0, .ref 294), (1, .int v1)] [] (uS L s) (some (.int p.1), uS L p.2) := by
  obtain ⟨d, rfl⟩ : ∃ e, d = e + 1 := ⟨d - 1, by omega⟩
  obtain ⟨o, ho⟩ : ∃ o : Option Value × mS, o = (some (.int p.1), uS L p.2) := ⟨_, rfl⟩
  rw [← ho]
  unfold gM_askSeen at h
  refine Ev.seg D_291 [(.iload_n 1, 1)] (by decide +kernel) (j := 0) (pc' := 1) (lv' := [(0, .ref 294), (1, .int v1)]) (st' := [.int v1]) rfl ?_
  obtain ⟨p1, e1, h⟩ := bd h
  refine Ev.calls D_291 E_292 (by decide +kernel) C_10_363 [.int v1] (r := []) rfl rfl (Nat.le_of_ble_eq_true rfl) (Nat.le_of_ble_eq_true rfl) (gM_isSlot_ok (by omega)  e1) ?_
  refine Ev.if_ D_291 (c := .eq) (off := 10) (by decide +kernel) (t := 14) rfl (fun c2 => ?_) (fun c2 => ?_)
  · have c2 : p1 = 0 := of_decide_eq_true c2
    rw [if_pos c2] at h
    refine Ev.seg D_291 [(.bipush (-2), 2)] (by decide +kernel) (j := 0) (pc' := 16) (lv' := [(0, .ref 294), (1, .int v1)]) (st' := [.int (-2 : Int32)]) rfl ?_
    cases h
    obtain rfl : o = _ := ho
    exact Ev.iret D_291 (by decide +kernel)
  · have c2 : ¬ p1 = 0 := of_decide_eq_false c2
    rw [if_neg c2] at h
    refine Ev.seg D_291 [(.aload_n 0, 1)] (by decide +kernel) (j := 0) (pc' := 8) (lv' := [(0, .ref 294), (1, .int v1)]) (st' := [.ref 294]) rfl ?_
    obtain ⟨p4, e4, h⟩ := bd h
    refine Ev.callv D_291 E_214 (by decide +kernel) C_10_92 294 [] (r := []) rfl (gd_o k_294 (by decide)) rfl (Nat.le_of_ble_eq_true rfl) (Nat.le_of_ble_eq_true rfl) (gM_isRace_ok (by omega)  e4) ?_
    refine Ev.if_ D_291 (c := .ne) (off := 6) (by decide +kernel) (t := 17) rfl (fun c5 => ?_) (fun c5 => ?_)
    · have c5 : ¬ p4 = 0 := of_decide_eq_true c5
      rw [if_neg c5] at h
      refine Ev.seg D_291 [(.aload_n 0, 1)] (by decide +kernel) (j := 0) (pc' := 18) (lv' := [(0, .ref 294), (1, .int v1)]) (st' := [.ref 294]) rfl ?_
      refine Ev.getR D_291 (by decide +kernel) F_10_70 T_10_43 (x := 313) (S_oR k_294 (by decide +kernel)) ?_
      refine Ev.seg D_291 [(.iload_n 1, 1)] (by decide +kernel) (j := 0) (pc' := 22) (lv' := [(0, .ref 294), (1, .int v1)]) (st' := [.int v1, .ref 313]) rfl ?_
      obtain ⟨x7, e7, h⟩ := bd h
      refine Ev.iald D_291 (by decide +kernel) (S_aI k_313 e7) ?_
      refine Ev.seg D_291 [(.iconst (-1), 1)] (by decide +kernel) (j := 0) (pc' := 24) (lv' := [(0, .ref 294), (1, .int v1)]) (st' := [.int (-1 : Int32), .int x7]) rfl ?_
      refine Ev.icmp D_291 (c := .ne) (off := 6) (by decide +kernel) (t := 30) rfl (fun c8 => ?_) (fun c8 => ?_)
      · have c8 : ¬ x7 = (-1 : Int32) := of_decide_eq_true c8
        rw [if_neg c8] at h
        refine Ev.seg D_291 [(.aload_n 0, 1)] (by decide +kernel) (j := 0) (pc' := 31) (lv' := [(0, .ref 294), (1, .int v1)]) (st' := [.ref 294]) rfl ?_
        refine Ev.getR D_291 (by decide +kernel) F_10_70 T_10_43 (x := 313) (S_oR k_294 (by decide +kernel)) ?_
        refine Ev.seg D_291 [(.iload_n 1, 1)] (by decide +kernel) (j := 0) (pc' := 35) (lv' := [(0, .ref 294), (1, .int v1)]) (st' := [.int v1, .ref 313]) rfl ?_
        obtain ⟨x10, e10, h⟩ := bd h
        refine Ev.iald D_291 (by decide +kernel) (S_aI k_313 e10) ?_
        refine Ev.seg D_291 [(.iconst 3, 1)] (by decide +kernel) (j := 0) (pc' := 37) (lv' := [(0, .ref 294), (1, .int v1)]) (st' := [.int (3 : Int32), .int x10]) rfl ?_
        by_cases c11 : (3 : Int32) = 0
        · rw [if_pos c11] at h; cases h
        rw [if_neg c11] at h
        refine Ev.irem D_291 (by decide +kernel) c11 ?_
        refine Ev.if_ D_291 (c := .eq) (off := 6) (by decide +kernel) (t := 44) rfl (fun c12 => ?_) (fun c12 => ?_)
        · have c12 : (x10 - x10 / (3 : Int32) * (3 : Int32)) = 0 := of_decide_eq_true c12
          rw [if_pos c12] at h
          refine Ev.seg D_291 [(.iconst 0, 1), (.istore_n 2, 1)] (by decide +kernel) (j := 0) (pc' := 46) (lv' := [(2, .int (0 : Int32)), (0, .ref 294), (1, .int v1)]) (st' := []) rfl ?_
          exact Ev.sub (lv' := [(0, .ref 294), (1, .int v1), (2, .int (0 : Int32))]) (subL_cons rfl (subL_cons rfl (subL_cons rfl subL_nil))) (gM_askSeen_h46_w hd   _ _ _ h _ ho)
        · have c12 : ¬ (x10 - x10 / (3 : Int32) * (3 : Int32)) = 0 := of_decide_eq_false c12
          rw [if_neg c12] at h
          refine Ev.seg D_291 [(.bipush (-2), 2)] (by decide +kernel) (j := 0) (pc' := 43) (lv' := [(0, .ref 294), (1, .int v1)]) (st' := [.int (-2 : Int32)]) rfl ?_
          cases h
          obtain rfl : o = _ := ho
          exact Ev.iret D_291 (by decide +kernel)
      · have c8 : x7 = (-1 : Int32) := Decidable.of_not_not (of_decide_eq_false c8)
        rw [if_pos c8] at h
        refine Ev.seg D_291 [(.bipush (-6), 2)] (by decide +kernel) (j := 0) (pc' := 29) (lv' := [(0, .ref 294), (1, .int v1)]) (st' := [.int (-6 : Int32)]) rfl ?_
        cases h
        obtain rfl : o = _ := ho
        exact Ev.iret D_291 (by decide +kernel)
    · have c5 : p4 = 0 := Decidable.of_not_not (of_decide_eq_false c5)
      rw [if_pos c5] at h
      refine Ev.seg D_291 [(.bipush (-2), 2)] (by decide +kernel) (j := 0) (pc' := 16) (lv' := [(0, .ref 294), (1, .int v1)]) (st' := [.int (-2 : Int32)]) rfl ?_
      cases h
      obtain rfl : o = _ := ho
      exact Ev.iret D_291 (by decide +kernel)
/- PennantLawnModel isSeen: 294 -/
def gM_isSeen_h6 (v1 : Int32) (s : mT) (q : Int32) : Option ((Int32) ⊕ (Int32 × mT)) :=
  (rdI (s.1 313) 4 v1).bind fun x2 =>
  if x2 ≤ q then
    some (.inr (((1 : Int32), s)))
  else
    (gM_numberAt v1 q s).bind fun p5 =>
    (gM_numberAt v1 (q + (1 : Int32)) s).bind fun p6 =>
    (gM_placeOf p5.toInt32 p6.toInt32 s).bind fun p7 =>
    (gM_numberAt v1 (q + (2 : Int32)) s).bind fun p8 =>
    if (lg_cmp p7.toInt64 p8) = 0 then
      some (.inl (q + (3 : Int32)))
    else
      some (.inr (((0 : Int32), s)))
set_option maxRecDepth 8000 in
theorem gM_isSeen_h6_ok {L d : Nat} (hd : 5 ≤ d + 1) {v1 : Int32} {s : mT} : ∀ (q : Int32) (x : (Int32) ⊕ (Int32 × mT)), gM_isSeen_h6 v1 s q = some x → ∀ o, sK (fun q => Ev (d + 1) 294 6 [(0, .ref 294), (1, .int v1), (2, .int q)] [] (uS L s) o) (fun r => o = (some (.int r.1), uS L r.2)) x → Ev (d + 1) 294 6 [(0, .ref 294), (1, .int v1), (2, .int q)] [] (uS L s) o := by
  intro q x h o ho
  unfold gM_isSeen_h6 at h
  refine Ev.seg D_294 [(.iload_n 2, 1), (.aload_n 0, 1)] (by decide +kernel) (j := 0) (pc' := 8) (lv' := [(0, .ref 294), (1, .int v1), (2, .int q)]) (st' := [.ref 294, .int q]) rfl ?_
  refine Ev.getR D_294 (by decide +kernel) F_10_70 T_10_43 (x := 313) (S_oR k_294 (by decide +kernel)) ?_
  refine Ev.seg D_294 [(.iload_n 1, 1)] (by decide +kernel) (j := 0) (pc' := 12) (lv' := [(0, .ref 294), (1, .int v1), (2, .int q)]) (st' := [.int v1, .ref 313, .int q]) rfl ?_
  obtain ⟨x2, e2, h⟩ := bd h
  refine Ev.iald D_294 (by decide +kernel) (S_aI k_313 e2) ?_
  refine Ev.icmp D_294 (c := .ge) (off := 44) (by decide +kernel) (t := 57) rfl (fun c3 => ?_) (fun c3 => ?_)
  · have c3 : x2 ≤ q := of_decide_eq_true c3
    rw [if_pos c3] at h
    refine Ev.seg D_294 [(.iconst 1, 1)] (by decide +kernel) (j := 0) (pc' := 58) (lv' := [(0, .ref 294), (1, .int v1), (2, .int q)]) (st' := [.int (1 : Int32)]) rfl ?_
    cases h
    obtain rfl : o = _ := ho
    exact Ev.zret D_294 (by decide) (by decide +kernel)
  · have c3 : ¬ x2 ≤ q := of_decide_eq_false c3
    rw [if_neg c3] at h
    refine Ev.seg D_294 [(.aload_n 0, 1), (.aload_n 0, 1), (.iload_n 1, 1), (.iload_n 2, 1)] (by decide +kernel) (j := 0) (pc' := 20) (lv' := [(0, .ref 294), (1, .int v1), (2, .int q)]) (st' := [.int q, .int v1, .ref 294, .ref 294]) rfl ?_
    obtain ⟨p5, e5, h⟩ := bd h
    refine Ev.callv D_294 E_293 (by decide +kernel) C_10_366 294 [.int v1, .int q] (r := [.ref 294]) rfl (gd_o k_294 (by decide)) rfl (Nat.le_of_ble_eq_true rfl) (Nat.le_of_ble_eq_true rfl) (gM_numberAt_ok (by omega)  e5) ?_
    refine Ev.seg D_294 [(.l2i, 1), (.aload_n 0, 1), (.iload_n 1, 1), (.iload_n 2, 1), (.iconst 1, 1), (.iadd, 1)] (by decide +kernel) (j := 0) (pc' := 29) (lv' := [(0, .ref 294), (1, .int v1), (2, .int q)]) (st' := [.int (q + (1 : Int32)), .int v1, .ref 294, .int p5.toInt32, .ref 294]) rfl ?_
    obtain ⟨p6, e6, h⟩ := bd h
    refine Ev.callv D_294 E_293 (by decide +kernel) C_10_366 294 [.int v1, .int (q + (1 : Int32))] (r := [.int p5.toInt32, .ref 294]) rfl (gd_o k_294 (by decide)) rfl (Nat.le_of_ble_eq_true rfl) (Nat.le_of_ble_eq_true rfl) (gM_numberAt_ok (by omega)  e6) ?_
    refine Ev.seg D_294 [(.l2i, 1)] (by decide +kernel) (j := 0) (pc' := 33) (lv' := [(0, .ref 294), (1, .int v1), (2, .int q)]) (st' := [.int p6.toInt32, .int p5.toInt32, .ref 294]) rfl ?_
    obtain ⟨p7, e7, h⟩ := bd h
    refine Ev.callv D_294 E_220 (by decide +kernel) C_10_240 294 [.int p5.toInt32, .int p6.toInt32] (r := []) rfl (gd_o k_294 (by decide)) rfl (Nat.le_of_ble_eq_true rfl) (Nat.le_of_ble_eq_true rfl) (gM_placeOf_ok (by omega)  e7) ?_
    refine Ev.seg D_294 [(.i2l, 1), (.aload_n 0, 1), (.iload_n 1, 1), (.iload_n 2, 1), (.iconst 2, 1), (.iadd, 1)] (by decide +kernel) (j := 0) (pc' := 42) (lv' := [(0, .ref 294), (1, .int v1), (2, .int q)]) (st' := [.int (q + (2 : Int32)), .int v1, .ref 294, .long p7.toInt64]) rfl ?_
    obtain ⟨p8, e8, h⟩ := bd h
    refine Ev.callv D_294 E_293 (by decide +kernel) C_10_366 294 [.int v1, .int (q + (2 : Int32))] (r := [.long p7.toInt64]) rfl (gd_o k_294 (by decide)) rfl (Nat.le_of_ble_eq_true rfl) (Nat.le_of_ble_eq_true rfl) (gM_numberAt_ok (by omega)  e8) ?_
    refine Ev.seg D_294 [(.lcmp, 1)] (by decide +kernel) (j := 0) (pc' := 46) (lv' := [(0, .ref 294), (1, .int v1), (2, .int q)]) (st' := [.int (lg_cmp p7.toInt64 p8)]) rfl ?_
    refine Ev.if_ D_294 (c := .eq) (off := 5) (by decide +kernel) (t := 51) rfl (fun c9 => ?_) (fun c9 => ?_)
    · have c9 : (lg_cmp p7.toInt64 p8) = 0 := of_decide_eq_true c9
      rw [if_pos c9] at h
      refine Ev.seg D_294 [(.iinc 2 3, 3), (.goto (-48), 3)] (by decide +kernel) (j := 0) (pc' := 6) (lv' := [(2, .int (q + (3 : Int32))), (0, .ref 294), (1, .int v1)]) (st' := []) rfl ?_
      cases h
      exact Ev.sub (lv' := [(0, .ref 294), (1, .int v1), (2, .int (q + (3 : Int32)))]) (subL_cons rfl (subL_cons rfl (subL_cons rfl subL_nil))) ho
    · have c9 : ¬ (lg_cmp p7.toInt64 p8) = 0 := of_decide_eq_false c9
      rw [if_neg c9] at h
      refine Ev.seg D_294 [(.iconst 0, 1)] (by decide +kernel) (j := 0) (pc' := 50) (lv' := [(0, .ref 294), (1, .int v1), (2, .int q)]) (st' := [.int (0 : Int32)]) rfl ?_
      cases h
      obtain rfl : o = _ := ho
      exact Ev.zret D_294 (by decide) (by decide +kernel)
theorem gM_isSeen_h6_w {L d : Nat} (hd : 5 ≤ d + 1) {v1 : Int32} {s : mT} : ∀ (n : Nat) (q : Int32) (r : Int32 × mT), wh n (gM_isSeen_h6 v1 s) q = some r → ∀ o, (fun r => o = (some (.int r.1), uS L r.2)) r → Ev (d + 1) 294 6 [(0, .ref 294), (1, .int v1), (2, .int q)] [] (uS L s) o :=
  fun n q r h o hc => wh_ev (E := fun (q : Int32) o => Ev (d + 1) 294 6 [(0, .ref 294), (1, .int v1), (2, .int q)] [] (uS L s) o) (C := fun (r : Int32 × mT) o => (fun r => o = (some (.int r.1), uS L r.2)) r) (gM_isSeen_h6_ok hd  ) n q r h o hc
def gM_isSeen (v1 : Int32) (s : mT) : Option (Int32 × mT) :=
  (gM_goAll s).bind fun p1 =>
  wh FU (gM_isSeen_h6 v1 p1) (0 : Int32)
set_option maxRecDepth 8000 in
theorem gM_isSeen_ok {L d : Nat} (hd : 5 ≤ d) {v1 : Int32} {s : mT} {p : Int32 × mT} (h : gM_isSeen v1 s = some p) : Ev d 294 0 [(0, .ref 294), (1, .int v1)] [] (uS L s) (some (.int p.1), uS L p.2) := by
  obtain ⟨d, rfl⟩ : ∃ e, d = e + 1 := ⟨d - 1, by omega⟩
  obtain ⟨o, ho⟩ : ∃ o : Option Value × mS, o = (some (.int p.1), uS L p.2) := ⟨_, rfl⟩
  rw [← ho]
  unfold gM_isSeen at h
  refine Ev.seg D_294 [(.aload_n 0, 1)] (by decide +kernel) (j := 0) (pc' := 1) (lv' := [(0, .ref 294), (1, .int v1)]) (st' := [.ref 294]) rfl ?_
  obtain ⟨p1, e1, h⟩ := bd h
  refine Ev.callv D_294 E_215 (by decide +kernel) C_10_266 294 [] (r := []) rfl (gd_o k_294 (by decide)) rfl (Nat.le_of_ble_eq_true rfl) (Nat.le_of_ble_eq_true rfl) (gM_goAll_ok (by omega)  e1) ?_
  refine Ev.seg D_294 [(.iconst 0, 1), (.istore_n 2, 1)] (by decide +kernel) (j := 0) (pc' := 6) (lv' := [(2, .int (0 : Int32)), (0, .ref 294), (1, .int v1)]) (st' := []) rfl ?_
  exact Ev.sub (lv' := [(0, .ref 294), (1, .int v1), (2, .int (0 : Int32))]) (subL_cons rfl (subL_cons rfl (subL_cons rfl subL_nil))) (gM_isSeen_h6_w hd   _ _ _ h _ ho)
/- PennantLawnModel layFits: 290 -/
def gM_layFits_h38 (v1 : Int32) (q : Int32 × mT) : Option ((Int32 × mT) ⊕ (mT)) :=
  if (5 : Int32) ≤ q.1 then
    some (.inr q.2)
  else
    (rdI (q.2.1 303) 5 q.1).bind fun x5 =>
    (wrI q.2 310 15625 (((5 : Int32) * (q.2.1 294 34)) + q.1) (vp_nar .byte x5.toInt8.toInt32)).bind fun s6 =>
    some (.inl (q.1 + (1 : Int32), s6))
set_option maxRecDepth 8000 in
theorem gM_layFits_h38_ok {L d : Nat} (hd : 6 ≤ d + 1) {v1 : Int32} : ∀ (q : Int32 × mT) (x : (Int32 × mT) ⊕ (mT)), gM_layFits_h38 v1 q = some x → ∀ o, sK (fun q => Ev (d + 1) 290 38 [(0, .ref 294), (1, .int v1), (4, .int q.1)] [] (uS L q.2) o) (fun r => Ev (d + 1) 290 72 [(0, .ref 294), (1, .int v1)] [] (uS L r) o) x → Ev (d + 1) 290 38 [(0, .ref 294), (1, .int v1), (4, .int q.1)] [] (uS L q.2) o := by
  intro q x h o ho
  unfold gM_layFits_h38 at h
  refine Ev.seg D_290 [(.iload 4, 2), (.iconst 5, 1)] (by decide +kernel) (j := 0) (pc' := 41) (lv' := [(0, .ref 294), (1, .int v1), (4, .int q.1)]) (st' := [.int (5 : Int32), .int q.1]) rfl ?_
  refine Ev.icmp D_290 (c := .ge) (off := 31) (by decide +kernel) (t := 72) rfl (fun c1 => ?_) (fun c1 => ?_)
  · have c1 : (5 : Int32) ≤ q.1 := of_decide_eq_true c1
    rw [if_pos c1] at h
    cases h
    exact Ev.sub (lv' := [(0, .ref 294), (1, .int v1)]) (subL_cons rfl (subL_cons rfl subL_nil)) ho
  · have c1 : ¬ (5 : Int32) ≤ q.1 := of_decide_eq_false c1
    rw [if_neg c1] at h
    refine Ev.seg D_290 [(.aload_n 0, 1)] (by decide +kernel) (j := 0) (pc' := 45) (lv' := [(0, .ref 294), (1, .int v1), (4, .int q.1)]) (st' := [.ref 294]) rfl ?_
    refine Ev.getR D_290 (by decide +kernel) F_10_61 T_10_33 (x := 310) (S_oR k_294 (by decide +kernel)) ?_
    refine Ev.seg D_290 [(.iconst 5, 1), (.aload_n 0, 1)] (by decide +kernel) (j := 0) (pc' := 50) (lv' := [(0, .ref 294), (1, .int v1), (4, .int q.1)]) (st' := [.ref 294, .int (5 : Int32), .ref 310]) rfl ?_
    refine Ev.getI D_290 (by decide +kernel) F_10_375 (Or.inl T_10_34) (S_oI k_294) ?_
    refine Ev.seg D_290 [(.imul, 1), (.iload 4, 2), (.iadd, 1), (.aload_n 0, 1)] (by decide +kernel) (j := 0) (pc' := 58) (lv' := [(0, .ref 294), (1, .int v1), (4, .int q.1)]) (st' := [.ref 294, .int (((5 : Int32) * (q.2.1 294 34)) + q.1), .ref 310]) rfl ?_
    refine Ev.getR D_290 (by decide +kernel) F_10_40 T_10_17 (x := 303) (S_oR k_294 (by decide +kernel)) ?_
    refine Ev.seg D_290 [(.iload 4, 2)] (by decide +kernel) (j := 0) (pc' := 63) (lv' := [(0, .ref 294), (1, .int v1), (4, .int q.1)]) (st' := [.int q.1, .ref 303, .int (((5 : Int32) * (q.2.1 294 34)) + q.1), .ref 310]) rfl ?_
    obtain ⟨x5, e5, h⟩ := bd h
    refine Ev.iald D_290 (by decide +kernel) (S_aI k_303 e5) ?_
    refine Ev.seg D_290 [(.i2b, 1)] (by decide +kernel) (j := 0) (pc' := 65) (lv' := [(0, .ref 294), (1, .int v1), (4, .int q.1)]) (st' := [.int x5.toInt8.toInt32, .int (((5 : Int32) * (q.2.1 294 34)) + q.1), .ref 310]) rfl ?_
    obtain ⟨s6, e6, h⟩ := bd h
    refine Ev.bast D_290 (by decide +kernel) (S_sB k_310 e6) ?_
    refine Ev.seg D_290 [(.iinc 4 1, 3), (.goto (-31), 3)] (by decide +kernel) (j := 0) (pc' := 38) (lv' := [(4, .int (q.1 + (1 : Int32))), (0, .ref 294), (1, .int v1)]) (st' := []) rfl ?_
    cases h
    exact Ev.sub (lv' := [(0, .ref 294), (1, .int v1), (4, .int (q.1 + (1 : Int32)))]) (subL_cons rfl (subL_cons rfl (subL_cons rfl subL_nil))) ho
theorem gM_layFits_h38_w {L d : Nat} (hd : 6 ≤ d + 1) {v1 : Int32} : ∀ (n : Nat) (q : Int32 × mT) (r : mT), wh n (gM_layFits_h38 v1) q = some r → ∀ o, (fun r => Ev (d + 1) 290 72 [(0, .ref 294), (1, .int v1)] [] (uS L r) o) r → Ev (d + 1) 290 38 [(0, .ref 294), (1, .int v1), (4, .int q.1)] [] (uS L q.2) o :=
  fun n q r h o hc => wh_ev (E := fun (q : Int32 × mT) o => Ev (d + 1) 290 38 [(0, .ref 294), (1, .int v1), (4, .int q.1)] [] (uS L q.2) o) (C := fun (r : mT) o => (fun r => Ev (d + 1) 290 72 [(0, .ref 294), (1, .int v1)] [] (uS L r) o) r) (gM_layFits_h38_ok hd  ) n q r h o hc
def gM_layFits_h23 (v1 : Int32) (q : Int32 × mT) : Option ((Int32 × mT) ⊕ (mT)) :=
  if q.1 = 0 then
    some (.inr q.2)
  else
    (gM_isSeen v1 q.2).bind fun p2 =>
    (
      if p2.1 = 0 then
        some (p2.2)
      else
        (wh FU (gM_layFits_h38 v1) ((0 : Int32), p2.2)).bind fun x7 =>
        some ((stI x7 294 34 ((x7.1 294 34) + (1 : Int32)))) : Option (mT)).bind fun x3 =>
    (gM_nextLooks x3).bind fun p10 =>
    some (.inl (p10.1, p10.2))
set_option maxRecDepth 8000 in
theorem gM_layFits_h23_ok {L d : Nat} (hd : 6 ≤ d + 1) {v1 : Int32} : ∀ (q : Int32 × mT) (x : (Int32 × mT) ⊕ (mT)), gM_layFits_h23 v1 q = some x → ∀ o, sK (fun q => Ev (d + 1) 290 23 [(0, .ref 294), (1, .int v1), (3, .int q.1)] [] (uS L q.2) o) (fun r => Ev (d + 1) 290 90 [] [] (uS L r) o) x → Ev (d + 1) 290 23 [(0, .ref 294), (1, .int v1), (3, .int q.1)] [] (uS L q.2) o := by
  intro q x h o ho
  unfold gM_layFits_h23 at h
  refine Ev.seg D_290 [(.iload_n 3, 1)] (by decide +kernel) (j := 0) (pc' := 24) (lv' := [(0, .ref 294), (1, .int v1), (3, .int q.1)]) (st' := [.int q.1]) rfl ?_
  refine Ev.if_ D_290 (c := .eq) (off := 66) (by decide +kernel) (t := 90) rfl (fun c1 => ?_) (fun c1 => ?_)
  · have c1 : q.1 = 0 := of_decide_eq_true c1
    rw [if_pos c1] at h
    cases h
    exact Ev.sub (lv' := []) subL_nil ho
  · have c1 : ¬ q.1 = 0 := of_decide_eq_false c1
    rw [if_neg c1] at h
    refine Ev.seg D_290 [(.aload_n 0, 1), (.iload_n 1, 1)] (by decide +kernel) (j := 0) (pc' := 29) (lv' := [(0, .ref 294), (1, .int v1), (3, .int q.1)]) (st' := [.int v1, .ref 294]) rfl ?_
    obtain ⟨p2, e2, h⟩ := bd h
    refine Ev.callv D_290 E_294 (by decide +kernel) C_10_378 294 [.int v1] (r := []) rfl (gd_o k_294 (by decide)) rfl (Nat.le_of_ble_eq_true rfl) (Nat.le_of_ble_eq_true rfl) (gM_isSeen_ok (by omega)  e2) ?_
    obtain ⟨x3, g3, h⟩ := bd h
    have j3 : Ev (d + 1) 290 82 [(0, .ref 294), (1, .int v1)] [] (uS L x3) o := by
      clear g3
      refine Ev.seg D_290 [(.aload_n 0, 1)] (by decide +kernel) (j := 0) (pc' := 83) (lv' := [(0, .ref 294), (1, .int v1)]) (st' := [.ref 294]) rfl ?_
      obtain ⟨p10, e10, h⟩ := bd h
      refine Ev.callv D_290 E_276 (by decide +kernel) C_10_345 294 [] (r := []) rfl (gd_o k_294 (by decide)) rfl (Nat.le_of_ble_eq_true rfl) (Nat.le_of_ble_eq_true rfl) (gM_nextLooks_ok (by omega)  e10) ?_
      refine Ev.seg D_290 [(.istore_n 3, 1), (.goto (-64), 3)] (by decide +kernel) (j := 0) (pc' := 23) (lv' := [(3, .int p10.1), (0, .ref 294), (1, .int v1)]) (st' := []) rfl ?_
      cases h
      exact Ev.sub (lv' := [(0, .ref 294), (1, .int v1), (3, .int (p10.1))]) (subL_cons rfl (subL_cons rfl (subL_cons rfl subL_nil))) ho
    clear h
    refine Ev.if_ D_290 (c := .eq) (off := 50) (by decide +kernel) (t := 82) rfl (fun c3 => ?_) (fun c3 => ?_)
    · have c3 : p2.1 = 0 := of_decide_eq_true c3
      rw [if_pos c3] at g3
      cases g3
      exact Ev.sub2 j3 (subL_cons rfl (subL_cons rfl subL_nil))
    · have c3 : ¬ p2.1 = 0 := of_decide_eq_false c3
      rw [if_neg c3] at g3
      refine Ev.seg D_290 [(.iconst 0, 1), (.istore 4, 2)] (by decide +kernel) (j := 0) (pc' := 38) (lv' := [(4, .int (0 : Int32)), (0, .ref 294), (1, .int v1), (3, .int q.1)]) (st' := []) rfl ?_
      obtain ⟨x7, w7, g3⟩ := bd g3
      have j7 : Ev (d + 1) 290 72 [(0, .ref 294), (1, .int v1)] [] (uS L x7) o := by
        clear w7
        refine Ev.seg D_290 [(.aload_n 0, 1), (.dup, 1)] (by decide +kernel) (j := 0) (pc' := 74) (lv' := [(0, .ref 294), (1, .int v1)]) (st' := [.ref 294, .ref 294]) rfl ?_
        refine Ev.getI D_290 (by decide +kernel) F_10_375 (Or.inl T_10_34) (S_oI k_294) ?_
        refine Ev.seg D_290 [(.iconst 1, 1), (.iadd, 1)] (by decide +kernel) (j := 0) (pc' := 79) (lv' := [(0, .ref 294), (1, .int v1)]) (st' := [.int ((x7.1 294 34) + (1 : Int32)), .ref 294]) rfl ?_
        refine Ev.putI D_290 (by decide +kernel) F_10_375 N_10_34 T_10_34 (S_pI k_294) ?_
        cases g3
        exact Ev.sub2 j3 (subL_cons rfl (subL_cons rfl subL_nil))
      exact Ev.sub (lv' := [(0, .ref 294), (1, .int v1), (4, .int (0 : Int32))]) (subL_cons rfl (subL_cons rfl (subL_cons rfl subL_nil))) (gM_layFits_h38_w hd   _ _ _ w7 _ j7)
theorem gM_layFits_h23_w {L d : Nat} (hd : 6 ≤ d + 1) {v1 : Int32} : ∀ (n : Nat) (q : Int32 × mT) (r : mT), wh n (gM_layFits_h23 v1) q = some r → ∀ o, (fun r => Ev (d + 1) 290 90 [] [] (uS L r) o) r → Ev (d + 1) 290 23 [(0, .ref 294), (1, .int v1), (3, .int q.1)] [] (uS L q.2) o :=
  fun n q r h o hc => wh_ev (E := fun (q : Int32 × mT) o => Ev (d + 1) 290 23 [(0, .ref 294), (1, .int v1), (3, .int q.1)] [] (uS L q.2) o) (C := fun (r : mT) o => (fun r => Ev (d + 1) 290 90 [] [] (uS L r) o) r) (gM_layFits_h23_ok hd  ) n q r h o hc
def gM_layFits (v1 : Int32) (s : mT) : Option (Int32 × mT) :=
  (gM_askSeen v1 s).bind fun p1 =>
  if 0 ≤ p1.1 then
    (gM_firstLooks (stI p1.2 294 34 (0 : Int32))).bind fun p4 =>
    (wh FU (gM_layFits_h23 v1) ((1 : Int32), p4)).bind fun x11 =>
    some (((0 : Int32), x11))
  else
    some ((p1.1, p1.2))
set_option maxRecDepth 8000 in
theorem gM_layFits_ok {L d : Nat} (hd : 6 ≤ d) {v1 : Int32} {s : mT} {p : Int32 × mT} (h : gM_layFits v1 s = some p) : Ev d 290 0 [(0, .ref 294), (1, .int v1)] [] (uS L s) (some (.int p.1), uS L p.2) := by
  obtain ⟨d, rfl⟩ : ∃ e, d = e + 1 := ⟨d - 1, by omega⟩
  obtain ⟨o, ho⟩ : ∃ o : Option Value × mS, o = (some (.int p.1), uS L p.2) := ⟨_, rfl⟩
  rw [← ho]
  unfold gM_layFits at h
  refine Ev.seg D_290 [(.aload_n 0, 1), (.iload_n 1, 1)] (by decide +kernel) (j := 0) (pc' := 2) (lv' := [(0, .ref 294), (1, .int v1)]) (st' := [.int v1, .ref 294]) rfl ?_
  obtain ⟨p1, e1, h⟩ := bd h
  refine Ev.callv D_290 E_291 (by decide +kernel) C_10_372 294 [.int v1] (r := []) rfl (gd_o k_294 (by decide)) rfl (Nat.le_of_ble_eq_true rfl) (Nat.le_of_ble_eq_true rfl) (gM_askSeen_ok (by omega)  e1) ?_
  refine Ev.seg D_290 [(.istore_n 2, 1), (.iload_n 2, 1)] (by decide +kernel) (j := 0) (pc' := 7) (lv' := [(2, .int p1.1), (0, .ref 294), (1, .int v1)]) (st' := [.int p1.1]) rfl ?_
  refine Ev.if_ D_290 (c := .ge) (off := 5) (by decide +kernel) (t := 12) rfl (fun c2 => ?_) (fun c2 => ?_)
  · have c2 : 0 ≤ p1.1 := of_decide_eq_true c2
    rw [if_pos c2] at h
    refine Ev.seg D_290 [(.aload_n 0, 1), (.iconst 0, 1)] (by decide +kernel) (j := 0) (pc' := 14) (lv' := [(2, .int p1.1), (0, .ref 294), (1, .int v1)]) (st' := [.int (0 : Int32), .ref 294]) rfl ?_
    refine Ev.putI D_290 (by decide +kernel) F_10_375 N_10_34 T_10_34 (S_pI k_294) ?_
    refine Ev.seg D_290 [(.aload_n 0, 1)] (by decide +kernel) (j := 0) (pc' := 18) (lv' := [(2, .int p1.1), (0, .ref 294), (1, .int v1)]) (st' := [.ref 294]) rfl ?_
    obtain ⟨p4, e4, h⟩ := bd h
    refine Ev.callv D_290 E_273 (by decide +kernel) C_10_339 294 [] (r := []) rfl (gd_o k_294 (by decide)) rfl (Nat.le_of_ble_eq_true rfl) (Nat.le_of_ble_eq_true rfl) (gM_firstLooks_ok (by omega)  e4) ?_
    refine Ev.seg D_290 [(.iconst 1, 1), (.istore_n 3, 1)] (by decide +kernel) (j := 0) (pc' := 23) (lv' := [(3, .int (1 : Int32)), (2, .int p1.1), (0, .ref 294), (1, .int v1)]) (st' := []) rfl ?_
    obtain ⟨x11, w11, h⟩ := bd h
    have j11 : Ev (d + 1) 290 90 [] [] (uS L x11) o := by
      clear w11
      refine Ev.seg D_290 [(.iconst 0, 1)] (by decide +kernel) (j := 0) (pc' := 91) (lv' := []) (st' := [.int (0 : Int32)]) rfl ?_
      cases h
      obtain rfl : o = _ := ho
      exact Ev.iret D_290 (by decide +kernel)
    exact Ev.sub (lv' := [(0, .ref 294), (1, .int v1), (3, .int (1 : Int32))]) (subL_cons rfl (subL_cons rfl (subL_cons rfl subL_nil))) (gM_layFits_h23_w hd   _ _ _ w11 _ j11)
  · have c2 : ¬ 0 ≤ p1.1 := of_decide_eq_false c2
    rw [if_neg c2] at h
    refine Ev.seg D_290 [(.iload_n 2, 1)] (by decide +kernel) (j := 0) (pc' := 11) (lv' := [(2, .int p1.1), (0, .ref 294), (1, .int v1)]) (st' := [.int p1.1]) rfl ?_
    cases h
    obtain rfl : o = _ := ho
    exact Ev.iret D_290 (by decide +kernel)
/- PennantLawnModel fits: 289 -/
def gM_fits (v1 : Int32) (s : mT) : Option (Int32 × mT) :=
  (gM_layFits v1 s).bind fun p1 =>
  (
    if 0 ≤ p1.1 then
      some (p1.2.1 294 34)
    else
      some (p1.1) : Option (Int32)).bind fun x2 =>
  some ((x2, p1.2))
set_option maxRecDepth 8000 in
theorem gM_fits_ok {L d : Nat} (hd : 7 ≤ d) {v1 : Int32} {s : mT} {p : Int32 × mT} (h : gM_fits v1 s = some p) : Ev d 289 0 [(0, .ref 294), (1, .int v1)] [] (uS L s) (some (.int p.1), uS L p.2) := by
  obtain ⟨d, rfl⟩ : ∃ e, d = e + 1 := ⟨d - 1, by omega⟩
  obtain ⟨o, ho⟩ : ∃ o : Option Value × mS, o = (some (.int p.1), uS L p.2) := ⟨_, rfl⟩
  rw [← ho]
  unfold gM_fits at h
  refine Ev.seg D_289 [(.aload_n 0, 1), (.iload_n 1, 1)] (by decide +kernel) (j := 0) (pc' := 2) (lv' := [(0, .ref 294), (1, .int v1)]) (st' := [.int v1, .ref 294]) rfl ?_
  obtain ⟨p1, e1, h⟩ := bd h
  refine Ev.callv D_289 E_290 (by decide +kernel) C_10_381 294 [.int v1] (r := []) rfl (gd_o k_294 (by decide)) rfl (Nat.le_of_ble_eq_true rfl) (Nat.le_of_ble_eq_true rfl) (gM_layFits_ok (by omega)  e1) ?_
  refine Ev.seg D_289 [(.istore_n 2, 1), (.iload_n 2, 1)] (by decide +kernel) (j := 0) (pc' := 7) (lv' := [(2, .int p1.1), (0, .ref 294), (1, .int v1)]) (st' := [.int p1.1]) rfl ?_
  obtain ⟨x2, g2, h⟩ := bd h
  have j2 : Ev (d + 1) 289 18 [] [.int x2] (uS L p1.2) o := by
    clear g2
    cases h
    obtain rfl : o = _ := ho
    exact Ev.iret D_289 (by decide +kernel)
  clear h
  refine Ev.if_ D_289 (c := .ge) (off := 7) (by decide +kernel) (t := 14) rfl (fun c2 => ?_) (fun c2 => ?_)
  · have c2 : 0 ≤ p1.1 := of_decide_eq_true c2
    rw [if_pos c2] at g2
    refine Ev.seg D_289 [(.aload_n 0, 1)] (by decide +kernel) (j := 0) (pc' := 15) (lv' := [(2, .int p1.1), (0, .ref 294), (1, .int v1)]) (st' := [.ref 294]) rfl ?_
    refine Ev.getI D_289 (by decide +kernel) F_10_375 (Or.inl T_10_34) (S_oI k_294) ?_
    cases g2
    exact Ev.sub2 j2 subL_nil
  · have c2 : ¬ 0 ≤ p1.1 := of_decide_eq_false c2
    rw [if_neg c2] at g2
    refine Ev.seg D_289 [(.iload_n 2, 1), (.goto 7, 3)] (by decide +kernel) (j := 0) (pc' := 18) (lv' := [(2, .int p1.1), (0, .ref 294), (1, .int v1)]) (st' := [.int p1.1]) rfl ?_
    cases g2
    exact Ev.sub2 j2 subL_nil
/- PennantLawnModel may: 295 -/
def gM_may_h29 (v2 : Int32) (s : mT) (q : Int32 × Int32) : Option ((Int32 × Int32) ⊕ (Int32)) :=
  if (s.1 294 34) ≤ q.2 then
    some (.inr q.1)
  else
    (rdI (s.1 310) 15625 (((5 : Int32) * q.2) + v2)).bind fun x4 =>
    some (.inl (q.1 ||| ((1 : Int32) <<< (x4 &&& 31)), q.2 + (1 : Int32)))
set_option maxRecDepth 8000 in
theorem gM_may_h29_ok {L d : Nat} (hd : 7 ≤ d + 1) {v2 : Int32} {s : mT} : ∀ (q : Int32 × Int32) (x : (Int32 × Int32) ⊕ (Int32)), gM_may_h29 v2 s q = some x → ∀ o, sK (fun q => Ev (d + 1) 295 29 [(0, .ref 294), (2, .int v2), (4, .int q.1), (5, .int q.2)] [] (uS L s) o) (fun r => Ev (d + 1) 295 62 [(4, .int r)] [] (uS L s) o) x → Ev (d + 1) 295 29 [(0, .ref 294), (2, .int v2), (4, .int q.1), (5, .int q.2)] [] (uS L s) o := by
  intro q x h o ho
  unfold gM_may_h29 at h
  refine Ev.seg D_295 [(.iload 5, 2), (.aload_n 0, 1)] (by decide +kernel) (j := 0) (pc' := 32) (lv' := [(0, .ref 294), (2, .int v2), (4, .int q.1), (5, .int q.2)]) (st' := [.ref 294, .int q.2]) rfl ?_
  refine Ev.getI D_295 (by decide +kernel) F_10_375 (Or.inl T_10_34) (S_oI k_294) ?_
  refine Ev.icmp D_295 (c := .ge) (off := 27) (by decide +kernel) (t := 62) rfl (fun c2 => ?_) (fun c2 => ?_)
  · have c2 : (s.1 294 34) ≤ q.2 := of_decide_eq_true c2
    rw [if_pos c2] at h
    cases h
    exact Ev.sub (lv' := [(4, .int q.1)]) (subL_cons rfl subL_nil) ho
  · have c2 : ¬ (s.1 294 34) ≤ q.2 := of_decide_eq_false c2
    rw [if_neg c2] at h
    refine Ev.seg D_295 [(.iload 4, 2), (.iconst 1, 1), (.aload_n 0, 1)] (by decide +kernel) (j := 0) (pc' := 42) (lv' := [(0, .ref 294), (2, .int v2), (4, .int q.1), (5, .int q.2)]) (st' := [.ref 294, .int (1 : Int32), .int q.1]) rfl ?_
    refine Ev.getR D_295 (by decide +kernel) F_10_61 T_10_33 (x := 310) (S_oR k_294 (by decide +kernel)) ?_
    refine Ev.seg D_295 [(.iconst 5, 1), (.iload 5, 2), (.imul, 1), (.iload_n 2, 1), (.iadd, 1)] (by decide +kernel) (j := 0) (pc' := 51) (lv' := [(0, .ref 294), (2, .int v2), (4, .int q.1), (5, .int q.2)]) (st' := [.int (((5 : Int32) * q.2) + v2), .ref 310, .int (1 : Int32), .int q.1]) rfl ?_
    obtain ⟨x4, e4, h⟩ := bd h
    refine Ev.bald D_295 (by decide +kernel) (S_aI k_310 e4) ?_
    refine Ev.seg D_295 [(.ishl, 1), (.ior, 1), (.istore 4, 2), (.iinc 5 1, 3), (.goto (-30), 3)] (by decide +kernel) (j := 0) (pc' := 29) (lv' := [(5, .int (q.2 + (1 : Int32))), (4, .int (q.1 ||| ((1 : Int32) <<< (x4 &&& 31)))), (0, .ref 294), (2, .int v2)]) (st' := []) rfl ?_
    cases h
    exact Ev.sub (lv' := [(0, .ref 294), (2, .int v2), (4, .int (q.1 ||| ((1 : Int32) <<< (x4 &&& 31)))), (5, .int (q.2 + (1 : Int32)))]) (subL_cons rfl (subL_cons rfl (subL_cons rfl (subL_cons rfl subL_nil)))) ho
theorem gM_may_h29_w {L d : Nat} (hd : 7 ≤ d + 1) {v2 : Int32} {s : mT} : ∀ (n : Nat) (q : Int32 × Int32) (r : Int32), wh n (gM_may_h29 v2 s) q = some r → ∀ o, (fun r => Ev (d + 1) 295 62 [(4, .int r)] [] (uS L s) o) r → Ev (d + 1) 295 29 [(0, .ref 294), (2, .int v2), (4, .int q.1), (5, .int q.2)] [] (uS L s) o :=
  fun n q r h o hc => wh_ev (E := fun (q : Int32 × Int32) o => Ev (d + 1) 295 29 [(0, .ref 294), (2, .int v2), (4, .int q.1), (5, .int q.2)] [] (uS L s) o) (C := fun (r : Int32) o => (fun r => Ev (d + 1) 295 62 [(4, .int r)] [] (uS L s) o) r) (gM_may_h29_ok hd  ) n q r h o hc
def gM_may (v1 : Int32) (v2 : Int32) (s : mT) : Option (Int32 × mT) :=
  (gM_isWatcher v2 s).bind fun p1 =>
  if p1 = 0 then
    some (((-2 : Int32), s))
  else
    (gM_layFits v1 s).bind fun p3 =>
    if 0 ≤ p3.1 then
      (wh FU (gM_may_h29 v2 p3.2) ((0 : Int32), (0 : Int32))).bind fun x5 =>
      some ((x5, p3.2))
    else
      some ((p3.1, p3.2))
set_option maxRecDepth 8000 in
theorem gM_may_ok {L d : Nat} (hd : 7 ≤ d) {v1 : Int32} {v2 : Int32} {s : mT} {p : Int32 × mT} (h : gM_may v1 v2 s = some p) : Ev d 295 0 [(0, .ref 294), (1, .int v1), (2, .int v2)] [] (uS L s) (some (.int p.1), uS L p.2) := by
  obtain ⟨d, rfl⟩ : ∃ e, d = e + 1 := ⟨d - 1, by omega⟩
  obtain ⟨o, ho⟩ : ∃ o : Option Value × mS, o = (some (.int p.1), uS L p.2) := ⟨_, rfl⟩
  rw [← ho]
  unfold gM_may at h
  refine Ev.seg D_295 [(.aload_n 0, 1), (.iload_n 2, 1)] (by decide +kernel) (j := 0) (pc' := 2) (lv' := [(0, .ref 294), (1, .int v1), (2, .int v2)]) (st' := [.int v2, .ref 294]) rfl ?_
  obtain ⟨p1, e1, h⟩ := bd h
  refine Ev.callv D_295 E_206 (by decide +kernel) C_10_224 294 [.int v2] (r := []) rfl (gd_o k_294 (by decide)) rfl (Nat.le_of_ble_eq_true rfl) (Nat.le_of_ble_eq_true rfl) (gM_isWatcher_ok (by omega)  e1) ?_
  refine Ev.if_ D_295 (c := .ne) (off := 6) (by decide +kernel) (t := 11) rfl (fun c2 => ?_) (fun c2 => ?_)
  · have c2 : ¬ p1 = 0 := of_decide_eq_true c2
    rw [if_neg c2] at h
    refine Ev.seg D_295 [(.aload_n 0, 1), (.iload_n 1, 1)] (by decide +kernel) (j := 0) (pc' := 13) (lv' := [(0, .ref 294), (1, .int v1), (2, .int v2)]) (st' := [.int v1, .ref 294]) rfl ?_
    obtain ⟨p3, e3, h⟩ := bd h
    refine Ev.callv D_295 E_290 (by decide +kernel) C_10_381 294 [.int v1] (r := []) rfl (gd_o k_294 (by decide)) rfl (Nat.le_of_ble_eq_true rfl) (Nat.le_of_ble_eq_true rfl) (gM_layFits_ok (by omega)  e3) ?_
    refine Ev.seg D_295 [(.istore_n 3, 1), (.iload_n 3, 1)] (by decide +kernel) (j := 0) (pc' := 18) (lv' := [(3, .int p3.1), (0, .ref 294), (1, .int v1), (2, .int v2)]) (st' := [.int p3.1]) rfl ?_
    refine Ev.if_ D_295 (c := .ge) (off := 5) (by decide +kernel) (t := 23) rfl (fun c4 => ?_) (fun c4 => ?_)
    · have c4 : 0 ≤ p3.1 := of_decide_eq_true c4
      rw [if_pos c4] at h
      refine Ev.seg D_295 [(.iconst 0, 1), (.istore 4, 2), (.iconst 0, 1), (.istore 5, 2)] (by decide +kernel) (j := 0) (pc' := 29) (lv' := [(5, .int (0 : Int32)), (4, .int (0 : Int32)), (3, .int p3.1), (0, .ref 294), (1, .int v1), (2, .int v2)]) (st' := []) rfl ?_
      obtain ⟨x5, w5, h⟩ := bd h
      have j5 : Ev (d + 1) 295 62 [(4, .int x5)] [] (uS L p3.2) o := by
        clear w5
        refine Ev.seg D_295 [(.iload 4, 2)] (by decide +kernel) (j := 0) (pc' := 64) (lv' := [(4, .int x5)]) (st' := [.int x5]) rfl ?_
        cases h
        obtain rfl : o = _ := ho
        exact Ev.iret D_295 (by decide +kernel)
      exact Ev.sub (lv' := [(0, .ref 294), (2, .int v2), (4, .int (0 : Int32)), (5, .int (0 : Int32))]) (subL_cons rfl (subL_cons rfl (subL_cons rfl (subL_cons rfl subL_nil)))) (gM_may_h29_w hd   _ _ _ w5 _ j5)
    · have c4 : ¬ 0 ≤ p3.1 := of_decide_eq_false c4
      rw [if_neg c4] at h
      refine Ev.seg D_295 [(.iload_n 3, 1)] (by decide +kernel) (j := 0) (pc' := 22) (lv' := [(3, .int p3.1), (0, .ref 294), (1, .int v1), (2, .int v2)]) (st' := [.int p3.1]) rfl ?_
      cases h
      obtain rfl : o = _ := ho
      exact Ev.iret D_295 (by decide +kernel)
  · have c2 : p1 = 0 := Decidable.of_not_not (of_decide_eq_false c2)
    rw [if_pos c2] at h
    refine Ev.seg D_295 [(.bipush (-2), 2)] (by decide +kernel) (j := 0) (pc' := 10) (lv' := [(0, .ref 294), (1, .int v1), (2, .int v2)]) (st' := [.int (-2 : Int32)]) rfl ?_
    cases h
    obtain rfl : o = _ := ho
    exact Ev.iret D_295 (by decide +kernel)
