/-! The program's methods as functions of ints and longs, each with its certificate (wip/whole/gen_emit.py writes this) -/
/- PennantLawnModel asksRace: 211 -/
def gM_asksRace (s : mT) : Option (Int32 × mT) :=
  (gM_asItIs s).bind fun p1 =>
  (gM_isRace p1).bind fun p2 =>
  (
    if p2 = 0 then
      some (p1)
    else
      (gM_goAll p1).bind fun p4 =>
      some (p4) : Option (mT)).bind fun x3 =>
  (gM_isRace x3).bind fun p5 =>
  if p5 = 0 ∨ p5 = 1 then some ((p5, x3)) else none
set_option maxRecDepth 8000 in
theorem gM_asksRace_ok {L d : Nat} (hd : 5 ≤ d) {s : mT} {p : Int32 × mT} (h : gM_asksRace s = some p) : Ev d 211 0 [(0, .ref 294)] [] (uS L s) (some (.int p.1), uS L p.2) := by
  obtain ⟨d, rfl⟩ : ∃ e, d = e + 1 := ⟨d - 1, by omega⟩
  obtain ⟨o, ho⟩ : ∃ o : Option Value × mS, o = (some (.int p.1), uS L p.2) := ⟨_, rfl⟩
  rw [← ho]
  unfold gM_asksRace at h
  refine Ev.seg D_211 [(.aload_n 0, 1)] (by decide +kernel) (j := 0) (pc' := 1) (lv' := [(0, .ref 294)]) (st' := [.ref 294]) rfl ?_
  obtain ⟨p1, e1, h⟩ := bd h
  refine Ev.callv D_211 E_212 (by decide +kernel) C_10_263 294 [] (r := []) rfl (gd_o k_294 (by decide)) rfl (Nat.le_of_ble_eq_true rfl) (Nat.le_of_ble_eq_true rfl) (gM_asItIs_ok (by omega)  e1) ?_
  refine Ev.seg D_211 [(.aload_n 0, 1)] (by decide +kernel) (j := 0) (pc' := 5) (lv' := [(0, .ref 294)]) (st' := [.ref 294]) rfl ?_
  obtain ⟨p2, e2, h⟩ := bd h
  refine Ev.callv D_211 E_214 (by decide +kernel) C_10_92 294 [] (r := []) rfl (gd_o k_294 (by decide)) rfl (Nat.le_of_ble_eq_true rfl) (Nat.le_of_ble_eq_true rfl) (gM_isRace_ok (by omega)  e2) ?_
  obtain ⟨x3, g3, h⟩ := bd h
  have j3 : Ev (d + 1) 211 15 [(0, .ref 294)] [] (uS L x3) o := by
    clear g3
    refine Ev.seg D_211 [(.aload_n 0, 1)] (by decide +kernel) (j := 0) (pc' := 16) (lv' := [(0, .ref 294)]) (st' := [.ref 294]) rfl ?_
    obtain ⟨p5, e5, h⟩ := bd h
    refine Ev.callv D_211 E_214 (by decide +kernel) C_10_92 294 [] (r := []) rfl (gd_o k_294 (by decide)) rfl (Nat.le_of_ble_eq_true rfl) (Nat.le_of_ble_eq_true rfl) (gM_isRace_ok (by omega)  e5) ?_
    by_cases c6 : p5 = 0 ∨ p5 = 1
    · rw [if_pos c6] at h
      cases h
      obtain rfl : o = _ := ho
      exact Ev.zret D_211 c6 (by decide +kernel)
    · rw [if_neg c6] at h; cases h
  clear h
  refine Ev.if_ D_211 (c := .eq) (off := 7) (by decide +kernel) (t := 15) rfl (fun c3 => ?_) (fun c3 => ?_)
  · have c3 : p2 = 0 := of_decide_eq_true c3
    rw [if_pos c3] at g3
    cases g3
    exact Ev.sub2 j3 (subL_cons rfl subL_nil)
  · have c3 : ¬ p2 = 0 := of_decide_eq_false c3
    rw [if_neg c3] at g3
    refine Ev.seg D_211 [(.aload_n 0, 1)] (by decide +kernel) (j := 0) (pc' := 12) (lv' := [(0, .ref 294)]) (st' := [.ref 294]) rfl ?_
    obtain ⟨p4, e4, g3⟩ := bd g3
    refine Ev.callv D_211 E_215 (by decide +kernel) C_10_266 294 [] (r := []) rfl (gd_o k_294 (by decide)) rfl (Nat.le_of_ble_eq_true rfl) (Nat.le_of_ble_eq_true rfl) (gM_goAll_ok (by omega)  e4) ?_
    cases g3
    exact Ev.sub2 j3 (subL_cons rfl subL_nil)
/- PennantLawnModel isStep: 222 -/
def gM_isStep (v1 : Int64) (s : mT) : Option (Int32) :=
  (gM_isRace s).bind fun p1 =>
  (
    if p1 = 0 then
      some ((0 : Int32))
    else
      (gM_last s).bind fun p3 =>
      (gM_in v1 (0 : Int64) p3.toInt64 s).bind fun p4 =>
      if p4 = 0 then
        some ((0 : Int32))
      else
        some ((1 : Int32)) : Option (Int32)).bind fun x2 =>
  if x2 = 0 ∨ x2 = 1 then some (x2) else none
set_option maxRecDepth 8000 in
theorem gM_isStep_ok {L d : Nat} (hd : 2 ≤ d) {v1 : Int64} {s : mT} {p : Int32} (h : gM_isStep v1 s = some p) : Ev d 222 0 [(0, .ref 294), (1, .long v1)] [] (uS L s) (some (.int p), uS L s) := by
  obtain ⟨d, rfl⟩ : ∃ e, d = e + 1 := ⟨d - 1, by omega⟩
  obtain ⟨o, ho⟩ : ∃ o : Option Value × mS, o = (some (.int p), uS L s) := ⟨_, rfl⟩
  rw [← ho]
  unfold gM_isStep at h
  refine Ev.seg D_222 [(.aload_n 0, 1)] (by decide +kernel) (j := 0) (pc' := 1) (lv' := [(0, .ref 294), (1, .long v1)]) (st' := [.ref 294]) rfl ?_
  obtain ⟨p1, e1, h⟩ := bd h
  refine Ev.callv D_222 E_214 (by decide +kernel) C_10_92 294 [] (r := []) rfl (gd_o k_294 (by decide)) rfl (Nat.le_of_ble_eq_true rfl) (Nat.le_of_ble_eq_true rfl) (gM_isRace_ok (by omega)  e1) ?_
  obtain ⟨x2, g2, h⟩ := bd h
  have j2 : Ev (d + 1) 222 25 [] [.int x2] (uS L s) o := by
    clear g2
    by_cases c6 : x2 = 0 ∨ x2 = 1
    · rw [if_pos c6] at h
      cases h
      obtain rfl : o = _ := ho
      exact Ev.zret D_222 c6 (by decide +kernel)
    · rw [if_neg c6] at h; cases h
  clear h
  refine Ev.if_ D_222 (c := .eq) (off := 20) (by decide +kernel) (t := 24) rfl (fun c2 => ?_) (fun c2 => ?_)
  · have c2 : p1 = 0 := of_decide_eq_true c2
    rw [if_pos c2] at g2
    refine Ev.seg D_222 [(.iconst 0, 1)] (by decide +kernel) (j := 0) (pc' := 25) (lv' := [(0, .ref 294), (1, .long v1)]) (st' := [.int (0 : Int32)]) rfl ?_
    cases g2
    exact Ev.sub2 j2 subL_nil
  · have c2 : ¬ p1 = 0 := of_decide_eq_false c2
    rw [if_neg c2] at g2
    refine Ev.seg D_222 [(.lload_n 1, 1), (.lconst 0, 1), (.aload_n 0, 1)] (by decide +kernel) (j := 0) (pc' := 10) (lv' := [(0, .ref 294), (1, .long v1)]) (st' := [.ref 294, .long (0 : Int64), .long v1]) rfl ?_
    obtain ⟨p3, e3, g2⟩ := bd g2
    refine Ev.callv D_222 E_216 (by decide +kernel) C_10_96 294 [] (r := [.long (0 : Int64), .long v1]) rfl (gd_o k_294 (by decide)) rfl (Nat.le_of_ble_eq_true rfl) (Nat.le_of_ble_eq_true rfl) (gM_last_ok (by omega)  e3) ?_
    refine Ev.seg D_222 [(.i2l, 1)] (by decide +kernel) (j := 0) (pc' := 14) (lv' := [(0, .ref 294), (1, .long v1)]) (st' := [.long p3.toInt64, .long (0 : Int64), .long v1]) rfl ?_
    obtain ⟨p4, e4, g2⟩ := bd g2
    refine Ev.calls D_222 E_184 (by decide +kernel) C_10_88 [.long v1, .long (0 : Int64), .long p3.toInt64] (r := []) rfl rfl (Nat.le_of_ble_eq_true rfl) (Nat.le_of_ble_eq_true rfl) (gM_in_ok (by omega)  e4) ?_
    refine Ev.if_ D_222 (c := .eq) (off := 7) (by decide +kernel) (t := 24) rfl (fun c5 => ?_) (fun c5 => ?_)
    · have c5 : p4 = 0 := of_decide_eq_true c5
      rw [if_pos c5] at g2
      refine Ev.seg D_222 [(.iconst 0, 1)] (by decide +kernel) (j := 0) (pc' := 25) (lv' := [(0, .ref 294), (1, .long v1)]) (st' := [.int (0 : Int32)]) rfl ?_
      cases g2
      exact Ev.sub2 j2 subL_nil
    · have c5 : ¬ p4 = 0 := of_decide_eq_false c5
      rw [if_neg c5] at g2
      refine Ev.seg D_222 [(.iconst 1, 1), (.goto 4, 3)] (by decide +kernel) (j := 0) (pc' := 25) (lv' := [(0, .ref 294), (1, .long v1)]) (st' := [.int (1 : Int32)]) rfl ?_
      cases g2
      exact Ev.sub2 j2 subL_nil
/- PennantLawnModel asksStep: 210 -/
def gM_asksStep (v1 : Int32) (s : mT) : Option (Int32 × mT) :=
  (gM_asksRace s).bind fun p1 =>
  (
    if p1.1 = 0 then
      some ((0 : Int32))
    else
      (gM_isStep v1.toInt64 p1.2).bind fun p3 =>
      if p3 = 0 then
        some ((0 : Int32))
      else
        some ((1 : Int32)) : Option (Int32)).bind fun x2 =>
  if x2 = 0 ∨ x2 = 1 then some ((x2, p1.2)) else none
set_option maxRecDepth 8000 in
theorem gM_asksStep_ok {L d : Nat} (hd : 6 ≤ d) {v1 : Int32} {s : mT} {p : Int32 × mT} (h : gM_asksStep v1 s = some p) : Ev d 210 0 [(0, .ref 294), (1, .int v1)] [] (uS L s) (some (.int p.1), uS L p.2) := by
  obtain ⟨d, rfl⟩ : ∃ e, d = e + 1 := ⟨d - 1, by omega⟩
  obtain ⟨o, ho⟩ : ∃ o : Option Value × mS, o = (some (.int p.1), uS L p.2) := ⟨_, rfl⟩
  rw [← ho]
  unfold gM_asksStep at h
  refine Ev.seg D_210 [(.aload_n 0, 1)] (by decide +kernel) (j := 0) (pc' := 1) (lv' := [(0, .ref 294), (1, .int v1)]) (st' := [.ref 294]) rfl ?_
  obtain ⟨p1, e1, h⟩ := bd h
  refine Ev.callv D_210 E_211 (by decide +kernel) C_10_269 294 [] (r := []) rfl (gd_o k_294 (by decide)) rfl (Nat.le_of_ble_eq_true rfl) (Nat.le_of_ble_eq_true rfl) (gM_asksRace_ok (by omega)  e1) ?_
  obtain ⟨x2, g2, h⟩ := bd h
  have j2 : Ev (d + 1) 210 21 [] [.int x2] (uS L p1.2) o := by
    clear g2
    by_cases c5 : x2 = 0 ∨ x2 = 1
    · rw [if_pos c5] at h
      cases h
      obtain rfl : o = _ := ho
      exact Ev.zret D_210 c5 (by decide +kernel)
    · rw [if_neg c5] at h; cases h
  clear h
  refine Ev.if_ D_210 (c := .eq) (off := 16) (by decide +kernel) (t := 20) rfl (fun c2 => ?_) (fun c2 => ?_)
  · have c2 : p1.1 = 0 := of_decide_eq_true c2
    rw [if_pos c2] at g2
    refine Ev.seg D_210 [(.iconst 0, 1)] (by decide +kernel) (j := 0) (pc' := 21) (lv' := [(0, .ref 294), (1, .int v1)]) (st' := [.int (0 : Int32)]) rfl ?_
    cases g2
    exact Ev.sub2 j2 subL_nil
  · have c2 : ¬ p1.1 = 0 := of_decide_eq_false c2
    rw [if_neg c2] at g2
    refine Ev.seg D_210 [(.aload_n 0, 1), (.iload_n 1, 1), (.i2l, 1)] (by decide +kernel) (j := 0) (pc' := 10) (lv' := [(0, .ref 294), (1, .int v1)]) (st' := [.long v1.toInt64, .ref 294]) rfl ?_
    obtain ⟨p3, e3, g2⟩ := bd g2
    refine Ev.callv D_210 E_222 (by decide +kernel) C_10_272 294 [.long v1.toInt64] (r := []) rfl (gd_o k_294 (by decide)) rfl (Nat.le_of_ble_eq_true rfl) (Nat.le_of_ble_eq_true rfl) (gM_isStep_ok (by omega)  e3) ?_
    refine Ev.if_ D_210 (c := .eq) (off := 7) (by decide +kernel) (t := 20) rfl (fun c4 => ?_) (fun c4 => ?_)
    · have c4 : p3 = 0 := of_decide_eq_true c4
      rw [if_pos c4] at g2
      refine Ev.seg D_210 [(.iconst 0, 1)] (by decide +kernel) (j := 0) (pc' := 21) (lv' := [(0, .ref 294), (1, .int v1)]) (st' := [.int (0 : Int32)]) rfl ?_
      cases g2
      exact Ev.sub2 j2 subL_nil
    · have c4 : ¬ p3 = 0 := of_decide_eq_false c4
      rw [if_neg c4] at g2
      refine Ev.seg D_210 [(.iconst 1, 1), (.goto 4, 3)] (by decide +kernel) (j := 0) (pc' := 21) (lv' := [(0, .ref 294), (1, .int v1)]) (st' := [.int (1 : Int32)]) rfl ?_
      cases g2
      exact Ev.sub2 j2 subL_nil
/- PennantLawnModel place: 209 -/
def gM_place (v1 : Int32) (v2 : Int32) (s : mT) : Option (Int32 × mT) :=
  (gM_asksStep v2 s).bind fun p1 =>
  (
    if p1.1 = 0 then
      some ((-2 : Int32))
    else
      (gM_isBoat v1.toInt64 p1.2).bind fun p3 =>
      if p3 = 0 then
        some ((-2 : Int32))
      else
        (gM_placeOf v1 v2 p1.2).bind fun p5 =>
        some (p5) : Option (Int32)).bind fun x2 =>
  some ((x2, p1.2))
set_option maxRecDepth 8000 in
theorem gM_place_ok {L d : Nat} (hd : 7 ≤ d) {v1 : Int32} {v2 : Int32} {s : mT} {p : Int32 × mT} (h : gM_place v1 v2 s = some p) : Ev d 209 0 [(0, .ref 294), (1, .int v1), (2, .int v2)] [] (uS L s) (some (.int p.1), uS L p.2) := by
  obtain ⟨d, rfl⟩ : ∃ e, d = e + 1 := ⟨d - 1, by omega⟩
  obtain ⟨o, ho⟩ : ∃ o : Option Value × mS, o = (some (.int p.1), uS L p.2) := ⟨_, rfl⟩
  rw [← ho]
  unfold gM_place at h
  refine Ev.seg D_209 [(.aload_n 0, 1), (.iload_n 2, 1)] (by decide +kernel) (j := 0) (pc' := 2) (lv' := [(0, .ref 294), (1, .int v1), (2, .int v2)]) (st' := [.int v2, .ref 294]) rfl ?_
  obtain ⟨p1, e1, h⟩ := bd h
  refine Ev.callv D_209 E_210 (by decide +kernel) C_10_278 294 [.int v2] (r := []) rfl (gd_o k_294 (by decide)) rfl (Nat.le_of_ble_eq_true rfl) (Nat.le_of_ble_eq_true rfl) (gM_asksStep_ok (by omega)  e1) ?_
  obtain ⟨x2, g2, h⟩ := bd h
  have j2 : Ev (d + 1) 209 28 [] [.int x2] (uS L p1.2) o := by
    clear g2
    cases h
    obtain rfl : o = _ := ho
    exact Ev.iret D_209 (by decide +kernel)
  clear h
  refine Ev.if_ D_209 (c := .eq) (off := 21) (by decide +kernel) (t := 26) rfl (fun c2 => ?_) (fun c2 => ?_)
  · have c2 : p1.1 = 0 := of_decide_eq_true c2
    rw [if_pos c2] at g2
    refine Ev.seg D_209 [(.bipush (-2), 2)] (by decide +kernel) (j := 0) (pc' := 28) (lv' := [(0, .ref 294), (1, .int v1), (2, .int v2)]) (st' := [.int (-2 : Int32)]) rfl ?_
    cases g2
    exact Ev.sub2 j2 subL_nil
  · have c2 : ¬ p1.1 = 0 := of_decide_eq_false c2
    rw [if_neg c2] at g2
    refine Ev.seg D_209 [(.aload_n 0, 1), (.iload_n 1, 1), (.i2l, 1)] (by decide +kernel) (j := 0) (pc' := 11) (lv' := [(0, .ref 294), (1, .int v1), (2, .int v2)]) (st' := [.long v1.toInt64, .ref 294]) rfl ?_
    obtain ⟨p3, e3, g2⟩ := bd g2
    refine Ev.callv D_209 E_204 (by decide +kernel) C_10_220 294 [.long v1.toInt64] (r := []) rfl (gd_o k_294 (by decide)) rfl (Nat.le_of_ble_eq_true rfl) (Nat.le_of_ble_eq_true rfl) (gM_isBoat_ok (by omega)  e3) ?_
    refine Ev.if_ D_209 (c := .eq) (off := 12) (by decide +kernel) (t := 26) rfl (fun c4 => ?_) (fun c4 => ?_)
    · have c4 : p3 = 0 := of_decide_eq_true c4
      rw [if_pos c4] at g2
      refine Ev.seg D_209 [(.bipush (-2), 2)] (by decide +kernel) (j := 0) (pc' := 28) (lv' := [(0, .ref 294), (1, .int v1), (2, .int v2)]) (st' := [.int (-2 : Int32)]) rfl ?_
      cases g2
      exact Ev.sub2 j2 subL_nil
    · have c4 : ¬ p3 = 0 := of_decide_eq_false c4
      rw [if_neg c4] at g2
      refine Ev.seg D_209 [(.aload_n 0, 1), (.iload_n 1, 1), (.iload_n 2, 1)] (by decide +kernel) (j := 0) (pc' := 20) (lv' := [(0, .ref 294), (1, .int v1), (2, .int v2)]) (st' := [.int v2, .int v1, .ref 294]) rfl ?_
      obtain ⟨p5, e5, g2⟩ := bd g2
      refine Ev.callv D_209 E_220 (by decide +kernel) C_10_240 294 [.int v1, .int v2] (r := []) rfl (gd_o k_294 (by decide)) rfl (Nat.le_of_ble_eq_true rfl) (Nat.le_of_ble_eq_true rfl) (gM_placeOf_ok (by omega)  e5) ?_
      refine Ev.seg D_209 [(.goto 5, 3)] (by decide +kernel) (j := 0) (pc' := 28) (lv' := [(0, .ref 294), (1, .int v1), (2, .int v2)]) (st' := [.int p5]) rfl ?_
      cases g2
      exact Ev.sub2 j2 subL_nil
/- PennantLawnModel on: 223 -/
def gM_on (v1 : Int32) (v2 : Int32) (s : mT) : Option (Int32 × mT) :=
  (gM_asksStep v2 s).bind fun p1 =>
  (
    if p1.1 = 0 then
      some ((-2 : Int32))
    else
      (gM_isWatcher v1 p1.2).bind fun p3 =>
      if p3 = 0 then
        some ((-2 : Int32))
      else
        (gM_onOf v1 v2 p1.2).bind fun p5 =>
        some (p5) : Option (Int32)).bind fun x2 =>
  some ((x2, p1.2))
set_option maxRecDepth 8000 in
theorem gM_on_ok {L d : Nat} (hd : 7 ≤ d) {v1 : Int32} {v2 : Int32} {s : mT} {p : Int32 × mT} (h : gM_on v1 v2 s = some p) : Ev d 223 0 [(0, .ref 294), (1, .int v1), (2, .int v2)] [] (uS L s) (some (.int p.1), uS L p.2) := by
  obtain ⟨d, rfl⟩ : ∃ e, d = e + 1 := ⟨d - 1, by omega⟩
  obtain ⟨o, ho⟩ : ∃ o : Option Value × mS, o = (some (.int p.1), uS L p.2) := ⟨_, rfl⟩
  rw [← ho]
  unfold gM_on at h
  refine Ev.seg D_223 [(.aload_n 0, 1), (.iload_n 2, 1)] (by decide +kernel) (j := 0) (pc' := 2) (lv' := [(0, .ref 294), (1, .int v1), (2, .int v2)]) (st' := [.int v2, .ref 294]) rfl ?_
  obtain ⟨p1, e1, h⟩ := bd h
  refine Ev.callv D_223 E_210 (by decide +kernel) C_10_278 294 [.int v2] (r := []) rfl (gd_o k_294 (by decide)) rfl (Nat.le_of_ble_eq_true rfl) (Nat.le_of_ble_eq_true rfl) (gM_asksStep_ok (by omega)  e1) ?_
  obtain ⟨x2, g2, h⟩ := bd h
  have j2 : Ev (d + 1) 223 27 [] [.int x2] (uS L p1.2) o := by
    clear g2
    cases h
    obtain rfl : o = _ := ho
    exact Ev.iret D_223 (by decide +kernel)
  clear h
  refine Ev.if_ D_223 (c := .eq) (off := 20) (by decide +kernel) (t := 25) rfl (fun c2 => ?_) (fun c2 => ?_)
  · have c2 : p1.1 = 0 := of_decide_eq_true c2
    rw [if_pos c2] at g2
    refine Ev.seg D_223 [(.bipush (-2), 2)] (by decide +kernel) (j := 0) (pc' := 27) (lv' := [(0, .ref 294), (1, .int v1), (2, .int v2)]) (st' := [.int (-2 : Int32)]) rfl ?_
    cases g2
    exact Ev.sub2 j2 subL_nil
  · have c2 : ¬ p1.1 = 0 := of_decide_eq_false c2
    rw [if_neg c2] at g2
    refine Ev.seg D_223 [(.aload_n 0, 1), (.iload_n 1, 1)] (by decide +kernel) (j := 0) (pc' := 10) (lv' := [(0, .ref 294), (1, .int v1), (2, .int v2)]) (st' := [.int v1, .ref 294]) rfl ?_
    obtain ⟨p3, e3, g2⟩ := bd g2
    refine Ev.callv D_223 E_206 (by decide +kernel) C_10_224 294 [.int v1] (r := []) rfl (gd_o k_294 (by decide)) rfl (Nat.le_of_ble_eq_true rfl) (Nat.le_of_ble_eq_true rfl) (gM_isWatcher_ok (by omega)  e3) ?_
    refine Ev.if_ D_223 (c := .eq) (off := 12) (by decide +kernel) (t := 25) rfl (fun c4 => ?_) (fun c4 => ?_)
    · have c4 : p3 = 0 := of_decide_eq_true c4
      rw [if_pos c4] at g2
      refine Ev.seg D_223 [(.bipush (-2), 2)] (by decide +kernel) (j := 0) (pc' := 27) (lv' := [(0, .ref 294), (1, .int v1), (2, .int v2)]) (st' := [.int (-2 : Int32)]) rfl ?_
      cases g2
      exact Ev.sub2 j2 subL_nil
    · have c4 : ¬ p3 = 0 := of_decide_eq_false c4
      rw [if_neg c4] at g2
      refine Ev.seg D_223 [(.aload_n 0, 1), (.iload_n 1, 1), (.iload_n 2, 1)] (by decide +kernel) (j := 0) (pc' := 19) (lv' := [(0, .ref 294), (1, .int v1), (2, .int v2)]) (st' := [.int v2, .int v1, .ref 294]) rfl ?_
      obtain ⟨p5, e5, g2⟩ := bd g2
      refine Ev.callv D_223 E_218 (by decide +kernel) C_10_243 294 [.int v1, .int v2] (r := []) rfl (gd_o k_294 (by decide)) rfl (Nat.le_of_ble_eq_true rfl) (Nat.le_of_ble_eq_true rfl) (gM_onOf_ok (by omega)  e5) ?_
      refine Ev.seg D_223 [(.goto 5, 3)] (by decide +kernel) (j := 0) (pc' := 27) (lv' := [(0, .ref 294), (1, .int v1), (2, .int v2)]) (st' := [.int p5]) rfl ?_
      cases g2
      exact Ev.sub2 j2 subL_nil
/- PennantLawnModel isAhead: 226 -/
def gM_isAhead (v1 : Int32) (s : mT) : Option (Int32) :=
  (gM_isRace s).bind fun p1 =>
  (
    if p1 = 0 then
      some ((0 : Int32))
    else
      (gM_last s).bind fun p3 =>
      (gM_in v1.toInt64 (0 : Int64) ((p3 - (1 : Int32)).toInt64) s).bind fun p4 =>
      if p4 = 0 then
        some ((0 : Int32))
      else
        some ((1 : Int32)) : Option (Int32)).bind fun x2 =>
  if x2 = 0 ∨ x2 = 1 then some (x2) else none
set_option maxRecDepth 8000 in
theorem gM_isAhead_ok {L d : Nat} (hd : 2 ≤ d) {v1 : Int32} {s : mT} {p : Int32} (h : gM_isAhead v1 s = some p) : Ev d 226 0 [(0, .ref 294), (1, .int v1)] [] (uS L s) (some (.int p), uS L s) := by
  obtain ⟨d, rfl⟩ : ∃ e, d = e + 1 := ⟨d - 1, by omega⟩
  obtain ⟨o, ho⟩ : ∃ o : Option Value × mS, o = (some (.int p), uS L s) := ⟨_, rfl⟩
  rw [← ho]
  unfold gM_isAhead at h
  refine Ev.seg D_226 [(.aload_n 0, 1)] (by decide +kernel) (j := 0) (pc' := 1) (lv' := [(0, .ref 294), (1, .int v1)]) (st' := [.ref 294]) rfl ?_
  obtain ⟨p1, e1, h⟩ := bd h
  refine Ev.callv D_226 E_214 (by decide +kernel) C_10_92 294 [] (r := []) rfl (gd_o k_294 (by decide)) rfl (Nat.le_of_ble_eq_true rfl) (Nat.le_of_ble_eq_true rfl) (gM_isRace_ok (by omega)  e1) ?_
  obtain ⟨x2, g2, h⟩ := bd h
  have j2 : Ev (d + 1) 226 28 [] [.int x2] (uS L s) o := by
    clear g2
    by_cases c6 : x2 = 0 ∨ x2 = 1
    · rw [if_pos c6] at h
      cases h
      obtain rfl : o = _ := ho
      exact Ev.zret D_226 c6 (by decide +kernel)
    · rw [if_neg c6] at h; cases h
  clear h
  refine Ev.if_ D_226 (c := .eq) (off := 23) (by decide +kernel) (t := 27) rfl (fun c2 => ?_) (fun c2 => ?_)
  · have c2 : p1 = 0 := of_decide_eq_true c2
    rw [if_pos c2] at g2
    refine Ev.seg D_226 [(.iconst 0, 1)] (by decide +kernel) (j := 0) (pc' := 28) (lv' := [(0, .ref 294), (1, .int v1)]) (st' := [.int (0 : Int32)]) rfl ?_
    cases g2
    exact Ev.sub2 j2 subL_nil
  · have c2 : ¬ p1 = 0 := of_decide_eq_false c2
    rw [if_neg c2] at g2
    refine Ev.seg D_226 [(.iload_n 1, 1), (.i2l, 1), (.lconst 0, 1), (.aload_n 0, 1)] (by decide +kernel) (j := 0) (pc' := 11) (lv' := [(0, .ref 294), (1, .int v1)]) (st' := [.ref 294, .long (0 : Int64), .long v1.toInt64]) rfl ?_
    obtain ⟨p3, e3, g2⟩ := bd g2
    refine Ev.callv D_226 E_216 (by decide +kernel) C_10_96 294 [] (r := [.long (0 : Int64), .long v1.toInt64]) rfl (gd_o k_294 (by decide)) rfl (Nat.le_of_ble_eq_true rfl) (Nat.le_of_ble_eq_true rfl) (gM_last_ok (by omega)  e3) ?_
    refine Ev.seg D_226 [(.iconst 1, 1), (.isub, 1), (.i2l, 1)] (by decide +kernel) (j := 0) (pc' := 17) (lv' := [(0, .ref 294), (1, .int v1)]) (st' := [.long ((p3 - (1 : Int32)).toInt64), .long (0 : Int64), .long v1.toInt64]) rfl ?_
    obtain ⟨p4, e4, g2⟩ := bd g2
    refine Ev.calls D_226 E_184 (by decide +kernel) C_10_88 [.long v1.toInt64, .long (0 : Int64), .long ((p3 - (1 : Int32)).toInt64)] (r := []) rfl rfl (Nat.le_of_ble_eq_true rfl) (Nat.le_of_ble_eq_true rfl) (gM_in_ok (by omega)  e4) ?_
    refine Ev.if_ D_226 (c := .eq) (off := 7) (by decide +kernel) (t := 27) rfl (fun c5 => ?_) (fun c5 => ?_)
    · have c5 : p4 = 0 := of_decide_eq_true c5
      rw [if_pos c5] at g2
      refine Ev.seg D_226 [(.iconst 0, 1)] (by decide +kernel) (j := 0) (pc' := 28) (lv' := [(0, .ref 294), (1, .int v1)]) (st' := [.int (0 : Int32)]) rfl ?_
      cases g2
      exact Ev.sub2 j2 subL_nil
    · have c5 : ¬ p4 = 0 := of_decide_eq_false c5
      rw [if_neg c5] at g2
      refine Ev.seg D_226 [(.iconst 1, 1), (.goto 4, 3)] (by decide +kernel) (j := 0) (pc' := 28) (lv' := [(0, .ref 294), (1, .int v1)]) (st' := [.int (1 : Int32)]) rfl ?_
      cases g2
      exact Ev.sub2 j2 subL_nil
/- PennantLawnModel asksAhead: 225 -/
def gM_asksAhead (v1 : Int32) (s : mT) : Option (Int32 × mT) :=
  (gM_asksRace s).bind fun p1 =>
  (
    if p1.1 = 0 then
      some ((0 : Int32))
    else
      (gM_isAhead v1 p1.2).bind fun p3 =>
      if p3 = 0 then
        some ((0 : Int32))
      else
        some ((1 : Int32)) : Option (Int32)).bind fun x2 =>
  if x2 = 0 ∨ x2 = 1 then some ((x2, p1.2)) else none
set_option maxRecDepth 8000 in
theorem gM_asksAhead_ok {L d : Nat} (hd : 6 ≤ d) {v1 : Int32} {s : mT} {p : Int32 × mT} (h : gM_asksAhead v1 s = some p) : Ev d 225 0 [(0, .ref 294), (1, .int v1)] [] (uS L s) (some (.int p.1), uS L p.2) := by
  obtain ⟨d, rfl⟩ : ∃ e, d = e + 1 := ⟨d - 1, by omega⟩
  obtain ⟨o, ho⟩ : ∃ o : Option Value × mS, o = (some (.int p.1), uS L p.2) := ⟨_, rfl⟩
  rw [← ho]
  unfold gM_asksAhead at h
  refine Ev.seg D_225 [(.aload_n 0, 1)] (by decide +kernel) (j := 0) (pc' := 1) (lv' := [(0, .ref 294), (1, .int v1)]) (st' := [.ref 294]) rfl ?_
  obtain ⟨p1, e1, h⟩ := bd h
  refine Ev.callv D_225 E_211 (by decide +kernel) C_10_269 294 [] (r := []) rfl (gd_o k_294 (by decide)) rfl (Nat.le_of_ble_eq_true rfl) (Nat.le_of_ble_eq_true rfl) (gM_asksRace_ok (by omega)  e1) ?_
  obtain ⟨x2, g2, h⟩ := bd h
  have j2 : Ev (d + 1) 225 20 [] [.int x2] (uS L p1.2) o := by
    clear g2
    by_cases c5 : x2 = 0 ∨ x2 = 1
    · rw [if_pos c5] at h
      cases h
      obtain rfl : o = _ := ho
      exact Ev.zret D_225 c5 (by decide +kernel)
    · rw [if_neg c5] at h; cases h
  clear h
  refine Ev.if_ D_225 (c := .eq) (off := 15) (by decide +kernel) (t := 19) rfl (fun c2 => ?_) (fun c2 => ?_)
  · have c2 : p1.1 = 0 := of_decide_eq_true c2
    rw [if_pos c2] at g2
    refine Ev.seg D_225 [(.iconst 0, 1)] (by decide +kernel) (j := 0) (pc' := 20) (lv' := [(0, .ref 294), (1, .int v1)]) (st' := [.int (0 : Int32)]) rfl ?_
    cases g2
    exact Ev.sub2 j2 subL_nil
  · have c2 : ¬ p1.1 = 0 := of_decide_eq_false c2
    rw [if_neg c2] at g2
    refine Ev.seg D_225 [(.aload_n 0, 1), (.iload_n 1, 1)] (by decide +kernel) (j := 0) (pc' := 9) (lv' := [(0, .ref 294), (1, .int v1)]) (st' := [.int v1, .ref 294]) rfl ?_
    obtain ⟨p3, e3, g2⟩ := bd g2
    refine Ev.callv D_225 E_226 (by decide +kernel) C_10_275 294 [.int v1] (r := []) rfl (gd_o k_294 (by decide)) rfl (Nat.le_of_ble_eq_true rfl) (Nat.le_of_ble_eq_true rfl) (gM_isAhead_ok (by omega)  e3) ?_
    refine Ev.if_ D_225 (c := .eq) (off := 7) (by decide +kernel) (t := 19) rfl (fun c4 => ?_) (fun c4 => ?_)
    · have c4 : p3 = 0 := of_decide_eq_true c4
      rw [if_pos c4] at g2
      refine Ev.seg D_225 [(.iconst 0, 1)] (by decide +kernel) (j := 0) (pc' := 20) (lv' := [(0, .ref 294), (1, .int v1)]) (st' := [.int (0 : Int32)]) rfl ?_
      cases g2
      exact Ev.sub2 j2 subL_nil
    · have c4 : ¬ p3 = 0 := of_decide_eq_false c4
      rw [if_neg c4] at g2
      refine Ev.seg D_225 [(.iconst 1, 1), (.goto 4, 3)] (by decide +kernel) (j := 0) (pc' := 20) (lv' := [(0, .ref 294), (1, .int v1)]) (st' := [.int (1 : Int32)]) rfl ?_
      cases g2
      exact Ev.sub2 j2 subL_nil
/- PennantLawnModel eyes: 224 -/
def gM_eyes (v1 : Int32) (v2 : Int32) (s : mT) : Option (Int32 × mT) :=
  (gM_asksAhead v2 s).bind fun p1 =>
  (
    if p1.1 = 0 then
      some ((-2 : Int32))
    else
      (gM_isBoat v1.toInt64 p1.2).bind fun p3 =>
      if p3 = 0 then
        some ((-2 : Int32))
      else
        (rdI (p1.2.1 307) 105 (((5 : Int32) * v2) + v1)).bind fun x6 =>
        some (x6) : Option (Int32)).bind fun x2 =>
  some ((x2, p1.2))
set_option maxRecDepth 8000 in
theorem gM_eyes_ok {L d : Nat} (hd : 7 ≤ d) {v1 : Int32} {v2 : Int32} {s : mT} {p : Int32 × mT} (h : gM_eyes v1 v2 s = some p) : Ev d 224 0 [(0, .ref 294), (1, .int v1), (2, .int v2)] [] (uS L s) (some (.int p.1), uS L p.2) := by
  obtain ⟨d, rfl⟩ : ∃ e, d = e + 1 := ⟨d - 1, by omega⟩
  obtain ⟨o, ho⟩ : ∃ o : Option Value × mS, o = (some (.int p.1), uS L p.2) := ⟨_, rfl⟩
  rw [← ho]
  unfold gM_eyes at h
  refine Ev.seg D_224 [(.aload_n 0, 1), (.iload_n 2, 1)] (by decide +kernel) (j := 0) (pc' := 2) (lv' := [(0, .ref 294), (1, .int v1), (2, .int v2)]) (st' := [.int v2, .ref 294]) rfl ?_
  obtain ⟨p1, e1, h⟩ := bd h
  refine Ev.callv D_224 E_225 (by decide +kernel) C_10_281 294 [.int v2] (r := []) rfl (gd_o k_294 (by decide)) rfl (Nat.le_of_ble_eq_true rfl) (Nat.le_of_ble_eq_true rfl) (gM_asksAhead_ok (by omega)  e1) ?_
  obtain ⟨x2, g2, h⟩ := bd h
  have j2 : Ev (d + 1) 224 32 [] [.int x2] (uS L p1.2) o := by
    clear g2
    cases h
    obtain rfl : o = _ := ho
    exact Ev.iret D_224 (by decide +kernel)
  clear h
  refine Ev.if_ D_224 (c := .eq) (off := 25) (by decide +kernel) (t := 30) rfl (fun c2 => ?_) (fun c2 => ?_)
  · have c2 : p1.1 = 0 := of_decide_eq_true c2
    rw [if_pos c2] at g2
    refine Ev.seg D_224 [(.bipush (-2), 2)] (by decide +kernel) (j := 0) (pc' := 32) (lv' := [(0, .ref 294), (1, .int v1), (2, .int v2)]) (st' := [.int (-2 : Int32)]) rfl ?_
    cases g2
    exact Ev.sub2 j2 subL_nil
  · have c2 : ¬ p1.1 = 0 := of_decide_eq_false c2
    rw [if_neg c2] at g2
    refine Ev.seg D_224 [(.aload_n 0, 1), (.iload_n 1, 1), (.i2l, 1)] (by decide +kernel) (j := 0) (pc' := 11) (lv' := [(0, .ref 294), (1, .int v1), (2, .int v2)]) (st' := [.long v1.toInt64, .ref 294]) rfl ?_
    obtain ⟨p3, e3, g2⟩ := bd g2
    refine Ev.callv D_224 E_204 (by decide +kernel) C_10_220 294 [.long v1.toInt64] (r := []) rfl (gd_o k_294 (by decide)) rfl (Nat.le_of_ble_eq_true rfl) (Nat.le_of_ble_eq_true rfl) (gM_isBoat_ok (by omega)  e3) ?_
    refine Ev.if_ D_224 (c := .eq) (off := 16) (by decide +kernel) (t := 30) rfl (fun c4 => ?_) (fun c4 => ?_)
    · have c4 : p3 = 0 := of_decide_eq_true c4
      rw [if_pos c4] at g2
      refine Ev.seg D_224 [(.bipush (-2), 2)] (by decide +kernel) (j := 0) (pc' := 32) (lv' := [(0, .ref 294), (1, .int v1), (2, .int v2)]) (st' := [.int (-2 : Int32)]) rfl ?_
      cases g2
      exact Ev.sub2 j2 subL_nil
    · have c4 : ¬ p3 = 0 := of_decide_eq_false c4
      rw [if_neg c4] at g2
      refine Ev.seg D_224 [(.aload_n 0, 1)] (by decide +kernel) (j := 0) (pc' := 18) (lv' := [(0, .ref 294), (1, .int v1), (2, .int v2)]) (st' := [.ref 294]) rfl ?_
      refine Ev.getR D_224 (by decide +kernel) F_10_52 T_10_23 (x := 307) (S_oR k_294 (by decide +kernel)) ?_
      refine Ev.seg D_224 [(.iconst 5, 1), (.iload_n 2, 1), (.imul, 1), (.iload_n 1, 1), (.iadd, 1)] (by decide +kernel) (j := 0) (pc' := 26) (lv' := [(0, .ref 294), (1, .int v1), (2, .int v2)]) (st' := [.int (((5 : Int32) * v2) + v1), .ref 307]) rfl ?_
      obtain ⟨x6, e6, g2⟩ := bd g2
      refine Ev.iald D_224 (by decide +kernel) (S_aI k_307 e6) ?_
      refine Ev.seg D_224 [(.goto 5, 3)] (by decide +kernel) (j := 0) (pc' := 32) (lv' := [(0, .ref 294), (1, .int v1), (2, .int v2)]) (st' := [.int x6]) rfl ?_
      cases g2
      exact Ev.sub2 j2 subL_nil
/- PennantLawnModel awake: 227 -/
def gM_awake (v1 : Int32) (s : mT) : Option (Int32 × mT) :=
  (gM_asksAhead v1 s).bind fun p1 =>
  (
    if p1.1 = 0 then
      some ((-2 : Int32))
    else
      (rdI (p1.2.1 308) 21 v1).bind fun x4 =>
      some (x4) : Option (Int32)).bind fun x2 =>
  some ((x2, p1.2))
set_option maxRecDepth 8000 in
theorem gM_awake_ok {L d : Nat} (hd : 7 ≤ d) {v1 : Int32} {s : mT} {p : Int32 × mT} (h : gM_awake v1 s = some p) : Ev d 227 0 [(0, .ref 294), (1, .int v1)] [] (uS L s) (some (.int p.1), uS L p.2) := by
  obtain ⟨d, rfl⟩ : ∃ e, d = e + 1 := ⟨d - 1, by omega⟩
  obtain ⟨o, ho⟩ : ∃ o : Option Value × mS, o = (some (.int p.1), uS L p.2) := ⟨_, rfl⟩
  rw [← ho]
  unfold gM_awake at h
  refine Ev.seg D_227 [(.aload_n 0, 1), (.iload_n 1, 1)] (by decide +kernel) (j := 0) (pc' := 2) (lv' := [(0, .ref 294), (1, .int v1)]) (st' := [.int v1, .ref 294]) rfl ?_
  obtain ⟨p1, e1, h⟩ := bd h
  refine Ev.callv D_227 E_225 (by decide +kernel) C_10_281 294 [.int v1] (r := []) rfl (gd_o k_294 (by decide)) rfl (Nat.le_of_ble_eq_true rfl) (Nat.le_of_ble_eq_true rfl) (gM_asksAhead_ok (by omega)  e1) ?_
  obtain ⟨x2, g2, h⟩ := bd h
  have j2 : Ev (d + 1) 227 19 [] [.int x2] (uS L p1.2) o := by
    clear g2
    cases h
    obtain rfl : o = _ := ho
    exact Ev.iret D_227 (by decide +kernel)
  clear h
  refine Ev.if_ D_227 (c := .eq) (off := 12) (by decide +kernel) (t := 17) rfl (fun c2 => ?_) (fun c2 => ?_)
  · have c2 : p1.1 = 0 := of_decide_eq_true c2
    rw [if_pos c2] at g2
    refine Ev.seg D_227 [(.bipush (-2), 2)] (by decide +kernel) (j := 0) (pc' := 19) (lv' := [(0, .ref 294), (1, .int v1)]) (st' := [.int (-2 : Int32)]) rfl ?_
    cases g2
    exact Ev.sub2 j2 subL_nil
  · have c2 : ¬ p1.1 = 0 := of_decide_eq_false c2
    rw [if_neg c2] at g2
    refine Ev.seg D_227 [(.aload_n 0, 1)] (by decide +kernel) (j := 0) (pc' := 9) (lv' := [(0, .ref 294), (1, .int v1)]) (st' := [.ref 294]) rfl ?_
    refine Ev.getR D_227 (by decide +kernel) F_10_55 T_10_24 (x := 308) (S_oR k_294 (by decide +kernel)) ?_
    refine Ev.seg D_227 [(.iload_n 1, 1)] (by decide +kernel) (j := 0) (pc' := 13) (lv' := [(0, .ref 294), (1, .int v1)]) (st' := [.int v1, .ref 308]) rfl ?_
    obtain ⟨x4, e4, g2⟩ := bd g2
    refine Ev.iald D_227 (by decide +kernel) (S_aI k_308 e4) ?_
    refine Ev.seg D_227 [(.goto 5, 3)] (by decide +kernel) (j := 0) (pc' := 19) (lv' := [(0, .ref 294), (1, .int v1)]) (st' := [.int x4]) rfl ?_
    cases g2
    exact Ev.sub2 j2 subL_nil
/- PennantLawnModel lookersOf: 229 -/
def gM_lookersOf_h5 (v1 : Int32) (v2 : Int32) (s : mT) (q : Int32 × Int32) : Option ((Int32 × Int32) ⊕ (Int32)) :=
  (rdI (s.1 295) 79 (5 : Int32)).bind fun x2 =>
  if x2 ≤ q.2 then
    some (.inr q.1)
  else
    (gM_onOf q.2 v2 s).bind fun p4 =>
    (
      if p4 = v1 then
        some ((1 : Int32) <<< (q.2 &&& 31))
      else
        some ((0 : Int32)) : Option (Int32)).bind fun x5 =>
    some (.inl (q.1 ||| x5, q.2 + (1 : Int32)))
set_option maxRecDepth 8000 in
theorem gM_lookersOf_h5_ok {L d : Nat} (hd : 2 ≤ d + 1) {v1 : Int32} {v2 : Int32} {s : mT} : ∀ (q : Int32 × Int32) (x : (Int32 × Int32) ⊕ (Int32)), gM_lookersOf_h5 v1 v2 s q = some x → ∀ o, sK (fun q => Ev (d + 1) 229 5 [(0, .ref 294), (1, .int v1), (2, .int v2), (3, .int q.1), (4, .int q.2)] [] (uS L s) o) (fun r => Ev (d + 1) 229 44 [(3, .int r)] [] (uS L s) o) x → Ev (d + 1) 229 5 [(0, .ref 294), (1, .int v1), (2, .int v2), (3, .int q.1), (4, .int q.2)] [] (uS L s) o := by
  intro q x h o ho
  unfold gM_lookersOf_h5 at h
  refine Ev.seg D_229 [(.iload 4, 2), (.aload_n 0, 1)] (by decide +kernel) (j := 0) (pc' := 8) (lv' := [(0, .ref 294), (1, .int v1), (2, .int v2), (3, .int q.1), (4, .int q.2)]) (st' := [.ref 294, .int q.2]) rfl ?_
  refine Ev.getR D_229 (by decide +kernel) F_10_9 T_10_1 (x := 295) (S_oR k_294 (by decide +kernel)) ?_
  refine Ev.seg D_229 [(.iconst 5, 1)] (by decide +kernel) (j := 0) (pc' := 12) (lv' := [(0, .ref 294), (1, .int v1), (2, .int v2), (3, .int q.1), (4, .int q.2)]) (st' := [.int (5 : Int32), .ref 295, .int q.2]) rfl ?_
  obtain ⟨x2, e2, h⟩ := bd h
  refine Ev.iald D_229 (by decide +kernel) (S_aI k_295 e2) ?_
  refine Ev.icmp D_229 (c := .ge) (off := 31) (by decide +kernel) (t := 44) rfl (fun c3 => ?_) (fun c3 => ?_)
  · have c3 : x2 ≤ q.2 := of_decide_eq_true c3
    rw [if_pos c3] at h
    cases h
    exact Ev.sub (lv' := [(3, .int q.1)]) (subL_cons rfl subL_nil) ho
  · have c3 : ¬ x2 ≤ q.2 := of_decide_eq_false c3
    rw [if_neg c3] at h
    refine Ev.seg D_229 [(.iload_n 3, 1), (.aload_n 0, 1), (.iload 4, 2), (.iload_n 2, 1)] (by decide +kernel) (j := 0) (pc' := 21) (lv' := [(0, .ref 294), (1, .int v1), (2, .int v2), (3, .int q.1), (4, .int q.2)]) (st' := [.int v2, .int q.2, .ref 294, .int q.1]) rfl ?_
    obtain ⟨p4, e4, h⟩ := bd h
    refine Ev.callv D_229 E_218 (by decide +kernel) C_10_243 294 [.int q.2, .int v2] (r := [.int q.1]) rfl (gd_o k_294 (by decide)) rfl (Nat.le_of_ble_eq_true rfl) (Nat.le_of_ble_eq_true rfl) (gM_onOf_ok (by omega)  e4) ?_
    refine Ev.seg D_229 [(.iload_n 1, 1)] (by decide +kernel) (j := 0) (pc' := 25) (lv' := [(0, .ref 294), (1, .int v1), (2, .int v2), (3, .int q.1), (4, .int q.2)]) (st' := [.int v1, .int p4, .int q.1]) rfl ?_
    obtain ⟨x5, g5, h⟩ := bd h
    have j5 : Ev (d + 1) 229 36 [(0, .ref 294), (1, .int v1), (2, .int v2), (4, .int q.2)] [.int x5, .int q.1] (uS L s) o := by
      clear g5
      refine Ev.seg D_229 [(.ior, 1), (.istore_n 3, 1), (.iinc 4 1, 3), (.goto (-36), 3)] (by decide +kernel) (j := 0) (pc' := 5) (lv' := [(4, .int (q.2 + (1 : Int32))), (3, .int (q.1 ||| x5)), (0, .ref 294), (1, .int v1), (2, .int v2)]) (st' := []) rfl ?_
      cases h
      exact Ev.sub (lv' := [(0, .ref 294), (1, .int v1), (2, .int v2), (3, .int (q.1 ||| x5)), (4, .int (q.2 + (1 : Int32)))]) (subL_cons rfl (subL_cons rfl (subL_cons rfl (subL_cons rfl (subL_cons rfl subL_nil))))) ho
    clear h
    refine Ev.icmp D_229 (c := .ne) (off := 10) (by decide +kernel) (t := 35) rfl (fun c5 => ?_) (fun c5 => ?_)
    · have c5 : ¬ p4 = v1 := of_decide_eq_true c5
      rw [if_neg c5] at g5
      refine Ev.seg D_229 [(.iconst 0, 1)] (by decide +kernel) (j := 0) (pc' := 36) (lv' := [(0, .ref 294), (1, .int v1), (2, .int v2), (3, .int q.1), (4, .int q.2)]) (st' := [.int (0 : Int32), .int q.1]) rfl ?_
      cases g5
      exact Ev.sub2 j5 (subL_cons rfl (subL_cons rfl (subL_cons rfl (subL_cons rfl subL_nil))))
    · have c5 : p4 = v1 := Decidable.of_not_not (of_decide_eq_false c5)
      rw [if_pos c5] at g5
      refine Ev.seg D_229 [(.iconst 1, 1), (.iload 4, 2), (.ishl, 1), (.goto 4, 3)] (by decide +kernel) (j := 0) (pc' := 36) (lv' := [(0, .ref 294), (1, .int v1), (2, .int v2), (3, .int q.1), (4, .int q.2)]) (st' := [.int ((1 : Int32) <<< (q.2 &&& 31)), .int q.1]) rfl ?_
      cases g5
      exact Ev.sub2 j5 (subL_cons rfl (subL_cons rfl (subL_cons rfl (subL_cons rfl subL_nil))))
theorem gM_lookersOf_h5_w {L d : Nat} (hd : 2 ≤ d + 1) {v1 : Int32} {v2 : Int32} {s : mT} : ∀ (n : Nat) (q : Int32 × Int32) (r : Int32), wh n (gM_lookersOf_h5 v1 v2 s) q = some r → ∀ o, (fun r => Ev (d + 1) 229 44 [(3, .int r)] [] (uS L s) o) r → Ev (d + 1) 229 5 [(0, .ref 294), (1, .int v1), (2, .int v2), (3, .int q.1), (4, .int q.2)] [] (uS L s) o :=
  fun n q r h o hc => wh_ev (E := fun (q : Int32 × Int32) o => Ev (d + 1) 229 5 [(0, .ref 294), (1, .int v1), (2, .int v2), (3, .int q.1), (4, .int q.2)] [] (uS L s) o) (C := fun (r : Int32) o => (fun r => Ev (d + 1) 229 44 [(3, .int r)] [] (uS L s) o) r) (gM_lookersOf_h5_ok hd  ) n q r h o hc
def gM_lookersOf (v1 : Int32) (v2 : Int32) (s : mT) : Option (Int32) :=
  (wh FU (gM_lookersOf_h5 v1 v2 s) ((0 : Int32), (0 : Int32))).bind fun x6 =>
  some (x6)
set_option maxRecDepth 8000 in
theorem gM_lookersOf_ok {L d : Nat} (hd : 2 ≤ d) {v1 : Int32} {v2 : Int32} {s : mT} {p : Int32} (h : gM_lookersOf v1 v2 s = some p) : Ev d 229 0 [(0, .ref 294), (1, .int v1), (2, .int v2)] [] (uS L s) (some (.int p), uS L s) := by
  obtain ⟨d, rfl⟩ : ∃ e, d = e + 1 := ⟨d - 1, by omega⟩
  obtain ⟨o, ho⟩ : ∃ o : Option Value × mS, o = (some (.int p), uS L s) := ⟨_, rfl⟩
  rw [← ho]
  unfold gM_lookersOf at h
  refine Ev.seg D_229 [(.iconst 0, 1), (.istore_n 3, 1), (.iconst 0, 1), (.istore 4, 2)] (by decide +kernel) (j := 0) (pc' := 5) (lv' := [(4, .int (0 : Int32)), (3, .int (0 : Int32)), (0, .ref 294), (1, .int v1), (2, .int v2)]) (st' := []) rfl ?_
  obtain ⟨x6, w6, h⟩ := bd h
  have j6 : Ev (d + 1) 229 44 [(3, .int x6)] [] (uS L s) o := by
    clear w6
    refine Ev.seg D_229 [(.iload_n 3, 1)] (by decide +kernel) (j := 0) (pc' := 45) (lv' := [(3, .int x6)]) (st' := [.int x6]) rfl ?_
    cases h
    obtain rfl : o = _ := ho
    exact Ev.iret D_229 (by decide +kernel)
  exact Ev.sub (lv' := [(0, .ref 294), (1, .int v1), (2, .int v2), (3, .int (0 : Int32)), (4, .int (0 : Int32))]) (subL_cons rfl (subL_cons rfl (subL_cons rfl (subL_cons rfl (subL_cons rfl subL_nil))))) (gM_lookersOf_h5_w hd   _ _ _ w6 _ j6)
/- PennantLawnModel lookers: 228 -/
def gM_lookers (v1 : Int32) (v2 : Int32) (s : mT) : Option (Int32 × mT) :=
  (gM_asksStep v2 s).bind fun p1 =>
  (
    if p1.1 = 0 then
      some ((-2 : Int32))
    else
      (gM_isBoat v1.toInt64 p1.2).bind fun p3 =>
      if p3 = 0 then
        some ((-2 : Int32))
      else
        (gM_lookersOf v1 v2 p1.2).bind fun p5 =>
        some (p5) : Option (Int32)).bind fun x2 =>
  some ((x2, p1.2))
set_option maxRecDepth 8000 in
theorem gM_lookers_ok {L d : Nat} (hd : 7 ≤ d) {v1 : Int32} {v2 : Int32} {s : mT} {p : Int32 × mT} (h : gM_lookers v1 v2 s = some p) : Ev d 228 0 [(0, .ref 294), (1, .int v1), (2, .int v2)] [] (uS L s) (some (.int p.1), uS L p.2) := by
  obtain ⟨d, rfl⟩ : ∃ e, d = e + 1 := ⟨d - 1, by omega⟩
  obtain ⟨o, ho⟩ : ∃ o : Option Value × mS, o = (some (.int p.1), uS L p.2) := ⟨_, rfl⟩
  rw [← ho]
  unfold gM_lookers at h
  refine Ev.seg D_228 [(.aload_n 0, 1), (.iload_n 2, 1)] (by decide +kernel) (j := 0) (pc' := 2) (lv' := [(0, .ref 294), (1, .int v1), (2, .int v2)]) (st' := [.int v2, .ref 294]) rfl ?_
  obtain ⟨p1, e1, h⟩ := bd h
  refine Ev.callv D_228 E_210 (by decide +kernel) C_10_278 294 [.int v2] (r := []) rfl (gd_o k_294 (by decide)) rfl (Nat.le_of_ble_eq_true rfl) (Nat.le_of_ble_eq_true rfl) (gM_asksStep_ok (by omega)  e1) ?_
  obtain ⟨x2, g2, h⟩ := bd h
  have j2 : Ev (d + 1) 228 28 [] [.int x2] (uS L p1.2) o := by
    clear g2
    cases h
    obtain rfl : o = _ := ho
    exact Ev.iret D_228 (by decide +kernel)
  clear h
  refine Ev.if_ D_228 (c := .eq) (off := 21) (by decide +kernel) (t := 26) rfl (fun c2 => ?_) (fun c2 => ?_)
  · have c2 : p1.1 = 0 := of_decide_eq_true c2
    rw [if_pos c2] at g2
    refine Ev.seg D_228 [(.bipush (-2), 2)] (by decide +kernel) (j := 0) (pc' := 28) (lv' := [(0, .ref 294), (1, .int v1), (2, .int v2)]) (st' := [.int (-2 : Int32)]) rfl ?_
    cases g2
    exact Ev.sub2 j2 subL_nil
  · have c2 : ¬ p1.1 = 0 := of_decide_eq_false c2
    rw [if_neg c2] at g2
    refine Ev.seg D_228 [(.aload_n 0, 1), (.iload_n 1, 1), (.i2l, 1)] (by decide +kernel) (j := 0) (pc' := 11) (lv' := [(0, .ref 294), (1, .int v1), (2, .int v2)]) (st' := [.long v1.toInt64, .ref 294]) rfl ?_
    obtain ⟨p3, e3, g2⟩ := bd g2
    refine Ev.callv D_228 E_204 (by decide +kernel) C_10_220 294 [.long v1.toInt64] (r := []) rfl (gd_o k_294 (by decide)) rfl (Nat.le_of_ble_eq_true rfl) (Nat.le_of_ble_eq_true rfl) (gM_isBoat_ok (by omega)  e3) ?_
    refine Ev.if_ D_228 (c := .eq) (off := 12) (by decide +kernel) (t := 26) rfl (fun c4 => ?_) (fun c4 => ?_)
    · have c4 : p3 = 0 := of_decide_eq_true c4
      rw [if_pos c4] at g2
      refine Ev.seg D_228 [(.bipush (-2), 2)] (by decide +kernel) (j := 0) (pc' := 28) (lv' := [(0, .ref 294), (1, .int v1), (2, .int v2)]) (st' := [.int (-2 : Int32)]) rfl ?_
      cases g2
      exact Ev.sub2 j2 subL_nil
    · have c4 : ¬ p3 = 0 := of_decide_eq_false c4
      rw [if_neg c4] at g2
      refine Ev.seg D_228 [(.aload_n 0, 1), (.iload_n 1, 1), (.iload_n 2, 1)] (by decide +kernel) (j := 0) (pc' := 20) (lv' := [(0, .ref 294), (1, .int v1), (2, .int v2)]) (st' := [.int v2, .int v1, .ref 294]) rfl ?_
      obtain ⟨p5, e5, g2⟩ := bd g2
      refine Ev.callv D_228 E_229 (by decide +kernel) C_10_284 294 [.int v1, .int v2] (r := []) rfl (gd_o k_294 (by decide)) rfl (Nat.le_of_ble_eq_true rfl) (Nat.le_of_ble_eq_true rfl) (gM_lookersOf_ok (by omega)  e5) ?_
      refine Ev.seg D_228 [(.goto 5, 3)] (by decide +kernel) (j := 0) (pc' := 28) (lv' := [(0, .ref 294), (1, .int v1), (2, .int v2)]) (st' := [.int p5]) rfl ?_
      cases g2
      exact Ev.sub2 j2 subL_nil
/- PennantLawnModel leadsOf: 231 -/
def gM_leadsOf_h4 (v1 : Int32) (s : mT) (q : Int32 × Int32) : Option ((Int32 × Int32) ⊕ (Int32)) :=
  (rdI (s.1 295) 79 (4 : Int32)).bind fun x2 =>
  if x2 ≤ q.2 then
    some (.inr q.1)
  else
    (
      if q.1 = (-1 : Int32) then
        some (q.2)
      else
        (gM_placeOf q.2 v1 s).bind fun p5 =>
        (gM_placeOf q.1 v1 s).bind fun p6 =>
        if p5 ≤ p6 then
          some (q.1)
        else
          some (q.2) : Option (Int32)).bind fun x4 =>
    some (.inl (x4, q.2 + (1 : Int32)))
set_option maxRecDepth 8000 in
theorem gM_leadsOf_h4_ok {L d : Nat} (hd : 2 ≤ d + 1) {v1 : Int32} {s : mT} : ∀ (q : Int32 × Int32) (x : (Int32 × Int32) ⊕ (Int32)), gM_leadsOf_h4 v1 s q = some x → ∀ o, sK (fun q => Ev (d + 1) 231 4 [(0, .ref 294), (1, .int v1), (2, .int q.1), (3, .int q.2)] [] (uS L s) o) (fun r => Ev (d + 1) 231 42 [(2, .int r)] [] (uS L s) o) x → Ev (d + 1) 231 4 [(0, .ref 294), (1, .int v1), (2, .int q.1), (3, .int q.2)] [] (uS L s) o := by
  intro q x h o ho
  unfold gM_leadsOf_h4 at h
  refine Ev.seg D_231 [(.iload_n 3, 1), (.aload_n 0, 1)] (by decide +kernel) (j := 0) (pc' := 6) (lv' := [(0, .ref 294), (1, .int v1), (2, .int q.1), (3, .int q.2)]) (st' := [.ref 294, .int q.2]) rfl ?_
  refine Ev.getR D_231 (by decide +kernel) F_10_9 T_10_1 (x := 295) (S_oR k_294 (by decide +kernel)) ?_
  refine Ev.seg D_231 [(.iconst 4, 1)] (by decide +kernel) (j := 0) (pc' := 10) (lv' := [(0, .ref 294), (1, .int v1), (2, .int q.1), (3, .int q.2)]) (st' := [.int (4 : Int32), .ref 295, .int q.2]) rfl ?_
  obtain ⟨x2, e2, h⟩ := bd h
  refine Ev.iald D_231 (by decide +kernel) (S_aI k_295 e2) ?_
  refine Ev.icmp D_231 (c := .ge) (off := 31) (by decide +kernel) (t := 42) rfl (fun c3 => ?_) (fun c3 => ?_)
  · have c3 : x2 ≤ q.2 := of_decide_eq_true c3
    rw [if_pos c3] at h
    cases h
    exact Ev.sub (lv' := [(2, .int q.1)]) (subL_cons rfl subL_nil) ho
  · have c3 : ¬ x2 ≤ q.2 := of_decide_eq_false c3
    rw [if_neg c3] at h
    refine Ev.seg D_231 [(.iload_n 2, 1), (.iconst (-1), 1)] (by decide +kernel) (j := 0) (pc' := 16) (lv' := [(0, .ref 294), (1, .int v1), (2, .int q.1), (3, .int q.2)]) (st' := [.int (-1 : Int32), .int q.1]) rfl ?_
    obtain ⟨x4, g4, h⟩ := bd h
    have j4 : Ev (d + 1) 231 36 [(0, .ref 294), (1, .int v1), (2, .int x4), (3, .int q.2)] [] (uS L s) o := by
      clear g4
      refine Ev.seg D_231 [(.iinc 3 1, 3), (.goto (-35), 3)] (by decide +kernel) (j := 0) (pc' := 4) (lv' := [(3, .int (q.2 + (1 : Int32))), (0, .ref 294), (1, .int v1), (2, .int x4)]) (st' := []) rfl ?_
      cases h
      exact Ev.sub (lv' := [(0, .ref 294), (1, .int v1), (2, .int (x4)), (3, .int (q.2 + (1 : Int32)))]) (subL_cons rfl (subL_cons rfl (subL_cons rfl (subL_cons rfl subL_nil)))) ho
    clear h
    refine Ev.icmp D_231 (c := .eq) (off := 18) (by decide +kernel) (t := 34) rfl (fun c4 => ?_) (fun c4 => ?_)
    · have c4 : q.1 = (-1 : Int32) := of_decide_eq_true c4
      rw [if_pos c4] at g4
      refine Ev.seg D_231 [(.iload_n 3, 1), (.istore_n 2, 1)] (by decide +kernel) (j := 0) (pc' := 36) (lv' := [(2, .int q.2), (0, .ref 294), (1, .int v1), (3, .int q.2)]) (st' := []) rfl ?_
      cases g4
      exact Ev.sub2 j4 (subL_cons rfl (subL_cons rfl (subL_cons rfl (subL_cons rfl subL_nil))))
    · have c4 : ¬ q.1 = (-1 : Int32) := of_decide_eq_false c4
      rw [if_neg c4] at g4
      refine Ev.seg D_231 [(.aload_n 0, 1), (.iload_n 3, 1), (.iload_n 1, 1)] (by decide +kernel) (j := 0) (pc' := 22) (lv' := [(0, .ref 294), (1, .int v1), (2, .int q.1), (3, .int q.2)]) (st' := [.int v1, .int q.2, .ref 294]) rfl ?_
      obtain ⟨p5, e5, g4⟩ := bd g4
      refine Ev.callv D_231 E_220 (by decide +kernel) C_10_240 294 [.int q.2, .int v1] (r := []) rfl (gd_o k_294 (by decide)) rfl (Nat.le_of_ble_eq_true rfl) (Nat.le_of_ble_eq_true rfl) (gM_placeOf_ok (by omega)  e5) ?_
      refine Ev.seg D_231 [(.aload_n 0, 1), (.iload_n 2, 1), (.iload_n 1, 1)] (by decide +kernel) (j := 0) (pc' := 28) (lv' := [(0, .ref 294), (1, .int v1), (2, .int q.1), (3, .int q.2)]) (st' := [.int v1, .int q.1, .ref 294, .int p5]) rfl ?_
      obtain ⟨p6, e6, g4⟩ := bd g4
      refine Ev.callv D_231 E_220 (by decide +kernel) C_10_240 294 [.int q.1, .int v1] (r := [.int p5]) rfl (gd_o k_294 (by decide)) rfl (Nat.le_of_ble_eq_true rfl) (Nat.le_of_ble_eq_true rfl) (gM_placeOf_ok (by omega)  e6) ?_
      refine Ev.icmp D_231 (c := .le) (off := 5) (by decide +kernel) (t := 36) rfl (fun c7 => ?_) (fun c7 => ?_)
      · have c7 : p5 ≤ p6 := of_decide_eq_true c7
        rw [if_pos c7] at g4
        cases g4
        exact Ev.sub2 j4 (subL_cons rfl (subL_cons rfl (subL_cons rfl (subL_cons rfl subL_nil))))
      · have c7 : ¬ p5 ≤ p6 := of_decide_eq_false c7
        rw [if_neg c7] at g4
        refine Ev.seg D_231 [(.iload_n 3, 1), (.istore_n 2, 1)] (by decide +kernel) (j := 0) (pc' := 36) (lv' := [(2, .int q.2), (0, .ref 294), (1, .int v1), (3, .int q.2)]) (st' := []) rfl ?_
        cases g4
        exact Ev.sub2 j4 (subL_cons rfl (subL_cons rfl (subL_cons rfl (subL_cons rfl subL_nil))))
theorem gM_leadsOf_h4_w {L d : Nat} (hd : 2 ≤ d + 1) {v1 : Int32} {s : mT} : ∀ (n : Nat) (q : Int32 × Int32) (r : Int32), wh n (gM_leadsOf_h4 v1 s) q = some r → ∀ o, (fun r => Ev (d + 1) 231 42 [(2, .int r)] [] (uS L s) o) r → Ev (d + 1) 231 4 [(0, .ref 294), (1, .int v1), (2, .int q.1), (3, .int q.2)] [] (uS L s) o :=
  fun n q r h o hc => wh_ev (E := fun (q : Int32 × Int32) o => Ev (d + 1) 231 4 [(0, .ref 294), (1, .int v1), (2, .int q.1), (3, .int q.2)] [] (uS L s) o) (C := fun (r : Int32) o => (fun r => Ev (d + 1) 231 42 [(2, .int r)] [] (uS L s) o) r) (gM_leadsOf_h4_ok hd  ) n q r h o hc
def gM_leadsOf (v1 : Int32) (s : mT) : Option (Int32) :=
  (wh FU (gM_leadsOf_h4 v1 s) ((-1 : Int32), (0 : Int32))).bind fun x8 =>
  some (x8)
set_option maxRecDepth 8000 in
theorem gM_leadsOf_ok {L d : Nat} (hd : 2 ≤ d) {v1 : Int32} {s : mT} {p : Int32} (h : gM_leadsOf v1 s = some p) : Ev d 231 0 [(0, .ref 294), (1, .int v1)] [] (uS L s) (some (.int p), uS L s) := by
  obtain ⟨d, rfl⟩ : ∃ e, d = e + 1 := ⟨d - 1, by omega⟩
  obtain ⟨o, ho⟩ : ∃ o : Option Value × mS, o = (some (.int p), uS L s) := ⟨_, rfl⟩
  rw [← ho]
  unfold gM_leadsOf at h
  refine Ev.seg D_231 [(.iconst (-1), 1), (.istore_n 2, 1), (.iconst 0, 1), (.istore_n 3, 1)] (by decide +kernel) (j := 0) (pc' := 4) (lv' := [(3, .int (0 : Int32)), (2, .int (-1 : Int32)), (0, .ref 294), (1, .int v1)]) (st' := []) rfl ?_
  obtain ⟨x8, w8, h⟩ := bd h
  have j8 : Ev (d + 1) 231 42 [(2, .int x8)] [] (uS L s) o := by
    clear w8
    refine Ev.seg D_231 [(.iload_n 2, 1)] (by decide +kernel) (j := 0) (pc' := 43) (lv' := [(2, .int x8)]) (st' := [.int x8]) rfl ?_
    cases h
    obtain rfl : o = _ := ho
    exact Ev.iret D_231 (by decide +kernel)
  exact Ev.sub (lv' := [(0, .ref 294), (1, .int v1), (2, .int (-1 : Int32)), (3, .int (0 : Int32))]) (subL_cons rfl (subL_cons rfl (subL_cons rfl (subL_cons rfl subL_nil)))) (gM_leadsOf_h4_w hd   _ _ _ w8 _ j8)
/- PennantLawnModel leads: 230 -/
def gM_leads (v1 : Int32) (s : mT) : Option (Int32 × mT) :=
  (gM_asksStep v1 s).bind fun p1 =>
  (
    if p1.1 = 0 then
      some ((-2 : Int32))
    else
      (gM_leadsOf v1 p1.2).bind fun p3 =>
      some (p3) : Option (Int32)).bind fun x2 =>
  some ((x2, p1.2))
set_option maxRecDepth 8000 in
theorem gM_leads_ok {L d : Nat} (hd : 7 ≤ d) {v1 : Int32} {s : mT} {p : Int32 × mT} (h : gM_leads v1 s = some p) : Ev d 230 0 [(0, .ref 294), (1, .int v1)] [] (uS L s) (some (.int p.1), uS L p.2) := by
  obtain ⟨d, rfl⟩ : ∃ e, d = e + 1 := ⟨d - 1, by omega⟩
  obtain ⟨o, ho⟩ : ∃ o : Option Value × mS, o = (some (.int p.1), uS L p.2) := ⟨_, rfl⟩
  rw [← ho]
  unfold gM_leads at h
  refine Ev.seg D_230 [(.aload_n 0, 1), (.iload_n 1, 1)] (by decide +kernel) (j := 0) (pc' := 2) (lv' := [(0, .ref 294), (1, .int v1)]) (st' := [.int v1, .ref 294]) rfl ?_
  obtain ⟨p1, e1, h⟩ := bd h
  refine Ev.callv D_230 E_210 (by decide +kernel) C_10_278 294 [.int v1] (r := []) rfl (gd_o k_294 (by decide)) rfl (Nat.le_of_ble_eq_true rfl) (Nat.le_of_ble_eq_true rfl) (gM_asksStep_ok (by omega)  e1) ?_
  obtain ⟨x2, g2, h⟩ := bd h
  have j2 : Ev (d + 1) 230 18 [] [.int x2] (uS L p1.2) o := by
    clear g2
    cases h
    obtain rfl : o = _ := ho
    exact Ev.iret D_230 (by decide +kernel)
  clear h
  refine Ev.if_ D_230 (c := .eq) (off := 11) (by decide +kernel) (t := 16) rfl (fun c2 => ?_) (fun c2 => ?_)
  · have c2 : p1.1 = 0 := of_decide_eq_true c2
    rw [if_pos c2] at g2
    refine Ev.seg D_230 [(.bipush (-2), 2)] (by decide +kernel) (j := 0) (pc' := 18) (lv' := [(0, .ref 294), (1, .int v1)]) (st' := [.int (-2 : Int32)]) rfl ?_
    cases g2
    exact Ev.sub2 j2 subL_nil
  · have c2 : ¬ p1.1 = 0 := of_decide_eq_false c2
    rw [if_neg c2] at g2
    refine Ev.seg D_230 [(.aload_n 0, 1), (.iload_n 1, 1)] (by decide +kernel) (j := 0) (pc' := 10) (lv' := [(0, .ref 294), (1, .int v1)]) (st' := [.int v1, .ref 294]) rfl ?_
    obtain ⟨p3, e3, g2⟩ := bd g2
    refine Ev.callv D_230 E_231 (by decide +kernel) C_10_287 294 [.int v1] (r := []) rfl (gd_o k_294 (by decide)) rfl (Nat.le_of_ble_eq_true rfl) (Nat.le_of_ble_eq_true rfl) (gM_leadsOf_ok (by omega)  e3) ?_
    refine Ev.seg D_230 [(.goto 5, 3)] (by decide +kernel) (j := 0) (pc' := 18) (lv' := [(0, .ref 294), (1, .int v1)]) (st' := [.int p3]) rfl ?_
    cases g2
    exact Ev.sub2 j2 subL_nil
/- PennantLawnModel lags: 232 -/
def gM_lags_h15 (v1 : Int32) (s : mT) (q : Int32 × Int32) : Option ((Int32 × Int32) ⊕ (Int32)) :=
  (rdI (s.1 295) 79 (4 : Int32)).bind fun x2 =>
  if x2 ≤ q.2 then
    some (.inr q.1)
  else
    (
      if q.1 = (-1 : Int32) then
        some (q.2)
      else
        (gM_placeOf q.2 v1 s).bind fun p5 =>
        (gM_placeOf q.1 v1 s).bind fun p6 =>
        if p6 ≤ p5 then
          some (q.1)
        else
          some (q.2) : Option (Int32)).bind fun x4 =>
    some (.inl (x4, q.2 + (1 : Int32)))
set_option maxRecDepth 8000 in
theorem gM_lags_h15_ok {L d : Nat} (hd : 7 ≤ d + 1) {v1 : Int32} {s : mT} : ∀ (q : Int32 × Int32) (x : (Int32 × Int32) ⊕ (Int32)), gM_lags_h15 v1 s q = some x → ∀ o, sK (fun q => Ev (d + 1) 232 15 [(0, .ref 294), (1, .int v1), (2, .int q.1), (3, .int q.2)] [] (uS L s) o) (fun r => Ev (d + 1) 232 53 [(2, .int r)] [] (uS L s) o) x → Ev (d + 1) 232 15 [(0, .ref 294), (1, .int v1), (2, .int q.1), (3, .int q.2)] [] (uS L s) o := by
  intro q x h o ho
  unfold gM_lags_h15 at h
  refine Ev.seg D_232 [(.iload_n 3, 1), (.aload_n 0, 1)] (by decide +kernel) (j := 0) (pc' := 17) (lv' := [(0, .ref 294), (1, .int v1), (2, .int q.1), (3, .int q.2)]) (st' := [.ref 294, .int q.2]) rfl ?_
  refine Ev.getR D_232 (by decide +kernel) F_10_9 T_10_1 (x := 295) (S_oR k_294 (by decide +kernel)) ?_
  refine Ev.seg D_232 [(.iconst 4, 1)] (by decide +kernel) (j := 0) (pc' := 21) (lv' := [(0, .ref 294), (1, .int v1), (2, .int q.1), (3, .int q.2)]) (st' := [.int (4 : Int32), .ref 295, .int q.2]) rfl ?_
  obtain ⟨x2, e2, h⟩ := bd h
  refine Ev.iald D_232 (by decide +kernel) (S_aI k_295 e2) ?_
  refine Ev.icmp D_232 (c := .ge) (off := 31) (by decide +kernel) (t := 53) rfl (fun c3 => ?_) (fun c3 => ?_)
  · have c3 : x2 ≤ q.2 := of_decide_eq_true c3
    rw [if_pos c3] at h
    cases h
    exact Ev.sub (lv' := [(2, .int q.1)]) (subL_cons rfl subL_nil) ho
  · have c3 : ¬ x2 ≤ q.2 := of_decide_eq_false c3
    rw [if_neg c3] at h
    refine Ev.seg D_232 [(.iload_n 2, 1), (.iconst (-1), 1)] (by decide +kernel) (j := 0) (pc' := 27) (lv' := [(0, .ref 294), (1, .int v1), (2, .int q.1), (3, .int q.2)]) (st' := [.int (-1 : Int32), .int q.1]) rfl ?_
    obtain ⟨x4, g4, h⟩ := bd h
    have j4 : Ev (d + 1) 232 47 [(0, .ref 294), (1, .int v1), (2, .int x4), (3, .int q.2)] [] (uS L s) o := by
      clear g4
      refine Ev.seg D_232 [(.iinc 3 1, 3), (.goto (-35), 3)] (by decide +kernel) (j := 0) (pc' := 15) (lv' := [(3, .int (q.2 + (1 : Int32))), (0, .ref 294), (1, .int v1), (2, .int x4)]) (st' := []) rfl ?_
      cases h
      exact Ev.sub (lv' := [(0, .ref 294), (1, .int v1), (2, .int (x4)), (3, .int (q.2 + (1 : Int32)))]) (subL_cons rfl (subL_cons rfl (subL_cons rfl (subL_cons rfl subL_nil)))) ho
    clear h
    refine Ev.icmp D_232 (c := .eq) (off := 18) (by decide +kernel) (t := 45) rfl (fun c4 => ?_) (fun c4 => ?_)
    · have c4 : q.1 = (-1 : Int32) := of_decide_eq_true c4
      rw [if_pos c4] at g4
      refine Ev.seg D_232 [(.iload_n 3, 1), (.istore_n 2, 1)] (by decide +kernel) (j := 0) (pc' := 47) (lv' := [(2, .int q.2), (0, .ref 294), (1, .int v1), (3, .int q.2)]) (st' := []) rfl ?_
      cases g4
      exact Ev.sub2 j4 (subL_cons rfl (subL_cons rfl (subL_cons rfl (subL_cons rfl subL_nil))))
    · have c4 : ¬ q.1 = (-1 : Int32) := of_decide_eq_false c4
      rw [if_neg c4] at g4
      refine Ev.seg D_232 [(.aload_n 0, 1), (.iload_n 3, 1), (.iload_n 1, 1)] (by decide +kernel) (j := 0) (pc' := 33) (lv' := [(0, .ref 294), (1, .int v1), (2, .int q.1), (3, .int q.2)]) (st' := [.int v1, .int q.2, .ref 294]) rfl ?_
      obtain ⟨p5, e5, g4⟩ := bd g4
      refine Ev.callv D_232 E_220 (by decide +kernel) C_10_240 294 [.int q.2, .int v1] (r := []) rfl (gd_o k_294 (by decide)) rfl (Nat.le_of_ble_eq_true rfl) (Nat.le_of_ble_eq_true rfl) (gM_placeOf_ok (by omega)  e5) ?_
      refine Ev.seg D_232 [(.aload_n 0, 1), (.iload_n 2, 1), (.iload_n 1, 1)] (by decide +kernel) (j := 0) (pc' := 39) (lv' := [(0, .ref 294), (1, .int v1), (2, .int q.1), (3, .int q.2)]) (st' := [.int v1, .int q.1, .ref 294, .int p5]) rfl ?_
      obtain ⟨p6, e6, g4⟩ := bd g4
      refine Ev.callv D_232 E_220 (by decide +kernel) C_10_240 294 [.int q.1, .int v1] (r := [.int p5]) rfl (gd_o k_294 (by decide)) rfl (Nat.le_of_ble_eq_true rfl) (Nat.le_of_ble_eq_true rfl) (gM_placeOf_ok (by omega)  e6) ?_
      refine Ev.icmp D_232 (c := .ge) (off := 5) (by decide +kernel) (t := 47) rfl (fun c7 => ?_) (fun c7 => ?_)
      · have c7 : p6 ≤ p5 := of_decide_eq_true c7
        rw [if_pos c7] at g4
        cases g4
        exact Ev.sub2 j4 (subL_cons rfl (subL_cons rfl (subL_cons rfl (subL_cons rfl subL_nil))))
      · have c7 : ¬ p6 ≤ p5 := of_decide_eq_false c7
        rw [if_neg c7] at g4
        refine Ev.seg D_232 [(.iload_n 3, 1), (.istore_n 2, 1)] (by decide +kernel) (j := 0) (pc' := 47) (lv' := [(2, .int q.2), (0, .ref 294), (1, .int v1), (3, .int q.2)]) (st' := []) rfl ?_
        cases g4
        exact Ev.sub2 j4 (subL_cons rfl (subL_cons rfl (subL_cons rfl (subL_cons rfl subL_nil))))
theorem gM_lags_h15_w {L d : Nat} (hd : 7 ≤ d + 1) {v1 : Int32} {s : mT} : ∀ (n : Nat) (q : Int32 × Int32) (r : Int32), wh n (gM_lags_h15 v1 s) q = some r → ∀ o, (fun r => Ev (d + 1) 232 53 [(2, .int r)] [] (uS L s) o) r → Ev (d + 1) 232 15 [(0, .ref 294), (1, .int v1), (2, .int q.1), (3, .int q.2)] [] (uS L s) o :=
  fun n q r h o hc => wh_ev (E := fun (q : Int32 × Int32) o => Ev (d + 1) 232 15 [(0, .ref 294), (1, .int v1), (2, .int q.1), (3, .int q.2)] [] (uS L s) o) (C := fun (r : Int32) o => (fun r => Ev (d + 1) 232 53 [(2, .int r)] [] (uS L s) o) r) (gM_lags_h15_ok hd  ) n q r h o hc
def gM_lags (v1 : Int32) (s : mT) : Option (Int32 × mT) :=
  (gM_asksStep v1 s).bind fun p1 =>
  if p1.1 = 0 then
    some (((-2 : Int32), p1.2))
  else
    (wh FU (gM_lags_h15 v1 p1.2) ((-1 : Int32), (0 : Int32))).bind fun x8 =>
    some ((x8, p1.2))
set_option maxRecDepth 8000 in
theorem gM_lags_ok {L d : Nat} (hd : 7 ≤ d) {v1 : Int32} {s : mT} {p : Int32 × mT} (h : gM_lags v1 s = some p) : Ev d 232 0 [(0, .ref 294), (1, .int v1)] [] (uS L s) (some (.int p.1), uS L p.2) := by
  obtain ⟨d, rfl⟩ : ∃ e, d = e + 1 := ⟨d - 1, by omega⟩
  obtain ⟨o, ho⟩ : ∃ o : Option Value × mS, o = (some (.int p.1), uS L p.2) := ⟨_, rfl⟩
  rw [← ho]
  unfold gM_lags at h
  refine Ev.seg D_232 [(.aload_n 0, 1), (.iload_n 1, 1)] (by decide +kernel) (j := 0) (pc' := 2) (lv' := [(0, .ref 294), (1, .int v1)]) (st' := [.int v1, .ref 294]) rfl ?_
  obtain ⟨p1, e1, h⟩ := bd h
  refine Ev.callv D_232 E_210 (by decide +kernel) C_10_278 294 [.int v1] (r := []) rfl (gd_o k_294 (by decide)) rfl (Nat.le_of_ble_eq_true rfl) (Nat.le_of_ble_eq_true rfl) (gM_asksStep_ok (by omega)  e1) ?_
  refine Ev.if_ D_232 (c := .ne) (off := 6) (by decide +kernel) (t := 11) rfl (fun c2 => ?_) (fun c2 => ?_)
  · have c2 : ¬ p1.1 = 0 := of_decide_eq_true c2
    rw [if_neg c2] at h
    refine Ev.seg D_232 [(.iconst (-1), 1), (.istore_n 2, 1), (.iconst 0, 1), (.istore_n 3, 1)] (by decide +kernel) (j := 0) (pc' := 15) (lv' := [(3, .int (0 : Int32)), (2, .int (-1 : Int32)), (0, .ref 294), (1, .int v1)]) (st' := []) rfl ?_
    obtain ⟨x8, w8, h⟩ := bd h
    have j8 : Ev (d + 1) 232 53 [(2, .int x8)] [] (uS L p1.2) o := by
      clear w8
      refine Ev.seg D_232 [(.iload_n 2, 1)] (by decide +kernel) (j := 0) (pc' := 54) (lv' := [(2, .int x8)]) (st' := [.int x8]) rfl ?_
      cases h
      obtain rfl : o = _ := ho
      exact Ev.iret D_232 (by decide +kernel)
    exact Ev.sub (lv' := [(0, .ref 294), (1, .int v1), (2, .int (-1 : Int32)), (3, .int (0 : Int32))]) (subL_cons rfl (subL_cons rfl (subL_cons rfl (subL_cons rfl subL_nil)))) (gM_lags_h15_w hd   _ _ _ w8 _ j8)
  · have c2 : p1.1 = 0 := Decidable.of_not_not (of_decide_eq_false c2)
    rw [if_pos c2] at h
    refine Ev.seg D_232 [(.bipush (-2), 2)] (by decide +kernel) (j := 0) (pc' := 10) (lv' := [(0, .ref 294), (1, .int v1)]) (st' := [.int (-2 : Int32)]) rfl ?_
    cases h
    obtain rfl : o = _ := ho
    exact Ev.iret D_232 (by decide +kernel)
/- PennantLawnModel asksBoat: 234 -/
def gM_asksBoat (v1 : Int32) (s : mT) : Option (Int32 × mT) :=
  (gM_asksRace s).bind fun p1 =>
  (
    if p1.1 = 0 then
      some ((0 : Int32))
    else
      (gM_isBoat v1.toInt64 p1.2).bind fun p3 =>
      if p3 = 0 then
        some ((0 : Int32))
      else
        some ((1 : Int32)) : Option (Int32)).bind fun x2 =>
  if x2 = 0 ∨ x2 = 1 then some ((x2, p1.2)) else none
set_option maxRecDepth 8000 in
theorem gM_asksBoat_ok {L d : Nat} (hd : 6 ≤ d) {v1 : Int32} {s : mT} {p : Int32 × mT} (h : gM_asksBoat v1 s = some p) : Ev d 234 0 [(0, .ref 294), (1, .int v1)] [] (uS L s) (some (.int p.1), uS L p.2) := by
  obtain ⟨d, rfl⟩ : ∃ e, d = e + 1 := ⟨d - 1, by omega⟩
  obtain ⟨o, ho⟩ : ∃ o : Option Value × mS, o = (some (.int p.1), uS L p.2) := ⟨_, rfl⟩
  rw [← ho]
  unfold gM_asksBoat at h
  refine Ev.seg D_234 [(.aload_n 0, 1)] (by decide +kernel) (j := 0) (pc' := 1) (lv' := [(0, .ref 294), (1, .int v1)]) (st' := [.ref 294]) rfl ?_
  obtain ⟨p1, e1, h⟩ := bd h
  refine Ev.callv D_234 E_211 (by decide +kernel) C_10_269 294 [] (r := []) rfl (gd_o k_294 (by decide)) rfl (Nat.le_of_ble_eq_true rfl) (Nat.le_of_ble_eq_true rfl) (gM_asksRace_ok (by omega)  e1) ?_
  obtain ⟨x2, g2, h⟩ := bd h
  have j2 : Ev (d + 1) 234 21 [] [.int x2] (uS L p1.2) o := by
    clear g2
    by_cases c5 : x2 = 0 ∨ x2 = 1
    · rw [if_pos c5] at h
      cases h
      obtain rfl : o = _ := ho
      exact Ev.zret D_234 c5 (by decide +kernel)
    · rw [if_neg c5] at h; cases h
  clear h
  refine Ev.if_ D_234 (c := .eq) (off := 16) (by decide +kernel) (t := 20) rfl (fun c2 => ?_) (fun c2 => ?_)
  · have c2 : p1.1 = 0 := of_decide_eq_true c2
    rw [if_pos c2] at g2
    refine Ev.seg D_234 [(.iconst 0, 1)] (by decide +kernel) (j := 0) (pc' := 21) (lv' := [(0, .ref 294), (1, .int v1)]) (st' := [.int (0 : Int32)]) rfl ?_
    cases g2
    exact Ev.sub2 j2 subL_nil
  · have c2 : ¬ p1.1 = 0 := of_decide_eq_false c2
    rw [if_neg c2] at g2
    refine Ev.seg D_234 [(.aload_n 0, 1), (.iload_n 1, 1), (.i2l, 1)] (by decide +kernel) (j := 0) (pc' := 10) (lv' := [(0, .ref 294), (1, .int v1)]) (st' := [.long v1.toInt64, .ref 294]) rfl ?_
    obtain ⟨p3, e3, g2⟩ := bd g2
    refine Ev.callv D_234 E_204 (by decide +kernel) C_10_220 294 [.long v1.toInt64] (r := []) rfl (gd_o k_294 (by decide)) rfl (Nat.le_of_ble_eq_true rfl) (Nat.le_of_ble_eq_true rfl) (gM_isBoat_ok (by omega)  e3) ?_
    refine Ev.if_ D_234 (c := .eq) (off := 7) (by decide +kernel) (t := 20) rfl (fun c4 => ?_) (fun c4 => ?_)
    · have c4 : p3 = 0 := of_decide_eq_true c4
      rw [if_pos c4] at g2
      refine Ev.seg D_234 [(.iconst 0, 1)] (by decide +kernel) (j := 0) (pc' := 21) (lv' := [(0, .ref 294), (1, .int v1)]) (st' := [.int (0 : Int32)]) rfl ?_
      cases g2
      exact Ev.sub2 j2 subL_nil
    · have c4 : ¬ p3 = 0 := of_decide_eq_false c4
      rw [if_neg c4] at g2
      refine Ev.seg D_234 [(.iconst 1, 1), (.goto 4, 3)] (by decide +kernel) (j := 0) (pc' := 21) (lv' := [(0, .ref 294), (1, .int v1)]) (st' := [.int (1 : Int32)]) rfl ?_
      cases g2
      exact Ev.sub2 j2 subL_nil
/- PennantLawnModel front: 233 -/
def gM_front_h15 (v1 : Int32) (s : mT) (q : Int32 × Int32) : Option ((Int32 × Int32) ⊕ (Int32)) :=
  (gM_last s).bind fun p1 =>
  if p1 < q.2 then
    some (.inr q.1)
  else
    (gM_leadsOf q.2 s).bind fun p3 =>
    (
      if p3 = v1 then
        some ((1 : Int32))
      else
        some ((0 : Int32)) : Option (Int32)).bind fun x4 =>
    some (.inl (q.1 + x4, q.2 + (1 : Int32)))
set_option maxRecDepth 8000 in
theorem gM_front_h15_ok {L d : Nat} (hd : 7 ≤ d + 1) {v1 : Int32} {s : mT} : ∀ (q : Int32 × Int32) (x : (Int32 × Int32) ⊕ (Int32)), gM_front_h15 v1 s q = some x → ∀ o, sK (fun q => Ev (d + 1) 233 15 [(0, .ref 294), (1, .int v1), (2, .int q.1), (3, .int q.2)] [] (uS L s) o) (fun r => Ev (d + 1) 233 46 [(2, .int r)] [] (uS L s) o) x → Ev (d + 1) 233 15 [(0, .ref 294), (1, .int v1), (2, .int q.1), (3, .int q.2)] [] (uS L s) o := by
  intro q x h o ho
  unfold gM_front_h15 at h
  refine Ev.seg D_233 [(.iload_n 3, 1), (.aload_n 0, 1)] (by decide +kernel) (j := 0) (pc' := 17) (lv' := [(0, .ref 294), (1, .int v1), (2, .int q.1), (3, .int q.2)]) (st' := [.ref 294, .int q.2]) rfl ?_
  obtain ⟨p1, e1, h⟩ := bd h
  refine Ev.callv D_233 E_216 (by decide +kernel) C_10_96 294 [] (r := [.int q.2]) rfl (gd_o k_294 (by decide)) rfl (Nat.le_of_ble_eq_true rfl) (Nat.le_of_ble_eq_true rfl) (gM_last_ok (by omega)  e1) ?_
  refine Ev.icmp D_233 (c := .gt) (off := 26) (by decide +kernel) (t := 46) rfl (fun c2 => ?_) (fun c2 => ?_)
  · have c2 : p1 < q.2 := of_decide_eq_true c2
    rw [if_pos c2] at h
    cases h
    exact Ev.sub (lv' := [(2, .int q.1)]) (subL_cons rfl subL_nil) ho
  · have c2 : ¬ p1 < q.2 := of_decide_eq_false c2
    rw [if_neg c2] at h
    refine Ev.seg D_233 [(.iload_n 2, 1), (.aload_n 0, 1), (.iload_n 3, 1)] (by decide +kernel) (j := 0) (pc' := 26) (lv' := [(0, .ref 294), (1, .int v1), (2, .int q.1), (3, .int q.2)]) (st' := [.int q.2, .ref 294, .int q.1]) rfl ?_
    obtain ⟨p3, e3, h⟩ := bd h
    refine Ev.callv D_233 E_231 (by decide +kernel) C_10_287 294 [.int q.2] (r := [.int q.1]) rfl (gd_o k_294 (by decide)) rfl (Nat.le_of_ble_eq_true rfl) (Nat.le_of_ble_eq_true rfl) (gM_leadsOf_ok (by omega)  e3) ?_
    refine Ev.seg D_233 [(.iload_n 1, 1)] (by decide +kernel) (j := 0) (pc' := 30) (lv' := [(0, .ref 294), (1, .int v1), (2, .int q.1), (3, .int q.2)]) (st' := [.int v1, .int p3, .int q.1]) rfl ?_
    obtain ⟨x4, g4, h⟩ := bd h
    have j4 : Ev (d + 1) 233 38 [(0, .ref 294), (1, .int v1), (3, .int q.2)] [.int x4, .int q.1] (uS L s) o := by
      clear g4
      refine Ev.seg D_233 [(.iadd, 1), (.istore_n 2, 1), (.iinc 3 1, 3), (.goto (-28), 3)] (by decide +kernel) (j := 0) (pc' := 15) (lv' := [(3, .int (q.2 + (1 : Int32))), (2, .int (q.1 + x4)), (0, .ref 294), (1, .int v1)]) (st' := []) rfl ?_
      cases h
      exact Ev.sub (lv' := [(0, .ref 294), (1, .int v1), (2, .int (q.1 + x4)), (3, .int (q.2 + (1 : Int32)))]) (subL_cons rfl (subL_cons rfl (subL_cons rfl (subL_cons rfl subL_nil)))) ho
    clear h
    refine Ev.icmp D_233 (c := .ne) (off := 7) (by decide +kernel) (t := 37) rfl (fun c4 => ?_) (fun c4 => ?_)
    · have c4 : ¬ p3 = v1 := of_decide_eq_true c4
      rw [if_neg c4] at g4
      refine Ev.seg D_233 [(.iconst 0, 1)] (by decide +kernel) (j := 0) (pc' := 38) (lv' := [(0, .ref 294), (1, .int v1), (2, .int q.1), (3, .int q.2)]) (st' := [.int (0 : Int32), .int q.1]) rfl ?_
      cases g4
      exact Ev.sub2 j4 (subL_cons rfl (subL_cons rfl (subL_cons rfl subL_nil)))
    · have c4 : p3 = v1 := Decidable.of_not_not (of_decide_eq_false c4)
      rw [if_pos c4] at g4
      refine Ev.seg D_233 [(.iconst 1, 1), (.goto 4, 3)] (by decide +kernel) (j := 0) (pc' := 38) (lv' := [(0, .ref 294), (1, .int v1), (2, .int q.1), (3, .int q.2)]) (st' := [.int (1 : Int32), .int q.1]) rfl ?_
      cases g4
      exact Ev.sub2 j4 (subL_cons rfl (subL_cons rfl (subL_cons rfl subL_nil)))
theorem gM_front_h15_w {L d : Nat} (hd : 7 ≤ d + 1) {v1 : Int32} {s : mT} : ∀ (n : Nat) (q : Int32 × Int32) (r : Int32), wh n (gM_front_h15 v1 s) q = some r → ∀ o, (fun r => Ev (d + 1) 233 46 [(2, .int r)] [] (uS L s) o) r → Ev (d + 1) 233 15 [(0, .ref 294), (1, .int v1), (2, .int q.1), (3, .int q.2)] [] (uS L s) o :=
  fun n q r h o hc => wh_ev (E := fun (q : Int32 × Int32) o => Ev (d + 1) 233 15 [(0, .ref 294), (1, .int v1), (2, .int q.1), (3, .int q.2)] [] (uS L s) o) (C := fun (r : Int32) o => (fun r => Ev (d + 1) 233 46 [(2, .int r)] [] (uS L s) o) r) (gM_front_h15_ok hd  ) n q r h o hc
def gM_front (v1 : Int32) (s : mT) : Option (Int32 × mT) :=
  (gM_asksBoat v1 s).bind fun p1 =>
  if p1.1 = 0 then
    some (((-2 : Int32), p1.2))
  else
    (wh FU (gM_front_h15 v1 p1.2) ((0 : Int32), (0 : Int32))).bind fun x5 =>
    some ((x5, p1.2))
set_option maxRecDepth 8000 in
theorem gM_front_ok {L d : Nat} (hd : 7 ≤ d) {v1 : Int32} {s : mT} {p : Int32 × mT} (h : gM_front v1 s = some p) : Ev d 233 0 [(0, .ref 294), (1, .int v1)] [] (uS L s) (some (.int p.1), uS L p.2) := by
  obtain ⟨d, rfl⟩ : ∃ e, d = e + 1 := ⟨d - 1, by omega⟩
  obtain ⟨o, ho⟩ : ∃ o : Option Value × mS, o = (some (.int p.1), uS L p.2) := ⟨_, rfl⟩
  rw [← ho]
  unfold gM_front at h
  refine Ev.seg D_233 [(.aload_n 0, 1), (.iload_n 1, 1)] (by decide +kernel) (j := 0) (pc' := 2) (lv' := [(0, .ref 294), (1, .int v1)]) (st' := [.int v1, .ref 294]) rfl ?_
  obtain ⟨p1, e1, h⟩ := bd h
  refine Ev.callv D_233 E_234 (by decide +kernel) C_10_290 294 [.int v1] (r := []) rfl (gd_o k_294 (by decide)) rfl (Nat.le_of_ble_eq_true rfl) (Nat.le_of_ble_eq_true rfl) (gM_asksBoat_ok (by omega)  e1) ?_
  refine Ev.if_ D_233 (c := .ne) (off := 6) (by decide +kernel) (t := 11) rfl (fun c2 => ?_) (fun c2 => ?_)
  · have c2 : ¬ p1.1 = 0 := of_decide_eq_true c2
    rw [if_neg c2] at h
    refine Ev.seg D_233 [(.iconst 0, 1), (.istore_n 2, 1), (.iconst 0, 1), (.istore_n 3, 1)] (by decide +kernel) (j := 0) (pc' := 15) (lv' := [(3, .int (0 : Int32)), (2, .int (0 : Int32)), (0, .ref 294), (1, .int v1)]) (st' := []) rfl ?_
    obtain ⟨x5, w5, h⟩ := bd h
    have j5 : Ev (d + 1) 233 46 [(2, .int x5)] [] (uS L p1.2) o := by
      clear w5
      refine Ev.seg D_233 [(.iload_n 2, 1)] (by decide +kernel) (j := 0) (pc' := 47) (lv' := [(2, .int x5)]) (st' := [.int x5]) rfl ?_
      cases h
      obtain rfl : o = _ := ho
      exact Ev.iret D_233 (by decide +kernel)
    exact Ev.sub (lv' := [(0, .ref 294), (1, .int v1), (2, .int (0 : Int32)), (3, .int (0 : Int32))]) (subL_cons rfl (subL_cons rfl (subL_cons rfl (subL_cons rfl subL_nil)))) (gM_front_h15_w hd   _ _ _ w5 _ j5)
  · have c2 : p1.1 = 0 := Decidable.of_not_not (of_decide_eq_false c2)
    rw [if_pos c2] at h
    refine Ev.seg D_233 [(.bipush (-2), 2)] (by decide +kernel) (j := 0) (pc' := 10) (lv' := [(0, .ref 294), (1, .int v1)]) (st' := [.int (-2 : Int32)]) rfl ?_
    cases h
    obtain rfl : o = _ := ho
    exact Ev.iret D_233 (by decide +kernel)
/- PennantLawnModel behind: 235 -/
def gM_behind_h25 (v1 : Int32) (v2 : Int32) (s : mT) (q : Int32 × Int32) : Option ((Int32 × Int32) ⊕ (Int32)) :=
  (rdI (s.1 295) 79 (4 : Int32)).bind fun x2 =>
  if x2 ≤ q.2 then
    some (.inr q.1)
  else
    (gM_placeOf q.2 v2 s).bind fun p4 =>
    (gM_placeOf v1 v2 s).bind fun p5 =>
    (
      if p4 ≤ p5 then
        some ((0 : Int32))
      else
        some ((1 : Int32)) : Option (Int32)).bind fun x6 =>
    some (.inl (q.1 + x6, q.2 + (1 : Int32)))
set_option maxRecDepth 8000 in
theorem gM_behind_h25_ok {L d : Nat} (hd : 7 ≤ d + 1) {v1 : Int32} {v2 : Int32} {s : mT} : ∀ (q : Int32 × Int32) (x : (Int32 × Int32) ⊕ (Int32)), gM_behind_h25 v1 v2 s q = some x → ∀ o, sK (fun q => Ev (d + 1) 235 25 [(0, .ref 294), (1, .int v1), (2, .int v2), (3, .int q.1), (4, .int q.2)] [] (uS L s) o) (fun r => Ev (d + 1) 235 66 [(3, .int r)] [] (uS L s) o) x → Ev (d + 1) 235 25 [(0, .ref 294), (1, .int v1), (2, .int v2), (3, .int q.1), (4, .int q.2)] [] (uS L s) o := by
  intro q x h o ho
  unfold gM_behind_h25 at h
  refine Ev.seg D_235 [(.iload 4, 2), (.aload_n 0, 1)] (by decide +kernel) (j := 0) (pc' := 28) (lv' := [(0, .ref 294), (1, .int v1), (2, .int v2), (3, .int q.1), (4, .int q.2)]) (st' := [.ref 294, .int q.2]) rfl ?_
  refine Ev.getR D_235 (by decide +kernel) F_10_9 T_10_1 (x := 295) (S_oR k_294 (by decide +kernel)) ?_
  refine Ev.seg D_235 [(.iconst 4, 1)] (by decide +kernel) (j := 0) (pc' := 32) (lv' := [(0, .ref 294), (1, .int v1), (2, .int v2), (3, .int q.1), (4, .int q.2)]) (st' := [.int (4 : Int32), .ref 295, .int q.2]) rfl ?_
  obtain ⟨x2, e2, h⟩ := bd h
  refine Ev.iald D_235 (by decide +kernel) (S_aI k_295 e2) ?_
  refine Ev.icmp D_235 (c := .ge) (off := 33) (by decide +kernel) (t := 66) rfl (fun c3 => ?_) (fun c3 => ?_)
  · have c3 : x2 ≤ q.2 := of_decide_eq_true c3
    rw [if_pos c3] at h
    cases h
    exact Ev.sub (lv' := [(3, .int q.1)]) (subL_cons rfl subL_nil) ho
  · have c3 : ¬ x2 ≤ q.2 := of_decide_eq_false c3
    rw [if_neg c3] at h
    refine Ev.seg D_235 [(.iload_n 3, 1), (.aload_n 0, 1), (.iload 4, 2), (.iload_n 2, 1)] (by decide +kernel) (j := 0) (pc' := 41) (lv' := [(0, .ref 294), (1, .int v1), (2, .int v2), (3, .int q.1), (4, .int q.2)]) (st' := [.int v2, .int q.2, .ref 294, .int q.1]) rfl ?_
    obtain ⟨p4, e4, h⟩ := bd h
    refine Ev.callv D_235 E_220 (by decide +kernel) C_10_240 294 [.int q.2, .int v2] (r := [.int q.1]) rfl (gd_o k_294 (by decide)) rfl (Nat.le_of_ble_eq_true rfl) (Nat.le_of_ble_eq_true rfl) (gM_placeOf_ok (by omega)  e4) ?_
    refine Ev.seg D_235 [(.aload_n 0, 1), (.iload_n 1, 1), (.iload_n 2, 1)] (by decide +kernel) (j := 0) (pc' := 47) (lv' := [(0, .ref 294), (1, .int v1), (2, .int v2), (3, .int q.1), (4, .int q.2)]) (st' := [.int v2, .int v1, .ref 294, .int p4, .int q.1]) rfl ?_
    obtain ⟨p5, e5, h⟩ := bd h
    refine Ev.callv D_235 E_220 (by decide +kernel) C_10_240 294 [.int v1, .int v2] (r := [.int p4, .int q.1]) rfl (gd_o k_294 (by decide)) rfl (Nat.le_of_ble_eq_true rfl) (Nat.le_of_ble_eq_true rfl) (gM_placeOf_ok (by omega)  e5) ?_
    obtain ⟨x6, g6, h⟩ := bd h
    have j6 : Ev (d + 1) 235 58 [(0, .ref 294), (1, .int v1), (2, .int v2), (4, .int q.2)] [.int x6, .int q.1] (uS L s) o := by
      clear g6
      refine Ev.seg D_235 [(.iadd, 1), (.istore_n 3, 1), (.iinc 4 1, 3), (.goto (-38), 3)] (by decide +kernel) (j := 0) (pc' := 25) (lv' := [(4, .int (q.2 + (1 : Int32))), (3, .int (q.1 + x6)), (0, .ref 294), (1, .int v1), (2, .int v2)]) (st' := []) rfl ?_
      cases h
      exact Ev.sub (lv' := [(0, .ref 294), (1, .int v1), (2, .int v2), (3, .int (q.1 + x6)), (4, .int (q.2 + (1 : Int32)))]) (subL_cons rfl (subL_cons rfl (subL_cons rfl (subL_cons rfl (subL_cons rfl subL_nil))))) ho
    clear h
    refine Ev.icmp D_235 (c := .le) (off := 7) (by decide +kernel) (t := 57) rfl (fun c6 => ?_) (fun c6 => ?_)
    · have c6 : p4 ≤ p5 := of_decide_eq_true c6
      rw [if_pos c6] at g6
      refine Ev.seg D_235 [(.iconst 0, 1)] (by decide +kernel) (j := 0) (pc' := 58) (lv' := [(0, .ref 294), (1, .int v1), (2, .int v2), (3, .int q.1), (4, .int q.2)]) (st' := [.int (0 : Int32), .int q.1]) rfl ?_
      cases g6
      exact Ev.sub2 j6 (subL_cons rfl (subL_cons rfl (subL_cons rfl (subL_cons rfl subL_nil))))
    · have c6 : ¬ p4 ≤ p5 := of_decide_eq_false c6
      rw [if_neg c6] at g6
      refine Ev.seg D_235 [(.iconst 1, 1), (.goto 4, 3)] (by decide +kernel) (j := 0) (pc' := 58) (lv' := [(0, .ref 294), (1, .int v1), (2, .int v2), (3, .int q.1), (4, .int q.2)]) (st' := [.int (1 : Int32), .int q.1]) rfl ?_
      cases g6
      exact Ev.sub2 j6 (subL_cons rfl (subL_cons rfl (subL_cons rfl (subL_cons rfl subL_nil))))
theorem gM_behind_h25_w {L d : Nat} (hd : 7 ≤ d + 1) {v1 : Int32} {v2 : Int32} {s : mT} : ∀ (n : Nat) (q : Int32 × Int32) (r : Int32), wh n (gM_behind_h25 v1 v2 s) q = some r → ∀ o, (fun r => Ev (d + 1) 235 66 [(3, .int r)] [] (uS L s) o) r → Ev (d + 1) 235 25 [(0, .ref 294), (1, .int v1), (2, .int v2), (3, .int q.1), (4, .int q.2)] [] (uS L s) o :=
  fun n q r h o hc => wh_ev (E := fun (q : Int32 × Int32) o => Ev (d + 1) 235 25 [(0, .ref 294), (1, .int v1), (2, .int v2), (3, .int q.1), (4, .int q.2)] [] (uS L s) o) (C := fun (r : Int32) o => (fun r => Ev (d + 1) 235 66 [(3, .int r)] [] (uS L s) o) r) (gM_behind_h25_ok hd  ) n q r h o hc
def gM_behind (v1 : Int32) (v2 : Int32) (s : mT) : Option (Int32 × mT) :=
  (gM_asksStep v2 s).bind fun p1 =>
  if p1.1 = 0 then
    some (((-2 : Int32), p1.2))
  else
    (gM_isBoat v1.toInt64 p1.2).bind fun p4 =>
    if p4 = 0 then
      some (((-2 : Int32), p1.2))
    else
      (wh FU (gM_behind_h25 v1 v2 p1.2) ((0 : Int32), (0 : Int32))).bind fun x7 =>
      some ((x7, p1.2))
set_option maxRecDepth 8000 in
theorem gM_behind_ok {L d : Nat} (hd : 7 ≤ d) {v1 : Int32} {v2 : Int32} {s : mT} {p : Int32 × mT} (h : gM_behind v1 v2 s = some p) : Ev d 235 0 [(0, .ref 294), (1, .int v1), (2, .int v2)] [] (uS L s) (some (.int p.1), uS L p.2) := by
  obtain ⟨d, rfl⟩ : ∃ e, d = e + 1 := ⟨d - 1, by omega⟩
  obtain ⟨o, ho⟩ : ∃ o : Option Value × mS, o = (some (.int p.1), uS L p.2) := ⟨_, rfl⟩
  rw [← ho]
  unfold gM_behind at h
  refine Ev.seg D_235 [(.aload_n 0, 1), (.iload_n 2, 1)] (by decide +kernel) (j := 0) (pc' := 2) (lv' := [(0, .ref 294), (1, .int v1), (2, .int v2)]) (st' := [.int v2, .ref 294]) rfl ?_
  obtain ⟨p1, e1, h⟩ := bd h
  refine Ev.callv D_235 E_210 (by decide +kernel) C_10_278 294 [.int v2] (r := []) rfl (gd_o k_294 (by decide)) rfl (Nat.le_of_ble_eq_true rfl) (Nat.le_of_ble_eq_true rfl) (gM_asksStep_ok (by omega)  e1) ?_
  refine Ev.if_ D_235 (c := .eq) (off := 12) (by decide +kernel) (t := 17) rfl (fun c2 => ?_) (fun c2 => ?_)
  · have c2 : p1.1 = 0 := of_decide_eq_true c2
    rw [if_pos c2] at h
    refine Ev.seg D_235 [(.bipush (-2), 2)] (by decide +kernel) (j := 0) (pc' := 19) (lv' := [(0, .ref 294), (1, .int v1), (2, .int v2)]) (st' := [.int (-2 : Int32)]) rfl ?_
    cases h
    obtain rfl : o = _ := ho
    exact Ev.iret D_235 (by decide +kernel)
  · have c2 : ¬ p1.1 = 0 := of_decide_eq_false c2
    rw [if_neg c2] at h
    refine Ev.seg D_235 [(.aload_n 0, 1), (.iload_n 1, 1), (.i2l, 1)] (by decide +kernel) (j := 0) (pc' := 11) (lv' := [(0, .ref 294), (1, .int v1), (2, .int v2)]) (st' := [.long v1.toInt64, .ref 294]) rfl ?_
    obtain ⟨p4, e4, h⟩ := bd h
    refine Ev.callv D_235 E_204 (by decide +kernel) C_10_220 294 [.long v1.toInt64] (r := []) rfl (gd_o k_294 (by decide)) rfl (Nat.le_of_ble_eq_true rfl) (Nat.le_of_ble_eq_true rfl) (gM_isBoat_ok (by omega)  e4) ?_
    refine Ev.if_ D_235 (c := .ne) (off := 6) (by decide +kernel) (t := 20) rfl (fun c5 => ?_) (fun c5 => ?_)
    · have c5 : ¬ p4 = 0 := of_decide_eq_true c5
      rw [if_neg c5] at h
      refine Ev.seg D_235 [(.iconst 0, 1), (.istore_n 3, 1), (.iconst 0, 1), (.istore 4, 2)] (by decide +kernel) (j := 0) (pc' := 25) (lv' := [(4, .int (0 : Int32)), (3, .int (0 : Int32)), (0, .ref 294), (1, .int v1), (2, .int v2)]) (st' := []) rfl ?_
      obtain ⟨x7, w7, h⟩ := bd h
      have j7 : Ev (d + 1) 235 66 [(3, .int x7)] [] (uS L p1.2) o := by
        clear w7
        refine Ev.seg D_235 [(.iload_n 3, 1)] (by decide +kernel) (j := 0) (pc' := 67) (lv' := [(3, .int x7)]) (st' := [.int x7]) rfl ?_
        cases h
        obtain rfl : o = _ := ho
        exact Ev.iret D_235 (by decide +kernel)
      exact Ev.sub (lv' := [(0, .ref 294), (1, .int v1), (2, .int v2), (3, .int (0 : Int32)), (4, .int (0 : Int32))]) (subL_cons rfl (subL_cons rfl (subL_cons rfl (subL_cons rfl (subL_cons rfl subL_nil))))) (gM_behind_h25_w hd   _ _ _ w7 _ j7)
    · have c5 : p4 = 0 := Decidable.of_not_not (of_decide_eq_false c5)
      rw [if_pos c5] at h
      refine Ev.seg D_235 [(.bipush (-2), 2)] (by decide +kernel) (j := 0) (pc' := 19) (lv' := [(0, .ref 294), (1, .int v1), (2, .int v2)]) (st' := [.int (-2 : Int32)]) rfl ?_
      cases h
      obtain rfl : o = _ := ho
      exact Ev.iret D_235 (by decide +kernel)
/- PennantLawnModel calmOf: 237 -/
def gM_calmOf_h4 (v1 : Int32) (s : mT) (q : Int32 × Int32) : Option ((Int32 × Int32) ⊕ (Int32)) :=
  (gM_last s).bind fun p1 =>
  if p1 ≤ q.2 then
    some (.inr q.1)
  else
    (rdI (s.1 307) 105 (((5 : Int32) * q.2) + v1)).bind fun x4 =>
    (rdI (s.1 302) 5 v1).bind fun x6 =>
    (
      if x6 ≤ x4 then
        some ((0 : Int32))
      else
        (gM_placeOf v1 q.2 s).bind fun p8 =>
        (rdI (s.1 295) 79 (2 : Int32)).bind fun x10 =>
        if x10 ≤ p8 then
          some ((0 : Int32))
        else
          some ((1 : Int32) <<< (q.2 &&& 31)) : Option (Int32)).bind fun x7 =>
    some (.inl (q.1 ||| x7, q.2 + (1 : Int32)))
set_option maxRecDepth 8000 in
theorem gM_calmOf_h4_ok {L d : Nat} (hd : 2 ≤ d + 1) {v1 : Int32} {s : mT} : ∀ (q : Int32 × Int32) (x : (Int32 × Int32) ⊕ (Int32)), gM_calmOf_h4 v1 s q = some x → ∀ o, sK (fun q => Ev (d + 1) 237 4 [(0, .ref 294), (1, .int v1), (2, .int q.1), (3, .int q.2)] [] (uS L s) o) (fun r => Ev (d + 1) 237 62 [(2, .int r)] [] (uS L s) o) x → Ev (d + 1) 237 4 [(0, .ref 294), (1, .int v1), (2, .int q.1), (3, .int q.2)] [] (uS L s) o := by
  intro q x h o ho
  unfold gM_calmOf_h4 at h
  refine Ev.seg D_237 [(.iload_n 3, 1), (.aload_n 0, 1)] (by decide +kernel) (j := 0) (pc' := 6) (lv' := [(0, .ref 294), (1, .int v1), (2, .int q.1), (3, .int q.2)]) (st' := [.ref 294, .int q.2]) rfl ?_
  obtain ⟨p1, e1, h⟩ := bd h
  refine Ev.callv D_237 E_216 (by decide +kernel) C_10_96 294 [] (r := [.int q.2]) rfl (gd_o k_294 (by decide)) rfl (Nat.le_of_ble_eq_true rfl) (Nat.le_of_ble_eq_true rfl) (gM_last_ok (by omega)  e1) ?_
  refine Ev.icmp D_237 (c := .ge) (off := 53) (by decide +kernel) (t := 62) rfl (fun c2 => ?_) (fun c2 => ?_)
  · have c2 : p1 ≤ q.2 := of_decide_eq_true c2
    rw [if_pos c2] at h
    cases h
    exact Ev.sub (lv' := [(2, .int q.1)]) (subL_cons rfl subL_nil) ho
  · have c2 : ¬ p1 ≤ q.2 := of_decide_eq_false c2
    rw [if_neg c2] at h
    refine Ev.seg D_237 [(.iload_n 2, 1), (.aload_n 0, 1)] (by decide +kernel) (j := 0) (pc' := 14) (lv' := [(0, .ref 294), (1, .int v1), (2, .int q.1), (3, .int q.2)]) (st' := [.ref 294, .int q.1]) rfl ?_
    refine Ev.getR D_237 (by decide +kernel) F_10_52 T_10_23 (x := 307) (S_oR k_294 (by decide +kernel)) ?_
    refine Ev.seg D_237 [(.iconst 5, 1), (.iload_n 3, 1), (.imul, 1), (.iload_n 1, 1), (.iadd, 1)] (by decide +kernel) (j := 0) (pc' := 22) (lv' := [(0, .ref 294), (1, .int v1), (2, .int q.1), (3, .int q.2)]) (st' := [.int (((5 : Int32) * q.2) + v1), .ref 307, .int q.1]) rfl ?_
    obtain ⟨x4, e4, h⟩ := bd h
    refine Ev.iald D_237 (by decide +kernel) (S_aI k_307 e4) ?_
    refine Ev.seg D_237 [(.aload_n 0, 1)] (by decide +kernel) (j := 0) (pc' := 24) (lv' := [(0, .ref 294), (1, .int v1), (2, .int q.1), (3, .int q.2)]) (st' := [.ref 294, .int x4, .int q.1]) rfl ?_
    refine Ev.getR D_237 (by decide +kernel) F_10_37 T_10_16 (x := 302) (S_oR k_294 (by decide +kernel)) ?_
    refine Ev.seg D_237 [(.iload_n 1, 1)] (by decide +kernel) (j := 0) (pc' := 28) (lv' := [(0, .ref 294), (1, .int v1), (2, .int q.1), (3, .int q.2)]) (st' := [.int v1, .ref 302, .int x4, .int q.1]) rfl ?_
    obtain ⟨x6, e6, h⟩ := bd h
    refine Ev.iald D_237 (by decide +kernel) (S_aI k_302 e6) ?_
    obtain ⟨x7, g7, h⟩ := bd h
    have j7 : Ev (d + 1) 237 54 [(0, .ref 294), (1, .int v1), (3, .int q.2)] [.int x7, .int q.1] (uS L s) o := by
      clear g7
      refine Ev.seg D_237 [(.ior, 1), (.istore_n 2, 1), (.iinc 3 1, 3), (.goto (-55), 3)] (by decide +kernel) (j := 0) (pc' := 4) (lv' := [(3, .int (q.2 + (1 : Int32))), (2, .int (q.1 ||| x7)), (0, .ref 294), (1, .int v1)]) (st' := []) rfl ?_
      cases h
      exact Ev.sub (lv' := [(0, .ref 294), (1, .int v1), (2, .int (q.1 ||| x7)), (3, .int (q.2 + (1 : Int32)))]) (subL_cons rfl (subL_cons rfl (subL_cons rfl (subL_cons rfl subL_nil)))) ho
    clear h
    refine Ev.icmp D_237 (c := .ge) (off := 24) (by decide +kernel) (t := 53) rfl (fun c7 => ?_) (fun c7 => ?_)
    · have c7 : x6 ≤ x4 := of_decide_eq_true c7
      rw [if_pos c7] at g7
      refine Ev.seg D_237 [(.iconst 0, 1)] (by decide +kernel) (j := 0) (pc' := 54) (lv' := [(0, .ref 294), (1, .int v1), (2, .int q.1), (3, .int q.2)]) (st' := [.int (0 : Int32), .int q.1]) rfl ?_
      cases g7
      exact Ev.sub2 j7 (subL_cons rfl (subL_cons rfl (subL_cons rfl subL_nil)))
    · have c7 : ¬ x6 ≤ x4 := of_decide_eq_false c7
      rw [if_neg c7] at g7
      refine Ev.seg D_237 [(.aload_n 0, 1), (.iload_n 1, 1), (.iload_n 3, 1)] (by decide +kernel) (j := 0) (pc' := 35) (lv' := [(0, .ref 294), (1, .int v1), (2, .int q.1), (3, .int q.2)]) (st' := [.int q.2, .int v1, .ref 294, .int q.1]) rfl ?_
      obtain ⟨p8, e8, g7⟩ := bd g7
      refine Ev.callv D_237 E_220 (by decide +kernel) C_10_240 294 [.int v1, .int q.2] (r := [.int q.1]) rfl (gd_o k_294 (by decide)) rfl (Nat.le_of_ble_eq_true rfl) (Nat.le_of_ble_eq_true rfl) (gM_placeOf_ok (by omega)  e8) ?_
      refine Ev.seg D_237 [(.aload_n 0, 1)] (by decide +kernel) (j := 0) (pc' := 39) (lv' := [(0, .ref 294), (1, .int v1), (2, .int q.1), (3, .int q.2)]) (st' := [.ref 294, .int p8, .int q.1]) rfl ?_
      refine Ev.getR D_237 (by decide +kernel) F_10_9 T_10_1 (x := 295) (S_oR k_294 (by decide +kernel)) ?_
      refine Ev.seg D_237 [(.iconst 2, 1)] (by decide +kernel) (j := 0) (pc' := 43) (lv' := [(0, .ref 294), (1, .int v1), (2, .int q.1), (3, .int q.2)]) (st' := [.int (2 : Int32), .ref 295, .int p8, .int q.1]) rfl ?_
      obtain ⟨x10, e10, g7⟩ := bd g7
      refine Ev.iald D_237 (by decide +kernel) (S_aI k_295 e10) ?_
      refine Ev.icmp D_237 (c := .ge) (off := 9) (by decide +kernel) (t := 53) rfl (fun c11 => ?_) (fun c11 => ?_)
      · have c11 : x10 ≤ p8 := of_decide_eq_true c11
        rw [if_pos c11] at g7
        refine Ev.seg D_237 [(.iconst 0, 1)] (by decide +kernel) (j := 0) (pc' := 54) (lv' := [(0, .ref 294), (1, .int v1), (2, .int q.1), (3, .int q.2)]) (st' := [.int (0 : Int32), .int q.1]) rfl ?_
        cases g7
        exact Ev.sub2 j7 (subL_cons rfl (subL_cons rfl (subL_cons rfl subL_nil)))
      · have c11 : ¬ x10 ≤ p8 := of_decide_eq_false c11
        rw [if_neg c11] at g7
        refine Ev.seg D_237 [(.iconst 1, 1), (.iload_n 3, 1), (.ishl, 1), (.goto 4, 3)] (by decide +kernel) (j := 0) (pc' := 54) (lv' := [(0, .ref 294), (1, .int v1), (2, .int q.1), (3, .int q.2)]) (st' := [.int ((1 : Int32) <<< (q.2 &&& 31)), .int q.1]) rfl ?_
        cases g7
        exact Ev.sub2 j7 (subL_cons rfl (subL_cons rfl (subL_cons rfl subL_nil)))
theorem gM_calmOf_h4_w {L d : Nat} (hd : 2 ≤ d + 1) {v1 : Int32} {s : mT} : ∀ (n : Nat) (q : Int32 × Int32) (r : Int32), wh n (gM_calmOf_h4 v1 s) q = some r → ∀ o, (fun r => Ev (d + 1) 237 62 [(2, .int r)] [] (uS L s) o) r → Ev (d + 1) 237 4 [(0, .ref 294), (1, .int v1), (2, .int q.1), (3, .int q.2)] [] (uS L s) o :=
  fun n q r h o hc => wh_ev (E := fun (q : Int32 × Int32) o => Ev (d + 1) 237 4 [(0, .ref 294), (1, .int v1), (2, .int q.1), (3, .int q.2)] [] (uS L s) o) (C := fun (r : Int32) o => (fun r => Ev (d + 1) 237 62 [(2, .int r)] [] (uS L s) o) r) (gM_calmOf_h4_ok hd  ) n q r h o hc
def gM_calmOf (v1 : Int32) (s : mT) : Option (Int32) :=
  (wh FU (gM_calmOf_h4 v1 s) ((0 : Int32), (0 : Int32))).bind fun x12 =>
  some (x12)
set_option maxRecDepth 8000 in
theorem gM_calmOf_ok {L d : Nat} (hd : 2 ≤ d) {v1 : Int32} {s : mT} {p : Int32} (h : gM_calmOf v1 s = some p) : Ev d 237 0 [(0, .ref 294), (1, .int v1)] [] (uS L s) (some (.int p), uS L s) := by
  obtain ⟨d, rfl⟩ : ∃ e, d = e + 1 := ⟨d - 1, by omega⟩
  obtain ⟨o, ho⟩ : ∃ o : Option Value × mS, o = (some (.int p), uS L s) := ⟨_, rfl⟩
  rw [← ho]
  unfold gM_calmOf at h
  refine Ev.seg D_237 [(.iconst 0, 1), (.istore_n 2, 1), (.iconst 0, 1), (.istore_n 3, 1)] (by decide +kernel) (j := 0) (pc' := 4) (lv' := [(3, .int (0 : Int32)), (2, .int (0 : Int32)), (0, .ref 294), (1, .int v1)]) (st' := []) rfl ?_
  obtain ⟨x12, w12, h⟩ := bd h
  have j12 : Ev (d + 1) 237 62 [(2, .int x12)] [] (uS L s) o := by
    clear w12
    refine Ev.seg D_237 [(.iload_n 2, 1)] (by decide +kernel) (j := 0) (pc' := 63) (lv' := [(2, .int x12)]) (st' := [.int x12]) rfl ?_
    cases h
    obtain rfl : o = _ := ho
    exact Ev.iret D_237 (by decide +kernel)
  exact Ev.sub (lv' := [(0, .ref 294), (1, .int v1), (2, .int (0 : Int32)), (3, .int (0 : Int32))]) (subL_cons rfl (subL_cons rfl (subL_cons rfl (subL_cons rfl subL_nil)))) (gM_calmOf_h4_w hd   _ _ _ w12 _ j12)
/- PennantLawnModel calm: 236 -/
def gM_calm (v1 : Int32) (s : mT) : Option (Int32 × mT) :=
  (gM_asksBoat v1 s).bind fun p1 =>
  (
    if p1.1 = 0 then
      some ((-2 : Int32))
    else
      (gM_calmOf v1 p1.2).bind fun p3 =>
      some (p3) : Option (Int32)).bind fun x2 =>
  some ((x2, p1.2))
set_option maxRecDepth 8000 in
theorem gM_calm_ok {L d : Nat} (hd : 7 ≤ d) {v1 : Int32} {s : mT} {p : Int32 × mT} (h : gM_calm v1 s = some p) : Ev d 236 0 [(0, .ref 294), (1, .int v1)] [] (uS L s) (some (.int p.1), uS L p.2) := by
  obtain ⟨d, rfl⟩ : ∃ e, d = e + 1 := ⟨d - 1, by omega⟩
  obtain ⟨o, ho⟩ : ∃ o : Option Value × mS, o = (some (.int p.1), uS L p.2) := ⟨_, rfl⟩
  rw [← ho]
  unfold gM_calm at h
  refine Ev.seg D_236 [(.aload_n 0, 1), (.iload_n 1, 1)] (by decide +kernel) (j := 0) (pc' := 2) (lv' := [(0, .ref 294), (1, .int v1)]) (st' := [.int v1, .ref 294]) rfl ?_
  obtain ⟨p1, e1, h⟩ := bd h
  refine Ev.callv D_236 E_234 (by decide +kernel) C_10_290 294 [.int v1] (r := []) rfl (gd_o k_294 (by decide)) rfl (Nat.le_of_ble_eq_true rfl) (Nat.le_of_ble_eq_true rfl) (gM_asksBoat_ok (by omega)  e1) ?_
  obtain ⟨x2, g2, h⟩ := bd h
  have j2 : Ev (d + 1) 236 18 [] [.int x2] (uS L p1.2) o := by
    clear g2
    cases h
    obtain rfl : o = _ := ho
    exact Ev.iret D_236 (by decide +kernel)
  clear h
  refine Ev.if_ D_236 (c := .eq) (off := 11) (by decide +kernel) (t := 16) rfl (fun c2 => ?_) (fun c2 => ?_)
  · have c2 : p1.1 = 0 := of_decide_eq_true c2
    rw [if_pos c2] at g2
    refine Ev.seg D_236 [(.bipush (-2), 2)] (by decide +kernel) (j := 0) (pc' := 18) (lv' := [(0, .ref 294), (1, .int v1)]) (st' := [.int (-2 : Int32)]) rfl ?_
    cases g2
    exact Ev.sub2 j2 subL_nil
  · have c2 : ¬ p1.1 = 0 := of_decide_eq_false c2
    rw [if_neg c2] at g2
    refine Ev.seg D_236 [(.aload_n 0, 1), (.iload_n 1, 1)] (by decide +kernel) (j := 0) (pc' := 10) (lv' := [(0, .ref 294), (1, .int v1)]) (st' := [.int v1, .ref 294]) rfl ?_
    obtain ⟨p3, e3, g2⟩ := bd g2
    refine Ev.callv D_236 E_237 (by decide +kernel) C_10_293 294 [.int v1] (r := []) rfl (gd_o k_294 (by decide)) rfl (Nat.le_of_ble_eq_true rfl) (Nat.le_of_ble_eq_true rfl) (gM_calmOf_ok (by omega)  e3) ?_
    refine Ev.seg D_236 [(.goto 5, 3)] (by decide +kernel) (j := 0) (pc' := 18) (lv' := [(0, .ref 294), (1, .int v1)]) (st' := [.int p3]) rfl ?_
    cases g2
    exact Ev.sub2 j2 subL_nil
/- PennantLawnModel drops: 238 -/
def gM_drops_h14 (s : mT) (q : Int32 × Int32) : Option ((Int32 × Int32) ⊕ (Int32)) :=
  (rdI (s.1 295) 79 (4 : Int32)).bind fun x2 =>
  if x2 ≤ q.2 then
    some (.inr q.1)
  else
    (gM_calmOf q.2 s).bind fun p4 =>
    some (.inl (q.1 ||| p4, q.2 + (1 : Int32)))
set_option maxRecDepth 8000 in
theorem gM_drops_h14_ok {L d : Nat} (hd : 6 ≤ d + 1) {s : mT} : ∀ (q : Int32 × Int32) (x : (Int32 × Int32) ⊕ (Int32)), gM_drops_h14 s q = some x → ∀ o, sK (fun q => Ev (d + 1) 238 14 [(0, .ref 294), (1, .int q.1), (2, .int q.2)] [] (uS L s) o) (fun r => Ev (d + 1) 238 38 [(0, .ref 294), (1, .int r)] [] (uS L s) o) x → Ev (d + 1) 238 14 [(0, .ref 294), (1, .int q.1), (2, .int q.2)] [] (uS L s) o := by
  intro q x h o ho
  unfold gM_drops_h14 at h
  refine Ev.seg D_238 [(.iload_n 2, 1), (.aload_n 0, 1)] (by decide +kernel) (j := 0) (pc' := 16) (lv' := [(0, .ref 294), (1, .int q.1), (2, .int q.2)]) (st' := [.ref 294, .int q.2]) rfl ?_
  refine Ev.getR D_238 (by decide +kernel) F_10_9 T_10_1 (x := 295) (S_oR k_294 (by decide +kernel)) ?_
  refine Ev.seg D_238 [(.iconst 4, 1)] (by decide +kernel) (j := 0) (pc' := 20) (lv' := [(0, .ref 294), (1, .int q.1), (2, .int q.2)]) (st' := [.int (4 : Int32), .ref 295, .int q.2]) rfl ?_
  obtain ⟨x2, e2, h⟩ := bd h
  refine Ev.iald D_238 (by decide +kernel) (S_aI k_295 e2) ?_
  refine Ev.icmp D_238 (c := .ge) (off := 17) (by decide +kernel) (t := 38) rfl (fun c3 => ?_) (fun c3 => ?_)
  · have c3 : x2 ≤ q.2 := of_decide_eq_true c3
    rw [if_pos c3] at h
    cases h
    exact Ev.sub (lv' := [(0, .ref 294), (1, .int q.1)]) (subL_cons rfl (subL_cons rfl subL_nil)) ho
  · have c3 : ¬ x2 ≤ q.2 := of_decide_eq_false c3
    rw [if_neg c3] at h
    refine Ev.seg D_238 [(.iload_n 1, 1), (.aload_n 0, 1), (.iload_n 2, 1)] (by decide +kernel) (j := 0) (pc' := 27) (lv' := [(0, .ref 294), (1, .int q.1), (2, .int q.2)]) (st' := [.int q.2, .ref 294, .int q.1]) rfl ?_
    obtain ⟨p4, e4, h⟩ := bd h
    refine Ev.callv D_238 E_237 (by decide +kernel) C_10_293 294 [.int q.2] (r := [.int q.1]) rfl (gd_o k_294 (by decide)) rfl (Nat.le_of_ble_eq_true rfl) (Nat.le_of_ble_eq_true rfl) (gM_calmOf_ok (by omega)  e4) ?_
    refine Ev.seg D_238 [(.ior, 1), (.istore_n 1, 1), (.iinc 2 1, 3), (.goto (-21), 3)] (by decide +kernel) (j := 0) (pc' := 14) (lv' := [(2, .int (q.2 + (1 : Int32))), (1, .int (q.1 ||| p4)), (0, .ref 294)]) (st' := []) rfl ?_
    cases h
    exact Ev.sub (lv' := [(0, .ref 294), (1, .int (q.1 ||| p4)), (2, .int (q.2 + (1 : Int32)))]) (subL_cons rfl (subL_cons rfl (subL_cons rfl subL_nil))) ho
theorem gM_drops_h14_w {L d : Nat} (hd : 6 ≤ d + 1) {s : mT} : ∀ (n : Nat) (q : Int32 × Int32) (r : Int32), wh n (gM_drops_h14 s) q = some r → ∀ o, (fun r => Ev (d + 1) 238 38 [(0, .ref 294), (1, .int r)] [] (uS L s) o) r → Ev (d + 1) 238 14 [(0, .ref 294), (1, .int q.1), (2, .int q.2)] [] (uS L s) o :=
  fun n q r h o hc => wh_ev (E := fun (q : Int32 × Int32) o => Ev (d + 1) 238 14 [(0, .ref 294), (1, .int q.1), (2, .int q.2)] [] (uS L s) o) (C := fun (r : Int32) o => (fun r => Ev (d + 1) 238 38 [(0, .ref 294), (1, .int r)] [] (uS L s) o) r) (gM_drops_h14_ok hd  ) n q r h o hc
def gM_drops_h40 (v1 : Int32) (s : mT) (q : Int32) : Option ((Int32) ⊕ (Int32 × mT)) :=
  (gM_last s).bind fun p1 =>
  if p1 ≤ q then
    some (.inr (((-1 : Int32), s)))
  else
    (gM_bit v1 q s).bind fun p4 =>
    if p4 = (1 : Int32) then
      some (.inr ((q, s)))
    else
      some (.inl (q + (1 : Int32)))
set_option maxRecDepth 8000 in
theorem gM_drops_h40_ok {L d : Nat} (hd : 6 ≤ d + 1) {v1 : Int32} {s : mT} : ∀ (q : Int32) (x : (Int32) ⊕ (Int32 × mT)), gM_drops_h40 v1 s q = some x → ∀ o, sK (fun q => Ev (d + 1) 238 40 [(0, .ref 294), (1, .int v1), (2, .int q)] [] (uS L s) o) (fun r => o = (some (.int r.1), uS L r.2)) x → Ev (d + 1) 238 40 [(0, .ref 294), (1, .int v1), (2, .int q)] [] (uS L s) o := by
  intro q x h o ho
  unfold gM_drops_h40 at h
  refine Ev.seg D_238 [(.iload_n 2, 1), (.aload_n 0, 1)] (by decide +kernel) (j := 0) (pc' := 42) (lv' := [(0, .ref 294), (1, .int v1), (2, .int q)]) (st' := [.ref 294, .int q]) rfl ?_
  obtain ⟨p1, e1, h⟩ := bd h
  refine Ev.callv D_238 E_216 (by decide +kernel) C_10_96 294 [] (r := [.int q]) rfl (gd_o k_294 (by decide)) rfl (Nat.le_of_ble_eq_true rfl) (Nat.le_of_ble_eq_true rfl) (gM_last_ok (by omega)  e1) ?_
  refine Ev.icmp D_238 (c := .ge) (off := 20) (by decide +kernel) (t := 65) rfl (fun c2 => ?_) (fun c2 => ?_)
  · have c2 : p1 ≤ q := of_decide_eq_true c2
    rw [if_pos c2] at h
    refine Ev.seg D_238 [(.iconst (-1), 1)] (by decide +kernel) (j := 0) (pc' := 66) (lv' := [(0, .ref 294), (1, .int v1), (2, .int q)]) (st' := [.int (-1 : Int32)]) rfl ?_
    cases h
    obtain rfl : o = _ := ho
    exact Ev.iret D_238 (by decide +kernel)
  · have c2 : ¬ p1 ≤ q := of_decide_eq_false c2
    rw [if_neg c2] at h
    refine Ev.seg D_238 [(.iload_n 1, 1), (.iload_n 2, 1)] (by decide +kernel) (j := 0) (pc' := 50) (lv' := [(0, .ref 294), (1, .int v1), (2, .int q)]) (st' := [.int q, .int v1]) rfl ?_
    obtain ⟨p4, e4, h⟩ := bd h
    refine Ev.calls D_238 E_221 (by decide +kernel) C_10_250 [.int v1, .int q] (r := []) rfl rfl (Nat.le_of_ble_eq_true rfl) (Nat.le_of_ble_eq_true rfl) (gM_bit_ok (by omega)  e4) ?_
    refine Ev.seg D_238 [(.iconst 1, 1)] (by decide +kernel) (j := 0) (pc' := 54) (lv' := [(0, .ref 294), (1, .int v1), (2, .int q)]) (st' := [.int (1 : Int32), .int p4]) rfl ?_
    refine Ev.icmp D_238 (c := .ne) (off := 5) (by decide +kernel) (t := 59) rfl (fun c5 => ?_) (fun c5 => ?_)
    · have c5 : ¬ p4 = (1 : Int32) := of_decide_eq_true c5
      rw [if_neg c5] at h
      refine Ev.seg D_238 [(.iinc 2 1, 3), (.goto (-22), 3)] (by decide +kernel) (j := 0) (pc' := 40) (lv' := [(2, .int (q + (1 : Int32))), (0, .ref 294), (1, .int v1)]) (st' := []) rfl ?_
      cases h
      exact Ev.sub (lv' := [(0, .ref 294), (1, .int v1), (2, .int (q + (1 : Int32)))]) (subL_cons rfl (subL_cons rfl (subL_cons rfl subL_nil))) ho
    · have c5 : p4 = (1 : Int32) := Decidable.of_not_not (of_decide_eq_false c5)
      rw [if_pos c5] at h
      refine Ev.seg D_238 [(.iload_n 2, 1)] (by decide +kernel) (j := 0) (pc' := 58) (lv' := [(0, .ref 294), (1, .int v1), (2, .int q)]) (st' := [.int q]) rfl ?_
      cases h
      obtain rfl : o = _ := ho
      exact Ev.iret D_238 (by decide +kernel)
theorem gM_drops_h40_w {L d : Nat} (hd : 6 ≤ d + 1) {v1 : Int32} {s : mT} : ∀ (n : Nat) (q : Int32) (r : Int32 × mT), wh n (gM_drops_h40 v1 s) q = some r → ∀ o, (fun r => o = (some (.int r.1), uS L r.2)) r → Ev (d + 1) 238 40 [(0, .ref 294), (1, .int v1), (2, .int q)] [] (uS L s) o :=
  fun n q r h o hc => wh_ev (E := fun (q : Int32) o => Ev (d + 1) 238 40 [(0, .ref 294), (1, .int v1), (2, .int q)] [] (uS L s) o) (C := fun (r : Int32 × mT) o => (fun r => o = (some (.int r.1), uS L r.2)) r) (gM_drops_h40_ok hd  ) n q r h o hc
def gM_drops (s : mT) : Option (Int32 × mT) :=
  (gM_asksRace s).bind fun p1 =>
  if p1.1 = 0 then
    some (((-2 : Int32), p1.2))
  else
    (wh FU (gM_drops_h14 p1.2) ((0 : Int32), (0 : Int32))).bind fun x5 =>
    wh FU (gM_drops_h40 x5 p1.2) (0 : Int32)
set_option maxRecDepth 8000 in
theorem gM_drops_ok {L d : Nat} (hd : 6 ≤ d) {s : mT} {p : Int32 × mT} (h : gM_drops s = some p) : Ev d 238 0 [(0, .ref 294)] [] (uS L s) (some (.int p.1), uS L p.2) := by
  obtain ⟨d, rfl⟩ : ∃ e, d = e + 1 := ⟨d - 1, by omega⟩
  obtain ⟨o, ho⟩ : ∃ o : Option Value × mS, o = (some (.int p.1), uS L p.2) := ⟨_, rfl⟩
  rw [← ho]
  unfold gM_drops at h
  refine Ev.seg D_238 [(.aload_n 0, 1)] (by decide +kernel) (j := 0) (pc' := 1) (lv' := [(0, .ref 294)]) (st' := [.ref 294]) rfl ?_
  obtain ⟨p1, e1, h⟩ := bd h
  refine Ev.callv D_238 E_211 (by decide +kernel) C_10_269 294 [] (r := []) rfl (gd_o k_294 (by decide)) rfl (Nat.le_of_ble_eq_true rfl) (Nat.le_of_ble_eq_true rfl) (gM_asksRace_ok (by omega)  e1) ?_
  refine Ev.if_ D_238 (c := .ne) (off := 6) (by decide +kernel) (t := 10) rfl (fun c2 => ?_) (fun c2 => ?_)
  · have c2 : ¬ p1.1 = 0 := of_decide_eq_true c2
    rw [if_neg c2] at h
    refine Ev.seg D_238 [(.iconst 0, 1), (.istore_n 1, 1), (.iconst 0, 1), (.istore_n 2, 1)] (by decide +kernel) (j := 0) (pc' := 14) (lv' := [(2, .int (0 : Int32)), (1, .int (0 : Int32)), (0, .ref 294)]) (st' := []) rfl ?_
    obtain ⟨x5, w5, h⟩ := bd h
    have j5 : Ev (d + 1) 238 38 [(0, .ref 294), (1, .int x5)] [] (uS L p1.2) o := by
      clear w5
      refine Ev.seg D_238 [(.iconst 0, 1), (.istore_n 2, 1)] (by decide +kernel) (j := 0) (pc' := 40) (lv' := [(2, .int (0 : Int32)), (0, .ref 294), (1, .int x5)]) (st' := []) rfl ?_
      exact Ev.sub (lv' := [(0, .ref 294), (1, .int x5), (2, .int (0 : Int32))]) (subL_cons rfl (subL_cons rfl (subL_cons rfl subL_nil))) (gM_drops_h40_w hd   _ _ _ h _ ho)
    exact Ev.sub (lv' := [(0, .ref 294), (1, .int (0 : Int32)), (2, .int (0 : Int32))]) (subL_cons rfl (subL_cons rfl (subL_cons rfl subL_nil))) (gM_drops_h14_w hd   _ _ _ w5 _ j5)
  · have c2 : p1.1 = 0 := Decidable.of_not_not (of_decide_eq_false c2)
    rw [if_pos c2] at h
    refine Ev.seg D_238 [(.bipush (-2), 2)] (by decide +kernel) (j := 0) (pc' := 9) (lv' := [(0, .ref 294)]) (st' := [.int (-2 : Int32)]) rfl ?_
    cases h
    obtain rfl : o = _ := ho
    exact Ev.iret D_238 (by decide +kernel)
/- PennantLawnModel homeOf: 240 -/
def gM_homeOf_h2 (v1 : Int32) (s : mT) (q : Int32) : Option ((Int32) ⊕ (Int32)) :=
  (gM_last s).bind fun p1 =>
  if p1 < q then
    some (.inr ((-1 : Int32)))
  else
    (gM_placeOf v1 q s).bind fun p4 =>
    (rdI (s.1 295) 79 (2 : Int32)).bind fun x6 =>
    if p4 = x6 then
      some (.inr (q))
    else
      some (.inl (q + (1 : Int32)))
set_option maxRecDepth 8000 in
theorem gM_homeOf_h2_ok {L d : Nat} (hd : 2 ≤ d + 1) {v1 : Int32} {s : mT} : ∀ (q : Int32) (x : (Int32) ⊕ (Int32)), gM_homeOf_h2 v1 s q = some x → ∀ o, sK (fun q => Ev (d + 1) 240 2 [(0, .ref 294), (1, .int v1), (2, .int q)] [] (uS L s) o) (fun r => o = (some (.int r), uS L s)) x → Ev (d + 1) 240 2 [(0, .ref 294), (1, .int v1), (2, .int q)] [] (uS L s) o := by
  intro q x h o ho
  unfold gM_homeOf_h2 at h
  refine Ev.seg D_240 [(.iload_n 2, 1), (.aload_n 0, 1)] (by decide +kernel) (j := 0) (pc' := 4) (lv' := [(0, .ref 294), (1, .int v1), (2, .int q)]) (st' := [.ref 294, .int q]) rfl ?_
  obtain ⟨p1, e1, h⟩ := bd h
  refine Ev.callv D_240 E_216 (by decide +kernel) C_10_96 294 [] (r := [.int q]) rfl (gd_o k_294 (by decide)) rfl (Nat.le_of_ble_eq_true rfl) (Nat.le_of_ble_eq_true rfl) (gM_last_ok (by omega)  e1) ?_
  refine Ev.icmp D_240 (c := .gt) (off := 26) (by decide +kernel) (t := 33) rfl (fun c2 => ?_) (fun c2 => ?_)
  · have c2 : p1 < q := of_decide_eq_true c2
    rw [if_pos c2] at h
    refine Ev.seg D_240 [(.iconst (-1), 1)] (by decide +kernel) (j := 0) (pc' := 34) (lv' := [(0, .ref 294), (1, .int v1), (2, .int q)]) (st' := [.int (-1 : Int32)]) rfl ?_
    cases h
    obtain rfl : o = _ := ho
    exact Ev.iret D_240 (by decide +kernel)
  · have c2 : ¬ p1 < q := of_decide_eq_false c2
    rw [if_neg c2] at h
    refine Ev.seg D_240 [(.aload_n 0, 1), (.iload_n 1, 1), (.iload_n 2, 1)] (by decide +kernel) (j := 0) (pc' := 13) (lv' := [(0, .ref 294), (1, .int v1), (2, .int q)]) (st' := [.int q, .int v1, .ref 294]) rfl ?_
    obtain ⟨p4, e4, h⟩ := bd h
    refine Ev.callv D_240 E_220 (by decide +kernel) C_10_240 294 [.int v1, .int q] (r := []) rfl (gd_o k_294 (by decide)) rfl (Nat.le_of_ble_eq_true rfl) (Nat.le_of_ble_eq_true rfl) (gM_placeOf_ok (by omega)  e4) ?_
    refine Ev.seg D_240 [(.aload_n 0, 1)] (by decide +kernel) (j := 0) (pc' := 17) (lv' := [(0, .ref 294), (1, .int v1), (2, .int q)]) (st' := [.ref 294, .int p4]) rfl ?_
    refine Ev.getR D_240 (by decide +kernel) F_10_9 T_10_1 (x := 295) (S_oR k_294 (by decide +kernel)) ?_
    refine Ev.seg D_240 [(.iconst 2, 1)] (by decide +kernel) (j := 0) (pc' := 21) (lv' := [(0, .ref 294), (1, .int v1), (2, .int q)]) (st' := [.int (2 : Int32), .ref 295, .int p4]) rfl ?_
    obtain ⟨x6, e6, h⟩ := bd h
    refine Ev.iald D_240 (by decide +kernel) (S_aI k_295 e6) ?_
    refine Ev.icmp D_240 (c := .ne) (off := 5) (by decide +kernel) (t := 27) rfl (fun c7 => ?_) (fun c7 => ?_)
    · have c7 : ¬ p4 = x6 := of_decide_eq_true c7
      rw [if_neg c7] at h
      refine Ev.seg D_240 [(.iinc 2 1, 3), (.goto (-28), 3)] (by decide +kernel) (j := 0) (pc' := 2) (lv' := [(2, .int (q + (1 : Int32))), (0, .ref 294), (1, .int v1)]) (st' := []) rfl ?_
      cases h
      exact Ev.sub (lv' := [(0, .ref 294), (1, .int v1), (2, .int (q + (1 : Int32)))]) (subL_cons rfl (subL_cons rfl (subL_cons rfl subL_nil))) ho
    · have c7 : p4 = x6 := Decidable.of_not_not (of_decide_eq_false c7)
      rw [if_pos c7] at h
      refine Ev.seg D_240 [(.iload_n 2, 1)] (by decide +kernel) (j := 0) (pc' := 26) (lv' := [(0, .ref 294), (1, .int v1), (2, .int q)]) (st' := [.int q]) rfl ?_
      cases h
      obtain rfl : o = _ := ho
      exact Ev.iret D_240 (by decide +kernel)
theorem gM_homeOf_h2_w {L d : Nat} (hd : 2 ≤ d + 1) {v1 : Int32} {s : mT} : ∀ (n : Nat) (q : Int32) (r : Int32), wh n (gM_homeOf_h2 v1 s) q = some r → ∀ o, (fun r => o = (some (.int r), uS L s)) r → Ev (d + 1) 240 2 [(0, .ref 294), (1, .int v1), (2, .int q)] [] (uS L s) o :=
  fun n q r h o hc => wh_ev (E := fun (q : Int32) o => Ev (d + 1) 240 2 [(0, .ref 294), (1, .int v1), (2, .int q)] [] (uS L s) o) (C := fun (r : Int32) o => (fun r => o = (some (.int r), uS L s)) r) (gM_homeOf_h2_ok hd  ) n q r h o hc
def gM_homeOf (v1 : Int32) (s : mT) : Option (Int32) :=
  wh FU (gM_homeOf_h2 v1 s) (0 : Int32)
set_option maxRecDepth 8000 in
theorem gM_homeOf_ok {L d : Nat} (hd : 2 ≤ d) {v1 : Int32} {s : mT} {p : Int32} (h : gM_homeOf v1 s = some p) : Ev d 240 0 [(0, .ref 294), (1, .int v1)] [] (uS L s) (some (.int p), uS L s) := by
  obtain ⟨d, rfl⟩ : ∃ e, d = e + 1 := ⟨d - 1, by omega⟩
  obtain ⟨o, ho⟩ : ∃ o : Option Value × mS, o = (some (.int p), uS L s) := ⟨_, rfl⟩
  rw [← ho]
  unfold gM_homeOf at h
  refine Ev.seg D_240 [(.iconst 0, 1), (.istore_n 2, 1)] (by decide +kernel) (j := 0) (pc' := 2) (lv' := [(2, .int (0 : Int32)), (0, .ref 294), (1, .int v1)]) (st' := []) rfl ?_
  exact Ev.sub (lv' := [(0, .ref 294), (1, .int v1), (2, .int (0 : Int32))]) (subL_cons rfl (subL_cons rfl (subL_cons rfl subL_nil))) (gM_homeOf_h2_w hd   _ _ _ h _ ho)
/- PennantLawnModel home: 239 -/
def gM_home (v1 : Int32) (s : mT) : Option (Int32 × mT) :=
  (gM_asksBoat v1 s).bind fun p1 =>
  (
    if p1.1 = 0 then
      some ((-2 : Int32))
    else
      (gM_homeOf v1 p1.2).bind fun p3 =>
      some (p3) : Option (Int32)).bind fun x2 =>
  some ((x2, p1.2))
set_option maxRecDepth 8000 in
theorem gM_home_ok {L d : Nat} (hd : 7 ≤ d) {v1 : Int32} {s : mT} {p : Int32 × mT} (h : gM_home v1 s = some p) : Ev d 239 0 [(0, .ref 294), (1, .int v1)] [] (uS L s) (some (.int p.1), uS L p.2) := by
  obtain ⟨d, rfl⟩ : ∃ e, d = e + 1 := ⟨d - 1, by omega⟩
  obtain ⟨o, ho⟩ : ∃ o : Option Value × mS, o = (some (.int p.1), uS L p.2) := ⟨_, rfl⟩
  rw [← ho]
  unfold gM_home at h
  refine Ev.seg D_239 [(.aload_n 0, 1), (.iload_n 1, 1)] (by decide +kernel) (j := 0) (pc' := 2) (lv' := [(0, .ref 294), (1, .int v1)]) (st' := [.int v1, .ref 294]) rfl ?_
  obtain ⟨p1, e1, h⟩ := bd h
  refine Ev.callv D_239 E_234 (by decide +kernel) C_10_290 294 [.int v1] (r := []) rfl (gd_o k_294 (by decide)) rfl (Nat.le_of_ble_eq_true rfl) (Nat.le_of_ble_eq_true rfl) (gM_asksBoat_ok (by omega)  e1) ?_
  obtain ⟨x2, g2, h⟩ := bd h
  have j2 : Ev (d + 1) 239 18 [] [.int x2] (uS L p1.2) o := by
    clear g2
    cases h
    obtain rfl : o = _ := ho
    exact Ev.iret D_239 (by decide +kernel)
  clear h
  refine Ev.if_ D_239 (c := .eq) (off := 11) (by decide +kernel) (t := 16) rfl (fun c2 => ?_) (fun c2 => ?_)
  · have c2 : p1.1 = 0 := of_decide_eq_true c2
    rw [if_pos c2] at g2
    refine Ev.seg D_239 [(.bipush (-2), 2)] (by decide +kernel) (j := 0) (pc' := 18) (lv' := [(0, .ref 294), (1, .int v1)]) (st' := [.int (-2 : Int32)]) rfl ?_
    cases g2
    exact Ev.sub2 j2 subL_nil
  · have c2 : ¬ p1.1 = 0 := of_decide_eq_false c2
    rw [if_neg c2] at g2
    refine Ev.seg D_239 [(.aload_n 0, 1), (.iload_n 1, 1)] (by decide +kernel) (j := 0) (pc' := 10) (lv' := [(0, .ref 294), (1, .int v1)]) (st' := [.int v1, .ref 294]) rfl ?_
    obtain ⟨p3, e3, g2⟩ := bd g2
    refine Ev.callv D_239 E_240 (by decide +kernel) C_10_296 294 [.int v1] (r := []) rfl (gd_o k_294 (by decide)) rfl (Nat.le_of_ble_eq_true rfl) (Nat.le_of_ble_eq_true rfl) (gM_homeOf_ok (by omega)  e3) ?_
    refine Ev.seg D_239 [(.goto 5, 3)] (by decide +kernel) (j := 0) (pc' := 18) (lv' := [(0, .ref 294), (1, .int v1)]) (st' := [.int p3]) rfl ?_
    cases g2
    exact Ev.sub2 j2 subL_nil
/- PennantLawnModel winsOf: 242 -/
def gM_winsOf_h4 (s : mT) (q : Int32 × Int32) : Option ((Int32 × Int32) ⊕ (Int32)) :=
  (rdI (s.1 295) 79 (4 : Int32)).bind fun x2 =>
  if x2 ≤ q.2 then
    some (.inr q.1)
  else
    (gM_homeOf q.2 s).bind fun p4 =>
    (
      if p4 = (-1 : Int32) then
        some (q.1)
      else
        if q.1 = (-1 : Int32) then
          some (q.2)
        else
          (gM_homeOf q.2 s).bind fun p7 =>
          (gM_homeOf q.1 s).bind fun p8 =>
          if p8 ≤ p7 then
            some (q.1)
          else
            some (q.2) : Option (Int32)).bind fun x5 =>
    some (.inl (x5, q.2 + (1 : Int32)))
set_option maxRecDepth 8000 in
theorem gM_winsOf_h4_ok {L d : Nat} (hd : 3 ≤ d + 1) {s : mT} : ∀ (q : Int32 × Int32) (x : (Int32 × Int32) ⊕ (Int32)), gM_winsOf_h4 s q = some x → ∀ o, sK (fun q => Ev (d + 1) 242 4 [(0, .ref 294), (1, .int q.1), (2, .int q.2)] [] (uS L s) o) (fun r => Ev (d + 1) 242 49 [(1, .int r)] [] (uS L s) o) x → Ev (d + 1) 242 4 [(0, .ref 294), (1, .int q.1), (2, .int q.2)] [] (uS L s) o := by
  intro q x h o ho
  unfold gM_winsOf_h4 at h
  refine Ev.seg D_242 [(.iload_n 2, 1), (.aload_n 0, 1)] (by decide +kernel) (j := 0) (pc' := 6) (lv' := [(0, .ref 294), (1, .int q.1), (2, .int q.2)]) (st' := [.ref 294, .int q.2]) rfl ?_
  refine Ev.getR D_242 (by decide +kernel) F_10_9 T_10_1 (x := 295) (S_oR k_294 (by decide +kernel)) ?_
  refine Ev.seg D_242 [(.iconst 4, 1)] (by decide +kernel) (j := 0) (pc' := 10) (lv' := [(0, .ref 294), (1, .int q.1), (2, .int q.2)]) (st' := [.int (4 : Int32), .ref 295, .int q.2]) rfl ?_
  obtain ⟨x2, e2, h⟩ := bd h
  refine Ev.iald D_242 (by decide +kernel) (S_aI k_295 e2) ?_
  refine Ev.icmp D_242 (c := .ge) (off := 38) (by decide +kernel) (t := 49) rfl (fun c3 => ?_) (fun c3 => ?_)
  · have c3 : x2 ≤ q.2 := of_decide_eq_true c3
    rw [if_pos c3] at h
    cases h
    exact Ev.sub (lv' := [(1, .int q.1)]) (subL_cons rfl subL_nil) ho
  · have c3 : ¬ x2 ≤ q.2 := of_decide_eq_false c3
    rw [if_neg c3] at h
    refine Ev.seg D_242 [(.aload_n 0, 1), (.iload_n 2, 1)] (by decide +kernel) (j := 0) (pc' := 16) (lv' := [(0, .ref 294), (1, .int q.1), (2, .int q.2)]) (st' := [.int q.2, .ref 294]) rfl ?_
    obtain ⟨p4, e4, h⟩ := bd h
    refine Ev.callv D_242 E_240 (by decide +kernel) C_10_296 294 [.int q.2] (r := []) rfl (gd_o k_294 (by decide)) rfl (Nat.le_of_ble_eq_true rfl) (Nat.le_of_ble_eq_true rfl) (gM_homeOf_ok (by omega)  e4) ?_
    refine Ev.seg D_242 [(.iconst (-1), 1)] (by decide +kernel) (j := 0) (pc' := 20) (lv' := [(0, .ref 294), (1, .int q.1), (2, .int q.2)]) (st' := [.int (-1 : Int32), .int p4]) rfl ?_
    obtain ⟨x5, g5, h⟩ := bd h
    have j5 : Ev (d + 1) 242 43 [(0, .ref 294), (1, .int x5), (2, .int q.2)] [] (uS L s) o := by
      clear g5
      refine Ev.seg D_242 [(.iinc 2 1, 3), (.goto (-42), 3)] (by decide +kernel) (j := 0) (pc' := 4) (lv' := [(2, .int (q.2 + (1 : Int32))), (0, .ref 294), (1, .int x5)]) (st' := []) rfl ?_
      cases h
      exact Ev.sub (lv' := [(0, .ref 294), (1, .int (x5)), (2, .int (q.2 + (1 : Int32)))]) (subL_cons rfl (subL_cons rfl (subL_cons rfl subL_nil))) ho
    clear h
    refine Ev.icmp D_242 (c := .eq) (off := 23) (by decide +kernel) (t := 43) rfl (fun c5 => ?_) (fun c5 => ?_)
    · have c5 : p4 = (-1 : Int32) := of_decide_eq_true c5
      rw [if_pos c5] at g5
      cases g5
      exact Ev.sub2 j5 (subL_cons rfl (subL_cons rfl (subL_cons rfl subL_nil)))
    · have c5 : ¬ p4 = (-1 : Int32) := of_decide_eq_false c5
      rw [if_neg c5] at g5
      refine Ev.seg D_242 [(.iload_n 1, 1), (.iconst (-1), 1)] (by decide +kernel) (j := 0) (pc' := 25) (lv' := [(0, .ref 294), (1, .int q.1), (2, .int q.2)]) (st' := [.int (-1 : Int32), .int q.1]) rfl ?_
      refine Ev.icmp D_242 (c := .eq) (off := 16) (by decide +kernel) (t := 41) rfl (fun c6 => ?_) (fun c6 => ?_)
      · have c6 : q.1 = (-1 : Int32) := of_decide_eq_true c6
        rw [if_pos c6] at g5
        refine Ev.seg D_242 [(.iload_n 2, 1), (.istore_n 1, 1)] (by decide +kernel) (j := 0) (pc' := 43) (lv' := [(1, .int q.2), (0, .ref 294), (2, .int q.2)]) (st' := []) rfl ?_
        cases g5
        exact Ev.sub2 j5 (subL_cons rfl (subL_cons rfl (subL_cons rfl subL_nil)))
      · have c6 : ¬ q.1 = (-1 : Int32) := of_decide_eq_false c6
        rw [if_neg c6] at g5
        refine Ev.seg D_242 [(.aload_n 0, 1), (.iload_n 2, 1)] (by decide +kernel) (j := 0) (pc' := 30) (lv' := [(0, .ref 294), (1, .int q.1), (2, .int q.2)]) (st' := [.int q.2, .ref 294]) rfl ?_
        obtain ⟨p7, e7, g5⟩ := bd g5
        refine Ev.callv D_242 E_240 (by decide +kernel) C_10_296 294 [.int q.2] (r := []) rfl (gd_o k_294 (by decide)) rfl (Nat.le_of_ble_eq_true rfl) (Nat.le_of_ble_eq_true rfl) (gM_homeOf_ok (by omega)  e7) ?_
        refine Ev.seg D_242 [(.aload_n 0, 1), (.iload_n 1, 1)] (by decide +kernel) (j := 0) (pc' := 35) (lv' := [(0, .ref 294), (1, .int q.1), (2, .int q.2)]) (st' := [.int q.1, .ref 294, .int p7]) rfl ?_
        obtain ⟨p8, e8, g5⟩ := bd g5
        refine Ev.callv D_242 E_240 (by decide +kernel) C_10_296 294 [.int q.1] (r := [.int p7]) rfl (gd_o k_294 (by decide)) rfl (Nat.le_of_ble_eq_true rfl) (Nat.le_of_ble_eq_true rfl) (gM_homeOf_ok (by omega)  e8) ?_
        refine Ev.icmp D_242 (c := .ge) (off := 5) (by decide +kernel) (t := 43) rfl (fun c9 => ?_) (fun c9 => ?_)
        · have c9 : p8 ≤ p7 := of_decide_eq_true c9
          rw [if_pos c9] at g5
          cases g5
          exact Ev.sub2 j5 (subL_cons rfl (subL_cons rfl (subL_cons rfl subL_nil)))
        · have c9 : ¬ p8 ≤ p7 := of_decide_eq_false c9
          rw [if_neg c9] at g5
          refine Ev.seg D_242 [(.iload_n 2, 1), (.istore_n 1, 1)] (by decide +kernel) (j := 0) (pc' := 43) (lv' := [(1, .int q.2), (0, .ref 294), (2, .int q.2)]) (st' := []) rfl ?_
          cases g5
          exact Ev.sub2 j5 (subL_cons rfl (subL_cons rfl (subL_cons rfl subL_nil)))
theorem gM_winsOf_h4_w {L d : Nat} (hd : 3 ≤ d + 1) {s : mT} : ∀ (n : Nat) (q : Int32 × Int32) (r : Int32), wh n (gM_winsOf_h4 s) q = some r → ∀ o, (fun r => Ev (d + 1) 242 49 [(1, .int r)] [] (uS L s) o) r → Ev (d + 1) 242 4 [(0, .ref 294), (1, .int q.1), (2, .int q.2)] [] (uS L s) o :=
  fun n q r h o hc => wh_ev (E := fun (q : Int32 × Int32) o => Ev (d + 1) 242 4 [(0, .ref 294), (1, .int q.1), (2, .int q.2)] [] (uS L s) o) (C := fun (r : Int32) o => (fun r => Ev (d + 1) 242 49 [(1, .int r)] [] (uS L s) o) r) (gM_winsOf_h4_ok hd  ) n q r h o hc
def gM_winsOf (s : mT) : Option (Int32) :=
  (wh FU (gM_winsOf_h4 s) ((-1 : Int32), (0 : Int32))).bind fun x10 =>
  some (x10)
set_option maxRecDepth 8000 in
theorem gM_winsOf_ok {L d : Nat} (hd : 3 ≤ d) {s : mT} {p : Int32} (h : gM_winsOf s = some p) : Ev d 242 0 [(0, .ref 294)] [] (uS L s) (some (.int p), uS L s) := by
  obtain ⟨d, rfl⟩ : ∃ e, d = e + 1 := ⟨d - 1, by omega⟩
  obtain ⟨o, ho⟩ : ∃ o : Option Value × mS, o = (some (.int p), uS L s) := ⟨_, rfl⟩
  rw [← ho]
  unfold gM_winsOf at h
  refine Ev.seg D_242 [(.iconst (-1), 1), (.istore_n 1, 1), (.iconst 0, 1), (.istore_n 2, 1)] (by decide +kernel) (j := 0) (pc' := 4) (lv' := [(2, .int (0 : Int32)), (1, .int (-1 : Int32)), (0, .ref 294)]) (st' := []) rfl ?_
  obtain ⟨x10, w10, h⟩ := bd h
  have j10 : Ev (d + 1) 242 49 [(1, .int x10)] [] (uS L s) o := by
    clear w10
    refine Ev.seg D_242 [(.iload_n 1, 1)] (by decide +kernel) (j := 0) (pc' := 50) (lv' := [(1, .int x10)]) (st' := [.int x10]) rfl ?_
    cases h
    obtain rfl : o = _ := ho
    exact Ev.iret D_242 (by decide +kernel)
  exact Ev.sub (lv' := [(0, .ref 294), (1, .int (-1 : Int32)), (2, .int (0 : Int32))]) (subL_cons rfl (subL_cons rfl (subL_cons rfl subL_nil))) (gM_winsOf_h4_w hd   _ _ _ w10 _ j10)
