/-! The program's methods as functions of ints and longs, each with its certificate (wip/whole/gen_emit.py writes this) -/
/- PennantLawnModel wins: 241 -/
def gM_wins (s : mT) : Option (Int32 × mT) :=
  (gM_asksRace s).bind fun p1 =>
  (
    if p1.1 = 0 then
      some ((-2 : Int32))
    else
      (gM_winsOf p1.2).bind fun p3 =>
      some (p3) : Option (Int32)).bind fun x2 =>
  some ((x2, p1.2))
set_option maxRecDepth 8000 in
theorem gM_wins_ok {L d : Nat} (hd : 6 ≤ d) {s : mT} {p : Int32 × mT} (h : gM_wins s = some p) : Ev d 241 0 [(0, .ref 294)] [] (uS L s) (some (.int p.1), uS L p.2) := by
  obtain ⟨d, rfl⟩ : ∃ e, d = e + 1 := ⟨d - 1, by omega⟩
  obtain ⟨o, ho⟩ : ∃ o : Option Value × mS, o = (some (.int p.1), uS L p.2) := ⟨_, rfl⟩
  rw [← ho]
  unfold gM_wins at h
  refine Ev.seg D_241 [(.aload_n 0, 1)] (by decide +kernel) (j := 0) (pc' := 1) (lv' := [(0, .ref 294)]) (st' := [.ref 294]) rfl ?_
  obtain ⟨p1, e1, h⟩ := bd h
  refine Ev.callv D_241 E_211 (by decide +kernel) C_10_269 294 [] (r := []) rfl (gd_o k_294 (by decide)) rfl (Nat.le_of_ble_eq_true rfl) (Nat.le_of_ble_eq_true rfl) (gM_asksRace_ok (by omega)  e1) ?_
  obtain ⟨x2, g2, h⟩ := bd h
  have j2 : Ev (d + 1) 241 16 [] [.int x2] (uS L p1.2) o := by
    clear g2
    cases h
    obtain rfl : o = _ := ho
    exact Ev.iret D_241 (by decide +kernel)
  clear h
  refine Ev.if_ D_241 (c := .eq) (off := 10) (by decide +kernel) (t := 14) rfl (fun c2 => ?_) (fun c2 => ?_)
  · have c2 : p1.1 = 0 := of_decide_eq_true c2
    rw [if_pos c2] at g2
    refine Ev.seg D_241 [(.bipush (-2), 2)] (by decide +kernel) (j := 0) (pc' := 16) (lv' := [(0, .ref 294)]) (st' := [.int (-2 : Int32)]) rfl ?_
    cases g2
    exact Ev.sub2 j2 subL_nil
  · have c2 : ¬ p1.1 = 0 := of_decide_eq_false c2
    rw [if_neg c2] at g2
    refine Ev.seg D_241 [(.aload_n 0, 1)] (by decide +kernel) (j := 0) (pc' := 8) (lv' := [(0, .ref 294)]) (st' := [.ref 294]) rfl ?_
    obtain ⟨p3, e3, g2⟩ := bd g2
    refine Ev.callv D_241 E_242 (by decide +kernel) C_10_299 294 [] (r := []) rfl (gd_o k_294 (by decide)) rfl (Nat.le_of_ble_eq_true rfl) (Nat.le_of_ble_eq_true rfl) (gM_winsOf_ok (by omega)  e3) ?_
    refine Ev.seg D_241 [(.goto 5, 3)] (by decide +kernel) (j := 0) (pc' := 16) (lv' := [(0, .ref 294)]) (st' := [.int p3]) rfl ?_
    cases g2
    exact Ev.sub2 j2 subL_nil
/- PennantLawnModel gap: 243 -/
def gM_gap (v1 : Int32) (v2 : Int32) (v3 : Int32) (s : mT) : Option (Int32 × mT) :=
  (gM_asksStep v3 s).bind fun p1 =>
  (
    if p1.1 = 0 then
      some ((-1000 : Int32))
    else
      (gM_isBoat v1.toInt64 p1.2).bind fun p3 =>
      if p3 = 0 then
        some ((-1000 : Int32))
      else
        (gM_isBoat v2.toInt64 p1.2).bind fun p5 =>
        if p5 = 0 then
          some ((-1000 : Int32))
        else
          (gM_placeOf v1 v3 p1.2).bind fun p7 =>
          (gM_placeOf v2 v3 p1.2).bind fun p8 =>
          some (p7 - p8) : Option (Int32)).bind fun x2 =>
  some ((x2, p1.2))
set_option maxRecDepth 8000 in
theorem gM_gap_ok {L d : Nat} (hd : 7 ≤ d) {v1 : Int32} {v2 : Int32} {v3 : Int32} {s : mT} {p : Int32 × mT} (h : gM_gap v1 v2 v3 s = some p) : Ev d 243 0 [(0, .ref 294), (1, .int v1), (2, .int v2), (3, .int v3)] [] (uS L s) (some (.int p.1), uS L p.2) := by
  obtain ⟨d, rfl⟩ : ∃ e, d = e + 1 := ⟨d - 1, by omega⟩
  obtain ⟨o, ho⟩ : ∃ o : Option Value × mS, o = (some (.int p.1), uS L p.2) := ⟨_, rfl⟩
  rw [← ho]
  unfold gM_gap at h
  refine Ev.seg D_243 [(.aload_n 0, 1), (.iload_n 3, 1)] (by decide +kernel) (j := 0) (pc' := 2) (lv' := [(0, .ref 294), (1, .int v1), (2, .int v2), (3, .int v3)]) (st' := [.int v3, .ref 294]) rfl ?_
  obtain ⟨p1, e1, h⟩ := bd h
  refine Ev.callv D_243 E_210 (by decide +kernel) C_10_278 294 [.int v3] (r := []) rfl (gd_o k_294 (by decide)) rfl (Nat.le_of_ble_eq_true rfl) (Nat.le_of_ble_eq_true rfl) (gM_asksStep_ok (by omega)  e1) ?_
  obtain ⟨x2, g2, h⟩ := bd h
  have j2 : Ev (d + 1) 243 45 [] [.int x2] (uS L p1.2) o := by
    clear g2
    cases h
    obtain rfl : o = _ := ho
    exact Ev.iret D_243 (by decide +kernel)
  clear h
  refine Ev.if_ D_243 (c := .eq) (off := 37) (by decide +kernel) (t := 42) rfl (fun c2 => ?_) (fun c2 => ?_)
  · have c2 : p1.1 = 0 := of_decide_eq_true c2
    rw [if_pos c2] at g2
    refine Ev.seg D_243 [(.sipush (-1000), 3)] (by decide +kernel) (j := 0) (pc' := 45) (lv' := [(0, .ref 294), (1, .int v1), (2, .int v2), (3, .int v3)]) (st' := [.int (-1000 : Int32)]) rfl ?_
    cases g2
    exact Ev.sub2 j2 subL_nil
  · have c2 : ¬ p1.1 = 0 := of_decide_eq_false c2
    rw [if_neg c2] at g2
    refine Ev.seg D_243 [(.aload_n 0, 1), (.iload_n 1, 1), (.i2l, 1)] (by decide +kernel) (j := 0) (pc' := 11) (lv' := [(0, .ref 294), (1, .int v1), (2, .int v2), (3, .int v3)]) (st' := [.long v1.toInt64, .ref 294]) rfl ?_
    obtain ⟨p3, e3, g2⟩ := bd g2
    refine Ev.callv D_243 E_204 (by decide +kernel) C_10_220 294 [.long v1.toInt64] (r := []) rfl (gd_o k_294 (by decide)) rfl (Nat.le_of_ble_eq_true rfl) (Nat.le_of_ble_eq_true rfl) (gM_isBoat_ok (by omega)  e3) ?_
    refine Ev.if_ D_243 (c := .eq) (off := 28) (by decide +kernel) (t := 42) rfl (fun c4 => ?_) (fun c4 => ?_)
    · have c4 : p3 = 0 := of_decide_eq_true c4
      rw [if_pos c4] at g2
      refine Ev.seg D_243 [(.sipush (-1000), 3)] (by decide +kernel) (j := 0) (pc' := 45) (lv' := [(0, .ref 294), (1, .int v1), (2, .int v2), (3, .int v3)]) (st' := [.int (-1000 : Int32)]) rfl ?_
      cases g2
      exact Ev.sub2 j2 subL_nil
    · have c4 : ¬ p3 = 0 := of_decide_eq_false c4
      rw [if_neg c4] at g2
      refine Ev.seg D_243 [(.aload_n 0, 1), (.iload_n 2, 1), (.i2l, 1)] (by decide +kernel) (j := 0) (pc' := 20) (lv' := [(0, .ref 294), (1, .int v1), (2, .int v2), (3, .int v3)]) (st' := [.long v2.toInt64, .ref 294]) rfl ?_
      obtain ⟨p5, e5, g2⟩ := bd g2
      refine Ev.callv D_243 E_204 (by decide +kernel) C_10_220 294 [.long v2.toInt64] (r := []) rfl (gd_o k_294 (by decide)) rfl (Nat.le_of_ble_eq_true rfl) (Nat.le_of_ble_eq_true rfl) (gM_isBoat_ok (by omega)  e5) ?_
      refine Ev.if_ D_243 (c := .eq) (off := 19) (by decide +kernel) (t := 42) rfl (fun c6 => ?_) (fun c6 => ?_)
      · have c6 : p5 = 0 := of_decide_eq_true c6
        rw [if_pos c6] at g2
        refine Ev.seg D_243 [(.sipush (-1000), 3)] (by decide +kernel) (j := 0) (pc' := 45) (lv' := [(0, .ref 294), (1, .int v1), (2, .int v2), (3, .int v3)]) (st' := [.int (-1000 : Int32)]) rfl ?_
        cases g2
        exact Ev.sub2 j2 subL_nil
      · have c6 : ¬ p5 = 0 := of_decide_eq_false c6
        rw [if_neg c6] at g2
        refine Ev.seg D_243 [(.aload_n 0, 1), (.iload_n 1, 1), (.iload_n 3, 1)] (by decide +kernel) (j := 0) (pc' := 29) (lv' := [(0, .ref 294), (1, .int v1), (2, .int v2), (3, .int v3)]) (st' := [.int v3, .int v1, .ref 294]) rfl ?_
        obtain ⟨p7, e7, g2⟩ := bd g2
        refine Ev.callv D_243 E_220 (by decide +kernel) C_10_240 294 [.int v1, .int v3] (r := []) rfl (gd_o k_294 (by decide)) rfl (Nat.le_of_ble_eq_true rfl) (Nat.le_of_ble_eq_true rfl) (gM_placeOf_ok (by omega)  e7) ?_
        refine Ev.seg D_243 [(.aload_n 0, 1), (.iload_n 2, 1), (.iload_n 3, 1)] (by decide +kernel) (j := 0) (pc' := 35) (lv' := [(0, .ref 294), (1, .int v1), (2, .int v2), (3, .int v3)]) (st' := [.int v3, .int v2, .ref 294, .int p7]) rfl ?_
        obtain ⟨p8, e8, g2⟩ := bd g2
        refine Ev.callv D_243 E_220 (by decide +kernel) C_10_240 294 [.int v2, .int v3] (r := [.int p7]) rfl (gd_o k_294 (by decide)) rfl (Nat.le_of_ble_eq_true rfl) (Nat.le_of_ble_eq_true rfl) (gM_placeOf_ok (by omega)  e8) ?_
        refine Ev.seg D_243 [(.isub, 1), (.goto 6, 3)] (by decide +kernel) (j := 0) (pc' := 45) (lv' := [(0, .ref 294), (1, .int v1), (2, .int v2), (3, .int v3)]) (st' := [.int (p7 - p8)]) rfl ?_
        cases g2
        exact Ev.sub2 j2 subL_nil
/- PennantLawnModel changes: 244 -/
def gM_changes_h14 (s : mT) (q : Int32 × Int32) : Option ((Int32 × Int32) ⊕ (Int32)) :=
  (gM_last s).bind fun p1 =>
  if p1 < q.2 then
    some (.inr q.1)
  else
    (gM_leadsOf q.2 s).bind fun p3 =>
    (gM_leadsOf (q.2 - (1 : Int32)) s).bind fun p4 =>
    (
      if p3 = p4 then
        some ((0 : Int32))
      else
        some ((1 : Int32)) : Option (Int32)).bind fun x5 =>
    some (.inl (q.1 + x5, q.2 + (1 : Int32)))
set_option maxRecDepth 8000 in
theorem gM_changes_h14_ok {L d : Nat} (hd : 6 ≤ d + 1) {s : mT} : ∀ (q : Int32 × Int32) (x : (Int32 × Int32) ⊕ (Int32)), gM_changes_h14 s q = some x → ∀ o, sK (fun q => Ev (d + 1) 244 14 [(0, .ref 294), (1, .int q.1), (2, .int q.2)] [] (uS L s) o) (fun r => Ev (d + 1) 244 51 [(1, .int r)] [] (uS L s) o) x → Ev (d + 1) 244 14 [(0, .ref 294), (1, .int q.1), (2, .int q.2)] [] (uS L s) o := by
  intro q x h o ho
  unfold gM_changes_h14 at h
  refine Ev.seg D_244 [(.iload_n 2, 1), (.aload_n 0, 1)] (by decide +kernel) (j := 0) (pc' := 16) (lv' := [(0, .ref 294), (1, .int q.1), (2, .int q.2)]) (st' := [.ref 294, .int q.2]) rfl ?_
  obtain ⟨p1, e1, h⟩ := bd h
  refine Ev.callv D_244 E_216 (by decide +kernel) C_10_96 294 [] (r := [.int q.2]) rfl (gd_o k_294 (by decide)) rfl (Nat.le_of_ble_eq_true rfl) (Nat.le_of_ble_eq_true rfl) (gM_last_ok (by omega)  e1) ?_
  refine Ev.icmp D_244 (c := .gt) (off := 32) (by decide +kernel) (t := 51) rfl (fun c2 => ?_) (fun c2 => ?_)
  · have c2 : p1 < q.2 := of_decide_eq_true c2
    rw [if_pos c2] at h
    cases h
    exact Ev.sub (lv' := [(1, .int q.1)]) (subL_cons rfl subL_nil) ho
  · have c2 : ¬ p1 < q.2 := of_decide_eq_false c2
    rw [if_neg c2] at h
    refine Ev.seg D_244 [(.iload_n 1, 1), (.aload_n 0, 1), (.iload_n 2, 1)] (by decide +kernel) (j := 0) (pc' := 25) (lv' := [(0, .ref 294), (1, .int q.1), (2, .int q.2)]) (st' := [.int q.2, .ref 294, .int q.1]) rfl ?_
    obtain ⟨p3, e3, h⟩ := bd h
    refine Ev.callv D_244 E_231 (by decide +kernel) C_10_287 294 [.int q.2] (r := [.int q.1]) rfl (gd_o k_294 (by decide)) rfl (Nat.le_of_ble_eq_true rfl) (Nat.le_of_ble_eq_true rfl) (gM_leadsOf_ok (by omega)  e3) ?_
    refine Ev.seg D_244 [(.aload_n 0, 1), (.iload_n 2, 1), (.iconst 1, 1), (.isub, 1)] (by decide +kernel) (j := 0) (pc' := 32) (lv' := [(0, .ref 294), (1, .int q.1), (2, .int q.2)]) (st' := [.int (q.2 - (1 : Int32)), .ref 294, .int p3, .int q.1]) rfl ?_
    obtain ⟨p4, e4, h⟩ := bd h
    refine Ev.callv D_244 E_231 (by decide +kernel) C_10_287 294 [.int (q.2 - (1 : Int32))] (r := [.int p3, .int q.1]) rfl (gd_o k_294 (by decide)) rfl (Nat.le_of_ble_eq_true rfl) (Nat.le_of_ble_eq_true rfl) (gM_leadsOf_ok (by omega)  e4) ?_
    obtain ⟨x5, g5, h⟩ := bd h
    have j5 : Ev (d + 1) 244 43 [(0, .ref 294), (2, .int q.2)] [.int x5, .int q.1] (uS L s) o := by
      clear g5
      refine Ev.seg D_244 [(.iadd, 1), (.istore_n 1, 1), (.iinc 2 1, 3), (.goto (-34), 3)] (by decide +kernel) (j := 0) (pc' := 14) (lv' := [(2, .int (q.2 + (1 : Int32))), (1, .int (q.1 + x5)), (0, .ref 294)]) (st' := []) rfl ?_
      cases h
      exact Ev.sub (lv' := [(0, .ref 294), (1, .int (q.1 + x5)), (2, .int (q.2 + (1 : Int32)))]) (subL_cons rfl (subL_cons rfl (subL_cons rfl subL_nil))) ho
    clear h
    refine Ev.icmp D_244 (c := .eq) (off := 7) (by decide +kernel) (t := 42) rfl (fun c5 => ?_) (fun c5 => ?_)
    · have c5 : p3 = p4 := of_decide_eq_true c5
      rw [if_pos c5] at g5
      refine Ev.seg D_244 [(.iconst 0, 1)] (by decide +kernel) (j := 0) (pc' := 43) (lv' := [(0, .ref 294), (1, .int q.1), (2, .int q.2)]) (st' := [.int (0 : Int32), .int q.1]) rfl ?_
      cases g5
      exact Ev.sub2 j5 (subL_cons rfl (subL_cons rfl subL_nil))
    · have c5 : ¬ p3 = p4 := of_decide_eq_false c5
      rw [if_neg c5] at g5
      refine Ev.seg D_244 [(.iconst 1, 1), (.goto 4, 3)] (by decide +kernel) (j := 0) (pc' := 43) (lv' := [(0, .ref 294), (1, .int q.1), (2, .int q.2)]) (st' := [.int (1 : Int32), .int q.1]) rfl ?_
      cases g5
      exact Ev.sub2 j5 (subL_cons rfl (subL_cons rfl subL_nil))
theorem gM_changes_h14_w {L d : Nat} (hd : 6 ≤ d + 1) {s : mT} : ∀ (n : Nat) (q : Int32 × Int32) (r : Int32), wh n (gM_changes_h14 s) q = some r → ∀ o, (fun r => Ev (d + 1) 244 51 [(1, .int r)] [] (uS L s) o) r → Ev (d + 1) 244 14 [(0, .ref 294), (1, .int q.1), (2, .int q.2)] [] (uS L s) o :=
  fun n q r h o hc => wh_ev (E := fun (q : Int32 × Int32) o => Ev (d + 1) 244 14 [(0, .ref 294), (1, .int q.1), (2, .int q.2)] [] (uS L s) o) (C := fun (r : Int32) o => (fun r => Ev (d + 1) 244 51 [(1, .int r)] [] (uS L s) o) r) (gM_changes_h14_ok hd  ) n q r h o hc
def gM_changes (s : mT) : Option (Int32 × mT) :=
  (gM_asksRace s).bind fun p1 =>
  if p1.1 = 0 then
    some (((-2 : Int32), p1.2))
  else
    (wh FU (gM_changes_h14 p1.2) ((0 : Int32), (1 : Int32))).bind fun x6 =>
    some ((x6, p1.2))
set_option maxRecDepth 8000 in
theorem gM_changes_ok {L d : Nat} (hd : 6 ≤ d) {s : mT} {p : Int32 × mT} (h : gM_changes s = some p) : Ev d 244 0 [(0, .ref 294)] [] (uS L s) (some (.int p.1), uS L p.2) := by
  obtain ⟨d, rfl⟩ : ∃ e, d = e + 1 := ⟨d - 1, by omega⟩
  obtain ⟨o, ho⟩ : ∃ o : Option Value × mS, o = (some (.int p.1), uS L p.2) := ⟨_, rfl⟩
  rw [← ho]
  unfold gM_changes at h
  refine Ev.seg D_244 [(.aload_n 0, 1)] (by decide +kernel) (j := 0) (pc' := 1) (lv' := [(0, .ref 294)]) (st' := [.ref 294]) rfl ?_
  obtain ⟨p1, e1, h⟩ := bd h
  refine Ev.callv D_244 E_211 (by decide +kernel) C_10_269 294 [] (r := []) rfl (gd_o k_294 (by decide)) rfl (Nat.le_of_ble_eq_true rfl) (Nat.le_of_ble_eq_true rfl) (gM_asksRace_ok (by omega)  e1) ?_
  refine Ev.if_ D_244 (c := .ne) (off := 6) (by decide +kernel) (t := 10) rfl (fun c2 => ?_) (fun c2 => ?_)
  · have c2 : ¬ p1.1 = 0 := of_decide_eq_true c2
    rw [if_neg c2] at h
    refine Ev.seg D_244 [(.iconst 0, 1), (.istore_n 1, 1), (.iconst 1, 1), (.istore_n 2, 1)] (by decide +kernel) (j := 0) (pc' := 14) (lv' := [(2, .int (1 : Int32)), (1, .int (0 : Int32)), (0, .ref 294)]) (st' := []) rfl ?_
    obtain ⟨x6, w6, h⟩ := bd h
    have j6 : Ev (d + 1) 244 51 [(1, .int x6)] [] (uS L p1.2) o := by
      clear w6
      refine Ev.seg D_244 [(.iload_n 1, 1)] (by decide +kernel) (j := 0) (pc' := 52) (lv' := [(1, .int x6)]) (st' := [.int x6]) rfl ?_
      cases h
      obtain rfl : o = _ := ho
      exact Ev.iret D_244 (by decide +kernel)
    exact Ev.sub (lv' := [(0, .ref 294), (1, .int (0 : Int32)), (2, .int (1 : Int32))]) (subL_cons rfl (subL_cons rfl (subL_cons rfl subL_nil))) (gM_changes_h14_w hd   _ _ _ w6 _ j6)
  · have c2 : p1.1 = 0 := Decidable.of_not_not (of_decide_eq_false c2)
    rw [if_pos c2] at h
    refine Ev.seg D_244 [(.bipush (-2), 2)] (by decide +kernel) (j := 0) (pc' := 9) (lv' := [(0, .ref 294)]) (st' := [.int (-2 : Int32)]) rfl ?_
    cases h
    obtain rfl : o = _ := ho
    exact Ev.iret D_244 (by decide +kernel)
/- PennantLawnModel asksWatcher: 246 -/
def gM_asksWatcher (v1 : Int32) (s : mT) : Option (Int32 × mT) :=
  (gM_asksRace s).bind fun p1 =>
  (
    if p1.1 = 0 then
      some ((0 : Int32))
    else
      (gM_isWatcher v1 p1.2).bind fun p3 =>
      if p3 = 0 then
        some ((0 : Int32))
      else
        some ((1 : Int32)) : Option (Int32)).bind fun x2 =>
  if x2 = 0 ∨ x2 = 1 then some ((x2, p1.2)) else none
set_option maxRecDepth 8000 in
theorem gM_asksWatcher_ok {L d : Nat} (hd : 6 ≤ d) {v1 : Int32} {s : mT} {p : Int32 × mT} (h : gM_asksWatcher v1 s = some p) : Ev d 246 0 [(0, .ref 294), (1, .int v1)] [] (uS L s) (some (.int p.1), uS L p.2) := by
  obtain ⟨d, rfl⟩ : ∃ e, d = e + 1 := ⟨d - 1, by omega⟩
  obtain ⟨o, ho⟩ : ∃ o : Option Value × mS, o = (some (.int p.1), uS L p.2) := ⟨_, rfl⟩
  rw [← ho]
  unfold gM_asksWatcher at h
  refine Ev.seg D_246 [(.aload_n 0, 1)] (by decide +kernel) (j := 0) (pc' := 1) (lv' := [(0, .ref 294), (1, .int v1)]) (st' := [.ref 294]) rfl ?_
  obtain ⟨p1, e1, h⟩ := bd h
  refine Ev.callv D_246 E_211 (by decide +kernel) C_10_269 294 [] (r := []) rfl (gd_o k_294 (by decide)) rfl (Nat.le_of_ble_eq_true rfl) (Nat.le_of_ble_eq_true rfl) (gM_asksRace_ok (by omega)  e1) ?_
  obtain ⟨x2, g2, h⟩ := bd h
  have j2 : Ev (d + 1) 246 20 [] [.int x2] (uS L p1.2) o := by
    clear g2
    by_cases c5 : x2 = 0 ∨ x2 = 1
    · rw [if_pos c5] at h
      cases h
      obtain rfl : o = _ := ho
      exact Ev.zret D_246 c5 (by decide +kernel)
    · rw [if_neg c5] at h; cases h
  clear h
  refine Ev.if_ D_246 (c := .eq) (off := 15) (by decide +kernel) (t := 19) rfl (fun c2 => ?_) (fun c2 => ?_)
  · have c2 : p1.1 = 0 := of_decide_eq_true c2
    rw [if_pos c2] at g2
    refine Ev.seg D_246 [(.iconst 0, 1)] (by decide +kernel) (j := 0) (pc' := 20) (lv' := [(0, .ref 294), (1, .int v1)]) (st' := [.int (0 : Int32)]) rfl ?_
    cases g2
    exact Ev.sub2 j2 subL_nil
  · have c2 : ¬ p1.1 = 0 := of_decide_eq_false c2
    rw [if_neg c2] at g2
    refine Ev.seg D_246 [(.aload_n 0, 1), (.iload_n 1, 1)] (by decide +kernel) (j := 0) (pc' := 9) (lv' := [(0, .ref 294), (1, .int v1)]) (st' := [.int v1, .ref 294]) rfl ?_
    obtain ⟨p3, e3, g2⟩ := bd g2
    refine Ev.callv D_246 E_206 (by decide +kernel) C_10_224 294 [.int v1] (r := []) rfl (gd_o k_294 (by decide)) rfl (Nat.le_of_ble_eq_true rfl) (Nat.le_of_ble_eq_true rfl) (gM_isWatcher_ok (by omega)  e3) ?_
    refine Ev.if_ D_246 (c := .eq) (off := 7) (by decide +kernel) (t := 19) rfl (fun c4 => ?_) (fun c4 => ?_)
    · have c4 : p3 = 0 := of_decide_eq_true c4
      rw [if_pos c4] at g2
      refine Ev.seg D_246 [(.iconst 0, 1)] (by decide +kernel) (j := 0) (pc' := 20) (lv' := [(0, .ref 294), (1, .int v1)]) (st' := [.int (0 : Int32)]) rfl ?_
      cases g2
      exact Ev.sub2 j2 subL_nil
    · have c4 : ¬ p3 = 0 := of_decide_eq_false c4
      rw [if_neg c4] at g2
      refine Ev.seg D_246 [(.iconst 1, 1), (.goto 4, 3)] (by decide +kernel) (j := 0) (pc' := 20) (lv' := [(0, .ref 294), (1, .int v1)]) (st' := [.int (1 : Int32)]) rfl ?_
      cases g2
      exact Ev.sub2 j2 subL_nil
/- PennantLawnModel wavers: 245 -/
def gM_wavers_h15 (v1 : Int32) (s : mT) (q : Int32 × Int32) : Option ((Int32 × Int32) ⊕ (Int32)) :=
  (gM_last s).bind fun p1 =>
  if p1 < q.2 then
    some (.inr q.1)
  else
    (gM_onOf v1 q.2 s).bind fun p3 =>
    (gM_onOf v1 (q.2 - (1 : Int32)) s).bind fun p4 =>
    (
      if p3 = p4 then
        some ((0 : Int32))
      else
        some ((1 : Int32)) : Option (Int32)).bind fun x5 =>
    some (.inl (q.1 + x5, q.2 + (1 : Int32)))
set_option maxRecDepth 8000 in
theorem gM_wavers_h15_ok {L d : Nat} (hd : 7 ≤ d + 1) {v1 : Int32} {s : mT} : ∀ (q : Int32 × Int32) (x : (Int32 × Int32) ⊕ (Int32)), gM_wavers_h15 v1 s q = some x → ∀ o, sK (fun q => Ev (d + 1) 245 15 [(0, .ref 294), (1, .int v1), (2, .int q.1), (3, .int q.2)] [] (uS L s) o) (fun r => Ev (d + 1) 245 54 [(2, .int r)] [] (uS L s) o) x → Ev (d + 1) 245 15 [(0, .ref 294), (1, .int v1), (2, .int q.1), (3, .int q.2)] [] (uS L s) o := by
  intro q x h o ho
  unfold gM_wavers_h15 at h
  refine Ev.seg D_245 [(.iload_n 3, 1), (.aload_n 0, 1)] (by decide +kernel) (j := 0) (pc' := 17) (lv' := [(0, .ref 294), (1, .int v1), (2, .int q.1), (3, .int q.2)]) (st' := [.ref 294, .int q.2]) rfl ?_
  obtain ⟨p1, e1, h⟩ := bd h
  refine Ev.callv D_245 E_216 (by decide +kernel) C_10_96 294 [] (r := [.int q.2]) rfl (gd_o k_294 (by decide)) rfl (Nat.le_of_ble_eq_true rfl) (Nat.le_of_ble_eq_true rfl) (gM_last_ok (by omega)  e1) ?_
  refine Ev.icmp D_245 (c := .gt) (off := 34) (by decide +kernel) (t := 54) rfl (fun c2 => ?_) (fun c2 => ?_)
  · have c2 : p1 < q.2 := of_decide_eq_true c2
    rw [if_pos c2] at h
    cases h
    exact Ev.sub (lv' := [(2, .int q.1)]) (subL_cons rfl subL_nil) ho
  · have c2 : ¬ p1 < q.2 := of_decide_eq_false c2
    rw [if_neg c2] at h
    refine Ev.seg D_245 [(.iload_n 2, 1), (.aload_n 0, 1), (.iload_n 1, 1), (.iload_n 3, 1)] (by decide +kernel) (j := 0) (pc' := 27) (lv' := [(0, .ref 294), (1, .int v1), (2, .int q.1), (3, .int q.2)]) (st' := [.int q.2, .int v1, .ref 294, .int q.1]) rfl ?_
    obtain ⟨p3, e3, h⟩ := bd h
    refine Ev.callv D_245 E_218 (by decide +kernel) C_10_243 294 [.int v1, .int q.2] (r := [.int q.1]) rfl (gd_o k_294 (by decide)) rfl (Nat.le_of_ble_eq_true rfl) (Nat.le_of_ble_eq_true rfl) (gM_onOf_ok (by omega)  e3) ?_
    refine Ev.seg D_245 [(.aload_n 0, 1), (.iload_n 1, 1), (.iload_n 3, 1), (.iconst 1, 1), (.isub, 1)] (by decide +kernel) (j := 0) (pc' := 35) (lv' := [(0, .ref 294), (1, .int v1), (2, .int q.1), (3, .int q.2)]) (st' := [.int (q.2 - (1 : Int32)), .int v1, .ref 294, .int p3, .int q.1]) rfl ?_
    obtain ⟨p4, e4, h⟩ := bd h
    refine Ev.callv D_245 E_218 (by decide +kernel) C_10_243 294 [.int v1, .int (q.2 - (1 : Int32))] (r := [.int p3, .int q.1]) rfl (gd_o k_294 (by decide)) rfl (Nat.le_of_ble_eq_true rfl) (Nat.le_of_ble_eq_true rfl) (gM_onOf_ok (by omega)  e4) ?_
    obtain ⟨x5, g5, h⟩ := bd h
    have j5 : Ev (d + 1) 245 46 [(0, .ref 294), (1, .int v1), (3, .int q.2)] [.int x5, .int q.1] (uS L s) o := by
      clear g5
      refine Ev.seg D_245 [(.iadd, 1), (.istore_n 2, 1), (.iinc 3 1, 3), (.goto (-36), 3)] (by decide +kernel) (j := 0) (pc' := 15) (lv' := [(3, .int (q.2 + (1 : Int32))), (2, .int (q.1 + x5)), (0, .ref 294), (1, .int v1)]) (st' := []) rfl ?_
      cases h
      exact Ev.sub (lv' := [(0, .ref 294), (1, .int v1), (2, .int (q.1 + x5)), (3, .int (q.2 + (1 : Int32)))]) (subL_cons rfl (subL_cons rfl (subL_cons rfl (subL_cons rfl subL_nil)))) ho
    clear h
    refine Ev.icmp D_245 (c := .eq) (off := 7) (by decide +kernel) (t := 45) rfl (fun c5 => ?_) (fun c5 => ?_)
    · have c5 : p3 = p4 := of_decide_eq_true c5
      rw [if_pos c5] at g5
      refine Ev.seg D_245 [(.iconst 0, 1)] (by decide +kernel) (j := 0) (pc' := 46) (lv' := [(0, .ref 294), (1, .int v1), (2, .int q.1), (3, .int q.2)]) (st' := [.int (0 : Int32), .int q.1]) rfl ?_
      cases g5
      exact Ev.sub2 j5 (subL_cons rfl (subL_cons rfl (subL_cons rfl subL_nil)))
    · have c5 : ¬ p3 = p4 := of_decide_eq_false c5
      rw [if_neg c5] at g5
      refine Ev.seg D_245 [(.iconst 1, 1), (.goto 4, 3)] (by decide +kernel) (j := 0) (pc' := 46) (lv' := [(0, .ref 294), (1, .int v1), (2, .int q.1), (3, .int q.2)]) (st' := [.int (1 : Int32), .int q.1]) rfl ?_
      cases g5
      exact Ev.sub2 j5 (subL_cons rfl (subL_cons rfl (subL_cons rfl subL_nil)))
theorem gM_wavers_h15_w {L d : Nat} (hd : 7 ≤ d + 1) {v1 : Int32} {s : mT} : ∀ (n : Nat) (q : Int32 × Int32) (r : Int32), wh n (gM_wavers_h15 v1 s) q = some r → ∀ o, (fun r => Ev (d + 1) 245 54 [(2, .int r)] [] (uS L s) o) r → Ev (d + 1) 245 15 [(0, .ref 294), (1, .int v1), (2, .int q.1), (3, .int q.2)] [] (uS L s) o :=
  fun n q r h o hc => wh_ev (E := fun (q : Int32 × Int32) o => Ev (d + 1) 245 15 [(0, .ref 294), (1, .int v1), (2, .int q.1), (3, .int q.2)] [] (uS L s) o) (C := fun (r : Int32) o => (fun r => Ev (d + 1) 245 54 [(2, .int r)] [] (uS L s) o) r) (gM_wavers_h15_ok hd  ) n q r h o hc
def gM_wavers (v1 : Int32) (s : mT) : Option (Int32 × mT) :=
  (gM_asksWatcher v1 s).bind fun p1 =>
  if p1.1 = 0 then
    some (((-2 : Int32), p1.2))
  else
    (wh FU (gM_wavers_h15 v1 p1.2) ((0 : Int32), (1 : Int32))).bind fun x6 =>
    some ((x6, p1.2))
set_option maxRecDepth 8000 in
theorem gM_wavers_ok {L d : Nat} (hd : 7 ≤ d) {v1 : Int32} {s : mT} {p : Int32 × mT} (h : gM_wavers v1 s = some p) : Ev d 245 0 [(0, .ref 294), (1, .int v1)] [] (uS L s) (some (.int p.1), uS L p.2) := by
  obtain ⟨d, rfl⟩ : ∃ e, d = e + 1 := ⟨d - 1, by omega⟩
  obtain ⟨o, ho⟩ : ∃ o : Option Value × mS, o = (some (.int p.1), uS L p.2) := ⟨_, rfl⟩
  rw [← ho]
  unfold gM_wavers at h
  refine Ev.seg D_245 [(.aload_n 0, 1), (.iload_n 1, 1)] (by decide +kernel) (j := 0) (pc' := 2) (lv' := [(0, .ref 294), (1, .int v1)]) (st' := [.int v1, .ref 294]) rfl ?_
  obtain ⟨p1, e1, h⟩ := bd h
  refine Ev.callv D_245 E_246 (by decide +kernel) C_10_302 294 [.int v1] (r := []) rfl (gd_o k_294 (by decide)) rfl (Nat.le_of_ble_eq_true rfl) (Nat.le_of_ble_eq_true rfl) (gM_asksWatcher_ok (by omega)  e1) ?_
  refine Ev.if_ D_245 (c := .ne) (off := 6) (by decide +kernel) (t := 11) rfl (fun c2 => ?_) (fun c2 => ?_)
  · have c2 : ¬ p1.1 = 0 := of_decide_eq_true c2
    rw [if_neg c2] at h
    refine Ev.seg D_245 [(.iconst 0, 1), (.istore_n 2, 1), (.iconst 1, 1), (.istore_n 3, 1)] (by decide +kernel) (j := 0) (pc' := 15) (lv' := [(3, .int (1 : Int32)), (2, .int (0 : Int32)), (0, .ref 294), (1, .int v1)]) (st' := []) rfl ?_
    obtain ⟨x6, w6, h⟩ := bd h
    have j6 : Ev (d + 1) 245 54 [(2, .int x6)] [] (uS L p1.2) o := by
      clear w6
      refine Ev.seg D_245 [(.iload_n 2, 1)] (by decide +kernel) (j := 0) (pc' := 55) (lv' := [(2, .int x6)]) (st' := [.int x6]) rfl ?_
      cases h
      obtain rfl : o = _ := ho
      exact Ev.iret D_245 (by decide +kernel)
    exact Ev.sub (lv' := [(0, .ref 294), (1, .int v1), (2, .int (0 : Int32)), (3, .int (1 : Int32))]) (subL_cons rfl (subL_cons rfl (subL_cons rfl (subL_cons rfl subL_nil)))) (gM_wavers_h15_w hd   _ _ _ w6 _ j6)
  · have c2 : p1.1 = 0 := Decidable.of_not_not (of_decide_eq_false c2)
    rw [if_pos c2] at h
    refine Ev.seg D_245 [(.bipush (-2), 2)] (by decide +kernel) (j := 0) (pc' := 10) (lv' := [(0, .ref 294), (1, .int v1)]) (st' := [.int (-2 : Int32)]) rfl ?_
    cases h
    obtain rfl : o = _ := ho
    exact Ev.iret D_245 (by decide +kernel)
/- PennantLawnModel speed: 247 -/
def gM_speed (v1 : Int32) (v2 : Int32) (s : mT) : Option (Int32 × mT) :=
  (gM_asksAhead v2 s).bind fun p1 =>
  (
    if p1.1 = 0 then
      some ((-2 : Int32))
    else
      (gM_isBoat v1.toInt64 p1.2).bind fun p3 =>
      if p3 = 0 then
        some ((-2 : Int32))
      else
        (gM_placeOf v1 (v2 + (1 : Int32)) p1.2).bind fun p5 =>
        (gM_placeOf v1 v2 p1.2).bind fun p6 =>
        some (p5 - p6) : Option (Int32)).bind fun x2 =>
  some ((x2, p1.2))
set_option maxRecDepth 8000 in
theorem gM_speed_ok {L d : Nat} (hd : 7 ≤ d) {v1 : Int32} {v2 : Int32} {s : mT} {p : Int32 × mT} (h : gM_speed v1 v2 s = some p) : Ev d 247 0 [(0, .ref 294), (1, .int v1), (2, .int v2)] [] (uS L s) (some (.int p.1), uS L p.2) := by
  obtain ⟨d, rfl⟩ : ∃ e, d = e + 1 := ⟨d - 1, by omega⟩
  obtain ⟨o, ho⟩ : ∃ o : Option Value × mS, o = (some (.int p.1), uS L p.2) := ⟨_, rfl⟩
  rw [← ho]
  unfold gM_speed at h
  refine Ev.seg D_247 [(.aload_n 0, 1), (.iload_n 2, 1)] (by decide +kernel) (j := 0) (pc' := 2) (lv' := [(0, .ref 294), (1, .int v1), (2, .int v2)]) (st' := [.int v2, .ref 294]) rfl ?_
  obtain ⟨p1, e1, h⟩ := bd h
  refine Ev.callv D_247 E_225 (by decide +kernel) C_10_281 294 [.int v2] (r := []) rfl (gd_o k_294 (by decide)) rfl (Nat.le_of_ble_eq_true rfl) (Nat.le_of_ble_eq_true rfl) (gM_asksAhead_ok (by omega)  e1) ?_
  obtain ⟨x2, g2, h⟩ := bd h
  have j2 : Ev (d + 1) 247 37 [] [.int x2] (uS L p1.2) o := by
    clear g2
    cases h
    obtain rfl : o = _ := ho
    exact Ev.iret D_247 (by decide +kernel)
  clear h
  refine Ev.if_ D_247 (c := .eq) (off := 30) (by decide +kernel) (t := 35) rfl (fun c2 => ?_) (fun c2 => ?_)
  · have c2 : p1.1 = 0 := of_decide_eq_true c2
    rw [if_pos c2] at g2
    refine Ev.seg D_247 [(.bipush (-2), 2)] (by decide +kernel) (j := 0) (pc' := 37) (lv' := [(0, .ref 294), (1, .int v1), (2, .int v2)]) (st' := [.int (-2 : Int32)]) rfl ?_
    cases g2
    exact Ev.sub2 j2 subL_nil
  · have c2 : ¬ p1.1 = 0 := of_decide_eq_false c2
    rw [if_neg c2] at g2
    refine Ev.seg D_247 [(.aload_n 0, 1), (.iload_n 1, 1), (.i2l, 1)] (by decide +kernel) (j := 0) (pc' := 11) (lv' := [(0, .ref 294), (1, .int v1), (2, .int v2)]) (st' := [.long v1.toInt64, .ref 294]) rfl ?_
    obtain ⟨p3, e3, g2⟩ := bd g2
    refine Ev.callv D_247 E_204 (by decide +kernel) C_10_220 294 [.long v1.toInt64] (r := []) rfl (gd_o k_294 (by decide)) rfl (Nat.le_of_ble_eq_true rfl) (Nat.le_of_ble_eq_true rfl) (gM_isBoat_ok (by omega)  e3) ?_
    refine Ev.if_ D_247 (c := .eq) (off := 21) (by decide +kernel) (t := 35) rfl (fun c4 => ?_) (fun c4 => ?_)
    · have c4 : p3 = 0 := of_decide_eq_true c4
      rw [if_pos c4] at g2
      refine Ev.seg D_247 [(.bipush (-2), 2)] (by decide +kernel) (j := 0) (pc' := 37) (lv' := [(0, .ref 294), (1, .int v1), (2, .int v2)]) (st' := [.int (-2 : Int32)]) rfl ?_
      cases g2
      exact Ev.sub2 j2 subL_nil
    · have c4 : ¬ p3 = 0 := of_decide_eq_false c4
      rw [if_neg c4] at g2
      refine Ev.seg D_247 [(.aload_n 0, 1), (.iload_n 1, 1), (.iload_n 2, 1), (.iconst 1, 1), (.iadd, 1)] (by decide +kernel) (j := 0) (pc' := 22) (lv' := [(0, .ref 294), (1, .int v1), (2, .int v2)]) (st' := [.int (v2 + (1 : Int32)), .int v1, .ref 294]) rfl ?_
      obtain ⟨p5, e5, g2⟩ := bd g2
      refine Ev.callv D_247 E_220 (by decide +kernel) C_10_240 294 [.int v1, .int (v2 + (1 : Int32))] (r := []) rfl (gd_o k_294 (by decide)) rfl (Nat.le_of_ble_eq_true rfl) (Nat.le_of_ble_eq_true rfl) (gM_placeOf_ok (by omega)  e5) ?_
      refine Ev.seg D_247 [(.aload_n 0, 1), (.iload_n 1, 1), (.iload_n 2, 1)] (by decide +kernel) (j := 0) (pc' := 28) (lv' := [(0, .ref 294), (1, .int v1), (2, .int v2)]) (st' := [.int v2, .int v1, .ref 294, .int p5]) rfl ?_
      obtain ⟨p6, e6, g2⟩ := bd g2
      refine Ev.callv D_247 E_220 (by decide +kernel) C_10_240 294 [.int v1, .int v2] (r := [.int p5]) rfl (gd_o k_294 (by decide)) rfl (Nat.le_of_ble_eq_true rfl) (Nat.le_of_ble_eq_true rfl) (gM_placeOf_ok (by omega)  e6) ?_
      refine Ev.seg D_247 [(.isub, 1), (.goto 5, 3)] (by decide +kernel) (j := 0) (pc' := 37) (lv' := [(0, .ref 294), (1, .int v1), (2, .int v2)]) (st' := [.int (p5 - p6)]) rfl ?_
      cases g2
      exact Ev.sub2 j2 subL_nil
/- PennantLawnModel lacks: 248 -/
def gM_lacks (v1 : Int32) (v2 : Int32) (s : mT) : Option (Int32 × mT) :=
  (gM_asksAhead v2 s).bind fun p1 =>
  (
    if p1.1 = 0 then
      some ((-2 : Int32))
    else
      (gM_isBoat v1.toInt64 p1.2).bind fun p3 =>
      if p3 = 0 then
        some ((-2 : Int32))
      else
        (rdI (p1.2.1 302) 5 v1).bind fun x6 =>
        (rdI (p1.2.1 307) 105 (((5 : Int32) * v2) + v1)).bind fun x8 =>
        some (imax (0 : Int32) (x6 - x8)) : Option (Int32)).bind fun x2 =>
  some ((x2, p1.2))
set_option maxRecDepth 8000 in
theorem gM_lacks_ok {L d : Nat} (hd : 7 ≤ d) {v1 : Int32} {v2 : Int32} {s : mT} {p : Int32 × mT} (h : gM_lacks v1 v2 s = some p) : Ev d 248 0 [(0, .ref 294), (1, .int v1), (2, .int v2)] [] (uS L s) (some (.int p.1), uS L p.2) := by
  obtain ⟨d, rfl⟩ : ∃ e, d = e + 1 := ⟨d - 1, by omega⟩
  obtain ⟨o, ho⟩ : ∃ o : Option Value × mS, o = (some (.int p.1), uS L p.2) := ⟨_, rfl⟩
  rw [← ho]
  unfold gM_lacks at h
  refine Ev.seg D_248 [(.aload_n 0, 1), (.iload_n 2, 1)] (by decide +kernel) (j := 0) (pc' := 2) (lv' := [(0, .ref 294), (1, .int v1), (2, .int v2)]) (st' := [.int v2, .ref 294]) rfl ?_
  obtain ⟨p1, e1, h⟩ := bd h
  refine Ev.callv D_248 E_225 (by decide +kernel) C_10_281 294 [.int v2] (r := []) rfl (gd_o k_294 (by decide)) rfl (Nat.le_of_ble_eq_true rfl) (Nat.le_of_ble_eq_true rfl) (gM_asksAhead_ok (by omega)  e1) ?_
  obtain ⟨x2, g2, h⟩ := bd h
  have j2 : Ev (d + 1) 248 43 [] [.int x2] (uS L p1.2) o := by
    clear g2
    cases h
    obtain rfl : o = _ := ho
    exact Ev.iret D_248 (by decide +kernel)
  clear h
  refine Ev.if_ D_248 (c := .eq) (off := 36) (by decide +kernel) (t := 41) rfl (fun c2 => ?_) (fun c2 => ?_)
  · have c2 : p1.1 = 0 := of_decide_eq_true c2
    rw [if_pos c2] at g2
    refine Ev.seg D_248 [(.bipush (-2), 2)] (by decide +kernel) (j := 0) (pc' := 43) (lv' := [(0, .ref 294), (1, .int v1), (2, .int v2)]) (st' := [.int (-2 : Int32)]) rfl ?_
    cases g2
    exact Ev.sub2 j2 subL_nil
  · have c2 : ¬ p1.1 = 0 := of_decide_eq_false c2
    rw [if_neg c2] at g2
    refine Ev.seg D_248 [(.aload_n 0, 1), (.iload_n 1, 1), (.i2l, 1)] (by decide +kernel) (j := 0) (pc' := 11) (lv' := [(0, .ref 294), (1, .int v1), (2, .int v2)]) (st' := [.long v1.toInt64, .ref 294]) rfl ?_
    obtain ⟨p3, e3, g2⟩ := bd g2
    refine Ev.callv D_248 E_204 (by decide +kernel) C_10_220 294 [.long v1.toInt64] (r := []) rfl (gd_o k_294 (by decide)) rfl (Nat.le_of_ble_eq_true rfl) (Nat.le_of_ble_eq_true rfl) (gM_isBoat_ok (by omega)  e3) ?_
    refine Ev.if_ D_248 (c := .eq) (off := 27) (by decide +kernel) (t := 41) rfl (fun c4 => ?_) (fun c4 => ?_)
    · have c4 : p3 = 0 := of_decide_eq_true c4
      rw [if_pos c4] at g2
      refine Ev.seg D_248 [(.bipush (-2), 2)] (by decide +kernel) (j := 0) (pc' := 43) (lv' := [(0, .ref 294), (1, .int v1), (2, .int v2)]) (st' := [.int (-2 : Int32)]) rfl ?_
      cases g2
      exact Ev.sub2 j2 subL_nil
    · have c4 : ¬ p3 = 0 := of_decide_eq_false c4
      rw [if_neg c4] at g2
      refine Ev.seg D_248 [(.iconst 0, 1), (.aload_n 0, 1)] (by decide +kernel) (j := 0) (pc' := 19) (lv' := [(0, .ref 294), (1, .int v1), (2, .int v2)]) (st' := [.ref 294, .int (0 : Int32)]) rfl ?_
      refine Ev.getR D_248 (by decide +kernel) F_10_37 T_10_16 (x := 302) (S_oR k_294 (by decide +kernel)) ?_
      refine Ev.seg D_248 [(.iload_n 1, 1)] (by decide +kernel) (j := 0) (pc' := 23) (lv' := [(0, .ref 294), (1, .int v1), (2, .int v2)]) (st' := [.int v1, .ref 302, .int (0 : Int32)]) rfl ?_
      obtain ⟨x6, e6, g2⟩ := bd g2
      refine Ev.iald D_248 (by decide +kernel) (S_aI k_302 e6) ?_
      refine Ev.seg D_248 [(.aload_n 0, 1)] (by decide +kernel) (j := 0) (pc' := 25) (lv' := [(0, .ref 294), (1, .int v1), (2, .int v2)]) (st' := [.ref 294, .int x6, .int (0 : Int32)]) rfl ?_
      refine Ev.getR D_248 (by decide +kernel) F_10_52 T_10_23 (x := 307) (S_oR k_294 (by decide +kernel)) ?_
      refine Ev.seg D_248 [(.iconst 5, 1), (.iload_n 2, 1), (.imul, 1), (.iload_n 1, 1), (.iadd, 1)] (by decide +kernel) (j := 0) (pc' := 33) (lv' := [(0, .ref 294), (1, .int v1), (2, .int v2)]) (st' := [.int (((5 : Int32) * v2) + v1), .ref 307, .int x6, .int (0 : Int32)]) rfl ?_
      obtain ⟨x8, e8, g2⟩ := bd g2
      refine Ev.iald D_248 (by decide +kernel) (S_aI k_307 e8) ?_
      refine Ev.seg D_248 [(.isub, 1)] (by decide +kernel) (j := 0) (pc' := 35) (lv' := [(0, .ref 294), (1, .int v1), (2, .int v2)]) (st' := [.int (x6 - x8), .int (0 : Int32)]) rfl ?_
      refine Ev.max D_248 (by decide +kernel) (Nat.succ_pos _) C_10_237 (Nat.le_of_ble_eq_true rfl) ?_
      refine Ev.seg D_248 [(.goto 5, 3)] (by decide +kernel) (j := 0) (pc' := 43) (lv' := [(0, .ref 294), (1, .int v1), (2, .int v2)]) (st' := [.int (imax (0 : Int32) (x6 - x8))]) rfl ?_
      cases g2
      exact Ev.sub2 j2 subL_nil
/- PennantLawnModel total: 249 -/
def gM_total_h15 (v1 : Int32) (s : mT) (q : Int32 × Int32) : Option ((Int32 × Int32) ⊕ (Int32)) :=
  (gM_last s).bind fun p1 =>
  if p1 ≤ q.2 then
    some (.inr q.1)
  else
    (rdI (s.1 307) 105 (((5 : Int32) * q.2) + v1)).bind fun x4 =>
    some (.inl (q.1 + x4, q.2 + (1 : Int32)))
set_option maxRecDepth 8000 in
theorem gM_total_h15_ok {L d : Nat} (hd : 7 ≤ d + 1) {v1 : Int32} {s : mT} : ∀ (q : Int32 × Int32) (x : (Int32 × Int32) ⊕ (Int32)), gM_total_h15 v1 s q = some x → ∀ o, sK (fun q => Ev (d + 1) 249 15 [(0, .ref 294), (1, .int v1), (2, .int q.1), (3, .int q.2)] [] (uS L s) o) (fun r => Ev (d + 1) 249 42 [(2, .int r)] [] (uS L s) o) x → Ev (d + 1) 249 15 [(0, .ref 294), (1, .int v1), (2, .int q.1), (3, .int q.2)] [] (uS L s) o := by
  intro q x h o ho
  unfold gM_total_h15 at h
  refine Ev.seg D_249 [(.iload_n 3, 1), (.aload_n 0, 1)] (by decide +kernel) (j := 0) (pc' := 17) (lv' := [(0, .ref 294), (1, .int v1), (2, .int q.1), (3, .int q.2)]) (st' := [.ref 294, .int q.2]) rfl ?_
  obtain ⟨p1, e1, h⟩ := bd h
  refine Ev.callv D_249 E_216 (by decide +kernel) C_10_96 294 [] (r := [.int q.2]) rfl (gd_o k_294 (by decide)) rfl (Nat.le_of_ble_eq_true rfl) (Nat.le_of_ble_eq_true rfl) (gM_last_ok (by omega)  e1) ?_
  refine Ev.icmp D_249 (c := .ge) (off := 22) (by decide +kernel) (t := 42) rfl (fun c2 => ?_) (fun c2 => ?_)
  · have c2 : p1 ≤ q.2 := of_decide_eq_true c2
    rw [if_pos c2] at h
    cases h
    exact Ev.sub (lv' := [(2, .int q.1)]) (subL_cons rfl subL_nil) ho
  · have c2 : ¬ p1 ≤ q.2 := of_decide_eq_false c2
    rw [if_neg c2] at h
    refine Ev.seg D_249 [(.iload_n 2, 1), (.aload_n 0, 1)] (by decide +kernel) (j := 0) (pc' := 25) (lv' := [(0, .ref 294), (1, .int v1), (2, .int q.1), (3, .int q.2)]) (st' := [.ref 294, .int q.1]) rfl ?_
    refine Ev.getR D_249 (by decide +kernel) F_10_52 T_10_23 (x := 307) (S_oR k_294 (by decide +kernel)) ?_
    refine Ev.seg D_249 [(.iconst 5, 1), (.iload_n 3, 1), (.imul, 1), (.iload_n 1, 1), (.iadd, 1)] (by decide +kernel) (j := 0) (pc' := 33) (lv' := [(0, .ref 294), (1, .int v1), (2, .int q.1), (3, .int q.2)]) (st' := [.int (((5 : Int32) * q.2) + v1), .ref 307, .int q.1]) rfl ?_
    obtain ⟨x4, e4, h⟩ := bd h
    refine Ev.iald D_249 (by decide +kernel) (S_aI k_307 e4) ?_
    refine Ev.seg D_249 [(.iadd, 1), (.istore_n 2, 1), (.iinc 3 1, 3), (.goto (-24), 3)] (by decide +kernel) (j := 0) (pc' := 15) (lv' := [(3, .int (q.2 + (1 : Int32))), (2, .int (q.1 + x4)), (0, .ref 294), (1, .int v1)]) (st' := []) rfl ?_
    cases h
    exact Ev.sub (lv' := [(0, .ref 294), (1, .int v1), (2, .int (q.1 + x4)), (3, .int (q.2 + (1 : Int32)))]) (subL_cons rfl (subL_cons rfl (subL_cons rfl (subL_cons rfl subL_nil)))) ho
theorem gM_total_h15_w {L d : Nat} (hd : 7 ≤ d + 1) {v1 : Int32} {s : mT} : ∀ (n : Nat) (q : Int32 × Int32) (r : Int32), wh n (gM_total_h15 v1 s) q = some r → ∀ o, (fun r => Ev (d + 1) 249 42 [(2, .int r)] [] (uS L s) o) r → Ev (d + 1) 249 15 [(0, .ref 294), (1, .int v1), (2, .int q.1), (3, .int q.2)] [] (uS L s) o :=
  fun n q r h o hc => wh_ev (E := fun (q : Int32 × Int32) o => Ev (d + 1) 249 15 [(0, .ref 294), (1, .int v1), (2, .int q.1), (3, .int q.2)] [] (uS L s) o) (C := fun (r : Int32) o => (fun r => Ev (d + 1) 249 42 [(2, .int r)] [] (uS L s) o) r) (gM_total_h15_ok hd  ) n q r h o hc
def gM_total (v1 : Int32) (s : mT) : Option (Int32 × mT) :=
  (gM_asksBoat v1 s).bind fun p1 =>
  if p1.1 = 0 then
    some (((-2 : Int32), p1.2))
  else
    (wh FU (gM_total_h15 v1 p1.2) ((0 : Int32), (0 : Int32))).bind fun x5 =>
    some ((x5, p1.2))
set_option maxRecDepth 8000 in
theorem gM_total_ok {L d : Nat} (hd : 7 ≤ d) {v1 : Int32} {s : mT} {p : Int32 × mT} (h : gM_total v1 s = some p) : Ev d 249 0 [(0, .ref 294), (1, .int v1)] [] (uS L s) (some (.int p.1), uS L p.2) := by
  obtain ⟨d, rfl⟩ : ∃ e, d = e + 1 := ⟨d - 1, by omega⟩
  obtain ⟨o, ho⟩ : ∃ o : Option Value × mS, o = (some (.int p.1), uS L p.2) := ⟨_, rfl⟩
  rw [← ho]
  unfold gM_total at h
  refine Ev.seg D_249 [(.aload_n 0, 1), (.iload_n 1, 1)] (by decide +kernel) (j := 0) (pc' := 2) (lv' := [(0, .ref 294), (1, .int v1)]) (st' := [.int v1, .ref 294]) rfl ?_
  obtain ⟨p1, e1, h⟩ := bd h
  refine Ev.callv D_249 E_234 (by decide +kernel) C_10_290 294 [.int v1] (r := []) rfl (gd_o k_294 (by decide)) rfl (Nat.le_of_ble_eq_true rfl) (Nat.le_of_ble_eq_true rfl) (gM_asksBoat_ok (by omega)  e1) ?_
  refine Ev.if_ D_249 (c := .ne) (off := 6) (by decide +kernel) (t := 11) rfl (fun c2 => ?_) (fun c2 => ?_)
  · have c2 : ¬ p1.1 = 0 := of_decide_eq_true c2
    rw [if_neg c2] at h
    refine Ev.seg D_249 [(.iconst 0, 1), (.istore_n 2, 1), (.iconst 0, 1), (.istore_n 3, 1)] (by decide +kernel) (j := 0) (pc' := 15) (lv' := [(3, .int (0 : Int32)), (2, .int (0 : Int32)), (0, .ref 294), (1, .int v1)]) (st' := []) rfl ?_
    obtain ⟨x5, w5, h⟩ := bd h
    have j5 : Ev (d + 1) 249 42 [(2, .int x5)] [] (uS L p1.2) o := by
      clear w5
      refine Ev.seg D_249 [(.iload_n 2, 1)] (by decide +kernel) (j := 0) (pc' := 43) (lv' := [(2, .int x5)]) (st' := [.int x5]) rfl ?_
      cases h
      obtain rfl : o = _ := ho
      exact Ev.iret D_249 (by decide +kernel)
    exact Ev.sub (lv' := [(0, .ref 294), (1, .int v1), (2, .int (0 : Int32)), (3, .int (0 : Int32))]) (subL_cons rfl (subL_cons rfl (subL_cons rfl (subL_cons rfl subL_nil)))) (gM_total_h15_w hd   _ _ _ w5 _ j5)
  · have c2 : p1.1 = 0 := Decidable.of_not_not (of_decide_eq_false c2)
    rw [if_pos c2] at h
    refine Ev.seg D_249 [(.bipush (-2), 2)] (by decide +kernel) (j := 0) (pc' := 10) (lv' := [(0, .ref 294), (1, .int v1)]) (st' := [.int (-2 : Int32)]) rfl ?_
    cases h
    obtain rfl : o = _ := ho
    exact Ev.iret D_249 (by decide +kernel)
/- PennantLawnModel fleet: 250 -/
def gM_fleet_h15 (v1 : Int32) (s : mT) (q : Int32 × Int32) : Option ((Int32 × Int32) ⊕ (Int32)) :=
  (rdI (s.1 295) 79 (4 : Int32)).bind fun x2 =>
  if x2 ≤ q.2 then
    some (.inr q.1)
  else
    (gM_placeOf q.2 v1 s).bind fun p4 =>
    some (.inl (q.1 + p4, q.2 + (1 : Int32)))
set_option maxRecDepth 8000 in
theorem gM_fleet_h15_ok {L d : Nat} (hd : 7 ≤ d + 1) {v1 : Int32} {s : mT} : ∀ (q : Int32 × Int32) (x : (Int32 × Int32) ⊕ (Int32)), gM_fleet_h15 v1 s q = some x → ∀ o, sK (fun q => Ev (d + 1) 250 15 [(0, .ref 294), (1, .int v1), (2, .int q.1), (3, .int q.2)] [] (uS L s) o) (fun r => Ev (d + 1) 250 40 [(2, .int r)] [] (uS L s) o) x → Ev (d + 1) 250 15 [(0, .ref 294), (1, .int v1), (2, .int q.1), (3, .int q.2)] [] (uS L s) o := by
  intro q x h o ho
  unfold gM_fleet_h15 at h
  refine Ev.seg D_250 [(.iload_n 3, 1), (.aload_n 0, 1)] (by decide +kernel) (j := 0) (pc' := 17) (lv' := [(0, .ref 294), (1, .int v1), (2, .int q.1), (3, .int q.2)]) (st' := [.ref 294, .int q.2]) rfl ?_
  refine Ev.getR D_250 (by decide +kernel) F_10_9 T_10_1 (x := 295) (S_oR k_294 (by decide +kernel)) ?_
  refine Ev.seg D_250 [(.iconst 4, 1)] (by decide +kernel) (j := 0) (pc' := 21) (lv' := [(0, .ref 294), (1, .int v1), (2, .int q.1), (3, .int q.2)]) (st' := [.int (4 : Int32), .ref 295, .int q.2]) rfl ?_
  obtain ⟨x2, e2, h⟩ := bd h
  refine Ev.iald D_250 (by decide +kernel) (S_aI k_295 e2) ?_
  refine Ev.icmp D_250 (c := .ge) (off := 18) (by decide +kernel) (t := 40) rfl (fun c3 => ?_) (fun c3 => ?_)
  · have c3 : x2 ≤ q.2 := of_decide_eq_true c3
    rw [if_pos c3] at h
    cases h
    exact Ev.sub (lv' := [(2, .int q.1)]) (subL_cons rfl subL_nil) ho
  · have c3 : ¬ x2 ≤ q.2 := of_decide_eq_false c3
    rw [if_neg c3] at h
    refine Ev.seg D_250 [(.iload_n 2, 1), (.aload_n 0, 1), (.iload_n 3, 1), (.iload_n 1, 1)] (by decide +kernel) (j := 0) (pc' := 29) (lv' := [(0, .ref 294), (1, .int v1), (2, .int q.1), (3, .int q.2)]) (st' := [.int v1, .int q.2, .ref 294, .int q.1]) rfl ?_
    obtain ⟨p4, e4, h⟩ := bd h
    refine Ev.callv D_250 E_220 (by decide +kernel) C_10_240 294 [.int q.2, .int v1] (r := [.int q.1]) rfl (gd_o k_294 (by decide)) rfl (Nat.le_of_ble_eq_true rfl) (Nat.le_of_ble_eq_true rfl) (gM_placeOf_ok (by omega)  e4) ?_
    refine Ev.seg D_250 [(.iadd, 1), (.istore_n 2, 1), (.iinc 3 1, 3), (.goto (-22), 3)] (by decide +kernel) (j := 0) (pc' := 15) (lv' := [(3, .int (q.2 + (1 : Int32))), (2, .int (q.1 + p4)), (0, .ref 294), (1, .int v1)]) (st' := []) rfl ?_
    cases h
    exact Ev.sub (lv' := [(0, .ref 294), (1, .int v1), (2, .int (q.1 + p4)), (3, .int (q.2 + (1 : Int32)))]) (subL_cons rfl (subL_cons rfl (subL_cons rfl (subL_cons rfl subL_nil)))) ho
theorem gM_fleet_h15_w {L d : Nat} (hd : 7 ≤ d + 1) {v1 : Int32} {s : mT} : ∀ (n : Nat) (q : Int32 × Int32) (r : Int32), wh n (gM_fleet_h15 v1 s) q = some r → ∀ o, (fun r => Ev (d + 1) 250 40 [(2, .int r)] [] (uS L s) o) r → Ev (d + 1) 250 15 [(0, .ref 294), (1, .int v1), (2, .int q.1), (3, .int q.2)] [] (uS L s) o :=
  fun n q r h o hc => wh_ev (E := fun (q : Int32 × Int32) o => Ev (d + 1) 250 15 [(0, .ref 294), (1, .int v1), (2, .int q.1), (3, .int q.2)] [] (uS L s) o) (C := fun (r : Int32) o => (fun r => Ev (d + 1) 250 40 [(2, .int r)] [] (uS L s) o) r) (gM_fleet_h15_ok hd  ) n q r h o hc
def gM_fleet (v1 : Int32) (s : mT) : Option (Int32 × mT) :=
  (gM_asksStep v1 s).bind fun p1 =>
  if p1.1 = 0 then
    some (((-2 : Int32), p1.2))
  else
    (wh FU (gM_fleet_h15 v1 p1.2) ((0 : Int32), (0 : Int32))).bind fun x5 =>
    some ((x5, p1.2))
set_option maxRecDepth 8000 in
theorem gM_fleet_ok {L d : Nat} (hd : 7 ≤ d) {v1 : Int32} {s : mT} {p : Int32 × mT} (h : gM_fleet v1 s = some p) : Ev d 250 0 [(0, .ref 294), (1, .int v1)] [] (uS L s) (some (.int p.1), uS L p.2) := by
  obtain ⟨d, rfl⟩ : ∃ e, d = e + 1 := ⟨d - 1, by omega⟩
  obtain ⟨o, ho⟩ : ∃ o : Option Value × mS, o = (some (.int p.1), uS L p.2) := ⟨_, rfl⟩
  rw [← ho]
  unfold gM_fleet at h
  refine Ev.seg D_250 [(.aload_n 0, 1), (.iload_n 1, 1)] (by decide +kernel) (j := 0) (pc' := 2) (lv' := [(0, .ref 294), (1, .int v1)]) (st' := [.int v1, .ref 294]) rfl ?_
  obtain ⟨p1, e1, h⟩ := bd h
  refine Ev.callv D_250 E_210 (by decide +kernel) C_10_278 294 [.int v1] (r := []) rfl (gd_o k_294 (by decide)) rfl (Nat.le_of_ble_eq_true rfl) (Nat.le_of_ble_eq_true rfl) (gM_asksStep_ok (by omega)  e1) ?_
  refine Ev.if_ D_250 (c := .ne) (off := 6) (by decide +kernel) (t := 11) rfl (fun c2 => ?_) (fun c2 => ?_)
  · have c2 : ¬ p1.1 = 0 := of_decide_eq_true c2
    rw [if_neg c2] at h
    refine Ev.seg D_250 [(.iconst 0, 1), (.istore_n 2, 1), (.iconst 0, 1), (.istore_n 3, 1)] (by decide +kernel) (j := 0) (pc' := 15) (lv' := [(3, .int (0 : Int32)), (2, .int (0 : Int32)), (0, .ref 294), (1, .int v1)]) (st' := []) rfl ?_
    obtain ⟨x5, w5, h⟩ := bd h
    have j5 : Ev (d + 1) 250 40 [(2, .int x5)] [] (uS L p1.2) o := by
      clear w5
      refine Ev.seg D_250 [(.iload_n 2, 1)] (by decide +kernel) (j := 0) (pc' := 41) (lv' := [(2, .int x5)]) (st' := [.int x5]) rfl ?_
      cases h
      obtain rfl : o = _ := ho
      exact Ev.iret D_250 (by decide +kernel)
    exact Ev.sub (lv' := [(0, .ref 294), (1, .int v1), (2, .int (0 : Int32)), (3, .int (0 : Int32))]) (subL_cons rfl (subL_cons rfl (subL_cons rfl (subL_cons rfl subL_nil)))) (gM_fleet_h15_w hd   _ _ _ w5 _ j5)
  · have c2 : p1.1 = 0 := Decidable.of_not_not (of_decide_eq_false c2)
    rw [if_pos c2] at h
    refine Ev.seg D_250 [(.bipush (-2), 2)] (by decide +kernel) (j := 0) (pc' := 10) (lv' := [(0, .ref 294), (1, .int v1)]) (st' := [.int (-2 : Int32)]) rfl ?_
    cases h
    obtain rfl : o = _ := ho
    exact Ev.iret D_250 (by decide +kernel)
/- PennantLawnModel gaze: 251 -/
def gM_gaze_h35 (v1 : Int32) (v2 : Int32) (v3 : Int32) (v4 : Int32) (s : mT) (q : Int32 × Int32) : Option ((Int32 × Int32) ⊕ (Int32)) :=
  (gM_last s).bind fun p1 =>
  if p1 < q.2 then
    some (.inr q.1)
  else
    (gM_onOf v1 q.2 s).bind fun p3 =>
    (
      if p3 = v4 then
        some ((1 : Int32))
      else
        some ((0 : Int32)) : Option (Int32)).bind fun x4 =>
    some (.inl (q.1 + x4, q.2 + (1 : Int32)))
set_option maxRecDepth 8000 in
theorem gM_gaze_h35_ok {L d : Nat} (hd : 7 ≤ d + 1) {v1 : Int32} {v2 : Int32} {v3 : Int32} {v4 : Int32} {s : mT} : ∀ (q : Int32 × Int32) (x : (Int32 × Int32) ⊕ (Int32)), gM_gaze_h35 v1 v2 v3 v4 s q = some x → ∀ o, sK (fun q => Ev (d + 1) 251 35 [(0, .ref 294), (1, .int v1), (2, .int v2), (3, .int v3), (4, .int v4), (5, .int q.1), (6, .int q.2)] [] (uS L s) o) (fun r => Ev (d + 1) 251 72 [(0, .ref 294), (1, .int v1), (2, .int v2), (3, .int v3), (4, .int v4), (5, .int r)] [] (uS L s) o) x → Ev (d + 1) 251 35 [(0, .ref 294), (1, .int v1), (2, .int v2), (3, .int v3), (4, .int v4), (5, .int q.1), (6, .int q.2)] [] (uS L s) o := by
  intro q x h o ho
  unfold gM_gaze_h35 at h
  refine Ev.seg D_251 [(.iload 6, 2), (.aload_n 0, 1)] (by decide +kernel) (j := 0) (pc' := 38) (lv' := [(0, .ref 294), (1, .int v1), (2, .int v2), (3, .int v3), (4, .int v4), (5, .int q.1), (6, .int q.2)]) (st' := [.ref 294, .int q.2]) rfl ?_
  obtain ⟨p1, e1, h⟩ := bd h
  refine Ev.callv D_251 E_216 (by decide +kernel) C_10_96 294 [] (r := [.int q.2]) rfl (gd_o k_294 (by decide)) rfl (Nat.le_of_ble_eq_true rfl) (Nat.le_of_ble_eq_true rfl) (gM_last_ok (by omega)  e1) ?_
  refine Ev.icmp D_251 (c := .gt) (off := 31) (by decide +kernel) (t := 72) rfl (fun c2 => ?_) (fun c2 => ?_)
  · have c2 : p1 < q.2 := of_decide_eq_true c2
    rw [if_pos c2] at h
    cases h
    exact Ev.sub (lv' := [(0, .ref 294), (1, .int v1), (2, .int v2), (3, .int v3), (4, .int v4), (5, .int q.1)]) (subL_cons rfl (subL_cons rfl (subL_cons rfl (subL_cons rfl (subL_cons rfl (subL_cons rfl subL_nil)))))) ho
  · have c2 : ¬ p1 < q.2 := of_decide_eq_false c2
    rw [if_neg c2] at h
    refine Ev.seg D_251 [(.iload 5, 2), (.aload_n 0, 1), (.iload_n 1, 1), (.iload 6, 2)] (by decide +kernel) (j := 0) (pc' := 50) (lv' := [(0, .ref 294), (1, .int v1), (2, .int v2), (3, .int v3), (4, .int v4), (5, .int q.1), (6, .int q.2)]) (st' := [.int q.2, .int v1, .ref 294, .int q.1]) rfl ?_
    obtain ⟨p3, e3, h⟩ := bd h
    refine Ev.callv D_251 E_218 (by decide +kernel) C_10_243 294 [.int v1, .int q.2] (r := [.int q.1]) rfl (gd_o k_294 (by decide)) rfl (Nat.le_of_ble_eq_true rfl) (Nat.le_of_ble_eq_true rfl) (gM_onOf_ok (by omega)  e3) ?_
    refine Ev.seg D_251 [(.iload 4, 2)] (by decide +kernel) (j := 0) (pc' := 55) (lv' := [(0, .ref 294), (1, .int v1), (2, .int v2), (3, .int v3), (4, .int v4), (5, .int q.1), (6, .int q.2)]) (st' := [.int v4, .int p3, .int q.1]) rfl ?_
    obtain ⟨x4, g4, h⟩ := bd h
    have j4 : Ev (d + 1) 251 63 [(0, .ref 294), (1, .int v1), (2, .int v2), (3, .int v3), (4, .int v4), (6, .int q.2)] [.int x4, .int q.1] (uS L s) o := by
      clear g4
      refine Ev.seg D_251 [(.iadd, 1), (.istore 5, 2), (.iinc 6 1, 3), (.goto (-34), 3)] (by decide +kernel) (j := 0) (pc' := 35) (lv' := [(6, .int (q.2 + (1 : Int32))), (5, .int (q.1 + x4)), (0, .ref 294), (1, .int v1), (2, .int v2), (3, .int v3), (4, .int v4)]) (st' := []) rfl ?_
      cases h
      exact Ev.sub (lv' := [(0, .ref 294), (1, .int v1), (2, .int v2), (3, .int v3), (4, .int v4), (5, .int (q.1 + x4)), (6, .int (q.2 + (1 : Int32)))]) (subL_cons rfl (subL_cons rfl (subL_cons rfl (subL_cons rfl (subL_cons rfl (subL_cons rfl (subL_cons rfl subL_nil))))))) ho
    clear h
    refine Ev.icmp D_251 (c := .ne) (off := 7) (by decide +kernel) (t := 62) rfl (fun c4 => ?_) (fun c4 => ?_)
    · have c4 : ¬ p3 = v4 := of_decide_eq_true c4
      rw [if_neg c4] at g4
      refine Ev.seg D_251 [(.iconst 0, 1)] (by decide +kernel) (j := 0) (pc' := 63) (lv' := [(0, .ref 294), (1, .int v1), (2, .int v2), (3, .int v3), (4, .int v4), (5, .int q.1), (6, .int q.2)]) (st' := [.int (0 : Int32), .int q.1]) rfl ?_
      cases g4
      exact Ev.sub2 j4 (subL_cons rfl (subL_cons rfl (subL_cons rfl (subL_cons rfl (subL_cons rfl (subL_cons rfl subL_nil))))))
    · have c4 : p3 = v4 := Decidable.of_not_not (of_decide_eq_false c4)
      rw [if_pos c4] at g4
      refine Ev.seg D_251 [(.iconst 1, 1), (.goto 4, 3)] (by decide +kernel) (j := 0) (pc' := 63) (lv' := [(0, .ref 294), (1, .int v1), (2, .int v2), (3, .int v3), (4, .int v4), (5, .int q.1), (6, .int q.2)]) (st' := [.int (1 : Int32), .int q.1]) rfl ?_
      cases g4
      exact Ev.sub2 j4 (subL_cons rfl (subL_cons rfl (subL_cons rfl (subL_cons rfl (subL_cons rfl (subL_cons rfl subL_nil))))))
theorem gM_gaze_h35_w {L d : Nat} (hd : 7 ≤ d + 1) {v1 : Int32} {v2 : Int32} {v3 : Int32} {v4 : Int32} {s : mT} : ∀ (n : Nat) (q : Int32 × Int32) (r : Int32), wh n (gM_gaze_h35 v1 v2 v3 v4 s) q = some r → ∀ o, (fun r => Ev (d + 1) 251 72 [(0, .ref 294), (1, .int v1), (2, .int v2), (3, .int v3), (4, .int v4), (5, .int r)] [] (uS L s) o) r → Ev (d + 1) 251 35 [(0, .ref 294), (1, .int v1), (2, .int v2), (3, .int v3), (4, .int v4), (5, .int q.1), (6, .int q.2)] [] (uS L s) o :=
  fun n q r h o hc => wh_ev (E := fun (q : Int32 × Int32) o => Ev (d + 1) 251 35 [(0, .ref 294), (1, .int v1), (2, .int v2), (3, .int v3), (4, .int v4), (5, .int q.1), (6, .int q.2)] [] (uS L s) o) (C := fun (r : Int32) o => (fun r => Ev (d + 1) 251 72 [(0, .ref 294), (1, .int v1), (2, .int v2), (3, .int v3), (4, .int v4), (5, .int r)] [] (uS L s) o) r) (gM_gaze_h35_ok hd  ) n q r h o hc
def gM_gaze_h18 (v1 : Int32) (s : mT) (q : Int32 × Int32 × Int32) : Option ((Int32 × Int32 × Int32) ⊕ (Int32)) :=
  (rdI (s.1 295) 79 (4 : Int32)).bind fun x2 =>
  if x2 ≤ q.2.2 then
    some (.inr q.1)
  else
    (wh FU (gM_gaze_h35 v1 q.1 q.2.1 q.2.2 s) ((0 : Int32), (0 : Int32))).bind fun x5 =>
    (
      if q.2.1 < x5 then
        some ((q.2.2, x5))
      else
        some ((q.1, q.2.1)) : Option (Int32 × Int32)).bind fun x6 =>
    some (.inl (x6.1, x6.2, q.2.2 + (1 : Int32)))
set_option maxRecDepth 8000 in
theorem gM_gaze_h18_ok {L d : Nat} (hd : 7 ≤ d + 1) {v1 : Int32} {s : mT} : ∀ (q : Int32 × Int32 × Int32) (x : (Int32 × Int32 × Int32) ⊕ (Int32)), gM_gaze_h18 v1 s q = some x → ∀ o, sK (fun q => Ev (d + 1) 251 18 [(0, .ref 294), (1, .int v1), (2, .int q.1), (3, .int q.2.1), (4, .int q.2.2)] [] (uS L s) o) (fun r => Ev (d + 1) 251 93 [(2, .int r)] [] (uS L s) o) x → Ev (d + 1) 251 18 [(0, .ref 294), (1, .int v1), (2, .int q.1), (3, .int q.2.1), (4, .int q.2.2)] [] (uS L s) o := by
  intro q x h o ho
  unfold gM_gaze_h18 at h
  refine Ev.seg D_251 [(.iload 4, 2), (.aload_n 0, 1)] (by decide +kernel) (j := 0) (pc' := 21) (lv' := [(0, .ref 294), (1, .int v1), (2, .int q.1), (3, .int q.2.1), (4, .int q.2.2)]) (st' := [.ref 294, .int q.2.2]) rfl ?_
  refine Ev.getR D_251 (by decide +kernel) F_10_9 T_10_1 (x := 295) (S_oR k_294 (by decide +kernel)) ?_
  refine Ev.seg D_251 [(.iconst 4, 1)] (by decide +kernel) (j := 0) (pc' := 25) (lv' := [(0, .ref 294), (1, .int v1), (2, .int q.1), (3, .int q.2.1), (4, .int q.2.2)]) (st' := [.int (4 : Int32), .ref 295, .int q.2.2]) rfl ?_
  obtain ⟨x2, e2, h⟩ := bd h
  refine Ev.iald D_251 (by decide +kernel) (S_aI k_295 e2) ?_
  refine Ev.icmp D_251 (c := .ge) (off := 67) (by decide +kernel) (t := 93) rfl (fun c3 => ?_) (fun c3 => ?_)
  · have c3 : x2 ≤ q.2.2 := of_decide_eq_true c3
    rw [if_pos c3] at h
    cases h
    exact Ev.sub (lv' := [(2, .int q.1)]) (subL_cons rfl subL_nil) ho
  · have c3 : ¬ x2 ≤ q.2.2 := of_decide_eq_false c3
    rw [if_neg c3] at h
    refine Ev.seg D_251 [(.iconst 0, 1), (.istore 5, 2), (.iconst 0, 1), (.istore 6, 2)] (by decide +kernel) (j := 0) (pc' := 35) (lv' := [(6, .int (0 : Int32)), (5, .int (0 : Int32)), (0, .ref 294), (1, .int v1), (2, .int q.1), (3, .int q.2.1), (4, .int q.2.2)]) (st' := []) rfl ?_
    obtain ⟨x5, w5, h⟩ := bd h
    have j5 : Ev (d + 1) 251 72 [(0, .ref 294), (1, .int v1), (2, .int q.1), (3, .int q.2.1), (4, .int q.2.2), (5, .int x5)] [] (uS L s) o := by
      clear w5
      refine Ev.seg D_251 [(.iload 5, 2), (.iload_n 3, 1)] (by decide +kernel) (j := 0) (pc' := 75) (lv' := [(0, .ref 294), (1, .int v1), (2, .int q.1), (3, .int q.2.1), (4, .int q.2.2), (5, .int x5)]) (st' := [.int q.2.1, .int x5]) rfl ?_
      obtain ⟨x6, g6, h⟩ := bd h
      have j6 : Ev (d + 1) 251 87 [(0, .ref 294), (1, .int v1), (2, .int x6.1), (3, .int x6.2), (4, .int q.2.2)] [] (uS L s) o := by
        clear g6
        refine Ev.seg D_251 [(.iinc 4 1, 3), (.goto (-72), 3)] (by decide +kernel) (j := 0) (pc' := 18) (lv' := [(4, .int (q.2.2 + (1 : Int32))), (0, .ref 294), (1, .int v1), (2, .int x6.1), (3, .int x6.2)]) (st' := []) rfl ?_
        cases h
        exact Ev.sub (lv' := [(0, .ref 294), (1, .int v1), (2, .int (x6.1)), (3, .int (x6.2)), (4, .int (q.2.2 + (1 : Int32)))]) (subL_cons rfl (subL_cons rfl (subL_cons rfl (subL_cons rfl (subL_cons rfl subL_nil))))) ho
      clear h
      refine Ev.icmp D_251 (c := .gt) (off := 6) (by decide +kernel) (t := 81) rfl (fun c6 => ?_) (fun c6 => ?_)
      · have c6 : q.2.1 < x5 := of_decide_eq_true c6
        rw [if_pos c6] at g6
        refine Ev.seg D_251 [(.iload 5, 2), (.istore_n 3, 1), (.iload 4, 2), (.istore_n 2, 1)] (by decide +kernel) (j := 0) (pc' := 87) (lv' := [(2, .int q.2.2), (3, .int x5), (0, .ref 294), (1, .int v1), (4, .int q.2.2), (5, .int x5)]) (st' := []) rfl ?_
        cases g6
        exact Ev.sub2 j6 (subL_cons rfl (subL_cons rfl (subL_cons rfl (subL_cons rfl (subL_cons rfl subL_nil)))))
      · have c6 : ¬ q.2.1 < x5 := of_decide_eq_false c6
        rw [if_neg c6] at g6
        refine Ev.seg D_251 [(.goto 9, 3)] (by decide +kernel) (j := 0) (pc' := 87) (lv' := [(0, .ref 294), (1, .int v1), (2, .int q.1), (3, .int q.2.1), (4, .int q.2.2), (5, .int x5)]) (st' := []) rfl ?_
        cases g6
        exact Ev.sub2 j6 (subL_cons rfl (subL_cons rfl (subL_cons rfl (subL_cons rfl (subL_cons rfl subL_nil)))))
    exact Ev.sub (lv' := [(0, .ref 294), (1, .int v1), (2, .int q.1), (3, .int q.2.1), (4, .int q.2.2), (5, .int (0 : Int32)), (6, .int (0 : Int32))]) (subL_cons rfl (subL_cons rfl (subL_cons rfl (subL_cons rfl (subL_cons rfl (subL_cons rfl (subL_cons rfl subL_nil))))))) (gM_gaze_h35_w hd   _ _ _ w5 _ j5)
theorem gM_gaze_h18_w {L d : Nat} (hd : 7 ≤ d + 1) {v1 : Int32} {s : mT} : ∀ (n : Nat) (q : Int32 × Int32 × Int32) (r : Int32), wh n (gM_gaze_h18 v1 s) q = some r → ∀ o, (fun r => Ev (d + 1) 251 93 [(2, .int r)] [] (uS L s) o) r → Ev (d + 1) 251 18 [(0, .ref 294), (1, .int v1), (2, .int q.1), (3, .int q.2.1), (4, .int q.2.2)] [] (uS L s) o :=
  fun n q r h o hc => wh_ev (E := fun (q : Int32 × Int32 × Int32) o => Ev (d + 1) 251 18 [(0, .ref 294), (1, .int v1), (2, .int q.1), (3, .int q.2.1), (4, .int q.2.2)] [] (uS L s) o) (C := fun (r : Int32) o => (fun r => Ev (d + 1) 251 93 [(2, .int r)] [] (uS L s) o) r) (gM_gaze_h18_ok hd  ) n q r h o hc
def gM_gaze (v1 : Int32) (s : mT) : Option (Int32 × mT) :=
  (gM_asksWatcher v1 s).bind fun p1 =>
  if p1.1 = 0 then
    some (((-2 : Int32), p1.2))
  else
    (wh FU (gM_gaze_h18 v1 p1.2) ((-1 : Int32), (0 : Int32), (0 : Int32))).bind fun x7 =>
    some ((x7, p1.2))
set_option maxRecDepth 8000 in
theorem gM_gaze_ok {L d : Nat} (hd : 7 ≤ d) {v1 : Int32} {s : mT} {p : Int32 × mT} (h : gM_gaze v1 s = some p) : Ev d 251 0 [(0, .ref 294), (1, .int v1)] [] (uS L s) (some (.int p.1), uS L p.2) := by
  obtain ⟨d, rfl⟩ : ∃ e, d = e + 1 := ⟨d - 1, by omega⟩
  obtain ⟨o, ho⟩ : ∃ o : Option Value × mS, o = (some (.int p.1), uS L p.2) := ⟨_, rfl⟩
  rw [← ho]
  unfold gM_gaze at h
  refine Ev.seg D_251 [(.aload_n 0, 1), (.iload_n 1, 1)] (by decide +kernel) (j := 0) (pc' := 2) (lv' := [(0, .ref 294), (1, .int v1)]) (st' := [.int v1, .ref 294]) rfl ?_
  obtain ⟨p1, e1, h⟩ := bd h
  refine Ev.callv D_251 E_246 (by decide +kernel) C_10_302 294 [.int v1] (r := []) rfl (gd_o k_294 (by decide)) rfl (Nat.le_of_ble_eq_true rfl) (Nat.le_of_ble_eq_true rfl) (gM_asksWatcher_ok (by omega)  e1) ?_
  refine Ev.if_ D_251 (c := .ne) (off := 6) (by decide +kernel) (t := 11) rfl (fun c2 => ?_) (fun c2 => ?_)
  · have c2 : ¬ p1.1 = 0 := of_decide_eq_true c2
    rw [if_neg c2] at h
    refine Ev.seg D_251 [(.iconst (-1), 1), (.istore_n 2, 1), (.iconst 0, 1), (.istore_n 3, 1), (.iconst 0, 1), (.istore 4, 2)] (by decide +kernel) (j := 0) (pc' := 18) (lv' := [(4, .int (0 : Int32)), (3, .int (0 : Int32)), (2, .int (-1 : Int32)), (0, .ref 294), (1, .int v1)]) (st' := []) rfl ?_
    obtain ⟨x7, w7, h⟩ := bd h
    have j7 : Ev (d + 1) 251 93 [(2, .int x7)] [] (uS L p1.2) o := by
      clear w7
      refine Ev.seg D_251 [(.iload_n 2, 1)] (by decide +kernel) (j := 0) (pc' := 94) (lv' := [(2, .int x7)]) (st' := [.int x7]) rfl ?_
      cases h
      obtain rfl : o = _ := ho
      exact Ev.iret D_251 (by decide +kernel)
    exact Ev.sub (lv' := [(0, .ref 294), (1, .int v1), (2, .int (-1 : Int32)), (3, .int (0 : Int32)), (4, .int (0 : Int32))]) (subL_cons rfl (subL_cons rfl (subL_cons rfl (subL_cons rfl (subL_cons rfl subL_nil))))) (gM_gaze_h18_w hd   _ _ _ w7 _ j7)
  · have c2 : p1.1 = 0 := Decidable.of_not_not (of_decide_eq_false c2)
    rw [if_pos c2] at h
    refine Ev.seg D_251 [(.bipush (-2), 2)] (by decide +kernel) (j := 0) (pc' := 10) (lv' := [(0, .ref 294), (1, .int v1)]) (st' := [.int (-2 : Int32)]) rfl ?_
    cases h
    obtain rfl : o = _ := ho
    exact Ev.iret D_251 (by decide +kernel)
/- PennantLawnModel faithful: 252 -/
def gM_faithful_h29 (v1 : Int32) (v2 : Int32) (s : mT) (q : Int32 × Int32) : Option ((Int32 × Int32) ⊕ (Int32)) :=
  (gM_last s).bind fun p1 =>
  if p1 < q.2 then
    some (.inr q.1)
  else
    (
      if q.1 = 0 then
        some ((0 : Int32))
      else
        (gM_onOf v2 q.2 s).bind fun p4 =>
        (gM_of v2 (3 : Int32) s).bind fun p5 =>
        if p4 = p5 then
          some ((1 : Int32))
        else
          some ((0 : Int32)) : Option (Int32)).bind fun x3 =>
    some (.inl (x3, q.2 + (1 : Int32)))
set_option maxRecDepth 8000 in
theorem gM_faithful_h29_ok {L d : Nat} (hd : 6 ≤ d + 1) {v1 : Int32} {v2 : Int32} {s : mT} : ∀ (q : Int32 × Int32) (x : (Int32 × Int32) ⊕ (Int32)), gM_faithful_h29 v1 v2 s q = some x → ∀ o, sK (fun q => Ev (d + 1) 252 29 [(0, .ref 294), (1, .int v1), (2, .int v2), (3, .int q.1), (4, .int q.2)] [] (uS L s) o) (fun r => Ev (d + 1) 252 70 [(0, .ref 294), (1, .int v1), (2, .int v2), (3, .int r)] [] (uS L s) o) x → Ev (d + 1) 252 29 [(0, .ref 294), (1, .int v1), (2, .int v2), (3, .int q.1), (4, .int q.2)] [] (uS L s) o := by
  intro q x h o ho
  unfold gM_faithful_h29 at h
  refine Ev.seg D_252 [(.iload 4, 2), (.aload_n 0, 1)] (by decide +kernel) (j := 0) (pc' := 32) (lv' := [(0, .ref 294), (1, .int v1), (2, .int v2), (3, .int q.1), (4, .int q.2)]) (st' := [.ref 294, .int q.2]) rfl ?_
  obtain ⟨p1, e1, h⟩ := bd h
  refine Ev.callv D_252 E_216 (by decide +kernel) C_10_96 294 [] (r := [.int q.2]) rfl (gd_o k_294 (by decide)) rfl (Nat.le_of_ble_eq_true rfl) (Nat.le_of_ble_eq_true rfl) (gM_last_ok (by omega)  e1) ?_
  refine Ev.icmp D_252 (c := .gt) (off := 35) (by decide +kernel) (t := 70) rfl (fun c2 => ?_) (fun c2 => ?_)
  · have c2 : p1 < q.2 := of_decide_eq_true c2
    rw [if_pos c2] at h
    cases h
    exact Ev.sub (lv' := [(0, .ref 294), (1, .int v1), (2, .int v2), (3, .int q.1)]) (subL_cons rfl (subL_cons rfl (subL_cons rfl (subL_cons rfl subL_nil)))) ho
  · have c2 : ¬ p1 < q.2 := of_decide_eq_false c2
    rw [if_neg c2] at h
    refine Ev.seg D_252 [(.iload_n 3, 1)] (by decide +kernel) (j := 0) (pc' := 39) (lv' := [(0, .ref 294), (1, .int v1), (2, .int v2), (3, .int q.1), (4, .int q.2)]) (st' := [.int q.1]) rfl ?_
    obtain ⟨x3, g3, h⟩ := bd h
    have j3 : Ev (d + 1) 252 63 [(0, .ref 294), (1, .int v1), (2, .int v2), (4, .int q.2)] [.int x3] (uS L s) o := by
      clear g3
      refine Ev.seg D_252 [(.istore_n 3, 1), (.iinc 4 1, 3), (.goto (-38), 3)] (by decide +kernel) (j := 0) (pc' := 29) (lv' := [(4, .int (q.2 + (1 : Int32))), (3, .int x3), (0, .ref 294), (1, .int v1), (2, .int v2)]) (st' := []) rfl ?_
      cases h
      exact Ev.sub (lv' := [(0, .ref 294), (1, .int v1), (2, .int v2), (3, .int (x3)), (4, .int (q.2 + (1 : Int32)))]) (subL_cons rfl (subL_cons rfl (subL_cons rfl (subL_cons rfl (subL_cons rfl subL_nil))))) ho
    clear h
    refine Ev.if_ D_252 (c := .eq) (off := 23) (by decide +kernel) (t := 62) rfl (fun c3 => ?_) (fun c3 => ?_)
    · have c3 : q.1 = 0 := of_decide_eq_true c3
      rw [if_pos c3] at g3
      refine Ev.seg D_252 [(.iconst 0, 1)] (by decide +kernel) (j := 0) (pc' := 63) (lv' := [(0, .ref 294), (1, .int v1), (2, .int v2), (3, .int q.1), (4, .int q.2)]) (st' := [.int (0 : Int32)]) rfl ?_
      cases g3
      exact Ev.sub2 j3 (subL_cons rfl (subL_cons rfl (subL_cons rfl (subL_cons rfl subL_nil))))
    · have c3 : ¬ q.1 = 0 := of_decide_eq_false c3
      rw [if_neg c3] at g3
      refine Ev.seg D_252 [(.aload_n 0, 1), (.iload_n 2, 1), (.iload 4, 2)] (by decide +kernel) (j := 0) (pc' := 46) (lv' := [(0, .ref 294), (1, .int v1), (2, .int v2), (3, .int q.1), (4, .int q.2)]) (st' := [.int q.2, .int v2, .ref 294]) rfl ?_
      obtain ⟨p4, e4, g3⟩ := bd g3
      refine Ev.callv D_252 E_218 (by decide +kernel) C_10_243 294 [.int v2, .int q.2] (r := []) rfl (gd_o k_294 (by decide)) rfl (Nat.le_of_ble_eq_true rfl) (Nat.le_of_ble_eq_true rfl) (gM_onOf_ok (by omega)  e4) ?_
      refine Ev.seg D_252 [(.aload_n 0, 1), (.iload_n 2, 1), (.iconst 3, 1)] (by decide +kernel) (j := 0) (pc' := 52) (lv' := [(0, .ref 294), (1, .int v1), (2, .int v2), (3, .int q.1), (4, .int q.2)]) (st' := [.int (3 : Int32), .int v2, .ref 294, .int p4]) rfl ?_
      obtain ⟨p5, e5, g3⟩ := bd g3
      refine Ev.callv D_252 E_207 (by decide +kernel) C_10_102 294 [.int v2, .int (3 : Int32)] (r := [.int p4]) rfl (gd_o k_294 (by decide)) rfl (Nat.le_of_ble_eq_true rfl) (Nat.le_of_ble_eq_true rfl) (gM_of_ok (by omega)  e5) ?_
      refine Ev.icmp D_252 (c := .ne) (off := 7) (by decide +kernel) (t := 62) rfl (fun c6 => ?_) (fun c6 => ?_)
      · have c6 : ¬ p4 = p5 := of_decide_eq_true c6
        rw [if_neg c6] at g3
        refine Ev.seg D_252 [(.iconst 0, 1)] (by decide +kernel) (j := 0) (pc' := 63) (lv' := [(0, .ref 294), (1, .int v1), (2, .int v2), (3, .int q.1), (4, .int q.2)]) (st' := [.int (0 : Int32)]) rfl ?_
        cases g3
        exact Ev.sub2 j3 (subL_cons rfl (subL_cons rfl (subL_cons rfl (subL_cons rfl subL_nil))))
      · have c6 : p4 = p5 := Decidable.of_not_not (of_decide_eq_false c6)
        rw [if_pos c6] at g3
        refine Ev.seg D_252 [(.iconst 1, 1), (.goto 4, 3)] (by decide +kernel) (j := 0) (pc' := 63) (lv' := [(0, .ref 294), (1, .int v1), (2, .int v2), (3, .int q.1), (4, .int q.2)]) (st' := [.int (1 : Int32)]) rfl ?_
        cases g3
        exact Ev.sub2 j3 (subL_cons rfl (subL_cons rfl (subL_cons rfl (subL_cons rfl subL_nil))))
theorem gM_faithful_h29_w {L d : Nat} (hd : 6 ≤ d + 1) {v1 : Int32} {v2 : Int32} {s : mT} : ∀ (n : Nat) (q : Int32 × Int32) (r : Int32), wh n (gM_faithful_h29 v1 v2 s) q = some r → ∀ o, (fun r => Ev (d + 1) 252 70 [(0, .ref 294), (1, .int v1), (2, .int v2), (3, .int r)] [] (uS L s) o) r → Ev (d + 1) 252 29 [(0, .ref 294), (1, .int v1), (2, .int v2), (3, .int q.1), (4, .int q.2)] [] (uS L s) o :=
  fun n q r h o hc => wh_ev (E := fun (q : Int32 × Int32) o => Ev (d + 1) 252 29 [(0, .ref 294), (1, .int v1), (2, .int v2), (3, .int q.1), (4, .int q.2)] [] (uS L s) o) (C := fun (r : Int32) o => (fun r => Ev (d + 1) 252 70 [(0, .ref 294), (1, .int v1), (2, .int v2), (3, .int r)] [] (uS L s) o) r) (gM_faithful_h29_ok hd  ) n q r h o hc
def gM_faithful_h14 (s : mT) (q : Int32 × Int32) : Option ((Int32 × Int32) ⊕ (Int32)) :=
  (rdI (s.1 295) 79 (5 : Int32)).bind fun x2 =>
  if x2 ≤ q.2 then
    some (.inr q.1)
  else
    (wh FU (gM_faithful_h29 q.1 q.2 s) ((1 : Int32), (0 : Int32))).bind fun x7 =>
    (
      if x7 = 0 then
        some ((0 : Int32))
      else
        some ((1 : Int32) <<< (q.2 &&& 31)) : Option (Int32)).bind fun x8 =>
    some (.inl (q.1 ||| x8, q.2 + (1 : Int32)))
set_option maxRecDepth 8000 in
theorem gM_faithful_h14_ok {L d : Nat} (hd : 6 ≤ d + 1) {s : mT} : ∀ (q : Int32 × Int32) (x : (Int32 × Int32) ⊕ (Int32)), gM_faithful_h14 s q = some x → ∀ o, sK (fun q => Ev (d + 1) 252 14 [(0, .ref 294), (1, .int q.1), (2, .int q.2)] [] (uS L s) o) (fun r => Ev (d + 1) 252 90 [(1, .int r)] [] (uS L s) o) x → Ev (d + 1) 252 14 [(0, .ref 294), (1, .int q.1), (2, .int q.2)] [] (uS L s) o := by
  intro q x h o ho
  unfold gM_faithful_h14 at h
  refine Ev.seg D_252 [(.iload_n 2, 1), (.aload_n 0, 1)] (by decide +kernel) (j := 0) (pc' := 16) (lv' := [(0, .ref 294), (1, .int q.1), (2, .int q.2)]) (st' := [.ref 294, .int q.2]) rfl ?_
  refine Ev.getR D_252 (by decide +kernel) F_10_9 T_10_1 (x := 295) (S_oR k_294 (by decide +kernel)) ?_
  refine Ev.seg D_252 [(.iconst 5, 1)] (by decide +kernel) (j := 0) (pc' := 20) (lv' := [(0, .ref 294), (1, .int q.1), (2, .int q.2)]) (st' := [.int (5 : Int32), .ref 295, .int q.2]) rfl ?_
  obtain ⟨x2, e2, h⟩ := bd h
  refine Ev.iald D_252 (by decide +kernel) (S_aI k_295 e2) ?_
  refine Ev.icmp D_252 (c := .ge) (off := 69) (by decide +kernel) (t := 90) rfl (fun c3 => ?_) (fun c3 => ?_)
  · have c3 : x2 ≤ q.2 := of_decide_eq_true c3
    rw [if_pos c3] at h
    cases h
    exact Ev.sub (lv' := [(1, .int q.1)]) (subL_cons rfl subL_nil) ho
  · have c3 : ¬ x2 ≤ q.2 := of_decide_eq_false c3
    rw [if_neg c3] at h
    refine Ev.seg D_252 [(.iconst 1, 1), (.istore_n 3, 1), (.iconst 0, 1), (.istore 4, 2)] (by decide +kernel) (j := 0) (pc' := 29) (lv' := [(4, .int (0 : Int32)), (3, .int (1 : Int32)), (0, .ref 294), (1, .int q.1), (2, .int q.2)]) (st' := []) rfl ?_
    obtain ⟨x7, w7, h⟩ := bd h
    have j7 : Ev (d + 1) 252 70 [(0, .ref 294), (1, .int q.1), (2, .int q.2), (3, .int x7)] [] (uS L s) o := by
      clear w7
      refine Ev.seg D_252 [(.iload_n 1, 1), (.iload_n 3, 1)] (by decide +kernel) (j := 0) (pc' := 72) (lv' := [(0, .ref 294), (1, .int q.1), (2, .int q.2), (3, .int x7)]) (st' := [.int x7, .int q.1]) rfl ?_
      obtain ⟨x8, g8, h⟩ := bd h
      have j8 : Ev (d + 1) 252 82 [(0, .ref 294), (2, .int q.2)] [.int x8, .int q.1] (uS L s) o := by
        clear g8
        refine Ev.seg D_252 [(.ior, 1), (.istore_n 1, 1), (.iinc 2 1, 3), (.goto (-73), 3)] (by decide +kernel) (j := 0) (pc' := 14) (lv' := [(2, .int (q.2 + (1 : Int32))), (1, .int (q.1 ||| x8)), (0, .ref 294)]) (st' := []) rfl ?_
        cases h
        exact Ev.sub (lv' := [(0, .ref 294), (1, .int (q.1 ||| x8)), (2, .int (q.2 + (1 : Int32)))]) (subL_cons rfl (subL_cons rfl (subL_cons rfl subL_nil))) ho
      clear h
      refine Ev.if_ D_252 (c := .eq) (off := 9) (by decide +kernel) (t := 81) rfl (fun c8 => ?_) (fun c8 => ?_)
      · have c8 : x7 = 0 := of_decide_eq_true c8
        rw [if_pos c8] at g8
        refine Ev.seg D_252 [(.iconst 0, 1)] (by decide +kernel) (j := 0) (pc' := 82) (lv' := [(0, .ref 294), (1, .int q.1), (2, .int q.2), (3, .int x7)]) (st' := [.int (0 : Int32), .int q.1]) rfl ?_
        cases g8
        exact Ev.sub2 j8 (subL_cons rfl (subL_cons rfl subL_nil))
      · have c8 : ¬ x7 = 0 := of_decide_eq_false c8
        rw [if_neg c8] at g8
        refine Ev.seg D_252 [(.iconst 1, 1), (.iload_n 2, 1), (.ishl, 1), (.goto 4, 3)] (by decide +kernel) (j := 0) (pc' := 82) (lv' := [(0, .ref 294), (1, .int q.1), (2, .int q.2), (3, .int x7)]) (st' := [.int ((1 : Int32) <<< (q.2 &&& 31)), .int q.1]) rfl ?_
        cases g8
        exact Ev.sub2 j8 (subL_cons rfl (subL_cons rfl subL_nil))
    exact Ev.sub (lv' := [(0, .ref 294), (1, .int q.1), (2, .int q.2), (3, .int (1 : Int32)), (4, .int (0 : Int32))]) (subL_cons rfl (subL_cons rfl (subL_cons rfl (subL_cons rfl (subL_cons rfl subL_nil))))) (gM_faithful_h29_w hd   _ _ _ w7 _ j7)
theorem gM_faithful_h14_w {L d : Nat} (hd : 6 ≤ d + 1) {s : mT} : ∀ (n : Nat) (q : Int32 × Int32) (r : Int32), wh n (gM_faithful_h14 s) q = some r → ∀ o, (fun r => Ev (d + 1) 252 90 [(1, .int r)] [] (uS L s) o) r → Ev (d + 1) 252 14 [(0, .ref 294), (1, .int q.1), (2, .int q.2)] [] (uS L s) o :=
  fun n q r h o hc => wh_ev (E := fun (q : Int32 × Int32) o => Ev (d + 1) 252 14 [(0, .ref 294), (1, .int q.1), (2, .int q.2)] [] (uS L s) o) (C := fun (r : Int32) o => (fun r => Ev (d + 1) 252 90 [(1, .int r)] [] (uS L s) o) r) (gM_faithful_h14_ok hd  ) n q r h o hc
def gM_faithful (s : mT) : Option (Int32 × mT) :=
  (gM_asksRace s).bind fun p1 =>
  if p1.1 = 0 then
    some (((-2 : Int32), p1.2))
  else
    (wh FU (gM_faithful_h14 p1.2) ((0 : Int32), (0 : Int32))).bind fun x9 =>
    some ((x9, p1.2))
set_option maxRecDepth 8000 in
theorem gM_faithful_ok {L d : Nat} (hd : 6 ≤ d) {s : mT} {p : Int32 × mT} (h : gM_faithful s = some p) : Ev d 252 0 [(0, .ref 294)] [] (uS L s) (some (.int p.1), uS L p.2) := by
  obtain ⟨d, rfl⟩ : ∃ e, d = e + 1 := ⟨d - 1, by omega⟩
  obtain ⟨o, ho⟩ : ∃ o : Option Value × mS, o = (some (.int p.1), uS L p.2) := ⟨_, rfl⟩
  rw [← ho]
  unfold gM_faithful at h
  refine Ev.seg D_252 [(.aload_n 0, 1)] (by decide +kernel) (j := 0) (pc' := 1) (lv' := [(0, .ref 294)]) (st' := [.ref 294]) rfl ?_
  obtain ⟨p1, e1, h⟩ := bd h
  refine Ev.callv D_252 E_211 (by decide +kernel) C_10_269 294 [] (r := []) rfl (gd_o k_294 (by decide)) rfl (Nat.le_of_ble_eq_true rfl) (Nat.le_of_ble_eq_true rfl) (gM_asksRace_ok (by omega)  e1) ?_
  refine Ev.if_ D_252 (c := .ne) (off := 6) (by decide +kernel) (t := 10) rfl (fun c2 => ?_) (fun c2 => ?_)
  · have c2 : ¬ p1.1 = 0 := of_decide_eq_true c2
    rw [if_neg c2] at h
    refine Ev.seg D_252 [(.iconst 0, 1), (.istore_n 1, 1), (.iconst 0, 1), (.istore_n 2, 1)] (by decide +kernel) (j := 0) (pc' := 14) (lv' := [(2, .int (0 : Int32)), (1, .int (0 : Int32)), (0, .ref 294)]) (st' := []) rfl ?_
    obtain ⟨x9, w9, h⟩ := bd h
    have j9 : Ev (d + 1) 252 90 [(1, .int x9)] [] (uS L p1.2) o := by
      clear w9
      refine Ev.seg D_252 [(.iload_n 1, 1)] (by decide +kernel) (j := 0) (pc' := 91) (lv' := [(1, .int x9)]) (st' := [.int x9]) rfl ?_
      cases h
      obtain rfl : o = _ := ho
      exact Ev.iret D_252 (by decide +kernel)
    exact Ev.sub (lv' := [(0, .ref 294), (1, .int (0 : Int32)), (2, .int (0 : Int32))]) (subL_cons rfl (subL_cons rfl (subL_cons rfl subL_nil))) (gM_faithful_h14_w hd   _ _ _ w9 _ j9)
  · have c2 : p1.1 = 0 := Decidable.of_not_not (of_decide_eq_false c2)
    rw [if_pos c2] at h
    refine Ev.seg D_252 [(.bipush (-2), 2)] (by decide +kernel) (j := 0) (pc' := 9) (lv' := [(0, .ref 294)]) (st' := [.int (-2 : Int32)]) rfl ?_
    cases h
    obtain rfl : o = _ := ho
    exact Ev.iret D_252 (by decide +kernel)
/- PennantLawnModel unseen: 253 -/
def gM_unseen_h15 (v1 : Int32) (s : mT) (q : Int32 × Int32) : Option ((Int32 × Int32) ⊕ (Int32)) :=
  (rdI (s.1 295) 79 (4 : Int32)).bind fun x2 =>
  if x2 ≤ q.2 then
    some (.inr q.1)
  else
    (gM_lookersOf q.2 v1 s).bind fun p4 =>
    (
      if p4 = 0 then
        some ((1 : Int32) <<< (q.2 &&& 31))
      else
        some ((0 : Int32)) : Option (Int32)).bind fun x5 =>
    some (.inl (q.1 ||| x5, q.2 + (1 : Int32)))
set_option maxRecDepth 8000 in
theorem gM_unseen_h15_ok {L d : Nat} (hd : 7 ≤ d + 1) {v1 : Int32} {s : mT} : ∀ (q : Int32 × Int32) (x : (Int32 × Int32) ⊕ (Int32)), gM_unseen_h15 v1 s q = some x → ∀ o, sK (fun q => Ev (d + 1) 253 15 [(0, .ref 294), (1, .int v1), (2, .int q.1), (3, .int q.2)] [] (uS L s) o) (fun r => Ev (d + 1) 253 50 [(2, .int r)] [] (uS L s) o) x → Ev (d + 1) 253 15 [(0, .ref 294), (1, .int v1), (2, .int q.1), (3, .int q.2)] [] (uS L s) o := by
  intro q x h o ho
  unfold gM_unseen_h15 at h
  refine Ev.seg D_253 [(.iload_n 3, 1), (.aload_n 0, 1)] (by decide +kernel) (j := 0) (pc' := 17) (lv' := [(0, .ref 294), (1, .int v1), (2, .int q.1), (3, .int q.2)]) (st' := [.ref 294, .int q.2]) rfl ?_
  refine Ev.getR D_253 (by decide +kernel) F_10_9 T_10_1 (x := 295) (S_oR k_294 (by decide +kernel)) ?_
  refine Ev.seg D_253 [(.iconst 4, 1)] (by decide +kernel) (j := 0) (pc' := 21) (lv' := [(0, .ref 294), (1, .int v1), (2, .int q.1), (3, .int q.2)]) (st' := [.int (4 : Int32), .ref 295, .int q.2]) rfl ?_
  obtain ⟨x2, e2, h⟩ := bd h
  refine Ev.iald D_253 (by decide +kernel) (S_aI k_295 e2) ?_
  refine Ev.icmp D_253 (c := .ge) (off := 28) (by decide +kernel) (t := 50) rfl (fun c3 => ?_) (fun c3 => ?_)
  · have c3 : x2 ≤ q.2 := of_decide_eq_true c3
    rw [if_pos c3] at h
    cases h
    exact Ev.sub (lv' := [(2, .int q.1)]) (subL_cons rfl subL_nil) ho
  · have c3 : ¬ x2 ≤ q.2 := of_decide_eq_false c3
    rw [if_neg c3] at h
    refine Ev.seg D_253 [(.iload_n 2, 1), (.aload_n 0, 1), (.iload_n 3, 1), (.iload_n 1, 1)] (by decide +kernel) (j := 0) (pc' := 29) (lv' := [(0, .ref 294), (1, .int v1), (2, .int q.1), (3, .int q.2)]) (st' := [.int v1, .int q.2, .ref 294, .int q.1]) rfl ?_
    obtain ⟨p4, e4, h⟩ := bd h
    refine Ev.callv D_253 E_229 (by decide +kernel) C_10_284 294 [.int q.2, .int v1] (r := [.int q.1]) rfl (gd_o k_294 (by decide)) rfl (Nat.le_of_ble_eq_true rfl) (Nat.le_of_ble_eq_true rfl) (gM_lookersOf_ok (by omega)  e4) ?_
    obtain ⟨x5, g5, h⟩ := bd h
    have j5 : Ev (d + 1) 253 42 [(0, .ref 294), (1, .int v1), (3, .int q.2)] [.int x5, .int q.1] (uS L s) o := by
      clear g5
      refine Ev.seg D_253 [(.ior, 1), (.istore_n 2, 1), (.iinc 3 1, 3), (.goto (-32), 3)] (by decide +kernel) (j := 0) (pc' := 15) (lv' := [(3, .int (q.2 + (1 : Int32))), (2, .int (q.1 ||| x5)), (0, .ref 294), (1, .int v1)]) (st' := []) rfl ?_
      cases h
      exact Ev.sub (lv' := [(0, .ref 294), (1, .int v1), (2, .int (q.1 ||| x5)), (3, .int (q.2 + (1 : Int32)))]) (subL_cons rfl (subL_cons rfl (subL_cons rfl (subL_cons rfl subL_nil)))) ho
    clear h
    refine Ev.if_ D_253 (c := .ne) (off := 9) (by decide +kernel) (t := 41) rfl (fun c5 => ?_) (fun c5 => ?_)
    · have c5 : ¬ p4 = 0 := of_decide_eq_true c5
      rw [if_neg c5] at g5
      refine Ev.seg D_253 [(.iconst 0, 1)] (by decide +kernel) (j := 0) (pc' := 42) (lv' := [(0, .ref 294), (1, .int v1), (2, .int q.1), (3, .int q.2)]) (st' := [.int (0 : Int32), .int q.1]) rfl ?_
      cases g5
      exact Ev.sub2 j5 (subL_cons rfl (subL_cons rfl (subL_cons rfl subL_nil)))
    · have c5 : p4 = 0 := Decidable.of_not_not (of_decide_eq_false c5)
      rw [if_pos c5] at g5
      refine Ev.seg D_253 [(.iconst 1, 1), (.iload_n 3, 1), (.ishl, 1), (.goto 4, 3)] (by decide +kernel) (j := 0) (pc' := 42) (lv' := [(0, .ref 294), (1, .int v1), (2, .int q.1), (3, .int q.2)]) (st' := [.int ((1 : Int32) <<< (q.2 &&& 31)), .int q.1]) rfl ?_
      cases g5
      exact Ev.sub2 j5 (subL_cons rfl (subL_cons rfl (subL_cons rfl subL_nil)))
theorem gM_unseen_h15_w {L d : Nat} (hd : 7 ≤ d + 1) {v1 : Int32} {s : mT} : ∀ (n : Nat) (q : Int32 × Int32) (r : Int32), wh n (gM_unseen_h15 v1 s) q = some r → ∀ o, (fun r => Ev (d + 1) 253 50 [(2, .int r)] [] (uS L s) o) r → Ev (d + 1) 253 15 [(0, .ref 294), (1, .int v1), (2, .int q.1), (3, .int q.2)] [] (uS L s) o :=
  fun n q r h o hc => wh_ev (E := fun (q : Int32 × Int32) o => Ev (d + 1) 253 15 [(0, .ref 294), (1, .int v1), (2, .int q.1), (3, .int q.2)] [] (uS L s) o) (C := fun (r : Int32) o => (fun r => Ev (d + 1) 253 50 [(2, .int r)] [] (uS L s) o) r) (gM_unseen_h15_ok hd  ) n q r h o hc
def gM_unseen (v1 : Int32) (s : mT) : Option (Int32 × mT) :=
  (gM_asksStep v1 s).bind fun p1 =>
  if p1.1 = 0 then
    some (((-2 : Int32), p1.2))
  else
    (wh FU (gM_unseen_h15 v1 p1.2) ((0 : Int32), (0 : Int32))).bind fun x6 =>
    some ((x6, p1.2))
set_option maxRecDepth 8000 in
theorem gM_unseen_ok {L d : Nat} (hd : 7 ≤ d) {v1 : Int32} {s : mT} {p : Int32 × mT} (h : gM_unseen v1 s = some p) : Ev d 253 0 [(0, .ref 294), (1, .int v1)] [] (uS L s) (some (.int p.1), uS L p.2) := by
  obtain ⟨d, rfl⟩ : ∃ e, d = e + 1 := ⟨d - 1, by omega⟩
  obtain ⟨o, ho⟩ : ∃ o : Option Value × mS, o = (some (.int p.1), uS L p.2) := ⟨_, rfl⟩
  rw [← ho]
  unfold gM_unseen at h
  refine Ev.seg D_253 [(.aload_n 0, 1), (.iload_n 1, 1)] (by decide +kernel) (j := 0) (pc' := 2) (lv' := [(0, .ref 294), (1, .int v1)]) (st' := [.int v1, .ref 294]) rfl ?_
  obtain ⟨p1, e1, h⟩ := bd h
  refine Ev.callv D_253 E_210 (by decide +kernel) C_10_278 294 [.int v1] (r := []) rfl (gd_o k_294 (by decide)) rfl (Nat.le_of_ble_eq_true rfl) (Nat.le_of_ble_eq_true rfl) (gM_asksStep_ok (by omega)  e1) ?_
  refine Ev.if_ D_253 (c := .ne) (off := 6) (by decide +kernel) (t := 11) rfl (fun c2 => ?_) (fun c2 => ?_)
  · have c2 : ¬ p1.1 = 0 := of_decide_eq_true c2
    rw [if_neg c2] at h
    refine Ev.seg D_253 [(.iconst 0, 1), (.istore_n 2, 1), (.iconst 0, 1), (.istore_n 3, 1)] (by decide +kernel) (j := 0) (pc' := 15) (lv' := [(3, .int (0 : Int32)), (2, .int (0 : Int32)), (0, .ref 294), (1, .int v1)]) (st' := []) rfl ?_
    obtain ⟨x6, w6, h⟩ := bd h
    have j6 : Ev (d + 1) 253 50 [(2, .int x6)] [] (uS L p1.2) o := by
      clear w6
      refine Ev.seg D_253 [(.iload_n 2, 1)] (by decide +kernel) (j := 0) (pc' := 51) (lv' := [(2, .int x6)]) (st' := [.int x6]) rfl ?_
      cases h
      obtain rfl : o = _ := ho
      exact Ev.iret D_253 (by decide +kernel)
    exact Ev.sub (lv' := [(0, .ref 294), (1, .int v1), (2, .int (0 : Int32)), (3, .int (0 : Int32))]) (subL_cons rfl (subL_cons rfl (subL_cons rfl (subL_cons rfl subL_nil)))) (gM_unseen_h15_w hd   _ _ _ w6 _ j6)
  · have c2 : p1.1 = 0 := Decidable.of_not_not (of_decide_eq_false c2)
    rw [if_pos c2] at h
    refine Ev.seg D_253 [(.bipush (-2), 2)] (by decide +kernel) (j := 0) (pc' := 10) (lv' := [(0, .ref 294), (1, .int v1)]) (st' := [.int (-2 : Int32)]) rfl ?_
    cases h
    obtain rfl : o = _ := ho
    exact Ev.iret D_253 (by decide +kernel)
/- PennantLawnModel sees: 256 -/
def gM_sees (v1 : Int32) (v2 : Int32) (s : mT) : Option (Int32) :=
  (gM_of v1 (1 : Int32) s).bind fun p1 =>
  (gM_of v1 (2 : Int32) s).bind fun p2 =>
  (gM_in v2.toInt64 p1.toInt64 p2.toInt64 s).bind fun p3 =>
  if p3 = 0 ∨ p3 = 1 then some (p3) else none
set_option maxRecDepth 8000 in
theorem gM_sees_ok {L d : Nat} (hd : 2 ≤ d) {v1 : Int32} {v2 : Int32} {s : mT} {p : Int32} (h : gM_sees v1 v2 s = some p) : Ev d 256 0 [(0, .ref 294), (1, .int v1), (2, .int v2)] [] (uS L s) (some (.int p), uS L s) := by
  obtain ⟨d, rfl⟩ : ∃ e, d = e + 1 := ⟨d - 1, by omega⟩
  obtain ⟨o, ho⟩ : ∃ o : Option Value × mS, o = (some (.int p), uS L s) := ⟨_, rfl⟩
  rw [← ho]
  unfold gM_sees at h
  refine Ev.seg D_256 [(.iload_n 2, 1), (.i2l, 1), (.aload_n 0, 1), (.iload_n 1, 1), (.iconst 1, 1)] (by decide +kernel) (j := 0) (pc' := 5) (lv' := [(0, .ref 294), (1, .int v1), (2, .int v2)]) (st' := [.int (1 : Int32), .int v1, .ref 294, .long v2.toInt64]) rfl ?_
  obtain ⟨p1, e1, h⟩ := bd h
  refine Ev.callv D_256 E_207 (by decide +kernel) C_10_102 294 [.int v1, .int (1 : Int32)] (r := [.long v2.toInt64]) rfl (gd_o k_294 (by decide)) rfl (Nat.le_of_ble_eq_true rfl) (Nat.le_of_ble_eq_true rfl) (gM_of_ok (by omega)  e1) ?_
  refine Ev.seg D_256 [(.i2l, 1), (.aload_n 0, 1), (.iload_n 1, 1), (.iconst 2, 1)] (by decide +kernel) (j := 0) (pc' := 12) (lv' := [(0, .ref 294), (1, .int v1), (2, .int v2)]) (st' := [.int (2 : Int32), .int v1, .ref 294, .long p1.toInt64, .long v2.toInt64]) rfl ?_
  obtain ⟨p2, e2, h⟩ := bd h
  refine Ev.callv D_256 E_207 (by decide +kernel) C_10_102 294 [.int v1, .int (2 : Int32)] (r := [.long p1.toInt64, .long v2.toInt64]) rfl (gd_o k_294 (by decide)) rfl (Nat.le_of_ble_eq_true rfl) (Nat.le_of_ble_eq_true rfl) (gM_of_ok (by omega)  e2) ?_
  refine Ev.seg D_256 [(.i2l, 1)] (by decide +kernel) (j := 0) (pc' := 16) (lv' := [(0, .ref 294), (1, .int v1), (2, .int v2)]) (st' := [.long p2.toInt64, .long p1.toInt64, .long v2.toInt64]) rfl ?_
  obtain ⟨p3, e3, h⟩ := bd h
  refine Ev.calls D_256 E_184 (by decide +kernel) C_10_88 [.long v2.toInt64, .long p1.toInt64, .long p2.toInt64] (r := []) rfl rfl (Nat.le_of_ble_eq_true rfl) (Nat.le_of_ble_eq_true rfl) (gM_in_ok (by omega)  e3) ?_
  by_cases c4 : p3 = 0 ∨ p3 = 1
  · rw [if_pos c4] at h
    cases h
    obtain rfl : o = _ := ho
    exact Ev.zret D_256 c4 (by decide +kernel)
  · rw [if_neg c4] at h; cases h
/- PennantLawnModel seersOf: 255 -/
def gM_seersOf_h4 (v1 : Int32) (s : mT) (q : Int32 × Int32) : Option ((Int32 × Int32) ⊕ (Int32)) :=
  (rdI (s.1 295) 79 (5 : Int32)).bind fun x2 =>
  if x2 ≤ q.2 then
    some (.inr q.1)
  else
    (gM_sees q.2 v1 s).bind fun p4 =>
    (
      if p4 = 0 then
        some ((0 : Int32))
      else
        some ((1 : Int32) <<< (q.2 &&& 31)) : Option (Int32)).bind fun x5 =>
    some (.inl (q.1 ||| x5, q.2 + (1 : Int32)))
set_option maxRecDepth 8000 in
theorem gM_seersOf_h4_ok {L d : Nat} (hd : 3 ≤ d + 1) {v1 : Int32} {s : mT} : ∀ (q : Int32 × Int32) (x : (Int32 × Int32) ⊕ (Int32)), gM_seersOf_h4 v1 s q = some x → ∀ o, sK (fun q => Ev (d + 1) 255 4 [(0, .ref 294), (1, .int v1), (2, .int q.1), (3, .int q.2)] [] (uS L s) o) (fun r => Ev (d + 1) 255 39 [(2, .int r)] [] (uS L s) o) x → Ev (d + 1) 255 4 [(0, .ref 294), (1, .int v1), (2, .int q.1), (3, .int q.2)] [] (uS L s) o := by
  intro q x h o ho
  unfold gM_seersOf_h4 at h
  refine Ev.seg D_255 [(.iload_n 3, 1), (.aload_n 0, 1)] (by decide +kernel) (j := 0) (pc' := 6) (lv' := [(0, .ref 294), (1, .int v1), (2, .int q.1), (3, .int q.2)]) (st' := [.ref 294, .int q.2]) rfl ?_
  refine Ev.getR D_255 (by decide +kernel) F_10_9 T_10_1 (x := 295) (S_oR k_294 (by decide +kernel)) ?_
  refine Ev.seg D_255 [(.iconst 5, 1)] (by decide +kernel) (j := 0) (pc' := 10) (lv' := [(0, .ref 294), (1, .int v1), (2, .int q.1), (3, .int q.2)]) (st' := [.int (5 : Int32), .ref 295, .int q.2]) rfl ?_
  obtain ⟨x2, e2, h⟩ := bd h
  refine Ev.iald D_255 (by decide +kernel) (S_aI k_295 e2) ?_
  refine Ev.icmp D_255 (c := .ge) (off := 28) (by decide +kernel) (t := 39) rfl (fun c3 => ?_) (fun c3 => ?_)
  · have c3 : x2 ≤ q.2 := of_decide_eq_true c3
    rw [if_pos c3] at h
    cases h
    exact Ev.sub (lv' := [(2, .int q.1)]) (subL_cons rfl subL_nil) ho
  · have c3 : ¬ x2 ≤ q.2 := of_decide_eq_false c3
    rw [if_neg c3] at h
    refine Ev.seg D_255 [(.iload_n 2, 1), (.aload_n 0, 1), (.iload_n 3, 1), (.iload_n 1, 1)] (by decide +kernel) (j := 0) (pc' := 18) (lv' := [(0, .ref 294), (1, .int v1), (2, .int q.1), (3, .int q.2)]) (st' := [.int v1, .int q.2, .ref 294, .int q.1]) rfl ?_
    obtain ⟨p4, e4, h⟩ := bd h
    refine Ev.callv D_255 E_256 (by decide +kernel) C_10_305 294 [.int q.2, .int v1] (r := [.int q.1]) rfl (gd_o k_294 (by decide)) rfl (Nat.le_of_ble_eq_true rfl) (Nat.le_of_ble_eq_true rfl) (gM_sees_ok (by omega)  e4) ?_
    obtain ⟨x5, g5, h⟩ := bd h
    have j5 : Ev (d + 1) 255 31 [(0, .ref 294), (1, .int v1), (3, .int q.2)] [.int x5, .int q.1] (uS L s) o := by
      clear g5
      refine Ev.seg D_255 [(.ior, 1), (.istore_n 2, 1), (.iinc 3 1, 3), (.goto (-32), 3)] (by decide +kernel) (j := 0) (pc' := 4) (lv' := [(3, .int (q.2 + (1 : Int32))), (2, .int (q.1 ||| x5)), (0, .ref 294), (1, .int v1)]) (st' := []) rfl ?_
      cases h
      exact Ev.sub (lv' := [(0, .ref 294), (1, .int v1), (2, .int (q.1 ||| x5)), (3, .int (q.2 + (1 : Int32)))]) (subL_cons rfl (subL_cons rfl (subL_cons rfl (subL_cons rfl subL_nil)))) ho
    clear h
    refine Ev.if_ D_255 (c := .eq) (off := 9) (by decide +kernel) (t := 30) rfl (fun c5 => ?_) (fun c5 => ?_)
    · have c5 : p4 = 0 := of_decide_eq_true c5
      rw [if_pos c5] at g5
      refine Ev.seg D_255 [(.iconst 0, 1)] (by decide +kernel) (j := 0) (pc' := 31) (lv' := [(0, .ref 294), (1, .int v1), (2, .int q.1), (3, .int q.2)]) (st' := [.int (0 : Int32), .int q.1]) rfl ?_
      cases g5
      exact Ev.sub2 j5 (subL_cons rfl (subL_cons rfl (subL_cons rfl subL_nil)))
    · have c5 : ¬ p4 = 0 := of_decide_eq_false c5
      rw [if_neg c5] at g5
      refine Ev.seg D_255 [(.iconst 1, 1), (.iload_n 3, 1), (.ishl, 1), (.goto 4, 3)] (by decide +kernel) (j := 0) (pc' := 31) (lv' := [(0, .ref 294), (1, .int v1), (2, .int q.1), (3, .int q.2)]) (st' := [.int ((1 : Int32) <<< (q.2 &&& 31)), .int q.1]) rfl ?_
      cases g5
      exact Ev.sub2 j5 (subL_cons rfl (subL_cons rfl (subL_cons rfl subL_nil)))
theorem gM_seersOf_h4_w {L d : Nat} (hd : 3 ≤ d + 1) {v1 : Int32} {s : mT} : ∀ (n : Nat) (q : Int32 × Int32) (r : Int32), wh n (gM_seersOf_h4 v1 s) q = some r → ∀ o, (fun r => Ev (d + 1) 255 39 [(2, .int r)] [] (uS L s) o) r → Ev (d + 1) 255 4 [(0, .ref 294), (1, .int v1), (2, .int q.1), (3, .int q.2)] [] (uS L s) o :=
  fun n q r h o hc => wh_ev (E := fun (q : Int32 × Int32) o => Ev (d + 1) 255 4 [(0, .ref 294), (1, .int v1), (2, .int q.1), (3, .int q.2)] [] (uS L s) o) (C := fun (r : Int32) o => (fun r => Ev (d + 1) 255 39 [(2, .int r)] [] (uS L s) o) r) (gM_seersOf_h4_ok hd  ) n q r h o hc
def gM_seersOf (v1 : Int32) (s : mT) : Option (Int32) :=
  (wh FU (gM_seersOf_h4 v1 s) ((0 : Int32), (0 : Int32))).bind fun x6 =>
  some (x6)
set_option maxRecDepth 8000 in
theorem gM_seersOf_ok {L d : Nat} (hd : 3 ≤ d) {v1 : Int32} {s : mT} {p : Int32} (h : gM_seersOf v1 s = some p) : Ev d 255 0 [(0, .ref 294), (1, .int v1)] [] (uS L s) (some (.int p), uS L s) := by
  obtain ⟨d, rfl⟩ : ∃ e, d = e + 1 := ⟨d - 1, by omega⟩
  obtain ⟨o, ho⟩ : ∃ o : Option Value × mS, o = (some (.int p), uS L s) := ⟨_, rfl⟩
  rw [← ho]
  unfold gM_seersOf at h
  refine Ev.seg D_255 [(.iconst 0, 1), (.istore_n 2, 1), (.iconst 0, 1), (.istore_n 3, 1)] (by decide +kernel) (j := 0) (pc' := 4) (lv' := [(3, .int (0 : Int32)), (2, .int (0 : Int32)), (0, .ref 294), (1, .int v1)]) (st' := []) rfl ?_
  obtain ⟨x6, w6, h⟩ := bd h
  have j6 : Ev (d + 1) 255 39 [(2, .int x6)] [] (uS L s) o := by
    clear w6
    refine Ev.seg D_255 [(.iload_n 2, 1)] (by decide +kernel) (j := 0) (pc' := 40) (lv' := [(2, .int x6)]) (st' := [.int x6]) rfl ?_
    cases h
    obtain rfl : o = _ := ho
    exact Ev.iret D_255 (by decide +kernel)
  exact Ev.sub (lv' := [(0, .ref 294), (1, .int v1), (2, .int (0 : Int32)), (3, .int (0 : Int32))]) (subL_cons rfl (subL_cons rfl (subL_cons rfl (subL_cons rfl subL_nil)))) (gM_seersOf_h4_w hd   _ _ _ w6 _ j6)
/- PennantLawnModel seers: 254 -/
def gM_seers (v1 : Int32) (s : mT) : Option (Int32) :=
  (gM_isBoat v1.toInt64 s).bind fun p1 =>
  (
    if p1 = 0 then
      some ((-2 : Int32))
    else
      (gM_seersOf v1 s).bind fun p3 =>
      some (p3) : Option (Int32)).bind fun x2 =>
  some (x2)
set_option maxRecDepth 8000 in
theorem gM_seers_ok {L d : Nat} (hd : 4 ≤ d) {v1 : Int32} {s : mT} {p : Int32} (h : gM_seers v1 s = some p) : Ev d 254 0 [(0, .ref 294), (1, .int v1)] [] (uS L s) (some (.int p), uS L s) := by
  obtain ⟨d, rfl⟩ : ∃ e, d = e + 1 := ⟨d - 1, by omega⟩
  obtain ⟨o, ho⟩ : ∃ o : Option Value × mS, o = (some (.int p), uS L s) := ⟨_, rfl⟩
  rw [← ho]
  unfold gM_seers at h
  refine Ev.seg D_254 [(.aload_n 0, 1), (.iload_n 1, 1), (.i2l, 1)] (by decide +kernel) (j := 0) (pc' := 3) (lv' := [(0, .ref 294), (1, .int v1)]) (st' := [.long v1.toInt64, .ref 294]) rfl ?_
  obtain ⟨p1, e1, h⟩ := bd h
  refine Ev.callv D_254 E_204 (by decide +kernel) C_10_220 294 [.long v1.toInt64] (r := []) rfl (gd_o k_294 (by decide)) rfl (Nat.le_of_ble_eq_true rfl) (Nat.le_of_ble_eq_true rfl) (gM_isBoat_ok (by omega)  e1) ?_
  obtain ⟨x2, g2, h⟩ := bd h
  have j2 : Ev (d + 1) 254 19 [] [.int x2] (uS L s) o := by
    clear g2
    cases h
    obtain rfl : o = _ := ho
    exact Ev.iret D_254 (by decide +kernel)
  clear h
  refine Ev.if_ D_254 (c := .eq) (off := 11) (by decide +kernel) (t := 17) rfl (fun c2 => ?_) (fun c2 => ?_)
  · have c2 : p1 = 0 := of_decide_eq_true c2
    rw [if_pos c2] at g2
    refine Ev.seg D_254 [(.bipush (-2), 2)] (by decide +kernel) (j := 0) (pc' := 19) (lv' := [(0, .ref 294), (1, .int v1)]) (st' := [.int (-2 : Int32)]) rfl ?_
    cases g2
    exact Ev.sub2 j2 subL_nil
  · have c2 : ¬ p1 = 0 := of_decide_eq_false c2
    rw [if_neg c2] at g2
    refine Ev.seg D_254 [(.aload_n 0, 1), (.iload_n 1, 1)] (by decide +kernel) (j := 0) (pc' := 11) (lv' := [(0, .ref 294), (1, .int v1)]) (st' := [.int v1, .ref 294]) rfl ?_
    obtain ⟨p3, e3, g2⟩ := bd g2
    refine Ev.callv D_254 E_255 (by decide +kernel) C_10_308 294 [.int v1] (r := []) rfl (gd_o k_294 (by decide)) rfl (Nat.le_of_ble_eq_true rfl) (Nat.le_of_ble_eq_true rfl) (gM_seersOf_ok (by omega)  e3) ?_
    refine Ev.seg D_254 [(.goto 5, 3)] (by decide +kernel) (j := 0) (pc' := 19) (lv' := [(0, .ref 294), (1, .int v1)]) (st' := [.int p3]) rfl ?_
    cases g2
    exact Ev.sub2 j2 subL_nil
/- PennantLawnModel order: 257 -/
def gM_order_h38 (v1 : Int32) (v2 : Int32) (v3 : Int32) (s : mT) (q : Int32 × Int32) : Option ((Int32 × Int32) ⊕ (Int32)) :=
  (rdI (s.1 295) 79 (4 : Int32)).bind fun x2 =>
  if x2 ≤ q.2 then
    some (.inr q.1)
  else
    (gM_placeOf q.2 v2 s).bind fun p4 =>
    (gM_placeOf v3 v2 s).bind fun p5 =>
    (
      if p5 < p4 then
        some ((1 : Int32))
      else
        (gM_placeOf q.2 v2 s).bind fun p7 =>
        (gM_placeOf v3 v2 s).bind fun p8 =>
        if p7 = p8 then
          if v3 ≤ q.2 then
            some ((0 : Int32))
          else
            some ((1 : Int32))
        else
          some ((0 : Int32)) : Option (Int32)).bind fun x6 =>
    some (.inl (q.1 + x6, q.2 + (1 : Int32)))
set_option maxRecDepth 8000 in
theorem gM_order_h38_ok {L d : Nat} (hd : 7 ≤ d + 1) {v1 : Int32} {v2 : Int32} {v3 : Int32} {s : mT} : ∀ (q : Int32 × Int32) (x : (Int32 × Int32) ⊕ (Int32)), gM_order_h38 v1 v2 v3 s q = some x → ∀ o, sK (fun q => Ev (d + 1) 257 38 [(0, .ref 294), (1, .int v1), (2, .int v2), (3, .int v3), (4, .int q.1), (5, .int q.2)] [] (uS L s) o) (fun r => Ev (d + 1) 257 103 [(0, .ref 294), (1, .int v1), (2, .int v2), (3, .int v3), (4, .int r)] [] (uS L s) o) x → Ev (d + 1) 257 38 [(0, .ref 294), (1, .int v1), (2, .int v2), (3, .int v3), (4, .int q.1), (5, .int q.2)] [] (uS L s) o := by
  intro q x h o ho
  unfold gM_order_h38 at h
  refine Ev.seg D_257 [(.iload 5, 2), (.aload_n 0, 1)] (by decide +kernel) (j := 0) (pc' := 41) (lv' := [(0, .ref 294), (1, .int v1), (2, .int v2), (3, .int v3), (4, .int q.1), (5, .int q.2)]) (st' := [.ref 294, .int q.2]) rfl ?_
  refine Ev.getR D_257 (by decide +kernel) F_10_9 T_10_1 (x := 295) (S_oR k_294 (by decide +kernel)) ?_
  refine Ev.seg D_257 [(.iconst 4, 1)] (by decide +kernel) (j := 0) (pc' := 45) (lv' := [(0, .ref 294), (1, .int v1), (2, .int v2), (3, .int v3), (4, .int q.1), (5, .int q.2)]) (st' := [.int (4 : Int32), .ref 295, .int q.2]) rfl ?_
  obtain ⟨x2, e2, h⟩ := bd h
  refine Ev.iald D_257 (by decide +kernel) (S_aI k_295 e2) ?_
  refine Ev.icmp D_257 (c := .ge) (off := 57) (by decide +kernel) (t := 103) rfl (fun c3 => ?_) (fun c3 => ?_)
  · have c3 : x2 ≤ q.2 := of_decide_eq_true c3
    rw [if_pos c3] at h
    cases h
    exact Ev.sub (lv' := [(0, .ref 294), (1, .int v1), (2, .int v2), (3, .int v3), (4, .int q.1)]) (subL_cons rfl (subL_cons rfl (subL_cons rfl (subL_cons rfl (subL_cons rfl subL_nil))))) ho
  · have c3 : ¬ x2 ≤ q.2 := of_decide_eq_false c3
    rw [if_neg c3] at h
    refine Ev.seg D_257 [(.iload 4, 2), (.aload_n 0, 1), (.iload 5, 2), (.iload_n 2, 1)] (by decide +kernel) (j := 0) (pc' := 55) (lv' := [(0, .ref 294), (1, .int v1), (2, .int v2), (3, .int v3), (4, .int q.1), (5, .int q.2)]) (st' := [.int v2, .int q.2, .ref 294, .int q.1]) rfl ?_
    obtain ⟨p4, e4, h⟩ := bd h
    refine Ev.callv D_257 E_220 (by decide +kernel) C_10_240 294 [.int q.2, .int v2] (r := [.int q.1]) rfl (gd_o k_294 (by decide)) rfl (Nat.le_of_ble_eq_true rfl) (Nat.le_of_ble_eq_true rfl) (gM_placeOf_ok (by omega)  e4) ?_
    refine Ev.seg D_257 [(.aload_n 0, 1), (.iload_n 3, 1), (.iload_n 2, 1)] (by decide +kernel) (j := 0) (pc' := 61) (lv' := [(0, .ref 294), (1, .int v1), (2, .int v2), (3, .int v3), (4, .int q.1), (5, .int q.2)]) (st' := [.int v2, .int v3, .ref 294, .int p4, .int q.1]) rfl ?_
    obtain ⟨p5, e5, h⟩ := bd h
    refine Ev.callv D_257 E_220 (by decide +kernel) C_10_240 294 [.int v3, .int v2] (r := [.int p4, .int q.1]) rfl (gd_o k_294 (by decide)) rfl (Nat.le_of_ble_eq_true rfl) (Nat.le_of_ble_eq_true rfl) (gM_placeOf_ok (by omega)  e5) ?_
    obtain ⟨x6, g6, h⟩ := bd h
    have j6 : Ev (d + 1) 257 94 [(0, .ref 294), (1, .int v1), (2, .int v2), (3, .int v3), (5, .int q.2)] [.int x6, .int q.1] (uS L s) o := by
      clear g6
      refine Ev.seg D_257 [(.iadd, 1), (.istore 4, 2), (.iinc 5 1, 3), (.goto (-62), 3)] (by decide +kernel) (j := 0) (pc' := 38) (lv' := [(5, .int (q.2 + (1 : Int32))), (4, .int (q.1 + x6)), (0, .ref 294), (1, .int v1), (2, .int v2), (3, .int v3)]) (st' := []) rfl ?_
      cases h
      exact Ev.sub (lv' := [(0, .ref 294), (1, .int v1), (2, .int v2), (3, .int v3), (4, .int (q.1 + x6)), (5, .int (q.2 + (1 : Int32)))]) (subL_cons rfl (subL_cons rfl (subL_cons rfl (subL_cons rfl (subL_cons rfl (subL_cons rfl subL_nil)))))) ho
    clear h
    refine Ev.icmp D_257 (c := .gt) (off := 25) (by decide +kernel) (t := 89) rfl (fun c6 => ?_) (fun c6 => ?_)
    · have c6 : p5 < p4 := of_decide_eq_true c6
      rw [if_pos c6] at g6
      refine Ev.seg D_257 [(.iconst 1, 1), (.goto 4, 3)] (by decide +kernel) (j := 0) (pc' := 94) (lv' := [(0, .ref 294), (1, .int v1), (2, .int v2), (3, .int v3), (4, .int q.1), (5, .int q.2)]) (st' := [.int (1 : Int32), .int q.1]) rfl ?_
      cases g6
      exact Ev.sub2 j6 (subL_cons rfl (subL_cons rfl (subL_cons rfl (subL_cons rfl (subL_cons rfl subL_nil)))))
    · have c6 : ¬ p5 < p4 := of_decide_eq_false c6
      rw [if_neg c6] at g6
      refine Ev.seg D_257 [(.aload_n 0, 1), (.iload 5, 2), (.iload_n 2, 1)] (by decide +kernel) (j := 0) (pc' := 71) (lv' := [(0, .ref 294), (1, .int v1), (2, .int v2), (3, .int v3), (4, .int q.1), (5, .int q.2)]) (st' := [.int v2, .int q.2, .ref 294, .int q.1]) rfl ?_
      obtain ⟨p7, e7, g6⟩ := bd g6
      refine Ev.callv D_257 E_220 (by decide +kernel) C_10_240 294 [.int q.2, .int v2] (r := [.int q.1]) rfl (gd_o k_294 (by decide)) rfl (Nat.le_of_ble_eq_true rfl) (Nat.le_of_ble_eq_true rfl) (gM_placeOf_ok (by omega)  e7) ?_
      refine Ev.seg D_257 [(.aload_n 0, 1), (.iload_n 3, 1), (.iload_n 2, 1)] (by decide +kernel) (j := 0) (pc' := 77) (lv' := [(0, .ref 294), (1, .int v1), (2, .int v2), (3, .int v3), (4, .int q.1), (5, .int q.2)]) (st' := [.int v2, .int v3, .ref 294, .int p7, .int q.1]) rfl ?_
      obtain ⟨p8, e8, g6⟩ := bd g6
      refine Ev.callv D_257 E_220 (by decide +kernel) C_10_240 294 [.int v3, .int v2] (r := [.int p7, .int q.1]) rfl (gd_o k_294 (by decide)) rfl (Nat.le_of_ble_eq_true rfl) (Nat.le_of_ble_eq_true rfl) (gM_placeOf_ok (by omega)  e8) ?_
      refine Ev.icmp D_257 (c := .ne) (off := 13) (by decide +kernel) (t := 93) rfl (fun c9 => ?_) (fun c9 => ?_)
      · have c9 : ¬ p7 = p8 := of_decide_eq_true c9
        rw [if_neg c9] at g6
        refine Ev.seg D_257 [(.iconst 0, 1)] (by decide +kernel) (j := 0) (pc' := 94) (lv' := [(0, .ref 294), (1, .int v1), (2, .int v2), (3, .int v3), (4, .int q.1), (5, .int q.2)]) (st' := [.int (0 : Int32), .int q.1]) rfl ?_
        cases g6
        exact Ev.sub2 j6 (subL_cons rfl (subL_cons rfl (subL_cons rfl (subL_cons rfl (subL_cons rfl subL_nil)))))
      · have c9 : p7 = p8 := Decidable.of_not_not (of_decide_eq_false c9)
        rw [if_pos c9] at g6
        refine Ev.seg D_257 [(.iload 5, 2), (.iload_n 3, 1)] (by decide +kernel) (j := 0) (pc' := 86) (lv' := [(0, .ref 294), (1, .int v1), (2, .int v2), (3, .int v3), (4, .int q.1), (5, .int q.2)]) (st' := [.int v3, .int q.2, .int q.1]) rfl ?_
        refine Ev.icmp D_257 (c := .ge) (off := 7) (by decide +kernel) (t := 93) rfl (fun c10 => ?_) (fun c10 => ?_)
        · have c10 : v3 ≤ q.2 := of_decide_eq_true c10
          rw [if_pos c10] at g6
          refine Ev.seg D_257 [(.iconst 0, 1)] (by decide +kernel) (j := 0) (pc' := 94) (lv' := [(0, .ref 294), (1, .int v1), (2, .int v2), (3, .int v3), (4, .int q.1), (5, .int q.2)]) (st' := [.int (0 : Int32), .int q.1]) rfl ?_
          cases g6
          exact Ev.sub2 j6 (subL_cons rfl (subL_cons rfl (subL_cons rfl (subL_cons rfl (subL_cons rfl subL_nil)))))
        · have c10 : ¬ v3 ≤ q.2 := of_decide_eq_false c10
          rw [if_neg c10] at g6
          refine Ev.seg D_257 [(.iconst 1, 1), (.goto 4, 3)] (by decide +kernel) (j := 0) (pc' := 94) (lv' := [(0, .ref 294), (1, .int v1), (2, .int v2), (3, .int v3), (4, .int q.1), (5, .int q.2)]) (st' := [.int (1 : Int32), .int q.1]) rfl ?_
          cases g6
          exact Ev.sub2 j6 (subL_cons rfl (subL_cons rfl (subL_cons rfl (subL_cons rfl (subL_cons rfl subL_nil)))))
theorem gM_order_h38_w {L d : Nat} (hd : 7 ≤ d + 1) {v1 : Int32} {v2 : Int32} {v3 : Int32} {s : mT} : ∀ (n : Nat) (q : Int32 × Int32) (r : Int32), wh n (gM_order_h38 v1 v2 v3 s) q = some r → ∀ o, (fun r => Ev (d + 1) 257 103 [(0, .ref 294), (1, .int v1), (2, .int v2), (3, .int v3), (4, .int r)] [] (uS L s) o) r → Ev (d + 1) 257 38 [(0, .ref 294), (1, .int v1), (2, .int v2), (3, .int v3), (4, .int q.1), (5, .int q.2)] [] (uS L s) o :=
  fun n q r h o hc => wh_ev (E := fun (q : Int32 × Int32) o => Ev (d + 1) 257 38 [(0, .ref 294), (1, .int v1), (2, .int v2), (3, .int v3), (4, .int q.1), (5, .int q.2)] [] (uS L s) o) (C := fun (r : Int32) o => (fun r => Ev (d + 1) 257 103 [(0, .ref 294), (1, .int v1), (2, .int v2), (3, .int v3), (4, .int r)] [] (uS L s) o) r) (gM_order_h38_ok hd  ) n q r h o hc
def gM_order_h22 (v1 : Int32) (v2 : Int32) (s : mT) (q : Int32) : Option ((Int32) ⊕ (Int32 × mT)) :=
  (rdI (s.1 295) 79 (4 : Int32)).bind fun x2 =>
  if x2 ≤ q then
    some (.inr (((-1 : Int32), s)))
  else
    (wh FU (gM_order_h38 v1 v2 q s) ((0 : Int32), (0 : Int32))).bind fun x11 =>
    if x11 = v1 then
      some (.inr ((q, s)))
    else
      some (.inl (q + (1 : Int32)))
set_option maxRecDepth 8000 in
theorem gM_order_h22_ok {L d : Nat} (hd : 7 ≤ d + 1) {v1 : Int32} {v2 : Int32} {s : mT} : ∀ (q : Int32) (x : (Int32) ⊕ (Int32 × mT)), gM_order_h22 v1 v2 s q = some x → ∀ o, sK (fun q => Ev (d + 1) 257 22 [(0, .ref 294), (1, .int v1), (2, .int v2), (3, .int q)] [] (uS L s) o) (fun r => o = (some (.int r.1), uS L r.2)) x → Ev (d + 1) 257 22 [(0, .ref 294), (1, .int v1), (2, .int v2), (3, .int q)] [] (uS L s) o := by
  intro q x h o ho
  unfold gM_order_h22 at h
  refine Ev.seg D_257 [(.iload_n 3, 1), (.aload_n 0, 1)] (by decide +kernel) (j := 0) (pc' := 24) (lv' := [(0, .ref 294), (1, .int v1), (2, .int v2), (3, .int q)]) (st' := [.ref 294, .int q]) rfl ?_
  refine Ev.getR D_257 (by decide +kernel) F_10_9 T_10_1 (x := 295) (S_oR k_294 (by decide +kernel)) ?_
  refine Ev.seg D_257 [(.iconst 4, 1)] (by decide +kernel) (j := 0) (pc' := 28) (lv' := [(0, .ref 294), (1, .int v1), (2, .int v2), (3, .int q)]) (st' := [.int (4 : Int32), .ref 295, .int q]) rfl ?_
  obtain ⟨x2, e2, h⟩ := bd h
  refine Ev.iald D_257 (by decide +kernel) (S_aI k_295 e2) ?_
  refine Ev.icmp D_257 (c := .ge) (off := 88) (by decide +kernel) (t := 117) rfl (fun c3 => ?_) (fun c3 => ?_)
  · have c3 : x2 ≤ q := of_decide_eq_true c3
    rw [if_pos c3] at h
    refine Ev.seg D_257 [(.iconst (-1), 1)] (by decide +kernel) (j := 0) (pc' := 118) (lv' := [(0, .ref 294), (1, .int v1), (2, .int v2), (3, .int q)]) (st' := [.int (-1 : Int32)]) rfl ?_
    cases h
    obtain rfl : o = _ := ho
    exact Ev.iret D_257 (by decide +kernel)
  · have c3 : ¬ x2 ≤ q := of_decide_eq_false c3
    rw [if_neg c3] at h
    refine Ev.seg D_257 [(.iconst 0, 1), (.istore 4, 2), (.iconst 0, 1), (.istore 5, 2)] (by decide +kernel) (j := 0) (pc' := 38) (lv' := [(5, .int (0 : Int32)), (4, .int (0 : Int32)), (0, .ref 294), (1, .int v1), (2, .int v2), (3, .int q)]) (st' := []) rfl ?_
    obtain ⟨x11, w11, h⟩ := bd h
    have j11 : Ev (d + 1) 257 103 [(0, .ref 294), (1, .int v1), (2, .int v2), (3, .int q), (4, .int x11)] [] (uS L s) o := by
      clear w11
      refine Ev.seg D_257 [(.iload 4, 2), (.iload_n 1, 1)] (by decide +kernel) (j := 0) (pc' := 106) (lv' := [(0, .ref 294), (1, .int v1), (2, .int v2), (3, .int q), (4, .int x11)]) (st' := [.int v1, .int x11]) rfl ?_
      refine Ev.icmp D_257 (c := .ne) (off := 5) (by decide +kernel) (t := 111) rfl (fun c12 => ?_) (fun c12 => ?_)
      · have c12 : ¬ x11 = v1 := of_decide_eq_true c12
        rw [if_neg c12] at h
        refine Ev.seg D_257 [(.iinc 3 1, 3), (.goto (-92), 3)] (by decide +kernel) (j := 0) (pc' := 22) (lv' := [(3, .int (q + (1 : Int32))), (0, .ref 294), (1, .int v1), (2, .int v2), (4, .int x11)]) (st' := []) rfl ?_
        cases h
        exact Ev.sub (lv' := [(0, .ref 294), (1, .int v1), (2, .int v2), (3, .int (q + (1 : Int32)))]) (subL_cons rfl (subL_cons rfl (subL_cons rfl (subL_cons rfl subL_nil)))) ho
      · have c12 : x11 = v1 := Decidable.of_not_not (of_decide_eq_false c12)
        rw [if_pos c12] at h
        refine Ev.seg D_257 [(.iload_n 3, 1)] (by decide +kernel) (j := 0) (pc' := 110) (lv' := [(0, .ref 294), (1, .int v1), (2, .int v2), (3, .int q), (4, .int x11)]) (st' := [.int q]) rfl ?_
        cases h
        obtain rfl : o = _ := ho
        exact Ev.iret D_257 (by decide +kernel)
    exact Ev.sub (lv' := [(0, .ref 294), (1, .int v1), (2, .int v2), (3, .int q), (4, .int (0 : Int32)), (5, .int (0 : Int32))]) (subL_cons rfl (subL_cons rfl (subL_cons rfl (subL_cons rfl (subL_cons rfl (subL_cons rfl subL_nil)))))) (gM_order_h38_w hd   _ _ _ w11 _ j11)
theorem gM_order_h22_w {L d : Nat} (hd : 7 ≤ d + 1) {v1 : Int32} {v2 : Int32} {s : mT} : ∀ (n : Nat) (q : Int32) (r : Int32 × mT), wh n (gM_order_h22 v1 v2 s) q = some r → ∀ o, (fun r => o = (some (.int r.1), uS L r.2)) r → Ev (d + 1) 257 22 [(0, .ref 294), (1, .int v1), (2, .int v2), (3, .int q)] [] (uS L s) o :=
  fun n q r h o hc => wh_ev (E := fun (q : Int32) o => Ev (d + 1) 257 22 [(0, .ref 294), (1, .int v1), (2, .int v2), (3, .int q)] [] (uS L s) o) (C := fun (r : Int32 × mT) o => (fun r => o = (some (.int r.1), uS L r.2)) r) (gM_order_h22_ok hd  ) n q r h o hc
def gM_order (v1 : Int32) (v2 : Int32) (s : mT) : Option (Int32 × mT) :=
  (gM_asksStep v2 s).bind fun p1 =>
  if p1.1 = 0 then
    some (((-2 : Int32), p1.2))
  else
    (gM_isBoat v1.toInt64 p1.2).bind fun p4 =>
    if p4 = 0 then
      some (((-2 : Int32), p1.2))
    else
      wh FU (gM_order_h22 v1 v2 p1.2) (0 : Int32)
set_option maxRecDepth 8000 in
theorem gM_order_ok {L d : Nat} (hd : 7 ≤ d) {v1 : Int32} {v2 : Int32} {s : mT} {p : Int32 × mT} (h : gM_order v1 v2 s = some p) : Ev d 257 0 [(0, .ref 294), (1, .int v1), (2, .int v2)] [] (uS L s) (some (.int p.1), uS L p.2) := by
  obtain ⟨d, rfl⟩ : ∃ e, d = e + 1 := ⟨d - 1, by omega⟩
  obtain ⟨o, ho⟩ : ∃ o : Option Value × mS, o = (some (.int p.1), uS L p.2) := ⟨_, rfl⟩
  rw [← ho]
  unfold gM_order at h
  refine Ev.seg D_257 [(.aload_n 0, 1), (.iload_n 2, 1)] (by decide +kernel) (j := 0) (pc' := 2) (lv' := [(0, .ref 294), (1, .int v1), (2, .int v2)]) (st' := [.int v2, .ref 294]) rfl ?_
  obtain ⟨p1, e1, h⟩ := bd h
  refine Ev.callv D_257 E_210 (by decide +kernel) C_10_278 294 [.int v2] (r := []) rfl (gd_o k_294 (by decide)) rfl (Nat.le_of_ble_eq_true rfl) (Nat.le_of_ble_eq_true rfl) (gM_asksStep_ok (by omega)  e1) ?_
  refine Ev.if_ D_257 (c := .eq) (off := 12) (by decide +kernel) (t := 17) rfl (fun c2 => ?_) (fun c2 => ?_)
  · have c2 : p1.1 = 0 := of_decide_eq_true c2
    rw [if_pos c2] at h
    refine Ev.seg D_257 [(.bipush (-2), 2)] (by decide +kernel) (j := 0) (pc' := 19) (lv' := [(0, .ref 294), (1, .int v1), (2, .int v2)]) (st' := [.int (-2 : Int32)]) rfl ?_
    cases h
    obtain rfl : o = _ := ho
    exact Ev.iret D_257 (by decide +kernel)
  · have c2 : ¬ p1.1 = 0 := of_decide_eq_false c2
    rw [if_neg c2] at h
    refine Ev.seg D_257 [(.aload_n 0, 1), (.iload_n 1, 1), (.i2l, 1)] (by decide +kernel) (j := 0) (pc' := 11) (lv' := [(0, .ref 294), (1, .int v1), (2, .int v2)]) (st' := [.long v1.toInt64, .ref 294]) rfl ?_
    obtain ⟨p4, e4, h⟩ := bd h
    refine Ev.callv D_257 E_204 (by decide +kernel) C_10_220 294 [.long v1.toInt64] (r := []) rfl (gd_o k_294 (by decide)) rfl (Nat.le_of_ble_eq_true rfl) (Nat.le_of_ble_eq_true rfl) (gM_isBoat_ok (by omega)  e4) ?_
    refine Ev.if_ D_257 (c := .ne) (off := 6) (by decide +kernel) (t := 20) rfl (fun c5 => ?_) (fun c5 => ?_)
    · have c5 : ¬ p4 = 0 := of_decide_eq_true c5
      rw [if_neg c5] at h
      refine Ev.seg D_257 [(.iconst 0, 1), (.istore_n 3, 1)] (by decide +kernel) (j := 0) (pc' := 22) (lv' := [(3, .int (0 : Int32)), (0, .ref 294), (1, .int v1), (2, .int v2)]) (st' := []) rfl ?_
      exact Ev.sub (lv' := [(0, .ref 294), (1, .int v1), (2, .int v2), (3, .int (0 : Int32))]) (subL_cons rfl (subL_cons rfl (subL_cons rfl (subL_cons rfl subL_nil)))) (gM_order_h22_w hd   _ _ _ h _ ho)
    · have c5 : p4 = 0 := Decidable.of_not_not (of_decide_eq_false c5)
      rw [if_pos c5] at h
      refine Ev.seg D_257 [(.bipush (-2), 2)] (by decide +kernel) (j := 0) (pc' := 19) (lv' := [(0, .ref 294), (1, .int v1), (2, .int v2)]) (st' := [.int (-2 : Int32)]) rfl ?_
      cases h
      obtain rfl : o = _ := ho
      exact Ev.iret D_257 (by decide +kernel)
