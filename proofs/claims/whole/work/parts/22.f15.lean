/-! The program's methods as functions of ints and longs, each with its certificate (wip/whole/gen_emit.py writes this) -/
/- PennantLawnModel even: 258 -/
def gM_even_h25 (v1 : Int32) (v2 : Int32) (s : mT) (q : Int32 × Int32) : Option ((Int32 × Int32) ⊕ (Int32)) :=
  (gM_last s).bind fun p1 =>
  if p1 < q.2 then
    some (.inr q.1)
  else
    (gM_placeOf v1 q.2 s).bind fun p3 =>
    (gM_placeOf v2 q.2 s).bind fun p4 =>
    (
      if p3 = p4 then
        some ((1 : Int32))
      else
        some ((0 : Int32)) : Option (Int32)).bind fun x5 =>
    some (.inl (q.1 + x5, q.2 + (1 : Int32)))
set_option maxRecDepth 8000 in
theorem gM_even_h25_ok {L d : Nat} (hd : 7 ≤ d + 1) {v1 : Int32} {v2 : Int32} {s : mT} : ∀ (q : Int32 × Int32) (x : (Int32 × Int32) ⊕ (Int32)), gM_even_h25 v1 v2 s q = some x → ∀ o, sK (fun q => Ev (d + 1) 258 25 [(0, .ref 294), (1, .int v1), (2, .int v2), (3, .int q.1), (4, .int q.2)] [] (uS L s) o) (fun r => Ev (d + 1) 258 65 [(3, .int r)] [] (uS L s) o) x → Ev (d + 1) 258 25 [(0, .ref 294), (1, .int v1), (2, .int v2), (3, .int q.1), (4, .int q.2)] [] (uS L s) o := by
  intro q x h o ho
  unfold gM_even_h25 at h
  refine Ev.seg D_258 [(.iload 4, 2), (.aload_n 0, 1)] (by decide +kernel) (j := 0) (pc' := 28) (lv' := [(0, .ref 294), (1, .int v1), (2, .int v2), (3, .int q.1), (4, .int q.2)]) (st' := [.ref 294, .int q.2]) rfl ?_
  obtain ⟨p1, e1, h⟩ := bd h
  refine Ev.callv D_258 E_216 (by decide +kernel) C_10_96 294 [] (r := [.int q.2]) rfl (gd_o k_294 (by decide)) rfl (Nat.le_of_ble_eq_true rfl) (Nat.le_of_ble_eq_true rfl) (gM_last_ok (by omega)  e1) ?_
  refine Ev.icmp D_258 (c := .gt) (off := 34) (by decide +kernel) (t := 65) rfl (fun c2 => ?_) (fun c2 => ?_)
  · have c2 : p1 < q.2 := of_decide_eq_true c2
    rw [if_pos c2] at h
    cases h
    exact Ev.sub (lv' := [(3, .int q.1)]) (subL_cons rfl subL_nil) ho
  · have c2 : ¬ p1 < q.2 := of_decide_eq_false c2
    rw [if_neg c2] at h
    refine Ev.seg D_258 [(.iload_n 3, 1), (.aload_n 0, 1), (.iload_n 1, 1), (.iload 4, 2)] (by decide +kernel) (j := 0) (pc' := 39) (lv' := [(0, .ref 294), (1, .int v1), (2, .int v2), (3, .int q.1), (4, .int q.2)]) (st' := [.int q.2, .int v1, .ref 294, .int q.1]) rfl ?_
    obtain ⟨p3, e3, h⟩ := bd h
    refine Ev.callv D_258 E_220 (by decide +kernel) C_10_240 294 [.int v1, .int q.2] (r := [.int q.1]) rfl (gd_o k_294 (by decide)) rfl (Nat.le_of_ble_eq_true rfl) (Nat.le_of_ble_eq_true rfl) (gM_placeOf_ok (by omega)  e3) ?_
    refine Ev.seg D_258 [(.aload_n 0, 1), (.iload_n 2, 1), (.iload 4, 2)] (by decide +kernel) (j := 0) (pc' := 46) (lv' := [(0, .ref 294), (1, .int v1), (2, .int v2), (3, .int q.1), (4, .int q.2)]) (st' := [.int q.2, .int v2, .ref 294, .int p3, .int q.1]) rfl ?_
    obtain ⟨p4, e4, h⟩ := bd h
    refine Ev.callv D_258 E_220 (by decide +kernel) C_10_240 294 [.int v2, .int q.2] (r := [.int p3, .int q.1]) rfl (gd_o k_294 (by decide)) rfl (Nat.le_of_ble_eq_true rfl) (Nat.le_of_ble_eq_true rfl) (gM_placeOf_ok (by omega)  e4) ?_
    obtain ⟨x5, g5, h⟩ := bd h
    have j5 : Ev (d + 1) 258 57 [(0, .ref 294), (1, .int v1), (2, .int v2), (4, .int q.2)] [.int x5, .int q.1] (uS L s) o := by
      clear g5
      refine Ev.seg D_258 [(.iadd, 1), (.istore_n 3, 1), (.iinc 4 1, 3), (.goto (-37), 3)] (by decide +kernel) (j := 0) (pc' := 25) (lv' := [(4, .int (q.2 + (1 : Int32))), (3, .int (q.1 + x5)), (0, .ref 294), (1, .int v1), (2, .int v2)]) (st' := []) rfl ?_
      cases h
      exact Ev.sub (lv' := [(0, .ref 294), (1, .int v1), (2, .int v2), (3, .int (q.1 + x5)), (4, .int (q.2 + (1 : Int32)))]) (subL_cons rfl (subL_cons rfl (subL_cons rfl (subL_cons rfl (subL_cons rfl subL_nil))))) ho
    clear h
    refine Ev.icmp D_258 (c := .ne) (off := 7) (by decide +kernel) (t := 56) rfl (fun c5 => ?_) (fun c5 => ?_)
    · have c5 : ¬ p3 = p4 := of_decide_eq_true c5
      rw [if_neg c5] at g5
      refine Ev.seg D_258 [(.iconst 0, 1)] (by decide +kernel) (j := 0) (pc' := 57) (lv' := [(0, .ref 294), (1, .int v1), (2, .int v2), (3, .int q.1), (4, .int q.2)]) (st' := [.int (0 : Int32), .int q.1]) rfl ?_
      cases g5
      exact Ev.sub2 j5 (subL_cons rfl (subL_cons rfl (subL_cons rfl (subL_cons rfl subL_nil))))
    · have c5 : p3 = p4 := Decidable.of_not_not (of_decide_eq_false c5)
      rw [if_pos c5] at g5
      refine Ev.seg D_258 [(.iconst 1, 1), (.goto 4, 3)] (by decide +kernel) (j := 0) (pc' := 57) (lv' := [(0, .ref 294), (1, .int v1), (2, .int v2), (3, .int q.1), (4, .int q.2)]) (st' := [.int (1 : Int32), .int q.1]) rfl ?_
      cases g5
      exact Ev.sub2 j5 (subL_cons rfl (subL_cons rfl (subL_cons rfl (subL_cons rfl subL_nil))))
theorem gM_even_h25_w {L d : Nat} (hd : 7 ≤ d + 1) {v1 : Int32} {v2 : Int32} {s : mT} : ∀ (n : Nat) (q : Int32 × Int32) (r : Int32), wh n (gM_even_h25 v1 v2 s) q = some r → ∀ o, (fun r => Ev (d + 1) 258 65 [(3, .int r)] [] (uS L s) o) r → Ev (d + 1) 258 25 [(0, .ref 294), (1, .int v1), (2, .int v2), (3, .int q.1), (4, .int q.2)] [] (uS L s) o :=
  fun n q r h o hc => wh_ev (E := fun (q : Int32 × Int32) o => Ev (d + 1) 258 25 [(0, .ref 294), (1, .int v1), (2, .int v2), (3, .int q.1), (4, .int q.2)] [] (uS L s) o) (C := fun (r : Int32) o => (fun r => Ev (d + 1) 258 65 [(3, .int r)] [] (uS L s) o) r) (gM_even_h25_ok hd  ) n q r h o hc
def gM_even (v1 : Int32) (v2 : Int32) (s : mT) : Option (Int32 × mT) :=
  (gM_asksBoat v1 s).bind fun p1 =>
  if p1.1 = 0 then
    some (((-2 : Int32), p1.2))
  else
    (gM_isBoat v2.toInt64 p1.2).bind fun p4 =>
    if p4 = 0 then
      some (((-2 : Int32), p1.2))
    else
      (wh FU (gM_even_h25 v1 v2 p1.2) ((0 : Int32), (0 : Int32))).bind fun x6 =>
      some ((x6, p1.2))
set_option maxRecDepth 8000 in
theorem gM_even_ok {L d : Nat} (hd : 7 ≤ d) {v1 : Int32} {v2 : Int32} {s : mT} {p : Int32 × mT} (h : gM_even v1 v2 s = some p) : Ev d 258 0 [(0, .ref 294), (1, .int v1), (2, .int v2)] [] (uS L s) (some (.int p.1), uS L p.2) := by
  obtain ⟨d, rfl⟩ : ∃ e, d = e + 1 := ⟨d - 1, by omega⟩
  obtain ⟨o, ho⟩ : ∃ o : Option Value × mS, o = (some (.int p.1), uS L p.2) := ⟨_, rfl⟩
  rw [← ho]
  unfold gM_even at h
  refine Ev.seg D_258 [(.aload_n 0, 1), (.iload_n 1, 1)] (by decide +kernel) (j := 0) (pc' := 2) (lv' := [(0, .ref 294), (1, .int v1), (2, .int v2)]) (st' := [.int v1, .ref 294]) rfl ?_
  obtain ⟨p1, e1, h⟩ := bd h
  refine Ev.callv D_258 E_234 (by decide +kernel) C_10_290 294 [.int v1] (r := []) rfl (gd_o k_294 (by decide)) rfl (Nat.le_of_ble_eq_true rfl) (Nat.le_of_ble_eq_true rfl) (gM_asksBoat_ok (by omega)  e1) ?_
  refine Ev.if_ D_258 (c := .eq) (off := 12) (by decide +kernel) (t := 17) rfl (fun c2 => ?_) (fun c2 => ?_)
  · have c2 : p1.1 = 0 := of_decide_eq_true c2
    rw [if_pos c2] at h
    refine Ev.seg D_258 [(.bipush (-2), 2)] (by decide +kernel) (j := 0) (pc' := 19) (lv' := [(0, .ref 294), (1, .int v1), (2, .int v2)]) (st' := [.int (-2 : Int32)]) rfl ?_
    cases h
    obtain rfl : o = _ := ho
    exact Ev.iret D_258 (by decide +kernel)
  · have c2 : ¬ p1.1 = 0 := of_decide_eq_false c2
    rw [if_neg c2] at h
    refine Ev.seg D_258 [(.aload_n 0, 1), (.iload_n 2, 1), (.i2l, 1)] (by decide +kernel) (j := 0) (pc' := 11) (lv' := [(0, .ref 294), (1, .int v1), (2, .int v2)]) (st' := [.long v2.toInt64, .ref 294]) rfl ?_
    obtain ⟨p4, e4, h⟩ := bd h
    refine Ev.callv D_258 E_204 (by decide +kernel) C_10_220 294 [.long v2.toInt64] (r := []) rfl (gd_o k_294 (by decide)) rfl (Nat.le_of_ble_eq_true rfl) (Nat.le_of_ble_eq_true rfl) (gM_isBoat_ok (by omega)  e4) ?_
    refine Ev.if_ D_258 (c := .ne) (off := 6) (by decide +kernel) (t := 20) rfl (fun c5 => ?_) (fun c5 => ?_)
    · have c5 : ¬ p4 = 0 := of_decide_eq_true c5
      rw [if_neg c5] at h
      refine Ev.seg D_258 [(.iconst 0, 1), (.istore_n 3, 1), (.iconst 0, 1), (.istore 4, 2)] (by decide +kernel) (j := 0) (pc' := 25) (lv' := [(4, .int (0 : Int32)), (3, .int (0 : Int32)), (0, .ref 294), (1, .int v1), (2, .int v2)]) (st' := []) rfl ?_
      obtain ⟨x6, w6, h⟩ := bd h
      have j6 : Ev (d + 1) 258 65 [(3, .int x6)] [] (uS L p1.2) o := by
        clear w6
        refine Ev.seg D_258 [(.iload_n 3, 1)] (by decide +kernel) (j := 0) (pc' := 66) (lv' := [(3, .int x6)]) (st' := [.int x6]) rfl ?_
        cases h
        obtain rfl : o = _ := ho
        exact Ev.iret D_258 (by decide +kernel)
      exact Ev.sub (lv' := [(0, .ref 294), (1, .int v1), (2, .int v2), (3, .int (0 : Int32)), (4, .int (0 : Int32))]) (subL_cons rfl (subL_cons rfl (subL_cons rfl (subL_cons rfl (subL_cons rfl subL_nil))))) (gM_even_h25_w hd   _ _ _ w6 _ j6)
    · have c5 : p4 = 0 := Decidable.of_not_not (of_decide_eq_false c5)
      rw [if_pos c5] at h
      refine Ev.seg D_258 [(.bipush (-2), 2)] (by decide +kernel) (j := 0) (pc' := 19) (lv' := [(0, .ref 294), (1, .int v1), (2, .int v2)]) (st' := [.int (-2 : Int32)]) rfl ?_
      cases h
      obtain rfl : o = _ := ho
      exact Ev.iret D_258 (by decide +kernel)
/- PennantLawnModel passes: 259 -/
def gM_passes_h22 (v1 : Int32) (v2 : Int32) (s : mT) (q : Int32) : Option ((Int32) ⊕ (Int32 × mT)) :=
  (gM_last s).bind fun p1 =>
  if p1 < q then
    some (.inr (((-1 : Int32), s)))
  else
    (gM_placeOf v1 q s).bind fun p4 =>
    (gM_placeOf v2 q s).bind fun p5 =>
    if p4 ≤ p5 then
      some (.inl (q + (1 : Int32)))
    else
      (gM_placeOf v1 (q - (1 : Int32)) s).bind fun p7 =>
      (gM_placeOf v2 (q - (1 : Int32)) s).bind fun p8 =>
      if p8 < p7 then
        some (.inl (q + (1 : Int32)))
      else
        some (.inr ((q, s)))
set_option maxRecDepth 8000 in
theorem gM_passes_h22_ok {L d : Nat} (hd : 7 ≤ d + 1) {v1 : Int32} {v2 : Int32} {s : mT} : ∀ (q : Int32) (x : (Int32) ⊕ (Int32 × mT)), gM_passes_h22 v1 v2 s q = some x → ∀ o, sK (fun q => Ev (d + 1) 259 22 [(0, .ref 294), (1, .int v1), (2, .int v2), (3, .int q)] [] (uS L s) o) (fun r => o = (some (.int r.1), uS L r.2)) x → Ev (d + 1) 259 22 [(0, .ref 294), (1, .int v1), (2, .int v2), (3, .int q)] [] (uS L s) o := by
  intro q x h o ho
  unfold gM_passes_h22 at h
  refine Ev.seg D_259 [(.iload_n 3, 1), (.aload_n 0, 1)] (by decide +kernel) (j := 0) (pc' := 24) (lv' := [(0, .ref 294), (1, .int v1), (2, .int v2), (3, .int q)]) (st' := [.ref 294, .int q]) rfl ?_
  obtain ⟨p1, e1, h⟩ := bd h
  refine Ev.callv D_259 E_216 (by decide +kernel) C_10_96 294 [] (r := [.int q]) rfl (gd_o k_294 (by decide)) rfl (Nat.le_of_ble_eq_true rfl) (Nat.le_of_ble_eq_true rfl) (gM_last_ok (by omega)  e1) ?_
  refine Ev.icmp D_259 (c := .gt) (off := 45) (by decide +kernel) (t := 72) rfl (fun c2 => ?_) (fun c2 => ?_)
  · have c2 : p1 < q := of_decide_eq_true c2
    rw [if_pos c2] at h
    refine Ev.seg D_259 [(.iconst (-1), 1)] (by decide +kernel) (j := 0) (pc' := 73) (lv' := [(0, .ref 294), (1, .int v1), (2, .int v2), (3, .int q)]) (st' := [.int (-1 : Int32)]) rfl ?_
    cases h
    obtain rfl : o = _ := ho
    exact Ev.iret D_259 (by decide +kernel)
  · have c2 : ¬ p1 < q := of_decide_eq_false c2
    rw [if_neg c2] at h
    refine Ev.seg D_259 [(.aload_n 0, 1), (.iload_n 1, 1), (.iload_n 3, 1)] (by decide +kernel) (j := 0) (pc' := 33) (lv' := [(0, .ref 294), (1, .int v1), (2, .int v2), (3, .int q)]) (st' := [.int q, .int v1, .ref 294]) rfl ?_
    obtain ⟨p4, e4, h⟩ := bd h
    refine Ev.callv D_259 E_220 (by decide +kernel) C_10_240 294 [.int v1, .int q] (r := []) rfl (gd_o k_294 (by decide)) rfl (Nat.le_of_ble_eq_true rfl) (Nat.le_of_ble_eq_true rfl) (gM_placeOf_ok (by omega)  e4) ?_
    refine Ev.seg D_259 [(.aload_n 0, 1), (.iload_n 2, 1), (.iload_n 3, 1)] (by decide +kernel) (j := 0) (pc' := 39) (lv' := [(0, .ref 294), (1, .int v1), (2, .int v2), (3, .int q)]) (st' := [.int q, .int v2, .ref 294, .int p4]) rfl ?_
    obtain ⟨p5, e5, h⟩ := bd h
    refine Ev.callv D_259 E_220 (by decide +kernel) C_10_240 294 [.int v2, .int q] (r := [.int p4]) rfl (gd_o k_294 (by decide)) rfl (Nat.le_of_ble_eq_true rfl) (Nat.le_of_ble_eq_true rfl) (gM_placeOf_ok (by omega)  e5) ?_
    refine Ev.icmp D_259 (c := .le) (off := 24) (by decide +kernel) (t := 66) rfl (fun c6 => ?_) (fun c6 => ?_)
    · have c6 : p4 ≤ p5 := of_decide_eq_true c6
      rw [if_pos c6] at h
      refine Ev.seg D_259 [(.iinc 3 1, 3), (.goto (-47), 3)] (by decide +kernel) (j := 0) (pc' := 22) (lv' := [(3, .int (q + (1 : Int32))), (0, .ref 294), (1, .int v1), (2, .int v2)]) (st' := []) rfl ?_
      cases h
      exact Ev.sub (lv' := [(0, .ref 294), (1, .int v1), (2, .int v2), (3, .int (q + (1 : Int32)))]) (subL_cons rfl (subL_cons rfl (subL_cons rfl (subL_cons rfl subL_nil)))) ho
    · have c6 : ¬ p4 ≤ p5 := of_decide_eq_false c6
      rw [if_neg c6] at h
      refine Ev.seg D_259 [(.aload_n 0, 1), (.iload_n 1, 1), (.iload_n 3, 1), (.iconst 1, 1), (.isub, 1)] (by decide +kernel) (j := 0) (pc' := 50) (lv' := [(0, .ref 294), (1, .int v1), (2, .int v2), (3, .int q)]) (st' := [.int (q - (1 : Int32)), .int v1, .ref 294]) rfl ?_
      obtain ⟨p7, e7, h⟩ := bd h
      refine Ev.callv D_259 E_220 (by decide +kernel) C_10_240 294 [.int v1, .int (q - (1 : Int32))] (r := []) rfl (gd_o k_294 (by decide)) rfl (Nat.le_of_ble_eq_true rfl) (Nat.le_of_ble_eq_true rfl) (gM_placeOf_ok (by omega)  e7) ?_
      refine Ev.seg D_259 [(.aload_n 0, 1), (.iload_n 2, 1), (.iload_n 3, 1), (.iconst 1, 1), (.isub, 1)] (by decide +kernel) (j := 0) (pc' := 58) (lv' := [(0, .ref 294), (1, .int v1), (2, .int v2), (3, .int q)]) (st' := [.int (q - (1 : Int32)), .int v2, .ref 294, .int p7]) rfl ?_
      obtain ⟨p8, e8, h⟩ := bd h
      refine Ev.callv D_259 E_220 (by decide +kernel) C_10_240 294 [.int v2, .int (q - (1 : Int32))] (r := [.int p7]) rfl (gd_o k_294 (by decide)) rfl (Nat.le_of_ble_eq_true rfl) (Nat.le_of_ble_eq_true rfl) (gM_placeOf_ok (by omega)  e8) ?_
      refine Ev.icmp D_259 (c := .gt) (off := 5) (by decide +kernel) (t := 66) rfl (fun c9 => ?_) (fun c9 => ?_)
      · have c9 : p8 < p7 := of_decide_eq_true c9
        rw [if_pos c9] at h
        refine Ev.seg D_259 [(.iinc 3 1, 3), (.goto (-47), 3)] (by decide +kernel) (j := 0) (pc' := 22) (lv' := [(3, .int (q + (1 : Int32))), (0, .ref 294), (1, .int v1), (2, .int v2)]) (st' := []) rfl ?_
        cases h
        exact Ev.sub (lv' := [(0, .ref 294), (1, .int v1), (2, .int v2), (3, .int (q + (1 : Int32)))]) (subL_cons rfl (subL_cons rfl (subL_cons rfl (subL_cons rfl subL_nil)))) ho
      · have c9 : ¬ p8 < p7 := of_decide_eq_false c9
        rw [if_neg c9] at h
        refine Ev.seg D_259 [(.iload_n 3, 1)] (by decide +kernel) (j := 0) (pc' := 65) (lv' := [(0, .ref 294), (1, .int v1), (2, .int v2), (3, .int q)]) (st' := [.int q]) rfl ?_
        cases h
        obtain rfl : o = _ := ho
        exact Ev.iret D_259 (by decide +kernel)
theorem gM_passes_h22_w {L d : Nat} (hd : 7 ≤ d + 1) {v1 : Int32} {v2 : Int32} {s : mT} : ∀ (n : Nat) (q : Int32) (r : Int32 × mT), wh n (gM_passes_h22 v1 v2 s) q = some r → ∀ o, (fun r => o = (some (.int r.1), uS L r.2)) r → Ev (d + 1) 259 22 [(0, .ref 294), (1, .int v1), (2, .int v2), (3, .int q)] [] (uS L s) o :=
  fun n q r h o hc => wh_ev (E := fun (q : Int32) o => Ev (d + 1) 259 22 [(0, .ref 294), (1, .int v1), (2, .int v2), (3, .int q)] [] (uS L s) o) (C := fun (r : Int32 × mT) o => (fun r => o = (some (.int r.1), uS L r.2)) r) (gM_passes_h22_ok hd  ) n q r h o hc
def gM_passes (v1 : Int32) (v2 : Int32) (s : mT) : Option (Int32 × mT) :=
  (gM_asksBoat v1 s).bind fun p1 =>
  if p1.1 = 0 then
    some (((-2 : Int32), p1.2))
  else
    (gM_isBoat v2.toInt64 p1.2).bind fun p4 =>
    if p4 = 0 then
      some (((-2 : Int32), p1.2))
    else
      wh FU (gM_passes_h22 v1 v2 p1.2) (1 : Int32)
set_option maxRecDepth 8000 in
theorem gM_passes_ok {L d : Nat} (hd : 7 ≤ d) {v1 : Int32} {v2 : Int32} {s : mT} {p : Int32 × mT} (h : gM_passes v1 v2 s = some p) : Ev d 259 0 [(0, .ref 294), (1, .int v1), (2, .int v2)] [] (uS L s) (some (.int p.1), uS L p.2) := by
  obtain ⟨d, rfl⟩ : ∃ e, d = e + 1 := ⟨d - 1, by omega⟩
  obtain ⟨o, ho⟩ : ∃ o : Option Value × mS, o = (some (.int p.1), uS L p.2) := ⟨_, rfl⟩
  rw [← ho]
  unfold gM_passes at h
  refine Ev.seg D_259 [(.aload_n 0, 1), (.iload_n 1, 1)] (by decide +kernel) (j := 0) (pc' := 2) (lv' := [(0, .ref 294), (1, .int v1), (2, .int v2)]) (st' := [.int v1, .ref 294]) rfl ?_
  obtain ⟨p1, e1, h⟩ := bd h
  refine Ev.callv D_259 E_234 (by decide +kernel) C_10_290 294 [.int v1] (r := []) rfl (gd_o k_294 (by decide)) rfl (Nat.le_of_ble_eq_true rfl) (Nat.le_of_ble_eq_true rfl) (gM_asksBoat_ok (by omega)  e1) ?_
  refine Ev.if_ D_259 (c := .eq) (off := 12) (by decide +kernel) (t := 17) rfl (fun c2 => ?_) (fun c2 => ?_)
  · have c2 : p1.1 = 0 := of_decide_eq_true c2
    rw [if_pos c2] at h
    refine Ev.seg D_259 [(.bipush (-2), 2)] (by decide +kernel) (j := 0) (pc' := 19) (lv' := [(0, .ref 294), (1, .int v1), (2, .int v2)]) (st' := [.int (-2 : Int32)]) rfl ?_
    cases h
    obtain rfl : o = _ := ho
    exact Ev.iret D_259 (by decide +kernel)
  · have c2 : ¬ p1.1 = 0 := of_decide_eq_false c2
    rw [if_neg c2] at h
    refine Ev.seg D_259 [(.aload_n 0, 1), (.iload_n 2, 1), (.i2l, 1)] (by decide +kernel) (j := 0) (pc' := 11) (lv' := [(0, .ref 294), (1, .int v1), (2, .int v2)]) (st' := [.long v2.toInt64, .ref 294]) rfl ?_
    obtain ⟨p4, e4, h⟩ := bd h
    refine Ev.callv D_259 E_204 (by decide +kernel) C_10_220 294 [.long v2.toInt64] (r := []) rfl (gd_o k_294 (by decide)) rfl (Nat.le_of_ble_eq_true rfl) (Nat.le_of_ble_eq_true rfl) (gM_isBoat_ok (by omega)  e4) ?_
    refine Ev.if_ D_259 (c := .ne) (off := 6) (by decide +kernel) (t := 20) rfl (fun c5 => ?_) (fun c5 => ?_)
    · have c5 : ¬ p4 = 0 := of_decide_eq_true c5
      rw [if_neg c5] at h
      refine Ev.seg D_259 [(.iconst 1, 1), (.istore_n 3, 1)] (by decide +kernel) (j := 0) (pc' := 22) (lv' := [(3, .int (1 : Int32)), (0, .ref 294), (1, .int v1), (2, .int v2)]) (st' := []) rfl ?_
      exact Ev.sub (lv' := [(0, .ref 294), (1, .int v1), (2, .int v2), (3, .int (1 : Int32))]) (subL_cons rfl (subL_cons rfl (subL_cons rfl (subL_cons rfl subL_nil)))) (gM_passes_h22_w hd   _ _ _ h _ ho)
    · have c5 : p4 = 0 := Decidable.of_not_not (of_decide_eq_false c5)
      rw [if_pos c5] at h
      refine Ev.seg D_259 [(.bipush (-2), 2)] (by decide +kernel) (j := 0) (pc' := 19) (lv' := [(0, .ref 294), (1, .int v1), (2, .int v2)]) (st' := [.int (-2 : Int32)]) rfl ?_
      cases h
      obtain rfl : o = _ := ho
      exact Ev.iret D_259 (by decide +kernel)
/- PennantLawnModel arrived: 260 -/
def gM_arrived_h15 (v1 : Int32) (s : mT) (q : Int32 × Int32) : Option ((Int32 × Int32) ⊕ (Int32)) :=
  (rdI (s.1 295) 79 (4 : Int32)).bind fun x2 =>
  if x2 ≤ q.2 then
    some (.inr q.1)
  else
    (gM_placeOf q.2 v1 s).bind fun p4 =>
    (rdI (s.1 295) 79 (2 : Int32)).bind fun x6 =>
    (
      if p4 = x6 then
        some ((1 : Int32) <<< (q.2 &&& 31))
      else
        some ((0 : Int32)) : Option (Int32)).bind fun x7 =>
    some (.inl (q.1 ||| x7, q.2 + (1 : Int32)))
set_option maxRecDepth 8000 in
theorem gM_arrived_h15_ok {L d : Nat} (hd : 7 ≤ d + 1) {v1 : Int32} {s : mT} : ∀ (q : Int32 × Int32) (x : (Int32 × Int32) ⊕ (Int32)), gM_arrived_h15 v1 s q = some x → ∀ o, sK (fun q => Ev (d + 1) 260 15 [(0, .ref 294), (1, .int v1), (2, .int q.1), (3, .int q.2)] [] (uS L s) o) (fun r => Ev (d + 1) 260 56 [(2, .int r)] [] (uS L s) o) x → Ev (d + 1) 260 15 [(0, .ref 294), (1, .int v1), (2, .int q.1), (3, .int q.2)] [] (uS L s) o := by
  intro q x h o ho
  unfold gM_arrived_h15 at h
  refine Ev.seg D_260 [(.iload_n 3, 1), (.aload_n 0, 1)] (by decide +kernel) (j := 0) (pc' := 17) (lv' := [(0, .ref 294), (1, .int v1), (2, .int q.1), (3, .int q.2)]) (st' := [.ref 294, .int q.2]) rfl ?_
  refine Ev.getR D_260 (by decide +kernel) F_10_9 T_10_1 (x := 295) (S_oR k_294 (by decide +kernel)) ?_
  refine Ev.seg D_260 [(.iconst 4, 1)] (by decide +kernel) (j := 0) (pc' := 21) (lv' := [(0, .ref 294), (1, .int v1), (2, .int q.1), (3, .int q.2)]) (st' := [.int (4 : Int32), .ref 295, .int q.2]) rfl ?_
  obtain ⟨x2, e2, h⟩ := bd h
  refine Ev.iald D_260 (by decide +kernel) (S_aI k_295 e2) ?_
  refine Ev.icmp D_260 (c := .ge) (off := 34) (by decide +kernel) (t := 56) rfl (fun c3 => ?_) (fun c3 => ?_)
  · have c3 : x2 ≤ q.2 := of_decide_eq_true c3
    rw [if_pos c3] at h
    cases h
    exact Ev.sub (lv' := [(2, .int q.1)]) (subL_cons rfl subL_nil) ho
  · have c3 : ¬ x2 ≤ q.2 := of_decide_eq_false c3
    rw [if_neg c3] at h
    refine Ev.seg D_260 [(.iload_n 2, 1), (.aload_n 0, 1), (.iload_n 3, 1), (.iload_n 1, 1)] (by decide +kernel) (j := 0) (pc' := 29) (lv' := [(0, .ref 294), (1, .int v1), (2, .int q.1), (3, .int q.2)]) (st' := [.int v1, .int q.2, .ref 294, .int q.1]) rfl ?_
    obtain ⟨p4, e4, h⟩ := bd h
    refine Ev.callv D_260 E_220 (by decide +kernel) C_10_240 294 [.int q.2, .int v1] (r := [.int q.1]) rfl (gd_o k_294 (by decide)) rfl (Nat.le_of_ble_eq_true rfl) (Nat.le_of_ble_eq_true rfl) (gM_placeOf_ok (by omega)  e4) ?_
    refine Ev.seg D_260 [(.aload_n 0, 1)] (by decide +kernel) (j := 0) (pc' := 33) (lv' := [(0, .ref 294), (1, .int v1), (2, .int q.1), (3, .int q.2)]) (st' := [.ref 294, .int p4, .int q.1]) rfl ?_
    refine Ev.getR D_260 (by decide +kernel) F_10_9 T_10_1 (x := 295) (S_oR k_294 (by decide +kernel)) ?_
    refine Ev.seg D_260 [(.iconst 2, 1)] (by decide +kernel) (j := 0) (pc' := 37) (lv' := [(0, .ref 294), (1, .int v1), (2, .int q.1), (3, .int q.2)]) (st' := [.int (2 : Int32), .ref 295, .int p4, .int q.1]) rfl ?_
    obtain ⟨x6, e6, h⟩ := bd h
    refine Ev.iald D_260 (by decide +kernel) (S_aI k_295 e6) ?_
    obtain ⟨x7, g7, h⟩ := bd h
    have j7 : Ev (d + 1) 260 48 [(0, .ref 294), (1, .int v1), (3, .int q.2)] [.int x7, .int q.1] (uS L s) o := by
      clear g7
      refine Ev.seg D_260 [(.ior, 1), (.istore_n 2, 1), (.iinc 3 1, 3), (.goto (-38), 3)] (by decide +kernel) (j := 0) (pc' := 15) (lv' := [(3, .int (q.2 + (1 : Int32))), (2, .int (q.1 ||| x7)), (0, .ref 294), (1, .int v1)]) (st' := []) rfl ?_
      cases h
      exact Ev.sub (lv' := [(0, .ref 294), (1, .int v1), (2, .int (q.1 ||| x7)), (3, .int (q.2 + (1 : Int32)))]) (subL_cons rfl (subL_cons rfl (subL_cons rfl (subL_cons rfl subL_nil)))) ho
    clear h
    refine Ev.icmp D_260 (c := .ne) (off := 9) (by decide +kernel) (t := 47) rfl (fun c7 => ?_) (fun c7 => ?_)
    · have c7 : ¬ p4 = x6 := of_decide_eq_true c7
      rw [if_neg c7] at g7
      refine Ev.seg D_260 [(.iconst 0, 1)] (by decide +kernel) (j := 0) (pc' := 48) (lv' := [(0, .ref 294), (1, .int v1), (2, .int q.1), (3, .int q.2)]) (st' := [.int (0 : Int32), .int q.1]) rfl ?_
      cases g7
      exact Ev.sub2 j7 (subL_cons rfl (subL_cons rfl (subL_cons rfl subL_nil)))
    · have c7 : p4 = x6 := Decidable.of_not_not (of_decide_eq_false c7)
      rw [if_pos c7] at g7
      refine Ev.seg D_260 [(.iconst 1, 1), (.iload_n 3, 1), (.ishl, 1), (.goto 4, 3)] (by decide +kernel) (j := 0) (pc' := 48) (lv' := [(0, .ref 294), (1, .int v1), (2, .int q.1), (3, .int q.2)]) (st' := [.int ((1 : Int32) <<< (q.2 &&& 31)), .int q.1]) rfl ?_
      cases g7
      exact Ev.sub2 j7 (subL_cons rfl (subL_cons rfl (subL_cons rfl subL_nil)))
theorem gM_arrived_h15_w {L d : Nat} (hd : 7 ≤ d + 1) {v1 : Int32} {s : mT} : ∀ (n : Nat) (q : Int32 × Int32) (r : Int32), wh n (gM_arrived_h15 v1 s) q = some r → ∀ o, (fun r => Ev (d + 1) 260 56 [(2, .int r)] [] (uS L s) o) r → Ev (d + 1) 260 15 [(0, .ref 294), (1, .int v1), (2, .int q.1), (3, .int q.2)] [] (uS L s) o :=
  fun n q r h o hc => wh_ev (E := fun (q : Int32 × Int32) o => Ev (d + 1) 260 15 [(0, .ref 294), (1, .int v1), (2, .int q.1), (3, .int q.2)] [] (uS L s) o) (C := fun (r : Int32) o => (fun r => Ev (d + 1) 260 56 [(2, .int r)] [] (uS L s) o) r) (gM_arrived_h15_ok hd  ) n q r h o hc
def gM_arrived (v1 : Int32) (s : mT) : Option (Int32 × mT) :=
  (gM_asksStep v1 s).bind fun p1 =>
  if p1.1 = 0 then
    some (((-2 : Int32), p1.2))
  else
    (wh FU (gM_arrived_h15 v1 p1.2) ((0 : Int32), (0 : Int32))).bind fun x8 =>
    some ((x8, p1.2))
set_option maxRecDepth 8000 in
theorem gM_arrived_ok {L d : Nat} (hd : 7 ≤ d) {v1 : Int32} {s : mT} {p : Int32 × mT} (h : gM_arrived v1 s = some p) : Ev d 260 0 [(0, .ref 294), (1, .int v1)] [] (uS L s) (some (.int p.1), uS L p.2) := by
  obtain ⟨d, rfl⟩ : ∃ e, d = e + 1 := ⟨d - 1, by omega⟩
  obtain ⟨o, ho⟩ : ∃ o : Option Value × mS, o = (some (.int p.1), uS L p.2) := ⟨_, rfl⟩
  rw [← ho]
  unfold gM_arrived at h
  refine Ev.seg D_260 [(.aload_n 0, 1), (.iload_n 1, 1)] (by decide +kernel) (j := 0) (pc' := 2) (lv' := [(0, .ref 294), (1, .int v1)]) (st' := [.int v1, .ref 294]) rfl ?_
  obtain ⟨p1, e1, h⟩ := bd h
  refine Ev.callv D_260 E_210 (by decide +kernel) C_10_278 294 [.int v1] (r := []) rfl (gd_o k_294 (by decide)) rfl (Nat.le_of_ble_eq_true rfl) (Nat.le_of_ble_eq_true rfl) (gM_asksStep_ok (by omega)  e1) ?_
  refine Ev.if_ D_260 (c := .ne) (off := 6) (by decide +kernel) (t := 11) rfl (fun c2 => ?_) (fun c2 => ?_)
  · have c2 : ¬ p1.1 = 0 := of_decide_eq_true c2
    rw [if_neg c2] at h
    refine Ev.seg D_260 [(.iconst 0, 1), (.istore_n 2, 1), (.iconst 0, 1), (.istore_n 3, 1)] (by decide +kernel) (j := 0) (pc' := 15) (lv' := [(3, .int (0 : Int32)), (2, .int (0 : Int32)), (0, .ref 294), (1, .int v1)]) (st' := []) rfl ?_
    obtain ⟨x8, w8, h⟩ := bd h
    have j8 : Ev (d + 1) 260 56 [(2, .int x8)] [] (uS L p1.2) o := by
      clear w8
      refine Ev.seg D_260 [(.iload_n 2, 1)] (by decide +kernel) (j := 0) (pc' := 57) (lv' := [(2, .int x8)]) (st' := [.int x8]) rfl ?_
      cases h
      obtain rfl : o = _ := ho
      exact Ev.iret D_260 (by decide +kernel)
    exact Ev.sub (lv' := [(0, .ref 294), (1, .int v1), (2, .int (0 : Int32)), (3, .int (0 : Int32))]) (subL_cons rfl (subL_cons rfl (subL_cons rfl (subL_cons rfl subL_nil)))) (gM_arrived_h15_w hd   _ _ _ w8 _ j8)
  · have c2 : p1.1 = 0 := Decidable.of_not_not (of_decide_eq_false c2)
    rw [if_pos c2] at h
    refine Ev.seg D_260 [(.bipush (-2), 2)] (by decide +kernel) (j := 0) (pc' := 10) (lv' := [(0, .ref 294), (1, .int v1)]) (st' := [.int (-2 : Int32)]) rfl ?_
    cases h
    obtain rfl : o = _ := ho
    exact Ev.iret D_260 (by decide +kernel)
/- PennantLawnModel bits: 262 -/
def gM_bits_h4 (v0 : Int32) (s : mT) (q : Int32 × Int32) : Option ((Int32 × Int32) ⊕ (Int32)) :=
  if (20 : Int32) ≤ q.2 then
    some (.inr q.1)
  else
    some (.inl (q.1 + ((v0 >>> (q.2 &&& 31)) &&& (1 : Int32)), q.2 + (1 : Int32)))
set_option maxRecDepth 8000 in
theorem gM_bits_h4_ok {L d : Nat} (hd : 1 ≤ d + 1) {v0 : Int32} {s : mT} : ∀ (q : Int32 × Int32) (x : (Int32 × Int32) ⊕ (Int32)), gM_bits_h4 v0 s q = some x → ∀ o, sK (fun q => Ev (d + 1) 262 4 [(0, .int v0), (1, .int q.1), (2, .int q.2)] [] (uS L s) o) (fun r => Ev (d + 1) 262 24 [(1, .int r)] [] (uS L s) o) x → Ev (d + 1) 262 4 [(0, .int v0), (1, .int q.1), (2, .int q.2)] [] (uS L s) o := by
  intro q x h o ho
  unfold gM_bits_h4 at h
  refine Ev.seg D_262 [(.iload_n 2, 1), (.bipush 20, 2)] (by decide +kernel) (j := 0) (pc' := 7) (lv' := [(0, .int v0), (1, .int q.1), (2, .int q.2)]) (st' := [.int (20 : Int32), .int q.2]) rfl ?_
  refine Ev.icmp D_262 (c := .ge) (off := 17) (by decide +kernel) (t := 24) rfl (fun c1 => ?_) (fun c1 => ?_)
  · have c1 : (20 : Int32) ≤ q.2 := of_decide_eq_true c1
    rw [if_pos c1] at h
    cases h
    exact Ev.sub (lv' := [(1, .int q.1)]) (subL_cons rfl subL_nil) ho
  · have c1 : ¬ (20 : Int32) ≤ q.2 := of_decide_eq_false c1
    rw [if_neg c1] at h
    refine Ev.seg D_262 [(.iload_n 1, 1), (.iload_n 0, 1), (.iload_n 2, 1), (.ishr, 1), (.iconst 1, 1), (.iand, 1), (.iadd, 1), (.istore_n 1, 1), (.iinc 2 1, 3), (.goto (-17), 3)] (by decide +kernel) (j := 0) (pc' := 4) (lv' := [(2, .int (q.2 + (1 : Int32))), (1, .int (q.1 + ((v0 >>> (q.2 &&& 31)) &&& (1 : Int32)))), (0, .int v0)]) (st' := []) rfl ?_
    cases h
    exact Ev.sub (lv' := [(0, .int v0), (1, .int (q.1 + ((v0 >>> (q.2 &&& 31)) &&& (1 : Int32)))), (2, .int (q.2 + (1 : Int32)))]) (subL_cons rfl (subL_cons rfl (subL_cons rfl subL_nil))) ho
theorem gM_bits_h4_w {L d : Nat} (hd : 1 ≤ d + 1) {v0 : Int32} {s : mT} : ∀ (n : Nat) (q : Int32 × Int32) (r : Int32), wh n (gM_bits_h4 v0 s) q = some r → ∀ o, (fun r => Ev (d + 1) 262 24 [(1, .int r)] [] (uS L s) o) r → Ev (d + 1) 262 4 [(0, .int v0), (1, .int q.1), (2, .int q.2)] [] (uS L s) o :=
  fun n q r h o hc => wh_ev (E := fun (q : Int32 × Int32) o => Ev (d + 1) 262 4 [(0, .int v0), (1, .int q.1), (2, .int q.2)] [] (uS L s) o) (C := fun (r : Int32) o => (fun r => Ev (d + 1) 262 24 [(1, .int r)] [] (uS L s) o) r) (gM_bits_h4_ok hd  ) n q r h o hc
def gM_bits (v0 : Int32) (s : mT) : Option (Int32) :=
  (wh FU (gM_bits_h4 v0 s) ((0 : Int32), (0 : Int32))).bind fun x2 =>
  some (x2)
set_option maxRecDepth 8000 in
theorem gM_bits_ok {L d : Nat} (hd : 1 ≤ d) {v0 : Int32} {s : mT} {p : Int32} (h : gM_bits v0 s = some p) : Ev d 262 0 [(0, .int v0)] [] (uS L s) (some (.int p), uS L s) := by
  obtain ⟨d, rfl⟩ : ∃ e, d = e + 1 := ⟨d - 1, by omega⟩
  obtain ⟨o, ho⟩ : ∃ o : Option Value × mS, o = (some (.int p), uS L s) := ⟨_, rfl⟩
  rw [← ho]
  unfold gM_bits at h
  refine Ev.seg D_262 [(.iconst 0, 1), (.istore_n 1, 1), (.iconst 0, 1), (.istore_n 2, 1)] (by decide +kernel) (j := 0) (pc' := 4) (lv' := [(2, .int (0 : Int32)), (1, .int (0 : Int32)), (0, .int v0)]) (st' := []) rfl ?_
  obtain ⟨x2, w2, h⟩ := bd h
  have j2 : Ev (d + 1) 262 24 [(1, .int x2)] [] (uS L s) o := by
    clear w2
    refine Ev.seg D_262 [(.iload_n 1, 1)] (by decide +kernel) (j := 0) (pc' := 25) (lv' := [(1, .int x2)]) (st' := [.int x2]) rfl ?_
    cases h
    obtain rfl : o = _ := ho
    exact Ev.iret D_262 (by decide +kernel)
  exact Ev.sub (lv' := [(0, .int v0), (1, .int (0 : Int32)), (2, .int (0 : Int32))]) (subL_cons rfl (subL_cons rfl (subL_cons rfl subL_nil))) (gM_bits_h4_w hd   _ _ _ w2 _ j2)
/- PennantLawnModel calmest: 261 -/
def gM_calmest_h16 (s : mT) (q : Int32 × Int32 × Int32) : Option ((Int32 × Int32 × Int32) ⊕ (Int32)) :=
  (rdI (s.1 295) 79 (4 : Int32)).bind fun x2 =>
  if x2 ≤ q.2.2 then
    some (.inr q.1)
  else
    (gM_calmOf q.2.2 s).bind fun p4 =>
    (gM_bits p4 s).bind fun p5 =>
    (
      if q.2.1 < p5 then
        (gM_calmOf q.2.2 s).bind fun p7 =>
        (gM_bits p7 s).bind fun p8 =>
        some ((q.2.2, p8))
      else
        some ((q.1, q.2.1)) : Option (Int32 × Int32)).bind fun x6 =>
    some (.inl (x6.1, x6.2, q.2.2 + (1 : Int32)))
set_option maxRecDepth 8000 in
theorem gM_calmest_h16_ok {L d : Nat} (hd : 6 ≤ d + 1) {s : mT} : ∀ (q : Int32 × Int32 × Int32) (x : (Int32 × Int32 × Int32) ⊕ (Int32)), gM_calmest_h16 s q = some x → ∀ o, sK (fun q => Ev (d + 1) 261 16 [(0, .ref 294), (1, .int q.1), (2, .int q.2.1), (3, .int q.2.2)] [] (uS L s) o) (fun r => Ev (d + 1) 261 58 [(1, .int r)] [] (uS L s) o) x → Ev (d + 1) 261 16 [(0, .ref 294), (1, .int q.1), (2, .int q.2.1), (3, .int q.2.2)] [] (uS L s) o := by
  intro q x h o ho
  unfold gM_calmest_h16 at h
  refine Ev.seg D_261 [(.iload_n 3, 1), (.aload_n 0, 1)] (by decide +kernel) (j := 0) (pc' := 18) (lv' := [(0, .ref 294), (1, .int q.1), (2, .int q.2.1), (3, .int q.2.2)]) (st' := [.ref 294, .int q.2.2]) rfl ?_
  refine Ev.getR D_261 (by decide +kernel) F_10_9 T_10_1 (x := 295) (S_oR k_294 (by decide +kernel)) ?_
  refine Ev.seg D_261 [(.iconst 4, 1)] (by decide +kernel) (j := 0) (pc' := 22) (lv' := [(0, .ref 294), (1, .int q.1), (2, .int q.2.1), (3, .int q.2.2)]) (st' := [.int (4 : Int32), .ref 295, .int q.2.2]) rfl ?_
  obtain ⟨x2, e2, h⟩ := bd h
  refine Ev.iald D_261 (by decide +kernel) (S_aI k_295 e2) ?_
  refine Ev.icmp D_261 (c := .ge) (off := 35) (by decide +kernel) (t := 58) rfl (fun c3 => ?_) (fun c3 => ?_)
  · have c3 : x2 ≤ q.2.2 := of_decide_eq_true c3
    rw [if_pos c3] at h
    cases h
    exact Ev.sub (lv' := [(1, .int q.1)]) (subL_cons rfl subL_nil) ho
  · have c3 : ¬ x2 ≤ q.2.2 := of_decide_eq_false c3
    rw [if_neg c3] at h
    refine Ev.seg D_261 [(.aload_n 0, 1), (.iload_n 3, 1)] (by decide +kernel) (j := 0) (pc' := 28) (lv' := [(0, .ref 294), (1, .int q.1), (2, .int q.2.1), (3, .int q.2.2)]) (st' := [.int q.2.2, .ref 294]) rfl ?_
    obtain ⟨p4, e4, h⟩ := bd h
    refine Ev.callv D_261 E_237 (by decide +kernel) C_10_293 294 [.int q.2.2] (r := []) rfl (gd_o k_294 (by decide)) rfl (Nat.le_of_ble_eq_true rfl) (Nat.le_of_ble_eq_true rfl) (gM_calmOf_ok (by omega)  e4) ?_
    obtain ⟨p5, e5, h⟩ := bd h
    refine Ev.calls D_261 E_262 (by decide +kernel) C_10_311 [.int p4] (r := []) rfl rfl (Nat.le_of_ble_eq_true rfl) (Nat.le_of_ble_eq_true rfl) (gM_bits_ok (by omega)  e5) ?_
    refine Ev.seg D_261 [(.iload_n 2, 1)] (by decide +kernel) (j := 0) (pc' := 35) (lv' := [(0, .ref 294), (1, .int q.1), (2, .int q.2.1), (3, .int q.2.2)]) (st' := [.int q.2.1, .int p5]) rfl ?_
    obtain ⟨x6, g6, h⟩ := bd h
    have j6 : Ev (d + 1) 261 52 [(0, .ref 294), (1, .int x6.1), (2, .int x6.2), (3, .int q.2.2)] [] (uS L s) o := by
      clear g6
      refine Ev.seg D_261 [(.iinc 3 1, 3), (.goto (-39), 3)] (by decide +kernel) (j := 0) (pc' := 16) (lv' := [(3, .int (q.2.2 + (1 : Int32))), (0, .ref 294), (1, .int x6.1), (2, .int x6.2)]) (st' := []) rfl ?_
      cases h
      exact Ev.sub (lv' := [(0, .ref 294), (1, .int (x6.1)), (2, .int (x6.2)), (3, .int (q.2.2 + (1 : Int32)))]) (subL_cons rfl (subL_cons rfl (subL_cons rfl (subL_cons rfl subL_nil)))) ho
    clear h
    refine Ev.icmp D_261 (c := .gt) (off := 6) (by decide +kernel) (t := 41) rfl (fun c6 => ?_) (fun c6 => ?_)
    · have c6 : q.2.1 < p5 := of_decide_eq_true c6
      rw [if_pos c6] at g6
      refine Ev.seg D_261 [(.aload_n 0, 1), (.iload_n 3, 1)] (by decide +kernel) (j := 0) (pc' := 43) (lv' := [(0, .ref 294), (1, .int q.1), (2, .int q.2.1), (3, .int q.2.2)]) (st' := [.int q.2.2, .ref 294]) rfl ?_
      obtain ⟨p7, e7, g6⟩ := bd g6
      refine Ev.callv D_261 E_237 (by decide +kernel) C_10_293 294 [.int q.2.2] (r := []) rfl (gd_o k_294 (by decide)) rfl (Nat.le_of_ble_eq_true rfl) (Nat.le_of_ble_eq_true rfl) (gM_calmOf_ok (by omega)  e7) ?_
      obtain ⟨p8, e8, g6⟩ := bd g6
      refine Ev.calls D_261 E_262 (by decide +kernel) C_10_311 [.int p7] (r := []) rfl rfl (Nat.le_of_ble_eq_true rfl) (Nat.le_of_ble_eq_true rfl) (gM_bits_ok (by omega)  e8) ?_
      refine Ev.seg D_261 [(.istore_n 2, 1), (.iload_n 3, 1), (.istore_n 1, 1)] (by decide +kernel) (j := 0) (pc' := 52) (lv' := [(1, .int q.2.2), (2, .int p8), (0, .ref 294), (3, .int q.2.2)]) (st' := []) rfl ?_
      cases g6
      exact Ev.sub2 j6 (subL_cons rfl (subL_cons rfl (subL_cons rfl (subL_cons rfl subL_nil))))
    · have c6 : ¬ q.2.1 < p5 := of_decide_eq_false c6
      rw [if_neg c6] at g6
      refine Ev.seg D_261 [(.goto 14, 3)] (by decide +kernel) (j := 0) (pc' := 52) (lv' := [(0, .ref 294), (1, .int q.1), (2, .int q.2.1), (3, .int q.2.2)]) (st' := []) rfl ?_
      cases g6
      exact Ev.sub2 j6 (subL_cons rfl (subL_cons rfl (subL_cons rfl (subL_cons rfl subL_nil))))
theorem gM_calmest_h16_w {L d : Nat} (hd : 6 ≤ d + 1) {s : mT} : ∀ (n : Nat) (q : Int32 × Int32 × Int32) (r : Int32), wh n (gM_calmest_h16 s) q = some r → ∀ o, (fun r => Ev (d + 1) 261 58 [(1, .int r)] [] (uS L s) o) r → Ev (d + 1) 261 16 [(0, .ref 294), (1, .int q.1), (2, .int q.2.1), (3, .int q.2.2)] [] (uS L s) o :=
  fun n q r h o hc => wh_ev (E := fun (q : Int32 × Int32 × Int32) o => Ev (d + 1) 261 16 [(0, .ref 294), (1, .int q.1), (2, .int q.2.1), (3, .int q.2.2)] [] (uS L s) o) (C := fun (r : Int32) o => (fun r => Ev (d + 1) 261 58 [(1, .int r)] [] (uS L s) o) r) (gM_calmest_h16_ok hd  ) n q r h o hc
def gM_calmest (s : mT) : Option (Int32 × mT) :=
  (gM_asksRace s).bind fun p1 =>
  if p1.1 = 0 then
    some (((-2 : Int32), p1.2))
  else
    (wh FU (gM_calmest_h16 p1.2) ((-1 : Int32), (0 : Int32), (0 : Int32))).bind fun x9 =>
    some ((x9, p1.2))
set_option maxRecDepth 8000 in
theorem gM_calmest_ok {L d : Nat} (hd : 6 ≤ d) {s : mT} {p : Int32 × mT} (h : gM_calmest s = some p) : Ev d 261 0 [(0, .ref 294)] [] (uS L s) (some (.int p.1), uS L p.2) := by
  obtain ⟨d, rfl⟩ : ∃ e, d = e + 1 := ⟨d - 1, by omega⟩
  obtain ⟨o, ho⟩ : ∃ o : Option Value × mS, o = (some (.int p.1), uS L p.2) := ⟨_, rfl⟩
  rw [← ho]
  unfold gM_calmest at h
  refine Ev.seg D_261 [(.aload_n 0, 1)] (by decide +kernel) (j := 0) (pc' := 1) (lv' := [(0, .ref 294)]) (st' := [.ref 294]) rfl ?_
  obtain ⟨p1, e1, h⟩ := bd h
  refine Ev.callv D_261 E_211 (by decide +kernel) C_10_269 294 [] (r := []) rfl (gd_o k_294 (by decide)) rfl (Nat.le_of_ble_eq_true rfl) (Nat.le_of_ble_eq_true rfl) (gM_asksRace_ok (by omega)  e1) ?_
  refine Ev.if_ D_261 (c := .ne) (off := 6) (by decide +kernel) (t := 10) rfl (fun c2 => ?_) (fun c2 => ?_)
  · have c2 : ¬ p1.1 = 0 := of_decide_eq_true c2
    rw [if_neg c2] at h
    refine Ev.seg D_261 [(.iconst (-1), 1), (.istore_n 1, 1), (.iconst 0, 1), (.istore_n 2, 1), (.iconst 0, 1), (.istore_n 3, 1)] (by decide +kernel) (j := 0) (pc' := 16) (lv' := [(3, .int (0 : Int32)), (2, .int (0 : Int32)), (1, .int (-1 : Int32)), (0, .ref 294)]) (st' := []) rfl ?_
    obtain ⟨x9, w9, h⟩ := bd h
    have j9 : Ev (d + 1) 261 58 [(1, .int x9)] [] (uS L p1.2) o := by
      clear w9
      refine Ev.seg D_261 [(.iload_n 1, 1)] (by decide +kernel) (j := 0) (pc' := 59) (lv' := [(1, .int x9)]) (st' := [.int x9]) rfl ?_
      cases h
      obtain rfl : o = _ := ho
      exact Ev.iret D_261 (by decide +kernel)
    exact Ev.sub (lv' := [(0, .ref 294), (1, .int (-1 : Int32)), (2, .int (0 : Int32)), (3, .int (0 : Int32))]) (subL_cons rfl (subL_cons rfl (subL_cons rfl (subL_cons rfl subL_nil)))) (gM_calmest_h16_w hd   _ _ _ w9 _ j9)
  · have c2 : p1.1 = 0 := Decidable.of_not_not (of_decide_eq_false c2)
    rw [if_pos c2] at h
    refine Ev.seg D_261 [(.bipush (-2), 2)] (by decide +kernel) (j := 0) (pc' := 9) (lv' := [(0, .ref 294)]) (st' := [.int (-2 : Int32)]) rfl ?_
    cases h
    obtain rfl : o = _ := ho
    exact Ev.iret D_261 (by decide +kernel)
/- PennantLawnModel clear: 263 -/
def gM_clear (v1 : Int32) (s : mT) : Option (Int32 × mT) :=
  (gM_asItIs s).bind fun p1 =>
  (rdI (p1.1 295) 79 (6 : Int32)).bind fun x3 =>
  (gM_in v1.toInt64 (0 : Int64) ((x3 - (1 : Int32)).toInt64) p1).bind fun p4 =>
  if p4 = 0 then
    some (((-2 : Int32), p1))
  else
    (gM_layShows v1 p1).bind fun p6 =>
    (gM_goAll p6).bind fun p7 =>
    (gM_winsOf p7).bind fun p8 =>
    some ((p8, p7))
set_option maxRecDepth 8000 in
theorem gM_clear_ok {L d : Nat} (hd : 5 ≤ d) {v1 : Int32} {s : mT} {p : Int32 × mT} (h : gM_clear v1 s = some p) : Ev d 263 0 [(0, .ref 294), (1, .int v1)] [] (uS L s) (some (.int p.1), uS L p.2) := by
  obtain ⟨d, rfl⟩ : ∃ e, d = e + 1 := ⟨d - 1, by omega⟩
  obtain ⟨o, ho⟩ : ∃ o : Option Value × mS, o = (some (.int p.1), uS L p.2) := ⟨_, rfl⟩
  rw [← ho]
  unfold gM_clear at h
  refine Ev.seg D_263 [(.aload_n 0, 1)] (by decide +kernel) (j := 0) (pc' := 1) (lv' := [(0, .ref 294), (1, .int v1)]) (st' := [.ref 294]) rfl ?_
  obtain ⟨p1, e1, h⟩ := bd h
  refine Ev.callv D_263 E_212 (by decide +kernel) C_10_263 294 [] (r := []) rfl (gd_o k_294 (by decide)) rfl (Nat.le_of_ble_eq_true rfl) (Nat.le_of_ble_eq_true rfl) (gM_asItIs_ok (by omega)  e1) ?_
  refine Ev.seg D_263 [(.iload_n 1, 1), (.i2l, 1), (.lconst 0, 1), (.aload_n 0, 1)] (by decide +kernel) (j := 0) (pc' := 8) (lv' := [(0, .ref 294), (1, .int v1)]) (st' := [.ref 294, .long (0 : Int64), .long v1.toInt64]) rfl ?_
  refine Ev.getR D_263 (by decide +kernel) F_10_9 T_10_1 (x := 295) (S_oR k_294 (by decide +kernel)) ?_
  refine Ev.seg D_263 [(.bipush 6, 2)] (by decide +kernel) (j := 0) (pc' := 13) (lv' := [(0, .ref 294), (1, .int v1)]) (st' := [.int (6 : Int32), .ref 295, .long (0 : Int64), .long v1.toInt64]) rfl ?_
  obtain ⟨x3, e3, h⟩ := bd h
  refine Ev.iald D_263 (by decide +kernel) (S_aI k_295 e3) ?_
  refine Ev.seg D_263 [(.iconst 1, 1), (.isub, 1), (.i2l, 1)] (by decide +kernel) (j := 0) (pc' := 17) (lv' := [(0, .ref 294), (1, .int v1)]) (st' := [.long ((x3 - (1 : Int32)).toInt64), .long (0 : Int64), .long v1.toInt64]) rfl ?_
  obtain ⟨p4, e4, h⟩ := bd h
  refine Ev.calls D_263 E_184 (by decide +kernel) C_10_88 [.long v1.toInt64, .long (0 : Int64), .long ((x3 - (1 : Int32)).toInt64)] (r := []) rfl rfl (Nat.le_of_ble_eq_true rfl) (Nat.le_of_ble_eq_true rfl) (gM_in_ok (by omega)  e4) ?_
  refine Ev.if_ D_263 (c := .ne) (off := 6) (by decide +kernel) (t := 26) rfl (fun c5 => ?_) (fun c5 => ?_)
  · have c5 : ¬ p4 = 0 := of_decide_eq_true c5
    rw [if_neg c5] at h
    refine Ev.seg D_263 [(.aload_n 0, 1), (.iload_n 1, 1)] (by decide +kernel) (j := 0) (pc' := 28) (lv' := [(0, .ref 294), (1, .int v1)]) (st' := [.int v1, .ref 294]) rfl ?_
    obtain ⟨p6, e6, h⟩ := bd h
    refine Ev.callv D_263 E_213 (by decide +kernel) C_10_234 294 [.int v1] (r := []) rfl (gd_o k_294 (by decide)) rfl (Nat.le_of_ble_eq_true rfl) (Nat.le_of_ble_eq_true rfl) (gM_layShows_ok (by omega)  e6) ?_
    refine Ev.seg D_263 [(.aload_n 0, 1)] (by decide +kernel) (j := 0) (pc' := 32) (lv' := [(0, .ref 294), (1, .int v1)]) (st' := [.ref 294]) rfl ?_
    obtain ⟨p7, e7, h⟩ := bd h
    refine Ev.callv D_263 E_215 (by decide +kernel) C_10_266 294 [] (r := []) rfl (gd_o k_294 (by decide)) rfl (Nat.le_of_ble_eq_true rfl) (Nat.le_of_ble_eq_true rfl) (gM_goAll_ok (by omega)  e7) ?_
    refine Ev.seg D_263 [(.aload_n 0, 1)] (by decide +kernel) (j := 0) (pc' := 36) (lv' := [(0, .ref 294), (1, .int v1)]) (st' := [.ref 294]) rfl ?_
    obtain ⟨p8, e8, h⟩ := bd h
    refine Ev.callv D_263 E_242 (by decide +kernel) C_10_299 294 [] (r := []) rfl (gd_o k_294 (by decide)) rfl (Nat.le_of_ble_eq_true rfl) (Nat.le_of_ble_eq_true rfl) (gM_winsOf_ok (by omega)  e8) ?_
    cases h
    obtain rfl : o = _ := ho
    exact Ev.iret D_263 (by decide +kernel)
  · have c5 : p4 = 0 := Decidable.of_not_not (of_decide_eq_false c5)
    rw [if_pos c5] at h
    refine Ev.seg D_263 [(.bipush (-2), 2)] (by decide +kernel) (j := 0) (pc' := 25) (lv' := [(0, .ref 294), (1, .int v1)]) (st' := [.int (-2 : Int32)]) rfl ?_
    cases h
    obtain rfl : o = _ := ho
    exact Ev.iret D_263 (by decide +kernel)
/- PennantLawnModel key: 264 -/
def gM_key_h17 (v1 : Int32) (q : Int32 × mT) : Option ((Int32 × mT) ⊕ (Int32 × mT)) :=
  (rdI (q.2.1 295) 79 (5 : Int32)).bind fun x2 =>
  if x2 ≤ q.1 then
    some (.inr (((-1 : Int32), q.2)))
  else
    if v1 = (-1 : Int32) then
      some (.inr (((-1 : Int32), q.2)))
    else
      (gM_goAll (stI q.2 294 20 ((1 : Int32) <<< (q.1 &&& 31)))).bind fun p8 =>
      (gM_winsOf p8).bind fun p9 =>
      if p9 = v1 then
        some (.inl (q.1 + (1 : Int32), p8))
      else
        some (.inr ((q.1, p8)))
set_option maxRecDepth 8000 in
theorem gM_key_h17_ok {L d : Nat} (hd : 6 ≤ d + 1) {v1 : Int32} : ∀ (q : Int32 × mT) (x : (Int32 × mT) ⊕ (Int32 × mT)), gM_key_h17 v1 q = some x → ∀ o, sK (fun q => Ev (d + 1) 264 17 [(0, .ref 294), (1, .int v1), (2, .int q.1)] [] (uS L q.2) o) (fun r => o = (some (.int r.1), uS L r.2)) x → Ev (d + 1) 264 17 [(0, .ref 294), (1, .int v1), (2, .int q.1)] [] (uS L q.2) o := by
  intro q x h o ho
  unfold gM_key_h17 at h
  refine Ev.seg D_264 [(.iload_n 2, 1), (.aload_n 0, 1)] (by decide +kernel) (j := 0) (pc' := 19) (lv' := [(0, .ref 294), (1, .int v1), (2, .int q.1)]) (st' := [.ref 294, .int q.1]) rfl ?_
  refine Ev.getR D_264 (by decide +kernel) F_10_9 T_10_1 (x := 295) (S_oR k_294 (by decide +kernel)) ?_
  refine Ev.seg D_264 [(.iconst 5, 1)] (by decide +kernel) (j := 0) (pc' := 23) (lv' := [(0, .ref 294), (1, .int v1), (2, .int q.1)]) (st' := [.int (5 : Int32), .ref 295, .int q.1]) rfl ?_
  obtain ⟨x2, e2, h⟩ := bd h
  refine Ev.iald D_264 (by decide +kernel) (S_aI k_295 e2) ?_
  refine Ev.icmp D_264 (c := .ge) (off := 35) (by decide +kernel) (t := 59) rfl (fun c3 => ?_) (fun c3 => ?_)
  · have c3 : x2 ≤ q.1 := of_decide_eq_true c3
    rw [if_pos c3] at h
    refine Ev.seg D_264 [(.iconst (-1), 1)] (by decide +kernel) (j := 0) (pc' := 60) (lv' := [(0, .ref 294), (1, .int v1), (2, .int q.1)]) (st' := [.int (-1 : Int32)]) rfl ?_
    cases h
    obtain rfl : o = _ := ho
    exact Ev.iret D_264 (by decide +kernel)
  · have c3 : ¬ x2 ≤ q.1 := of_decide_eq_false c3
    rw [if_neg c3] at h
    refine Ev.seg D_264 [(.iload_n 1, 1), (.iconst (-1), 1)] (by decide +kernel) (j := 0) (pc' := 29) (lv' := [(0, .ref 294), (1, .int v1), (2, .int q.1)]) (st' := [.int (-1 : Int32), .int v1]) rfl ?_
    refine Ev.icmp D_264 (c := .eq) (off := 30) (by decide +kernel) (t := 59) rfl (fun c5 => ?_) (fun c5 => ?_)
    · have c5 : v1 = (-1 : Int32) := of_decide_eq_true c5
      rw [if_pos c5] at h
      refine Ev.seg D_264 [(.iconst (-1), 1)] (by decide +kernel) (j := 0) (pc' := 60) (lv' := [(0, .ref 294), (1, .int v1), (2, .int q.1)]) (st' := [.int (-1 : Int32)]) rfl ?_
      cases h
      obtain rfl : o = _ := ho
      exact Ev.iret D_264 (by decide +kernel)
    · have c5 : ¬ v1 = (-1 : Int32) := of_decide_eq_false c5
      rw [if_neg c5] at h
      refine Ev.seg D_264 [(.aload_n 0, 1), (.iconst 1, 1), (.iload_n 2, 1), (.ishl, 1)] (by decide +kernel) (j := 0) (pc' := 36) (lv' := [(0, .ref 294), (1, .int v1), (2, .int q.1)]) (st' := [.int ((1 : Int32) <<< (q.1 &&& 31)), .ref 294]) rfl ?_
      refine Ev.putI D_264 (by decide +kernel) F_10_231 N_10_20 T_10_20 (S_pI k_294) ?_
      refine Ev.seg D_264 [(.aload_n 0, 1)] (by decide +kernel) (j := 0) (pc' := 40) (lv' := [(0, .ref 294), (1, .int v1), (2, .int q.1)]) (st' := [.ref 294]) rfl ?_
      obtain ⟨p8, e8, h⟩ := bd h
      refine Ev.callv D_264 E_215 (by decide +kernel) C_10_266 294 [] (r := []) rfl (gd_o k_294 (by decide)) rfl (Nat.le_of_ble_eq_true rfl) (Nat.le_of_ble_eq_true rfl) (gM_goAll_ok (by omega)  e8) ?_
      refine Ev.seg D_264 [(.aload_n 0, 1)] (by decide +kernel) (j := 0) (pc' := 44) (lv' := [(0, .ref 294), (1, .int v1), (2, .int q.1)]) (st' := [.ref 294]) rfl ?_
      obtain ⟨p9, e9, h⟩ := bd h
      refine Ev.callv D_264 E_242 (by decide +kernel) C_10_299 294 [] (r := []) rfl (gd_o k_294 (by decide)) rfl (Nat.le_of_ble_eq_true rfl) (Nat.le_of_ble_eq_true rfl) (gM_winsOf_ok (by omega)  e9) ?_
      refine Ev.seg D_264 [(.iload_n 1, 1)] (by decide +kernel) (j := 0) (pc' := 48) (lv' := [(0, .ref 294), (1, .int v1), (2, .int q.1)]) (st' := [.int v1, .int p9]) rfl ?_
      refine Ev.icmp D_264 (c := .eq) (off := 5) (by decide +kernel) (t := 53) rfl (fun c10 => ?_) (fun c10 => ?_)
      · have c10 : p9 = v1 := of_decide_eq_true c10
        rw [if_pos c10] at h
        refine Ev.seg D_264 [(.iinc 2 1, 3), (.goto (-39), 3)] (by decide +kernel) (j := 0) (pc' := 17) (lv' := [(2, .int (q.1 + (1 : Int32))), (0, .ref 294), (1, .int v1)]) (st' := []) rfl ?_
        cases h
        exact Ev.sub (lv' := [(0, .ref 294), (1, .int v1), (2, .int (q.1 + (1 : Int32)))]) (subL_cons rfl (subL_cons rfl (subL_cons rfl subL_nil))) ho
      · have c10 : ¬ p9 = v1 := of_decide_eq_false c10
        rw [if_neg c10] at h
        refine Ev.seg D_264 [(.iload_n 2, 1)] (by decide +kernel) (j := 0) (pc' := 52) (lv' := [(0, .ref 294), (1, .int v1), (2, .int q.1)]) (st' := [.int q.1]) rfl ?_
        cases h
        obtain rfl : o = _ := ho
        exact Ev.iret D_264 (by decide +kernel)
theorem gM_key_h17_w {L d : Nat} (hd : 6 ≤ d + 1) {v1 : Int32} : ∀ (n : Nat) (q : Int32 × mT) (r : Int32 × mT), wh n (gM_key_h17 v1) q = some r → ∀ o, (fun r => o = (some (.int r.1), uS L r.2)) r → Ev (d + 1) 264 17 [(0, .ref 294), (1, .int v1), (2, .int q.1)] [] (uS L q.2) o :=
  fun n q r h o hc => wh_ev (E := fun (q : Int32 × mT) o => Ev (d + 1) 264 17 [(0, .ref 294), (1, .int v1), (2, .int q.1)] [] (uS L q.2) o) (C := fun (r : Int32 × mT) o => (fun r => o = (some (.int r.1), uS L r.2)) r) (gM_key_h17_ok hd  ) n q r h o hc
def gM_key (s : mT) : Option (Int32 × mT) :=
  (gM_asksRace s).bind fun p1 =>
  if p1.1 = 0 then
    some (((-2 : Int32), p1.2))
  else
    (gM_winsOf p1.2).bind fun p3 =>
    wh FU (gM_key_h17 p3) ((0 : Int32), p1.2)
set_option maxRecDepth 8000 in
theorem gM_key_ok {L d : Nat} (hd : 6 ≤ d) {s : mT} {p : Int32 × mT} (h : gM_key s = some p) : Ev d 264 0 [(0, .ref 294)] [] (uS L s) (some (.int p.1), uS L p.2) := by
  obtain ⟨d, rfl⟩ : ∃ e, d = e + 1 := ⟨d - 1, by omega⟩
  obtain ⟨o, ho⟩ : ∃ o : Option Value × mS, o = (some (.int p.1), uS L p.2) := ⟨_, rfl⟩
  rw [← ho]
  unfold gM_key at h
  refine Ev.seg D_264 [(.aload_n 0, 1)] (by decide +kernel) (j := 0) (pc' := 1) (lv' := [(0, .ref 294)]) (st' := [.ref 294]) rfl ?_
  obtain ⟨p1, e1, h⟩ := bd h
  refine Ev.callv D_264 E_211 (by decide +kernel) C_10_269 294 [] (r := []) rfl (gd_o k_294 (by decide)) rfl (Nat.le_of_ble_eq_true rfl) (Nat.le_of_ble_eq_true rfl) (gM_asksRace_ok (by omega)  e1) ?_
  refine Ev.if_ D_264 (c := .ne) (off := 6) (by decide +kernel) (t := 10) rfl (fun c2 => ?_) (fun c2 => ?_)
  · have c2 : ¬ p1.1 = 0 := of_decide_eq_true c2
    rw [if_neg c2] at h
    refine Ev.seg D_264 [(.aload_n 0, 1)] (by decide +kernel) (j := 0) (pc' := 11) (lv' := [(0, .ref 294)]) (st' := [.ref 294]) rfl ?_
    obtain ⟨p3, e3, h⟩ := bd h
    refine Ev.callv D_264 E_242 (by decide +kernel) C_10_299 294 [] (r := []) rfl (gd_o k_294 (by decide)) rfl (Nat.le_of_ble_eq_true rfl) (Nat.le_of_ble_eq_true rfl) (gM_winsOf_ok (by omega)  e3) ?_
    refine Ev.seg D_264 [(.istore_n 1, 1), (.iconst 0, 1), (.istore_n 2, 1)] (by decide +kernel) (j := 0) (pc' := 17) (lv' := [(2, .int (0 : Int32)), (1, .int p3), (0, .ref 294)]) (st' := []) rfl ?_
    exact Ev.sub (lv' := [(0, .ref 294), (1, .int p3), (2, .int (0 : Int32))]) (subL_cons rfl (subL_cons rfl (subL_cons rfl subL_nil))) (gM_key_h17_w hd   _ _ _ h _ ho)
  · have c2 : p1.1 = 0 := Decidable.of_not_not (of_decide_eq_false c2)
    rw [if_pos c2] at h
    refine Ev.seg D_264 [(.bipush (-2), 2)] (by decide +kernel) (j := 0) (pc' := 9) (lv' := [(0, .ref 294)]) (st' := [.int (-2 : Int32)]) rfl ?_
    cases h
    obtain rfl : o = _ := ho
    exact Ev.iret D_264 (by decide +kernel)
/- PennantLawnModel handicap: 265 -/
def gM_handicap_h13 (v1 : Int32) (q : Int32 × mT) : Option ((Int32 × mT) ⊕ (Int32 × mT)) :=
  if (9 : Int32) < q.1 then
    some (.inr (((-1 : Int32), q.2)))
  else
    (wrI q.2 302 5 v1 q.1).bind fun s4 =>
    (gM_goAll s4).bind fun p5 =>
    (gM_winsOf p5).bind fun p6 =>
    if p6 = v1 then
      some (.inl (q.1 + (1 : Int32), p5))
    else
      some (.inr ((q.1, p5)))
set_option maxRecDepth 8000 in
theorem gM_handicap_h13_ok {L d : Nat} (hd : 7 ≤ d + 1) {v1 : Int32} : ∀ (q : Int32 × mT) (x : (Int32 × mT) ⊕ (Int32 × mT)), gM_handicap_h13 v1 q = some x → ∀ o, sK (fun q => Ev (d + 1) 265 13 [(0, .ref 294), (1, .int v1), (2, .int q.1)] [] (uS L q.2) o) (fun r => o = (some (.int r.1), uS L r.2)) x → Ev (d + 1) 265 13 [(0, .ref 294), (1, .int v1), (2, .int q.1)] [] (uS L q.2) o := by
  intro q x h o ho
  unfold gM_handicap_h13 at h
  refine Ev.seg D_265 [(.iload_n 2, 1), (.bipush 9, 2)] (by decide +kernel) (j := 0) (pc' := 16) (lv' := [(0, .ref 294), (1, .int v1), (2, .int q.1)]) (st' := [.int (9 : Int32), .int q.1]) rfl ?_
  refine Ev.icmp D_265 (c := .gt) (off := 30) (by decide +kernel) (t := 46) rfl (fun c1 => ?_) (fun c1 => ?_)
  · have c1 : (9 : Int32) < q.1 := of_decide_eq_true c1
    rw [if_pos c1] at h
    refine Ev.seg D_265 [(.iconst (-1), 1)] (by decide +kernel) (j := 0) (pc' := 47) (lv' := [(0, .ref 294), (1, .int v1), (2, .int q.1)]) (st' := [.int (-1 : Int32)]) rfl ?_
    cases h
    obtain rfl : o = _ := ho
    exact Ev.iret D_265 (by decide +kernel)
  · have c1 : ¬ (9 : Int32) < q.1 := of_decide_eq_false c1
    rw [if_neg c1] at h
    refine Ev.seg D_265 [(.aload_n 0, 1)] (by decide +kernel) (j := 0) (pc' := 20) (lv' := [(0, .ref 294), (1, .int v1), (2, .int q.1)]) (st' := [.ref 294]) rfl ?_
    refine Ev.getR D_265 (by decide +kernel) F_10_37 T_10_16 (x := 302) (S_oR k_294 (by decide +kernel)) ?_
    refine Ev.seg D_265 [(.iload_n 1, 1), (.iload_n 2, 1)] (by decide +kernel) (j := 0) (pc' := 25) (lv' := [(0, .ref 294), (1, .int v1), (2, .int q.1)]) (st' := [.int q.1, .int v1, .ref 302]) rfl ?_
    obtain ⟨s4, e4, h⟩ := bd h
    refine Ev.iast D_265 (by decide +kernel) (S_sI k_302 e4) ?_
    refine Ev.seg D_265 [(.aload_n 0, 1)] (by decide +kernel) (j := 0) (pc' := 27) (lv' := [(0, .ref 294), (1, .int v1), (2, .int q.1)]) (st' := [.ref 294]) rfl ?_
    obtain ⟨p5, e5, h⟩ := bd h
    refine Ev.callv D_265 E_215 (by decide +kernel) C_10_266 294 [] (r := []) rfl (gd_o k_294 (by decide)) rfl (Nat.le_of_ble_eq_true rfl) (Nat.le_of_ble_eq_true rfl) (gM_goAll_ok (by omega)  e5) ?_
    refine Ev.seg D_265 [(.aload_n 0, 1)] (by decide +kernel) (j := 0) (pc' := 31) (lv' := [(0, .ref 294), (1, .int v1), (2, .int q.1)]) (st' := [.ref 294]) rfl ?_
    obtain ⟨p6, e6, h⟩ := bd h
    refine Ev.callv D_265 E_242 (by decide +kernel) C_10_299 294 [] (r := []) rfl (gd_o k_294 (by decide)) rfl (Nat.le_of_ble_eq_true rfl) (Nat.le_of_ble_eq_true rfl) (gM_winsOf_ok (by omega)  e6) ?_
    refine Ev.seg D_265 [(.iload_n 1, 1)] (by decide +kernel) (j := 0) (pc' := 35) (lv' := [(0, .ref 294), (1, .int v1), (2, .int q.1)]) (st' := [.int v1, .int p6]) rfl ?_
    refine Ev.icmp D_265 (c := .eq) (off := 5) (by decide +kernel) (t := 40) rfl (fun c7 => ?_) (fun c7 => ?_)
    · have c7 : p6 = v1 := of_decide_eq_true c7
      rw [if_pos c7] at h
      refine Ev.seg D_265 [(.iinc 2 1, 3), (.goto (-30), 3)] (by decide +kernel) (j := 0) (pc' := 13) (lv' := [(2, .int (q.1 + (1 : Int32))), (0, .ref 294), (1, .int v1)]) (st' := []) rfl ?_
      cases h
      exact Ev.sub (lv' := [(0, .ref 294), (1, .int v1), (2, .int (q.1 + (1 : Int32)))]) (subL_cons rfl (subL_cons rfl (subL_cons rfl subL_nil))) ho
    · have c7 : ¬ p6 = v1 := of_decide_eq_false c7
      rw [if_neg c7] at h
      refine Ev.seg D_265 [(.iload_n 2, 1)] (by decide +kernel) (j := 0) (pc' := 39) (lv' := [(0, .ref 294), (1, .int v1), (2, .int q.1)]) (st' := [.int q.1]) rfl ?_
      cases h
      obtain rfl : o = _ := ho
      exact Ev.iret D_265 (by decide +kernel)
theorem gM_handicap_h13_w {L d : Nat} (hd : 7 ≤ d + 1) {v1 : Int32} : ∀ (n : Nat) (q : Int32 × mT) (r : Int32 × mT), wh n (gM_handicap_h13 v1) q = some r → ∀ o, (fun r => o = (some (.int r.1), uS L r.2)) r → Ev (d + 1) 265 13 [(0, .ref 294), (1, .int v1), (2, .int q.1)] [] (uS L q.2) o :=
  fun n q r h o hc => wh_ev (E := fun (q : Int32 × mT) o => Ev (d + 1) 265 13 [(0, .ref 294), (1, .int v1), (2, .int q.1)] [] (uS L q.2) o) (C := fun (r : Int32 × mT) o => (fun r => o = (some (.int r.1), uS L r.2)) r) (gM_handicap_h13_ok hd  ) n q r h o hc
def gM_handicap (v1 : Int32) (s : mT) : Option (Int32 × mT) :=
  (gM_asksBoat v1 s).bind fun p1 =>
  if p1.1 = 0 then
    some (((-2 : Int32), p1.2))
  else
    wh FU (gM_handicap_h13 v1) ((1 : Int32), p1.2)
set_option maxRecDepth 8000 in
theorem gM_handicap_ok {L d : Nat} (hd : 7 ≤ d) {v1 : Int32} {s : mT} {p : Int32 × mT} (h : gM_handicap v1 s = some p) : Ev d 265 0 [(0, .ref 294), (1, .int v1)] [] (uS L s) (some (.int p.1), uS L p.2) := by
  obtain ⟨d, rfl⟩ : ∃ e, d = e + 1 := ⟨d - 1, by omega⟩
  obtain ⟨o, ho⟩ : ∃ o : Option Value × mS, o = (some (.int p.1), uS L p.2) := ⟨_, rfl⟩
  rw [← ho]
  unfold gM_handicap at h
  refine Ev.seg D_265 [(.aload_n 0, 1), (.iload_n 1, 1)] (by decide +kernel) (j := 0) (pc' := 2) (lv' := [(0, .ref 294), (1, .int v1)]) (st' := [.int v1, .ref 294]) rfl ?_
  obtain ⟨p1, e1, h⟩ := bd h
  refine Ev.callv D_265 E_234 (by decide +kernel) C_10_290 294 [.int v1] (r := []) rfl (gd_o k_294 (by decide)) rfl (Nat.le_of_ble_eq_true rfl) (Nat.le_of_ble_eq_true rfl) (gM_asksBoat_ok (by omega)  e1) ?_
  refine Ev.if_ D_265 (c := .ne) (off := 6) (by decide +kernel) (t := 11) rfl (fun c2 => ?_) (fun c2 => ?_)
  · have c2 : ¬ p1.1 = 0 := of_decide_eq_true c2
    rw [if_neg c2] at h
    refine Ev.seg D_265 [(.iconst 1, 1), (.istore_n 2, 1)] (by decide +kernel) (j := 0) (pc' := 13) (lv' := [(2, .int (1 : Int32)), (0, .ref 294), (1, .int v1)]) (st' := []) rfl ?_
    exact Ev.sub (lv' := [(0, .ref 294), (1, .int v1), (2, .int (1 : Int32))]) (subL_cons rfl (subL_cons rfl (subL_cons rfl subL_nil))) (gM_handicap_h13_w hd   _ _ _ h _ ho)
  · have c2 : p1.1 = 0 := Decidable.of_not_not (of_decide_eq_false c2)
    rw [if_pos c2] at h
    refine Ev.seg D_265 [(.bipush (-2), 2)] (by decide +kernel) (j := 0) (pc' := 10) (lv' := [(0, .ref 294), (1, .int v1)]) (st' := [.int (-2 : Int32)]) rfl ?_
    cases h
    obtain rfl : o = _ := ho
    exact Ev.iret D_265 (by decide +kernel)
/- PennantLawnModel start: 266 -/
def gM_start_h13 (v1 : Int32) (q : Int32 × mT) : Option ((Int32 × mT) ⊕ (Int32 × mT)) :=
  if (30 : Int32) < q.1 then
    some (.inr (((-1 : Int32), q.2)))
  else
    (wrI q.2 301 5 v1 q.1).bind fun s4 =>
    (gM_goAll s4).bind fun p5 =>
    (gM_winsOf p5).bind fun p6 =>
    if p6 = v1 then
      some (.inr ((q.1, p5)))
    else
      some (.inl (q.1 + (1 : Int32), p5))
set_option maxRecDepth 8000 in
theorem gM_start_h13_ok {L d : Nat} (hd : 7 ≤ d + 1) {v1 : Int32} : ∀ (q : Int32 × mT) (x : (Int32 × mT) ⊕ (Int32 × mT)), gM_start_h13 v1 q = some x → ∀ o, sK (fun q => Ev (d + 1) 266 13 [(0, .ref 294), (1, .int v1), (2, .int q.1)] [] (uS L q.2) o) (fun r => o = (some (.int r.1), uS L r.2)) x → Ev (d + 1) 266 13 [(0, .ref 294), (1, .int v1), (2, .int q.1)] [] (uS L q.2) o := by
  intro q x h o ho
  unfold gM_start_h13 at h
  refine Ev.seg D_266 [(.iload_n 2, 1), (.bipush 30, 2)] (by decide +kernel) (j := 0) (pc' := 16) (lv' := [(0, .ref 294), (1, .int v1), (2, .int q.1)]) (st' := [.int (30 : Int32), .int q.1]) rfl ?_
  refine Ev.icmp D_266 (c := .gt) (off := 30) (by decide +kernel) (t := 46) rfl (fun c1 => ?_) (fun c1 => ?_)
  · have c1 : (30 : Int32) < q.1 := of_decide_eq_true c1
    rw [if_pos c1] at h
    refine Ev.seg D_266 [(.iconst (-1), 1)] (by decide +kernel) (j := 0) (pc' := 47) (lv' := [(0, .ref 294), (1, .int v1), (2, .int q.1)]) (st' := [.int (-1 : Int32)]) rfl ?_
    cases h
    obtain rfl : o = _ := ho
    exact Ev.iret D_266 (by decide +kernel)
  · have c1 : ¬ (30 : Int32) < q.1 := of_decide_eq_false c1
    rw [if_neg c1] at h
    refine Ev.seg D_266 [(.aload_n 0, 1)] (by decide +kernel) (j := 0) (pc' := 20) (lv' := [(0, .ref 294), (1, .int v1), (2, .int q.1)]) (st' := [.ref 294]) rfl ?_
    refine Ev.getR D_266 (by decide +kernel) F_10_34 T_10_15 (x := 301) (S_oR k_294 (by decide +kernel)) ?_
    refine Ev.seg D_266 [(.iload_n 1, 1), (.iload_n 2, 1)] (by decide +kernel) (j := 0) (pc' := 25) (lv' := [(0, .ref 294), (1, .int v1), (2, .int q.1)]) (st' := [.int q.1, .int v1, .ref 301]) rfl ?_
    obtain ⟨s4, e4, h⟩ := bd h
    refine Ev.iast D_266 (by decide +kernel) (S_sI k_301 e4) ?_
    refine Ev.seg D_266 [(.aload_n 0, 1)] (by decide +kernel) (j := 0) (pc' := 27) (lv' := [(0, .ref 294), (1, .int v1), (2, .int q.1)]) (st' := [.ref 294]) rfl ?_
    obtain ⟨p5, e5, h⟩ := bd h
    refine Ev.callv D_266 E_215 (by decide +kernel) C_10_266 294 [] (r := []) rfl (gd_o k_294 (by decide)) rfl (Nat.le_of_ble_eq_true rfl) (Nat.le_of_ble_eq_true rfl) (gM_goAll_ok (by omega)  e5) ?_
    refine Ev.seg D_266 [(.aload_n 0, 1)] (by decide +kernel) (j := 0) (pc' := 31) (lv' := [(0, .ref 294), (1, .int v1), (2, .int q.1)]) (st' := [.ref 294]) rfl ?_
    obtain ⟨p6, e6, h⟩ := bd h
    refine Ev.callv D_266 E_242 (by decide +kernel) C_10_299 294 [] (r := []) rfl (gd_o k_294 (by decide)) rfl (Nat.le_of_ble_eq_true rfl) (Nat.le_of_ble_eq_true rfl) (gM_winsOf_ok (by omega)  e6) ?_
    refine Ev.seg D_266 [(.iload_n 1, 1)] (by decide +kernel) (j := 0) (pc' := 35) (lv' := [(0, .ref 294), (1, .int v1), (2, .int q.1)]) (st' := [.int v1, .int p6]) rfl ?_
    refine Ev.icmp D_266 (c := .ne) (off := 5) (by decide +kernel) (t := 40) rfl (fun c7 => ?_) (fun c7 => ?_)
    · have c7 : ¬ p6 = v1 := of_decide_eq_true c7
      rw [if_neg c7] at h
      refine Ev.seg D_266 [(.iinc 2 1, 3), (.goto (-30), 3)] (by decide +kernel) (j := 0) (pc' := 13) (lv' := [(2, .int (q.1 + (1 : Int32))), (0, .ref 294), (1, .int v1)]) (st' := []) rfl ?_
      cases h
      exact Ev.sub (lv' := [(0, .ref 294), (1, .int v1), (2, .int (q.1 + (1 : Int32)))]) (subL_cons rfl (subL_cons rfl (subL_cons rfl subL_nil))) ho
    · have c7 : p6 = v1 := Decidable.of_not_not (of_decide_eq_false c7)
      rw [if_pos c7] at h
      refine Ev.seg D_266 [(.iload_n 2, 1)] (by decide +kernel) (j := 0) (pc' := 39) (lv' := [(0, .ref 294), (1, .int v1), (2, .int q.1)]) (st' := [.int q.1]) rfl ?_
      cases h
      obtain rfl : o = _ := ho
      exact Ev.iret D_266 (by decide +kernel)
theorem gM_start_h13_w {L d : Nat} (hd : 7 ≤ d + 1) {v1 : Int32} : ∀ (n : Nat) (q : Int32 × mT) (r : Int32 × mT), wh n (gM_start_h13 v1) q = some r → ∀ o, (fun r => o = (some (.int r.1), uS L r.2)) r → Ev (d + 1) 266 13 [(0, .ref 294), (1, .int v1), (2, .int q.1)] [] (uS L q.2) o :=
  fun n q r h o hc => wh_ev (E := fun (q : Int32 × mT) o => Ev (d + 1) 266 13 [(0, .ref 294), (1, .int v1), (2, .int q.1)] [] (uS L q.2) o) (C := fun (r : Int32 × mT) o => (fun r => o = (some (.int r.1), uS L r.2)) r) (gM_start_h13_ok hd  ) n q r h o hc
def gM_start (v1 : Int32) (s : mT) : Option (Int32 × mT) :=
  (gM_asksBoat v1 s).bind fun p1 =>
  if p1.1 = 0 then
    some (((-2 : Int32), p1.2))
  else
    wh FU (gM_start_h13 v1) ((0 : Int32), p1.2)
set_option maxRecDepth 8000 in
theorem gM_start_ok {L d : Nat} (hd : 7 ≤ d) {v1 : Int32} {s : mT} {p : Int32 × mT} (h : gM_start v1 s = some p) : Ev d 266 0 [(0, .ref 294), (1, .int v1)] [] (uS L s) (some (.int p.1), uS L p.2) := by
  obtain ⟨d, rfl⟩ : ∃ e, d = e + 1 := ⟨d - 1, by omega⟩
  obtain ⟨o, ho⟩ : ∃ o : Option Value × mS, o = (some (.int p.1), uS L p.2) := ⟨_, rfl⟩
  rw [← ho]
  unfold gM_start at h
  refine Ev.seg D_266 [(.aload_n 0, 1), (.iload_n 1, 1)] (by decide +kernel) (j := 0) (pc' := 2) (lv' := [(0, .ref 294), (1, .int v1)]) (st' := [.int v1, .ref 294]) rfl ?_
  obtain ⟨p1, e1, h⟩ := bd h
  refine Ev.callv D_266 E_234 (by decide +kernel) C_10_290 294 [.int v1] (r := []) rfl (gd_o k_294 (by decide)) rfl (Nat.le_of_ble_eq_true rfl) (Nat.le_of_ble_eq_true rfl) (gM_asksBoat_ok (by omega)  e1) ?_
  refine Ev.if_ D_266 (c := .ne) (off := 6) (by decide +kernel) (t := 11) rfl (fun c2 => ?_) (fun c2 => ?_)
  · have c2 : ¬ p1.1 = 0 := of_decide_eq_true c2
    rw [if_neg c2] at h
    refine Ev.seg D_266 [(.iconst 0, 1), (.istore_n 2, 1)] (by decide +kernel) (j := 0) (pc' := 13) (lv' := [(2, .int (0 : Int32)), (0, .ref 294), (1, .int v1)]) (st' := []) rfl ?_
    exact Ev.sub (lv' := [(0, .ref 294), (1, .int v1), (2, .int (0 : Int32))]) (subL_cons rfl (subL_cons rfl (subL_cons rfl subL_nil))) (gM_start_h13_w hd   _ _ _ h _ ho)
  · have c2 : p1.1 = 0 := Decidable.of_not_not (of_decide_eq_false c2)
    rw [if_pos c2] at h
    refine Ev.seg D_266 [(.bipush (-2), 2)] (by decide +kernel) (j := 0) (pc' := 10) (lv' := [(0, .ref 294), (1, .int v1)]) (st' := [.int (-2 : Int32)]) rfl ?_
    cases h
    obtain rfl : o = _ := ho
    exact Ev.iret D_266 (by decide +kernel)
/- PennantLawnModel isLaw: 268 -/
def gM_isLaw (v0 : Int32) (s : mT) : Option (Int32) :=
  (gM_in v0.toInt64 (0 : Int64) (3 : Int64) s).bind fun p2 =>
  if p2 = 0 ∨ p2 = 1 then some (p2) else none
set_option maxRecDepth 8000 in
theorem gM_isLaw_ok {L d : Nat} (hd : 2 ≤ d) {v0 : Int32} {s : mT} {p : Int32} (h : gM_isLaw v0 s = some p) : Ev d 268 0 [(0, .int v0)] [] (uS L s) (some (.int p), uS L s) := by
  obtain ⟨d, rfl⟩ : ∃ e, d = e + 1 := ⟨d - 1, by omega⟩
  obtain ⟨o, ho⟩ : ∃ o : Option Value × mS, o = (some (.int p), uS L s) := ⟨_, rfl⟩
  rw [← ho]
  unfold gM_isLaw at h
  refine Ev.seg D_268 [(.iload_n 0, 1), (.i2l, 1), (.lconst 0, 1)] (by decide +kernel) (j := 0) (pc' := 3) (lv' := [(0, .int v0)]) (st' := [.long (0 : Int64), .long v0.toInt64]) rfl ?_
  refine Ev.ldc2 D_268 (i := 100) (by decide +kernel) (x := (3 : Int64)) (by decide +kernel) ?_
  obtain ⟨p2, e2, h⟩ := bd h
  refine Ev.calls D_268 E_184 (by decide +kernel) C_10_88 [.long v0.toInt64, .long (0 : Int64), .long (3 : Int64)] (r := []) rfl rfl (Nat.le_of_ble_eq_true rfl) (Nat.le_of_ble_eq_true rfl) (gM_in_ok (by omega)  e2) ?_
  by_cases c3 : p2 = 0 ∨ p2 = 1
  · rw [if_pos c3] at h
    cases h
    obtain rfl : o = _ := ho
    exact Ev.zret D_268 c3 (by decide +kernel)
  · rw [if_neg c3] at h; cases h
/- PennantLawnModel winsBy: 269 -/
def gM_winsBy (v1 : Int32) (s : mT) : Option (Int32 × mT) :=
  (gM_goAll (stI s 294 19 v1)).bind fun p2 =>
  (gM_winsOf p2).bind fun p3 =>
  some ((p3, p2))
set_option maxRecDepth 8000 in
theorem gM_winsBy_ok {L d : Nat} (hd : 5 ≤ d) {v1 : Int32} {s : mT} {p : Int32 × mT} (h : gM_winsBy v1 s = some p) : Ev d 269 0 [(0, .ref 294), (1, .int v1)] [] (uS L s) (some (.int p.1), uS L p.2) := by
  obtain ⟨d, rfl⟩ : ∃ e, d = e + 1 := ⟨d - 1, by omega⟩
  obtain ⟨o, ho⟩ : ∃ o : Option Value × mS, o = (some (.int p.1), uS L p.2) := ⟨_, rfl⟩
  rw [← ho]
  unfold gM_winsBy at h
  refine Ev.seg D_269 [(.aload_n 0, 1), (.iload_n 1, 1)] (by decide +kernel) (j := 0) (pc' := 2) (lv' := [(0, .ref 294), (1, .int v1)]) (st' := [.int v1, .ref 294]) rfl ?_
  refine Ev.putI D_269 (by decide +kernel) F_10_228 N_10_19 T_10_19 (S_pI k_294) ?_
  refine Ev.seg D_269 [(.aload_n 0, 1)] (by decide +kernel) (j := 0) (pc' := 6) (lv' := [(0, .ref 294), (1, .int v1)]) (st' := [.ref 294]) rfl ?_
  obtain ⟨p2, e2, h⟩ := bd h
  refine Ev.callv D_269 E_215 (by decide +kernel) C_10_266 294 [] (r := []) rfl (gd_o k_294 (by decide)) rfl (Nat.le_of_ble_eq_true rfl) (Nat.le_of_ble_eq_true rfl) (gM_goAll_ok (by omega)  e2) ?_
  refine Ev.seg D_269 [(.aload_n 0, 1)] (by decide +kernel) (j := 0) (pc' := 10) (lv' := [(0, .ref 294), (1, .int v1)]) (st' := [.ref 294]) rfl ?_
  obtain ⟨p3, e3, h⟩ := bd h
  refine Ev.callv D_269 E_242 (by decide +kernel) C_10_299 294 [] (r := []) rfl (gd_o k_294 (by decide)) rfl (Nat.le_of_ble_eq_true rfl) (Nat.le_of_ble_eq_true rfl) (gM_winsOf_ok (by omega)  e3) ?_
  cases h
  obtain rfl : o = _ := ho
  exact Ev.iret D_269 (by decide +kernel)
/- PennantLawnModel by: 267 -/
def gM_by (v1 : Int32) (s : mT) : Option (Int32 × mT) :=
  (gM_asksRace s).bind fun p1 =>
  (
    if p1.1 = 0 then
      some (((-2 : Int32), p1.2))
    else
      (gM_isLaw v1 p1.2).bind fun p3 =>
      if p3 = 0 then
        some (((-2 : Int32), p1.2))
      else
        (gM_winsBy v1 p1.2).bind fun p5 =>
        some ((p5.1, p5.2)) : Option (Int32 × mT)).bind fun x2 =>
  some ((x2.1, x2.2))
set_option maxRecDepth 8000 in
theorem gM_by_ok {L d : Nat} (hd : 6 ≤ d) {v1 : Int32} {s : mT} {p : Int32 × mT} (h : gM_by v1 s = some p) : Ev d 267 0 [(0, .ref 294), (1, .int v1)] [] (uS L s) (some (.int p.1), uS L p.2) := by
  obtain ⟨d, rfl⟩ : ∃ e, d = e + 1 := ⟨d - 1, by omega⟩
  obtain ⟨o, ho⟩ : ∃ o : Option Value × mS, o = (some (.int p.1), uS L p.2) := ⟨_, rfl⟩
  rw [← ho]
  unfold gM_by at h
  refine Ev.seg D_267 [(.aload_n 0, 1)] (by decide +kernel) (j := 0) (pc' := 1) (lv' := [(0, .ref 294), (1, .int v1)]) (st' := [.ref 294]) rfl ?_
  obtain ⟨p1, e1, h⟩ := bd h
  refine Ev.callv D_267 E_211 (by decide +kernel) C_10_269 294 [] (r := []) rfl (gd_o k_294 (by decide)) rfl (Nat.le_of_ble_eq_true rfl) (Nat.le_of_ble_eq_true rfl) (gM_asksRace_ok (by omega)  e1) ?_
  obtain ⟨x2, g2, h⟩ := bd h
  have j2 : Ev (d + 1) 267 24 [] [.int x2.1] (uS L x2.2) o := by
    clear g2
    cases h
    obtain rfl : o = _ := ho
    exact Ev.iret D_267 (by decide +kernel)
  clear h
  refine Ev.if_ D_267 (c := .eq) (off := 18) (by decide +kernel) (t := 22) rfl (fun c2 => ?_) (fun c2 => ?_)
  · have c2 : p1.1 = 0 := of_decide_eq_true c2
    rw [if_pos c2] at g2
    refine Ev.seg D_267 [(.bipush (-2), 2)] (by decide +kernel) (j := 0) (pc' := 24) (lv' := [(0, .ref 294), (1, .int v1)]) (st' := [.int (-2 : Int32)]) rfl ?_
    cases g2
    exact Ev.sub2 j2 subL_nil
  · have c2 : ¬ p1.1 = 0 := of_decide_eq_false c2
    rw [if_neg c2] at g2
    refine Ev.seg D_267 [(.iload_n 1, 1)] (by decide +kernel) (j := 0) (pc' := 8) (lv' := [(0, .ref 294), (1, .int v1)]) (st' := [.int v1]) rfl ?_
    obtain ⟨p3, e3, g2⟩ := bd g2
    refine Ev.calls D_267 E_268 (by decide +kernel) C_10_314 [.int v1] (r := []) rfl rfl (Nat.le_of_ble_eq_true rfl) (Nat.le_of_ble_eq_true rfl) (gM_isLaw_ok (by omega)  e3) ?_
    refine Ev.if_ D_267 (c := .eq) (off := 11) (by decide +kernel) (t := 22) rfl (fun c4 => ?_) (fun c4 => ?_)
    · have c4 : p3 = 0 := of_decide_eq_true c4
      rw [if_pos c4] at g2
      refine Ev.seg D_267 [(.bipush (-2), 2)] (by decide +kernel) (j := 0) (pc' := 24) (lv' := [(0, .ref 294), (1, .int v1)]) (st' := [.int (-2 : Int32)]) rfl ?_
      cases g2
      exact Ev.sub2 j2 subL_nil
    · have c4 : ¬ p3 = 0 := of_decide_eq_false c4
      rw [if_neg c4] at g2
      refine Ev.seg D_267 [(.aload_n 0, 1), (.iload_n 1, 1)] (by decide +kernel) (j := 0) (pc' := 16) (lv' := [(0, .ref 294), (1, .int v1)]) (st' := [.int v1, .ref 294]) rfl ?_
      obtain ⟨p5, e5, g2⟩ := bd g2
      refine Ev.callv D_267 E_269 (by decide +kernel) C_10_317 294 [.int v1] (r := []) rfl (gd_o k_294 (by decide)) rfl (Nat.le_of_ble_eq_true rfl) (Nat.le_of_ble_eq_true rfl) (gM_winsBy_ok (by omega)  e5) ?_
      refine Ev.seg D_267 [(.goto 5, 3)] (by decide +kernel) (j := 0) (pc' := 24) (lv' := [(0, .ref 294), (1, .int v1)]) (st' := [.int p5.1]) rfl ?_
      cases g2
      exact Ev.sub2 j2 subL_nil
/- PennantLawnModel firstLooks: 273 -/
def gM_firstLooks_h2  (q : Int32 × mT) : Option ((Int32 × mT) ⊕ (mT)) :=
  (rdI (q.2.1 295) 79 (5 : Int32)).bind fun x2 =>
  if x2 ≤ q.1 then
    some (.inr q.2)
  else
    (gM_of q.1 (1 : Int32) q.2).bind fun p5 =>
    (wrI q.2 303 5 q.1 p5).bind fun s6 =>
    some (.inl (q.1 + (1 : Int32), s6))
set_option maxRecDepth 8000 in
theorem gM_firstLooks_h2_ok {L d : Nat} (hd : 2 ≤ d + 1)  : ∀ (q : Int32 × mT) (x : (Int32 × mT) ⊕ (mT)), gM_firstLooks_h2 q = some x → ∀ o, sK (fun q => Ev (d + 1) 273 2 [(0, .ref 294), (1, .int q.1)] [] (uS L q.2) o) (fun r => Ev (d + 1) 273 30 [] [] (uS L r) o) x → Ev (d + 1) 273 2 [(0, .ref 294), (1, .int q.1)] [] (uS L q.2) o := by
  intro q x h o ho
  unfold gM_firstLooks_h2 at h
  refine Ev.seg D_273 [(.iload_n 1, 1), (.aload_n 0, 1)] (by decide +kernel) (j := 0) (pc' := 4) (lv' := [(0, .ref 294), (1, .int q.1)]) (st' := [.ref 294, .int q.1]) rfl ?_
  refine Ev.getR D_273 (by decide +kernel) F_10_9 T_10_1 (x := 295) (S_oR k_294 (by decide +kernel)) ?_
  refine Ev.seg D_273 [(.iconst 5, 1)] (by decide +kernel) (j := 0) (pc' := 8) (lv' := [(0, .ref 294), (1, .int q.1)]) (st' := [.int (5 : Int32), .ref 295, .int q.1]) rfl ?_
  obtain ⟨x2, e2, h⟩ := bd h
  refine Ev.iald D_273 (by decide +kernel) (S_aI k_295 e2) ?_
  refine Ev.icmp D_273 (c := .ge) (off := 21) (by decide +kernel) (t := 30) rfl (fun c3 => ?_) (fun c3 => ?_)
  · have c3 : x2 ≤ q.1 := of_decide_eq_true c3
    rw [if_pos c3] at h
    cases h
    exact Ev.sub (lv' := []) subL_nil ho
  · have c3 : ¬ x2 ≤ q.1 := of_decide_eq_false c3
    rw [if_neg c3] at h
    refine Ev.seg D_273 [(.aload_n 0, 1)] (by decide +kernel) (j := 0) (pc' := 13) (lv' := [(0, .ref 294), (1, .int q.1)]) (st' := [.ref 294]) rfl ?_
    refine Ev.getR D_273 (by decide +kernel) F_10_40 T_10_17 (x := 303) (S_oR k_294 (by decide +kernel)) ?_
    refine Ev.seg D_273 [(.iload_n 1, 1), (.aload_n 0, 1), (.iload_n 1, 1), (.iconst 1, 1)] (by decide +kernel) (j := 0) (pc' := 20) (lv' := [(0, .ref 294), (1, .int q.1)]) (st' := [.int (1 : Int32), .int q.1, .ref 294, .int q.1, .ref 303]) rfl ?_
    obtain ⟨p5, e5, h⟩ := bd h
    refine Ev.callv D_273 E_207 (by decide +kernel) C_10_102 294 [.int q.1, .int (1 : Int32)] (r := [.int q.1, .ref 303]) rfl (gd_o k_294 (by decide)) rfl (Nat.le_of_ble_eq_true rfl) (Nat.le_of_ble_eq_true rfl) (gM_of_ok (by omega)  e5) ?_
    obtain ⟨s6, e6, h⟩ := bd h
    refine Ev.iast D_273 (by decide +kernel) (S_sI k_303 e6) ?_
    refine Ev.seg D_273 [(.iinc 1 1, 3), (.goto (-25), 3)] (by decide +kernel) (j := 0) (pc' := 2) (lv' := [(1, .int (q.1 + (1 : Int32))), (0, .ref 294)]) (st' := []) rfl ?_
    cases h
    exact Ev.sub (lv' := [(0, .ref 294), (1, .int (q.1 + (1 : Int32)))]) (subL_cons rfl (subL_cons rfl subL_nil)) ho
theorem gM_firstLooks_h2_w {L d : Nat} (hd : 2 ≤ d + 1)  : ∀ (n : Nat) (q : Int32 × mT) (r : mT), wh n (gM_firstLooks_h2) q = some r → ∀ o, (fun r => Ev (d + 1) 273 30 [] [] (uS L r) o) r → Ev (d + 1) 273 2 [(0, .ref 294), (1, .int q.1)] [] (uS L q.2) o :=
  fun n q r h o hc => wh_ev (E := fun (q : Int32 × mT) o => Ev (d + 1) 273 2 [(0, .ref 294), (1, .int q.1)] [] (uS L q.2) o) (C := fun (r : mT) o => (fun r => Ev (d + 1) 273 30 [] [] (uS L r) o) r) (gM_firstLooks_h2_ok hd  ) n q r h o hc
def gM_firstLooks (s : mT) : Option (mT) :=
  (wh FU (gM_firstLooks_h2) ((0 : Int32), s)).bind fun x7 =>
  some (x7)
set_option maxRecDepth 8000 in
theorem gM_firstLooks_ok {L d : Nat} (hd : 2 ≤ d) {s : mT} {p : mT} (h : gM_firstLooks s = some p) : Ev d 273 0 [(0, .ref 294)] [] (uS L s) (none, uS L p) := by
  obtain ⟨d, rfl⟩ : ∃ e, d = e + 1 := ⟨d - 1, by omega⟩
  obtain ⟨o, ho⟩ : ∃ o : Option Value × mS, o = (none, uS L p) := ⟨_, rfl⟩
  rw [← ho]
  unfold gM_firstLooks at h
  refine Ev.seg D_273 [(.iconst 0, 1), (.istore_n 1, 1)] (by decide +kernel) (j := 0) (pc' := 2) (lv' := [(1, .int (0 : Int32)), (0, .ref 294)]) (st' := []) rfl ?_
  obtain ⟨x7, w7, h⟩ := bd h
  have j7 : Ev (d + 1) 273 30 [] [] (uS L x7) o := by
    clear w7
    cases h
    obtain rfl : o = _ := ho
    exact Ev.vret D_273 (by decide +kernel)
  exact Ev.sub (lv' := [(0, .ref 294), (1, .int (0 : Int32))]) (subL_cons rfl (subL_cons rfl subL_nil)) (gM_firstLooks_h2_w hd   _ _ _ w7 _ j7)
/- PennantLawnModel othersNow: 275 -/
def gM_othersNow_h4 (s : mT) (q : Int32 × Int32) : Option ((Int32 × Int32) ⊕ (Int32)) :=
  (rdI (s.1 295) 79 (5 : Int32)).bind fun x2 =>
  if x2 ≤ q.2 then
    some (.inr q.1)
  else
    (rdI (s.1 303) 5 q.2).bind fun x5 =>
    (gM_of q.2 (3 : Int32) s).bind fun p6 =>
    (
      if x5 = p6 then
        some ((0 : Int32))
      else
        some ((1 : Int32)) : Option (Int32)).bind fun x7 =>
    some (.inl (q.1 + x7, q.2 + (1 : Int32)))
set_option maxRecDepth 8000 in
theorem gM_othersNow_h4_ok {L d : Nat} (hd : 2 ≤ d + 1) {s : mT} : ∀ (q : Int32 × Int32) (x : (Int32 × Int32) ⊕ (Int32)), gM_othersNow_h4 s q = some x → ∀ o, sK (fun q => Ev (d + 1) 275 4 [(0, .ref 294), (1, .int q.1), (2, .int q.2)] [] (uS L s) o) (fun r => Ev (d + 1) 275 43 [(1, .int r)] [] (uS L s) o) x → Ev (d + 1) 275 4 [(0, .ref 294), (1, .int q.1), (2, .int q.2)] [] (uS L s) o := by
  intro q x h o ho
  unfold gM_othersNow_h4 at h
  refine Ev.seg D_275 [(.iload_n 2, 1), (.aload_n 0, 1)] (by decide +kernel) (j := 0) (pc' := 6) (lv' := [(0, .ref 294), (1, .int q.1), (2, .int q.2)]) (st' := [.ref 294, .int q.2]) rfl ?_
  refine Ev.getR D_275 (by decide +kernel) F_10_9 T_10_1 (x := 295) (S_oR k_294 (by decide +kernel)) ?_
  refine Ev.seg D_275 [(.iconst 5, 1)] (by decide +kernel) (j := 0) (pc' := 10) (lv' := [(0, .ref 294), (1, .int q.1), (2, .int q.2)]) (st' := [.int (5 : Int32), .ref 295, .int q.2]) rfl ?_
  obtain ⟨x2, e2, h⟩ := bd h
  refine Ev.iald D_275 (by decide +kernel) (S_aI k_295 e2) ?_
  refine Ev.icmp D_275 (c := .ge) (off := 32) (by decide +kernel) (t := 43) rfl (fun c3 => ?_) (fun c3 => ?_)
  · have c3 : x2 ≤ q.2 := of_decide_eq_true c3
    rw [if_pos c3] at h
    cases h
    exact Ev.sub (lv' := [(1, .int q.1)]) (subL_cons rfl subL_nil) ho
  · have c3 : ¬ x2 ≤ q.2 := of_decide_eq_false c3
    rw [if_neg c3] at h
    refine Ev.seg D_275 [(.iload_n 1, 1), (.aload_n 0, 1)] (by decide +kernel) (j := 0) (pc' := 16) (lv' := [(0, .ref 294), (1, .int q.1), (2, .int q.2)]) (st' := [.ref 294, .int q.1]) rfl ?_
    refine Ev.getR D_275 (by decide +kernel) F_10_40 T_10_17 (x := 303) (S_oR k_294 (by decide +kernel)) ?_
    refine Ev.seg D_275 [(.iload_n 2, 1)] (by decide +kernel) (j := 0) (pc' := 20) (lv' := [(0, .ref 294), (1, .int q.1), (2, .int q.2)]) (st' := [.int q.2, .ref 303, .int q.1]) rfl ?_
    obtain ⟨x5, e5, h⟩ := bd h
    refine Ev.iald D_275 (by decide +kernel) (S_aI k_303 e5) ?_
    refine Ev.seg D_275 [(.aload_n 0, 1), (.iload_n 2, 1), (.iconst 3, 1)] (by decide +kernel) (j := 0) (pc' := 24) (lv' := [(0, .ref 294), (1, .int q.1), (2, .int q.2)]) (st' := [.int (3 : Int32), .int q.2, .ref 294, .int x5, .int q.1]) rfl ?_
    obtain ⟨p6, e6, h⟩ := bd h
    refine Ev.callv D_275 E_207 (by decide +kernel) C_10_102 294 [.int q.2, .int (3 : Int32)] (r := [.int x5, .int q.1]) rfl (gd_o k_294 (by decide)) rfl (Nat.le_of_ble_eq_true rfl) (Nat.le_of_ble_eq_true rfl) (gM_of_ok (by omega)  e6) ?_
    obtain ⟨x7, g7, h⟩ := bd h
    have j7 : Ev (d + 1) 275 35 [(0, .ref 294), (2, .int q.2)] [.int x7, .int q.1] (uS L s) o := by
      clear g7
      refine Ev.seg D_275 [(.iadd, 1), (.istore_n 1, 1), (.iinc 2 1, 3), (.goto (-36), 3)] (by decide +kernel) (j := 0) (pc' := 4) (lv' := [(2, .int (q.2 + (1 : Int32))), (1, .int (q.1 + x7)), (0, .ref 294)]) (st' := []) rfl ?_
      cases h
      exact Ev.sub (lv' := [(0, .ref 294), (1, .int (q.1 + x7)), (2, .int (q.2 + (1 : Int32)))]) (subL_cons rfl (subL_cons rfl (subL_cons rfl subL_nil))) ho
    clear h
    refine Ev.icmp D_275 (c := .eq) (off := 7) (by decide +kernel) (t := 34) rfl (fun c7 => ?_) (fun c7 => ?_)
    · have c7 : x5 = p6 := of_decide_eq_true c7
      rw [if_pos c7] at g7
      refine Ev.seg D_275 [(.iconst 0, 1)] (by decide +kernel) (j := 0) (pc' := 35) (lv' := [(0, .ref 294), (1, .int q.1), (2, .int q.2)]) (st' := [.int (0 : Int32), .int q.1]) rfl ?_
      cases g7
      exact Ev.sub2 j7 (subL_cons rfl (subL_cons rfl subL_nil))
    · have c7 : ¬ x5 = p6 := of_decide_eq_false c7
      rw [if_neg c7] at g7
      refine Ev.seg D_275 [(.iconst 1, 1), (.goto 4, 3)] (by decide +kernel) (j := 0) (pc' := 35) (lv' := [(0, .ref 294), (1, .int q.1), (2, .int q.2)]) (st' := [.int (1 : Int32), .int q.1]) rfl ?_
      cases g7
      exact Ev.sub2 j7 (subL_cons rfl (subL_cons rfl subL_nil))
theorem gM_othersNow_h4_w {L d : Nat} (hd : 2 ≤ d + 1) {s : mT} : ∀ (n : Nat) (q : Int32 × Int32) (r : Int32), wh n (gM_othersNow_h4 s) q = some r → ∀ o, (fun r => Ev (d + 1) 275 43 [(1, .int r)] [] (uS L s) o) r → Ev (d + 1) 275 4 [(0, .ref 294), (1, .int q.1), (2, .int q.2)] [] (uS L s) o :=
  fun n q r h o hc => wh_ev (E := fun (q : Int32 × Int32) o => Ev (d + 1) 275 4 [(0, .ref 294), (1, .int q.1), (2, .int q.2)] [] (uS L s) o) (C := fun (r : Int32) o => (fun r => Ev (d + 1) 275 43 [(1, .int r)] [] (uS L s) o) r) (gM_othersNow_h4_ok hd  ) n q r h o hc
def gM_othersNow (s : mT) : Option (Int32) :=
  (wh FU (gM_othersNow_h4 s) ((0 : Int32), (0 : Int32))).bind fun x8 =>
  some (x8)
set_option maxRecDepth 8000 in
theorem gM_othersNow_ok {L d : Nat} (hd : 2 ≤ d) {s : mT} {p : Int32} (h : gM_othersNow s = some p) : Ev d 275 0 [(0, .ref 294)] [] (uS L s) (some (.int p), uS L s) := by
  obtain ⟨d, rfl⟩ : ∃ e, d = e + 1 := ⟨d - 1, by omega⟩
  obtain ⟨o, ho⟩ : ∃ o : Option Value × mS, o = (some (.int p), uS L s) := ⟨_, rfl⟩
  rw [← ho]
  unfold gM_othersNow at h
  refine Ev.seg D_275 [(.iconst 0, 1), (.istore_n 1, 1), (.iconst 0, 1), (.istore_n 2, 1)] (by decide +kernel) (j := 0) (pc' := 4) (lv' := [(2, .int (0 : Int32)), (1, .int (0 : Int32)), (0, .ref 294)]) (st' := []) rfl ?_
  obtain ⟨x8, w8, h⟩ := bd h
  have j8 : Ev (d + 1) 275 43 [(1, .int x8)] [] (uS L s) o := by
    clear w8
    refine Ev.seg D_275 [(.iload_n 1, 1)] (by decide +kernel) (j := 0) (pc' := 44) (lv' := [(1, .int x8)]) (st' := [.int x8]) rfl ?_
    cases h
    obtain rfl : o = _ := ho
    exact Ev.iret D_275 (by decide +kernel)
  exact Ev.sub (lv' := [(0, .ref 294), (1, .int (0 : Int32)), (2, .int (0 : Int32))]) (subL_cons rfl (subL_cons rfl (subL_cons rfl subL_nil))) (gM_othersNow_h4_w hd   _ _ _ w8 _ j8)
/- PennantLawnModel keepLooks: 274 -/
def gM_keepLooks_h86  (q : Int32 × mT) : Option ((Int32 × mT) ⊕ (mT)) :=
  if (5 : Int32) ≤ q.1 then
    some (.inr q.2)
  else
    (rdI (q.2.1 303) 5 q.1).bind fun x4 =>
    (wrI q.2 309 5 q.1 x4).bind fun s5 =>
    some (.inl (q.1 + (1 : Int32), s5))
set_option maxRecDepth 8000 in
theorem gM_keepLooks_h86_ok {L d : Nat} (hd : 4 ≤ d + 1)  : ∀ (q : Int32 × mT) (x : (Int32 × mT) ⊕ (mT)), gM_keepLooks_h86 q = some x → ∀ o, sK (fun q => Ev (d + 1) 274 86 [(0, .ref 294), (3, .int q.1)] [] (uS L q.2) o) (fun r => Ev (d + 1) 274 109 [(0, .ref 294)] [] (uS L r) o) x → Ev (d + 1) 274 86 [(0, .ref 294), (3, .int q.1)] [] (uS L q.2) o := by
  intro q x h o ho
  unfold gM_keepLooks_h86 at h
  refine Ev.seg D_274 [(.iload_n 3, 1), (.iconst 5, 1)] (by decide +kernel) (j := 0) (pc' := 88) (lv' := [(0, .ref 294), (3, .int q.1)]) (st' := [.int (5 : Int32), .int q.1]) rfl ?_
  refine Ev.icmp D_274 (c := .ge) (off := 21) (by decide +kernel) (t := 109) rfl (fun c1 => ?_) (fun c1 => ?_)
  · have c1 : (5 : Int32) ≤ q.1 := of_decide_eq_true c1
    rw [if_pos c1] at h
    cases h
    exact Ev.sub (lv' := [(0, .ref 294)]) (subL_cons rfl subL_nil) ho
  · have c1 : ¬ (5 : Int32) ≤ q.1 := of_decide_eq_false c1
    rw [if_neg c1] at h
    refine Ev.seg D_274 [(.aload_n 0, 1)] (by decide +kernel) (j := 0) (pc' := 92) (lv' := [(0, .ref 294), (3, .int q.1)]) (st' := [.ref 294]) rfl ?_
    refine Ev.getR D_274 (by decide +kernel) F_10_58 T_10_27 (x := 309) (S_oR k_294 (by decide +kernel)) ?_
    refine Ev.seg D_274 [(.iload_n 3, 1), (.aload_n 0, 1)] (by decide +kernel) (j := 0) (pc' := 97) (lv' := [(0, .ref 294), (3, .int q.1)]) (st' := [.ref 294, .int q.1, .ref 309]) rfl ?_
    refine Ev.getR D_274 (by decide +kernel) F_10_40 T_10_17 (x := 303) (S_oR k_294 (by decide +kernel)) ?_
    refine Ev.seg D_274 [(.iload_n 3, 1)] (by decide +kernel) (j := 0) (pc' := 101) (lv' := [(0, .ref 294), (3, .int q.1)]) (st' := [.int q.1, .ref 303, .int q.1, .ref 309]) rfl ?_
    obtain ⟨x4, e4, h⟩ := bd h
    refine Ev.iald D_274 (by decide +kernel) (S_aI k_303 e4) ?_
    obtain ⟨s5, e5, h⟩ := bd h
    refine Ev.iast D_274 (by decide +kernel) (S_sI k_309 e5) ?_
    refine Ev.seg D_274 [(.iinc 3 1, 3), (.goto (-20), 3)] (by decide +kernel) (j := 0) (pc' := 86) (lv' := [(3, .int (q.1 + (1 : Int32))), (0, .ref 294)]) (st' := []) rfl ?_
    cases h
    exact Ev.sub (lv' := [(0, .ref 294), (3, .int (q.1 + (1 : Int32)))]) (subL_cons rfl (subL_cons rfl subL_nil)) ho
theorem gM_keepLooks_h86_w {L d : Nat} (hd : 4 ≤ d + 1)  : ∀ (n : Nat) (q : Int32 × mT) (r : mT), wh n (gM_keepLooks_h86) q = some r → ∀ o, (fun r => Ev (d + 1) 274 109 [(0, .ref 294)] [] (uS L r) o) r → Ev (d + 1) 274 86 [(0, .ref 294), (3, .int q.1)] [] (uS L q.2) o :=
  fun n q r h o hc => wh_ev (E := fun (q : Int32 × mT) o => Ev (d + 1) 274 86 [(0, .ref 294), (3, .int q.1)] [] (uS L q.2) o) (C := fun (r : mT) o => (fun r => Ev (d + 1) 274 109 [(0, .ref 294)] [] (uS L r) o) r) (gM_keepLooks_h86_ok hd  ) n q r h o hc
def gM_keepLooks (v1 : Int32) (s : mT) : Option (mT) :=
  (gM_winsOf s).bind fun p1 =>
  (
    if p1 = (-1 : Int32) then
      some ((0 : Int32))
    else
      some ((1 : Int32) <<< (p1 &&& 31)) : Option (Int32)).bind fun x3 =>
  (gM_homeOf v1 (stI s 294 32 ((s.1 294 32) ||| x3))).bind fun p5 =>
  (
    if p5 = (-1 : Int32) then
      some ((stI s 294 32 ((s.1 294 32) ||| x3)))
    else
      (gM_homeOf v1 (stI s 294 32 ((s.1 294 32) ||| x3))).bind fun p8 =>
      (some (stI (stI s 294 32 ((s.1 294 32) ||| x3)) 294 30 (imin ((stI s 294 32 ((s.1 294 32) ||| x3)).1 294 30) p8))).bind fun s10 =>
      some (s10) : Option (mT)).bind fun x6 =>
  (gM_last x6).bind fun p12 =>
  (gM_placeOf v1 p12 x6).bind fun p13 =>
  if p1 = v1 then
    (
      if ((stI x6 294 31 (imax (x6.1 294 31) p13)).1 294 28) = 0 then
        (wh FU (gM_keepLooks_h86) ((0 : Int32), (stI x6 294 31 (imax (x6.1 294 31) p13)))).bind fun x19 =>
        some (x19)
      else
        some ((stI x6 294 31 (imax (x6.1 294 31) p13))) : Option (mT)).bind fun x18 =>
    (gM_othersNow (stI x18 294 28 ((x18.1 294 28) + (1 : Int32)))).bind fun p23 =>
    (some (stI (stI x18 294 28 ((x18.1 294 28) + (1 : Int32))) 294 29 (imin ((stI x18 294 28 ((x18.1 294 28) + (1 : Int32))).1 294 29) p23))).bind fun s25 =>
    some (s25)
  else
    some ((stI x6 294 31 (imax (x6.1 294 31) p13)))
set_option maxRecDepth 8000 in
theorem gM_keepLooks_ok {L d : Nat} (hd : 4 ≤ d) {v1 : Int32} {s : mT} {p : mT} (h : gM_keepLooks v1 s = some p) : Ev d 274 0 [(0, .ref 294), (1, .int v1)] [] (uS L s) (none, uS L p) := by
  obtain ⟨d, rfl⟩ : ∃ e, d = e + 1 := ⟨d - 1, by omega⟩
  obtain ⟨o, ho⟩ : ∃ o : Option Value × mS, o = (none, uS L p) := ⟨_, rfl⟩
  rw [← ho]
  unfold gM_keepLooks at h
  refine Ev.seg D_274 [(.aload_n 0, 1)] (by decide +kernel) (j := 0) (pc' := 1) (lv' := [(0, .ref 294), (1, .int v1)]) (st' := [.ref 294]) rfl ?_
  obtain ⟨p1, e1, h⟩ := bd h
  refine Ev.callv D_274 E_242 (by decide +kernel) C_10_299 294 [] (r := []) rfl (gd_o k_294 (by decide)) rfl (Nat.le_of_ble_eq_true rfl) (Nat.le_of_ble_eq_true rfl) (gM_winsOf_ok (by omega)  e1) ?_
  refine Ev.seg D_274 [(.istore_n 2, 1), (.aload_n 0, 1), (.dup, 1)] (by decide +kernel) (j := 0) (pc' := 7) (lv' := [(2, .int p1), (0, .ref 294), (1, .int v1)]) (st' := [.ref 294, .ref 294]) rfl ?_
  refine Ev.getI D_274 (by decide +kernel) F_10_320 (Or.inl T_10_32) (S_oI k_294) ?_
  refine Ev.seg D_274 [(.iload_n 2, 1), (.iconst (-1), 1)] (by decide +kernel) (j := 0) (pc' := 12) (lv' := [(2, .int p1), (0, .ref 294), (1, .int v1)]) (st' := [.int (-1 : Int32), .int p1, .int (s.1 294 32), .ref 294]) rfl ?_
  obtain ⟨x3, g3, h⟩ := bd h
  have j3 : Ev (d + 1) 274 22 [(0, .ref 294), (1, .int v1), (2, .int p1)] [.int x3, .int (s.1 294 32), .ref 294] (uS L s) o := by
    clear g3
    refine Ev.seg D_274 [(.ior, 1)] (by decide +kernel) (j := 0) (pc' := 23) (lv' := [(0, .ref 294), (1, .int v1), (2, .int p1)]) (st' := [.int ((s.1 294 32) ||| x3), .ref 294]) rfl ?_
    refine Ev.putI D_274 (by decide +kernel) F_10_320 N_10_32 T_10_32 (S_pI k_294) ?_
    refine Ev.seg D_274 [(.aload_n 0, 1), (.iload_n 1, 1)] (by decide +kernel) (j := 0) (pc' := 28) (lv' := [(0, .ref 294), (1, .int v1), (2, .int p1)]) (st' := [.int v1, .ref 294]) rfl ?_
    obtain ⟨p5, e5, h⟩ := bd h
    refine Ev.callv D_274 E_240 (by decide +kernel) C_10_296 294 [.int v1] (r := []) rfl (gd_o k_294 (by decide)) rfl (Nat.le_of_ble_eq_true rfl) (Nat.le_of_ble_eq_true rfl) (gM_homeOf_ok (by omega)  e5) ?_
    refine Ev.seg D_274 [(.iconst (-1), 1)] (by decide +kernel) (j := 0) (pc' := 32) (lv' := [(0, .ref 294), (1, .int v1), (2, .int p1)]) (st' := [.int (-1 : Int32), .int p5]) rfl ?_
    obtain ⟨x6, g6, h⟩ := bd h
    have j6 : Ev (d + 1) 274 51 [(0, .ref 294), (1, .int v1), (2, .int p1)] [] (uS L x6) o := by
      clear g6
      refine Ev.seg D_274 [(.aload_n 0, 1), (.aload_n 0, 1)] (by decide +kernel) (j := 0) (pc' := 53) (lv' := [(0, .ref 294), (1, .int v1), (2, .int p1)]) (st' := [.ref 294, .ref 294]) rfl ?_
      refine Ev.getI D_274 (by decide +kernel) F_10_326 (Or.inl T_10_31) (S_oI k_294) ?_
      refine Ev.seg D_274 [(.aload_n 0, 1), (.iload_n 1, 1), (.aload_n 0, 1)] (by decide +kernel) (j := 0) (pc' := 59) (lv' := [(0, .ref 294), (1, .int v1), (2, .int p1)]) (st' := [.ref 294, .int v1, .ref 294, .int (x6.1 294 31), .ref 294]) rfl ?_
      obtain ⟨p12, e12, h⟩ := bd h
      refine Ev.callv D_274 E_216 (by decide +kernel) C_10_96 294 [] (r := [.int v1, .ref 294, .int (x6.1 294 31), .ref 294]) rfl (gd_o k_294 (by decide)) rfl (Nat.le_of_ble_eq_true rfl) (Nat.le_of_ble_eq_true rfl) (gM_last_ok (by omega)  e12) ?_
      obtain ⟨p13, e13, h⟩ := bd h
      refine Ev.callv D_274 E_220 (by decide +kernel) C_10_240 294 [.int v1, .int p12] (r := [.int (x6.1 294 31), .ref 294]) rfl (gd_o k_294 (by decide)) rfl (Nat.le_of_ble_eq_true rfl) (Nat.le_of_ble_eq_true rfl) (gM_placeOf_ok (by omega)  e13) ?_
      refine Ev.max D_274 (by decide +kernel) (Nat.succ_pos _) C_10_237 (Nat.le_of_ble_eq_true rfl) ?_
      refine Ev.putI D_274 (by decide +kernel) F_10_326 N_10_31 T_10_31 (S_pI k_294) ?_
      refine Ev.seg D_274 [(.iload_n 2, 1), (.iload_n 1, 1)] (by decide +kernel) (j := 0) (pc' := 73) (lv' := [(0, .ref 294), (1, .int v1), (2, .int p1)]) (st' := [.int v1, .int p1]) rfl ?_
      refine Ev.icmp D_274 (c := .eq) (off := 4) (by decide +kernel) (t := 77) rfl (fun c16 => ?_) (fun c16 => ?_)
      · have c16 : p1 = v1 := of_decide_eq_true c16
        rw [if_pos c16] at h
        refine Ev.seg D_274 [(.aload_n 0, 1)] (by decide +kernel) (j := 0) (pc' := 78) (lv' := [(0, .ref 294), (1, .int v1), (2, .int p1)]) (st' := [.ref 294]) rfl ?_
        refine Ev.getI D_274 (by decide +kernel) F_10_329 (Or.inl T_10_28) (S_oI k_294) ?_
        obtain ⟨x18, g18, h⟩ := bd h
        have j18 : Ev (d + 1) 274 109 [(0, .ref 294)] [] (uS L x18) o := by
          clear g18
          refine Ev.seg D_274 [(.aload_n 0, 1), (.dup, 1)] (by decide +kernel) (j := 0) (pc' := 111) (lv' := [(0, .ref 294)]) (st' := [.ref 294, .ref 294]) rfl ?_
          refine Ev.getI D_274 (by decide +kernel) F_10_329 (Or.inl T_10_28) (S_oI k_294) ?_
          refine Ev.seg D_274 [(.iconst 1, 1), (.iadd, 1)] (by decide +kernel) (j := 0) (pc' := 116) (lv' := [(0, .ref 294)]) (st' := [.int ((x18.1 294 28) + (1 : Int32)), .ref 294]) rfl ?_
          refine Ev.putI D_274 (by decide +kernel) F_10_329 N_10_28 T_10_28 (S_pI k_294) ?_
          refine Ev.seg D_274 [(.aload_n 0, 1), (.aload_n 0, 1)] (by decide +kernel) (j := 0) (pc' := 121) (lv' := [(0, .ref 294)]) (st' := [.ref 294, .ref 294]) rfl ?_
          refine Ev.getI D_274 (by decide +kernel) F_10_332 (Or.inl T_10_29) (S_oI k_294) ?_
          refine Ev.seg D_274 [(.aload_n 0, 1)] (by decide +kernel) (j := 0) (pc' := 125) (lv' := [(0, .ref 294)]) (st' := [.ref 294, .int ((stI x18 294 28 ((x18.1 294 28) + (1 : Int32))).1 294 29), .ref 294]) rfl ?_
          obtain ⟨p23, e23, h⟩ := bd h
          refine Ev.callv D_274 E_275 (by decide +kernel) C_10_335 294 [] (r := [.int ((stI x18 294 28 ((x18.1 294 28) + (1 : Int32))).1 294 29), .ref 294]) rfl (gd_o k_294 (by decide)) rfl (Nat.le_of_ble_eq_true rfl) (Nat.le_of_ble_eq_true rfl) (gM_othersNow_ok (by omega)  e23) ?_
          refine Ev.min D_274 (by decide +kernel) (Nat.succ_pos _) C_10_137 (Nat.le_of_ble_eq_true rfl) ?_
          obtain ⟨s25, e25, h⟩ := bd h
          refine Ev.putI D_274 (by decide +kernel) F_10_332 N_10_29 T_10_29 (S_pIb k_294 e25) ?_
          cases h
          obtain rfl : o = _ := ho
          exact Ev.vret D_274 (by decide +kernel)
        clear h
        refine Ev.if_ D_274 (c := .ne) (off := 28) (by decide +kernel) (t := 109) rfl (fun c18 => ?_) (fun c18 => ?_)
        · have c18 : ¬ ((stI x6 294 31 (imax (x6.1 294 31) p13)).1 294 28) = 0 := of_decide_eq_true c18
          rw [if_neg c18] at g18
          cases g18
          exact Ev.sub2 j18 (subL_cons rfl subL_nil)
        · have c18 : ((stI x6 294 31 (imax (x6.1 294 31) p13)).1 294 28) = 0 := Decidable.of_not_not (of_decide_eq_false c18)
          rw [if_pos c18] at g18
          refine Ev.seg D_274 [(.iconst 0, 1), (.istore_n 3, 1)] (by decide +kernel) (j := 0) (pc' := 86) (lv' := [(3, .int (0 : Int32)), (0, .ref 294), (1, .int v1), (2, .int p1)]) (st' := []) rfl ?_
          obtain ⟨x19, w19, g18⟩ := bd g18
          have j19 : Ev (d + 1) 274 109 [(0, .ref 294)] [] (uS L x19) o := by
            clear w19
            cases g18
            exact Ev.sub2 j18 (subL_cons rfl subL_nil)
          exact Ev.sub (lv' := [(0, .ref 294), (3, .int (0 : Int32))]) (subL_cons rfl (subL_cons rfl subL_nil)) (gM_keepLooks_h86_w hd   _ _ _ w19 _ j19)
      · have c16 : ¬ p1 = v1 := of_decide_eq_false c16
        rw [if_neg c16] at h
        cases h
        obtain rfl : o = _ := ho
        exact Ev.vret D_274 (by decide +kernel)
    clear h
    refine Ev.icmp D_274 (c := .eq) (off := 19) (by decide +kernel) (t := 51) rfl (fun c6 => ?_) (fun c6 => ?_)
    · have c6 : p5 = (-1 : Int32) := of_decide_eq_true c6
      rw [if_pos c6] at g6
      cases g6
      exact Ev.sub2 j6 (subL_cons rfl (subL_cons rfl (subL_cons rfl subL_nil)))
    · have c6 : ¬ p5 = (-1 : Int32) := of_decide_eq_false c6
      rw [if_neg c6] at g6
      refine Ev.seg D_274 [(.aload_n 0, 1), (.aload_n 0, 1)] (by decide +kernel) (j := 0) (pc' := 37) (lv' := [(0, .ref 294), (1, .int v1), (2, .int p1)]) (st' := [.ref 294, .ref 294]) rfl ?_
      refine Ev.getI D_274 (by decide +kernel) F_10_323 (Or.inl T_10_30) (S_oI k_294) ?_
      refine Ev.seg D_274 [(.aload_n 0, 1), (.iload_n 1, 1)] (by decide +kernel) (j := 0) (pc' := 42) (lv' := [(0, .ref 294), (1, .int v1), (2, .int p1)]) (st' := [.int v1, .ref 294, .int ((stI s 294 32 ((s.1 294 32) ||| x3)).1 294 30), .ref 294]) rfl ?_
      obtain ⟨p8, e8, g6⟩ := bd g6
      refine Ev.callv D_274 E_240 (by decide +kernel) C_10_296 294 [.int v1] (r := [.int ((stI s 294 32 ((s.1 294 32) ||| x3)).1 294 30), .ref 294]) rfl (gd_o k_294 (by decide)) rfl (Nat.le_of_ble_eq_true rfl) (Nat.le_of_ble_eq_true rfl) (gM_homeOf_ok (by omega)  e8) ?_
      refine Ev.min D_274 (by decide +kernel) (Nat.succ_pos _) C_10_137 (Nat.le_of_ble_eq_true rfl) ?_
      obtain ⟨s10, e10, g6⟩ := bd g6
      refine Ev.putI D_274 (by decide +kernel) F_10_323 N_10_30 T_10_30 (S_pIb k_294 e10) ?_
      cases g6
      exact Ev.sub2 j6 (subL_cons rfl (subL_cons rfl (subL_cons rfl subL_nil)))
  clear h
  refine Ev.icmp D_274 (c := .ne) (off := 7) (by decide +kernel) (t := 19) rfl (fun c3 => ?_) (fun c3 => ?_)
  · have c3 : ¬ p1 = (-1 : Int32) := of_decide_eq_true c3
    rw [if_neg c3] at g3
    refine Ev.seg D_274 [(.iconst 1, 1), (.iload_n 2, 1), (.ishl, 1)] (by decide +kernel) (j := 0) (pc' := 22) (lv' := [(2, .int p1), (0, .ref 294), (1, .int v1)]) (st' := [.int ((1 : Int32) <<< (p1 &&& 31)), .int (s.1 294 32), .ref 294]) rfl ?_
    cases g3
    exact Ev.sub2 j3 (subL_cons rfl (subL_cons rfl (subL_cons rfl subL_nil)))
  · have c3 : p1 = (-1 : Int32) := Decidable.of_not_not (of_decide_eq_false c3)
    rw [if_pos c3] at g3
    refine Ev.seg D_274 [(.iconst 0, 1), (.goto 6, 3)] (by decide +kernel) (j := 0) (pc' := 22) (lv' := [(2, .int p1), (0, .ref 294), (1, .int v1)]) (st' := [.int (0 : Int32), .int (s.1 294 32), .ref 294]) rfl ?_
    cases g3
    exact Ev.sub2 j3 (subL_cons rfl (subL_cons rfl (subL_cons rfl subL_nil)))
/- PennantLawnModel nextLooks: 276 -/
def gM_nextLooks_h9  (q : Int32 × mT) : Option ((Int32 × mT) ⊕ (Int32 × mT)) :=
  if q.1 < 0 then
    some (.inr (((0 : Int32), q.2)))
  else
    (rdI (q.2.1 303) 5 q.1).bind fun x4 =>
    (gM_of q.1 (2 : Int32) q.2).bind fun p5 =>
    if p5 ≤ x4 then
      (gM_of q.1 (1 : Int32) q.2).bind fun p8 =>
      (wrI q.2 303 5 q.1 p8).bind fun s9 =>
      some (.inl (q.1 + (-1 : Int32), s9))
    else
      (rdI (q.2.1 303) 5 q.1).bind fun x11 =>
      (wrI q.2 303 5 q.1 (x11 + (1 : Int32))).bind fun s12 =>
      some (.inr (((1 : Int32), s12)))
set_option maxRecDepth 8000 in
theorem gM_nextLooks_h9_ok {L d : Nat} (hd : 2 ≤ d + 1)  : ∀ (q : Int32 × mT) (x : (Int32 × mT) ⊕ (Int32 × mT)), gM_nextLooks_h9 q = some x → ∀ o, sK (fun q => Ev (d + 1) 276 9 [(0, .ref 294), (1, .int q.1)] [] (uS L q.2) o) (fun r => o = (some (.int r.1), uS L r.2)) x → Ev (d + 1) 276 9 [(0, .ref 294), (1, .int q.1)] [] (uS L q.2) o := by
  intro q x h o ho
  unfold gM_nextLooks_h9 at h
  refine Ev.seg D_276 [(.iload_n 1, 1)] (by decide +kernel) (j := 0) (pc' := 10) (lv' := [(0, .ref 294), (1, .int q.1)]) (st' := [.int q.1]) rfl ?_
  refine Ev.if_ D_276 (c := .lt) (off := 48) (by decide +kernel) (t := 58) rfl (fun c1 => ?_) (fun c1 => ?_)
  · have c1 : q.1 < 0 := of_decide_eq_true c1
    rw [if_pos c1] at h
    refine Ev.seg D_276 [(.iconst 0, 1)] (by decide +kernel) (j := 0) (pc' := 59) (lv' := [(0, .ref 294), (1, .int q.1)]) (st' := [.int (0 : Int32)]) rfl ?_
    cases h
    obtain rfl : o = _ := ho
    exact Ev.zret D_276 (by decide) (by decide +kernel)
  · have c1 : ¬ q.1 < 0 := of_decide_eq_false c1
    rw [if_neg c1] at h
    refine Ev.seg D_276 [(.aload_n 0, 1)] (by decide +kernel) (j := 0) (pc' := 14) (lv' := [(0, .ref 294), (1, .int q.1)]) (st' := [.ref 294]) rfl ?_
    refine Ev.getR D_276 (by decide +kernel) F_10_40 T_10_17 (x := 303) (S_oR k_294 (by decide +kernel)) ?_
    refine Ev.seg D_276 [(.iload_n 1, 1)] (by decide +kernel) (j := 0) (pc' := 18) (lv' := [(0, .ref 294), (1, .int q.1)]) (st' := [.int q.1, .ref 303]) rfl ?_
    obtain ⟨x4, e4, h⟩ := bd h
    refine Ev.iald D_276 (by decide +kernel) (S_aI k_303 e4) ?_
    refine Ev.seg D_276 [(.aload_n 0, 1), (.iload_n 1, 1), (.iconst 2, 1)] (by decide +kernel) (j := 0) (pc' := 22) (lv' := [(0, .ref 294), (1, .int q.1)]) (st' := [.int (2 : Int32), .int q.1, .ref 294, .int x4]) rfl ?_
    obtain ⟨p5, e5, h⟩ := bd h
    refine Ev.callv D_276 E_207 (by decide +kernel) C_10_102 294 [.int q.1, .int (2 : Int32)] (r := [.int x4]) rfl (gd_o k_294 (by decide)) rfl (Nat.le_of_ble_eq_true rfl) (Nat.le_of_ble_eq_true rfl) (gM_of_ok (by omega)  e5) ?_
    refine Ev.icmp D_276 (c := .ge) (off := 15) (by decide +kernel) (t := 40) rfl (fun c6 => ?_) (fun c6 => ?_)
    · have c6 : p5 ≤ x4 := of_decide_eq_true c6
      rw [if_pos c6] at h
      refine Ev.seg D_276 [(.aload_n 0, 1)] (by decide +kernel) (j := 0) (pc' := 41) (lv' := [(0, .ref 294), (1, .int q.1)]) (st' := [.ref 294]) rfl ?_
      refine Ev.getR D_276 (by decide +kernel) F_10_40 T_10_17 (x := 303) (S_oR k_294 (by decide +kernel)) ?_
      refine Ev.seg D_276 [(.iload_n 1, 1), (.aload_n 0, 1), (.iload_n 1, 1), (.iconst 1, 1)] (by decide +kernel) (j := 0) (pc' := 48) (lv' := [(0, .ref 294), (1, .int q.1)]) (st' := [.int (1 : Int32), .int q.1, .ref 294, .int q.1, .ref 303]) rfl ?_
      obtain ⟨p8, e8, h⟩ := bd h
      refine Ev.callv D_276 E_207 (by decide +kernel) C_10_102 294 [.int q.1, .int (1 : Int32)] (r := [.int q.1, .ref 303]) rfl (gd_o k_294 (by decide)) rfl (Nat.le_of_ble_eq_true rfl) (Nat.le_of_ble_eq_true rfl) (gM_of_ok (by omega)  e8) ?_
      obtain ⟨s9, e9, h⟩ := bd h
      refine Ev.iast D_276 (by decide +kernel) (S_sI k_303 e9) ?_
      refine Ev.seg D_276 [(.iinc 1 (-1), 3), (.goto (-46), 3)] (by decide +kernel) (j := 0) (pc' := 9) (lv' := [(1, .int (q.1 + (-1 : Int32))), (0, .ref 294)]) (st' := []) rfl ?_
      cases h
      exact Ev.sub (lv' := [(0, .ref 294), (1, .int (q.1 + (-1 : Int32)))]) (subL_cons rfl (subL_cons rfl subL_nil)) ho
    · have c6 : ¬ p5 ≤ x4 := of_decide_eq_false c6
      rw [if_neg c6] at h
      refine Ev.seg D_276 [(.aload_n 0, 1)] (by decide +kernel) (j := 0) (pc' := 29) (lv' := [(0, .ref 294), (1, .int q.1)]) (st' := [.ref 294]) rfl ?_
      refine Ev.getR D_276 (by decide +kernel) F_10_40 T_10_17 (x := 303) (S_oR k_294 (by decide +kernel)) ?_
      refine Ev.seg D_276 [(.iload_n 1, 1), (.dup2, 1)] (by decide +kernel) (j := 0) (pc' := 34) (lv' := [(0, .ref 294), (1, .int q.1)]) (st' := [.int q.1, .ref 303, .int q.1, .ref 303]) rfl ?_
      obtain ⟨x11, e11, h⟩ := bd h
      refine Ev.iald D_276 (by decide +kernel) (S_aI k_303 e11) ?_
      refine Ev.seg D_276 [(.iconst 1, 1), (.iadd, 1)] (by decide +kernel) (j := 0) (pc' := 37) (lv' := [(0, .ref 294), (1, .int q.1)]) (st' := [.int (x11 + (1 : Int32)), .int q.1, .ref 303]) rfl ?_
      obtain ⟨s12, e12, h⟩ := bd h
      refine Ev.iast D_276 (by decide +kernel) (S_sI k_303 e12) ?_
      refine Ev.seg D_276 [(.iconst 1, 1)] (by decide +kernel) (j := 0) (pc' := 39) (lv' := [(0, .ref 294), (1, .int q.1)]) (st' := [.int (1 : Int32)]) rfl ?_
      cases h
      obtain rfl : o = _ := ho
      exact Ev.zret D_276 (by decide) (by decide +kernel)
theorem gM_nextLooks_h9_w {L d : Nat} (hd : 2 ≤ d + 1)  : ∀ (n : Nat) (q : Int32 × mT) (r : Int32 × mT), wh n (gM_nextLooks_h9) q = some r → ∀ o, (fun r => o = (some (.int r.1), uS L r.2)) r → Ev (d + 1) 276 9 [(0, .ref 294), (1, .int q.1)] [] (uS L q.2) o :=
  fun n q r h o hc => wh_ev (E := fun (q : Int32 × mT) o => Ev (d + 1) 276 9 [(0, .ref 294), (1, .int q.1)] [] (uS L q.2) o) (C := fun (r : Int32 × mT) o => (fun r => o = (some (.int r.1), uS L r.2)) r) (gM_nextLooks_h9_ok hd  ) n q r h o hc
def gM_nextLooks (s : mT) : Option (Int32 × mT) :=
  (rdI (s.1 295) 79 (5 : Int32)).bind fun x2 =>
  wh FU (gM_nextLooks_h9) (x2 - (1 : Int32), s)
set_option maxRecDepth 8000 in
theorem gM_nextLooks_ok {L d : Nat} (hd : 2 ≤ d) {s : mT} {p : Int32 × mT} (h : gM_nextLooks s = some p) : Ev d 276 0 [(0, .ref 294)] [] (uS L s) (some (.int p.1), uS L p.2) := by
  obtain ⟨d, rfl⟩ : ∃ e, d = e + 1 := ⟨d - 1, by omega⟩
  obtain ⟨o, ho⟩ : ∃ o : Option Value × mS, o = (some (.int p.1), uS L p.2) := ⟨_, rfl⟩
  rw [← ho]
  unfold gM_nextLooks at h
  refine Ev.seg D_276 [(.aload_n 0, 1)] (by decide +kernel) (j := 0) (pc' := 1) (lv' := [(0, .ref 294)]) (st' := [.ref 294]) rfl ?_
  refine Ev.getR D_276 (by decide +kernel) F_10_9 T_10_1 (x := 295) (S_oR k_294 (by decide +kernel)) ?_
  refine Ev.seg D_276 [(.iconst 5, 1)] (by decide +kernel) (j := 0) (pc' := 5) (lv' := [(0, .ref 294)]) (st' := [.int (5 : Int32), .ref 295]) rfl ?_
  obtain ⟨x2, e2, h⟩ := bd h
  refine Ev.iald D_276 (by decide +kernel) (S_aI k_295 e2) ?_
  refine Ev.seg D_276 [(.iconst 1, 1), (.isub, 1), (.istore_n 1, 1)] (by decide +kernel) (j := 0) (pc' := 9) (lv' := [(1, .int (x2 - (1 : Int32))), (0, .ref 294)]) (st' := []) rfl ?_
  exact Ev.sub (lv' := [(0, .ref 294), (1, .int (x2 - (1 : Int32)))]) (subL_cons rfl (subL_cons rfl subL_nil)) (gM_nextLooks_h9_w hd   _ _ _ h _ ho)
/- PennantLawnModel layLooks: 272 -/
def gM_layLooks_h35 (v1 : Int32) (q : Int32 × mT) : Option ((Int32 × mT) ⊕ (mT)) :=
  if q.1 = 0 then
    some (.inr q.2)
  else
    (gM_goAll q.2).bind fun p2 =>
    (gM_keepLooks v1 p2).bind fun p3 =>
    (gM_nextLooks p3).bind fun p4 =>
    some (.inl (p4.1, p4.2))
set_option maxRecDepth 8000 in
theorem gM_layLooks_h35_ok {L d : Nat} (hd : 5 ≤ d + 1) {v1 : Int32} : ∀ (q : Int32 × mT) (x : (Int32 × mT) ⊕ (mT)), gM_layLooks_h35 v1 q = some x → ∀ o, sK (fun q => Ev (d + 1) 272 35 [(0, .ref 294), (1, .int v1), (2, .int q.1)] [] (uS L q.2) o) (fun r => Ev (d + 1) 272 56 [] [] (uS L r) o) x → Ev (d + 1) 272 35 [(0, .ref 294), (1, .int v1), (2, .int q.1)] [] (uS L q.2) o := by
  intro q x h o ho
  unfold gM_layLooks_h35 at h
  refine Ev.seg D_272 [(.iload_n 2, 1)] (by decide +kernel) (j := 0) (pc' := 36) (lv' := [(0, .ref 294), (1, .int v1), (2, .int q.1)]) (st' := [.int q.1]) rfl ?_
  refine Ev.if_ D_272 (c := .eq) (off := 20) (by decide +kernel) (t := 56) rfl (fun c1 => ?_) (fun c1 => ?_)
  · have c1 : q.1 = 0 := of_decide_eq_true c1
    rw [if_pos c1] at h
    cases h
    exact Ev.sub (lv' := []) subL_nil ho
  · have c1 : ¬ q.1 = 0 := of_decide_eq_false c1
    rw [if_neg c1] at h
    refine Ev.seg D_272 [(.aload_n 0, 1)] (by decide +kernel) (j := 0) (pc' := 40) (lv' := [(0, .ref 294), (1, .int v1), (2, .int q.1)]) (st' := [.ref 294]) rfl ?_
    obtain ⟨p2, e2, h⟩ := bd h
    refine Ev.callv D_272 E_215 (by decide +kernel) C_10_266 294 [] (r := []) rfl (gd_o k_294 (by decide)) rfl (Nat.le_of_ble_eq_true rfl) (Nat.le_of_ble_eq_true rfl) (gM_goAll_ok (by omega)  e2) ?_
    refine Ev.seg D_272 [(.aload_n 0, 1), (.iload_n 1, 1)] (by decide +kernel) (j := 0) (pc' := 45) (lv' := [(0, .ref 294), (1, .int v1), (2, .int q.1)]) (st' := [.int v1, .ref 294]) rfl ?_
    obtain ⟨p3, e3, h⟩ := bd h
    refine Ev.callv D_272 E_274 (by decide +kernel) C_10_342 294 [.int v1] (r := []) rfl (gd_o k_294 (by decide)) rfl (Nat.le_of_ble_eq_true rfl) (Nat.le_of_ble_eq_true rfl) (gM_keepLooks_ok (by omega)  e3) ?_
    refine Ev.seg D_272 [(.aload_n 0, 1)] (by decide +kernel) (j := 0) (pc' := 49) (lv' := [(0, .ref 294), (1, .int v1), (2, .int q.1)]) (st' := [.ref 294]) rfl ?_
    obtain ⟨p4, e4, h⟩ := bd h
    refine Ev.callv D_272 E_276 (by decide +kernel) C_10_345 294 [] (r := []) rfl (gd_o k_294 (by decide)) rfl (Nat.le_of_ble_eq_true rfl) (Nat.le_of_ble_eq_true rfl) (gM_nextLooks_ok (by omega)  e4) ?_
    refine Ev.seg D_272 [(.istore_n 2, 1), (.goto (-18), 3)] (by decide +kernel) (j := 0) (pc' := 35) (lv' := [(2, .int p4.1), (0, .ref 294), (1, .int v1)]) (st' := []) rfl ?_
    cases h
    exact Ev.sub (lv' := [(0, .ref 294), (1, .int v1), (2, .int (p4.1))]) (subL_cons rfl (subL_cons rfl (subL_cons rfl subL_nil))) ho
theorem gM_layLooks_h35_w {L d : Nat} (hd : 5 ≤ d + 1) {v1 : Int32} : ∀ (n : Nat) (q : Int32 × mT) (r : mT), wh n (gM_layLooks_h35 v1) q = some r → ∀ o, (fun r => Ev (d + 1) 272 56 [] [] (uS L r) o) r → Ev (d + 1) 272 35 [(0, .ref 294), (1, .int v1), (2, .int q.1)] [] (uS L q.2) o :=
  fun n q r h o hc => wh_ev (E := fun (q : Int32 × mT) o => Ev (d + 1) 272 35 [(0, .ref 294), (1, .int v1), (2, .int q.1)] [] (uS L q.2) o) (C := fun (r : mT) o => (fun r => Ev (d + 1) 272 56 [] [] (uS L r) o) r) (gM_layLooks_h35_ok hd  ) n q r h o hc
def gM_layLooks (v1 : Int32) (s : mT) : Option (mT) :=
  (some (stI (stI (stI s 294 28 (0 : Int32)) 294 29 (1000000000 : Int32)) 294 30 (1000000000 : Int32))).bind fun s5 =>
  (gM_firstLooks (stI (stI s5 294 31 (0 : Int32)) 294 32 (0 : Int32))).bind fun p8 =>
  (wh FU (gM_layLooks_h35 v1) ((1 : Int32), p8)).bind fun x9 =>
  some (x9)
set_option maxRecDepth 8000 in
theorem gM_layLooks_ok {L d : Nat} (hd : 5 ≤ d) {v1 : Int32} {s : mT} {p : mT} (h : gM_layLooks v1 s = some p) : Ev d 272 0 [(0, .ref 294), (1, .int v1)] [] (uS L s) (none, uS L p) := by
  obtain ⟨d, rfl⟩ : ∃ e, d = e + 1 := ⟨d - 1, by omega⟩
  obtain ⟨o, ho⟩ : ∃ o : Option Value × mS, o = (none, uS L p) := ⟨_, rfl⟩
  rw [← ho]
  unfold gM_layLooks at h
  refine Ev.seg D_272 [(.aload_n 0, 1), (.iconst 0, 1)] (by decide +kernel) (j := 0) (pc' := 2) (lv' := [(0, .ref 294), (1, .int v1)]) (st' := [.int (0 : Int32), .ref 294]) rfl ?_
  refine Ev.putI D_272 (by decide +kernel) F_10_329 N_10_28 T_10_28 (S_pI k_294) ?_
  refine Ev.seg D_272 [(.aload_n 0, 1)] (by decide +kernel) (j := 0) (pc' := 6) (lv' := [(0, .ref 294), (1, .int v1)]) (st' := [.ref 294]) rfl ?_
  refine Ev.ldcw D_272 (i := 338) (by decide +kernel) (x := (1000000000 : Int32)) (by decide +kernel) ?_
  refine Ev.putI D_272 (by decide +kernel) F_10_332 N_10_29 T_10_29 (S_pI k_294) ?_
  refine Ev.seg D_272 [(.aload_n 0, 1)] (by decide +kernel) (j := 0) (pc' := 13) (lv' := [(0, .ref 294), (1, .int v1)]) (st' := [.ref 294]) rfl ?_
  refine Ev.ldcw D_272 (i := 338) (by decide +kernel) (x := (1000000000 : Int32)) (by decide +kernel) ?_
  obtain ⟨s5, e5, h⟩ := bd h
  refine Ev.putI D_272 (by decide +kernel) F_10_323 N_10_30 T_10_30 (S_pIb k_294 e5) ?_
  refine Ev.seg D_272 [(.aload_n 0, 1), (.iconst 0, 1)] (by decide +kernel) (j := 0) (pc' := 21) (lv' := [(0, .ref 294), (1, .int v1)]) (st' := [.int (0 : Int32), .ref 294]) rfl ?_
  refine Ev.putI D_272 (by decide +kernel) F_10_326 N_10_31 T_10_31 (S_pI k_294) ?_
  refine Ev.seg D_272 [(.aload_n 0, 1), (.iconst 0, 1)] (by decide +kernel) (j := 0) (pc' := 26) (lv' := [(0, .ref 294), (1, .int v1)]) (st' := [.int (0 : Int32), .ref 294]) rfl ?_
  refine Ev.putI D_272 (by decide +kernel) F_10_320 N_10_32 T_10_32 (S_pI k_294) ?_
  refine Ev.seg D_272 [(.aload_n 0, 1)] (by decide +kernel) (j := 0) (pc' := 30) (lv' := [(0, .ref 294), (1, .int v1)]) (st' := [.ref 294]) rfl ?_
  obtain ⟨p8, e8, h⟩ := bd h
  refine Ev.callv D_272 E_273 (by decide +kernel) C_10_339 294 [] (r := []) rfl (gd_o k_294 (by decide)) rfl (Nat.le_of_ble_eq_true rfl) (Nat.le_of_ble_eq_true rfl) (gM_firstLooks_ok (by omega)  e8) ?_
  refine Ev.seg D_272 [(.iconst 1, 1), (.istore_n 2, 1)] (by decide +kernel) (j := 0) (pc' := 35) (lv' := [(2, .int (1 : Int32)), (0, .ref 294), (1, .int v1)]) (st' := []) rfl ?_
  obtain ⟨x9, w9, h⟩ := bd h
  have j9 : Ev (d + 1) 272 56 [] [] (uS L x9) o := by
    clear w9
    cases h
    obtain rfl : o = _ := ho
    exact Ev.vret D_272 (by decide +kernel)
  exact Ev.sub (lv' := [(0, .ref 294), (1, .int v1), (2, .int (1 : Int32))]) (subL_cons rfl (subL_cons rfl (subL_cons rfl subL_nil))) (gM_layLooks_h35_w hd   _ _ _ w9 _ j9)
/- PennantLawnModel asksLooks: 271 -/
def gM_asksLooks (v1 : Int32) (s : mT) : Option (Int32 × mT) :=
  (gM_asItIs s).bind fun p1 =>
  (gM_isBoat v1.toInt64 p1).bind fun p2 =>
  if p2 = 0 then
    some (((0 : Int32), p1))
  else
    (gM_layLooks v1 p1).bind fun p4 =>
    some (((1 : Int32), p4))
set_option maxRecDepth 8000 in
theorem gM_asksLooks_ok {L d : Nat} (hd : 6 ≤ d) {v1 : Int32} {s : mT} {p : Int32 × mT} (h : gM_asksLooks v1 s = some p) : Ev d 271 0 [(0, .ref 294), (1, .int v1)] [] (uS L s) (some (.int p.1), uS L p.2) := by
  obtain ⟨d, rfl⟩ : ∃ e, d = e + 1 := ⟨d - 1, by omega⟩
  obtain ⟨o, ho⟩ : ∃ o : Option Value × mS, o = (some (.int p.1), uS L p.2) := ⟨_, rfl⟩
  rw [← ho]
  unfold gM_asksLooks at h
  refine Ev.seg D_271 [(.aload_n 0, 1)] (by decide +kernel) (j := 0) (pc' := 1) (lv' := [(0, .ref 294), (1, .int v1)]) (st' := [.ref 294]) rfl ?_
  obtain ⟨p1, e1, h⟩ := bd h
  refine Ev.callv D_271 E_212 (by decide +kernel) C_10_263 294 [] (r := []) rfl (gd_o k_294 (by decide)) rfl (Nat.le_of_ble_eq_true rfl) (Nat.le_of_ble_eq_true rfl) (gM_asItIs_ok (by omega)  e1) ?_
  refine Ev.seg D_271 [(.aload_n 0, 1), (.iload_n 1, 1), (.i2l, 1)] (by decide +kernel) (j := 0) (pc' := 7) (lv' := [(0, .ref 294), (1, .int v1)]) (st' := [.long v1.toInt64, .ref 294]) rfl ?_
  obtain ⟨p2, e2, h⟩ := bd h
  refine Ev.callv D_271 E_204 (by decide +kernel) C_10_220 294 [.long v1.toInt64] (r := []) rfl (gd_o k_294 (by decide)) rfl (Nat.le_of_ble_eq_true rfl) (Nat.le_of_ble_eq_true rfl) (gM_isBoat_ok (by omega)  e2) ?_
  refine Ev.if_ D_271 (c := .ne) (off := 5) (by decide +kernel) (t := 15) rfl (fun c3 => ?_) (fun c3 => ?_)
  · have c3 : ¬ p2 = 0 := of_decide_eq_true c3
    rw [if_neg c3] at h
    refine Ev.seg D_271 [(.aload_n 0, 1), (.iload_n 1, 1)] (by decide +kernel) (j := 0) (pc' := 17) (lv' := [(0, .ref 294), (1, .int v1)]) (st' := [.int v1, .ref 294]) rfl ?_
    obtain ⟨p4, e4, h⟩ := bd h
    refine Ev.callv D_271 E_272 (by decide +kernel) C_10_348 294 [.int v1] (r := []) rfl (gd_o k_294 (by decide)) rfl (Nat.le_of_ble_eq_true rfl) (Nat.le_of_ble_eq_true rfl) (gM_layLooks_ok (by omega)  e4) ?_
    refine Ev.seg D_271 [(.iconst 1, 1)] (by decide +kernel) (j := 0) (pc' := 21) (lv' := [(0, .ref 294), (1, .int v1)]) (st' := [.int (1 : Int32)]) rfl ?_
    cases h
    obtain rfl : o = _ := ho
    exact Ev.zret D_271 (by decide) (by decide +kernel)
  · have c3 : p2 = 0 := Decidable.of_not_not (of_decide_eq_false c3)
    rw [if_pos c3] at h
    refine Ev.seg D_271 [(.iconst 0, 1)] (by decide +kernel) (j := 0) (pc' := 14) (lv' := [(0, .ref 294), (1, .int v1)]) (st' := [.int (0 : Int32)]) rfl ?_
    cases h
    obtain rfl : o = _ := ho
    exact Ev.zret D_271 (by decide) (by decide +kernel)
/- PennantLawnModel ways: 270 -/
def gM_ways (v1 : Int32) (s : mT) : Option (Int32 × mT) :=
  (gM_asksLooks v1 s).bind fun p1 =>
  (
    if p1.1 = 0 then
      some ((-2 : Int32))
    else
      some (p1.2.1 294 28) : Option (Int32)).bind fun x2 =>
  some ((x2, p1.2))
set_option maxRecDepth 8000 in
theorem gM_ways_ok {L d : Nat} (hd : 7 ≤ d) {v1 : Int32} {s : mT} {p : Int32 × mT} (h : gM_ways v1 s = some p) : Ev d 270 0 [(0, .ref 294), (1, .int v1)] [] (uS L s) (some (.int p.1), uS L p.2) := by
  obtain ⟨d, rfl⟩ : ∃ e, d = e + 1 := ⟨d - 1, by omega⟩
  obtain ⟨o, ho⟩ : ∃ o : Option Value × mS, o = (some (.int p.1), uS L p.2) := ⟨_, rfl⟩
  rw [← ho]
  unfold gM_ways at h
  refine Ev.seg D_270 [(.aload_n 0, 1), (.iload_n 1, 1)] (by decide +kernel) (j := 0) (pc' := 2) (lv' := [(0, .ref 294), (1, .int v1)]) (st' := [.int v1, .ref 294]) rfl ?_
  obtain ⟨p1, e1, h⟩ := bd h
  refine Ev.callv D_270 E_271 (by decide +kernel) C_10_351 294 [.int v1] (r := []) rfl (gd_o k_294 (by decide)) rfl (Nat.le_of_ble_eq_true rfl) (Nat.le_of_ble_eq_true rfl) (gM_asksLooks_ok (by omega)  e1) ?_
  obtain ⟨x2, g2, h⟩ := bd h
  have j2 : Ev (d + 1) 270 17 [] [.int x2] (uS L p1.2) o := by
    clear g2
    cases h
    obtain rfl : o = _ := ho
    exact Ev.iret D_270 (by decide +kernel)
  clear h
  refine Ev.if_ D_270 (c := .eq) (off := 10) (by decide +kernel) (t := 15) rfl (fun c2 => ?_) (fun c2 => ?_)
  · have c2 : p1.1 = 0 := of_decide_eq_true c2
    rw [if_pos c2] at g2
    refine Ev.seg D_270 [(.bipush (-2), 2)] (by decide +kernel) (j := 0) (pc' := 17) (lv' := [(0, .ref 294), (1, .int v1)]) (st' := [.int (-2 : Int32)]) rfl ?_
    cases g2
    exact Ev.sub2 j2 subL_nil
  · have c2 : ¬ p1.1 = 0 := of_decide_eq_false c2
    rw [if_neg c2] at g2
    refine Ev.seg D_270 [(.aload_n 0, 1)] (by decide +kernel) (j := 0) (pc' := 9) (lv' := [(0, .ref 294), (1, .int v1)]) (st' := [.ref 294]) rfl ?_
    refine Ev.getI D_270 (by decide +kernel) F_10_329 (Or.inl T_10_28) (S_oI k_294) ?_
    refine Ev.seg D_270 [(.goto 5, 3)] (by decide +kernel) (j := 0) (pc' := 17) (lv' := [(0, .ref 294), (1, .int v1)]) (st' := [.int (p1.2.1 294 28)]) rfl ?_
    cases g2
    exact Ev.sub2 j2 subL_nil
