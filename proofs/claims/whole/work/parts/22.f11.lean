/-! The program's methods as functions of ints and longs, each with its certificate (wip/whole/gen_emit.py writes this) -/
/- PennantLawnModel is: 197 -/
def gM_is_h39 (v1 : Nat) (s : mT) (q : Int32 × Int32) : Option ((Int32 × Int32) ⊕ (Int32)) :=
  (gS_length v1 s).bind fun p1 =>
  if p1 ≤ q.2 then
    some (.inr q.1)
  else
    if q.1 = 0 then
      some (.inr q.1)
    else
      (rdI (s.1 298) 600 ((s.1 294 9) + q.2)).bind fun x6 =>
      (gS_charAt v1 q.2 s).bind fun p7 =>
      (
        if x6 = p7 then
          some ((1 : Int32))
        else
          some ((0 : Int32)) : Option (Int32)).bind fun x8 =>
      some (.inl (x8, q.2 + (1 : Int32)))
set_option maxRecDepth 8000 in
theorem gM_is_h39_ok {L d : Nat} (hd : 5 ≤ d + 1) {v1 : Nat} {s : mT} (i1 : isSt v1) : ∀ (q : Int32 × Int32) (x : (Int32 × Int32) ⊕ (Int32)), gM_is_h39 v1 s q = some x → ∀ o, sK (fun q => Ev (d + 1) 197 39 [(0, .ref 294), (1, .ref v1), (2, .int q.1), (3, .int q.2)] [] (uS L s) o) (fun r => Ev (d + 1) 197 82 [(2, .int r)] [] (uS L s) o) x → Ev (d + 1) 197 39 [(0, .ref 294), (1, .ref v1), (2, .int q.1), (3, .int q.2)] [] (uS L s) o := by
  intro q x h o ho
  unfold gM_is_h39 at h
  refine Ev.seg D_197 [(.iload_n 3, 1), (.aload_n 1, 1)] (by decide +kernel) (j := 0) (pc' := 41) (lv' := [(0, .ref 294), (1, .ref v1), (2, .int q.1), (3, .int q.2)]) (st' := [.ref v1, .int q.2]) rfl ?_
  obtain ⟨p1, e1, h⟩ := bd h
  refine Ev.callv D_197 E_328 (by decide +kernel) C_10_148 v1 [] (r := [.int q.2]) rfl (gd_st i1) rfl (Nat.le_of_ble_eq_true rfl) (Nat.le_of_ble_eq_true rfl) (gS_length_ok (by omega) i1 e1) ?_
  refine Ev.icmp D_197 (c := .ge) (off := 38) (by decide +kernel) (t := 82) rfl (fun c2 => ?_) (fun c2 => ?_)
  · have c2 : p1 ≤ q.2 := of_decide_eq_true c2
    rw [if_pos c2] at h
    cases h
    exact Ev.sub (lv' := [(2, .int q.1)]) (subL_cons rfl subL_nil) ho
  · have c2 : ¬ p1 ≤ q.2 := of_decide_eq_false c2
    rw [if_neg c2] at h
    refine Ev.seg D_197 [(.iload_n 2, 1)] (by decide +kernel) (j := 0) (pc' := 48) (lv' := [(0, .ref 294), (1, .ref v1), (2, .int q.1), (3, .int q.2)]) (st' := [.int q.1]) rfl ?_
    refine Ev.if_ D_197 (c := .eq) (off := 34) (by decide +kernel) (t := 82) rfl (fun c3 => ?_) (fun c3 => ?_)
    · have c3 : q.1 = 0 := of_decide_eq_true c3
      rw [if_pos c3] at h
      cases h
      exact Ev.sub (lv' := [(2, .int q.1)]) (subL_cons rfl subL_nil) ho
    · have c3 : ¬ q.1 = 0 := of_decide_eq_false c3
      rw [if_neg c3] at h
      refine Ev.seg D_197 [(.aload_n 0, 1)] (by decide +kernel) (j := 0) (pc' := 52) (lv' := [(0, .ref 294), (1, .ref v1), (2, .int q.1), (3, .int q.2)]) (st' := [.ref 294]) rfl ?_
      refine Ev.getR D_197 (by decide +kernel) F_10_20 T_10_4 (x := 298) (S_oR k_294 (by decide +kernel)) ?_
      refine Ev.seg D_197 [(.aload_n 0, 1)] (by decide +kernel) (j := 0) (pc' := 56) (lv' := [(0, .ref 294), (1, .ref v1), (2, .int q.1), (3, .int q.2)]) (st' := [.ref 294, .ref 298]) rfl ?_
      refine Ev.getI D_197 (by decide +kernel) F_10_119 (Or.inl T_10_9) (S_oI k_294) ?_
      refine Ev.seg D_197 [(.iload_n 3, 1), (.iadd, 1)] (by decide +kernel) (j := 0) (pc' := 61) (lv' := [(0, .ref 294), (1, .ref v1), (2, .int q.1), (3, .int q.2)]) (st' := [.int ((s.1 294 9) + q.2), .ref 298]) rfl ?_
      obtain ⟨x6, e6, h⟩ := bd h
      refine Ev.bald D_197 (by decide +kernel) (S_aI k_298 e6) ?_
      refine Ev.seg D_197 [(.aload_n 1, 1), (.iload_n 3, 1)] (by decide +kernel) (j := 0) (pc' := 64) (lv' := [(0, .ref 294), (1, .ref v1), (2, .int q.1), (3, .int q.2)]) (st' := [.int q.2, .ref v1, .int x6]) rfl ?_
      obtain ⟨p7, e7, h⟩ := bd h
      refine Ev.callv D_197 E_330 (by decide +kernel) C_10_153 v1 [.int q.2] (r := [.int x6]) rfl (gd_st i1) rfl (Nat.le_of_ble_eq_true rfl) (Nat.le_of_ble_eq_true rfl) (gS_charAt_ok (by omega) i1 e7) ?_
      obtain ⟨x8, g8, h⟩ := bd h
      have j8 : Ev (d + 1) 197 75 [(0, .ref 294), (1, .ref v1), (3, .int q.2)] [.int x8] (uS L s) o := by
        clear g8
        refine Ev.seg D_197 [(.istore_n 2, 1), (.iinc 3 1, 3), (.goto (-40), 3)] (by decide +kernel) (j := 0) (pc' := 39) (lv' := [(3, .int (q.2 + (1 : Int32))), (2, .int x8), (0, .ref 294), (1, .ref v1)]) (st' := []) rfl ?_
        cases h
        exact Ev.sub (lv' := [(0, .ref 294), (1, .ref v1), (2, .int (x8)), (3, .int (q.2 + (1 : Int32)))]) (subL_cons rfl (subL_cons rfl (subL_cons rfl (subL_cons rfl subL_nil)))) ho
      clear h
      refine Ev.icmp D_197 (c := .ne) (off := 7) (by decide +kernel) (t := 74) rfl (fun c8 => ?_) (fun c8 => ?_)
      · have c8 : ¬ x6 = p7 := of_decide_eq_true c8
        rw [if_neg c8] at g8
        refine Ev.seg D_197 [(.iconst 0, 1)] (by decide +kernel) (j := 0) (pc' := 75) (lv' := [(0, .ref 294), (1, .ref v1), (2, .int q.1), (3, .int q.2)]) (st' := [.int (0 : Int32)]) rfl ?_
        cases g8
        exact Ev.sub2 j8 (subL_cons rfl (subL_cons rfl (subL_cons rfl subL_nil)))
      · have c8 : x6 = p7 := Decidable.of_not_not (of_decide_eq_false c8)
        rw [if_pos c8] at g8
        refine Ev.seg D_197 [(.iconst 1, 1), (.goto 4, 3)] (by decide +kernel) (j := 0) (pc' := 75) (lv' := [(0, .ref 294), (1, .ref v1), (2, .int q.1), (3, .int q.2)]) (st' := [.int (1 : Int32)]) rfl ?_
        cases g8
        exact Ev.sub2 j8 (subL_cons rfl (subL_cons rfl (subL_cons rfl subL_nil)))
theorem gM_is_h39_w {L d : Nat} (hd : 5 ≤ d + 1) {v1 : Nat} {s : mT} (i1 : isSt v1) : ∀ (n : Nat) (q : Int32 × Int32) (r : Int32), wh n (gM_is_h39 v1 s) q = some r → ∀ o, (fun r => Ev (d + 1) 197 82 [(2, .int r)] [] (uS L s) o) r → Ev (d + 1) 197 39 [(0, .ref 294), (1, .ref v1), (2, .int q.1), (3, .int q.2)] [] (uS L s) o :=
  fun n q r h o hc => wh_ev (E := fun (q : Int32 × Int32) o => Ev (d + 1) 197 39 [(0, .ref 294), (1, .ref v1), (2, .int q.1), (3, .int q.2)] [] (uS L s) o) (C := fun (r : Int32) o => (fun r => Ev (d + 1) 197 82 [(2, .int r)] [] (uS L s) o) r) (gM_is_h39_ok hd i1 ) n q r h o hc
def gM_is (v1 : Nat) (s : mT) : Option (Int32) :=
  (gM_good s).bind fun p1 =>
  (
    if p1 = 0 then
      some ((0 : Int32))
    else
      if (s.1 294 10) = (1 : Int32) then
        (gS_length v1 s).bind fun p7 =>
        if ((s.1 294 8) - (s.1 294 9)) = p7 then
          some ((1 : Int32))
        else
          some ((0 : Int32))
      else
        some ((0 : Int32)) : Option (Int32)).bind fun x2 =>
  (wh FU (gM_is_h39 v1 s) (x2, (0 : Int32))).bind fun x9 =>
  if x9 = 0 ∨ x9 = 1 then some (x9) else none
set_option maxRecDepth 8000 in
theorem gM_is_ok {L d : Nat} (hd : 5 ≤ d) {v1 : Nat} {s : mT} (i1 : isSt v1) {p : Int32} (h : gM_is v1 s = some p) : Ev d 197 0 [(0, .ref 294), (1, .ref v1)] [] (uS L s) (some (.int p), uS L s) := by
  obtain ⟨d, rfl⟩ : ∃ e, d = e + 1 := ⟨d - 1, by omega⟩
  obtain ⟨o, ho⟩ : ∃ o : Option Value × mS, o = (some (.int p), uS L s) := ⟨_, rfl⟩
  rw [← ho]
  unfold gM_is at h
  refine Ev.seg D_197 [(.aload_n 0, 1)] (by decide +kernel) (j := 0) (pc' := 1) (lv' := [(0, .ref 294), (1, .ref v1)]) (st' := [.ref 294]) rfl ?_
  obtain ⟨p1, e1, h⟩ := bd h
  refine Ev.callv D_197 E_192 (by decide +kernel) C_10_145 294 [] (r := []) rfl (gd_o k_294 (by decide)) rfl (Nat.le_of_ble_eq_true rfl) (Nat.le_of_ble_eq_true rfl) (gM_good_ok (by omega)  e1) ?_
  obtain ⟨x2, g2, h⟩ := bd h
  have j2 : Ev (d + 1) 197 36 [(0, .ref 294), (1, .ref v1)] [.int x2] (uS L s) o := by
    clear g2
    refine Ev.seg D_197 [(.istore_n 2, 1), (.iconst 0, 1), (.istore_n 3, 1)] (by decide +kernel) (j := 0) (pc' := 39) (lv' := [(3, .int (0 : Int32)), (2, .int x2), (0, .ref 294), (1, .ref v1)]) (st' := []) rfl ?_
    obtain ⟨x9, w9, h⟩ := bd h
    have j9 : Ev (d + 1) 197 82 [(2, .int x9)] [] (uS L s) o := by
      clear w9
      refine Ev.seg D_197 [(.iload_n 2, 1)] (by decide +kernel) (j := 0) (pc' := 83) (lv' := [(2, .int x9)]) (st' := [.int x9]) rfl ?_
      by_cases c10 : x9 = 0 ∨ x9 = 1
      · rw [if_pos c10] at h
        cases h
        obtain rfl : o = _ := ho
        exact Ev.zret D_197 c10 (by decide +kernel)
      · rw [if_neg c10] at h; cases h
    exact Ev.sub (lv' := [(0, .ref 294), (1, .ref v1), (2, .int x2), (3, .int (0 : Int32))]) (subL_cons rfl (subL_cons rfl (subL_cons rfl (subL_cons rfl subL_nil)))) (gM_is_h39_w hd i1  _ _ _ w9 _ j9)
  clear h
  refine Ev.if_ D_197 (c := .eq) (off := 31) (by decide +kernel) (t := 35) rfl (fun c2 => ?_) (fun c2 => ?_)
  · have c2 : p1 = 0 := of_decide_eq_true c2
    rw [if_pos c2] at g2
    refine Ev.seg D_197 [(.iconst 0, 1)] (by decide +kernel) (j := 0) (pc' := 36) (lv' := [(0, .ref 294), (1, .ref v1)]) (st' := [.int (0 : Int32)]) rfl ?_
    cases g2
    exact Ev.sub2 j2 (subL_cons rfl (subL_cons rfl subL_nil))
  · have c2 : ¬ p1 = 0 := of_decide_eq_false c2
    rw [if_neg c2] at g2
    refine Ev.seg D_197 [(.aload_n 0, 1)] (by decide +kernel) (j := 0) (pc' := 8) (lv' := [(0, .ref 294), (1, .ref v1)]) (st' := [.ref 294]) rfl ?_
    refine Ev.getI D_197 (by decide +kernel) F_10_122 (Or.inl T_10_10) (S_oI k_294) ?_
    refine Ev.seg D_197 [(.iconst 1, 1)] (by decide +kernel) (j := 0) (pc' := 12) (lv' := [(0, .ref 294), (1, .ref v1)]) (st' := [.int (1 : Int32), .int (s.1 294 10)]) rfl ?_
    refine Ev.icmp D_197 (c := .ne) (off := 23) (by decide +kernel) (t := 35) rfl (fun c4 => ?_) (fun c4 => ?_)
    · have c4 : ¬ (s.1 294 10) = (1 : Int32) := of_decide_eq_true c4
      rw [if_neg c4] at g2
      refine Ev.seg D_197 [(.iconst 0, 1)] (by decide +kernel) (j := 0) (pc' := 36) (lv' := [(0, .ref 294), (1, .ref v1)]) (st' := [.int (0 : Int32)]) rfl ?_
      cases g2
      exact Ev.sub2 j2 (subL_cons rfl (subL_cons rfl subL_nil))
    · have c4 : (s.1 294 10) = (1 : Int32) := Decidable.of_not_not (of_decide_eq_false c4)
      rw [if_pos c4] at g2
      refine Ev.seg D_197 [(.aload_n 0, 1)] (by decide +kernel) (j := 0) (pc' := 16) (lv' := [(0, .ref 294), (1, .ref v1)]) (st' := [.ref 294]) rfl ?_
      refine Ev.getI D_197 (by decide +kernel) F_10_112 (Or.inl T_10_8) (S_oI k_294) ?_
      refine Ev.seg D_197 [(.aload_n 0, 1)] (by decide +kernel) (j := 0) (pc' := 20) (lv' := [(0, .ref 294), (1, .ref v1)]) (st' := [.ref 294, .int (s.1 294 8)]) rfl ?_
      refine Ev.getI D_197 (by decide +kernel) F_10_119 (Or.inl T_10_9) (S_oI k_294) ?_
      refine Ev.seg D_197 [(.isub, 1), (.aload_n 1, 1)] (by decide +kernel) (j := 0) (pc' := 25) (lv' := [(0, .ref 294), (1, .ref v1)]) (st' := [.ref v1, .int ((s.1 294 8) - (s.1 294 9))]) rfl ?_
      obtain ⟨p7, e7, g2⟩ := bd g2
      refine Ev.callv D_197 E_328 (by decide +kernel) C_10_148 v1 [] (r := [.int ((s.1 294 8) - (s.1 294 9))]) rfl (gd_st i1) rfl (Nat.le_of_ble_eq_true rfl) (Nat.le_of_ble_eq_true rfl) (gS_length_ok (by omega) i1 e7) ?_
      refine Ev.icmp D_197 (c := .ne) (off := 7) (by decide +kernel) (t := 35) rfl (fun c8 => ?_) (fun c8 => ?_)
      · have c8 : ¬ ((s.1 294 8) - (s.1 294 9)) = p7 := of_decide_eq_true c8
        rw [if_neg c8] at g2
        refine Ev.seg D_197 [(.iconst 0, 1)] (by decide +kernel) (j := 0) (pc' := 36) (lv' := [(0, .ref 294), (1, .ref v1)]) (st' := [.int (0 : Int32)]) rfl ?_
        cases g2
        exact Ev.sub2 j2 (subL_cons rfl (subL_cons rfl subL_nil))
      · have c8 : ((s.1 294 8) - (s.1 294 9)) = p7 := Decidable.of_not_not (of_decide_eq_false c8)
        rw [if_pos c8] at g2
        refine Ev.seg D_197 [(.iconst 1, 1), (.goto 4, 3)] (by decide +kernel) (j := 0) (pc' := 36) (lv' := [(0, .ref 294), (1, .ref v1)]) (st' := [.int (1 : Int32)]) rfl ?_
        cases g2
        exact Ev.sub2 j2 (subL_cons rfl (subL_cons rfl subL_nil))
/- PennantLawnModel takes: 196 -/
def gM_takes (v1 : Nat) (s : mT) : Option (Int32 × mT) :=
  (gM_is v1 s).bind fun p1 =>
  (
    if p1 = 0 then
      some (s)
    else
      (gM_advance s).bind fun p3 =>
      some (p3) : Option (mT)).bind fun x2 =>
  if p1 = 0 ∨ p1 = 1 then some ((p1, x2)) else none
set_option maxRecDepth 8000 in
theorem gM_takes_ok {L d : Nat} (hd : 6 ≤ d) {v1 : Nat} {s : mT} (i1 : isSt v1) {p : Int32 × mT} (h : gM_takes v1 s = some p) : Ev d 196 0 [(0, .ref 294), (1, .ref v1)] [] (uS L s) (some (.int p.1), uS L p.2) := by
  obtain ⟨d, rfl⟩ : ∃ e, d = e + 1 := ⟨d - 1, by omega⟩
  obtain ⟨o, ho⟩ : ∃ o : Option Value × mS, o = (some (.int p.1), uS L p.2) := ⟨_, rfl⟩
  rw [← ho]
  unfold gM_takes at h
  refine Ev.seg D_196 [(.aload_n 0, 1), (.aload_n 1, 1)] (by decide +kernel) (j := 0) (pc' := 2) (lv' := [(0, .ref 294), (1, .ref v1)]) (st' := [.ref v1, .ref 294]) rfl ?_
  obtain ⟨p1, e1, h⟩ := bd h
  refine Ev.callv D_196 E_197 (by decide +kernel) C_10_157 294 [.ref v1] (r := []) rfl (gd_o k_294 (by decide)) rfl (Nat.le_of_ble_eq_true rfl) (Nat.le_of_ble_eq_true rfl) (gM_is_ok (by omega) i1 e1) ?_
  refine Ev.seg D_196 [(.istore_n 2, 1), (.iload_n 2, 1)] (by decide +kernel) (j := 0) (pc' := 7) (lv' := [(2, .int p1), (0, .ref 294), (1, .ref v1)]) (st' := [.int p1]) rfl ?_
  obtain ⟨x2, g2, h⟩ := bd h
  have j2 : Ev (d + 1) 196 14 [(2, .int p1)] [] (uS L x2) o := by
    clear g2
    refine Ev.seg D_196 [(.iload_n 2, 1)] (by decide +kernel) (j := 0) (pc' := 15) (lv' := [(2, .int p1)]) (st' := [.int p1]) rfl ?_
    by_cases c4 : p1 = 0 ∨ p1 = 1
    · rw [if_pos c4] at h
      cases h
      obtain rfl : o = _ := ho
      exact Ev.zret D_196 c4 (by decide +kernel)
    · rw [if_neg c4] at h; cases h
  clear h
  refine Ev.if_ D_196 (c := .eq) (off := 7) (by decide +kernel) (t := 14) rfl (fun c2 => ?_) (fun c2 => ?_)
  · have c2 : p1 = 0 := of_decide_eq_true c2
    rw [if_pos c2] at g2
    cases g2
    exact Ev.sub2 j2 (subL_cons rfl subL_nil)
  · have c2 : ¬ p1 = 0 := of_decide_eq_false c2
    rw [if_neg c2] at g2
    refine Ev.seg D_196 [(.aload_n 0, 1)] (by decide +kernel) (j := 0) (pc' := 11) (lv' := [(2, .int p1), (0, .ref 294), (1, .ref v1)]) (st' := [.ref 294]) rfl ?_
    obtain ⟨p3, e3, g2⟩ := bd g2
    refine Ev.callv D_196 E_190 (by decide +kernel) C_10_161 294 [] (r := []) rfl (gd_o k_294 (by decide)) rfl (Nat.le_of_ble_eq_true rfl) (Nat.le_of_ble_eq_true rfl) (gM_advance_ok (by omega)  e3) ?_
    cases g2
    exact Ev.sub2 j2 (subL_cons rfl subL_nil)
/- PennantLawnModel errs: 198 -/
def gM_errs (v1 : Int32) (s : mT) : Option (mT) :=
  (gM_good s).bind fun p1 =>
  if p1 = 0 then
    some (s)
  else
    some ((stI (stI s 294 12 v1) 294 13 ((stI s 294 12 v1).1 294 9)))
set_option maxRecDepth 8000 in
theorem gM_errs_ok {L d : Nat} (hd : 2 ≤ d) {v1 : Int32} {s : mT} {p : mT} (h : gM_errs v1 s = some p) : Ev d 198 0 [(0, .ref 294), (1, .int v1)] [] (uS L s) (none, uS L p) := by
  obtain ⟨d, rfl⟩ : ∃ e, d = e + 1 := ⟨d - 1, by omega⟩
  obtain ⟨o, ho⟩ : ∃ o : Option Value × mS, o = (none, uS L p) := ⟨_, rfl⟩
  rw [← ho]
  unfold gM_errs at h
  refine Ev.seg D_198 [(.aload_n 0, 1)] (by decide +kernel) (j := 0) (pc' := 1) (lv' := [(0, .ref 294), (1, .int v1)]) (st' := [.ref 294]) rfl ?_
  obtain ⟨p1, e1, h⟩ := bd h
  refine Ev.callv D_198 E_192 (by decide +kernel) C_10_145 294 [] (r := []) rfl (gd_o k_294 (by decide)) rfl (Nat.le_of_ble_eq_true rfl) (Nat.le_of_ble_eq_true rfl) (gM_good_ok (by omega)  e1) ?_
  refine Ev.if_ D_198 (c := .ne) (off := 4) (by decide +kernel) (t := 8) rfl (fun c2 => ?_) (fun c2 => ?_)
  · have c2 : ¬ p1 = 0 := of_decide_eq_true c2
    rw [if_neg c2] at h
    refine Ev.seg D_198 [(.aload_n 0, 1), (.iload_n 1, 1)] (by decide +kernel) (j := 0) (pc' := 10) (lv' := [(0, .ref 294), (1, .int v1)]) (st' := [.int v1, .ref 294]) rfl ?_
    refine Ev.putI D_198 (by decide +kernel) F_10_142 N_10_12 T_10_12 (S_pI k_294) ?_
    refine Ev.seg D_198 [(.aload_n 0, 1), (.aload_n 0, 1)] (by decide +kernel) (j := 0) (pc' := 15) (lv' := [(0, .ref 294), (1, .int v1)]) (st' := [.ref 294, .ref 294]) rfl ?_
    refine Ev.getI D_198 (by decide +kernel) F_10_119 (Or.inl T_10_9) (S_oI k_294) ?_
    refine Ev.putI D_198 (by decide +kernel) F_10_27 N_10_13 T_10_13 (S_pI k_294) ?_
    cases h
    obtain rfl : o = _ := ho
    exact Ev.vret D_198 (by decide +kernel)
  · have c2 : p1 = 0 := Decidable.of_not_not (of_decide_eq_false c2)
    rw [if_pos c2] at h
    cases h
    obtain rfl : o = _ := ho
    exact Ev.vret D_198 (by decide +kernel)
/- PennantLawnModel needs: 195 -/
def gM_needs (v1 : Nat) (s : mT) : Option (mT) :=
  (gM_takes v1 s).bind fun p1 =>
  (
    if p1.1 = 0 then
      (gM_errs (1 : Int32) p1.2).bind fun p3 =>
      some (p3)
    else
      some (p1.2) : Option (mT)).bind fun x2 =>
  some (x2)
set_option maxRecDepth 8000 in
theorem gM_needs_ok {L d : Nat} (hd : 7 ≤ d) {v1 : Nat} {s : mT} (i1 : isSt v1) {p : mT} (h : gM_needs v1 s = some p) : Ev d 195 0 [(0, .ref 294), (1, .ref v1)] [] (uS L s) (none, uS L p) := by
  obtain ⟨d, rfl⟩ : ∃ e, d = e + 1 := ⟨d - 1, by omega⟩
  obtain ⟨o, ho⟩ : ∃ o : Option Value × mS, o = (none, uS L p) := ⟨_, rfl⟩
  rw [← ho]
  unfold gM_needs at h
  refine Ev.seg D_195 [(.aload_n 0, 1), (.aload_n 1, 1)] (by decide +kernel) (j := 0) (pc' := 2) (lv' := [(0, .ref 294), (1, .ref v1)]) (st' := [.ref v1, .ref 294]) rfl ?_
  obtain ⟨p1, e1, h⟩ := bd h
  refine Ev.callv D_195 E_196 (by decide +kernel) C_10_164 294 [.ref v1] (r := []) rfl (gd_o k_294 (by decide)) rfl (Nat.le_of_ble_eq_true rfl) (Nat.le_of_ble_eq_true rfl) (gM_takes_ok (by omega) i1 e1) ?_
  obtain ⟨x2, g2, h⟩ := bd h
  have j2 : Ev (d + 1) 195 13 [] [] (uS L x2) o := by
    clear g2
    cases h
    obtain rfl : o = _ := ho
    exact Ev.vret D_195 (by decide +kernel)
  clear h
  refine Ev.if_ D_195 (c := .ne) (off := 8) (by decide +kernel) (t := 13) rfl (fun c2 => ?_) (fun c2 => ?_)
  · have c2 : ¬ p1.1 = 0 := of_decide_eq_true c2
    rw [if_neg c2] at g2
    cases g2
    exact Ev.sub2 j2 subL_nil
  · have c2 : p1.1 = 0 := Decidable.of_not_not (of_decide_eq_false c2)
    rw [if_pos c2] at g2
    refine Ev.seg D_195 [(.aload_n 0, 1), (.iconst 1, 1)] (by decide +kernel) (j := 0) (pc' := 10) (lv' := [(0, .ref 294), (1, .ref v1)]) (st' := [.int (1 : Int32), .ref 294]) rfl ?_
    obtain ⟨p3, e3, g2⟩ := bd g2
    refine Ev.callv D_195 E_198 (by decide +kernel) C_10_167 294 [.int (1 : Int32)] (r := []) rfl (gd_o k_294 (by decide)) rfl (Nat.le_of_ble_eq_true rfl) (Nat.le_of_ble_eq_true rfl) (gM_errs_ok (by omega)  e3) ?_
    cases g2
    exact Ev.sub2 j2 subL_nil
/- PennantLawnModel number: 200 -/
def gM_number (v1 : Int32) (v2 : Int32) (s : mT) : Option (Int32 × mT) :=
  (gM_good s).bind fun p1 =>
  (
    if p1 = 0 then
      some (s)
    else
      if (s.1 294 10) = (2 : Int32) then
        some (s)
      else
        (gM_errs (1 : Int32) s).bind fun p5 =>
        some (p5) : Option (mT)).bind fun x2 =>
  (gM_good x2).bind fun p6 =>
  (
    if p6 = 0 then
      some (x2)
    else
      (gM_in ((x2.1 294 11).toInt64) v1.toInt64 v2.toInt64 x2).bind fun p9 =>
      if p9 = 0 then
        (gM_errs (2 : Int32) x2).bind fun p11 =>
        some (p11)
      else
        some (x2) : Option (mT)).bind fun x7 =>
  (gM_good x7).bind fun p12 =>
  if p12 = 0 then
    some (((0 : Int32), x7))
  else
    (gM_advance x7).bind fun p15 =>
    some ((x7.1 294 11, p15))
set_option maxRecDepth 8000 in
theorem gM_number_ok {L d : Nat} (hd : 3 ≤ d) {v1 : Int32} {v2 : Int32} {s : mT} {p : Int32 × mT} (h : gM_number v1 v2 s = some p) : Ev d 200 0 [(0, .ref 294), (1, .int v1), (2, .int v2)] [] (uS L s) (some (.int p.1), uS L p.2) := by
  obtain ⟨d, rfl⟩ : ∃ e, d = e + 1 := ⟨d - 1, by omega⟩
  obtain ⟨o, ho⟩ : ∃ o : Option Value × mS, o = (some (.int p.1), uS L p.2) := ⟨_, rfl⟩
  rw [← ho]
  unfold gM_number at h
  refine Ev.seg D_200 [(.aload_n 0, 1)] (by decide +kernel) (j := 0) (pc' := 1) (lv' := [(0, .ref 294), (1, .int v1), (2, .int v2)]) (st' := [.ref 294]) rfl ?_
  obtain ⟨p1, e1, h⟩ := bd h
  refine Ev.callv D_200 E_192 (by decide +kernel) C_10_145 294 [] (r := []) rfl (gd_o k_294 (by decide)) rfl (Nat.le_of_ble_eq_true rfl) (Nat.le_of_ble_eq_true rfl) (gM_good_ok (by omega)  e1) ?_
  obtain ⟨x2, g2, h⟩ := bd h
  have j2 : Ev (d + 1) 200 20 [(0, .ref 294), (1, .int v1), (2, .int v2)] [] (uS L x2) o := by
    clear g2
    refine Ev.seg D_200 [(.aload_n 0, 1)] (by decide +kernel) (j := 0) (pc' := 21) (lv' := [(0, .ref 294), (1, .int v1), (2, .int v2)]) (st' := [.ref 294]) rfl ?_
    obtain ⟨p6, e6, h⟩ := bd h
    refine Ev.callv D_200 E_192 (by decide +kernel) C_10_145 294 [] (r := []) rfl (gd_o k_294 (by decide)) rfl (Nat.le_of_ble_eq_true rfl) (Nat.le_of_ble_eq_true rfl) (gM_good_ok (by omega)  e6) ?_
    obtain ⟨x7, g7, h⟩ := bd h
    have j7 : Ev (d + 1) 200 47 [(0, .ref 294)] [] (uS L x7) o := by
      clear g7
      refine Ev.seg D_200 [(.aload_n 0, 1)] (by decide +kernel) (j := 0) (pc' := 48) (lv' := [(0, .ref 294)]) (st' := [.ref 294]) rfl ?_
      obtain ⟨p12, e12, h⟩ := bd h
      refine Ev.callv D_200 E_192 (by decide +kernel) C_10_145 294 [] (r := []) rfl (gd_o k_294 (by decide)) rfl (Nat.le_of_ble_eq_true rfl) (Nat.le_of_ble_eq_true rfl) (gM_good_ok (by omega)  e12) ?_
      refine Ev.if_ D_200 (c := .ne) (off := 5) (by decide +kernel) (t := 56) rfl (fun c13 => ?_) (fun c13 => ?_)
      · have c13 : ¬ p12 = 0 := of_decide_eq_true c13
        rw [if_neg c13] at h
        refine Ev.seg D_200 [(.aload_n 0, 1)] (by decide +kernel) (j := 0) (pc' := 57) (lv' := [(0, .ref 294)]) (st' := [.ref 294]) rfl ?_
        refine Ev.getI D_200 (by decide +kernel) F_10_133 (Or.inl T_10_11) (S_oI k_294) ?_
        refine Ev.seg D_200 [(.istore_n 3, 1), (.aload_n 0, 1)] (by decide +kernel) (j := 0) (pc' := 62) (lv' := [(3, .int (x7.1 294 11)), (0, .ref 294)]) (st' := [.ref 294]) rfl ?_
        obtain ⟨p15, e15, h⟩ := bd h
        refine Ev.callv D_200 E_190 (by decide +kernel) C_10_161 294 [] (r := []) rfl (gd_o k_294 (by decide)) rfl (Nat.le_of_ble_eq_true rfl) (Nat.le_of_ble_eq_true rfl) (gM_advance_ok (by omega)  e15) ?_
        refine Ev.seg D_200 [(.iload_n 3, 1)] (by decide +kernel) (j := 0) (pc' := 66) (lv' := [(3, .int (x7.1 294 11)), (0, .ref 294)]) (st' := [.int (x7.1 294 11)]) rfl ?_
        cases h
        obtain rfl : o = _ := ho
        exact Ev.iret D_200 (by decide +kernel)
      · have c13 : p12 = 0 := Decidable.of_not_not (of_decide_eq_false c13)
        rw [if_pos c13] at h
        refine Ev.seg D_200 [(.iconst 0, 1)] (by decide +kernel) (j := 0) (pc' := 55) (lv' := [(0, .ref 294)]) (st' := [.int (0 : Int32)]) rfl ?_
        cases h
        obtain rfl : o = _ := ho
        exact Ev.iret D_200 (by decide +kernel)
    clear h
    refine Ev.if_ D_200 (c := .eq) (off := 23) (by decide +kernel) (t := 47) rfl (fun c7 => ?_) (fun c7 => ?_)
    · have c7 : p6 = 0 := of_decide_eq_true c7
      rw [if_pos c7] at g7
      cases g7
      exact Ev.sub2 j7 (subL_cons rfl subL_nil)
    · have c7 : ¬ p6 = 0 := of_decide_eq_false c7
      rw [if_neg c7] at g7
      refine Ev.seg D_200 [(.aload_n 0, 1)] (by decide +kernel) (j := 0) (pc' := 28) (lv' := [(0, .ref 294), (1, .int v1), (2, .int v2)]) (st' := [.ref 294]) rfl ?_
      refine Ev.getI D_200 (by decide +kernel) F_10_133 (Or.inl T_10_11) (S_oI k_294) ?_
      refine Ev.seg D_200 [(.i2l, 1), (.iload_n 1, 1), (.i2l, 1), (.iload_n 2, 1), (.i2l, 1)] (by decide +kernel) (j := 0) (pc' := 36) (lv' := [(0, .ref 294), (1, .int v1), (2, .int v2)]) (st' := [.long v2.toInt64, .long v1.toInt64, .long ((x2.1 294 11).toInt64)]) rfl ?_
      obtain ⟨p9, e9, g7⟩ := bd g7
      refine Ev.calls D_200 E_184 (by decide +kernel) C_10_88 [.long ((x2.1 294 11).toInt64), .long v1.toInt64, .long v2.toInt64] (r := []) rfl rfl (Nat.le_of_ble_eq_true rfl) (Nat.le_of_ble_eq_true rfl) (gM_in_ok (by omega)  e9) ?_
      refine Ev.if_ D_200 (c := .ne) (off := 8) (by decide +kernel) (t := 47) rfl (fun c10 => ?_) (fun c10 => ?_)
      · have c10 : ¬ p9 = 0 := of_decide_eq_true c10
        rw [if_neg c10] at g7
        cases g7
        exact Ev.sub2 j7 (subL_cons rfl subL_nil)
      · have c10 : p9 = 0 := Decidable.of_not_not (of_decide_eq_false c10)
        rw [if_pos c10] at g7
        refine Ev.seg D_200 [(.aload_n 0, 1), (.iconst 2, 1)] (by decide +kernel) (j := 0) (pc' := 44) (lv' := [(0, .ref 294), (1, .int v1), (2, .int v2)]) (st' := [.int (2 : Int32), .ref 294]) rfl ?_
        obtain ⟨p11, e11, g7⟩ := bd g7
        refine Ev.callv D_200 E_198 (by decide +kernel) C_10_167 294 [.int (2 : Int32)] (r := []) rfl (gd_o k_294 (by decide)) rfl (Nat.le_of_ble_eq_true rfl) (Nat.le_of_ble_eq_true rfl) (gM_errs_ok (by omega)  e11) ?_
        cases g7
        exact Ev.sub2 j7 (subL_cons rfl subL_nil)
  clear h
  refine Ev.if_ D_200 (c := .eq) (off := 16) (by decide +kernel) (t := 20) rfl (fun c2 => ?_) (fun c2 => ?_)
  · have c2 : p1 = 0 := of_decide_eq_true c2
    rw [if_pos c2] at g2
    cases g2
    exact Ev.sub2 j2 (subL_cons rfl (subL_cons rfl (subL_cons rfl subL_nil)))
  · have c2 : ¬ p1 = 0 := of_decide_eq_false c2
    rw [if_neg c2] at g2
    refine Ev.seg D_200 [(.aload_n 0, 1)] (by decide +kernel) (j := 0) (pc' := 8) (lv' := [(0, .ref 294), (1, .int v1), (2, .int v2)]) (st' := [.ref 294]) rfl ?_
    refine Ev.getI D_200 (by decide +kernel) F_10_122 (Or.inl T_10_10) (S_oI k_294) ?_
    refine Ev.seg D_200 [(.iconst 2, 1)] (by decide +kernel) (j := 0) (pc' := 12) (lv' := [(0, .ref 294), (1, .int v1), (2, .int v2)]) (st' := [.int (2 : Int32), .int (s.1 294 10)]) rfl ?_
    refine Ev.icmp D_200 (c := .eq) (off := 8) (by decide +kernel) (t := 20) rfl (fun c4 => ?_) (fun c4 => ?_)
    · have c4 : (s.1 294 10) = (2 : Int32) := of_decide_eq_true c4
      rw [if_pos c4] at g2
      cases g2
      exact Ev.sub2 j2 (subL_cons rfl (subL_cons rfl (subL_cons rfl subL_nil)))
    · have c4 : ¬ (s.1 294 10) = (2 : Int32) := of_decide_eq_false c4
      rw [if_neg c4] at g2
      refine Ev.seg D_200 [(.aload_n 0, 1), (.iconst 1, 1)] (by decide +kernel) (j := 0) (pc' := 17) (lv' := [(0, .ref 294), (1, .int v1), (2, .int v2)]) (st' := [.int (1 : Int32), .ref 294]) rfl ?_
      obtain ⟨p5, e5, g2⟩ := bd g2
      refine Ev.callv D_200 E_198 (by decide +kernel) C_10_167 294 [.int (1 : Int32)] (r := []) rfl (gd_o k_294 (by decide)) rfl (Nat.le_of_ble_eq_true rfl) (Nat.le_of_ble_eq_true rfl) (gM_errs_ok (by omega)  e5) ?_
      cases g2
      exact Ev.sub2 j2 (subL_cons rfl (subL_cons rfl (subL_cons rfl subL_nil)))
/- PennantLawnModel told: 199 -/
def gM_told (v1 : Nat) (v2 : Int32) (v3 : Int32) (s : mT) : Option (Int32 × mT) :=
  (gM_needs v1 s).bind fun p1 =>
  (gM_number v2 v3 p1).bind fun p2 =>
  some ((p2.1, p2.2))
set_option maxRecDepth 8000 in
theorem gM_told_ok {L d : Nat} (hd : 8 ≤ d) {v1 : Nat} {v2 : Int32} {v3 : Int32} {s : mT} (i1 : isSt v1) {p : Int32 × mT} (h : gM_told v1 v2 v3 s = some p) : Ev d 199 0 [(0, .ref 294), (1, .ref v1), (2, .int v2), (3, .int v3)] [] (uS L s) (some (.int p.1), uS L p.2) := by
  obtain ⟨d, rfl⟩ : ∃ e, d = e + 1 := ⟨d - 1, by omega⟩
  obtain ⟨o, ho⟩ : ∃ o : Option Value × mS, o = (some (.int p.1), uS L p.2) := ⟨_, rfl⟩
  rw [← ho]
  unfold gM_told at h
  refine Ev.seg D_199 [(.aload_n 0, 1), (.aload_n 1, 1)] (by decide +kernel) (j := 0) (pc' := 2) (lv' := [(0, .ref 294), (1, .ref v1), (2, .int v2), (3, .int v3)]) (st' := [.ref v1, .ref 294]) rfl ?_
  obtain ⟨p1, e1, h⟩ := bd h
  refine Ev.callv D_199 E_195 (by decide +kernel) C_10_171 294 [.ref v1] (r := []) rfl (gd_o k_294 (by decide)) rfl (Nat.le_of_ble_eq_true rfl) (Nat.le_of_ble_eq_true rfl) (gM_needs_ok (by omega) i1 e1) ?_
  refine Ev.seg D_199 [(.aload_n 0, 1), (.iload_n 2, 1), (.iload_n 3, 1)] (by decide +kernel) (j := 0) (pc' := 8) (lv' := [(0, .ref 294), (1, .ref v1), (2, .int v2), (3, .int v3)]) (st' := [.int v3, .int v2, .ref 294]) rfl ?_
  obtain ⟨p2, e2, h⟩ := bd h
  refine Ev.callv D_199 E_200 (by decide +kernel) C_10_175 294 [.int v2, .int v3] (r := []) rfl (gd_o k_294 (by decide)) rfl (Nat.le_of_ble_eq_true rfl) (Nat.le_of_ble_eq_true rfl) (gM_number_ok (by omega)  e2) ?_
  cases h
  obtain rfl : o = _ := ho
  exact Ev.iret D_199 (by decide +kernel)
/- PennantLawnModel readFirst: 194 -/
def gM_readFirst (s : mT) : Option (mT) :=
  (gM_needs (XB + 38) s).bind fun p2 =>
  (gM_told (XB + 40) (1 : Int32) (20 : Int32) p2).bind fun p5 =>
  (wrI p5.2 300 79 (0 : Int32) p5.1).bind fun s6 =>
  (gM_told (XB + 42) (0 : Int32) (3 : Int32) s6).bind fun p9 =>
  (wrI p9.2 300 79 (1 : Int32) p9.1).bind fun s10 =>
  (gM_told (XB + 44) (1 : Int32) (60 : Int32) s10).bind fun p13 =>
  (wrI p13.2 300 79 (2 : Int32) p13.1).bind fun s14 =>
  (gM_told (XB + 46) (0 : Int32) (10 : Int32) s14).bind fun p17 =>
  (wrI p17.2 300 79 (3 : Int32) p17.1).bind fun s18 =>
  some (s18)
set_option maxRecDepth 8000 in
theorem gM_readFirst_ok {L d : Nat} (hd : 9 ≤ d) {s : mT} {p : mT} (h : gM_readFirst s = some p) : Ev d 194 0 [(0, .ref 294)] [] (uS L s) (none, uS L p) := by
  obtain ⟨d, rfl⟩ : ∃ e, d = e + 1 := ⟨d - 1, by omega⟩
  obtain ⟨o, ho⟩ : ∃ o : Option Value × mS, o = (none, uS L p) := ⟨_, rfl⟩
  rw [← ho]
  unfold gM_readFirst at h
  refine Ev.seg D_194 [(.aload_n 0, 1)] (by decide +kernel) (j := 0) (pc' := 1) (lv' := [(0, .ref 294)]) (st' := [.ref 294]) rfl ?_
  refine Ev.ldc D_194 (i := 178) (by decide +kernel) (v := .ref (XB + 38)) (by decide +kernel) ?_
  obtain ⟨p2, e2, h⟩ := bd h
  refine Ev.callv D_194 E_195 (by decide +kernel) C_10_171 294 [.ref (XB + 38)] (r := []) rfl (gd_o k_294 (by decide)) rfl (Nat.le_of_ble_eq_true rfl) (Nat.le_of_ble_eq_true rfl) (gM_needs_ok (by omega) (by decide) e2) ?_
  refine Ev.seg D_194 [(.aload_n 0, 1)] (by decide +kernel) (j := 0) (pc' := 7) (lv' := [(0, .ref 294)]) (st' := [.ref 294]) rfl ?_
  refine Ev.getR D_194 (by decide +kernel) F_10_31 T_10_14 (x := 300) (S_oR k_294 (by decide +kernel)) ?_
  refine Ev.seg D_194 [(.iconst 0, 1), (.aload_n 0, 1)] (by decide +kernel) (j := 0) (pc' := 12) (lv' := [(0, .ref 294)]) (st' := [.ref 294, .int (0 : Int32), .ref 300]) rfl ?_
  refine Ev.ldc D_194 (i := 180) (by decide +kernel) (v := .ref (XB + 40)) (by decide +kernel) ?_
  refine Ev.seg D_194 [(.iconst 1, 1), (.bipush 20, 2)] (by decide +kernel) (j := 0) (pc' := 17) (lv' := [(0, .ref 294)]) (st' := [.int (20 : Int32), .int (1 : Int32), .ref (XB + 40), .ref 294, .int (0 : Int32), .ref 300]) rfl ?_
  obtain ⟨p5, e5, h⟩ := bd h
  refine Ev.callv D_194 E_199 (by decide +kernel) C_10_182 294 [.ref (XB + 40), .int (1 : Int32), .int (20 : Int32)] (r := [.int (0 : Int32), .ref 300]) rfl (gd_o k_294 (by decide)) rfl (Nat.le_of_ble_eq_true rfl) (Nat.le_of_ble_eq_true rfl) (gM_told_ok (by omega) (by decide) e5) ?_
  obtain ⟨s6, e6, h⟩ := bd h
  refine Ev.iast D_194 (by decide +kernel) (S_sI k_300 e6) ?_
  refine Ev.seg D_194 [(.aload_n 0, 1)] (by decide +kernel) (j := 0) (pc' := 22) (lv' := [(0, .ref 294)]) (st' := [.ref 294]) rfl ?_
  refine Ev.getR D_194 (by decide +kernel) F_10_31 T_10_14 (x := 300) (S_oR k_294 (by decide +kernel)) ?_
  refine Ev.seg D_194 [(.iconst 1, 1), (.aload_n 0, 1)] (by decide +kernel) (j := 0) (pc' := 27) (lv' := [(0, .ref 294)]) (st' := [.ref 294, .int (1 : Int32), .ref 300]) rfl ?_
  refine Ev.ldc D_194 (i := 186) (by decide +kernel) (v := .ref (XB + 42)) (by decide +kernel) ?_
  refine Ev.seg D_194 [(.iconst 0, 1), (.iconst 3, 1)] (by decide +kernel) (j := 0) (pc' := 31) (lv' := [(0, .ref 294)]) (st' := [.int (3 : Int32), .int (0 : Int32), .ref (XB + 42), .ref 294, .int (1 : Int32), .ref 300]) rfl ?_
  obtain ⟨p9, e9, h⟩ := bd h
  refine Ev.callv D_194 E_199 (by decide +kernel) C_10_182 294 [.ref (XB + 42), .int (0 : Int32), .int (3 : Int32)] (r := [.int (1 : Int32), .ref 300]) rfl (gd_o k_294 (by decide)) rfl (Nat.le_of_ble_eq_true rfl) (Nat.le_of_ble_eq_true rfl) (gM_told_ok (by omega) (by decide) e9) ?_
  obtain ⟨s10, e10, h⟩ := bd h
  refine Ev.iast D_194 (by decide +kernel) (S_sI k_300 e10) ?_
  refine Ev.seg D_194 [(.aload_n 0, 1)] (by decide +kernel) (j := 0) (pc' := 36) (lv' := [(0, .ref 294)]) (st' := [.ref 294]) rfl ?_
  refine Ev.getR D_194 (by decide +kernel) F_10_31 T_10_14 (x := 300) (S_oR k_294 (by decide +kernel)) ?_
  refine Ev.seg D_194 [(.iconst 2, 1), (.aload_n 0, 1)] (by decide +kernel) (j := 0) (pc' := 41) (lv' := [(0, .ref 294)]) (st' := [.ref 294, .int (2 : Int32), .ref 300]) rfl ?_
  refine Ev.ldc D_194 (i := 188) (by decide +kernel) (v := .ref (XB + 44)) (by decide +kernel) ?_
  refine Ev.seg D_194 [(.iconst 1, 1), (.bipush 60, 2)] (by decide +kernel) (j := 0) (pc' := 46) (lv' := [(0, .ref 294)]) (st' := [.int (60 : Int32), .int (1 : Int32), .ref (XB + 44), .ref 294, .int (2 : Int32), .ref 300]) rfl ?_
  obtain ⟨p13, e13, h⟩ := bd h
  refine Ev.callv D_194 E_199 (by decide +kernel) C_10_182 294 [.ref (XB + 44), .int (1 : Int32), .int (60 : Int32)] (r := [.int (2 : Int32), .ref 300]) rfl (gd_o k_294 (by decide)) rfl (Nat.le_of_ble_eq_true rfl) (Nat.le_of_ble_eq_true rfl) (gM_told_ok (by omega) (by decide) e13) ?_
  obtain ⟨s14, e14, h⟩ := bd h
  refine Ev.iast D_194 (by decide +kernel) (S_sI k_300 e14) ?_
  refine Ev.seg D_194 [(.aload_n 0, 1)] (by decide +kernel) (j := 0) (pc' := 51) (lv' := [(0, .ref 294)]) (st' := [.ref 294]) rfl ?_
  refine Ev.getR D_194 (by decide +kernel) F_10_31 T_10_14 (x := 300) (S_oR k_294 (by decide +kernel)) ?_
  refine Ev.seg D_194 [(.iconst 3, 1), (.aload_n 0, 1)] (by decide +kernel) (j := 0) (pc' := 56) (lv' := [(0, .ref 294)]) (st' := [.ref 294, .int (3 : Int32), .ref 300]) rfl ?_
  refine Ev.ldc D_194 (i := 190) (by decide +kernel) (v := .ref (XB + 46)) (by decide +kernel) ?_
  refine Ev.seg D_194 [(.iconst 0, 1), (.bipush 10, 2)] (by decide +kernel) (j := 0) (pc' := 61) (lv' := [(0, .ref 294)]) (st' := [.int (10 : Int32), .int (0 : Int32), .ref (XB + 46), .ref 294, .int (3 : Int32), .ref 300]) rfl ?_
  obtain ⟨p17, e17, h⟩ := bd h
  refine Ev.callv D_194 E_199 (by decide +kernel) C_10_182 294 [.ref (XB + 46), .int (0 : Int32), .int (10 : Int32)] (r := [.int (3 : Int32), .ref 300]) rfl (gd_o k_294 (by decide)) rfl (Nat.le_of_ble_eq_true rfl) (Nat.le_of_ble_eq_true rfl) (gM_told_ok (by omega) (by decide) e17) ?_
  obtain ⟨s18, e18, h⟩ := bd h
  refine Ev.iast D_194 (by decide +kernel) (S_sI k_300 e18) ?_
  cases h
  obtain rfl : o = _ := ho
  exact Ev.vret D_194 (by decide +kernel)
/- PennantLawnModel readWatcher: 202 -/
def gM_readWatcher (s : mT) : Option (mT) :=
  (rdI (s.1 300) 79 (5 : Int32)).bind fun x2 =>
  (rdI (s.1 300) 79 (4 : Int32)).bind fun x4 =>
  (gM_told (XB + 58) (1 : Int32) (9 : Int32) s).bind fun p7 =>
  (wrI p7.2 300 79 ((19 : Int32) + ((4 : Int32) * x2)) p7.1).bind fun s8 =>
  (gM_told (XB + 60) (0 : Int32) (x4 - (1 : Int32)) s8).bind fun p11 =>
  (wrI p11.2 300 79 (((19 : Int32) + ((4 : Int32) * x2)) + (1 : Int32)) p11.1).bind fun s12 =>
  (rdI (s12.1 300) 79 (((19 : Int32) + ((4 : Int32) * x2)) + (1 : Int32))).bind fun x16 =>
  (gM_told (XB + 62) x16 (x4 - (1 : Int32)) s12).bind fun p17 =>
  (wrI p17.2 300 79 (((19 : Int32) + ((4 : Int32) * x2)) + (2 : Int32)) p17.1).bind fun s18 =>
  (rdI (s18.1 300) 79 (((19 : Int32) + ((4 : Int32) * x2)) + (1 : Int32))).bind fun x22 =>
  (rdI (s18.1 300) 79 (((19 : Int32) + ((4 : Int32) * x2)) + (2 : Int32))).bind fun x24 =>
  (gM_told (XB + 64) x22 x24 s18).bind fun p25 =>
  (wrI p25.2 300 79 (((19 : Int32) + ((4 : Int32) * x2)) + (3 : Int32)) p25.1).bind fun s26 =>
  (rdI (s26.1 300) 79 (5 : Int32)).bind fun x28 =>
  (wrI s26 300 79 (5 : Int32) (x28 + (1 : Int32))).bind fun s29 =>
  some (s29)
set_option maxRecDepth 8000 in
theorem gM_readWatcher_ok {L d : Nat} (hd : 9 ≤ d) {s : mT} {p : mT} (h : gM_readWatcher s = some p) : Ev d 202 0 [(0, .ref 294)] [] (uS L s) (none, uS L p) := by
  obtain ⟨d, rfl⟩ : ∃ e, d = e + 1 := ⟨d - 1, by omega⟩
  obtain ⟨o, ho⟩ : ∃ o : Option Value × mS, o = (none, uS L p) := ⟨_, rfl⟩
  rw [← ho]
  unfold gM_readWatcher at h
  refine Ev.seg D_202 [(.bipush 19, 2), (.iconst 4, 1), (.aload_n 0, 1)] (by decide +kernel) (j := 0) (pc' := 4) (lv' := [(0, .ref 294)]) (st' := [.ref 294, .int (4 : Int32), .int (19 : Int32)]) rfl ?_
  refine Ev.getR D_202 (by decide +kernel) F_10_31 T_10_14 (x := 300) (S_oR k_294 (by decide +kernel)) ?_
  refine Ev.seg D_202 [(.iconst 5, 1)] (by decide +kernel) (j := 0) (pc' := 8) (lv' := [(0, .ref 294)]) (st' := [.int (5 : Int32), .ref 300, .int (4 : Int32), .int (19 : Int32)]) rfl ?_
  obtain ⟨x2, e2, h⟩ := bd h
  refine Ev.iald D_202 (by decide +kernel) (S_aI k_300 e2) ?_
  refine Ev.seg D_202 [(.imul, 1), (.iadd, 1), (.istore_n 1, 1), (.aload_n 0, 1)] (by decide +kernel) (j := 0) (pc' := 13) (lv' := [(1, .int ((19 : Int32) + ((4 : Int32) * x2))), (0, .ref 294)]) (st' := [.ref 294]) rfl ?_
  refine Ev.getR D_202 (by decide +kernel) F_10_31 T_10_14 (x := 300) (S_oR k_294 (by decide +kernel)) ?_
  refine Ev.seg D_202 [(.iconst 4, 1)] (by decide +kernel) (j := 0) (pc' := 17) (lv' := [(1, .int ((19 : Int32) + ((4 : Int32) * x2))), (0, .ref 294)]) (st' := [.int (4 : Int32), .ref 300]) rfl ?_
  obtain ⟨x4, e4, h⟩ := bd h
  refine Ev.iald D_202 (by decide +kernel) (S_aI k_300 e4) ?_
  refine Ev.seg D_202 [(.iconst 1, 1), (.isub, 1), (.istore_n 2, 1), (.aload_n 0, 1)] (by decide +kernel) (j := 0) (pc' := 22) (lv' := [(2, .int (x4 - (1 : Int32))), (1, .int ((19 : Int32) + ((4 : Int32) * x2))), (0, .ref 294)]) (st' := [.ref 294]) rfl ?_
  refine Ev.getR D_202 (by decide +kernel) F_10_31 T_10_14 (x := 300) (S_oR k_294 (by decide +kernel)) ?_
  refine Ev.seg D_202 [(.iload_n 1, 1), (.aload_n 0, 1)] (by decide +kernel) (j := 0) (pc' := 27) (lv' := [(2, .int (x4 - (1 : Int32))), (1, .int ((19 : Int32) + ((4 : Int32) * x2))), (0, .ref 294)]) (st' := [.ref 294, .int ((19 : Int32) + ((4 : Int32) * x2)), .ref 300]) rfl ?_
  refine Ev.ldc D_202 (i := 192) (by decide +kernel) (v := .ref (XB + 58)) (by decide +kernel) ?_
  refine Ev.seg D_202 [(.iconst 1, 1), (.bipush 9, 2)] (by decide +kernel) (j := 0) (pc' := 32) (lv' := [(2, .int (x4 - (1 : Int32))), (1, .int ((19 : Int32) + ((4 : Int32) * x2))), (0, .ref 294)]) (st' := [.int (9 : Int32), .int (1 : Int32), .ref (XB + 58), .ref 294, .int ((19 : Int32) + ((4 : Int32) * x2)), .ref 300]) rfl ?_
  obtain ⟨p7, e7, h⟩ := bd h
  refine Ev.callv D_202 E_199 (by decide +kernel) C_10_182 294 [.ref (XB + 58), .int (1 : Int32), .int (9 : Int32)] (r := [.int ((19 : Int32) + ((4 : Int32) * x2)), .ref 300]) rfl (gd_o k_294 (by decide)) rfl (Nat.le_of_ble_eq_true rfl) (Nat.le_of_ble_eq_true rfl) (gM_told_ok (by omega) (by decide) e7) ?_
  obtain ⟨s8, e8, h⟩ := bd h
  refine Ev.iast D_202 (by decide +kernel) (S_sI k_300 e8) ?_
  refine Ev.seg D_202 [(.aload_n 0, 1)] (by decide +kernel) (j := 0) (pc' := 37) (lv' := [(2, .int (x4 - (1 : Int32))), (1, .int ((19 : Int32) + ((4 : Int32) * x2))), (0, .ref 294)]) (st' := [.ref 294]) rfl ?_
  refine Ev.getR D_202 (by decide +kernel) F_10_31 T_10_14 (x := 300) (S_oR k_294 (by decide +kernel)) ?_
  refine Ev.seg D_202 [(.iload_n 1, 1), (.iconst 1, 1), (.iadd, 1), (.aload_n 0, 1)] (by decide +kernel) (j := 0) (pc' := 44) (lv' := [(2, .int (x4 - (1 : Int32))), (1, .int ((19 : Int32) + ((4 : Int32) * x2))), (0, .ref 294)]) (st' := [.ref 294, .int (((19 : Int32) + ((4 : Int32) * x2)) + (1 : Int32)), .ref 300]) rfl ?_
  refine Ev.ldc D_202 (i := 194) (by decide +kernel) (v := .ref (XB + 60)) (by decide +kernel) ?_
  refine Ev.seg D_202 [(.iconst 0, 1), (.iload_n 2, 1)] (by decide +kernel) (j := 0) (pc' := 48) (lv' := [(2, .int (x4 - (1 : Int32))), (1, .int ((19 : Int32) + ((4 : Int32) * x2))), (0, .ref 294)]) (st' := [.int (x4 - (1 : Int32)), .int (0 : Int32), .ref (XB + 60), .ref 294, .int (((19 : Int32) + ((4 : Int32) * x2)) + (1 : Int32)), .ref 300]) rfl ?_
  obtain ⟨p11, e11, h⟩ := bd h
  refine Ev.callv D_202 E_199 (by decide +kernel) C_10_182 294 [.ref (XB + 60), .int (0 : Int32), .int (x4 - (1 : Int32))] (r := [.int (((19 : Int32) + ((4 : Int32) * x2)) + (1 : Int32)), .ref 300]) rfl (gd_o k_294 (by decide)) rfl (Nat.le_of_ble_eq_true rfl) (Nat.le_of_ble_eq_true rfl) (gM_told_ok (by omega) (by decide) e11) ?_
  obtain ⟨s12, e12, h⟩ := bd h
  refine Ev.iast D_202 (by decide +kernel) (S_sI k_300 e12) ?_
  refine Ev.seg D_202 [(.aload_n 0, 1)] (by decide +kernel) (j := 0) (pc' := 53) (lv' := [(2, .int (x4 - (1 : Int32))), (1, .int ((19 : Int32) + ((4 : Int32) * x2))), (0, .ref 294)]) (st' := [.ref 294]) rfl ?_
  refine Ev.getR D_202 (by decide +kernel) F_10_31 T_10_14 (x := 300) (S_oR k_294 (by decide +kernel)) ?_
  refine Ev.seg D_202 [(.iload_n 1, 1), (.iconst 2, 1), (.iadd, 1), (.aload_n 0, 1)] (by decide +kernel) (j := 0) (pc' := 60) (lv' := [(2, .int (x4 - (1 : Int32))), (1, .int ((19 : Int32) + ((4 : Int32) * x2))), (0, .ref 294)]) (st' := [.ref 294, .int (((19 : Int32) + ((4 : Int32) * x2)) + (2 : Int32)), .ref 300]) rfl ?_
  refine Ev.ldc D_202 (i := 196) (by decide +kernel) (v := .ref (XB + 62)) (by decide +kernel) ?_
  refine Ev.seg D_202 [(.aload_n 0, 1)] (by decide +kernel) (j := 0) (pc' := 63) (lv' := [(2, .int (x4 - (1 : Int32))), (1, .int ((19 : Int32) + ((4 : Int32) * x2))), (0, .ref 294)]) (st' := [.ref 294, .ref (XB + 62), .ref 294, .int (((19 : Int32) + ((4 : Int32) * x2)) + (2 : Int32)), .ref 300]) rfl ?_
  refine Ev.getR D_202 (by decide +kernel) F_10_31 T_10_14 (x := 300) (S_oR k_294 (by decide +kernel)) ?_
  refine Ev.seg D_202 [(.iload_n 1, 1), (.iconst 1, 1), (.iadd, 1)] (by decide +kernel) (j := 0) (pc' := 69) (lv' := [(2, .int (x4 - (1 : Int32))), (1, .int ((19 : Int32) + ((4 : Int32) * x2))), (0, .ref 294)]) (st' := [.int (((19 : Int32) + ((4 : Int32) * x2)) + (1 : Int32)), .ref 300, .ref (XB + 62), .ref 294, .int (((19 : Int32) + ((4 : Int32) * x2)) + (2 : Int32)), .ref 300]) rfl ?_
  obtain ⟨x16, e16, h⟩ := bd h
  refine Ev.iald D_202 (by decide +kernel) (S_aI k_300 e16) ?_
  refine Ev.seg D_202 [(.iload_n 2, 1)] (by decide +kernel) (j := 0) (pc' := 71) (lv' := [(2, .int (x4 - (1 : Int32))), (1, .int ((19 : Int32) + ((4 : Int32) * x2))), (0, .ref 294)]) (st' := [.int (x4 - (1 : Int32)), .int x16, .ref (XB + 62), .ref 294, .int (((19 : Int32) + ((4 : Int32) * x2)) + (2 : Int32)), .ref 300]) rfl ?_
  obtain ⟨p17, e17, h⟩ := bd h
  refine Ev.callv D_202 E_199 (by decide +kernel) C_10_182 294 [.ref (XB + 62), .int x16, .int (x4 - (1 : Int32))] (r := [.int (((19 : Int32) + ((4 : Int32) * x2)) + (2 : Int32)), .ref 300]) rfl (gd_o k_294 (by decide)) rfl (Nat.le_of_ble_eq_true rfl) (Nat.le_of_ble_eq_true rfl) (gM_told_ok (by omega) (by decide) e17) ?_
  obtain ⟨s18, e18, h⟩ := bd h
  refine Ev.iast D_202 (by decide +kernel) (S_sI k_300 e18) ?_
  refine Ev.seg D_202 [(.aload_n 0, 1)] (by decide +kernel) (j := 0) (pc' := 76) (lv' := [(2, .int (x4 - (1 : Int32))), (1, .int ((19 : Int32) + ((4 : Int32) * x2))), (0, .ref 294)]) (st' := [.ref 294]) rfl ?_
  refine Ev.getR D_202 (by decide +kernel) F_10_31 T_10_14 (x := 300) (S_oR k_294 (by decide +kernel)) ?_
  refine Ev.seg D_202 [(.iload_n 1, 1), (.iconst 3, 1), (.iadd, 1), (.aload_n 0, 1)] (by decide +kernel) (j := 0) (pc' := 83) (lv' := [(2, .int (x4 - (1 : Int32))), (1, .int ((19 : Int32) + ((4 : Int32) * x2))), (0, .ref 294)]) (st' := [.ref 294, .int (((19 : Int32) + ((4 : Int32) * x2)) + (3 : Int32)), .ref 300]) rfl ?_
  refine Ev.ldc D_202 (i := 198) (by decide +kernel) (v := .ref (XB + 64)) (by decide +kernel) ?_
  refine Ev.seg D_202 [(.aload_n 0, 1)] (by decide +kernel) (j := 0) (pc' := 86) (lv' := [(2, .int (x4 - (1 : Int32))), (1, .int ((19 : Int32) + ((4 : Int32) * x2))), (0, .ref 294)]) (st' := [.ref 294, .ref (XB + 64), .ref 294, .int (((19 : Int32) + ((4 : Int32) * x2)) + (3 : Int32)), .ref 300]) rfl ?_
  refine Ev.getR D_202 (by decide +kernel) F_10_31 T_10_14 (x := 300) (S_oR k_294 (by decide +kernel)) ?_
  refine Ev.seg D_202 [(.iload_n 1, 1), (.iconst 1, 1), (.iadd, 1)] (by decide +kernel) (j := 0) (pc' := 92) (lv' := [(2, .int (x4 - (1 : Int32))), (1, .int ((19 : Int32) + ((4 : Int32) * x2))), (0, .ref 294)]) (st' := [.int (((19 : Int32) + ((4 : Int32) * x2)) + (1 : Int32)), .ref 300, .ref (XB + 64), .ref 294, .int (((19 : Int32) + ((4 : Int32) * x2)) + (3 : Int32)), .ref 300]) rfl ?_
  obtain ⟨x22, e22, h⟩ := bd h
  refine Ev.iald D_202 (by decide +kernel) (S_aI k_300 e22) ?_
  refine Ev.seg D_202 [(.aload_n 0, 1)] (by decide +kernel) (j := 0) (pc' := 94) (lv' := [(2, .int (x4 - (1 : Int32))), (1, .int ((19 : Int32) + ((4 : Int32) * x2))), (0, .ref 294)]) (st' := [.ref 294, .int x22, .ref (XB + 64), .ref 294, .int (((19 : Int32) + ((4 : Int32) * x2)) + (3 : Int32)), .ref 300]) rfl ?_
  refine Ev.getR D_202 (by decide +kernel) F_10_31 T_10_14 (x := 300) (S_oR k_294 (by decide +kernel)) ?_
  refine Ev.seg D_202 [(.iload_n 1, 1), (.iconst 2, 1), (.iadd, 1)] (by decide +kernel) (j := 0) (pc' := 100) (lv' := [(2, .int (x4 - (1 : Int32))), (1, .int ((19 : Int32) + ((4 : Int32) * x2))), (0, .ref 294)]) (st' := [.int (((19 : Int32) + ((4 : Int32) * x2)) + (2 : Int32)), .ref 300, .int x22, .ref (XB + 64), .ref 294, .int (((19 : Int32) + ((4 : Int32) * x2)) + (3 : Int32)), .ref 300]) rfl ?_
  obtain ⟨x24, e24, h⟩ := bd h
  refine Ev.iald D_202 (by decide +kernel) (S_aI k_300 e24) ?_
  obtain ⟨p25, e25, h⟩ := bd h
  refine Ev.callv D_202 E_199 (by decide +kernel) C_10_182 294 [.ref (XB + 64), .int x22, .int x24] (r := [.int (((19 : Int32) + ((4 : Int32) * x2)) + (3 : Int32)), .ref 300]) rfl (gd_o k_294 (by decide)) rfl (Nat.le_of_ble_eq_true rfl) (Nat.le_of_ble_eq_true rfl) (gM_told_ok (by omega) (by decide) e25) ?_
  obtain ⟨s26, e26, h⟩ := bd h
  refine Ev.iast D_202 (by decide +kernel) (S_sI k_300 e26) ?_
  refine Ev.seg D_202 [(.aload_n 0, 1)] (by decide +kernel) (j := 0) (pc' := 106) (lv' := [(2, .int (x4 - (1 : Int32))), (1, .int ((19 : Int32) + ((4 : Int32) * x2))), (0, .ref 294)]) (st' := [.ref 294]) rfl ?_
  refine Ev.getR D_202 (by decide +kernel) F_10_31 T_10_14 (x := 300) (S_oR k_294 (by decide +kernel)) ?_
  refine Ev.seg D_202 [(.iconst 5, 1), (.dup2, 1)] (by decide +kernel) (j := 0) (pc' := 111) (lv' := [(2, .int (x4 - (1 : Int32))), (1, .int ((19 : Int32) + ((4 : Int32) * x2))), (0, .ref 294)]) (st' := [.int (5 : Int32), .ref 300, .int (5 : Int32), .ref 300]) rfl ?_
  obtain ⟨x28, e28, h⟩ := bd h
  refine Ev.iald D_202 (by decide +kernel) (S_aI k_300 e28) ?_
  refine Ev.seg D_202 [(.iconst 1, 1), (.iadd, 1)] (by decide +kernel) (j := 0) (pc' := 114) (lv' := [(2, .int (x4 - (1 : Int32))), (1, .int ((19 : Int32) + ((4 : Int32) * x2))), (0, .ref 294)]) (st' := [.int (x28 + (1 : Int32)), .int (5 : Int32), .ref 300]) rfl ?_
  obtain ⟨s29, e29, h⟩ := bd h
  refine Ev.iast D_202 (by decide +kernel) (S_sI k_300 e29) ?_
  cases h
  obtain rfl : o = _ := ho
  exact Ev.vret D_202 (by decide +kernel)
/- PennantLawnModel readNext: 201 -/
def gM_readNext (s : mT) : Option (mT) :=
  (gM_is (XB + 48) s).bind fun p2 =>
  (
    if p2 = 0 then
      (gM_is (XB + 50) s).bind fun p5 =>
      if p5 = 0 then
        (gM_is (XB + 52) s).bind fun p8 =>
        if p8 = 0 then
          some ((0 : Int32))
        else
          some ((1 : Int32))
      else
        some ((1 : Int32))
    else
      some ((1 : Int32)) : Option (Int32)).bind fun x3 =>
  (
    if x3 = 0 then
      (gM_errs (1 : Int32) s).bind fun p11 =>
      some (p11)
    else
      some (s) : Option (mT)).bind fun x10 =>
  (gM_is (XB + 48) x10).bind fun p13 =>
  (
    if p13 = 0 then
      some (x10)
    else
      (rdI (x10.1 300) 79 (4 : Int32)).bind fun x16 =>
      if x16 = (5 : Int32) then
        (gM_errs (3 : Int32) x10).bind fun p18 =>
        some (p18)
      else
        some (x10) : Option (mT)).bind fun x14 =>
  (gM_is (XB + 50) x14).bind fun p20 =>
  (
    if p20 = 0 then
      some (x14)
    else
      (rdI (x14.1 300) 79 (5 : Int32)).bind fun x23 =>
      if x23 = (5 : Int32) then
        (gM_errs (3 : Int32) x14).bind fun p25 =>
        some (p25)
      else
        some (x14) : Option (mT)).bind fun x21 =>
  (gM_is (XB + 52) x21).bind fun p27 =>
  (
    if p27 = 0 then
      some (x21)
    else
      (rdI (x21.1 300) 79 (6 : Int32)).bind fun x30 =>
      if x30 = (5 : Int32) then
        (gM_errs (3 : Int32) x21).bind fun p32 =>
        some (p32)
      else
        some (x21) : Option (mT)).bind fun x28 =>
  (gM_good x28).bind fun p33 =>
  if p33 = 0 then
    some (x28)
  else
    (gM_takes (XB + 48) x28).bind fun p36 =>
    (
      if p36.1 = 0 then
        (gM_takes (XB + 50) p36.2).bind fun p39 =>
        if p39.1 = 0 then
          (gM_advance p39.2).bind fun p41 =>
          (rdI (p41.1 300) 79 (6 : Int32)).bind fun x43 =>
          (gM_number (1 : Int32) (9 : Int32) p41).bind fun p45 =>
          (wrI p45.2 300 79 ((39 : Int32) + ((2 : Int32) * x43)) p45.1).bind fun s46 =>
          (gM_told (XB + 54) (0 : Int32) (19 : Int32) s46).bind fun p49 =>
          (wrI p49.2 300 79 (((39 : Int32) + ((2 : Int32) * x43)) + (1 : Int32)) p49.1).bind fun s50 =>
          (rdI (s50.1 300) 79 (6 : Int32)).bind fun x52 =>
          (wrI s50 300 79 (6 : Int32) (x52 + (1 : Int32))).bind fun s53 =>
          some (s53)
        else
          (gM_readWatcher p39.2).bind fun p54 =>
          some (p54)
      else
        (rdI (p36.2.1 300) 79 (4 : Int32)).bind fun x56 =>
        (gM_told (XB + 54) (0 : Int32) (30 : Int32) p36.2).bind fun p59 =>
        (wrI p59.2 300 79 ((9 : Int32) + ((2 : Int32) * x56)) p59.1).bind fun s60 =>
        (gM_told (XB + 56) (1 : Int32) (9 : Int32) s60).bind fun p63 =>
        (wrI p63.2 300 79 (((9 : Int32) + ((2 : Int32) * x56)) + (1 : Int32)) p63.1).bind fun s64 =>
        (rdI (s64.1 300) 79 (4 : Int32)).bind fun x66 =>
        (wrI s64 300 79 (4 : Int32) (x66 + (1 : Int32))).bind fun s67 =>
        some (s67) : Option (mT)).bind fun x37 =>
    some (x37)
set_option maxRecDepth 8000 in
theorem gM_readNext_ok {L d : Nat} (hd : 10 ≤ d) {s : mT} {p : mT} (h : gM_readNext s = some p) : Ev d 201 0 [(0, .ref 294)] [] (uS L s) (none, uS L p) := by
  obtain ⟨d, rfl⟩ : ∃ e, d = e + 1 := ⟨d - 1, by omega⟩
  obtain ⟨o, ho⟩ : ∃ o : Option Value × mS, o = (none, uS L p) := ⟨_, rfl⟩
  rw [← ho]
  unfold gM_readNext at h
  refine Ev.seg D_201 [(.aload_n 0, 1)] (by decide +kernel) (j := 0) (pc' := 1) (lv' := [(0, .ref 294)]) (st' := [.ref 294]) rfl ?_
  refine Ev.ldc D_201 (i := 200) (by decide +kernel) (v := .ref (XB + 48)) (by decide +kernel) ?_
  obtain ⟨p2, e2, h⟩ := bd h
  refine Ev.callv D_201 E_197 (by decide +kernel) C_10_157 294 [.ref (XB + 48)] (r := []) rfl (gd_o k_294 (by decide)) rfl (Nat.le_of_ble_eq_true rfl) (Nat.le_of_ble_eq_true rfl) (gM_is_ok (by omega) (by decide) e2) ?_
  obtain ⟨x3, g3, h⟩ := bd h
  have j3 : Ev (d + 1) 201 32 [(0, .ref 294)] [.int x3] (uS L s) o := by
    clear g3
    refine Ev.seg D_201 [(.istore_n 1, 1), (.iload_n 1, 1)] (by decide +kernel) (j := 0) (pc' := 34) (lv' := [(1, .int x3), (0, .ref 294)]) (st' := [.int x3]) rfl ?_
    obtain ⟨x10, g10, h⟩ := bd h
    have j10 : Ev (d + 1) 201 42 [(0, .ref 294)] [] (uS L x10) o := by
      clear g10
      refine Ev.seg D_201 [(.aload_n 0, 1)] (by decide +kernel) (j := 0) (pc' := 43) (lv' := [(0, .ref 294)]) (st' := [.ref 294]) rfl ?_
      refine Ev.ldc D_201 (i := 200) (by decide +kernel) (v := .ref (XB + 48)) (by decide +kernel) ?_
      obtain ⟨p13, e13, h⟩ := bd h
      refine Ev.callv D_201 E_197 (by decide +kernel) C_10_157 294 [.ref (XB + 48)] (r := []) rfl (gd_o k_294 (by decide)) rfl (Nat.le_of_ble_eq_true rfl) (Nat.le_of_ble_eq_true rfl) (gM_is_ok (by omega) (by decide) e13) ?_
      obtain ⟨x14, g14, h⟩ := bd h
      have j14 : Ev (d + 1) 201 66 [(0, .ref 294)] [] (uS L x14) o := by
        clear g14
        refine Ev.seg D_201 [(.aload_n 0, 1)] (by decide +kernel) (j := 0) (pc' := 67) (lv' := [(0, .ref 294)]) (st' := [.ref 294]) rfl ?_
        refine Ev.ldc D_201 (i := 202) (by decide +kernel) (v := .ref (XB + 50)) (by decide +kernel) ?_
        obtain ⟨p20, e20, h⟩ := bd h
        refine Ev.callv D_201 E_197 (by decide +kernel) C_10_157 294 [.ref (XB + 50)] (r := []) rfl (gd_o k_294 (by decide)) rfl (Nat.le_of_ble_eq_true rfl) (Nat.le_of_ble_eq_true rfl) (gM_is_ok (by omega) (by decide) e20) ?_
        obtain ⟨x21, g21, h⟩ := bd h
        have j21 : Ev (d + 1) 201 90 [(0, .ref 294)] [] (uS L x21) o := by
          clear g21
          refine Ev.seg D_201 [(.aload_n 0, 1)] (by decide +kernel) (j := 0) (pc' := 91) (lv' := [(0, .ref 294)]) (st' := [.ref 294]) rfl ?_
          refine Ev.ldc D_201 (i := 204) (by decide +kernel) (v := .ref (XB + 52)) (by decide +kernel) ?_
          obtain ⟨p27, e27, h⟩ := bd h
          refine Ev.callv D_201 E_197 (by decide +kernel) C_10_157 294 [.ref (XB + 52)] (r := []) rfl (gd_o k_294 (by decide)) rfl (Nat.le_of_ble_eq_true rfl) (Nat.le_of_ble_eq_true rfl) (gM_is_ok (by omega) (by decide) e27) ?_
          obtain ⟨x28, g28, h⟩ := bd h
          have j28 : Ev (d + 1) 201 115 [(0, .ref 294)] [] (uS L x28) o := by
            clear g28
            refine Ev.seg D_201 [(.aload_n 0, 1)] (by decide +kernel) (j := 0) (pc' := 116) (lv' := [(0, .ref 294)]) (st' := [.ref 294]) rfl ?_
            obtain ⟨p33, e33, h⟩ := bd h
            refine Ev.callv D_201 E_192 (by decide +kernel) C_10_145 294 [] (r := []) rfl (gd_o k_294 (by decide)) rfl (Nat.le_of_ble_eq_true rfl) (Nat.le_of_ble_eq_true rfl) (gM_good_ok (by omega)  e33) ?_
            refine Ev.if_ D_201 (c := .ne) (off := 4) (by decide +kernel) (t := 123) rfl (fun c34 => ?_) (fun c34 => ?_)
            · have c34 : ¬ p33 = 0 := of_decide_eq_true c34
              rw [if_neg c34] at h
              refine Ev.seg D_201 [(.aload_n 0, 1)] (by decide +kernel) (j := 0) (pc' := 124) (lv' := [(0, .ref 294)]) (st' := [.ref 294]) rfl ?_
              refine Ev.ldc D_201 (i := 200) (by decide +kernel) (v := .ref (XB + 48)) (by decide +kernel) ?_
              obtain ⟨p36, e36, h⟩ := bd h
              refine Ev.callv D_201 E_196 (by decide +kernel) C_10_164 294 [.ref (XB + 48)] (r := []) rfl (gd_o k_294 (by decide)) rfl (Nat.le_of_ble_eq_true rfl) (Nat.le_of_ble_eq_true rfl) (gM_takes_ok (by omega) (by decide) e36) ?_
              obtain ⟨x37, g37, h⟩ := bd h
              have j37 : Ev (d + 1) 201 263 [] [] (uS L x37) o := by
                clear g37
                cases h
                obtain rfl : o = _ := ho
                exact Ev.vret D_201 (by decide +kernel)
              clear h
              refine Ev.if_ D_201 (c := .eq) (off := 60) (by decide +kernel) (t := 189) rfl (fun c37 => ?_) (fun c37 => ?_)
              · have c37 : p36.1 = 0 := of_decide_eq_true c37
                rw [if_pos c37] at g37
                refine Ev.seg D_201 [(.aload_n 0, 1)] (by decide +kernel) (j := 0) (pc' := 190) (lv' := [(0, .ref 294)]) (st' := [.ref 294]) rfl ?_
                refine Ev.ldc D_201 (i := 202) (by decide +kernel) (v := .ref (XB + 50)) (by decide +kernel) ?_
                obtain ⟨p39, e39, g37⟩ := bd g37
                refine Ev.callv D_201 E_196 (by decide +kernel) C_10_164 294 [.ref (XB + 50)] (r := []) rfl (gd_o k_294 (by decide)) rfl (Nat.le_of_ble_eq_true rfl) (Nat.le_of_ble_eq_true rfl) (gM_takes_ok (by omega) (by decide) e39) ?_
                refine Ev.if_ D_201 (c := .eq) (off := 10) (by decide +kernel) (t := 205) rfl (fun c40 => ?_) (fun c40 => ?_)
                · have c40 : p39.1 = 0 := of_decide_eq_true c40
                  rw [if_pos c40] at g37
                  refine Ev.seg D_201 [(.aload_n 0, 1)] (by decide +kernel) (j := 0) (pc' := 206) (lv' := [(0, .ref 294)]) (st' := [.ref 294]) rfl ?_
                  obtain ⟨p41, e41, g37⟩ := bd g37
                  refine Ev.callv D_201 E_190 (by decide +kernel) C_10_161 294 [] (r := []) rfl (gd_o k_294 (by decide)) rfl (Nat.le_of_ble_eq_true rfl) (Nat.le_of_ble_eq_true rfl) (gM_advance_ok (by omega)  e41) ?_
                  refine Ev.seg D_201 [(.bipush 39, 2), (.iconst 2, 1), (.aload_n 0, 1)] (by decide +kernel) (j := 0) (pc' := 213) (lv' := [(0, .ref 294)]) (st' := [.ref 294, .int (2 : Int32), .int (39 : Int32)]) rfl ?_
                  refine Ev.getR D_201 (by decide +kernel) F_10_31 T_10_14 (x := 300) (S_oR k_294 (by decide +kernel)) ?_
                  refine Ev.seg D_201 [(.bipush 6, 2)] (by decide +kernel) (j := 0) (pc' := 218) (lv' := [(0, .ref 294)]) (st' := [.int (6 : Int32), .ref 300, .int (2 : Int32), .int (39 : Int32)]) rfl ?_
                  obtain ⟨x43, e43, g37⟩ := bd g37
                  refine Ev.iald D_201 (by decide +kernel) (S_aI k_300 e43) ?_
                  refine Ev.seg D_201 [(.imul, 1), (.iadd, 1), (.istore_n 2, 1), (.aload_n 0, 1)] (by decide +kernel) (j := 0) (pc' := 223) (lv' := [(2, .int ((39 : Int32) + ((2 : Int32) * x43))), (0, .ref 294)]) (st' := [.ref 294]) rfl ?_
                  refine Ev.getR D_201 (by decide +kernel) F_10_31 T_10_14 (x := 300) (S_oR k_294 (by decide +kernel)) ?_
                  refine Ev.seg D_201 [(.iload_n 2, 1), (.aload_n 0, 1), (.iconst 1, 1), (.bipush 9, 2)] (by decide +kernel) (j := 0) (pc' := 231) (lv' := [(2, .int ((39 : Int32) + ((2 : Int32) * x43))), (0, .ref 294)]) (st' := [.int (9 : Int32), .int (1 : Int32), .ref 294, .int ((39 : Int32) + ((2 : Int32) * x43)), .ref 300]) rfl ?_
                  obtain ⟨p45, e45, g37⟩ := bd g37
                  refine Ev.callv D_201 E_200 (by decide +kernel) C_10_175 294 [.int (1 : Int32), .int (9 : Int32)] (r := [.int ((39 : Int32) + ((2 : Int32) * x43)), .ref 300]) rfl (gd_o k_294 (by decide)) rfl (Nat.le_of_ble_eq_true rfl) (Nat.le_of_ble_eq_true rfl) (gM_number_ok (by omega)  e45) ?_
                  obtain ⟨s46, e46, g37⟩ := bd g37
                  refine Ev.iast D_201 (by decide +kernel) (S_sI k_300 e46) ?_
                  refine Ev.seg D_201 [(.aload_n 0, 1)] (by decide +kernel) (j := 0) (pc' := 236) (lv' := [(2, .int ((39 : Int32) + ((2 : Int32) * x43))), (0, .ref 294)]) (st' := [.ref 294]) rfl ?_
                  refine Ev.getR D_201 (by decide +kernel) F_10_31 T_10_14 (x := 300) (S_oR k_294 (by decide +kernel)) ?_
                  refine Ev.seg D_201 [(.iload_n 2, 1), (.iconst 1, 1), (.iadd, 1), (.aload_n 0, 1)] (by decide +kernel) (j := 0) (pc' := 243) (lv' := [(2, .int ((39 : Int32) + ((2 : Int32) * x43))), (0, .ref 294)]) (st' := [.ref 294, .int (((39 : Int32) + ((2 : Int32) * x43)) + (1 : Int32)), .ref 300]) rfl ?_
                  refine Ev.ldc D_201 (i := 206) (by decide +kernel) (v := .ref (XB + 54)) (by decide +kernel) ?_
                  refine Ev.seg D_201 [(.iconst 0, 1), (.bipush 19, 2)] (by decide +kernel) (j := 0) (pc' := 248) (lv' := [(2, .int ((39 : Int32) + ((2 : Int32) * x43))), (0, .ref 294)]) (st' := [.int (19 : Int32), .int (0 : Int32), .ref (XB + 54), .ref 294, .int (((39 : Int32) + ((2 : Int32) * x43)) + (1 : Int32)), .ref 300]) rfl ?_
                  obtain ⟨p49, e49, g37⟩ := bd g37
                  refine Ev.callv D_201 E_199 (by decide +kernel) C_10_182 294 [.ref (XB + 54), .int (0 : Int32), .int (19 : Int32)] (r := [.int (((39 : Int32) + ((2 : Int32) * x43)) + (1 : Int32)), .ref 300]) rfl (gd_o k_294 (by decide)) rfl (Nat.le_of_ble_eq_true rfl) (Nat.le_of_ble_eq_true rfl) (gM_told_ok (by omega) (by decide) e49) ?_
                  obtain ⟨s50, e50, g37⟩ := bd g37
                  refine Ev.iast D_201 (by decide +kernel) (S_sI k_300 e50) ?_
                  refine Ev.seg D_201 [(.aload_n 0, 1)] (by decide +kernel) (j := 0) (pc' := 253) (lv' := [(2, .int ((39 : Int32) + ((2 : Int32) * x43))), (0, .ref 294)]) (st' := [.ref 294]) rfl ?_
                  refine Ev.getR D_201 (by decide +kernel) F_10_31 T_10_14 (x := 300) (S_oR k_294 (by decide +kernel)) ?_
                  refine Ev.seg D_201 [(.bipush 6, 2), (.dup2, 1)] (by decide +kernel) (j := 0) (pc' := 259) (lv' := [(2, .int ((39 : Int32) + ((2 : Int32) * x43))), (0, .ref 294)]) (st' := [.int (6 : Int32), .ref 300, .int (6 : Int32), .ref 300]) rfl ?_
                  obtain ⟨x52, e52, g37⟩ := bd g37
                  refine Ev.iald D_201 (by decide +kernel) (S_aI k_300 e52) ?_
                  refine Ev.seg D_201 [(.iconst 1, 1), (.iadd, 1)] (by decide +kernel) (j := 0) (pc' := 262) (lv' := [(2, .int ((39 : Int32) + ((2 : Int32) * x43))), (0, .ref 294)]) (st' := [.int (x52 + (1 : Int32)), .int (6 : Int32), .ref 300]) rfl ?_
                  obtain ⟨s53, e53, g37⟩ := bd g37
                  refine Ev.iast D_201 (by decide +kernel) (S_sI k_300 e53) ?_
                  cases g37
                  exact Ev.sub2 j37 subL_nil
                · have c40 : ¬ p39.1 = 0 := of_decide_eq_false c40
                  rw [if_neg c40] at g37
                  refine Ev.seg D_201 [(.aload_n 0, 1)] (by decide +kernel) (j := 0) (pc' := 199) (lv' := [(0, .ref 294)]) (st' := [.ref 294]) rfl ?_
                  obtain ⟨p54, e54, g37⟩ := bd g37
                  refine Ev.callv D_201 E_202 (by decide +kernel) C_10_208 294 [] (r := []) rfl (gd_o k_294 (by decide)) rfl (Nat.le_of_ble_eq_true rfl) (Nat.le_of_ble_eq_true rfl) (gM_readWatcher_ok (by omega)  e54) ?_
                  refine Ev.seg D_201 [(.goto 61, 3)] (by decide +kernel) (j := 0) (pc' := 263) (lv' := [(0, .ref 294)]) (st' := []) rfl ?_
                  cases g37
                  exact Ev.sub2 j37 subL_nil
              · have c37 : ¬ p36.1 = 0 := of_decide_eq_false c37
                rw [if_neg c37] at g37
                refine Ev.seg D_201 [(.bipush 9, 2), (.iconst 2, 1), (.aload_n 0, 1)] (by decide +kernel) (j := 0) (pc' := 136) (lv' := [(0, .ref 294)]) (st' := [.ref 294, .int (2 : Int32), .int (9 : Int32)]) rfl ?_
                refine Ev.getR D_201 (by decide +kernel) F_10_31 T_10_14 (x := 300) (S_oR k_294 (by decide +kernel)) ?_
                refine Ev.seg D_201 [(.iconst 4, 1)] (by decide +kernel) (j := 0) (pc' := 140) (lv' := [(0, .ref 294)]) (st' := [.int (4 : Int32), .ref 300, .int (2 : Int32), .int (9 : Int32)]) rfl ?_
                obtain ⟨x56, e56, g37⟩ := bd g37
                refine Ev.iald D_201 (by decide +kernel) (S_aI k_300 e56) ?_
                refine Ev.seg D_201 [(.imul, 1), (.iadd, 1), (.istore_n 2, 1), (.aload_n 0, 1)] (by decide +kernel) (j := 0) (pc' := 145) (lv' := [(2, .int ((9 : Int32) + ((2 : Int32) * x56))), (0, .ref 294)]) (st' := [.ref 294]) rfl ?_
                refine Ev.getR D_201 (by decide +kernel) F_10_31 T_10_14 (x := 300) (S_oR k_294 (by decide +kernel)) ?_
                refine Ev.seg D_201 [(.iload_n 2, 1), (.aload_n 0, 1)] (by decide +kernel) (j := 0) (pc' := 150) (lv' := [(2, .int ((9 : Int32) + ((2 : Int32) * x56))), (0, .ref 294)]) (st' := [.ref 294, .int ((9 : Int32) + ((2 : Int32) * x56)), .ref 300]) rfl ?_
                refine Ev.ldc D_201 (i := 206) (by decide +kernel) (v := .ref (XB + 54)) (by decide +kernel) ?_
                refine Ev.seg D_201 [(.iconst 0, 1), (.bipush 30, 2)] (by decide +kernel) (j := 0) (pc' := 155) (lv' := [(2, .int ((9 : Int32) + ((2 : Int32) * x56))), (0, .ref 294)]) (st' := [.int (30 : Int32), .int (0 : Int32), .ref (XB + 54), .ref 294, .int ((9 : Int32) + ((2 : Int32) * x56)), .ref 300]) rfl ?_
                obtain ⟨p59, e59, g37⟩ := bd g37
                refine Ev.callv D_201 E_199 (by decide +kernel) C_10_182 294 [.ref (XB + 54), .int (0 : Int32), .int (30 : Int32)] (r := [.int ((9 : Int32) + ((2 : Int32) * x56)), .ref 300]) rfl (gd_o k_294 (by decide)) rfl (Nat.le_of_ble_eq_true rfl) (Nat.le_of_ble_eq_true rfl) (gM_told_ok (by omega) (by decide) e59) ?_
                obtain ⟨s60, e60, g37⟩ := bd g37
                refine Ev.iast D_201 (by decide +kernel) (S_sI k_300 e60) ?_
                refine Ev.seg D_201 [(.aload_n 0, 1)] (by decide +kernel) (j := 0) (pc' := 160) (lv' := [(2, .int ((9 : Int32) + ((2 : Int32) * x56))), (0, .ref 294)]) (st' := [.ref 294]) rfl ?_
                refine Ev.getR D_201 (by decide +kernel) F_10_31 T_10_14 (x := 300) (S_oR k_294 (by decide +kernel)) ?_
                refine Ev.seg D_201 [(.iload_n 2, 1), (.iconst 1, 1), (.iadd, 1), (.aload_n 0, 1)] (by decide +kernel) (j := 0) (pc' := 167) (lv' := [(2, .int ((9 : Int32) + ((2 : Int32) * x56))), (0, .ref 294)]) (st' := [.ref 294, .int (((9 : Int32) + ((2 : Int32) * x56)) + (1 : Int32)), .ref 300]) rfl ?_
                refine Ev.ldc D_201 (i := 207) (by decide +kernel) (v := .ref (XB + 56)) (by decide +kernel) ?_
                refine Ev.seg D_201 [(.iconst 1, 1), (.bipush 9, 2)] (by decide +kernel) (j := 0) (pc' := 172) (lv' := [(2, .int ((9 : Int32) + ((2 : Int32) * x56))), (0, .ref 294)]) (st' := [.int (9 : Int32), .int (1 : Int32), .ref (XB + 56), .ref 294, .int (((9 : Int32) + ((2 : Int32) * x56)) + (1 : Int32)), .ref 300]) rfl ?_
                obtain ⟨p63, e63, g37⟩ := bd g37
                refine Ev.callv D_201 E_199 (by decide +kernel) C_10_182 294 [.ref (XB + 56), .int (1 : Int32), .int (9 : Int32)] (r := [.int (((9 : Int32) + ((2 : Int32) * x56)) + (1 : Int32)), .ref 300]) rfl (gd_o k_294 (by decide)) rfl (Nat.le_of_ble_eq_true rfl) (Nat.le_of_ble_eq_true rfl) (gM_told_ok (by omega) (by decide) e63) ?_
                obtain ⟨s64, e64, g37⟩ := bd g37
                refine Ev.iast D_201 (by decide +kernel) (S_sI k_300 e64) ?_
                refine Ev.seg D_201 [(.aload_n 0, 1)] (by decide +kernel) (j := 0) (pc' := 177) (lv' := [(2, .int ((9 : Int32) + ((2 : Int32) * x56))), (0, .ref 294)]) (st' := [.ref 294]) rfl ?_
                refine Ev.getR D_201 (by decide +kernel) F_10_31 T_10_14 (x := 300) (S_oR k_294 (by decide +kernel)) ?_
                refine Ev.seg D_201 [(.iconst 4, 1), (.dup2, 1)] (by decide +kernel) (j := 0) (pc' := 182) (lv' := [(2, .int ((9 : Int32) + ((2 : Int32) * x56))), (0, .ref 294)]) (st' := [.int (4 : Int32), .ref 300, .int (4 : Int32), .ref 300]) rfl ?_
                obtain ⟨x66, e66, g37⟩ := bd g37
                refine Ev.iald D_201 (by decide +kernel) (S_aI k_300 e66) ?_
                refine Ev.seg D_201 [(.iconst 1, 1), (.iadd, 1)] (by decide +kernel) (j := 0) (pc' := 185) (lv' := [(2, .int ((9 : Int32) + ((2 : Int32) * x56))), (0, .ref 294)]) (st' := [.int (x66 + (1 : Int32)), .int (4 : Int32), .ref 300]) rfl ?_
                obtain ⟨s67, e67, g37⟩ := bd g37
                refine Ev.iast D_201 (by decide +kernel) (S_sI k_300 e67) ?_
                refine Ev.seg D_201 [(.goto 77, 3)] (by decide +kernel) (j := 0) (pc' := 263) (lv' := [(2, .int ((9 : Int32) + ((2 : Int32) * x56))), (0, .ref 294)]) (st' := []) rfl ?_
                cases g37
                exact Ev.sub2 j37 subL_nil
            · have c34 : p33 = 0 := Decidable.of_not_not (of_decide_eq_false c34)
              rw [if_pos c34] at h
              cases h
              obtain rfl : o = _ := ho
              exact Ev.vret D_201 (by decide +kernel)
          clear h
          refine Ev.if_ D_201 (c := .eq) (off := 19) (by decide +kernel) (t := 115) rfl (fun c28 => ?_) (fun c28 => ?_)
          · have c28 : p27 = 0 := of_decide_eq_true c28
            rw [if_pos c28] at g28
            cases g28
            exact Ev.sub2 j28 (subL_cons rfl subL_nil)
          · have c28 : ¬ p27 = 0 := of_decide_eq_false c28
            rw [if_neg c28] at g28
            refine Ev.seg D_201 [(.aload_n 0, 1)] (by decide +kernel) (j := 0) (pc' := 100) (lv' := [(0, .ref 294)]) (st' := [.ref 294]) rfl ?_
            refine Ev.getR D_201 (by decide +kernel) F_10_31 T_10_14 (x := 300) (S_oR k_294 (by decide +kernel)) ?_
            refine Ev.seg D_201 [(.bipush 6, 2)] (by decide +kernel) (j := 0) (pc' := 105) (lv' := [(0, .ref 294)]) (st' := [.int (6 : Int32), .ref 300]) rfl ?_
            obtain ⟨x30, e30, g28⟩ := bd g28
            refine Ev.iald D_201 (by decide +kernel) (S_aI k_300 e30) ?_
            refine Ev.seg D_201 [(.iconst 5, 1)] (by decide +kernel) (j := 0) (pc' := 107) (lv' := [(0, .ref 294)]) (st' := [.int (5 : Int32), .int x30]) rfl ?_
            refine Ev.icmp D_201 (c := .ne) (off := 8) (by decide +kernel) (t := 115) rfl (fun c31 => ?_) (fun c31 => ?_)
            · have c31 : ¬ x30 = (5 : Int32) := of_decide_eq_true c31
              rw [if_neg c31] at g28
              cases g28
              exact Ev.sub2 j28 (subL_cons rfl subL_nil)
            · have c31 : x30 = (5 : Int32) := Decidable.of_not_not (of_decide_eq_false c31)
              rw [if_pos c31] at g28
              refine Ev.seg D_201 [(.aload_n 0, 1), (.iconst 3, 1)] (by decide +kernel) (j := 0) (pc' := 112) (lv' := [(0, .ref 294)]) (st' := [.int (3 : Int32), .ref 294]) rfl ?_
              obtain ⟨p32, e32, g28⟩ := bd g28
              refine Ev.callv D_201 E_198 (by decide +kernel) C_10_167 294 [.int (3 : Int32)] (r := []) rfl (gd_o k_294 (by decide)) rfl (Nat.le_of_ble_eq_true rfl) (Nat.le_of_ble_eq_true rfl) (gM_errs_ok (by omega)  e32) ?_
              cases g28
              exact Ev.sub2 j28 (subL_cons rfl subL_nil)
        clear h
        refine Ev.if_ D_201 (c := .eq) (off := 18) (by decide +kernel) (t := 90) rfl (fun c21 => ?_) (fun c21 => ?_)
        · have c21 : p20 = 0 := of_decide_eq_true c21
          rw [if_pos c21] at g21
          cases g21
          exact Ev.sub2 j21 (subL_cons rfl subL_nil)
        · have c21 : ¬ p20 = 0 := of_decide_eq_false c21
          rw [if_neg c21] at g21
          refine Ev.seg D_201 [(.aload_n 0, 1)] (by decide +kernel) (j := 0) (pc' := 76) (lv' := [(0, .ref 294)]) (st' := [.ref 294]) rfl ?_
          refine Ev.getR D_201 (by decide +kernel) F_10_31 T_10_14 (x := 300) (S_oR k_294 (by decide +kernel)) ?_
          refine Ev.seg D_201 [(.iconst 5, 1)] (by decide +kernel) (j := 0) (pc' := 80) (lv' := [(0, .ref 294)]) (st' := [.int (5 : Int32), .ref 300]) rfl ?_
          obtain ⟨x23, e23, g21⟩ := bd g21
          refine Ev.iald D_201 (by decide +kernel) (S_aI k_300 e23) ?_
          refine Ev.seg D_201 [(.iconst 5, 1)] (by decide +kernel) (j := 0) (pc' := 82) (lv' := [(0, .ref 294)]) (st' := [.int (5 : Int32), .int x23]) rfl ?_
          refine Ev.icmp D_201 (c := .ne) (off := 8) (by decide +kernel) (t := 90) rfl (fun c24 => ?_) (fun c24 => ?_)
          · have c24 : ¬ x23 = (5 : Int32) := of_decide_eq_true c24
            rw [if_neg c24] at g21
            cases g21
            exact Ev.sub2 j21 (subL_cons rfl subL_nil)
          · have c24 : x23 = (5 : Int32) := Decidable.of_not_not (of_decide_eq_false c24)
            rw [if_pos c24] at g21
            refine Ev.seg D_201 [(.aload_n 0, 1), (.iconst 3, 1)] (by decide +kernel) (j := 0) (pc' := 87) (lv' := [(0, .ref 294)]) (st' := [.int (3 : Int32), .ref 294]) rfl ?_
            obtain ⟨p25, e25, g21⟩ := bd g21
            refine Ev.callv D_201 E_198 (by decide +kernel) C_10_167 294 [.int (3 : Int32)] (r := []) rfl (gd_o k_294 (by decide)) rfl (Nat.le_of_ble_eq_true rfl) (Nat.le_of_ble_eq_true rfl) (gM_errs_ok (by omega)  e25) ?_
            cases g21
            exact Ev.sub2 j21 (subL_cons rfl subL_nil)
      clear h
      refine Ev.if_ D_201 (c := .eq) (off := 18) (by decide +kernel) (t := 66) rfl (fun c14 => ?_) (fun c14 => ?_)
      · have c14 : p13 = 0 := of_decide_eq_true c14
        rw [if_pos c14] at g14
        cases g14
        exact Ev.sub2 j14 (subL_cons rfl subL_nil)
      · have c14 : ¬ p13 = 0 := of_decide_eq_false c14
        rw [if_neg c14] at g14
        refine Ev.seg D_201 [(.aload_n 0, 1)] (by decide +kernel) (j := 0) (pc' := 52) (lv' := [(0, .ref 294)]) (st' := [.ref 294]) rfl ?_
        refine Ev.getR D_201 (by decide +kernel) F_10_31 T_10_14 (x := 300) (S_oR k_294 (by decide +kernel)) ?_
        refine Ev.seg D_201 [(.iconst 4, 1)] (by decide +kernel) (j := 0) (pc' := 56) (lv' := [(0, .ref 294)]) (st' := [.int (4 : Int32), .ref 300]) rfl ?_
        obtain ⟨x16, e16, g14⟩ := bd g14
        refine Ev.iald D_201 (by decide +kernel) (S_aI k_300 e16) ?_
        refine Ev.seg D_201 [(.iconst 5, 1)] (by decide +kernel) (j := 0) (pc' := 58) (lv' := [(0, .ref 294)]) (st' := [.int (5 : Int32), .int x16]) rfl ?_
        refine Ev.icmp D_201 (c := .ne) (off := 8) (by decide +kernel) (t := 66) rfl (fun c17 => ?_) (fun c17 => ?_)
        · have c17 : ¬ x16 = (5 : Int32) := of_decide_eq_true c17
          rw [if_neg c17] at g14
          cases g14
          exact Ev.sub2 j14 (subL_cons rfl subL_nil)
        · have c17 : x16 = (5 : Int32) := Decidable.of_not_not (of_decide_eq_false c17)
          rw [if_pos c17] at g14
          refine Ev.seg D_201 [(.aload_n 0, 1), (.iconst 3, 1)] (by decide +kernel) (j := 0) (pc' := 63) (lv' := [(0, .ref 294)]) (st' := [.int (3 : Int32), .ref 294]) rfl ?_
          obtain ⟨p18, e18, g14⟩ := bd g14
          refine Ev.callv D_201 E_198 (by decide +kernel) C_10_167 294 [.int (3 : Int32)] (r := []) rfl (gd_o k_294 (by decide)) rfl (Nat.le_of_ble_eq_true rfl) (Nat.le_of_ble_eq_true rfl) (gM_errs_ok (by omega)  e18) ?_
          cases g14
          exact Ev.sub2 j14 (subL_cons rfl subL_nil)
    clear h
    refine Ev.if_ D_201 (c := .ne) (off := 8) (by decide +kernel) (t := 42) rfl (fun c10 => ?_) (fun c10 => ?_)
    · have c10 : ¬ x3 = 0 := of_decide_eq_true c10
      rw [if_neg c10] at g10
      cases g10
      exact Ev.sub2 j10 (subL_cons rfl subL_nil)
    · have c10 : x3 = 0 := Decidable.of_not_not (of_decide_eq_false c10)
      rw [if_pos c10] at g10
      refine Ev.seg D_201 [(.aload_n 0, 1), (.iconst 1, 1)] (by decide +kernel) (j := 0) (pc' := 39) (lv' := [(1, .int x3), (0, .ref 294)]) (st' := [.int (1 : Int32), .ref 294]) rfl ?_
      obtain ⟨p11, e11, g10⟩ := bd g10
      refine Ev.callv D_201 E_198 (by decide +kernel) C_10_167 294 [.int (1 : Int32)] (r := []) rfl (gd_o k_294 (by decide)) rfl (Nat.le_of_ble_eq_true rfl) (Nat.le_of_ble_eq_true rfl) (gM_errs_ok (by omega)  e11) ?_
      cases g10
      exact Ev.sub2 j10 (subL_cons rfl subL_nil)
  clear h
  refine Ev.if_ D_201 (c := .ne) (off := 21) (by decide +kernel) (t := 27) rfl (fun c3 => ?_) (fun c3 => ?_)
  · have c3 : ¬ p2 = 0 := of_decide_eq_true c3
    rw [if_neg c3] at g3
    refine Ev.seg D_201 [(.iconst 1, 1), (.goto 4, 3)] (by decide +kernel) (j := 0) (pc' := 32) (lv' := [(0, .ref 294)]) (st' := [.int (1 : Int32)]) rfl ?_
    cases g3
    exact Ev.sub2 j3 (subL_cons rfl subL_nil)
  · have c3 : p2 = 0 := Decidable.of_not_not (of_decide_eq_false c3)
    rw [if_pos c3] at g3
    refine Ev.seg D_201 [(.aload_n 0, 1)] (by decide +kernel) (j := 0) (pc' := 10) (lv' := [(0, .ref 294)]) (st' := [.ref 294]) rfl ?_
    refine Ev.ldc D_201 (i := 202) (by decide +kernel) (v := .ref (XB + 50)) (by decide +kernel) ?_
    obtain ⟨p5, e5, g3⟩ := bd g3
    refine Ev.callv D_201 E_197 (by decide +kernel) C_10_157 294 [.ref (XB + 50)] (r := []) rfl (gd_o k_294 (by decide)) rfl (Nat.le_of_ble_eq_true rfl) (Nat.le_of_ble_eq_true rfl) (gM_is_ok (by omega) (by decide) e5) ?_
    refine Ev.if_ D_201 (c := .ne) (off := 12) (by decide +kernel) (t := 27) rfl (fun c6 => ?_) (fun c6 => ?_)
    · have c6 : ¬ p5 = 0 := of_decide_eq_true c6
      rw [if_neg c6] at g3
      refine Ev.seg D_201 [(.iconst 1, 1), (.goto 4, 3)] (by decide +kernel) (j := 0) (pc' := 32) (lv' := [(0, .ref 294)]) (st' := [.int (1 : Int32)]) rfl ?_
      cases g3
      exact Ev.sub2 j3 (subL_cons rfl subL_nil)
    · have c6 : p5 = 0 := Decidable.of_not_not (of_decide_eq_false c6)
      rw [if_pos c6] at g3
      refine Ev.seg D_201 [(.aload_n 0, 1)] (by decide +kernel) (j := 0) (pc' := 19) (lv' := [(0, .ref 294)]) (st' := [.ref 294]) rfl ?_
      refine Ev.ldc D_201 (i := 204) (by decide +kernel) (v := .ref (XB + 52)) (by decide +kernel) ?_
      obtain ⟨p8, e8, g3⟩ := bd g3
      refine Ev.callv D_201 E_197 (by decide +kernel) C_10_157 294 [.ref (XB + 52)] (r := []) rfl (gd_o k_294 (by decide)) rfl (Nat.le_of_ble_eq_true rfl) (Nat.le_of_ble_eq_true rfl) (gM_is_ok (by omega) (by decide) e8) ?_
      refine Ev.if_ D_201 (c := .eq) (off := 7) (by decide +kernel) (t := 31) rfl (fun c9 => ?_) (fun c9 => ?_)
      · have c9 : p8 = 0 := of_decide_eq_true c9
        rw [if_pos c9] at g3
        refine Ev.seg D_201 [(.iconst 0, 1)] (by decide +kernel) (j := 0) (pc' := 32) (lv' := [(0, .ref 294)]) (st' := [.int (0 : Int32)]) rfl ?_
        cases g3
        exact Ev.sub2 j3 (subL_cons rfl subL_nil)
      · have c9 : ¬ p8 = 0 := of_decide_eq_false c9
        rw [if_neg c9] at g3
        refine Ev.seg D_201 [(.iconst 1, 1), (.goto 4, 3)] (by decide +kernel) (j := 0) (pc' := 32) (lv' := [(0, .ref 294)]) (st' := [.int (1 : Int32)]) rfl ?_
        cases g3
        exact Ev.sub2 j3 (subL_cons rfl subL_nil)
/- PennantLawnModel readLine: 193 -/
def gM_readLine (s : mT) : Option (mT) :=
  (rdI (s.1 300) 79 (8 : Int32)).bind fun x2 =>
  (
    if x2 = 0 then
      (gM_readFirst s).bind fun p5 =>
      some (p5)
    else
      (gM_readNext s).bind fun p4 =>
      some (p4) : Option (mT)).bind fun x3 =>
  (gM_good x3).bind fun p6 =>
  (
    if p6 = 0 then
      some (x3)
    else
      if (x3.1 294 10) = (3 : Int32) then
        some (x3)
      else
        (gM_errs (1 : Int32) x3).bind fun p10 =>
        some (p10) : Option (mT)).bind fun x7 =>
  (gM_good x7).bind fun p11 =>
  (
    if p11 = 0 then
      some (x7)
    else
      (gM_advance x7).bind fun p13 =>
      some (p13) : Option (mT)).bind fun x12 =>
  (rdI (x12.1 300) 79 (8 : Int32)).bind fun x15 =>
  (wrI x12 300 79 (8 : Int32) (x15 + (1 : Int32))).bind fun s16 =>
  some (s16)
set_option maxRecDepth 8000 in
theorem gM_readLine_ok {L d : Nat} (hd : 11 ≤ d) {s : mT} {p : mT} (h : gM_readLine s = some p) : Ev d 193 0 [(0, .ref 294)] [] (uS L s) (none, uS L p) := by
  obtain ⟨d, rfl⟩ : ∃ e, d = e + 1 := ⟨d - 1, by omega⟩
  obtain ⟨o, ho⟩ : ∃ o : Option Value × mS, o = (none, uS L p) := ⟨_, rfl⟩
  rw [← ho]
  unfold gM_readLine at h
  refine Ev.seg D_193 [(.aload_n 0, 1)] (by decide +kernel) (j := 0) (pc' := 1) (lv' := [(0, .ref 294)]) (st' := [.ref 294]) rfl ?_
  refine Ev.getR D_193 (by decide +kernel) F_10_31 T_10_14 (x := 300) (S_oR k_294 (by decide +kernel)) ?_
  refine Ev.seg D_193 [(.bipush 8, 2)] (by decide +kernel) (j := 0) (pc' := 6) (lv' := [(0, .ref 294)]) (st' := [.int (8 : Int32), .ref 300]) rfl ?_
  obtain ⟨x2, e2, h⟩ := bd h
  refine Ev.iald D_193 (by decide +kernel) (S_aI k_300 e2) ?_
  obtain ⟨x3, g3, h⟩ := bd h
  have j3 : Ev (d + 1) 193 21 [(0, .ref 294)] [] (uS L x3) o := by
    clear g3
    refine Ev.seg D_193 [(.aload_n 0, 1)] (by decide +kernel) (j := 0) (pc' := 22) (lv' := [(0, .ref 294)]) (st' := [.ref 294]) rfl ?_
    obtain ⟨p6, e6, h⟩ := bd h
    refine Ev.callv D_193 E_192 (by decide +kernel) C_10_145 294 [] (r := []) rfl (gd_o k_294 (by decide)) rfl (Nat.le_of_ble_eq_true rfl) (Nat.le_of_ble_eq_true rfl) (gM_good_ok (by omega)  e6) ?_
    obtain ⟨x7, g7, h⟩ := bd h
    have j7 : Ev (d + 1) 193 41 [(0, .ref 294)] [] (uS L x7) o := by
      clear g7
      refine Ev.seg D_193 [(.aload_n 0, 1)] (by decide +kernel) (j := 0) (pc' := 42) (lv' := [(0, .ref 294)]) (st' := [.ref 294]) rfl ?_
      obtain ⟨p11, e11, h⟩ := bd h
      refine Ev.callv D_193 E_192 (by decide +kernel) C_10_145 294 [] (r := []) rfl (gd_o k_294 (by decide)) rfl (Nat.le_of_ble_eq_true rfl) (Nat.le_of_ble_eq_true rfl) (gM_good_ok (by omega)  e11) ?_
      obtain ⟨x12, g12, h⟩ := bd h
      have j12 : Ev (d + 1) 193 52 [(0, .ref 294)] [] (uS L x12) o := by
        clear g12
        refine Ev.seg D_193 [(.aload_n 0, 1)] (by decide +kernel) (j := 0) (pc' := 53) (lv' := [(0, .ref 294)]) (st' := [.ref 294]) rfl ?_
        refine Ev.getR D_193 (by decide +kernel) F_10_31 T_10_14 (x := 300) (S_oR k_294 (by decide +kernel)) ?_
        refine Ev.seg D_193 [(.bipush 8, 2), (.dup2, 1)] (by decide +kernel) (j := 0) (pc' := 59) (lv' := [(0, .ref 294)]) (st' := [.int (8 : Int32), .ref 300, .int (8 : Int32), .ref 300]) rfl ?_
        obtain ⟨x15, e15, h⟩ := bd h
        refine Ev.iald D_193 (by decide +kernel) (S_aI k_300 e15) ?_
        refine Ev.seg D_193 [(.iconst 1, 1), (.iadd, 1)] (by decide +kernel) (j := 0) (pc' := 62) (lv' := [(0, .ref 294)]) (st' := [.int (x15 + (1 : Int32)), .int (8 : Int32), .ref 300]) rfl ?_
        obtain ⟨s16, e16, h⟩ := bd h
        refine Ev.iast D_193 (by decide +kernel) (S_sI k_300 e16) ?_
        cases h
        obtain rfl : o = _ := ho
        exact Ev.vret D_193 (by decide +kernel)
      clear h
      refine Ev.if_ D_193 (c := .eq) (off := 7) (by decide +kernel) (t := 52) rfl (fun c12 => ?_) (fun c12 => ?_)
      · have c12 : p11 = 0 := of_decide_eq_true c12
        rw [if_pos c12] at g12
        cases g12
        exact Ev.sub2 j12 (subL_cons rfl subL_nil)
      · have c12 : ¬ p11 = 0 := of_decide_eq_false c12
        rw [if_neg c12] at g12
        refine Ev.seg D_193 [(.aload_n 0, 1)] (by decide +kernel) (j := 0) (pc' := 49) (lv' := [(0, .ref 294)]) (st' := [.ref 294]) rfl ?_
        obtain ⟨p13, e13, g12⟩ := bd g12
        refine Ev.callv D_193 E_190 (by decide +kernel) C_10_161 294 [] (r := []) rfl (gd_o k_294 (by decide)) rfl (Nat.le_of_ble_eq_true rfl) (Nat.le_of_ble_eq_true rfl) (gM_advance_ok (by omega)  e13) ?_
        cases g12
        exact Ev.sub2 j12 (subL_cons rfl subL_nil)
    clear h
    refine Ev.if_ D_193 (c := .eq) (off := 16) (by decide +kernel) (t := 41) rfl (fun c7 => ?_) (fun c7 => ?_)
    · have c7 : p6 = 0 := of_decide_eq_true c7
      rw [if_pos c7] at g7
      cases g7
      exact Ev.sub2 j7 (subL_cons rfl subL_nil)
    · have c7 : ¬ p6 = 0 := of_decide_eq_false c7
      rw [if_neg c7] at g7
      refine Ev.seg D_193 [(.aload_n 0, 1)] (by decide +kernel) (j := 0) (pc' := 29) (lv' := [(0, .ref 294)]) (st' := [.ref 294]) rfl ?_
      refine Ev.getI D_193 (by decide +kernel) F_10_122 (Or.inl T_10_10) (S_oI k_294) ?_
      refine Ev.seg D_193 [(.iconst 3, 1)] (by decide +kernel) (j := 0) (pc' := 33) (lv' := [(0, .ref 294)]) (st' := [.int (3 : Int32), .int (x3.1 294 10)]) rfl ?_
      refine Ev.icmp D_193 (c := .eq) (off := 8) (by decide +kernel) (t := 41) rfl (fun c9 => ?_) (fun c9 => ?_)
      · have c9 : (x3.1 294 10) = (3 : Int32) := of_decide_eq_true c9
        rw [if_pos c9] at g7
        cases g7
        exact Ev.sub2 j7 (subL_cons rfl subL_nil)
      · have c9 : ¬ (x3.1 294 10) = (3 : Int32) := of_decide_eq_false c9
        rw [if_neg c9] at g7
        refine Ev.seg D_193 [(.aload_n 0, 1), (.iconst 1, 1)] (by decide +kernel) (j := 0) (pc' := 38) (lv' := [(0, .ref 294)]) (st' := [.int (1 : Int32), .ref 294]) rfl ?_
        obtain ⟨p10, e10, g7⟩ := bd g7
        refine Ev.callv D_193 E_198 (by decide +kernel) C_10_167 294 [.int (1 : Int32)] (r := []) rfl (gd_o k_294 (by decide)) rfl (Nat.le_of_ble_eq_true rfl) (Nat.le_of_ble_eq_true rfl) (gM_errs_ok (by omega)  e10) ?_
        cases g7
        exact Ev.sub2 j7 (subL_cons rfl subL_nil)
  clear h
  refine Ev.if_ D_193 (c := .ne) (off := 10) (by decide +kernel) (t := 17) rfl (fun c3 => ?_) (fun c3 => ?_)
  · have c3 : ¬ x2 = 0 := of_decide_eq_true c3
    rw [if_neg c3] at g3
    refine Ev.seg D_193 [(.aload_n 0, 1)] (by decide +kernel) (j := 0) (pc' := 18) (lv' := [(0, .ref 294)]) (st' := [.ref 294]) rfl ?_
    obtain ⟨p4, e4, g3⟩ := bd g3
    refine Ev.callv D_193 E_201 (by decide +kernel) C_10_214 294 [] (r := []) rfl (gd_o k_294 (by decide)) rfl (Nat.le_of_ble_eq_true rfl) (Nat.le_of_ble_eq_true rfl) (gM_readNext_ok (by omega)  e4) ?_
    cases g3
    exact Ev.sub2 j3 (subL_cons rfl subL_nil)
  · have c3 : x2 = 0 := Decidable.of_not_not (of_decide_eq_false c3)
    rw [if_pos c3] at g3
    refine Ev.seg D_193 [(.aload_n 0, 1)] (by decide +kernel) (j := 0) (pc' := 11) (lv' := [(0, .ref 294)]) (st' := [.ref 294]) rfl ?_
    obtain ⟨p5, e5, g3⟩ := bd g3
    refine Ev.callv D_193 E_194 (by decide +kernel) C_10_211 294 [] (r := []) rfl (gd_o k_294 (by decide)) rfl (Nat.le_of_ble_eq_true rfl) (Nat.le_of_ble_eq_true rfl) (gM_readFirst_ok (by omega)  e5) ?_
    refine Ev.seg D_193 [(.goto 7, 3)] (by decide +kernel) (j := 0) (pc' := 21) (lv' := [(0, .ref 294)]) (st' := []) rfl ?_
    cases g3
    exact Ev.sub2 j3 (subL_cons rfl subL_nil)
/- PennantLawnModel race: 189 -/
def gM_race_h30  (q : Int32 × mT) : Option ((Int32 × mT) ⊕ (mT)) :=
  if (79 : Int32) ≤ q.1 then
    some (.inr q.2)
  else
    (wrI q.2 300 79 q.1 (0 : Int32)).bind fun s3 =>
    some (.inl (q.1 + (1 : Int32), s3))
set_option maxRecDepth 8000 in
theorem gM_race_h30_ok {L d : Nat} (hd : 12 ≤ d + 1)  : ∀ (q : Int32 × mT) (x : (Int32 × mT) ⊕ (mT)), gM_race_h30 q = some x → ∀ o, sK (fun q => Ev (d + 1) 189 30 [(0, .ref 294), (1, .int q.1)] [] (uS L q.2) o) (fun r => Ev (d + 1) 189 49 [(0, .ref 294)] [] (uS L r) o) x → Ev (d + 1) 189 30 [(0, .ref 294), (1, .int q.1)] [] (uS L q.2) o := by
  intro q x h o ho
  unfold gM_race_h30 at h
  refine Ev.seg D_189 [(.iload_n 1, 1), (.bipush 79, 2)] (by decide +kernel) (j := 0) (pc' := 33) (lv' := [(0, .ref 294), (1, .int q.1)]) (st' := [.int (79 : Int32), .int q.1]) rfl ?_
  refine Ev.icmp D_189 (c := .ge) (off := 16) (by decide +kernel) (t := 49) rfl (fun c1 => ?_) (fun c1 => ?_)
  · have c1 : (79 : Int32) ≤ q.1 := of_decide_eq_true c1
    rw [if_pos c1] at h
    cases h
    exact Ev.sub (lv' := [(0, .ref 294)]) (subL_cons rfl subL_nil) ho
  · have c1 : ¬ (79 : Int32) ≤ q.1 := of_decide_eq_false c1
    rw [if_neg c1] at h
    refine Ev.seg D_189 [(.aload_n 0, 1)] (by decide +kernel) (j := 0) (pc' := 37) (lv' := [(0, .ref 294), (1, .int q.1)]) (st' := [.ref 294]) rfl ?_
    refine Ev.getR D_189 (by decide +kernel) F_10_31 T_10_14 (x := 300) (S_oR k_294 (by decide +kernel)) ?_
    refine Ev.seg D_189 [(.iload_n 1, 1), (.iconst 0, 1)] (by decide +kernel) (j := 0) (pc' := 42) (lv' := [(0, .ref 294), (1, .int q.1)]) (st' := [.int (0 : Int32), .int q.1, .ref 300]) rfl ?_
    obtain ⟨s3, e3, h⟩ := bd h
    refine Ev.iast D_189 (by decide +kernel) (S_sI k_300 e3) ?_
    refine Ev.seg D_189 [(.iinc 1 1, 3), (.goto (-16), 3)] (by decide +kernel) (j := 0) (pc' := 30) (lv' := [(1, .int (q.1 + (1 : Int32))), (0, .ref 294)]) (st' := []) rfl ?_
    cases h
    exact Ev.sub (lv' := [(0, .ref 294), (1, .int (q.1 + (1 : Int32)))]) (subL_cons rfl (subL_cons rfl subL_nil)) ho
theorem gM_race_h30_w {L d : Nat} (hd : 12 ≤ d + 1)  : ∀ (n : Nat) (q : Int32 × mT) (r : mT), wh n (gM_race_h30) q = some r → ∀ o, (fun r => Ev (d + 1) 189 49 [(0, .ref 294)] [] (uS L r) o) r → Ev (d + 1) 189 30 [(0, .ref 294), (1, .int q.1)] [] (uS L q.2) o :=
  fun n q r h o hc => wh_ev (E := fun (q : Int32 × mT) o => Ev (d + 1) 189 30 [(0, .ref 294), (1, .int q.1)] [] (uS L q.2) o) (C := fun (r : mT) o => (fun r => Ev (d + 1) 189 49 [(0, .ref 294)] [] (uS L r) o) r) (gM_race_h30_ok hd  ) n q r h o hc
def gM_race_h53  (q : mT) : Option ((mT) ⊕ (mT)) :=
  (gM_good q).bind fun p1 =>
  if p1 = 0 then
    some (.inr q)
  else
    if (q.1 294 10) = 0 then
      some (.inr q)
    else
      (gM_readLine q).bind fun p5 =>
      some (.inl p5)
set_option maxRecDepth 8000 in
theorem gM_race_h53_ok {L d : Nat} (hd : 12 ≤ d + 1)  : ∀ (q : mT) (x : (mT) ⊕ (mT)), gM_race_h53 q = some x → ∀ o, sK (fun q => Ev (d + 1) 189 53 [(0, .ref 294)] [] (uS L q) o) (fun r => Ev (d + 1) 189 74 [(0, .ref 294)] [] (uS L r) o) x → Ev (d + 1) 189 53 [(0, .ref 294)] [] (uS L q) o := by
  intro q x h o ho
  unfold gM_race_h53 at h
  refine Ev.seg D_189 [(.aload_n 0, 1)] (by decide +kernel) (j := 0) (pc' := 54) (lv' := [(0, .ref 294)]) (st' := [.ref 294]) rfl ?_
  obtain ⟨p1, e1, h⟩ := bd h
  refine Ev.callv D_189 E_192 (by decide +kernel) C_10_145 294 [] (r := []) rfl (gd_o k_294 (by decide)) rfl (Nat.le_of_ble_eq_true rfl) (Nat.le_of_ble_eq_true rfl) (gM_good_ok (by omega)  e1) ?_
  refine Ev.if_ D_189 (c := .eq) (off := 17) (by decide +kernel) (t := 74) rfl (fun c2 => ?_) (fun c2 => ?_)
  · have c2 : p1 = 0 := of_decide_eq_true c2
    rw [if_pos c2] at h
    cases h
    exact Ev.sub (lv' := [(0, .ref 294)]) (subL_cons rfl subL_nil) ho
  · have c2 : ¬ p1 = 0 := of_decide_eq_false c2
    rw [if_neg c2] at h
    refine Ev.seg D_189 [(.aload_n 0, 1)] (by decide +kernel) (j := 0) (pc' := 61) (lv' := [(0, .ref 294)]) (st' := [.ref 294]) rfl ?_
    refine Ev.getI D_189 (by decide +kernel) F_10_122 (Or.inl T_10_10) (S_oI k_294) ?_
    refine Ev.if_ D_189 (c := .eq) (off := 10) (by decide +kernel) (t := 74) rfl (fun c4 => ?_) (fun c4 => ?_)
    · have c4 : (q.1 294 10) = 0 := of_decide_eq_true c4
      rw [if_pos c4] at h
      cases h
      exact Ev.sub (lv' := [(0, .ref 294)]) (subL_cons rfl subL_nil) ho
    · have c4 : ¬ (q.1 294 10) = 0 := of_decide_eq_false c4
      rw [if_neg c4] at h
      refine Ev.seg D_189 [(.aload_n 0, 1)] (by decide +kernel) (j := 0) (pc' := 68) (lv' := [(0, .ref 294)]) (st' := [.ref 294]) rfl ?_
      obtain ⟨p5, e5, h⟩ := bd h
      refine Ev.callv D_189 E_193 (by decide +kernel) C_10_217 294 [] (r := []) rfl (gd_o k_294 (by decide)) rfl (Nat.le_of_ble_eq_true rfl) (Nat.le_of_ble_eq_true rfl) (gM_readLine_ok (by omega)  e5) ?_
      refine Ev.seg D_189 [(.goto (-18), 3)] (by decide +kernel) (j := 0) (pc' := 53) (lv' := [(0, .ref 294)]) (st' := []) rfl ?_
      cases h
      exact Ev.sub (lv' := [(0, .ref 294)]) (subL_cons rfl subL_nil) ho
theorem gM_race_h53_w {L d : Nat} (hd : 12 ≤ d + 1)  : ∀ (n : Nat) (q : mT) (r : mT), wh n (gM_race_h53) q = some r → ∀ o, (fun r => Ev (d + 1) 189 74 [(0, .ref 294)] [] (uS L r) o) r → Ev (d + 1) 189 53 [(0, .ref 294)] [] (uS L q) o :=
  fun n q r h o hc => wh_ev (E := fun (q : mT) o => Ev (d + 1) 189 53 [(0, .ref 294)] [] (uS L q) o) (C := fun (r : mT) o => (fun r => Ev (d + 1) 189 74 [(0, .ref 294)] [] (uS L r) o) r) (gM_race_h53_ok hd  ) n q r h o hc
def gM_race_h86  (q : Int32 × mT) : Option ((Int32 × mT) ⊕ (mT)) :=
  if (79 : Int32) ≤ q.1 then
    some (.inr q.2)
  else
    (rdI (q.2.1 300) 79 q.1).bind fun x4 =>
    (wrI q.2 295 79 q.1 x4).bind fun s5 =>
    some (.inl (q.1 + (1 : Int32), s5))
set_option maxRecDepth 8000 in
theorem gM_race_h86_ok {L d : Nat} (hd : 12 ≤ d + 1)  : ∀ (q : Int32 × mT) (x : (Int32 × mT) ⊕ (mT)), gM_race_h86 q = some x → ∀ o, sK (fun q => Ev (d + 1) 189 86 [(0, .ref 294), (1, .int q.1)] [] (uS L q.2) o) (fun r => Ev (d + 1) 189 110 [(0, .ref 294)] [] (uS L r) o) x → Ev (d + 1) 189 86 [(0, .ref 294), (1, .int q.1)] [] (uS L q.2) o := by
  intro q x h o ho
  unfold gM_race_h86 at h
  refine Ev.seg D_189 [(.iload_n 1, 1), (.bipush 79, 2)] (by decide +kernel) (j := 0) (pc' := 89) (lv' := [(0, .ref 294), (1, .int q.1)]) (st' := [.int (79 : Int32), .int q.1]) rfl ?_
  refine Ev.icmp D_189 (c := .ge) (off := 21) (by decide +kernel) (t := 110) rfl (fun c1 => ?_) (fun c1 => ?_)
  · have c1 : (79 : Int32) ≤ q.1 := of_decide_eq_true c1
    rw [if_pos c1] at h
    cases h
    exact Ev.sub (lv' := [(0, .ref 294)]) (subL_cons rfl subL_nil) ho
  · have c1 : ¬ (79 : Int32) ≤ q.1 := of_decide_eq_false c1
    rw [if_neg c1] at h
    refine Ev.seg D_189 [(.aload_n 0, 1)] (by decide +kernel) (j := 0) (pc' := 93) (lv' := [(0, .ref 294), (1, .int q.1)]) (st' := [.ref 294]) rfl ?_
    refine Ev.getR D_189 (by decide +kernel) F_10_9 T_10_1 (x := 295) (S_oR k_294 (by decide +kernel)) ?_
    refine Ev.seg D_189 [(.iload_n 1, 1), (.aload_n 0, 1)] (by decide +kernel) (j := 0) (pc' := 98) (lv' := [(0, .ref 294), (1, .int q.1)]) (st' := [.ref 294, .int q.1, .ref 295]) rfl ?_
    refine Ev.getR D_189 (by decide +kernel) F_10_31 T_10_14 (x := 300) (S_oR k_294 (by decide +kernel)) ?_
    refine Ev.seg D_189 [(.iload_n 1, 1)] (by decide +kernel) (j := 0) (pc' := 102) (lv' := [(0, .ref 294), (1, .int q.1)]) (st' := [.int q.1, .ref 300, .int q.1, .ref 295]) rfl ?_
    obtain ⟨x4, e4, h⟩ := bd h
    refine Ev.iald D_189 (by decide +kernel) (S_aI k_300 e4) ?_
    obtain ⟨s5, e5, h⟩ := bd h
    refine Ev.iast D_189 (by decide +kernel) (S_sI k_295 e5) ?_
    refine Ev.seg D_189 [(.iinc 1 1, 3), (.goto (-21), 3)] (by decide +kernel) (j := 0) (pc' := 86) (lv' := [(1, .int (q.1 + (1 : Int32))), (0, .ref 294)]) (st' := []) rfl ?_
    cases h
    exact Ev.sub (lv' := [(0, .ref 294), (1, .int (q.1 + (1 : Int32)))]) (subL_cons rfl (subL_cons rfl subL_nil)) ho
theorem gM_race_h86_w {L d : Nat} (hd : 12 ≤ d + 1)  : ∀ (n : Nat) (q : Int32 × mT) (r : mT), wh n (gM_race_h86) q = some r → ∀ o, (fun r => Ev (d + 1) 189 110 [(0, .ref 294)] [] (uS L r) o) r → Ev (d + 1) 189 86 [(0, .ref 294), (1, .int q.1)] [] (uS L q.2) o :=
  fun n q r h o hc => wh_ev (E := fun (q : Int32 × mT) o => Ev (d + 1) 189 86 [(0, .ref 294), (1, .int q.1)] [] (uS L q.2) o) (C := fun (r : mT) o => (fun r => Ev (d + 1) 189 110 [(0, .ref 294)] [] (uS L r) o) r) (gM_race_h86_ok hd  ) n q r h o hc
def gM_race (s : mT) : Option (Int32 × mT) :=
  (some (stI (stI (stI s 294 7 (s.1 294 5)) 294 5 (0 : Int32)) 294 8 (0 : Int32))).bind fun s4 =>
  (wh FU (gM_race_h30) ((0 : Int32), (stI (stI s4 294 12 (0 : Int32)) 294 13 (-1 : Int32)))).bind fun x7 =>
  (gM_advance x7).bind fun p8 =>
  (wh FU (gM_race_h53) p8).bind fun x9 =>
  (gM_good x9).bind fun p10 =>
  if p10 = 0 then
    some (((-4 : Int32), x9))
  else
    (wh FU (gM_race_h86) ((0 : Int32), x9)).bind fun x12 =>
    (rdI (x12.1 295) 79 (8 : Int32)).bind fun x14 =>
    some ((x14, x12))
set_option maxRecDepth 8000 in
theorem gM_race_ok {L d : Nat} (hd : 12 ≤ d) {s : mT} {p : Int32 × mT} (h : gM_race s = some p) : Ev d 189 0 [(0, .ref 294)] [] (uS L s) (some (.int p.1), uS L p.2) := by
  obtain ⟨d, rfl⟩ : ∃ e, d = e + 1 := ⟨d - 1, by omega⟩
  obtain ⟨o, ho⟩ : ∃ o : Option Value × mS, o = (some (.int p.1), uS L p.2) := ⟨_, rfl⟩
  rw [← ho]
  unfold gM_race at h
  refine Ev.seg D_189 [(.aload_n 0, 1), (.aload_n 0, 1)] (by decide +kernel) (j := 0) (pc' := 2) (lv' := [(0, .ref 294)]) (st' := [.ref 294, .ref 294]) rfl ?_
  refine Ev.getI D_189 (by decide +kernel) F_10_106 (Or.inl T_10_5) (S_oI k_294) ?_
  refine Ev.putI D_189 (by decide +kernel) F_10_109 N_10_7 T_10_7 (S_pI k_294) ?_
  refine Ev.seg D_189 [(.aload_n 0, 1), (.iconst 0, 1)] (by decide +kernel) (j := 0) (pc' := 10) (lv' := [(0, .ref 294)]) (st' := [.int (0 : Int32), .ref 294]) rfl ?_
  refine Ev.putI D_189 (by decide +kernel) F_10_106 N_10_5 T_10_5 (S_pI k_294) ?_
  refine Ev.seg D_189 [(.aload_n 0, 1), (.iconst 0, 1)] (by decide +kernel) (j := 0) (pc' := 15) (lv' := [(0, .ref 294)]) (st' := [.int (0 : Int32), .ref 294]) rfl ?_
  obtain ⟨s4, e4, h⟩ := bd h
  refine Ev.putI D_189 (by decide +kernel) F_10_112 N_10_8 T_10_8 (S_pIb k_294 e4) ?_
  refine Ev.seg D_189 [(.aload_n 0, 1), (.iconst 0, 1)] (by decide +kernel) (j := 0) (pc' := 20) (lv' := [(0, .ref 294)]) (st' := [.int (0 : Int32), .ref 294]) rfl ?_
  refine Ev.putI D_189 (by decide +kernel) F_10_142 N_10_12 T_10_12 (S_pI k_294) ?_
  refine Ev.seg D_189 [(.aload_n 0, 1), (.iconst (-1), 1)] (by decide +kernel) (j := 0) (pc' := 25) (lv' := [(0, .ref 294)]) (st' := [.int (-1 : Int32), .ref 294]) rfl ?_
  refine Ev.putI D_189 (by decide +kernel) F_10_27 N_10_13 T_10_13 (S_pI k_294) ?_
  refine Ev.seg D_189 [(.iconst 0, 1), (.istore_n 1, 1)] (by decide +kernel) (j := 0) (pc' := 30) (lv' := [(1, .int (0 : Int32)), (0, .ref 294)]) (st' := []) rfl ?_
  obtain ⟨x7, w7, h⟩ := bd h
  have j7 : Ev (d + 1) 189 49 [(0, .ref 294)] [] (uS L x7) o := by
    clear w7
    refine Ev.seg D_189 [(.aload_n 0, 1)] (by decide +kernel) (j := 0) (pc' := 50) (lv' := [(0, .ref 294)]) (st' := [.ref 294]) rfl ?_
    obtain ⟨p8, e8, h⟩ := bd h
    refine Ev.callv D_189 E_190 (by decide +kernel) C_10_161 294 [] (r := []) rfl (gd_o k_294 (by decide)) rfl (Nat.le_of_ble_eq_true rfl) (Nat.le_of_ble_eq_true rfl) (gM_advance_ok (by omega)  e8) ?_
    obtain ⟨x9, w9, h⟩ := bd h
    have j9 : Ev (d + 1) 189 74 [(0, .ref 294)] [] (uS L x9) o := by
      clear w9
      refine Ev.seg D_189 [(.aload_n 0, 1)] (by decide +kernel) (j := 0) (pc' := 75) (lv' := [(0, .ref 294)]) (st' := [.ref 294]) rfl ?_
      obtain ⟨p10, e10, h⟩ := bd h
      refine Ev.callv D_189 E_192 (by decide +kernel) C_10_145 294 [] (r := []) rfl (gd_o k_294 (by decide)) rfl (Nat.le_of_ble_eq_true rfl) (Nat.le_of_ble_eq_true rfl) (gM_good_ok (by omega)  e10) ?_
      refine Ev.if_ D_189 (c := .ne) (off := 6) (by decide +kernel) (t := 84) rfl (fun c11 => ?_) (fun c11 => ?_)
      · have c11 : ¬ p10 = 0 := of_decide_eq_true c11
        rw [if_neg c11] at h
        refine Ev.seg D_189 [(.iconst 0, 1), (.istore_n 1, 1)] (by decide +kernel) (j := 0) (pc' := 86) (lv' := [(1, .int (0 : Int32)), (0, .ref 294)]) (st' := []) rfl ?_
        obtain ⟨x12, w12, h⟩ := bd h
        have j12 : Ev (d + 1) 189 110 [(0, .ref 294)] [] (uS L x12) o := by
          clear w12
          refine Ev.seg D_189 [(.aload_n 0, 1)] (by decide +kernel) (j := 0) (pc' := 111) (lv' := [(0, .ref 294)]) (st' := [.ref 294]) rfl ?_
          refine Ev.getR D_189 (by decide +kernel) F_10_9 T_10_1 (x := 295) (S_oR k_294 (by decide +kernel)) ?_
          refine Ev.seg D_189 [(.bipush 8, 2)] (by decide +kernel) (j := 0) (pc' := 116) (lv' := [(0, .ref 294)]) (st' := [.int (8 : Int32), .ref 295]) rfl ?_
          obtain ⟨x14, e14, h⟩ := bd h
          refine Ev.iald D_189 (by decide +kernel) (S_aI k_295 e14) ?_
          cases h
          obtain rfl : o = _ := ho
          exact Ev.iret D_189 (by decide +kernel)
        exact Ev.sub (lv' := [(0, .ref 294), (1, .int (0 : Int32))]) (subL_cons rfl (subL_cons rfl subL_nil)) (gM_race_h86_w hd   _ _ _ w12 _ j12)
      · have c11 : p10 = 0 := Decidable.of_not_not (of_decide_eq_false c11)
        rw [if_pos c11] at h
        refine Ev.seg D_189 [(.bipush (-4), 2)] (by decide +kernel) (j := 0) (pc' := 83) (lv' := [(0, .ref 294)]) (st' := [.int (-4 : Int32)]) rfl ?_
        cases h
        obtain rfl : o = _ := ho
        exact Ev.iret D_189 (by decide +kernel)
    exact Ev.sub (lv' := [(0, .ref 294)]) (subL_cons rfl subL_nil) (gM_race_h53_w hd   _ _ _ w9 _ j9)
  exact Ev.sub (lv' := [(0, .ref 294), (1, .int (0 : Int32))]) (subL_cons rfl (subL_cons rfl subL_nil)) (gM_race_h30_w hd   _ _ _ w7 _ j7)
/- PennantLawnModel isBoat: 204 -/
def gM_isBoat (v1 : Int64) (s : mT) : Option (Int32) :=
  (rdI (s.1 295) 79 (4 : Int32)).bind fun x2 =>
  (gM_in v1 (0 : Int64) ((x2 - (1 : Int32)).toInt64) s).bind fun p3 =>
  if p3 = 0 ∨ p3 = 1 then some (p3) else none
set_option maxRecDepth 8000 in
theorem gM_isBoat_ok {L d : Nat} (hd : 2 ≤ d) {v1 : Int64} {s : mT} {p : Int32} (h : gM_isBoat v1 s = some p) : Ev d 204 0 [(0, .ref 294), (1, .long v1)] [] (uS L s) (some (.int p), uS L s) := by
  obtain ⟨d, rfl⟩ : ∃ e, d = e + 1 := ⟨d - 1, by omega⟩
  obtain ⟨o, ho⟩ : ∃ o : Option Value × mS, o = (some (.int p), uS L s) := ⟨_, rfl⟩
  rw [← ho]
  unfold gM_isBoat at h
  refine Ev.seg D_204 [(.lload_n 1, 1), (.lconst 0, 1), (.aload_n 0, 1)] (by decide +kernel) (j := 0) (pc' := 3) (lv' := [(0, .ref 294), (1, .long v1)]) (st' := [.ref 294, .long (0 : Int64), .long v1]) rfl ?_
  refine Ev.getR D_204 (by decide +kernel) F_10_9 T_10_1 (x := 295) (S_oR k_294 (by decide +kernel)) ?_
  refine Ev.seg D_204 [(.iconst 4, 1)] (by decide +kernel) (j := 0) (pc' := 7) (lv' := [(0, .ref 294), (1, .long v1)]) (st' := [.int (4 : Int32), .ref 295, .long (0 : Int64), .long v1]) rfl ?_
  obtain ⟨x2, e2, h⟩ := bd h
  refine Ev.iald D_204 (by decide +kernel) (S_aI k_295 e2) ?_
  refine Ev.seg D_204 [(.iconst 1, 1), (.isub, 1), (.i2l, 1)] (by decide +kernel) (j := 0) (pc' := 11) (lv' := [(0, .ref 294), (1, .long v1)]) (st' := [.long ((x2 - (1 : Int32)).toInt64), .long (0 : Int64), .long v1]) rfl ?_
  obtain ⟨p3, e3, h⟩ := bd h
  refine Ev.calls D_204 E_184 (by decide +kernel) C_10_88 [.long v1, .long (0 : Int64), .long ((x2 - (1 : Int32)).toInt64)] (r := []) rfl rfl (Nat.le_of_ble_eq_true rfl) (Nat.le_of_ble_eq_true rfl) (gM_in_ok (by omega)  e3) ?_
  by_cases c4 : p3 = 0 ∨ p3 = 1
  · rw [if_pos c4] at h
    cases h
    obtain rfl : o = _ := ho
    exact Ev.zret D_204 c4 (by decide +kernel)
  · rw [if_neg c4] at h; cases h
/- PennantLawnModel boat: 203 -/
def gM_boat (v1 : Int32) (v2 : Int32) (s : mT) : Option (Int32) :=
  (gM_isBoat v1.toInt64 s).bind fun p1 =>
  (
    if p1 = 0 then
      some ((-2 : Int32))
    else
      (gM_in v2.toInt64 (0 : Int64) (1 : Int64) s).bind fun p3 =>
      if p3 = 0 then
        some ((-2 : Int32))
      else
        (rdI (s.1 295) 79 (((9 : Int32) + ((2 : Int32) * v1)) + v2)).bind fun x6 =>
        some (x6) : Option (Int32)).bind fun x2 =>
  some (x2)
set_option maxRecDepth 8000 in
theorem gM_boat_ok {L d : Nat} (hd : 3 ≤ d) {v1 : Int32} {v2 : Int32} {s : mT} {p : Int32} (h : gM_boat v1 v2 s = some p) : Ev d 203 0 [(0, .ref 294), (1, .int v1), (2, .int v2)] [] (uS L s) (some (.int p), uS L s) := by
  obtain ⟨d, rfl⟩ : ∃ e, d = e + 1 := ⟨d - 1, by omega⟩
  obtain ⟨o, ho⟩ : ∃ o : Option Value × mS, o = (some (.int p), uS L s) := ⟨_, rfl⟩
  rw [← ho]
  unfold gM_boat at h
  refine Ev.seg D_203 [(.aload_n 0, 1), (.iload_n 1, 1), (.i2l, 1)] (by decide +kernel) (j := 0) (pc' := 3) (lv' := [(0, .ref 294), (1, .int v1), (2, .int v2)]) (st' := [.long v1.toInt64, .ref 294]) rfl ?_
  obtain ⟨p1, e1, h⟩ := bd h
  refine Ev.callv D_203 E_204 (by decide +kernel) C_10_220 294 [.long v1.toInt64] (r := []) rfl (gd_o k_294 (by decide)) rfl (Nat.le_of_ble_eq_true rfl) (Nat.le_of_ble_eq_true rfl) (gM_isBoat_ok (by omega)  e1) ?_
  obtain ⟨x2, g2, h⟩ := bd h
  have j2 : Ev (d + 1) 203 37 [] [.int x2] (uS L s) o := by
    clear g2
    cases h
    obtain rfl : o = _ := ho
    exact Ev.iret D_203 (by decide +kernel)
  clear h
  refine Ev.if_ D_203 (c := .eq) (off := 29) (by decide +kernel) (t := 35) rfl (fun c2 => ?_) (fun c2 => ?_)
  · have c2 : p1 = 0 := of_decide_eq_true c2
    rw [if_pos c2] at g2
    refine Ev.seg D_203 [(.bipush (-2), 2)] (by decide +kernel) (j := 0) (pc' := 37) (lv' := [(0, .ref 294), (1, .int v1), (2, .int v2)]) (st' := [.int (-2 : Int32)]) rfl ?_
    cases g2
    exact Ev.sub2 j2 subL_nil
  · have c2 : ¬ p1 = 0 := of_decide_eq_false c2
    rw [if_neg c2] at g2
    refine Ev.seg D_203 [(.iload_n 2, 1), (.i2l, 1), (.lconst 0, 1), (.lconst 1, 1)] (by decide +kernel) (j := 0) (pc' := 13) (lv' := [(0, .ref 294), (1, .int v1), (2, .int v2)]) (st' := [.long (1 : Int64), .long (0 : Int64), .long v2.toInt64]) rfl ?_
    obtain ⟨p3, e3, g2⟩ := bd g2
    refine Ev.calls D_203 E_184 (by decide +kernel) C_10_88 [.long v2.toInt64, .long (0 : Int64), .long (1 : Int64)] (r := []) rfl rfl (Nat.le_of_ble_eq_true rfl) (Nat.le_of_ble_eq_true rfl) (gM_in_ok (by omega)  e3) ?_
    refine Ev.if_ D_203 (c := .eq) (off := 19) (by decide +kernel) (t := 35) rfl (fun c4 => ?_) (fun c4 => ?_)
    · have c4 : p3 = 0 := of_decide_eq_true c4
      rw [if_pos c4] at g2
      refine Ev.seg D_203 [(.bipush (-2), 2)] (by decide +kernel) (j := 0) (pc' := 37) (lv' := [(0, .ref 294), (1, .int v1), (2, .int v2)]) (st' := [.int (-2 : Int32)]) rfl ?_
      cases g2
      exact Ev.sub2 j2 subL_nil
    · have c4 : ¬ p3 = 0 := of_decide_eq_false c4
      rw [if_neg c4] at g2
      refine Ev.seg D_203 [(.aload_n 0, 1)] (by decide +kernel) (j := 0) (pc' := 20) (lv' := [(0, .ref 294), (1, .int v1), (2, .int v2)]) (st' := [.ref 294]) rfl ?_
      refine Ev.getR D_203 (by decide +kernel) F_10_9 T_10_1 (x := 295) (S_oR k_294 (by decide +kernel)) ?_
      refine Ev.seg D_203 [(.bipush 9, 2), (.iconst 2, 1), (.iload_n 1, 1), (.imul, 1), (.iadd, 1), (.iload_n 2, 1), (.iadd, 1)] (by decide +kernel) (j := 0) (pc' := 31) (lv' := [(0, .ref 294), (1, .int v1), (2, .int v2)]) (st' := [.int (((9 : Int32) + ((2 : Int32) * v1)) + v2), .ref 295]) rfl ?_
      obtain ⟨x6, e6, g2⟩ := bd g2
      refine Ev.iald D_203 (by decide +kernel) (S_aI k_295 e6) ?_
      refine Ev.seg D_203 [(.goto 5, 3)] (by decide +kernel) (j := 0) (pc' := 37) (lv' := [(0, .ref 294), (1, .int v1), (2, .int v2)]) (st' := [.int x6]) rfl ?_
      cases g2
      exact Ev.sub2 j2 subL_nil
/- PennantLawnModel isWatcher: 206 -/
def gM_isWatcher (v1 : Int32) (s : mT) : Option (Int32) :=
  (rdI (s.1 295) 79 (5 : Int32)).bind fun x2 =>
  (gM_in v1.toInt64 (0 : Int64) ((x2 - (1 : Int32)).toInt64) s).bind fun p3 =>
  if p3 = 0 ∨ p3 = 1 then some (p3) else none
set_option maxRecDepth 8000 in
theorem gM_isWatcher_ok {L d : Nat} (hd : 2 ≤ d) {v1 : Int32} {s : mT} {p : Int32} (h : gM_isWatcher v1 s = some p) : Ev d 206 0 [(0, .ref 294), (1, .int v1)] [] (uS L s) (some (.int p), uS L s) := by
  obtain ⟨d, rfl⟩ : ∃ e, d = e + 1 := ⟨d - 1, by omega⟩
  obtain ⟨o, ho⟩ : ∃ o : Option Value × mS, o = (some (.int p), uS L s) := ⟨_, rfl⟩
  rw [← ho]
  unfold gM_isWatcher at h
  refine Ev.seg D_206 [(.iload_n 1, 1), (.i2l, 1), (.lconst 0, 1), (.aload_n 0, 1)] (by decide +kernel) (j := 0) (pc' := 4) (lv' := [(0, .ref 294), (1, .int v1)]) (st' := [.ref 294, .long (0 : Int64), .long v1.toInt64]) rfl ?_
  refine Ev.getR D_206 (by decide +kernel) F_10_9 T_10_1 (x := 295) (S_oR k_294 (by decide +kernel)) ?_
  refine Ev.seg D_206 [(.iconst 5, 1)] (by decide +kernel) (j := 0) (pc' := 8) (lv' := [(0, .ref 294), (1, .int v1)]) (st' := [.int (5 : Int32), .ref 295, .long (0 : Int64), .long v1.toInt64]) rfl ?_
  obtain ⟨x2, e2, h⟩ := bd h
  refine Ev.iald D_206 (by decide +kernel) (S_aI k_295 e2) ?_
  refine Ev.seg D_206 [(.iconst 1, 1), (.isub, 1), (.i2l, 1)] (by decide +kernel) (j := 0) (pc' := 12) (lv' := [(0, .ref 294), (1, .int v1)]) (st' := [.long ((x2 - (1 : Int32)).toInt64), .long (0 : Int64), .long v1.toInt64]) rfl ?_
  obtain ⟨p3, e3, h⟩ := bd h
  refine Ev.calls D_206 E_184 (by decide +kernel) C_10_88 [.long v1.toInt64, .long (0 : Int64), .long ((x2 - (1 : Int32)).toInt64)] (r := []) rfl rfl (Nat.le_of_ble_eq_true rfl) (Nat.le_of_ble_eq_true rfl) (gM_in_ok (by omega)  e3) ?_
  by_cases c4 : p3 = 0 ∨ p3 = 1
  · rw [if_pos c4] at h
    cases h
    obtain rfl : o = _ := ho
    exact Ev.zret D_206 c4 (by decide +kernel)
  · rw [if_neg c4] at h; cases h
/- PennantLawnModel of: 207 -/
def gM_of (v1 : Int32) (v2 : Int32) (s : mT) : Option (Int32) :=
  (rdI (s.1 295) 79 (((19 : Int32) + ((4 : Int32) * v1)) + v2)).bind fun x2 =>
  some (x2)
set_option maxRecDepth 8000 in
theorem gM_of_ok {L d : Nat} (hd : 1 ≤ d) {v1 : Int32} {v2 : Int32} {s : mT} {p : Int32} (h : gM_of v1 v2 s = some p) : Ev d 207 0 [(0, .ref 294), (1, .int v1), (2, .int v2)] [] (uS L s) (some (.int p), uS L s) := by
  obtain ⟨d, rfl⟩ : ∃ e, d = e + 1 := ⟨d - 1, by omega⟩
  obtain ⟨o, ho⟩ : ∃ o : Option Value × mS, o = (some (.int p), uS L s) := ⟨_, rfl⟩
  rw [← ho]
  unfold gM_of at h
  refine Ev.seg D_207 [(.aload_n 0, 1)] (by decide +kernel) (j := 0) (pc' := 1) (lv' := [(0, .ref 294), (1, .int v1), (2, .int v2)]) (st' := [.ref 294]) rfl ?_
  refine Ev.getR D_207 (by decide +kernel) F_10_9 T_10_1 (x := 295) (S_oR k_294 (by decide +kernel)) ?_
  refine Ev.seg D_207 [(.bipush 19, 2), (.iconst 4, 1), (.iload_n 1, 1), (.imul, 1), (.iadd, 1), (.iload_n 2, 1), (.iadd, 1)] (by decide +kernel) (j := 0) (pc' := 12) (lv' := [(0, .ref 294), (1, .int v1), (2, .int v2)]) (st' := [.int (((19 : Int32) + ((4 : Int32) * v1)) + v2), .ref 295]) rfl ?_
  obtain ⟨x2, e2, h⟩ := bd h
  refine Ev.iald D_207 (by decide +kernel) (S_aI k_295 e2) ?_
  cases h
  obtain rfl : o = _ := ho
  exact Ev.iret D_207 (by decide +kernel)
/- PennantLawnModel watcher: 205 -/
def gM_watcher (v1 : Int32) (v2 : Int32) (s : mT) : Option (Int32) :=
  (gM_isWatcher v1 s).bind fun p1 =>
  (
    if p1 = 0 then
      some ((-2 : Int32))
    else
      (gM_in v2.toInt64 (0 : Int64) (3 : Int64) s).bind fun p4 =>
      if p4 = 0 then
        some ((-2 : Int32))
      else
        (gM_of v1 v2 s).bind fun p6 =>
        some (p6) : Option (Int32)).bind fun x2 =>
  some (x2)
set_option maxRecDepth 8000 in
theorem gM_watcher_ok {L d : Nat} (hd : 3 ≤ d) {v1 : Int32} {v2 : Int32} {s : mT} {p : Int32} (h : gM_watcher v1 v2 s = some p) : Ev d 205 0 [(0, .ref 294), (1, .int v1), (2, .int v2)] [] (uS L s) (some (.int p), uS L s) := by
  obtain ⟨d, rfl⟩ : ∃ e, d = e + 1 := ⟨d - 1, by omega⟩
  obtain ⟨o, ho⟩ : ∃ o : Option Value × mS, o = (some (.int p), uS L s) := ⟨_, rfl⟩
  rw [← ho]
  unfold gM_watcher at h
  refine Ev.seg D_205 [(.aload_n 0, 1), (.iload_n 1, 1)] (by decide +kernel) (j := 0) (pc' := 2) (lv' := [(0, .ref 294), (1, .int v1), (2, .int v2)]) (st' := [.int v1, .ref 294]) rfl ?_
  obtain ⟨p1, e1, h⟩ := bd h
  refine Ev.callv D_205 E_206 (by decide +kernel) C_10_224 294 [.int v1] (r := []) rfl (gd_o k_294 (by decide)) rfl (Nat.le_of_ble_eq_true rfl) (Nat.le_of_ble_eq_true rfl) (gM_isWatcher_ok (by omega)  e1) ?_
  obtain ⟨x2, g2, h⟩ := bd h
  have j2 : Ev (d + 1) 205 31 [] [.int x2] (uS L s) o := by
    clear g2
    cases h
    obtain rfl : o = _ := ho
    exact Ev.iret D_205 (by decide +kernel)
  clear h
  refine Ev.if_ D_205 (c := .eq) (off := 24) (by decide +kernel) (t := 29) rfl (fun c2 => ?_) (fun c2 => ?_)
  · have c2 : p1 = 0 := of_decide_eq_true c2
    rw [if_pos c2] at g2
    refine Ev.seg D_205 [(.bipush (-2), 2)] (by decide +kernel) (j := 0) (pc' := 31) (lv' := [(0, .ref 294), (1, .int v1), (2, .int v2)]) (st' := [.int (-2 : Int32)]) rfl ?_
    cases g2
    exact Ev.sub2 j2 subL_nil
  · have c2 : ¬ p1 = 0 := of_decide_eq_false c2
    rw [if_neg c2] at g2
    refine Ev.seg D_205 [(.iload_n 2, 1), (.i2l, 1), (.lconst 0, 1)] (by decide +kernel) (j := 0) (pc' := 11) (lv' := [(0, .ref 294), (1, .int v1), (2, .int v2)]) (st' := [.long (0 : Int64), .long v2.toInt64]) rfl ?_
    refine Ev.ldc2 D_205 (i := 100) (by decide +kernel) (x := (3 : Int64)) (by decide +kernel) ?_
    obtain ⟨p4, e4, g2⟩ := bd g2
    refine Ev.calls D_205 E_184 (by decide +kernel) C_10_88 [.long v2.toInt64, .long (0 : Int64), .long (3 : Int64)] (r := []) rfl rfl (Nat.le_of_ble_eq_true rfl) (Nat.le_of_ble_eq_true rfl) (gM_in_ok (by omega)  e4) ?_
    refine Ev.if_ D_205 (c := .eq) (off := 12) (by decide +kernel) (t := 29) rfl (fun c5 => ?_) (fun c5 => ?_)
    · have c5 : p4 = 0 := of_decide_eq_true c5
      rw [if_pos c5] at g2
      refine Ev.seg D_205 [(.bipush (-2), 2)] (by decide +kernel) (j := 0) (pc' := 31) (lv' := [(0, .ref 294), (1, .int v1), (2, .int v2)]) (st' := [.int (-2 : Int32)]) rfl ?_
      cases g2
      exact Ev.sub2 j2 subL_nil
    · have c5 : ¬ p4 = 0 := of_decide_eq_false c5
      rw [if_neg c5] at g2
      refine Ev.seg D_205 [(.aload_n 0, 1), (.iload_n 1, 1), (.iload_n 2, 1)] (by decide +kernel) (j := 0) (pc' := 23) (lv' := [(0, .ref 294), (1, .int v1), (2, .int v2)]) (st' := [.int v2, .int v1, .ref 294]) rfl ?_
      obtain ⟨p6, e6, g2⟩ := bd g2
      refine Ev.callv D_205 E_207 (by decide +kernel) C_10_102 294 [.int v1, .int v2] (r := []) rfl (gd_o k_294 (by decide)) rfl (Nat.le_of_ble_eq_true rfl) (Nat.le_of_ble_eq_true rfl) (gM_of_ok (by omega)  e6) ?_
      refine Ev.seg D_205 [(.goto 5, 3)] (by decide +kernel) (j := 0) (pc' := 31) (lv' := [(0, .ref 294), (1, .int v1), (2, .int v2)]) (st' := [.int p6]) rfl ?_
      cases g2
      exact Ev.sub2 j2 subL_nil
