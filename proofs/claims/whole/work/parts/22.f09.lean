/-! The program's methods as functions of ints and longs, each with its certificate (wip/whole/gen_emit.py writes this) -/
/- PennantLawn sailWithKingfishers: 162 -/
def gL_sailWithKingfishers_h5 (v1 : Int32) (v2 : Int32) (s : mT) (q : Int64 × Int32) : Option ((Int64 × Int32) ⊕ (Int64)) :=
  if v2 < q.2 then
    some (.inr q.1)
  else
    (
      if ((v1 >>> (q.2 &&& 31)) &&& (1 : Int32)) = (1 : Int32) then
        some ((s.1 16 3).toInt64)
      else
        some (((10 : Int32) - (s.1 16 3)).toInt64) : Option (Int64)).bind fun x2 =>
    some (.inl (q.1 * x2, q.2 + (1 : Int32)))
set_option maxRecDepth 8000 in
theorem gL_sailWithKingfishers_h5_ok {L d : Nat} (hd : 5 ≤ d + 1) {v1 : Int32} {v2 : Int32} {s : mT} : ∀ (q : Int64 × Int32) (x : (Int64 × Int32) ⊕ (Int64)), gL_sailWithKingfishers_h5 v1 v2 s q = some x → ∀ o, sK (fun q => Ev (d + 1) 162 5 [(0, .ref 0), (1, .int v1), (2, .int v2), (3, .long q.1), (5, .int q.2)] [] (uS L s) o) (fun r => Ev (d + 1) 162 52 [(0, .ref 0), (1, .int v1), (2, .int v2), (3, .long r)] [] (uS L s) o) x → Ev (d + 1) 162 5 [(0, .ref 0), (1, .int v1), (2, .int v2), (3, .long q.1), (5, .int q.2)] [] (uS L s) o := by
  intro q x h o ho
  unfold gL_sailWithKingfishers_h5 at h
  refine Ev.seg D_162 [(.iload 5, 2), (.iload_n 2, 1)] (by decide +kernel) (j := 0) (pc' := 8) (lv' := [(0, .ref 0), (1, .int v1), (2, .int v2), (3, .long q.1), (5, .int q.2)]) (st' := [.int v2, .int q.2]) rfl ?_
  refine Ev.icmp D_162 (c := .gt) (off := 44) (by decide +kernel) (t := 52) rfl (fun c1 => ?_) (fun c1 => ?_)
  · have c1 : v2 < q.2 := of_decide_eq_true c1
    rw [if_pos c1] at h
    cases h
    exact Ev.sub (lv' := [(0, .ref 0), (1, .int v1), (2, .int v2), (3, .long q.1)]) (subL_cons rfl (subL_cons rfl (subL_cons rfl (subL_cons rfl subL_nil)))) ho
  · have c1 : ¬ v2 < q.2 := of_decide_eq_false c1
    rw [if_neg c1] at h
    refine Ev.seg D_162 [(.lload_n 3, 1), (.iload_n 1, 1), (.iload 5, 2), (.ishr, 1), (.iconst 1, 1), (.iand, 1), (.iconst 1, 1)] (by decide +kernel) (j := 0) (pc' := 19) (lv' := [(0, .ref 0), (1, .int v1), (2, .int v2), (3, .long q.1), (5, .int q.2)]) (st' := [.int (1 : Int32), .int ((v1 >>> (q.2 &&& 31)) &&& (1 : Int32)), .long q.1]) rfl ?_
    obtain ⟨x2, g2, h⟩ := bd h
    have j2 : Ev (d + 1) 162 44 [(0, .ref 0), (1, .int v1), (2, .int v2), (5, .int q.2)] [.long x2, .long q.1] (uS L s) o := by
      clear g2
      refine Ev.seg D_162 [(.lmul, 1), (.lstore_n 3, 1), (.iinc 5 1, 3), (.goto (-44), 3)] (by decide +kernel) (j := 0) (pc' := 5) (lv' := [(5, .int (q.2 + (1 : Int32))), (3, .long (q.1 * x2)), (0, .ref 0), (1, .int v1), (2, .int v2)]) (st' := []) rfl ?_
      cases h
      exact Ev.sub (lv' := [(0, .ref 0), (1, .int v1), (2, .int v2), (3, .long (q.1 * x2)), (5, .int (q.2 + (1 : Int32)))]) (subL_cons rfl (subL_cons rfl (subL_cons rfl (subL_cons rfl (subL_cons rfl subL_nil))))) ho
    clear h
    refine Ev.icmp D_162 (c := .ne) (off := 14) (by decide +kernel) (t := 33) rfl (fun c2 => ?_) (fun c2 => ?_)
    · have c2 : ¬ ((v1 >>> (q.2 &&& 31)) &&& (1 : Int32)) = (1 : Int32) := of_decide_eq_true c2
      rw [if_neg c2] at g2
      refine Ev.seg D_162 [(.bipush 10, 2), (.aload_n 0, 1)] (by decide +kernel) (j := 0) (pc' := 36) (lv' := [(0, .ref 0), (1, .int v1), (2, .int v2), (3, .long q.1), (5, .int q.2)]) (st' := [.ref 0, .int (10 : Int32), .long q.1]) rfl ?_
      refine Ev.getR D_162 (by decide +kernel) F_9_28 T_9_2 (x := 16) (S_oR k_0 (by decide +kernel)) ?_
      refine Ev.getI D_162 (by decide +kernel) F_9_357 (Or.inl T_2_3) (S_oI k_16) ?_
      refine Ev.seg D_162 [(.isub, 1), (.i2l, 1)] (by decide +kernel) (j := 0) (pc' := 44) (lv' := [(0, .ref 0), (1, .int v1), (2, .int v2), (3, .long q.1), (5, .int q.2)]) (st' := [.long (((10 : Int32) - (s.1 16 3)).toInt64), .long q.1]) rfl ?_
      cases g2
      exact Ev.sub2 j2 (subL_cons rfl (subL_cons rfl (subL_cons rfl (subL_cons rfl subL_nil))))
    · have c2 : ((v1 >>> (q.2 &&& 31)) &&& (1 : Int32)) = (1 : Int32) := Decidable.of_not_not (of_decide_eq_false c2)
      rw [if_pos c2] at g2
      refine Ev.seg D_162 [(.aload_n 0, 1)] (by decide +kernel) (j := 0) (pc' := 23) (lv' := [(0, .ref 0), (1, .int v1), (2, .int v2), (3, .long q.1), (5, .int q.2)]) (st' := [.ref 0, .long q.1]) rfl ?_
      refine Ev.getR D_162 (by decide +kernel) F_9_28 T_9_2 (x := 16) (S_oR k_0 (by decide +kernel)) ?_
      refine Ev.getI D_162 (by decide +kernel) F_9_357 (Or.inl T_2_3) (S_oI k_16) ?_
      refine Ev.seg D_162 [(.i2l, 1), (.goto 14, 3)] (by decide +kernel) (j := 0) (pc' := 44) (lv' := [(0, .ref 0), (1, .int v1), (2, .int v2), (3, .long q.1), (5, .int q.2)]) (st' := [.long ((s.1 16 3).toInt64), .long q.1]) rfl ?_
      cases g2
      exact Ev.sub2 j2 (subL_cons rfl (subL_cons rfl (subL_cons rfl (subL_cons rfl subL_nil))))
theorem gL_sailWithKingfishers_h5_w {L d : Nat} (hd : 5 ≤ d + 1) {v1 : Int32} {v2 : Int32} {s : mT} : ∀ (n : Nat) (q : Int64 × Int32) (r : Int64), wh n (gL_sailWithKingfishers_h5 v1 v2 s) q = some r → ∀ o, (fun r => Ev (d + 1) 162 52 [(0, .ref 0), (1, .int v1), (2, .int v2), (3, .long r)] [] (uS L s) o) r → Ev (d + 1) 162 5 [(0, .ref 0), (1, .int v1), (2, .int v2), (3, .long q.1), (5, .int q.2)] [] (uS L s) o :=
  fun n q r h o hc => wh_ev (E := fun (q : Int64 × Int32) o => Ev (d + 1) 162 5 [(0, .ref 0), (1, .int v1), (2, .int v2), (3, .long q.1), (5, .int q.2)] [] (uS L s) o) (C := fun (r : Int64) o => (fun r => Ev (d + 1) 162 52 [(0, .ref 0), (1, .int v1), (2, .int v2), (3, .long r)] [] (uS L s) o) r) (gL_sailWithKingfishers_h5_ok hd  ) n q r h o hc
def gL_sailWithKingfishers (v1 : Int32) (v2 : Int32) (s : mT) : Option (Int64 × mT) :=
  (wh FU (gL_sailWithKingfishers_h5 v1 v2 s) ((1 : Int64), (0 : Int32))).bind fun x7 =>
  (
    if (lg_cmp x7 (0 : Int64)) ≤ 0 then
      some (s)
    else
      (gC_prepare 121 s).bind fun p10 =>
      (gC_drawKingfishers 121 v1 p10).bind fun p12 =>
      (gC_sail 121 (v2 + (1 : Int32)) p12).bind fun p14 =>
      some (p14) : Option (mT)).bind fun x8 =>
  some ((x7, x8))
set_option maxRecDepth 8000 in
theorem gL_sailWithKingfishers_ok {L d : Nat} (hd : 5 ≤ d) {v1 : Int32} {v2 : Int32} {s : mT} {p : Int64 × mT} (h : gL_sailWithKingfishers v1 v2 s = some p) : Ev d 162 0 [(0, .ref 0), (1, .int v1), (2, .int v2)] [] (uS L s) (some (.long p.1), uS L p.2) := by
  obtain ⟨d, rfl⟩ : ∃ e, d = e + 1 := ⟨d - 1, by omega⟩
  obtain ⟨o, ho⟩ : ∃ o : Option Value × mS, o = (some (.long p.1), uS L p.2) := ⟨_, rfl⟩
  rw [← ho]
  unfold gL_sailWithKingfishers at h
  refine Ev.seg D_162 [(.lconst 1, 1), (.lstore_n 3, 1), (.iconst 0, 1), (.istore 5, 2)] (by decide +kernel) (j := 0) (pc' := 5) (lv' := [(5, .int (0 : Int32)), (3, .long (1 : Int64)), (0, .ref 0), (1, .int v1), (2, .int v2)]) (st' := []) rfl ?_
  obtain ⟨x7, w7, h⟩ := bd h
  have j7 : Ev (d + 1) 162 52 [(0, .ref 0), (1, .int v1), (2, .int v2), (3, .long x7)] [] (uS L s) o := by
    clear w7
    refine Ev.seg D_162 [(.lload_n 3, 1), (.lconst 0, 1), (.lcmp, 1)] (by decide +kernel) (j := 0) (pc' := 55) (lv' := [(0, .ref 0), (1, .int v1), (2, .int v2), (3, .long x7)]) (st' := [.int (lg_cmp x7 (0 : Int64))]) rfl ?_
    obtain ⟨x8, g8, h⟩ := bd h
    have j8 : Ev (d + 1) 162 83 [(3, .long x7)] [] (uS L x8) o := by
      clear g8
      refine Ev.seg D_162 [(.lload_n 3, 1)] (by decide +kernel) (j := 0) (pc' := 84) (lv' := [(3, .long x7)]) (st' := [.long x7]) rfl ?_
      cases h
      obtain rfl : o = _ := ho
      exact Ev.lret D_162 (by decide +kernel)
    clear h
    refine Ev.if_ D_162 (c := .le) (off := 28) (by decide +kernel) (t := 83) rfl (fun c8 => ?_) (fun c8 => ?_)
    · have c8 : (lg_cmp x7 (0 : Int64)) ≤ 0 := of_decide_eq_true c8
      rw [if_pos c8] at g8
      cases g8
      exact Ev.sub2 j8 (subL_cons rfl subL_nil)
    · have c8 : ¬ (lg_cmp x7 (0 : Int64)) ≤ 0 := of_decide_eq_false c8
      rw [if_neg c8] at g8
      refine Ev.seg D_162 [(.aload_n 0, 1)] (by decide +kernel) (j := 0) (pc' := 59) (lv' := [(0, .ref 0), (1, .int v1), (2, .int v2), (3, .long x7)]) (st' := [.ref 0]) rfl ?_
      refine Ev.getR D_162 (by decide +kernel) F_9_41 T_9_6 (x := 121) (S_oR k_0 (by decide +kernel)) ?_
      obtain ⟨p10, e10, g8⟩ := bd g8
      refine Ev.callv D_162 E_1 (by decide +kernel) C_9_241 121 [] (r := []) rfl (gd_o k_121 (by decide)) rfl (Nat.le_of_ble_eq_true rfl) (Nat.le_of_ble_eq_true rfl) (gC_prepare_ok (by omega) (by decide) e10) ?_
      refine Ev.seg D_162 [(.aload_n 0, 1)] (by decide +kernel) (j := 0) (pc' := 66) (lv' := [(0, .ref 0), (1, .int v1), (2, .int v2), (3, .long x7)]) (st' := [.ref 0]) rfl ?_
      refine Ev.getR D_162 (by decide +kernel) F_9_41 T_9_6 (x := 121) (S_oR k_0 (by decide +kernel)) ?_
      refine Ev.seg D_162 [(.iload_n 1, 1)] (by decide +kernel) (j := 0) (pc' := 70) (lv' := [(0, .ref 0), (1, .int v1), (2, .int v2), (3, .long x7)]) (st' := [.int v1, .ref 121]) rfl ?_
      obtain ⟨p12, e12, g8⟩ := bd g8
      refine Ev.callv D_162 E_27 (by decide +kernel) C_9_360 121 [.int v1] (r := []) rfl (gd_o k_121 (by decide)) rfl (Nat.le_of_ble_eq_true rfl) (Nat.le_of_ble_eq_true rfl) (gC_drawKingfishers_ok (by omega) (by decide) e12) ?_
      refine Ev.seg D_162 [(.aload_n 0, 1)] (by decide +kernel) (j := 0) (pc' := 74) (lv' := [(0, .ref 0), (1, .int v1), (2, .int v2), (3, .long x7)]) (st' := [.ref 0]) rfl ?_
      refine Ev.getR D_162 (by decide +kernel) F_9_41 T_9_6 (x := 121) (S_oR k_0 (by decide +kernel)) ?_
      refine Ev.seg D_162 [(.iload_n 2, 1), (.iconst 1, 1), (.iadd, 1)] (by decide +kernel) (j := 0) (pc' := 80) (lv' := [(0, .ref 0), (1, .int v1), (2, .int v2), (3, .long x7)]) (st' := [.int (v2 + (1 : Int32)), .ref 121]) rfl ?_
      obtain ⟨p14, e14, g8⟩ := bd g8
      refine Ev.callv D_162 E_5 (by decide +kernel) C_9_301 121 [.int (v2 + (1 : Int32))] (r := []) rfl (gd_o k_121 (by decide)) rfl (Nat.le_of_ble_eq_true rfl) (Nat.le_of_ble_eq_true rfl) (gC_sail_ok (by omega) (by decide) e14) ?_
      cases g8
      exact Ev.sub2 j8 (subL_cons rfl subL_nil)
  exact Ev.sub (lv' := [(0, .ref 0), (1, .int v1), (2, .int v2), (3, .long (1 : Int64)), (5, .int (0 : Int32))]) (subL_cons rfl (subL_cons rfl (subL_cons rfl (subL_cons rfl (subL_cons rfl subL_nil))))) (gL_sailWithKingfishers_h5_w hd   _ _ _ w7 _ j7)
/- PennantLawn tenTo: 163 -/
def gL_tenTo_h4 (v0 : Int32) (s : mT) (q : Int64 × Int32) : Option ((Int64 × Int32) ⊕ (Int64)) :=
  if v0 ≤ q.2 then
    some (.inr q.1)
  else
    some (.inl (q.1 * (10 : Int64), q.2 + (1 : Int32)))
set_option maxRecDepth 8000 in
theorem gL_tenTo_h4_ok {L d : Nat} (hd : 1 ≤ d + 1) {v0 : Int32} {s : mT} : ∀ (q : Int64 × Int32) (x : (Int64 × Int32) ⊕ (Int64)), gL_tenTo_h4 v0 s q = some x → ∀ o, sK (fun q => Ev (d + 1) 163 4 [(0, .int v0), (1, .long q.1), (3, .int q.2)] [] (uS L s) o) (fun r => Ev (d + 1) 163 21 [(1, .long r)] [] (uS L s) o) x → Ev (d + 1) 163 4 [(0, .int v0), (1, .long q.1), (3, .int q.2)] [] (uS L s) o := by
  intro q x h o ho
  unfold gL_tenTo_h4 at h
  refine Ev.seg D_163 [(.iload_n 3, 1), (.iload_n 0, 1)] (by decide +kernel) (j := 0) (pc' := 6) (lv' := [(0, .int v0), (1, .long q.1), (3, .int q.2)]) (st' := [.int v0, .int q.2]) rfl ?_
  refine Ev.icmp D_163 (c := .ge) (off := 15) (by decide +kernel) (t := 21) rfl (fun c1 => ?_) (fun c1 => ?_)
  · have c1 : v0 ≤ q.2 := of_decide_eq_true c1
    rw [if_pos c1] at h
    cases h
    exact Ev.sub (lv' := [(1, .long q.1)]) (subL_cons rfl subL_nil) ho
  · have c1 : ¬ v0 ≤ q.2 := of_decide_eq_false c1
    rw [if_neg c1] at h
    refine Ev.seg D_163 [(.lload_n 1, 1)] (by decide +kernel) (j := 0) (pc' := 10) (lv' := [(0, .int v0), (1, .long q.1), (3, .int q.2)]) (st' := [.long q.1]) rfl ?_
    refine Ev.ldc2 D_163 (i := 363) (by decide +kernel) (x := (10 : Int64)) (by decide +kernel) ?_
    refine Ev.seg D_163 [(.lmul, 1), (.lstore_n 1, 1), (.iinc 3 1, 3), (.goto (-14), 3)] (by decide +kernel) (j := 0) (pc' := 4) (lv' := [(3, .int (q.2 + (1 : Int32))), (1, .long (q.1 * (10 : Int64))), (0, .int v0)]) (st' := []) rfl ?_
    cases h
    exact Ev.sub (lv' := [(0, .int v0), (1, .long (q.1 * (10 : Int64))), (3, .int (q.2 + (1 : Int32)))]) (subL_cons rfl (subL_cons rfl (subL_cons rfl subL_nil))) ho
theorem gL_tenTo_h4_w {L d : Nat} (hd : 1 ≤ d + 1) {v0 : Int32} {s : mT} : ∀ (n : Nat) (q : Int64 × Int32) (r : Int64), wh n (gL_tenTo_h4 v0 s) q = some r → ∀ o, (fun r => Ev (d + 1) 163 21 [(1, .long r)] [] (uS L s) o) r → Ev (d + 1) 163 4 [(0, .int v0), (1, .long q.1), (3, .int q.2)] [] (uS L s) o :=
  fun n q r h o hc => wh_ev (E := fun (q : Int64 × Int32) o => Ev (d + 1) 163 4 [(0, .int v0), (1, .long q.1), (3, .int q.2)] [] (uS L s) o) (C := fun (r : Int64) o => (fun r => Ev (d + 1) 163 21 [(1, .long r)] [] (uS L s) o) r) (gL_tenTo_h4_ok hd  ) n q r h o hc
def gL_tenTo (v0 : Int32) (s : mT) : Option (Int64) :=
  (wh FU (gL_tenTo_h4 v0 s) ((1 : Int64), (0 : Int32))).bind fun x3 =>
  some (x3)
set_option maxRecDepth 8000 in
theorem gL_tenTo_ok {L d : Nat} (hd : 1 ≤ d) {v0 : Int32} {s : mT} {p : Int64} (h : gL_tenTo v0 s = some p) : Ev d 163 0 [(0, .int v0)] [] (uS L s) (some (.long p), uS L s) := by
  obtain ⟨d, rfl⟩ : ∃ e, d = e + 1 := ⟨d - 1, by omega⟩
  obtain ⟨o, ho⟩ : ∃ o : Option Value × mS, o = (some (.long p), uS L s) := ⟨_, rfl⟩
  rw [← ho]
  unfold gL_tenTo at h
  refine Ev.seg D_163 [(.lconst 1, 1), (.lstore_n 1, 1), (.iconst 0, 1), (.istore_n 3, 1)] (by decide +kernel) (j := 0) (pc' := 4) (lv' := [(3, .int (0 : Int32)), (1, .long (1 : Int64)), (0, .int v0)]) (st' := []) rfl ?_
  obtain ⟨x3, w3, h⟩ := bd h
  have j3 : Ev (d + 1) 163 21 [(1, .long x3)] [] (uS L s) o := by
    clear w3
    refine Ev.seg D_163 [(.lload_n 1, 1)] (by decide +kernel) (j := 0) (pc' := 22) (lv' := [(1, .long x3)]) (st' := [.long x3]) rfl ?_
    cases h
    obtain rfl : o = _ := ho
    exact Ev.lret D_163 (by decide +kernel)
  exact Ev.sub (lv' := [(0, .int v0), (1, .long (1 : Int64)), (3, .int (0 : Int32))]) (subL_cons rfl (subL_cons rfl (subL_cons rfl subL_nil))) (gL_tenTo_h4_w hd   _ _ _ w3 _ j3)
/- PennantLawn chance: 160 -/
def gL_chance_h37 (v1 : Int32) (v2 : Int32) (v3 : Int32) (q : Int64 × Int32 × mT) : Option ((Int64 × Int32 × mT) ⊕ (Int64 × mT)) :=
  if ((2 : Int32) <<< (v2 &&& 31)) ≤ q.2.1 then
    some (.inr (q.1, q.2.2))
  else
    (gL_sailWithKingfishers q.2.1 v2 q.2.2).bind fun p2 =>
    (
      if (lg_cmp p2.1 (0 : Int64)) ≤ 0 then
        some (q.1)
      else
        (gC_leader 121 (v2 + (1 : Int32)) p2.2).bind fun p5 =>
        if p5 = v1 then
          some (q.1 + p2.1)
        else
          some (q.1) : Option (Int64)).bind fun x3 =>
    some (.inl (x3, q.2.1 + (1 : Int32), p2.2))
set_option maxRecDepth 8000 in
theorem gL_chance_h37_ok {L d : Nat} (hd : 6 ≤ d + 1) {v1 : Int32} {v2 : Int32} {v3 : Int32} : ∀ (q : Int64 × Int32 × mT) (x : (Int64 × Int32 × mT) ⊕ (Int64 × mT)), gL_chance_h37 v1 v2 v3 q = some x → ∀ o, sK (fun q => Ev (d + 1) 160 37 [(0, .ref 0), (1, .int v1), (2, .int v2), (3, .int v3), (4, .long q.1), (6, .int q.2.1)] [] (uS L q.2.2) o) (fun r => Ev (d + 1) 160 88 [(2, .int v2), (3, .int v3), (4, .long r.1)] [] (uS L r.2) o) x → Ev (d + 1) 160 37 [(0, .ref 0), (1, .int v1), (2, .int v2), (3, .int v3), (4, .long q.1), (6, .int q.2.1)] [] (uS L q.2.2) o := by
  intro q x h o ho
  unfold gL_chance_h37 at h
  refine Ev.seg D_160 [(.iload 6, 2), (.iconst 2, 1), (.iload_n 2, 1), (.ishl, 1)] (by decide +kernel) (j := 0) (pc' := 42) (lv' := [(0, .ref 0), (1, .int v1), (2, .int v2), (3, .int v3), (4, .long q.1), (6, .int q.2.1)]) (st' := [.int ((2 : Int32) <<< (v2 &&& 31)), .int q.2.1]) rfl ?_
  refine Ev.icmp D_160 (c := .ge) (off := 46) (by decide +kernel) (t := 88) rfl (fun c1 => ?_) (fun c1 => ?_)
  · have c1 : ((2 : Int32) <<< (v2 &&& 31)) ≤ q.2.1 := of_decide_eq_true c1
    rw [if_pos c1] at h
    cases h
    exact Ev.sub (lv' := [(2, .int v2), (3, .int v3), (4, .long q.1)]) (subL_cons rfl (subL_cons rfl (subL_cons rfl subL_nil))) ho
  · have c1 : ¬ ((2 : Int32) <<< (v2 &&& 31)) ≤ q.2.1 := of_decide_eq_false c1
    rw [if_neg c1] at h
    refine Ev.seg D_160 [(.aload_n 0, 1), (.iload 6, 2), (.iload_n 2, 1)] (by decide +kernel) (j := 0) (pc' := 49) (lv' := [(0, .ref 0), (1, .int v1), (2, .int v2), (3, .int v3), (4, .long q.1), (6, .int q.2.1)]) (st' := [.int v2, .int q.2.1, .ref 0]) rfl ?_
    obtain ⟨p2, e2, h⟩ := bd h
    refine Ev.callv D_160 E_162 (by decide +kernel) C_9_349 0 [.int q.2.1, .int v2] (r := []) rfl (gd_o k_0 (by decide)) rfl (Nat.le_of_ble_eq_true rfl) (Nat.le_of_ble_eq_true rfl) (gL_sailWithKingfishers_ok (by omega)  e2) ?_
    refine Ev.seg D_160 [(.lstore 7, 2), (.lload 7, 2), (.lconst 0, 1), (.lcmp, 1)] (by decide +kernel) (j := 0) (pc' := 58) (lv' := [(7, .long p2.1), (0, .ref 0), (1, .int v1), (2, .int v2), (3, .int v3), (4, .long q.1), (6, .int q.2.1)]) (st' := [.int (lg_cmp p2.1 (0 : Int64))]) rfl ?_
    obtain ⟨x3, g3, h⟩ := bd h
    have j3 : Ev (d + 1) 160 82 [(0, .ref 0), (1, .int v1), (2, .int v2), (3, .int v3), (4, .long x3), (6, .int q.2.1)] [] (uS L p2.2) o := by
      clear g3
      refine Ev.seg D_160 [(.iinc 6 1, 3), (.goto (-48), 3)] (by decide +kernel) (j := 0) (pc' := 37) (lv' := [(6, .int (q.2.1 + (1 : Int32))), (0, .ref 0), (1, .int v1), (2, .int v2), (3, .int v3), (4, .long x3)]) (st' := []) rfl ?_
      cases h
      exact Ev.sub (lv' := [(0, .ref 0), (1, .int v1), (2, .int v2), (3, .int v3), (4, .long (x3)), (6, .int (q.2.1 + (1 : Int32)))]) (subL_cons rfl (subL_cons rfl (subL_cons rfl (subL_cons rfl (subL_cons rfl (subL_cons rfl subL_nil)))))) ho
    clear h
    refine Ev.if_ D_160 (c := .le) (off := 24) (by decide +kernel) (t := 82) rfl (fun c3 => ?_) (fun c3 => ?_)
    · have c3 : (lg_cmp p2.1 (0 : Int64)) ≤ 0 := of_decide_eq_true c3
      rw [if_pos c3] at g3
      cases g3
      exact Ev.sub2 j3 (subL_cons rfl (subL_cons rfl (subL_cons rfl (subL_cons rfl (subL_cons rfl (subL_cons rfl subL_nil))))))
    · have c3 : ¬ (lg_cmp p2.1 (0 : Int64)) ≤ 0 := of_decide_eq_false c3
      rw [if_neg c3] at g3
      refine Ev.seg D_160 [(.aload_n 0, 1)] (by decide +kernel) (j := 0) (pc' := 62) (lv' := [(7, .long p2.1), (0, .ref 0), (1, .int v1), (2, .int v2), (3, .int v3), (4, .long q.1), (6, .int q.2.1)]) (st' := [.ref 0]) rfl ?_
      refine Ev.getR D_160 (by decide +kernel) F_9_41 T_9_6 (x := 121) (S_oR k_0 (by decide +kernel)) ?_
      refine Ev.seg D_160 [(.iload_n 2, 1), (.iconst 1, 1), (.iadd, 1)] (by decide +kernel) (j := 0) (pc' := 68) (lv' := [(7, .long p2.1), (0, .ref 0), (1, .int v1), (2, .int v2), (3, .int v3), (4, .long q.1), (6, .int q.2.1)]) (st' := [.int (v2 + (1 : Int32)), .ref 121]) rfl ?_
      obtain ⟨p5, e5, g3⟩ := bd g3
      refine Ev.callv D_160 E_14 (by decide +kernel) C_9_180 121 [.int (v2 + (1 : Int32))] (r := []) rfl (gd_o k_121 (by decide)) rfl (Nat.le_of_ble_eq_true rfl) (Nat.le_of_ble_eq_true rfl) (gC_leader_ok (by omega) (by decide) e5) ?_
      refine Ev.seg D_160 [(.iload_n 1, 1)] (by decide +kernel) (j := 0) (pc' := 72) (lv' := [(7, .long p2.1), (0, .ref 0), (1, .int v1), (2, .int v2), (3, .int v3), (4, .long q.1), (6, .int q.2.1)]) (st' := [.int v1, .int p5]) rfl ?_
      refine Ev.icmp D_160 (c := .ne) (off := 10) (by decide +kernel) (t := 82) rfl (fun c6 => ?_) (fun c6 => ?_)
      · have c6 : ¬ p5 = v1 := of_decide_eq_true c6
        rw [if_neg c6] at g3
        cases g3
        exact Ev.sub2 j3 (subL_cons rfl (subL_cons rfl (subL_cons rfl (subL_cons rfl (subL_cons rfl (subL_cons rfl subL_nil))))))
      · have c6 : p5 = v1 := Decidable.of_not_not (of_decide_eq_false c6)
        rw [if_pos c6] at g3
        refine Ev.seg D_160 [(.lload 4, 2), (.lload 7, 2), (.ladd, 1), (.lstore 4, 2)] (by decide +kernel) (j := 0) (pc' := 82) (lv' := [(4, .long (q.1 + p2.1)), (7, .long p2.1), (0, .ref 0), (1, .int v1), (2, .int v2), (3, .int v3), (6, .int q.2.1)]) (st' := []) rfl ?_
        cases g3
        exact Ev.sub2 j3 (subL_cons rfl (subL_cons rfl (subL_cons rfl (subL_cons rfl (subL_cons rfl (subL_cons rfl subL_nil))))))
theorem gL_chance_h37_w {L d : Nat} (hd : 6 ≤ d + 1) {v1 : Int32} {v2 : Int32} {v3 : Int32} : ∀ (n : Nat) (q : Int64 × Int32 × mT) (r : Int64 × mT), wh n (gL_chance_h37 v1 v2 v3) q = some r → ∀ o, (fun r => Ev (d + 1) 160 88 [(2, .int v2), (3, .int v3), (4, .long r.1)] [] (uS L r.2) o) r → Ev (d + 1) 160 37 [(0, .ref 0), (1, .int v1), (2, .int v2), (3, .int v3), (4, .long q.1), (6, .int q.2.1)] [] (uS L q.2.2) o :=
  fun n q r h o hc => wh_ev (E := fun (q : Int64 × Int32 × mT) o => Ev (d + 1) 160 37 [(0, .ref 0), (1, .int v1), (2, .int v2), (3, .int v3), (4, .long q.1), (6, .int q.2.1)] [] (uS L q.2.2) o) (C := fun (r : Int64 × mT) o => (fun r => Ev (d + 1) 160 88 [(2, .int v2), (3, .int v3), (4, .long r.1)] [] (uS L r.2) o) r) (gL_chance_h37_ok hd  ) n q r h o hc
def gL_chance (v1 : Int32) (v2 : Int32) (v3 : Int32) (s : mT) : Option (Int64 × mT) :=
  (gR_hasBoat 16 v1.toInt64 s).bind fun p2 =>
  if p2 = 0 then
    some (((-2 : Int64), s))
  else
    (gL_isChanceStep v2 s).bind fun p6 =>
    if p6 = 0 then
      some (((-2 : Int64), s))
    else
      (gL_isPart v3 s).bind fun p10 =>
      if p10 = 0 then
        some (((-2 : Int64), s))
      else
        (wh FU (gL_chance_h37 v1 v2 v3) ((0 : Int64), (0 : Int32), s)).bind fun x12 =>
        (gL_tenTo (v2 + (1 : Int32)) x12.2).bind fun p13 =>
        (gL_lowestTerms x12.1 p13 v3 x12.2).bind fun p14 =>
        some ((p14, x12.2))
set_option maxRecDepth 8000 in
theorem gL_chance_ok {L d : Nat} (hd : 6 ≤ d) {v1 : Int32} {v2 : Int32} {v3 : Int32} {s : mT} {p : Int64 × mT} (h : gL_chance v1 v2 v3 s = some p) : Ev d 160 0 [(0, .ref 0), (1, .int v1), (2, .int v2), (3, .int v3)] [] (uS L s) (some (.long p.1), uS L p.2) := by
  obtain ⟨d, rfl⟩ : ∃ e, d = e + 1 := ⟨d - 1, by omega⟩
  obtain ⟨o, ho⟩ : ∃ o : Option Value × mS, o = (some (.long p.1), uS L p.2) := ⟨_, rfl⟩
  rw [← ho]
  unfold gL_chance at h
  refine Ev.seg D_160 [(.aload_n 0, 1)] (by decide +kernel) (j := 0) (pc' := 1) (lv' := [(0, .ref 0), (1, .int v1), (2, .int v2), (3, .int v3)]) (st' := [.ref 0]) rfl ?_
  refine Ev.getR D_160 (by decide +kernel) F_9_28 T_9_2 (x := 16) (S_oR k_0 (by decide +kernel)) ?_
  refine Ev.seg D_160 [(.iload_n 1, 1), (.i2l, 1)] (by decide +kernel) (j := 0) (pc' := 6) (lv' := [(0, .ref 0), (1, .int v1), (2, .int v2), (3, .int v3)]) (st' := [.long v1.toInt64, .ref 16]) rfl ?_
  obtain ⟨p2, e2, h⟩ := bd h
  refine Ev.callv D_160 E_39 (by decide +kernel) C_9_119 16 [.long v1.toInt64] (r := []) rfl (gd_o k_16 (by decide)) rfl (Nat.le_of_ble_eq_true rfl) (Nat.le_of_ble_eq_true rfl) (gR_hasBoat_ok (by omega) (by decide) e2) ?_
  refine Ev.if_ D_160 (c := .eq) (off := 18) (by decide +kernel) (t := 27) rfl (fun c3 => ?_) (fun c3 => ?_)
  · have c3 : p2 = 0 := of_decide_eq_true c3
    rw [if_pos c3] at h
    refine Ev.ldc2 D_160 (i := 347) (by decide +kernel) (x := (-2 : Int64)) (by decide +kernel) ?_
    cases h
    obtain rfl : o = _ := ho
    exact Ev.lret D_160 (by decide +kernel)
  · have c3 : ¬ p2 = 0 := of_decide_eq_false c3
    rw [if_neg c3] at h
    refine Ev.seg D_160 [(.aload_n 0, 1), (.iload_n 2, 1)] (by decide +kernel) (j := 0) (pc' := 14) (lv' := [(0, .ref 0), (1, .int v1), (2, .int v2), (3, .int v3)]) (st' := [.int v2, .ref 0]) rfl ?_
    obtain ⟨p6, e6, h⟩ := bd h
    refine Ev.callv D_160 E_161 (by decide +kernel) C_9_344 0 [.int v2] (r := []) rfl (gd_o k_0 (by decide)) rfl (Nat.le_of_ble_eq_true rfl) (Nat.le_of_ble_eq_true rfl) (gL_isChanceStep_ok (by omega)  e6) ?_
    refine Ev.if_ D_160 (c := .eq) (off := 10) (by decide +kernel) (t := 27) rfl (fun c7 => ?_) (fun c7 => ?_)
    · have c7 : p6 = 0 := of_decide_eq_true c7
      rw [if_pos c7] at h
      refine Ev.ldc2 D_160 (i := 347) (by decide +kernel) (x := (-2 : Int64)) (by decide +kernel) ?_
      cases h
      obtain rfl : o = _ := ho
      exact Ev.lret D_160 (by decide +kernel)
    · have c7 : ¬ p6 = 0 := of_decide_eq_false c7
      rw [if_neg c7] at h
      refine Ev.seg D_160 [(.iload_n 3, 1)] (by decide +kernel) (j := 0) (pc' := 21) (lv' := [(0, .ref 0), (1, .int v1), (2, .int v2), (3, .int v3)]) (st' := [.int v3]) rfl ?_
      obtain ⟨p10, e10, h⟩ := bd h
      refine Ev.calls D_160 E_97 (by decide +kernel) C_9_123 [.int v3] (r := []) rfl rfl (Nat.le_of_ble_eq_true rfl) (Nat.le_of_ble_eq_true rfl) (gL_isPart_ok (by omega)  e10) ?_
      refine Ev.if_ D_160 (c := .ne) (off := 7) (by decide +kernel) (t := 31) rfl (fun c11 => ?_) (fun c11 => ?_)
      · have c11 : ¬ p10 = 0 := of_decide_eq_true c11
        rw [if_neg c11] at h
        refine Ev.seg D_160 [(.lconst 0, 1), (.lstore 4, 2), (.iconst 0, 1), (.istore 6, 2)] (by decide +kernel) (j := 0) (pc' := 37) (lv' := [(6, .int (0 : Int32)), (4, .long (0 : Int64)), (0, .ref 0), (1, .int v1), (2, .int v2), (3, .int v3)]) (st' := []) rfl ?_
        obtain ⟨x12, w12, h⟩ := bd h
        have j12 : Ev (d + 1) 160 88 [(2, .int v2), (3, .int v3), (4, .long x12.1)] [] (uS L x12.2) o := by
          clear w12
          refine Ev.seg D_160 [(.lload 4, 2), (.iload_n 2, 1), (.iconst 1, 1), (.iadd, 1)] (by decide +kernel) (j := 0) (pc' := 93) (lv' := [(2, .int v2), (3, .int v3), (4, .long x12.1)]) (st' := [.int (v2 + (1 : Int32)), .long x12.1]) rfl ?_
          obtain ⟨p13, e13, h⟩ := bd h
          refine Ev.calls D_160 E_163 (by decide +kernel) C_9_353 [.int (v2 + (1 : Int32))] (r := [.long x12.1]) rfl rfl (Nat.le_of_ble_eq_true rfl) (Nat.le_of_ble_eq_true rfl) (gL_tenTo_ok (by omega)  e13) ?_
          refine Ev.seg D_160 [(.iload_n 3, 1)] (by decide +kernel) (j := 0) (pc' := 97) (lv' := [(2, .int v2), (3, .int v3), (4, .long x12.1)]) (st' := [.int v3, .long p13, .long x12.1]) rfl ?_
          obtain ⟨p14, e14, h⟩ := bd h
          refine Ev.calls D_160 E_155 (by decide +kernel) C_9_328 [.long x12.1, .long p13, .int v3] (r := []) rfl rfl (Nat.le_of_ble_eq_true rfl) (Nat.le_of_ble_eq_true rfl) (gL_lowestTerms_ok (by omega)  e14) ?_
          cases h
          obtain rfl : o = _ := ho
          exact Ev.lret D_160 (by decide +kernel)
        exact Ev.sub (lv' := [(0, .ref 0), (1, .int v1), (2, .int v2), (3, .int v3), (4, .long (0 : Int64)), (6, .int (0 : Int32))]) (subL_cons rfl (subL_cons rfl (subL_cons rfl (subL_cons rfl (subL_cons rfl (subL_cons rfl subL_nil)))))) (gL_chance_h37_w hd   _ _ _ w12 _ j12)
      · have c11 : p10 = 0 := Decidable.of_not_not (of_decide_eq_false c11)
        rw [if_pos c11] at h
        refine Ev.ldc2 D_160 (i := 347) (by decide +kernel) (x := (-2 : Int64)) (by decide +kernel) ?_
        cases h
        obtain rfl : o = _ := ho
        exact Ev.lret D_160 (by decide +kernel)
/- PennantLawn mean: 164 -/
def gL_mean_h37 (v1 : Int32) (v2 : Int32) (v3 : Int32) (q : Int64 × Int32 × mT) : Option ((Int64 × Int32 × mT) ⊕ (Int64 × mT)) :=
  if ((2 : Int32) <<< (v2 &&& 31)) ≤ q.2.1 then
    some (.inr (q.1, q.2.2))
  else
    (gL_sailWithKingfishers q.2.1 v2 q.2.2).bind fun p2 =>
    (
      if (lg_cmp p2.1 (0 : Int64)) ≤ 0 then
        some (q.1)
      else
        if ¬ ((v2 + (1 : Int32)) < 0 ∨ 21 ≤ (v2 + (1 : Int32)).toNatClampNeg) then
          (rdI (p2.2.1 (149 + (v2 + (1 : Int32)).toNatClampNeg)) 5 v1).bind fun x7 =>
          some (q.1 + (p2.1 * x7.toInt64))
        else none : Option (Int64)).bind fun x3 =>
    some (.inl (x3, q.2.1 + (1 : Int32), p2.2))
set_option maxRecDepth 8000 in
theorem gL_mean_h37_ok {L d : Nat} (hd : 6 ≤ d + 1) {v1 : Int32} {v2 : Int32} {v3 : Int32} : ∀ (q : Int64 × Int32 × mT) (x : (Int64 × Int32 × mT) ⊕ (Int64 × mT)), gL_mean_h37 v1 v2 v3 q = some x → ∀ o, sK (fun q => Ev (d + 1) 164 37 [(0, .ref 0), (1, .int v1), (2, .int v2), (3, .int v3), (4, .long q.1), (6, .int q.2.1)] [] (uS L q.2.2) o) (fun r => Ev (d + 1) 164 89 [(2, .int v2), (3, .int v3), (4, .long r.1)] [] (uS L r.2) o) x → Ev (d + 1) 164 37 [(0, .ref 0), (1, .int v1), (2, .int v2), (3, .int v3), (4, .long q.1), (6, .int q.2.1)] [] (uS L q.2.2) o := by
  intro q x h o ho
  unfold gL_mean_h37 at h
  refine Ev.seg D_164 [(.iload 6, 2), (.iconst 2, 1), (.iload_n 2, 1), (.ishl, 1)] (by decide +kernel) (j := 0) (pc' := 42) (lv' := [(0, .ref 0), (1, .int v1), (2, .int v2), (3, .int v3), (4, .long q.1), (6, .int q.2.1)]) (st' := [.int ((2 : Int32) <<< (v2 &&& 31)), .int q.2.1]) rfl ?_
  refine Ev.icmp D_164 (c := .ge) (off := 47) (by decide +kernel) (t := 89) rfl (fun c1 => ?_) (fun c1 => ?_)
  · have c1 : ((2 : Int32) <<< (v2 &&& 31)) ≤ q.2.1 := of_decide_eq_true c1
    rw [if_pos c1] at h
    cases h
    exact Ev.sub (lv' := [(2, .int v2), (3, .int v3), (4, .long q.1)]) (subL_cons rfl (subL_cons rfl (subL_cons rfl subL_nil))) ho
  · have c1 : ¬ ((2 : Int32) <<< (v2 &&& 31)) ≤ q.2.1 := of_decide_eq_false c1
    rw [if_neg c1] at h
    refine Ev.seg D_164 [(.aload_n 0, 1), (.iload 6, 2), (.iload_n 2, 1)] (by decide +kernel) (j := 0) (pc' := 49) (lv' := [(0, .ref 0), (1, .int v1), (2, .int v2), (3, .int v3), (4, .long q.1), (6, .int q.2.1)]) (st' := [.int v2, .int q.2.1, .ref 0]) rfl ?_
    obtain ⟨p2, e2, h⟩ := bd h
    refine Ev.callv D_164 E_162 (by decide +kernel) C_9_349 0 [.int q.2.1, .int v2] (r := []) rfl (gd_o k_0 (by decide)) rfl (Nat.le_of_ble_eq_true rfl) (Nat.le_of_ble_eq_true rfl) (gL_sailWithKingfishers_ok (by omega)  e2) ?_
    refine Ev.seg D_164 [(.lstore 7, 2), (.lload 7, 2), (.lconst 0, 1), (.lcmp, 1)] (by decide +kernel) (j := 0) (pc' := 58) (lv' := [(7, .long p2.1), (0, .ref 0), (1, .int v1), (2, .int v2), (3, .int v3), (4, .long q.1), (6, .int q.2.1)]) (st' := [.int (lg_cmp p2.1 (0 : Int64))]) rfl ?_
    obtain ⟨x3, g3, h⟩ := bd h
    have j3 : Ev (d + 1) 164 83 [(0, .ref 0), (1, .int v1), (2, .int v2), (3, .int v3), (4, .long x3), (6, .int q.2.1)] [] (uS L p2.2) o := by
      clear g3
      refine Ev.seg D_164 [(.iinc 6 1, 3), (.goto (-49), 3)] (by decide +kernel) (j := 0) (pc' := 37) (lv' := [(6, .int (q.2.1 + (1 : Int32))), (0, .ref 0), (1, .int v1), (2, .int v2), (3, .int v3), (4, .long x3)]) (st' := []) rfl ?_
      cases h
      exact Ev.sub (lv' := [(0, .ref 0), (1, .int v1), (2, .int v2), (3, .int v3), (4, .long (x3)), (6, .int (q.2.1 + (1 : Int32)))]) (subL_cons rfl (subL_cons rfl (subL_cons rfl (subL_cons rfl (subL_cons rfl (subL_cons rfl subL_nil)))))) ho
    clear h
    refine Ev.if_ D_164 (c := .le) (off := 25) (by decide +kernel) (t := 83) rfl (fun c3 => ?_) (fun c3 => ?_)
    · have c3 : (lg_cmp p2.1 (0 : Int64)) ≤ 0 := of_decide_eq_true c3
      rw [if_pos c3] at g3
      cases g3
      exact Ev.sub2 j3 (subL_cons rfl (subL_cons rfl (subL_cons rfl (subL_cons rfl (subL_cons rfl (subL_cons rfl subL_nil))))))
    · have c3 : ¬ (lg_cmp p2.1 (0 : Int64)) ≤ 0 := of_decide_eq_false c3
      rw [if_neg c3] at g3
      refine Ev.seg D_164 [(.lload 4, 2), (.lload 7, 2), (.aload_n 0, 1)] (by decide +kernel) (j := 0) (pc' := 66) (lv' := [(7, .long p2.1), (0, .ref 0), (1, .int v1), (2, .int v2), (3, .int v3), (4, .long q.1), (6, .int q.2.1)]) (st' := [.ref 0, .long p2.1, .long q.1]) rfl ?_
      refine Ev.getR D_164 (by decide +kernel) F_9_41 T_9_6 (x := 121) (S_oR k_0 (by decide +kernel)) ?_
      refine Ev.getR D_164 (by decide +kernel) F_9_161 T_0_7 (x := 148) (S_oR k_121 (by decide +kernel)) ?_
      refine Ev.seg D_164 [(.iload_n 2, 1), (.iconst 1, 1), (.iadd, 1)] (by decide +kernel) (j := 0) (pc' := 75) (lv' := [(7, .long p2.1), (0, .ref 0), (1, .int v1), (2, .int v2), (3, .int v3), (4, .long q.1), (6, .int q.2.1)]) (st' := [.int (v2 + (1 : Int32)), .ref 148, .long p2.1, .long q.1]) rfl ?_
      by_cases b75 : ¬ ((v2 + (1 : Int32)) < 0 ∨ 21 ≤ (v2 + (1 : Int32)).toNatClampNeg)
      rotate_left
      · rw [if_neg b75] at g3; cases g3
      rw [if_pos b75] at g3
      refine Ev.aald D_164 (by decide +kernel) (kd := 26) ⟨by decide, by decide⟩ (x := (149 + (v2 + (1 : Int32)).toNatClampNeg)) (S_aR k_148 b75 (lit_aa (e := 149) (n := 21) (by decide +kernel) b75)) ?_
      refine Ev.seg D_164 [(.iload_n 1, 1)] (by decide +kernel) (j := 0) (pc' := 77) (lv' := [(7, .long p2.1), (0, .ref 0), (1, .int v1), (2, .int v2), (3, .int v3), (4, .long q.1), (6, .int q.2.1)]) (st' := [.int v1, .ref (149 + (v2 + (1 : Int32)).toNatClampNeg), .long p2.1, .long q.1]) rfl ?_
      obtain ⟨x7, e7, g3⟩ := bd g3
      refine Ev.iald D_164 (by decide +kernel) (S_aI (lit_row (e := 149) (n := 21) (by decide +kernel) b75) e7) ?_
      refine Ev.seg D_164 [(.i2l, 1), (.lmul, 1), (.ladd, 1), (.lstore 4, 2)] (by decide +kernel) (j := 0) (pc' := 83) (lv' := [(4, .long (q.1 + (p2.1 * x7.toInt64))), (7, .long p2.1), (0, .ref 0), (1, .int v1), (2, .int v2), (3, .int v3), (6, .int q.2.1)]) (st' := []) rfl ?_
      cases g3
      exact Ev.sub2 j3 (subL_cons rfl (subL_cons rfl (subL_cons rfl (subL_cons rfl (subL_cons rfl (subL_cons rfl subL_nil))))))
theorem gL_mean_h37_w {L d : Nat} (hd : 6 ≤ d + 1) {v1 : Int32} {v2 : Int32} {v3 : Int32} : ∀ (n : Nat) (q : Int64 × Int32 × mT) (r : Int64 × mT), wh n (gL_mean_h37 v1 v2 v3) q = some r → ∀ o, (fun r => Ev (d + 1) 164 89 [(2, .int v2), (3, .int v3), (4, .long r.1)] [] (uS L r.2) o) r → Ev (d + 1) 164 37 [(0, .ref 0), (1, .int v1), (2, .int v2), (3, .int v3), (4, .long q.1), (6, .int q.2.1)] [] (uS L q.2.2) o :=
  fun n q r h o hc => wh_ev (E := fun (q : Int64 × Int32 × mT) o => Ev (d + 1) 164 37 [(0, .ref 0), (1, .int v1), (2, .int v2), (3, .int v3), (4, .long q.1), (6, .int q.2.1)] [] (uS L q.2.2) o) (C := fun (r : Int64 × mT) o => (fun r => Ev (d + 1) 164 89 [(2, .int v2), (3, .int v3), (4, .long r.1)] [] (uS L r.2) o) r) (gL_mean_h37_ok hd  ) n q r h o hc
def gL_mean (v1 : Int32) (v2 : Int32) (v3 : Int32) (s : mT) : Option (Int64 × mT) :=
  (gR_hasBoat 16 v1.toInt64 s).bind fun p2 =>
  if p2 = 0 then
    some (((-2 : Int64), s))
  else
    (gL_isChanceStep v2 s).bind fun p6 =>
    if p6 = 0 then
      some (((-2 : Int64), s))
    else
      (gL_isPart v3 s).bind fun p10 =>
      if p10 = 0 then
        some (((-2 : Int64), s))
      else
        (wh FU (gL_mean_h37 v1 v2 v3) ((0 : Int64), (0 : Int32), s)).bind fun x12 =>
        (gL_tenTo (v2 + (1 : Int32)) x12.2).bind fun p13 =>
        (gL_lowestTerms x12.1 p13 v3 x12.2).bind fun p14 =>
        some ((p14, x12.2))
set_option maxRecDepth 8000 in
theorem gL_mean_ok {L d : Nat} (hd : 6 ≤ d) {v1 : Int32} {v2 : Int32} {v3 : Int32} {s : mT} {p : Int64 × mT} (h : gL_mean v1 v2 v3 s = some p) : Ev d 164 0 [(0, .ref 0), (1, .int v1), (2, .int v2), (3, .int v3)] [] (uS L s) (some (.long p.1), uS L p.2) := by
  obtain ⟨d, rfl⟩ : ∃ e, d = e + 1 := ⟨d - 1, by omega⟩
  obtain ⟨o, ho⟩ : ∃ o : Option Value × mS, o = (some (.long p.1), uS L p.2) := ⟨_, rfl⟩
  rw [← ho]
  unfold gL_mean at h
  refine Ev.seg D_164 [(.aload_n 0, 1)] (by decide +kernel) (j := 0) (pc' := 1) (lv' := [(0, .ref 0), (1, .int v1), (2, .int v2), (3, .int v3)]) (st' := [.ref 0]) rfl ?_
  refine Ev.getR D_164 (by decide +kernel) F_9_28 T_9_2 (x := 16) (S_oR k_0 (by decide +kernel)) ?_
  refine Ev.seg D_164 [(.iload_n 1, 1), (.i2l, 1)] (by decide +kernel) (j := 0) (pc' := 6) (lv' := [(0, .ref 0), (1, .int v1), (2, .int v2), (3, .int v3)]) (st' := [.long v1.toInt64, .ref 16]) rfl ?_
  obtain ⟨p2, e2, h⟩ := bd h
  refine Ev.callv D_164 E_39 (by decide +kernel) C_9_119 16 [.long v1.toInt64] (r := []) rfl (gd_o k_16 (by decide)) rfl (Nat.le_of_ble_eq_true rfl) (Nat.le_of_ble_eq_true rfl) (gR_hasBoat_ok (by omega) (by decide) e2) ?_
  refine Ev.if_ D_164 (c := .eq) (off := 18) (by decide +kernel) (t := 27) rfl (fun c3 => ?_) (fun c3 => ?_)
  · have c3 : p2 = 0 := of_decide_eq_true c3
    rw [if_pos c3] at h
    refine Ev.ldc2 D_164 (i := 347) (by decide +kernel) (x := (-2 : Int64)) (by decide +kernel) ?_
    cases h
    obtain rfl : o = _ := ho
    exact Ev.lret D_164 (by decide +kernel)
  · have c3 : ¬ p2 = 0 := of_decide_eq_false c3
    rw [if_neg c3] at h
    refine Ev.seg D_164 [(.aload_n 0, 1), (.iload_n 2, 1)] (by decide +kernel) (j := 0) (pc' := 14) (lv' := [(0, .ref 0), (1, .int v1), (2, .int v2), (3, .int v3)]) (st' := [.int v2, .ref 0]) rfl ?_
    obtain ⟨p6, e6, h⟩ := bd h
    refine Ev.callv D_164 E_161 (by decide +kernel) C_9_344 0 [.int v2] (r := []) rfl (gd_o k_0 (by decide)) rfl (Nat.le_of_ble_eq_true rfl) (Nat.le_of_ble_eq_true rfl) (gL_isChanceStep_ok (by omega)  e6) ?_
    refine Ev.if_ D_164 (c := .eq) (off := 10) (by decide +kernel) (t := 27) rfl (fun c7 => ?_) (fun c7 => ?_)
    · have c7 : p6 = 0 := of_decide_eq_true c7
      rw [if_pos c7] at h
      refine Ev.ldc2 D_164 (i := 347) (by decide +kernel) (x := (-2 : Int64)) (by decide +kernel) ?_
      cases h
      obtain rfl : o = _ := ho
      exact Ev.lret D_164 (by decide +kernel)
    · have c7 : ¬ p6 = 0 := of_decide_eq_false c7
      rw [if_neg c7] at h
      refine Ev.seg D_164 [(.iload_n 3, 1)] (by decide +kernel) (j := 0) (pc' := 21) (lv' := [(0, .ref 0), (1, .int v1), (2, .int v2), (3, .int v3)]) (st' := [.int v3]) rfl ?_
      obtain ⟨p10, e10, h⟩ := bd h
      refine Ev.calls D_164 E_97 (by decide +kernel) C_9_123 [.int v3] (r := []) rfl rfl (Nat.le_of_ble_eq_true rfl) (Nat.le_of_ble_eq_true rfl) (gL_isPart_ok (by omega)  e10) ?_
      refine Ev.if_ D_164 (c := .ne) (off := 7) (by decide +kernel) (t := 31) rfl (fun c11 => ?_) (fun c11 => ?_)
      · have c11 : ¬ p10 = 0 := of_decide_eq_true c11
        rw [if_neg c11] at h
        refine Ev.seg D_164 [(.lconst 0, 1), (.lstore 4, 2), (.iconst 0, 1), (.istore 6, 2)] (by decide +kernel) (j := 0) (pc' := 37) (lv' := [(6, .int (0 : Int32)), (4, .long (0 : Int64)), (0, .ref 0), (1, .int v1), (2, .int v2), (3, .int v3)]) (st' := []) rfl ?_
        obtain ⟨x12, w12, h⟩ := bd h
        have j12 : Ev (d + 1) 164 89 [(2, .int v2), (3, .int v3), (4, .long x12.1)] [] (uS L x12.2) o := by
          clear w12
          refine Ev.seg D_164 [(.lload 4, 2), (.iload_n 2, 1), (.iconst 1, 1), (.iadd, 1)] (by decide +kernel) (j := 0) (pc' := 94) (lv' := [(2, .int v2), (3, .int v3), (4, .long x12.1)]) (st' := [.int (v2 + (1 : Int32)), .long x12.1]) rfl ?_
          obtain ⟨p13, e13, h⟩ := bd h
          refine Ev.calls D_164 E_163 (by decide +kernel) C_9_353 [.int (v2 + (1 : Int32))] (r := [.long x12.1]) rfl rfl (Nat.le_of_ble_eq_true rfl) (Nat.le_of_ble_eq_true rfl) (gL_tenTo_ok (by omega)  e13) ?_
          refine Ev.seg D_164 [(.iload_n 3, 1)] (by decide +kernel) (j := 0) (pc' := 98) (lv' := [(2, .int v2), (3, .int v3), (4, .long x12.1)]) (st' := [.int v3, .long p13, .long x12.1]) rfl ?_
          obtain ⟨p14, e14, h⟩ := bd h
          refine Ev.calls D_164 E_155 (by decide +kernel) C_9_328 [.long x12.1, .long p13, .int v3] (r := []) rfl rfl (Nat.le_of_ble_eq_true rfl) (Nat.le_of_ble_eq_true rfl) (gL_lowestTerms_ok (by omega)  e14) ?_
          cases h
          obtain rfl : o = _ := ho
          exact Ev.lret D_164 (by decide +kernel)
        exact Ev.sub (lv' := [(0, .ref 0), (1, .int v1), (2, .int v2), (3, .int v3), (4, .long (0 : Int64)), (6, .int (0 : Int32))]) (subL_cons rfl (subL_cons rfl (subL_cons rfl (subL_cons rfl (subL_cons rfl (subL_cons rfl subL_nil)))))) (gL_mean_h37_w hd   _ _ _ w12 _ j12)
      · have c11 : p10 = 0 := Decidable.of_not_not (of_decide_eq_false c11)
        rw [if_pos c11] at h
        refine Ev.ldc2 D_164 (i := 347) (by decide +kernel) (x := (-2 : Int64)) (by decide +kernel) ?_
        cases h
        obtain rfl : o = _ := ho
        exact Ev.lret D_164 (by decide +kernel)
/- PennantLawn look: 165 -/
def gL_look (v1 : Int32) (v2 : Int32) (v3 : Int32) (s : mT) : Option (Int32 × mT) :=
  (gR_hasWatcher 16 v1 s).bind fun p2 =>
  if p2 = 0 then
    some (((-2 : Int32), s))
  else
    (gR_hasBoat 16 v2.toInt64 s).bind fun p6 =>
    if p6 = 0 then
      some (((-2 : Int32), s))
    else
      (gR_hasStep 16 v3.toInt64 s).bind fun p10 =>
      if p10 = 0 then
        some (((-2 : Int32), s))
      else
        if (s.1 16 8) < (30 : Int32) then
          if ¬ (v3 < 0 ∨ 21 ≤ v3.toNatClampNeg) then
            (rdI (s.1 (78 + v3.toNatClampNeg)) 5 v1).bind fun x18 =>
            (gR_addAct 16 v1 v2 v3 s).bind fun p20 =>
            (gL_sailAgain p20).bind fun p21 =>
            some ((x18, p21))
          else none
        else
          some (((-5 : Int32), s))
set_option maxRecDepth 8000 in
theorem gL_look_ok {L d : Nat} (hd : 6 ≤ d) {v1 : Int32} {v2 : Int32} {v3 : Int32} {s : mT} {p : Int32 × mT} (h : gL_look v1 v2 v3 s = some p) : Ev d 165 0 [(0, .ref 0), (1, .int v1), (2, .int v2), (3, .int v3)] [] (uS L s) (some (.int p.1), uS L p.2) := by
  obtain ⟨d, rfl⟩ : ∃ e, d = e + 1 := ⟨d - 1, by omega⟩
  obtain ⟨o, ho⟩ : ∃ o : Option Value × mS, o = (some (.int p.1), uS L p.2) := ⟨_, rfl⟩
  rw [← ho]
  unfold gL_look at h
  refine Ev.seg D_165 [(.aload_n 0, 1)] (by decide +kernel) (j := 0) (pc' := 1) (lv' := [(0, .ref 0), (1, .int v1), (2, .int v2), (3, .int v3)]) (st' := [.ref 0]) rfl ?_
  refine Ev.getR D_165 (by decide +kernel) F_9_28 T_9_2 (x := 16) (S_oR k_0 (by decide +kernel)) ?_
  refine Ev.seg D_165 [(.iload_n 1, 1)] (by decide +kernel) (j := 0) (pc' := 5) (lv' := [(0, .ref 0), (1, .int v1), (2, .int v2), (3, .int v3)]) (st' := [.int v1, .ref 16]) rfl ?_
  obtain ⟨p2, e2, h⟩ := bd h
  refine Ev.callv D_165 E_40 (by decide +kernel) C_9_134 16 [.int v1] (r := []) rfl (gd_o k_16 (by decide)) rfl (Nat.le_of_ble_eq_true rfl) (Nat.le_of_ble_eq_true rfl) (gR_hasWatcher_ok (by omega) (by decide) e2) ?_
  refine Ev.if_ D_165 (c := .eq) (off := 27) (by decide +kernel) (t := 35) rfl (fun c3 => ?_) (fun c3 => ?_)
  · have c3 : p2 = 0 := of_decide_eq_true c3
    rw [if_pos c3] at h
    refine Ev.seg D_165 [(.bipush (-2), 2)] (by decide +kernel) (j := 0) (pc' := 37) (lv' := [(0, .ref 0), (1, .int v1), (2, .int v2), (3, .int v3)]) (st' := [.int (-2 : Int32)]) rfl ?_
    cases h
    obtain rfl : o = _ := ho
    exact Ev.iret D_165 (by decide +kernel)
  · have c3 : ¬ p2 = 0 := of_decide_eq_false c3
    rw [if_neg c3] at h
    refine Ev.seg D_165 [(.aload_n 0, 1)] (by decide +kernel) (j := 0) (pc' := 12) (lv' := [(0, .ref 0), (1, .int v1), (2, .int v2), (3, .int v3)]) (st' := [.ref 0]) rfl ?_
    refine Ev.getR D_165 (by decide +kernel) F_9_28 T_9_2 (x := 16) (S_oR k_0 (by decide +kernel)) ?_
    refine Ev.seg D_165 [(.iload_n 2, 1), (.i2l, 1)] (by decide +kernel) (j := 0) (pc' := 17) (lv' := [(0, .ref 0), (1, .int v1), (2, .int v2), (3, .int v3)]) (st' := [.long v2.toInt64, .ref 16]) rfl ?_
    obtain ⟨p6, e6, h⟩ := bd h
    refine Ev.callv D_165 E_39 (by decide +kernel) C_9_119 16 [.long v2.toInt64] (r := []) rfl (gd_o k_16 (by decide)) rfl (Nat.le_of_ble_eq_true rfl) (Nat.le_of_ble_eq_true rfl) (gR_hasBoat_ok (by omega) (by decide) e6) ?_
    refine Ev.if_ D_165 (c := .eq) (off := 15) (by decide +kernel) (t := 35) rfl (fun c7 => ?_) (fun c7 => ?_)
    · have c7 : p6 = 0 := of_decide_eq_true c7
      rw [if_pos c7] at h
      refine Ev.seg D_165 [(.bipush (-2), 2)] (by decide +kernel) (j := 0) (pc' := 37) (lv' := [(0, .ref 0), (1, .int v1), (2, .int v2), (3, .int v3)]) (st' := [.int (-2 : Int32)]) rfl ?_
      cases h
      obtain rfl : o = _ := ho
      exact Ev.iret D_165 (by decide +kernel)
    · have c7 : ¬ p6 = 0 := of_decide_eq_false c7
      rw [if_neg c7] at h
      refine Ev.seg D_165 [(.aload_n 0, 1)] (by decide +kernel) (j := 0) (pc' := 24) (lv' := [(0, .ref 0), (1, .int v1), (2, .int v2), (3, .int v3)]) (st' := [.ref 0]) rfl ?_
      refine Ev.getR D_165 (by decide +kernel) F_9_28 T_9_2 (x := 16) (S_oR k_0 (by decide +kernel)) ?_
      refine Ev.seg D_165 [(.iload_n 3, 1), (.i2l, 1)] (by decide +kernel) (j := 0) (pc' := 29) (lv' := [(0, .ref 0), (1, .int v1), (2, .int v2), (3, .int v3)]) (st' := [.long v3.toInt64, .ref 16]) rfl ?_
      obtain ⟨p10, e10, h⟩ := bd h
      refine Ev.callv D_165 E_42 (by decide +kernel) C_9_158 16 [.long v3.toInt64] (r := []) rfl (gd_o k_16 (by decide)) rfl (Nat.le_of_ble_eq_true rfl) (Nat.le_of_ble_eq_true rfl) (gR_hasStep_ok (by omega) (by decide) e10) ?_
      refine Ev.if_ D_165 (c := .ne) (off := 6) (by decide +kernel) (t := 38) rfl (fun c11 => ?_) (fun c11 => ?_)
      · have c11 : ¬ p10 = 0 := of_decide_eq_true c11
        rw [if_neg c11] at h
        refine Ev.seg D_165 [(.aload_n 0, 1)] (by decide +kernel) (j := 0) (pc' := 39) (lv' := [(0, .ref 0), (1, .int v1), (2, .int v2), (3, .int v3)]) (st' := [.ref 0]) rfl ?_
        refine Ev.getR D_165 (by decide +kernel) F_9_28 T_9_2 (x := 16) (S_oR k_0 (by decide +kernel)) ?_
        refine Ev.getI D_165 (by decide +kernel) F_9_373 (Or.inl T_2_8) (S_oI k_16) ?_
        refine Ev.seg D_165 [(.bipush 30, 2)] (by decide +kernel) (j := 0) (pc' := 47) (lv' := [(0, .ref 0), (1, .int v1), (2, .int v2), (3, .int v3)]) (st' := [.int (30 : Int32), .int (s.1 16 8)]) rfl ?_
        refine Ev.icmp D_165 (c := .lt) (off := 6) (by decide +kernel) (t := 53) rfl (fun c14 => ?_) (fun c14 => ?_)
        · have c14 : (s.1 16 8) < (30 : Int32) := of_decide_eq_true c14
          rw [if_pos c14] at h
          refine Ev.seg D_165 [(.aload_n 0, 1)] (by decide +kernel) (j := 0) (pc' := 54) (lv' := [(0, .ref 0), (1, .int v1), (2, .int v2), (3, .int v3)]) (st' := [.ref 0]) rfl ?_
          refine Ev.getR D_165 (by decide +kernel) F_9_37 T_9_5 (x := 28) (S_oR k_0 (by decide +kernel)) ?_
          refine Ev.getR D_165 (by decide +kernel) F_9_165 T_0_8 (x := 77) (S_oR k_28 (by decide +kernel)) ?_
          refine Ev.seg D_165 [(.iload_n 3, 1)] (by decide +kernel) (j := 0) (pc' := 61) (lv' := [(0, .ref 0), (1, .int v1), (2, .int v2), (3, .int v3)]) (st' := [.int v3, .ref 77]) rfl ?_
          by_cases b61 : ¬ (v3 < 0 ∨ 21 ≤ v3.toNatClampNeg)
          rotate_left
          · rw [if_neg b61] at h; cases h
          rw [if_pos b61] at h
          refine Ev.aald D_165 (by decide +kernel) (kd := 26) ⟨by decide, by decide⟩ (x := (78 + v3.toNatClampNeg)) (S_aR k_77 b61 (lit_aa (e := 78) (n := 21) (by decide +kernel) b61)) ?_
          refine Ev.seg D_165 [(.iload_n 1, 1)] (by decide +kernel) (j := 0) (pc' := 63) (lv' := [(0, .ref 0), (1, .int v1), (2, .int v2), (3, .int v3)]) (st' := [.int v1, .ref (78 + v3.toNatClampNeg)]) rfl ?_
          obtain ⟨x18, e18, h⟩ := bd h
          refine Ev.iald D_165 (by decide +kernel) (S_aI (lit_row (e := 78) (n := 21) (by decide +kernel) b61) e18) ?_
          refine Ev.seg D_165 [(.istore 4, 2), (.aload_n 0, 1)] (by decide +kernel) (j := 0) (pc' := 67) (lv' := [(4, .int x18), (0, .ref 0), (1, .int v1), (2, .int v2), (3, .int v3)]) (st' := [.ref 0]) rfl ?_
          refine Ev.getR D_165 (by decide +kernel) F_9_28 T_9_2 (x := 16) (S_oR k_0 (by decide +kernel)) ?_
          refine Ev.seg D_165 [(.iload_n 1, 1), (.iload_n 2, 1), (.iload_n 3, 1)] (by decide +kernel) (j := 0) (pc' := 73) (lv' := [(4, .int x18), (0, .ref 0), (1, .int v1), (2, .int v2), (3, .int v3)]) (st' := [.int v3, .int v2, .int v1, .ref 16]) rfl ?_
          obtain ⟨p20, e20, h⟩ := bd h
          refine Ev.callv D_165 E_46 (by decide +kernel) C_9_376 16 [.int v1, .int v2, .int v3] (r := []) rfl (gd_o k_16 (by decide)) rfl (Nat.le_of_ble_eq_true rfl) (Nat.le_of_ble_eq_true rfl) (gR_addAct_ok (by omega) (by decide) e20) ?_
          refine Ev.seg D_165 [(.aload_n 0, 1)] (by decide +kernel) (j := 0) (pc' := 77) (lv' := [(4, .int x18), (0, .ref 0), (1, .int v1), (2, .int v2), (3, .int v3)]) (st' := [.ref 0]) rfl ?_
          obtain ⟨p21, e21, h⟩ := bd h
          refine Ev.callv D_165 E_94 (by decide +kernel) C_9_107 0 [] (r := []) rfl (gd_o k_0 (by decide)) rfl (Nat.le_of_ble_eq_true rfl) (Nat.le_of_ble_eq_true rfl) (gL_sailAgain_ok (by omega)  e21) ?_
          refine Ev.seg D_165 [(.iload 4, 2)] (by decide +kernel) (j := 0) (pc' := 82) (lv' := [(4, .int x18), (0, .ref 0), (1, .int v1), (2, .int v2), (3, .int v3)]) (st' := [.int x18]) rfl ?_
          cases h
          obtain rfl : o = _ := ho
          exact Ev.iret D_165 (by decide +kernel)
        · have c14 : ¬ (s.1 16 8) < (30 : Int32) := of_decide_eq_false c14
          rw [if_neg c14] at h
          refine Ev.seg D_165 [(.bipush (-5), 2)] (by decide +kernel) (j := 0) (pc' := 52) (lv' := [(0, .ref 0), (1, .int v1), (2, .int v2), (3, .int v3)]) (st' := [.int (-5 : Int32)]) rfl ?_
          cases h
          obtain rfl : o = _ := ho
          exact Ev.iret D_165 (by decide +kernel)
      · have c11 : p10 = 0 := Decidable.of_not_not (of_decide_eq_false c11)
        rw [if_pos c11] at h
        refine Ev.seg D_165 [(.bipush (-2), 2)] (by decide +kernel) (j := 0) (pc' := 37) (lv' := [(0, .ref 0), (1, .int v1), (2, .int v2), (3, .int v3)]) (st' := [.int (-2 : Int32)]) rfl ?_
        cases h
        obtain rfl : o = _ := ho
        exact Ev.iret D_165 (by decide +kernel)
/- PennantLawn sneeze: 166 -/
def gL_sneeze (v1 : Int32) (v2 : Int32) (s : mT) : Option (Int32 × mT) :=
  (gR_hasWatcher 16 v1 s).bind fun p2 =>
  if p2 = 0 then
    some (((-2 : Int32), s))
  else
    (gR_hasEarlyStep 16 v2 s).bind fun p6 =>
    if p6 = 0 then
      some (((-2 : Int32), s))
    else
      if (s.1 16 8) < (30 : Int32) then
        (rdI (s.1 54) 21 v2).bind fun x13 =>
        (gR_addAct 16 v1 (-1 : Int32) v2 s).bind fun p15 =>
        (gL_sailAgain p15).bind fun p16 =>
        some (((x13 >>> (v1 &&& 31)) &&& (1 : Int32), p16))
      else
        some (((-5 : Int32), s))
set_option maxRecDepth 8000 in
theorem gL_sneeze_ok {L d : Nat} (hd : 6 ≤ d) {v1 : Int32} {v2 : Int32} {s : mT} {p : Int32 × mT} (h : gL_sneeze v1 v2 s = some p) : Ev d 166 0 [(0, .ref 0), (1, .int v1), (2, .int v2)] [] (uS L s) (some (.int p.1), uS L p.2) := by
  obtain ⟨d, rfl⟩ : ∃ e, d = e + 1 := ⟨d - 1, by omega⟩
  obtain ⟨o, ho⟩ : ∃ o : Option Value × mS, o = (some (.int p.1), uS L p.2) := ⟨_, rfl⟩
  rw [← ho]
  unfold gL_sneeze at h
  refine Ev.seg D_166 [(.aload_n 0, 1)] (by decide +kernel) (j := 0) (pc' := 1) (lv' := [(0, .ref 0), (1, .int v1), (2, .int v2)]) (st' := [.ref 0]) rfl ?_
  refine Ev.getR D_166 (by decide +kernel) F_9_28 T_9_2 (x := 16) (S_oR k_0 (by decide +kernel)) ?_
  refine Ev.seg D_166 [(.iload_n 1, 1)] (by decide +kernel) (j := 0) (pc' := 5) (lv' := [(0, .ref 0), (1, .int v1), (2, .int v2)]) (st' := [.int v1, .ref 16]) rfl ?_
  obtain ⟨p2, e2, h⟩ := bd h
  refine Ev.callv D_166 E_40 (by decide +kernel) C_9_134 16 [.int v1] (r := []) rfl (gd_o k_16 (by decide)) rfl (Nat.le_of_ble_eq_true rfl) (Nat.le_of_ble_eq_true rfl) (gR_hasWatcher_ok (by omega) (by decide) e2) ?_
  refine Ev.if_ D_166 (c := .eq) (off := 14) (by decide +kernel) (t := 22) rfl (fun c3 => ?_) (fun c3 => ?_)
  · have c3 : p2 = 0 := of_decide_eq_true c3
    rw [if_pos c3] at h
    refine Ev.seg D_166 [(.bipush (-2), 2)] (by decide +kernel) (j := 0) (pc' := 24) (lv' := [(0, .ref 0), (1, .int v1), (2, .int v2)]) (st' := [.int (-2 : Int32)]) rfl ?_
    cases h
    obtain rfl : o = _ := ho
    exact Ev.iret D_166 (by decide +kernel)
  · have c3 : ¬ p2 = 0 := of_decide_eq_false c3
    rw [if_neg c3] at h
    refine Ev.seg D_166 [(.aload_n 0, 1)] (by decide +kernel) (j := 0) (pc' := 12) (lv' := [(0, .ref 0), (1, .int v1), (2, .int v2)]) (st' := [.ref 0]) rfl ?_
    refine Ev.getR D_166 (by decide +kernel) F_9_28 T_9_2 (x := 16) (S_oR k_0 (by decide +kernel)) ?_
    refine Ev.seg D_166 [(.iload_n 2, 1)] (by decide +kernel) (j := 0) (pc' := 16) (lv' := [(0, .ref 0), (1, .int v1), (2, .int v2)]) (st' := [.int v2, .ref 16]) rfl ?_
    obtain ⟨p6, e6, h⟩ := bd h
    refine Ev.callv D_166 E_44 (by decide +kernel) C_9_168 16 [.int v2] (r := []) rfl (gd_o k_16 (by decide)) rfl (Nat.le_of_ble_eq_true rfl) (Nat.le_of_ble_eq_true rfl) (gR_hasEarlyStep_ok (by omega) (by decide) e6) ?_
    refine Ev.if_ D_166 (c := .ne) (off := 6) (by decide +kernel) (t := 25) rfl (fun c7 => ?_) (fun c7 => ?_)
    · have c7 : ¬ p6 = 0 := of_decide_eq_true c7
      rw [if_neg c7] at h
      refine Ev.seg D_166 [(.aload_n 0, 1)] (by decide +kernel) (j := 0) (pc' := 26) (lv' := [(0, .ref 0), (1, .int v1), (2, .int v2)]) (st' := [.ref 0]) rfl ?_
      refine Ev.getR D_166 (by decide +kernel) F_9_28 T_9_2 (x := 16) (S_oR k_0 (by decide +kernel)) ?_
      refine Ev.getI D_166 (by decide +kernel) F_9_373 (Or.inl T_2_8) (S_oI k_16) ?_
      refine Ev.seg D_166 [(.bipush 30, 2)] (by decide +kernel) (j := 0) (pc' := 34) (lv' := [(0, .ref 0), (1, .int v1), (2, .int v2)]) (st' := [.int (30 : Int32), .int (s.1 16 8)]) rfl ?_
      refine Ev.icmp D_166 (c := .lt) (off := 6) (by decide +kernel) (t := 40) rfl (fun c10 => ?_) (fun c10 => ?_)
      · have c10 : (s.1 16 8) < (30 : Int32) := of_decide_eq_true c10
        rw [if_pos c10] at h
        refine Ev.seg D_166 [(.aload_n 0, 1)] (by decide +kernel) (j := 0) (pc' := 41) (lv' := [(0, .ref 0), (1, .int v1), (2, .int v2)]) (st' := [.ref 0]) rfl ?_
        refine Ev.getR D_166 (by decide +kernel) F_9_37 T_9_5 (x := 28) (S_oR k_0 (by decide +kernel)) ?_
        refine Ev.getR D_166 (by decide +kernel) F_9_173 T_0_6 (x := 54) (S_oR k_28 (by decide +kernel)) ?_
        refine Ev.seg D_166 [(.iload_n 2, 1)] (by decide +kernel) (j := 0) (pc' := 48) (lv' := [(0, .ref 0), (1, .int v1), (2, .int v2)]) (st' := [.int v2, .ref 54]) rfl ?_
        obtain ⟨x13, e13, h⟩ := bd h
        refine Ev.iald D_166 (by decide +kernel) (S_aI k_54 e13) ?_
        refine Ev.seg D_166 [(.iload_n 1, 1), (.ishr, 1), (.iconst 1, 1), (.iand, 1), (.istore_n 3, 1), (.aload_n 0, 1)] (by decide +kernel) (j := 0) (pc' := 55) (lv' := [(3, .int ((x13 >>> (v1 &&& 31)) &&& (1 : Int32))), (0, .ref 0), (1, .int v1), (2, .int v2)]) (st' := [.ref 0]) rfl ?_
        refine Ev.getR D_166 (by decide +kernel) F_9_28 T_9_2 (x := 16) (S_oR k_0 (by decide +kernel)) ?_
        refine Ev.seg D_166 [(.iload_n 1, 1), (.iconst (-1), 1), (.iload_n 2, 1)] (by decide +kernel) (j := 0) (pc' := 61) (lv' := [(3, .int ((x13 >>> (v1 &&& 31)) &&& (1 : Int32))), (0, .ref 0), (1, .int v1), (2, .int v2)]) (st' := [.int v2, .int (-1 : Int32), .int v1, .ref 16]) rfl ?_
        obtain ⟨p15, e15, h⟩ := bd h
        refine Ev.callv D_166 E_46 (by decide +kernel) C_9_376 16 [.int v1, .int (-1 : Int32), .int v2] (r := []) rfl (gd_o k_16 (by decide)) rfl (Nat.le_of_ble_eq_true rfl) (Nat.le_of_ble_eq_true rfl) (gR_addAct_ok (by omega) (by decide) e15) ?_
        refine Ev.seg D_166 [(.aload_n 0, 1)] (by decide +kernel) (j := 0) (pc' := 65) (lv' := [(3, .int ((x13 >>> (v1 &&& 31)) &&& (1 : Int32))), (0, .ref 0), (1, .int v1), (2, .int v2)]) (st' := [.ref 0]) rfl ?_
        obtain ⟨p16, e16, h⟩ := bd h
        refine Ev.callv D_166 E_94 (by decide +kernel) C_9_107 0 [] (r := []) rfl (gd_o k_0 (by decide)) rfl (Nat.le_of_ble_eq_true rfl) (Nat.le_of_ble_eq_true rfl) (gL_sailAgain_ok (by omega)  e16) ?_
        refine Ev.seg D_166 [(.iload_n 3, 1)] (by decide +kernel) (j := 0) (pc' := 69) (lv' := [(3, .int ((x13 >>> (v1 &&& 31)) &&& (1 : Int32))), (0, .ref 0), (1, .int v1), (2, .int v2)]) (st' := [.int ((x13 >>> (v1 &&& 31)) &&& (1 : Int32))]) rfl ?_
        cases h
        obtain rfl : o = _ := ho
        exact Ev.iret D_166 (by decide +kernel)
      · have c10 : ¬ (s.1 16 8) < (30 : Int32) := of_decide_eq_false c10
        rw [if_neg c10] at h
        refine Ev.seg D_166 [(.bipush (-5), 2)] (by decide +kernel) (j := 0) (pc' := 39) (lv' := [(0, .ref 0), (1, .int v1), (2, .int v2)]) (st' := [.int (-5 : Int32)]) rfl ?_
        cases h
        obtain rfl : o = _ := ho
        exact Ev.iret D_166 (by decide +kernel)
    · have c7 : p6 = 0 := Decidable.of_not_not (of_decide_eq_false c7)
      rw [if_pos c7] at h
      refine Ev.seg D_166 [(.bipush (-2), 2)] (by decide +kernel) (j := 0) (pc' := 24) (lv' := [(0, .ref 0), (1, .int v1), (2, .int v2)]) (st' := [.int (-2 : Int32)]) rfl ?_
      cases h
      obtain rfl : o = _ := ho
      exact Ev.iret D_166 (by decide +kernel)
/- PennantLawn undo: 167 -/
def gL_undo (s : mT) : Option (Int32 × mT) :=
  (gR_exists 16 s).bind fun p2 =>
  if p2 = 0 then
    some (((-2 : Int32), s))
  else
    if (1 : Int32) ≤ (s.1 16 8) then
      (gL_sailAgain (stI s 16 8 ((s.1 16 8) - (1 : Int32)))).bind fun p10 =>
      some ((p10.1 16 8, p10))
    else
      some (((-5 : Int32), s))
set_option maxRecDepth 8000 in
theorem gL_undo_ok {L d : Nat} (hd : 6 ≤ d) {s : mT} {p : Int32 × mT} (h : gL_undo s = some p) : Ev d 167 0 [(0, .ref 0)] [] (uS L s) (some (.int p.1), uS L p.2) := by
  obtain ⟨d, rfl⟩ : ∃ e, d = e + 1 := ⟨d - 1, by omega⟩
  obtain ⟨o, ho⟩ : ∃ o : Option Value × mS, o = (some (.int p.1), uS L p.2) := ⟨_, rfl⟩
  rw [← ho]
  unfold gL_undo at h
  refine Ev.seg D_167 [(.aload_n 0, 1)] (by decide +kernel) (j := 0) (pc' := 1) (lv' := [(0, .ref 0)]) (st' := [.ref 0]) rfl ?_
  refine Ev.getR D_167 (by decide +kernel) F_9_28 T_9_2 (x := 16) (S_oR k_0 (by decide +kernel)) ?_
  obtain ⟨p2, e2, h⟩ := bd h
  refine Ev.callv D_167 E_43 (by decide +kernel) C_9_196 16 [] (r := []) rfl (gd_o k_16 (by decide)) rfl (Nat.le_of_ble_eq_true rfl) (Nat.le_of_ble_eq_true rfl) (gR_exists_ok (by omega) (by decide) e2) ?_
  refine Ev.if_ D_167 (c := .ne) (off := 6) (by decide +kernel) (t := 13) rfl (fun c3 => ?_) (fun c3 => ?_)
  · have c3 : ¬ p2 = 0 := of_decide_eq_true c3
    rw [if_neg c3] at h
    refine Ev.seg D_167 [(.aload_n 0, 1)] (by decide +kernel) (j := 0) (pc' := 14) (lv' := [(0, .ref 0)]) (st' := [.ref 0]) rfl ?_
    refine Ev.getR D_167 (by decide +kernel) F_9_28 T_9_2 (x := 16) (S_oR k_0 (by decide +kernel)) ?_
    refine Ev.getI D_167 (by decide +kernel) F_9_373 (Or.inl T_2_8) (S_oI k_16) ?_
    refine Ev.seg D_167 [(.iconst 1, 1)] (by decide +kernel) (j := 0) (pc' := 21) (lv' := [(0, .ref 0)]) (st' := [.int (1 : Int32), .int (s.1 16 8)]) rfl ?_
    refine Ev.icmp D_167 (c := .ge) (off := 6) (by decide +kernel) (t := 27) rfl (fun c6 => ?_) (fun c6 => ?_)
    · have c6 : (1 : Int32) ≤ (s.1 16 8) := of_decide_eq_true c6
      rw [if_pos c6] at h
      refine Ev.seg D_167 [(.aload_n 0, 1)] (by decide +kernel) (j := 0) (pc' := 28) (lv' := [(0, .ref 0)]) (st' := [.ref 0]) rfl ?_
      refine Ev.getR D_167 (by decide +kernel) F_9_28 T_9_2 (x := 16) (S_oR k_0 (by decide +kernel)) ?_
      refine Ev.seg D_167 [(.dup, 1)] (by decide +kernel) (j := 0) (pc' := 32) (lv' := [(0, .ref 0)]) (st' := [.ref 16, .ref 16]) rfl ?_
      refine Ev.getI D_167 (by decide +kernel) F_9_373 (Or.inl T_2_8) (S_oI k_16) ?_
      refine Ev.seg D_167 [(.iconst 1, 1), (.isub, 1)] (by decide +kernel) (j := 0) (pc' := 37) (lv' := [(0, .ref 0)]) (st' := [.int ((s.1 16 8) - (1 : Int32)), .ref 16]) rfl ?_
      refine Ev.putI D_167 (by decide +kernel) F_9_373 N_2_8 T_2_8 (S_pI k_16) ?_
      refine Ev.seg D_167 [(.aload_n 0, 1)] (by decide +kernel) (j := 0) (pc' := 41) (lv' := [(0, .ref 0)]) (st' := [.ref 0]) rfl ?_
      obtain ⟨p10, e10, h⟩ := bd h
      refine Ev.callv D_167 E_94 (by decide +kernel) C_9_107 0 [] (r := []) rfl (gd_o k_0 (by decide)) rfl (Nat.le_of_ble_eq_true rfl) (Nat.le_of_ble_eq_true rfl) (gL_sailAgain_ok (by omega)  e10) ?_
      refine Ev.seg D_167 [(.aload_n 0, 1)] (by decide +kernel) (j := 0) (pc' := 45) (lv' := [(0, .ref 0)]) (st' := [.ref 0]) rfl ?_
      refine Ev.getR D_167 (by decide +kernel) F_9_28 T_9_2 (x := 16) (S_oR k_0 (by decide +kernel)) ?_
      refine Ev.getI D_167 (by decide +kernel) F_9_373 (Or.inl T_2_8) (S_oI k_16) ?_
      cases h
      obtain rfl : o = _ := ho
      exact Ev.iret D_167 (by decide +kernel)
    · have c6 : ¬ (1 : Int32) ≤ (s.1 16 8) := of_decide_eq_false c6
      rw [if_neg c6] at h
      refine Ev.seg D_167 [(.bipush (-5), 2)] (by decide +kernel) (j := 0) (pc' := 26) (lv' := [(0, .ref 0)]) (st' := [.int (-5 : Int32)]) rfl ?_
      cases h
      obtain rfl : o = _ := ho
      exact Ev.iret D_167 (by decide +kernel)
  · have c3 : p2 = 0 := Decidable.of_not_not (of_decide_eq_false c3)
    rw [if_pos c3] at h
    refine Ev.seg D_167 [(.bipush (-2), 2)] (by decide +kernel) (j := 0) (pc' := 12) (lv' := [(0, .ref 0)]) (st' := [.int (-2 : Int32)]) rfl ?_
    cases h
    obtain rfl : o = _ := ho
    exact Ev.iret D_167 (by decide +kernel)
/- PennantLawn anew: 168 -/
def gL_anew (s : mT) : Option (Int32 × mT) :=
  (gR_exists 16 s).bind fun p2 =>
  if p2 = 0 then
    some (((-2 : Int32), s))
  else
    (gL_sailAgain (stI s 16 8 (0 : Int32))).bind fun p8 =>
    some ((s.1 16 8, p8))
set_option maxRecDepth 8000 in
theorem gL_anew_ok {L d : Nat} (hd : 6 ≤ d) {s : mT} {p : Int32 × mT} (h : gL_anew s = some p) : Ev d 168 0 [(0, .ref 0)] [] (uS L s) (some (.int p.1), uS L p.2) := by
  obtain ⟨d, rfl⟩ : ∃ e, d = e + 1 := ⟨d - 1, by omega⟩
  obtain ⟨o, ho⟩ : ∃ o : Option Value × mS, o = (some (.int p.1), uS L p.2) := ⟨_, rfl⟩
  rw [← ho]
  unfold gL_anew at h
  refine Ev.seg D_168 [(.aload_n 0, 1)] (by decide +kernel) (j := 0) (pc' := 1) (lv' := [(0, .ref 0)]) (st' := [.ref 0]) rfl ?_
  refine Ev.getR D_168 (by decide +kernel) F_9_28 T_9_2 (x := 16) (S_oR k_0 (by decide +kernel)) ?_
  obtain ⟨p2, e2, h⟩ := bd h
  refine Ev.callv D_168 E_43 (by decide +kernel) C_9_196 16 [] (r := []) rfl (gd_o k_16 (by decide)) rfl (Nat.le_of_ble_eq_true rfl) (Nat.le_of_ble_eq_true rfl) (gR_exists_ok (by omega) (by decide) e2) ?_
  refine Ev.if_ D_168 (c := .ne) (off := 6) (by decide +kernel) (t := 13) rfl (fun c3 => ?_) (fun c3 => ?_)
  · have c3 : ¬ p2 = 0 := of_decide_eq_true c3
    rw [if_neg c3] at h
    refine Ev.seg D_168 [(.aload_n 0, 1)] (by decide +kernel) (j := 0) (pc' := 14) (lv' := [(0, .ref 0)]) (st' := [.ref 0]) rfl ?_
    refine Ev.getR D_168 (by decide +kernel) F_9_28 T_9_2 (x := 16) (S_oR k_0 (by decide +kernel)) ?_
    refine Ev.getI D_168 (by decide +kernel) F_9_373 (Or.inl T_2_8) (S_oI k_16) ?_
    refine Ev.seg D_168 [(.istore_n 1, 1), (.aload_n 0, 1)] (by decide +kernel) (j := 0) (pc' := 22) (lv' := [(1, .int (s.1 16 8)), (0, .ref 0)]) (st' := [.ref 0]) rfl ?_
    refine Ev.getR D_168 (by decide +kernel) F_9_28 T_9_2 (x := 16) (S_oR k_0 (by decide +kernel)) ?_
    refine Ev.seg D_168 [(.iconst 0, 1)] (by decide +kernel) (j := 0) (pc' := 26) (lv' := [(1, .int (s.1 16 8)), (0, .ref 0)]) (st' := [.int (0 : Int32), .ref 16]) rfl ?_
    refine Ev.putI D_168 (by decide +kernel) F_9_373 N_2_8 T_2_8 (S_pI k_16) ?_
    refine Ev.seg D_168 [(.aload_n 0, 1)] (by decide +kernel) (j := 0) (pc' := 30) (lv' := [(1, .int (s.1 16 8)), (0, .ref 0)]) (st' := [.ref 0]) rfl ?_
    obtain ⟨p8, e8, h⟩ := bd h
    refine Ev.callv D_168 E_94 (by decide +kernel) C_9_107 0 [] (r := []) rfl (gd_o k_0 (by decide)) rfl (Nat.le_of_ble_eq_true rfl) (Nat.le_of_ble_eq_true rfl) (gL_sailAgain_ok (by omega)  e8) ?_
    refine Ev.seg D_168 [(.iload_n 1, 1)] (by decide +kernel) (j := 0) (pc' := 34) (lv' := [(1, .int (s.1 16 8)), (0, .ref 0)]) (st' := [.int (s.1 16 8)]) rfl ?_
    cases h
    obtain rfl : o = _ := ho
    exact Ev.iret D_168 (by decide +kernel)
  · have c3 : p2 = 0 := Decidable.of_not_not (of_decide_eq_false c3)
    rw [if_pos c3] at h
    refine Ev.seg D_168 [(.bipush (-2), 2)] (by decide +kernel) (j := 0) (pc' := 12) (lv' := [(0, .ref 0)]) (st' := [.int (-2 : Int32)]) rfl ?_
    cases h
    obtain rfl : o = _ := ho
    exact Ev.iret D_168 (by decide +kernel)
/- PennantLawn isSeed: 170 -/
def gL_isSeed (v0 : Int32) (s : mT) : Option (Int32) :=
  (
    if v0 < 0 then
      some ((0 : Int32))
    else
      if (2000000000 : Int32) < v0 then
        some ((0 : Int32))
      else
        some ((1 : Int32)) : Option (Int32)).bind fun x1 =>
  if x1 = 0 ∨ x1 = 1 then some (x1) else none
set_option maxRecDepth 8000 in
theorem gL_isSeed_ok {L d : Nat} (hd : 1 ≤ d) {v0 : Int32} {s : mT} {p : Int32} (h : gL_isSeed v0 s = some p) : Ev d 170 0 [(0, .int v0)] [] (uS L s) (some (.int p), uS L s) := by
  obtain ⟨d, rfl⟩ : ∃ e, d = e + 1 := ⟨d - 1, by omega⟩
  obtain ⟨o, ho⟩ : ∃ o : Option Value × mS, o = (some (.int p), uS L s) := ⟨_, rfl⟩
  rw [← ho]
  unfold gL_isSeed at h
  refine Ev.seg D_170 [(.iload_n 0, 1)] (by decide +kernel) (j := 0) (pc' := 1) (lv' := [(0, .int v0)]) (st' := [.int v0]) rfl ?_
  obtain ⟨x1, g1, h⟩ := bd h
  have j1 : Ev (d + 1) 170 16 [] [.int x1] (uS L s) o := by
    clear g1
    by_cases c4 : x1 = 0 ∨ x1 = 1
    · rw [if_pos c4] at h
      cases h
      obtain rfl : o = _ := ho
      exact Ev.zret D_170 c4 (by decide +kernel)
    · rw [if_neg c4] at h; cases h
  clear h
  refine Ev.if_ D_170 (c := .lt) (off := 14) (by decide +kernel) (t := 15) rfl (fun c1 => ?_) (fun c1 => ?_)
  · have c1 : v0 < 0 := of_decide_eq_true c1
    rw [if_pos c1] at g1
    refine Ev.seg D_170 [(.iconst 0, 1)] (by decide +kernel) (j := 0) (pc' := 16) (lv' := [(0, .int v0)]) (st' := [.int (0 : Int32)]) rfl ?_
    cases g1
    exact Ev.sub2 j1 subL_nil
  · have c1 : ¬ v0 < 0 := of_decide_eq_false c1
    rw [if_neg c1] at g1
    refine Ev.seg D_170 [(.iload_n 0, 1)] (by decide +kernel) (j := 0) (pc' := 5) (lv' := [(0, .int v0)]) (st' := [.int v0]) rfl ?_
    refine Ev.ldcw D_170 (i := 397) (by decide +kernel) (x := (2000000000 : Int32)) (by decide +kernel) ?_
    refine Ev.icmp D_170 (c := .gt) (off := 7) (by decide +kernel) (t := 15) rfl (fun c3 => ?_) (fun c3 => ?_)
    · have c3 : (2000000000 : Int32) < v0 := of_decide_eq_true c3
      rw [if_pos c3] at g1
      refine Ev.seg D_170 [(.iconst 0, 1)] (by decide +kernel) (j := 0) (pc' := 16) (lv' := [(0, .int v0)]) (st' := [.int (0 : Int32)]) rfl ?_
      cases g1
      exact Ev.sub2 j1 subL_nil
    · have c3 : ¬ (2000000000 : Int32) < v0 := of_decide_eq_false c3
      rw [if_neg c3] at g1
      refine Ev.seg D_170 [(.iconst 1, 1), (.goto 4, 3)] (by decide +kernel) (j := 0) (pc' := 16) (lv' := [(0, .int v0)]) (st' := [.int (1 : Int32)]) rfl ?_
      cases g1
      exact Ev.sub2 j1 subL_nil
/- PennantLawn drawnKingfishers: 171 -/
def gL_drawnKingfishers_h9 (s : mT) (q : Int64 × Int32 × Int32) : Option ((Int64 × Int32 × Int32) ⊕ (Int32)) :=
  if (s.1 16 0) ≤ q.2.2 then
    some (.inr q.2.1)
  else
    if (2147483648 : Int64) = 0 then none else
    if (65536 : Int64) = 0 then none else
    if (10 : Int64) = 0 then none else
    (
      if 0 ≤ (lg_cmp ((((((1103515245 : Int64) * q.1) + (12345 : Int64)) - (((1103515245 : Int64) * q.1) + (12345 : Int64)) / (2147483648 : Int64) * (2147483648 : Int64)) / (65536 : Int64)) - (((((1103515245 : Int64) * q.1) + (12345 : Int64)) - (((1103515245 : Int64) * q.1) + (12345 : Int64)) / (2147483648 : Int64) * (2147483648 : Int64)) / (65536 : Int64)) / (10 : Int64) * (10 : Int64)) ((s.1 16 3).toInt64)) then
        some (q.2.1)
      else
        some (q.2.1 ||| ((1 : Int32) <<< (q.2.2 &&& 31))) : Option (Int32)).bind fun x14 =>
    some (.inl ((((1103515245 : Int64) * q.1) + (12345 : Int64)) - (((1103515245 : Int64) * q.1) + (12345 : Int64)) / (2147483648 : Int64) * (2147483648 : Int64), x14, q.2.2 + (1 : Int32)))
set_option maxRecDepth 8000 in
theorem gL_drawnKingfishers_h9_ok {L d : Nat} (hd : 1 ≤ d + 1) {s : mT} : ∀ (q : Int64 × Int32 × Int32) (x : (Int64 × Int32 × Int32) ⊕ (Int32)), gL_drawnKingfishers_h9 s q = some x → ∀ o, sK (fun q => Ev (d + 1) 171 9 [(0, .ref 0), (2, .long q.1), (4, .int q.2.1), (5, .int q.2.2)] [] (uS L s) o) (fun r => Ev (d + 1) 171 71 [(4, .int r)] [] (uS L s) o) x → Ev (d + 1) 171 9 [(0, .ref 0), (2, .long q.1), (4, .int q.2.1), (5, .int q.2.2)] [] (uS L s) o := by
  intro q x h o ho
  unfold gL_drawnKingfishers_h9 at h
  refine Ev.seg D_171 [(.iload 5, 2), (.aload_n 0, 1)] (by decide +kernel) (j := 0) (pc' := 12) (lv' := [(0, .ref 0), (2, .long q.1), (4, .int q.2.1), (5, .int q.2.2)]) (st' := [.ref 0, .int q.2.2]) rfl ?_
  refine Ev.getR D_171 (by decide +kernel) F_9_28 T_9_2 (x := 16) (S_oR k_0 (by decide +kernel)) ?_
  refine Ev.getI D_171 (by decide +kernel) F_9_187 (Or.inl T_2_0) (S_oI k_16) ?_
  refine Ev.icmp D_171 (c := .ge) (off := 53) (by decide +kernel) (t := 71) rfl (fun c3 => ?_) (fun c3 => ?_)
  · have c3 : (s.1 16 0) ≤ q.2.2 := of_decide_eq_true c3
    rw [if_pos c3] at h
    cases h
    exact Ev.sub (lv' := [(4, .int q.2.1)]) (subL_cons rfl subL_nil) ho
  · have c3 : ¬ (s.1 16 0) ≤ q.2.2 := of_decide_eq_false c3
    rw [if_neg c3] at h
    refine Ev.ldc2 D_171 (i := 389) (by decide +kernel) (x := (1103515245 : Int64)) (by decide +kernel) ?_
    refine Ev.seg D_171 [(.lload_n 2, 1), (.lmul, 1)] (by decide +kernel) (j := 0) (pc' := 26) (lv' := [(0, .ref 0), (2, .long q.1), (4, .int q.2.1), (5, .int q.2.2)]) (st' := [.long ((1103515245 : Int64) * q.1)]) rfl ?_
    refine Ev.ldc2 D_171 (i := 391) (by decide +kernel) (x := (12345 : Int64)) (by decide +kernel) ?_
    refine Ev.seg D_171 [(.ladd, 1)] (by decide +kernel) (j := 0) (pc' := 30) (lv' := [(0, .ref 0), (2, .long q.1), (4, .int q.2.1), (5, .int q.2.2)]) (st' := [.long (((1103515245 : Int64) * q.1) + (12345 : Int64))]) rfl ?_
    refine Ev.ldc2 D_171 (i := 393) (by decide +kernel) (x := (2147483648 : Int64)) (by decide +kernel) ?_
    by_cases c7 : (2147483648 : Int64) = 0
    · rw [if_pos c7] at h; cases h
    rw [if_neg c7] at h
    refine Ev.lrem D_171 (by decide +kernel) c7 ?_
    refine Ev.seg D_171 [(.lstore_n 2, 1), (.lload_n 2, 1)] (by decide +kernel) (j := 0) (pc' := 36) (lv' := [(2, .long ((((1103515245 : Int64) * q.1) + (12345 : Int64)) - (((1103515245 : Int64) * q.1) + (12345 : Int64)) / (2147483648 : Int64) * (2147483648 : Int64))), (0, .ref 0), (4, .int q.2.1), (5, .int q.2.2)]) (st' := [.long ((((1103515245 : Int64) * q.1) + (12345 : Int64)) - (((1103515245 : Int64) * q.1) + (12345 : Int64)) / (2147483648 : Int64) * (2147483648 : Int64))]) rfl ?_
    refine Ev.ldc2 D_171 (i := 395) (by decide +kernel) (x := (65536 : Int64)) (by decide +kernel) ?_
    by_cases c9 : (65536 : Int64) = 0
    · rw [if_pos c9] at h; cases h
    rw [if_neg c9] at h
    refine Ev.ldiv D_171 (by decide +kernel) c9 ?_
    refine Ev.ldc2 D_171 (i := 363) (by decide +kernel) (x := (10 : Int64)) (by decide +kernel) ?_
    by_cases c11 : (10 : Int64) = 0
    · rw [if_pos c11] at h; cases h
    rw [if_neg c11] at h
    refine Ev.lrem D_171 (by decide +kernel) c11 ?_
    refine Ev.seg D_171 [(.aload_n 0, 1)] (by decide +kernel) (j := 0) (pc' := 45) (lv' := [(2, .long ((((1103515245 : Int64) * q.1) + (12345 : Int64)) - (((1103515245 : Int64) * q.1) + (12345 : Int64)) / (2147483648 : Int64) * (2147483648 : Int64))), (0, .ref 0), (4, .int q.2.1), (5, .int q.2.2)]) (st' := [.ref 0, .long ((((((1103515245 : Int64) * q.1) + (12345 : Int64)) - (((1103515245 : Int64) * q.1) + (12345 : Int64)) / (2147483648 : Int64) * (2147483648 : Int64)) / (65536 : Int64)) - (((((1103515245 : Int64) * q.1) + (12345 : Int64)) - (((1103515245 : Int64) * q.1) + (12345 : Int64)) / (2147483648 : Int64) * (2147483648 : Int64)) / (65536 : Int64)) / (10 : Int64) * (10 : Int64))]) rfl ?_
    refine Ev.getR D_171 (by decide +kernel) F_9_28 T_9_2 (x := 16) (S_oR k_0 (by decide +kernel)) ?_
    refine Ev.getI D_171 (by decide +kernel) F_9_357 (Or.inl T_2_3) (S_oI k_16) ?_
    refine Ev.seg D_171 [(.i2l, 1), (.lcmp, 1)] (by decide +kernel) (j := 0) (pc' := 53) (lv' := [(2, .long ((((1103515245 : Int64) * q.1) + (12345 : Int64)) - (((1103515245 : Int64) * q.1) + (12345 : Int64)) / (2147483648 : Int64) * (2147483648 : Int64))), (0, .ref 0), (4, .int q.2.1), (5, .int q.2.2)]) (st' := [.int (lg_cmp ((((((1103515245 : Int64) * q.1) + (12345 : Int64)) - (((1103515245 : Int64) * q.1) + (12345 : Int64)) / (2147483648 : Int64) * (2147483648 : Int64)) / (65536 : Int64)) - (((((1103515245 : Int64) * q.1) + (12345 : Int64)) - (((1103515245 : Int64) * q.1) + (12345 : Int64)) / (2147483648 : Int64) * (2147483648 : Int64)) / (65536 : Int64)) / (10 : Int64) * (10 : Int64)) ((s.1 16 3).toInt64))]) rfl ?_
    obtain ⟨x14, g14, h⟩ := bd h
    have j14 : Ev (d + 1) 171 65 [(0, .ref 0), (2, .long ((((1103515245 : Int64) * q.1) + (12345 : Int64)) - (((1103515245 : Int64) * q.1) + (12345 : Int64)) / (2147483648 : Int64) * (2147483648 : Int64))), (4, .int x14), (5, .int q.2.2)] [] (uS L s) o := by
      clear g14
      refine Ev.seg D_171 [(.iinc 5 1, 3), (.goto (-59), 3)] (by decide +kernel) (j := 0) (pc' := 9) (lv' := [(5, .int (q.2.2 + (1 : Int32))), (0, .ref 0), (2, .long ((((1103515245 : Int64) * q.1) + (12345 : Int64)) - (((1103515245 : Int64) * q.1) + (12345 : Int64)) / (2147483648 : Int64) * (2147483648 : Int64))), (4, .int x14)]) (st' := []) rfl ?_
      cases h
      exact Ev.sub (lv' := [(0, .ref 0), (2, .long ((((1103515245 : Int64) * q.1) + (12345 : Int64)) - (((1103515245 : Int64) * q.1) + (12345 : Int64)) / (2147483648 : Int64) * (2147483648 : Int64))), (4, .int (x14)), (5, .int (q.2.2 + (1 : Int32)))]) (subL_cons rfl (subL_cons rfl (subL_cons rfl (subL_cons rfl subL_nil)))) ho
    clear h
    refine Ev.if_ D_171 (c := .ge) (off := 12) (by decide +kernel) (t := 65) rfl (fun c14 => ?_) (fun c14 => ?_)
    · have c14 : 0 ≤ (lg_cmp ((((((1103515245 : Int64) * q.1) + (12345 : Int64)) - (((1103515245 : Int64) * q.1) + (12345 : Int64)) / (2147483648 : Int64) * (2147483648 : Int64)) / (65536 : Int64)) - (((((1103515245 : Int64) * q.1) + (12345 : Int64)) - (((1103515245 : Int64) * q.1) + (12345 : Int64)) / (2147483648 : Int64) * (2147483648 : Int64)) / (65536 : Int64)) / (10 : Int64) * (10 : Int64)) ((s.1 16 3).toInt64)) := of_decide_eq_true c14
      rw [if_pos c14] at g14
      cases g14
      exact Ev.sub2 j14 (subL_cons rfl (subL_cons rfl (subL_cons rfl (subL_cons rfl subL_nil))))
    · have c14 : ¬ 0 ≤ (lg_cmp ((((((1103515245 : Int64) * q.1) + (12345 : Int64)) - (((1103515245 : Int64) * q.1) + (12345 : Int64)) / (2147483648 : Int64) * (2147483648 : Int64)) / (65536 : Int64)) - (((((1103515245 : Int64) * q.1) + (12345 : Int64)) - (((1103515245 : Int64) * q.1) + (12345 : Int64)) / (2147483648 : Int64) * (2147483648 : Int64)) / (65536 : Int64)) / (10 : Int64) * (10 : Int64)) ((s.1 16 3).toInt64)) := of_decide_eq_false c14
      rw [if_neg c14] at g14
      refine Ev.seg D_171 [(.iload 4, 2), (.iconst 1, 1), (.iload 5, 2), (.ishl, 1), (.ior, 1), (.istore 4, 2)] (by decide +kernel) (j := 0) (pc' := 65) (lv' := [(4, .int (q.2.1 ||| ((1 : Int32) <<< (q.2.2 &&& 31)))), (2, .long ((((1103515245 : Int64) * q.1) + (12345 : Int64)) - (((1103515245 : Int64) * q.1) + (12345 : Int64)) / (2147483648 : Int64) * (2147483648 : Int64))), (0, .ref 0), (5, .int q.2.2)]) (st' := []) rfl ?_
      cases g14
      exact Ev.sub2 j14 (subL_cons rfl (subL_cons rfl (subL_cons rfl (subL_cons rfl subL_nil))))
theorem gL_drawnKingfishers_h9_w {L d : Nat} (hd : 1 ≤ d + 1) {s : mT} : ∀ (n : Nat) (q : Int64 × Int32 × Int32) (r : Int32), wh n (gL_drawnKingfishers_h9 s) q = some r → ∀ o, (fun r => Ev (d + 1) 171 71 [(4, .int r)] [] (uS L s) o) r → Ev (d + 1) 171 9 [(0, .ref 0), (2, .long q.1), (4, .int q.2.1), (5, .int q.2.2)] [] (uS L s) o :=
  fun n q r h o hc => wh_ev (E := fun (q : Int64 × Int32 × Int32) o => Ev (d + 1) 171 9 [(0, .ref 0), (2, .long q.1), (4, .int q.2.1), (5, .int q.2.2)] [] (uS L s) o) (C := fun (r : Int32) o => (fun r => Ev (d + 1) 171 71 [(4, .int r)] [] (uS L s) o) r) (gL_drawnKingfishers_h9_ok hd  ) n q r h o hc
def gL_drawnKingfishers (v1 : Int32) (s : mT) : Option (Int32) :=
  (wh FU (gL_drawnKingfishers_h9 s) (v1.toInt64, (0 : Int32), (0 : Int32))).bind fun x15 =>
  some (x15)
set_option maxRecDepth 8000 in
theorem gL_drawnKingfishers_ok {L d : Nat} (hd : 1 ≤ d) {v1 : Int32} {s : mT} {p : Int32} (h : gL_drawnKingfishers v1 s = some p) : Ev d 171 0 [(0, .ref 0), (1, .int v1)] [] (uS L s) (some (.int p), uS L s) := by
  obtain ⟨d, rfl⟩ : ∃ e, d = e + 1 := ⟨d - 1, by omega⟩
  obtain ⟨o, ho⟩ : ∃ o : Option Value × mS, o = (some (.int p), uS L s) := ⟨_, rfl⟩
  rw [← ho]
  unfold gL_drawnKingfishers at h
  refine Ev.seg D_171 [(.iload_n 1, 1), (.i2l, 1), (.lstore_n 2, 1), (.iconst 0, 1), (.istore 4, 2), (.iconst 0, 1), (.istore 5, 2)] (by decide +kernel) (j := 0) (pc' := 9) (lv' := [(5, .int (0 : Int32)), (4, .int (0 : Int32)), (2, .long v1.toInt64), (0, .ref 0), (1, .int v1)]) (st' := []) rfl ?_
  obtain ⟨x15, w15, h⟩ := bd h
  have j15 : Ev (d + 1) 171 71 [(4, .int x15)] [] (uS L s) o := by
    clear w15
    refine Ev.seg D_171 [(.iload 4, 2)] (by decide +kernel) (j := 0) (pc' := 73) (lv' := [(4, .int x15)]) (st' := [.int x15]) rfl ?_
    cases h
    obtain rfl : o = _ := ho
    exact Ev.iret D_171 (by decide +kernel)
  exact Ev.sub (lv' := [(0, .ref 0), (2, .long v1.toInt64), (4, .int (0 : Int32)), (5, .int (0 : Int32))]) (subL_cons rfl (subL_cons rfl (subL_cons rfl (subL_cons rfl subL_nil)))) (gL_drawnKingfishers_h9_w hd   _ _ _ w15 _ j15)
/- PennantLawn drawnWinner: 172 -/
def gL_drawnWinner (v1 : Int32) (s : mT) : Option (Int32 × mT) :=
  (gC_prepare 121 s).bind fun p2 =>
  (gL_drawnKingfishers v1 p2).bind fun p4 =>
  (gC_drawKingfishers 121 p4 p2).bind fun p5 =>
  (gC_sailToWinner 121 p5).bind fun p7 =>
  some ((p7.1, p7.2))
set_option maxRecDepth 8000 in
theorem gL_drawnWinner_ok {L d : Nat} (hd : 6 ≤ d) {v1 : Int32} {s : mT} {p : Int32 × mT} (h : gL_drawnWinner v1 s = some p) : Ev d 172 0 [(0, .ref 0), (1, .int v1)] [] (uS L s) (some (.int p.1), uS L p.2) := by
  obtain ⟨d, rfl⟩ : ∃ e, d = e + 1 := ⟨d - 1, by omega⟩
  obtain ⟨o, ho⟩ : ∃ o : Option Value × mS, o = (some (.int p.1), uS L p.2) := ⟨_, rfl⟩
  rw [← ho]
  unfold gL_drawnWinner at h
  refine Ev.seg D_172 [(.aload_n 0, 1)] (by decide +kernel) (j := 0) (pc' := 1) (lv' := [(0, .ref 0), (1, .int v1)]) (st' := [.ref 0]) rfl ?_
  refine Ev.getR D_172 (by decide +kernel) F_9_41 T_9_6 (x := 121) (S_oR k_0 (by decide +kernel)) ?_
  obtain ⟨p2, e2, h⟩ := bd h
  refine Ev.callv D_172 E_1 (by decide +kernel) C_9_241 121 [] (r := []) rfl (gd_o k_121 (by decide)) rfl (Nat.le_of_ble_eq_true rfl) (Nat.le_of_ble_eq_true rfl) (gC_prepare_ok (by omega) (by decide) e2) ?_
  refine Ev.seg D_172 [(.aload_n 0, 1)] (by decide +kernel) (j := 0) (pc' := 8) (lv' := [(0, .ref 0), (1, .int v1)]) (st' := [.ref 0]) rfl ?_
  refine Ev.getR D_172 (by decide +kernel) F_9_41 T_9_6 (x := 121) (S_oR k_0 (by decide +kernel)) ?_
  refine Ev.seg D_172 [(.aload_n 0, 1), (.iload_n 1, 1)] (by decide +kernel) (j := 0) (pc' := 13) (lv' := [(0, .ref 0), (1, .int v1)]) (st' := [.int v1, .ref 0, .ref 121]) rfl ?_
  obtain ⟨p4, e4, h⟩ := bd h
  refine Ev.callv D_172 E_171 (by decide +kernel) C_9_383 0 [.int v1] (r := [.ref 121]) rfl (gd_o k_0 (by decide)) rfl (Nat.le_of_ble_eq_true rfl) (Nat.le_of_ble_eq_true rfl) (gL_drawnKingfishers_ok (by omega)  e4) ?_
  obtain ⟨p5, e5, h⟩ := bd h
  refine Ev.callv D_172 E_27 (by decide +kernel) C_9_360 121 [.int p4] (r := []) rfl (gd_o k_121 (by decide)) rfl (Nat.le_of_ble_eq_true rfl) (Nat.le_of_ble_eq_true rfl) (gC_drawKingfishers_ok (by omega) (by decide) e5) ?_
  refine Ev.seg D_172 [(.aload_n 0, 1)] (by decide +kernel) (j := 0) (pc' := 20) (lv' := [(0, .ref 0), (1, .int v1)]) (st' := [.ref 0]) rfl ?_
  refine Ev.getR D_172 (by decide +kernel) F_9_41 T_9_6 (x := 121) (S_oR k_0 (by decide +kernel)) ?_
  obtain ⟨p7, e7, h⟩ := bd h
  refine Ev.callv D_172 E_23 (by decide +kernel) C_9_238 121 [] (r := []) rfl (gd_o k_121 (by decide)) rfl (Nat.le_of_ble_eq_true rfl) (Nat.le_of_ble_eq_true rfl) (gC_sailToWinner_ok (by omega) (by decide) e7) ?_
  cases h
  obtain rfl : o = _ := ho
  exact Ev.iret D_172 (by decide +kernel)
/- PennantLawn drawn: 169 -/
def gL_drawn (v1 : Int32) (v2 : Int32) (s : mT) : Option (Int32 × mT) :=
  (gR_exists 16 s).bind fun p2 =>
  if p2 = 0 then
    some (((-2 : Int32), s))
  else
    (gL_isSeed v1 s).bind fun p5 =>
    if p5 = 0 then
      some (((-2 : Int32), s))
    else
      (gL_isPart v2 s).bind fun p8 =>
      if p8 = 0 then
        some (((-2 : Int32), s))
      else
        (
          if v2 = 0 then
            (gL_drawnKingfishers v1 s).bind fun p12 =>
            some ((p12, s))
          else
            (gL_drawnWinner v1 s).bind fun p11 =>
            some ((p11.1, p11.2)) : Option (Int32 × mT)).bind fun x10 =>
        some ((x10.1, x10.2))
set_option maxRecDepth 8000 in
theorem gL_drawn_ok {L d : Nat} (hd : 7 ≤ d) {v1 : Int32} {v2 : Int32} {s : mT} {p : Int32 × mT} (h : gL_drawn v1 v2 s = some p) : Ev d 169 0 [(0, .ref 0), (1, .int v1), (2, .int v2)] [] (uS L s) (some (.int p.1), uS L p.2) := by
  obtain ⟨d, rfl⟩ : ∃ e, d = e + 1 := ⟨d - 1, by omega⟩
  obtain ⟨o, ho⟩ : ∃ o : Option Value × mS, o = (some (.int p.1), uS L p.2) := ⟨_, rfl⟩
  rw [← ho]
  unfold gL_drawn at h
  refine Ev.seg D_169 [(.aload_n 0, 1)] (by decide +kernel) (j := 0) (pc' := 1) (lv' := [(0, .ref 0), (1, .int v1), (2, .int v2)]) (st' := [.ref 0]) rfl ?_
  refine Ev.getR D_169 (by decide +kernel) F_9_28 T_9_2 (x := 16) (S_oR k_0 (by decide +kernel)) ?_
  obtain ⟨p2, e2, h⟩ := bd h
  refine Ev.callv D_169 E_43 (by decide +kernel) C_9_196 16 [] (r := []) rfl (gd_o k_16 (by decide)) rfl (Nat.le_of_ble_eq_true rfl) (Nat.le_of_ble_eq_true rfl) (gR_exists_ok (by omega) (by decide) e2) ?_
  refine Ev.if_ D_169 (c := .eq) (off := 17) (by decide +kernel) (t := 24) rfl (fun c3 => ?_) (fun c3 => ?_)
  · have c3 : p2 = 0 := of_decide_eq_true c3
    rw [if_pos c3] at h
    refine Ev.seg D_169 [(.bipush (-2), 2)] (by decide +kernel) (j := 0) (pc' := 26) (lv' := [(0, .ref 0), (1, .int v1), (2, .int v2)]) (st' := [.int (-2 : Int32)]) rfl ?_
    cases h
    obtain rfl : o = _ := ho
    exact Ev.iret D_169 (by decide +kernel)
  · have c3 : ¬ p2 = 0 := of_decide_eq_false c3
    rw [if_neg c3] at h
    refine Ev.seg D_169 [(.iload_n 1, 1)] (by decide +kernel) (j := 0) (pc' := 11) (lv' := [(0, .ref 0), (1, .int v1), (2, .int v2)]) (st' := [.int v1]) rfl ?_
    obtain ⟨p5, e5, h⟩ := bd h
    refine Ev.calls D_169 E_170 (by decide +kernel) C_9_380 [.int v1] (r := []) rfl rfl (Nat.le_of_ble_eq_true rfl) (Nat.le_of_ble_eq_true rfl) (gL_isSeed_ok (by omega)  e5) ?_
    refine Ev.if_ D_169 (c := .eq) (off := 10) (by decide +kernel) (t := 24) rfl (fun c6 => ?_) (fun c6 => ?_)
    · have c6 : p5 = 0 := of_decide_eq_true c6
      rw [if_pos c6] at h
      refine Ev.seg D_169 [(.bipush (-2), 2)] (by decide +kernel) (j := 0) (pc' := 26) (lv' := [(0, .ref 0), (1, .int v1), (2, .int v2)]) (st' := [.int (-2 : Int32)]) rfl ?_
      cases h
      obtain rfl : o = _ := ho
      exact Ev.iret D_169 (by decide +kernel)
    · have c6 : ¬ p5 = 0 := of_decide_eq_false c6
      rw [if_neg c6] at h
      refine Ev.seg D_169 [(.iload_n 2, 1)] (by decide +kernel) (j := 0) (pc' := 18) (lv' := [(0, .ref 0), (1, .int v1), (2, .int v2)]) (st' := [.int v2]) rfl ?_
      obtain ⟨p8, e8, h⟩ := bd h
      refine Ev.calls D_169 E_97 (by decide +kernel) C_9_123 [.int v2] (r := []) rfl rfl (Nat.le_of_ble_eq_true rfl) (Nat.le_of_ble_eq_true rfl) (gL_isPart_ok (by omega)  e8) ?_
      refine Ev.if_ D_169 (c := .ne) (off := 6) (by decide +kernel) (t := 27) rfl (fun c9 => ?_) (fun c9 => ?_)
      · have c9 : ¬ p8 = 0 := of_decide_eq_true c9
        rw [if_neg c9] at h
        refine Ev.seg D_169 [(.iload_n 2, 1)] (by decide +kernel) (j := 0) (pc' := 28) (lv' := [(0, .ref 0), (1, .int v1), (2, .int v2)]) (st' := [.int v2]) rfl ?_
        obtain ⟨x10, g10, h⟩ := bd h
        have j10 : Ev (d + 1) 169 44 [] [.int x10.1] (uS L x10.2) o := by
          clear g10
          cases h
          obtain rfl : o = _ := ho
          exact Ev.iret D_169 (by decide +kernel)
        clear h
        refine Ev.if_ D_169 (c := .ne) (off := 11) (by decide +kernel) (t := 39) rfl (fun c10 => ?_) (fun c10 => ?_)
        · have c10 : ¬ v2 = 0 := of_decide_eq_true c10
          rw [if_neg c10] at g10
          refine Ev.seg D_169 [(.aload_n 0, 1), (.iload_n 1, 1)] (by decide +kernel) (j := 0) (pc' := 41) (lv' := [(0, .ref 0), (1, .int v1), (2, .int v2)]) (st' := [.int v1, .ref 0]) rfl ?_
          obtain ⟨p11, e11, g10⟩ := bd g10
          refine Ev.callv D_169 E_172 (by decide +kernel) C_9_386 0 [.int v1] (r := []) rfl (gd_o k_0 (by decide)) rfl (Nat.le_of_ble_eq_true rfl) (Nat.le_of_ble_eq_true rfl) (gL_drawnWinner_ok (by omega)  e11) ?_
          cases g10
          exact Ev.sub2 j10 subL_nil
        · have c10 : v2 = 0 := Decidable.of_not_not (of_decide_eq_false c10)
          rw [if_pos c10] at g10
          refine Ev.seg D_169 [(.aload_n 0, 1), (.iload_n 1, 1)] (by decide +kernel) (j := 0) (pc' := 33) (lv' := [(0, .ref 0), (1, .int v1), (2, .int v2)]) (st' := [.int v1, .ref 0]) rfl ?_
          obtain ⟨p12, e12, g10⟩ := bd g10
          refine Ev.callv D_169 E_171 (by decide +kernel) C_9_383 0 [.int v1] (r := []) rfl (gd_o k_0 (by decide)) rfl (Nat.le_of_ble_eq_true rfl) (Nat.le_of_ble_eq_true rfl) (gL_drawnKingfishers_ok (by omega)  e12) ?_
          refine Ev.seg D_169 [(.goto 8, 3)] (by decide +kernel) (j := 0) (pc' := 44) (lv' := [(0, .ref 0), (1, .int v1), (2, .int v2)]) (st' := [.int p12]) rfl ?_
          cases g10
          exact Ev.sub2 j10 subL_nil
      · have c9 : p8 = 0 := Decidable.of_not_not (of_decide_eq_false c9)
        rw [if_pos c9] at h
        refine Ev.seg D_169 [(.bipush (-2), 2)] (by decide +kernel) (j := 0) (pc' := 26) (lv' := [(0, .ref 0), (1, .int v1), (2, .int v2)]) (st' := [.int (-2 : Int32)]) rfl ?_
        cases h
        obtain rfl : o = _ := ho
        exact Ev.iret D_169 (by decide +kernel)
/- PennantLawn luck: 173 -/
def gL_luck_h39 (v1 : Int32) (v2 : Int32) (v3 : Int32) (q : Int32 × Int32 × mT) : Option ((Int32 × Int32 × mT) ⊕ (Int32 × mT)) :=
  if v2 ≤ q.2.1 then
    some (.inr (q.1, q.2.2))
  else
    (gL_drawnWinner (v1 + q.2.1) q.2.2).bind fun p2 =>
    (
      if p2.1 = v3 then
        some (q.1 + (1 : Int32))
      else
        some (q.1) : Option (Int32)).bind fun x3 =>
    some (.inl (x3, q.2.1 + (1 : Int32), p2.2))
set_option maxRecDepth 8000 in
theorem gL_luck_h39_ok {L d : Nat} (hd : 7 ≤ d + 1) {v1 : Int32} {v2 : Int32} {v3 : Int32} : ∀ (q : Int32 × Int32 × mT) (x : (Int32 × Int32 × mT) ⊕ (Int32 × mT)), gL_luck_h39 v1 v2 v3 q = some x → ∀ o, sK (fun q => Ev (d + 1) 173 39 [(0, .ref 0), (1, .int v1), (2, .int v2), (3, .int v3), (4, .int q.1), (5, .int q.2.1)] [] (uS L q.2.2) o) (fun r => Ev (d + 1) 173 66 [(4, .int r.1)] [] (uS L r.2) o) x → Ev (d + 1) 173 39 [(0, .ref 0), (1, .int v1), (2, .int v2), (3, .int v3), (4, .int q.1), (5, .int q.2.1)] [] (uS L q.2.2) o := by
  intro q x h o ho
  unfold gL_luck_h39 at h
  refine Ev.seg D_173 [(.iload 5, 2), (.iload_n 2, 1)] (by decide +kernel) (j := 0) (pc' := 42) (lv' := [(0, .ref 0), (1, .int v1), (2, .int v2), (3, .int v3), (4, .int q.1), (5, .int q.2.1)]) (st' := [.int v2, .int q.2.1]) rfl ?_
  refine Ev.icmp D_173 (c := .ge) (off := 24) (by decide +kernel) (t := 66) rfl (fun c1 => ?_) (fun c1 => ?_)
  · have c1 : v2 ≤ q.2.1 := of_decide_eq_true c1
    rw [if_pos c1] at h
    cases h
    exact Ev.sub (lv' := [(4, .int q.1)]) (subL_cons rfl subL_nil) ho
  · have c1 : ¬ v2 ≤ q.2.1 := of_decide_eq_false c1
    rw [if_neg c1] at h
    refine Ev.seg D_173 [(.aload_n 0, 1), (.iload_n 1, 1), (.iload 5, 2), (.iadd, 1)] (by decide +kernel) (j := 0) (pc' := 50) (lv' := [(0, .ref 0), (1, .int v1), (2, .int v2), (3, .int v3), (4, .int q.1), (5, .int q.2.1)]) (st' := [.int (v1 + q.2.1), .ref 0]) rfl ?_
    obtain ⟨p2, e2, h⟩ := bd h
    refine Ev.callv D_173 E_172 (by decide +kernel) C_9_386 0 [.int (v1 + q.2.1)] (r := []) rfl (gd_o k_0 (by decide)) rfl (Nat.le_of_ble_eq_true rfl) (Nat.le_of_ble_eq_true rfl) (gL_drawnWinner_ok (by omega)  e2) ?_
    refine Ev.seg D_173 [(.iload_n 3, 1)] (by decide +kernel) (j := 0) (pc' := 54) (lv' := [(0, .ref 0), (1, .int v1), (2, .int v2), (3, .int v3), (4, .int q.1), (5, .int q.2.1)]) (st' := [.int v3, .int p2.1]) rfl ?_
    obtain ⟨x3, g3, h⟩ := bd h
    have j3 : Ev (d + 1) 173 60 [(0, .ref 0), (1, .int v1), (2, .int v2), (3, .int v3), (4, .int x3), (5, .int q.2.1)] [] (uS L p2.2) o := by
      clear g3
      refine Ev.seg D_173 [(.iinc 5 1, 3), (.goto (-24), 3)] (by decide +kernel) (j := 0) (pc' := 39) (lv' := [(5, .int (q.2.1 + (1 : Int32))), (0, .ref 0), (1, .int v1), (2, .int v2), (3, .int v3), (4, .int x3)]) (st' := []) rfl ?_
      cases h
      exact Ev.sub (lv' := [(0, .ref 0), (1, .int v1), (2, .int v2), (3, .int v3), (4, .int (x3)), (5, .int (q.2.1 + (1 : Int32)))]) (subL_cons rfl (subL_cons rfl (subL_cons rfl (subL_cons rfl (subL_cons rfl (subL_cons rfl subL_nil)))))) ho
    clear h
    refine Ev.icmp D_173 (c := .ne) (off := 6) (by decide +kernel) (t := 60) rfl (fun c3 => ?_) (fun c3 => ?_)
    · have c3 : ¬ p2.1 = v3 := of_decide_eq_true c3
      rw [if_neg c3] at g3
      cases g3
      exact Ev.sub2 j3 (subL_cons rfl (subL_cons rfl (subL_cons rfl (subL_cons rfl (subL_cons rfl (subL_cons rfl subL_nil))))))
    · have c3 : p2.1 = v3 := Decidable.of_not_not (of_decide_eq_false c3)
      rw [if_pos c3] at g3
      refine Ev.seg D_173 [(.iinc 4 1, 3)] (by decide +kernel) (j := 0) (pc' := 60) (lv' := [(4, .int (q.1 + (1 : Int32))), (0, .ref 0), (1, .int v1), (2, .int v2), (3, .int v3), (5, .int q.2.1)]) (st' := []) rfl ?_
      cases g3
      exact Ev.sub2 j3 (subL_cons rfl (subL_cons rfl (subL_cons rfl (subL_cons rfl (subL_cons rfl (subL_cons rfl subL_nil))))))
theorem gL_luck_h39_w {L d : Nat} (hd : 7 ≤ d + 1) {v1 : Int32} {v2 : Int32} {v3 : Int32} : ∀ (n : Nat) (q : Int32 × Int32 × mT) (r : Int32 × mT), wh n (gL_luck_h39 v1 v2 v3) q = some r → ∀ o, (fun r => Ev (d + 1) 173 66 [(4, .int r.1)] [] (uS L r.2) o) r → Ev (d + 1) 173 39 [(0, .ref 0), (1, .int v1), (2, .int v2), (3, .int v3), (4, .int q.1), (5, .int q.2.1)] [] (uS L q.2.2) o :=
  fun n q r h o hc => wh_ev (E := fun (q : Int32 × Int32 × mT) o => Ev (d + 1) 173 39 [(0, .ref 0), (1, .int v1), (2, .int v2), (3, .int v3), (4, .int q.1), (5, .int q.2.1)] [] (uS L q.2.2) o) (C := fun (r : Int32 × mT) o => (fun r => Ev (d + 1) 173 66 [(4, .int r.1)] [] (uS L r.2) o) r) (gL_luck_h39_ok hd  ) n q r h o hc
def gL_luck (v1 : Int32) (v2 : Int32) (v3 : Int32) (s : mT) : Option (Int32 × mT) :=
  (gR_hasBoat 16 v3.toInt64 s).bind fun p2 =>
  if p2 = 0 then
    some (((-2 : Int32), s))
  else
    (gL_isSeed v1 s).bind fun p5 =>
    if p5 = 0 then
      some (((-2 : Int32), s))
    else
      if v2 < (1 : Int32) then
        some (((-2 : Int32), s))
      else
        if v2 ≤ (20 : Int32) then
          (wh FU (gL_luck_h39 v1 v2 v3) ((0 : Int32), (0 : Int32), s)).bind fun x11 =>
          some ((x11.1, x11.2))
        else
          some (((-2 : Int32), s))
set_option maxRecDepth 8000 in
theorem gL_luck_ok {L d : Nat} (hd : 7 ≤ d) {v1 : Int32} {v2 : Int32} {v3 : Int32} {s : mT} {p : Int32 × mT} (h : gL_luck v1 v2 v3 s = some p) : Ev d 173 0 [(0, .ref 0), (1, .int v1), (2, .int v2), (3, .int v3)] [] (uS L s) (some (.int p.1), uS L p.2) := by
  obtain ⟨d, rfl⟩ : ∃ e, d = e + 1 := ⟨d - 1, by omega⟩
  obtain ⟨o, ho⟩ : ∃ o : Option Value × mS, o = (some (.int p.1), uS L p.2) := ⟨_, rfl⟩
  rw [← ho]
  unfold gL_luck at h
  refine Ev.seg D_173 [(.aload_n 0, 1)] (by decide +kernel) (j := 0) (pc' := 1) (lv' := [(0, .ref 0), (1, .int v1), (2, .int v2), (3, .int v3)]) (st' := [.ref 0]) rfl ?_
  refine Ev.getR D_173 (by decide +kernel) F_9_28 T_9_2 (x := 16) (S_oR k_0 (by decide +kernel)) ?_
  refine Ev.seg D_173 [(.iload_n 3, 1), (.i2l, 1)] (by decide +kernel) (j := 0) (pc' := 6) (lv' := [(0, .ref 0), (1, .int v1), (2, .int v2), (3, .int v3)]) (st' := [.long v3.toInt64, .ref 16]) rfl ?_
  obtain ⟨p2, e2, h⟩ := bd h
  refine Ev.callv D_173 E_39 (by decide +kernel) C_9_119 16 [.long v3.toInt64] (r := []) rfl (gd_o k_16 (by decide)) rfl (Nat.le_of_ble_eq_true rfl) (Nat.le_of_ble_eq_true rfl) (gR_hasBoat_ok (by omega) (by decide) e2) ?_
  refine Ev.if_ D_173 (c := .eq) (off := 21) (by decide +kernel) (t := 30) rfl (fun c3 => ?_) (fun c3 => ?_)
  · have c3 : p2 = 0 := of_decide_eq_true c3
    rw [if_pos c3] at h
    refine Ev.seg D_173 [(.bipush (-2), 2)] (by decide +kernel) (j := 0) (pc' := 32) (lv' := [(0, .ref 0), (1, .int v1), (2, .int v2), (3, .int v3)]) (st' := [.int (-2 : Int32)]) rfl ?_
    cases h
    obtain rfl : o = _ := ho
    exact Ev.iret D_173 (by decide +kernel)
  · have c3 : ¬ p2 = 0 := of_decide_eq_false c3
    rw [if_neg c3] at h
    refine Ev.seg D_173 [(.iload_n 1, 1)] (by decide +kernel) (j := 0) (pc' := 13) (lv' := [(0, .ref 0), (1, .int v1), (2, .int v2), (3, .int v3)]) (st' := [.int v1]) rfl ?_
    obtain ⟨p5, e5, h⟩ := bd h
    refine Ev.calls D_173 E_170 (by decide +kernel) C_9_380 [.int v1] (r := []) rfl rfl (Nat.le_of_ble_eq_true rfl) (Nat.le_of_ble_eq_true rfl) (gL_isSeed_ok (by omega)  e5) ?_
    refine Ev.if_ D_173 (c := .eq) (off := 14) (by decide +kernel) (t := 30) rfl (fun c6 => ?_) (fun c6 => ?_)
    · have c6 : p5 = 0 := of_decide_eq_true c6
      rw [if_pos c6] at h
      refine Ev.seg D_173 [(.bipush (-2), 2)] (by decide +kernel) (j := 0) (pc' := 32) (lv' := [(0, .ref 0), (1, .int v1), (2, .int v2), (3, .int v3)]) (st' := [.int (-2 : Int32)]) rfl ?_
      cases h
      obtain rfl : o = _ := ho
      exact Ev.iret D_173 (by decide +kernel)
    · have c6 : ¬ p5 = 0 := of_decide_eq_false c6
      rw [if_neg c6] at h
      refine Ev.seg D_173 [(.iload_n 2, 1), (.iconst 1, 1)] (by decide +kernel) (j := 0) (pc' := 21) (lv' := [(0, .ref 0), (1, .int v1), (2, .int v2), (3, .int v3)]) (st' := [.int (1 : Int32), .int v2]) rfl ?_
      refine Ev.icmp D_173 (c := .lt) (off := 9) (by decide +kernel) (t := 30) rfl (fun c8 => ?_) (fun c8 => ?_)
      · have c8 : v2 < (1 : Int32) := of_decide_eq_true c8
        rw [if_pos c8] at h
        refine Ev.seg D_173 [(.bipush (-2), 2)] (by decide +kernel) (j := 0) (pc' := 32) (lv' := [(0, .ref 0), (1, .int v1), (2, .int v2), (3, .int v3)]) (st' := [.int (-2 : Int32)]) rfl ?_
        cases h
        obtain rfl : o = _ := ho
        exact Ev.iret D_173 (by decide +kernel)
      · have c8 : ¬ v2 < (1 : Int32) := of_decide_eq_false c8
        rw [if_neg c8] at h
        refine Ev.seg D_173 [(.iload_n 2, 1), (.bipush 20, 2)] (by decide +kernel) (j := 0) (pc' := 27) (lv' := [(0, .ref 0), (1, .int v1), (2, .int v2), (3, .int v3)]) (st' := [.int (20 : Int32), .int v2]) rfl ?_
        refine Ev.icmp D_173 (c := .le) (off := 6) (by decide +kernel) (t := 33) rfl (fun c10 => ?_) (fun c10 => ?_)
        · have c10 : v2 ≤ (20 : Int32) := of_decide_eq_true c10
          rw [if_pos c10] at h
          refine Ev.seg D_173 [(.iconst 0, 1), (.istore 4, 2), (.iconst 0, 1), (.istore 5, 2)] (by decide +kernel) (j := 0) (pc' := 39) (lv' := [(5, .int (0 : Int32)), (4, .int (0 : Int32)), (0, .ref 0), (1, .int v1), (2, .int v2), (3, .int v3)]) (st' := []) rfl ?_
          obtain ⟨x11, w11, h⟩ := bd h
          have j11 : Ev (d + 1) 173 66 [(4, .int x11.1)] [] (uS L x11.2) o := by
            clear w11
            refine Ev.seg D_173 [(.iload 4, 2)] (by decide +kernel) (j := 0) (pc' := 68) (lv' := [(4, .int x11.1)]) (st' := [.int x11.1]) rfl ?_
            cases h
            obtain rfl : o = _ := ho
            exact Ev.iret D_173 (by decide +kernel)
          exact Ev.sub (lv' := [(0, .ref 0), (1, .int v1), (2, .int v2), (3, .int v3), (4, .int (0 : Int32)), (5, .int (0 : Int32))]) (subL_cons rfl (subL_cons rfl (subL_cons rfl (subL_cons rfl (subL_cons rfl (subL_cons rfl subL_nil)))))) (gL_luck_h39_w hd   _ _ _ w11 _ j11)
        · have c10 : ¬ v2 ≤ (20 : Int32) := of_decide_eq_false c10
          rw [if_neg c10] at h
          refine Ev.seg D_173 [(.bipush (-2), 2)] (by decide +kernel) (j := 0) (pc' := 32) (lv' := [(0, .ref 0), (1, .int v1), (2, .int v2), (3, .int v3)]) (st' := [.int (-2 : Int32)]) rfl ?_
          cases h
          obtain rfl : o = _ := ho
          exact Ev.iret D_173 (by decide +kernel)
/- PennantLawn rate: 174 -/
def gL_rate (v1 : Int32) (v2 : Int32) (s : mT) : Option (Int32 × mT) :=
  (gR_hasBoat 16 v1.toInt64 s).bind fun p2 =>
  if p2 = 0 then
    some (((-2 : Int32), s))
  else
    if v2 < (1 : Int32) then
      some (((-2 : Int32), s))
    else
      if v2 ≤ (9 : Int32) then
        if (s.1 16 8) ≤ 0 then
          (rdI (s.1 18) 5 v1).bind fun x13 =>
          (wrI s 18 5 v1 v2).bind fun s16 =>
          (gL_sailAgain s16).bind fun p17 =>
          some ((x13, p17))
        else
          some (((-5 : Int32), s))
      else
        some (((-2 : Int32), s))
set_option maxRecDepth 8000 in
theorem gL_rate_ok {L d : Nat} (hd : 6 ≤ d) {v1 : Int32} {v2 : Int32} {s : mT} {p : Int32 × mT} (h : gL_rate v1 v2 s = some p) : Ev d 174 0 [(0, .ref 0), (1, .int v1), (2, .int v2)] [] (uS L s) (some (.int p.1), uS L p.2) := by
  obtain ⟨d, rfl⟩ : ∃ e, d = e + 1 := ⟨d - 1, by omega⟩
  obtain ⟨o, ho⟩ : ∃ o : Option Value × mS, o = (some (.int p.1), uS L p.2) := ⟨_, rfl⟩
  rw [← ho]
  unfold gL_rate at h
  refine Ev.seg D_174 [(.aload_n 0, 1)] (by decide +kernel) (j := 0) (pc' := 1) (lv' := [(0, .ref 0), (1, .int v1), (2, .int v2)]) (st' := [.ref 0]) rfl ?_
  refine Ev.getR D_174 (by decide +kernel) F_9_28 T_9_2 (x := 16) (S_oR k_0 (by decide +kernel)) ?_
  refine Ev.seg D_174 [(.iload_n 1, 1), (.i2l, 1)] (by decide +kernel) (j := 0) (pc' := 6) (lv' := [(0, .ref 0), (1, .int v1), (2, .int v2)]) (st' := [.long v1.toInt64, .ref 16]) rfl ?_
  obtain ⟨p2, e2, h⟩ := bd h
  refine Ev.callv D_174 E_39 (by decide +kernel) C_9_119 16 [.long v1.toInt64] (r := []) rfl (gd_o k_16 (by decide)) rfl (Nat.le_of_ble_eq_true rfl) (Nat.le_of_ble_eq_true rfl) (gR_hasBoat_ok (by omega) (by decide) e2) ?_
  refine Ev.if_ D_174 (c := .eq) (off := 14) (by decide +kernel) (t := 23) rfl (fun c3 => ?_) (fun c3 => ?_)
  · have c3 : p2 = 0 := of_decide_eq_true c3
    rw [if_pos c3] at h
    refine Ev.seg D_174 [(.bipush (-2), 2)] (by decide +kernel) (j := 0) (pc' := 25) (lv' := [(0, .ref 0), (1, .int v1), (2, .int v2)]) (st' := [.int (-2 : Int32)]) rfl ?_
    cases h
    obtain rfl : o = _ := ho
    exact Ev.iret D_174 (by decide +kernel)
  · have c3 : ¬ p2 = 0 := of_decide_eq_false c3
    rw [if_neg c3] at h
    refine Ev.seg D_174 [(.iload_n 2, 1), (.iconst 1, 1)] (by decide +kernel) (j := 0) (pc' := 14) (lv' := [(0, .ref 0), (1, .int v1), (2, .int v2)]) (st' := [.int (1 : Int32), .int v2]) rfl ?_
    refine Ev.icmp D_174 (c := .lt) (off := 9) (by decide +kernel) (t := 23) rfl (fun c5 => ?_) (fun c5 => ?_)
    · have c5 : v2 < (1 : Int32) := of_decide_eq_true c5
      rw [if_pos c5] at h
      refine Ev.seg D_174 [(.bipush (-2), 2)] (by decide +kernel) (j := 0) (pc' := 25) (lv' := [(0, .ref 0), (1, .int v1), (2, .int v2)]) (st' := [.int (-2 : Int32)]) rfl ?_
      cases h
      obtain rfl : o = _ := ho
      exact Ev.iret D_174 (by decide +kernel)
    · have c5 : ¬ v2 < (1 : Int32) := of_decide_eq_false c5
      rw [if_neg c5] at h
      refine Ev.seg D_174 [(.iload_n 2, 1), (.bipush 9, 2)] (by decide +kernel) (j := 0) (pc' := 20) (lv' := [(0, .ref 0), (1, .int v1), (2, .int v2)]) (st' := [.int (9 : Int32), .int v2]) rfl ?_
      refine Ev.icmp D_174 (c := .le) (off := 6) (by decide +kernel) (t := 26) rfl (fun c7 => ?_) (fun c7 => ?_)
      · have c7 : v2 ≤ (9 : Int32) := of_decide_eq_true c7
        rw [if_pos c7] at h
        refine Ev.seg D_174 [(.aload_n 0, 1)] (by decide +kernel) (j := 0) (pc' := 27) (lv' := [(0, .ref 0), (1, .int v1), (2, .int v2)]) (st' := [.ref 0]) rfl ?_
        refine Ev.getR D_174 (by decide +kernel) F_9_28 T_9_2 (x := 16) (S_oR k_0 (by decide +kernel)) ?_
        refine Ev.getI D_174 (by decide +kernel) F_9_373 (Or.inl T_2_8) (S_oI k_16) ?_
        refine Ev.if_ D_174 (c := .le) (off := 6) (by decide +kernel) (t := 39) rfl (fun c10 => ?_) (fun c10 => ?_)
        · have c10 : (s.1 16 8) ≤ 0 := of_decide_eq_true c10
          rw [if_pos c10] at h
          refine Ev.seg D_174 [(.aload_n 0, 1)] (by decide +kernel) (j := 0) (pc' := 40) (lv' := [(0, .ref 0), (1, .int v1), (2, .int v2)]) (st' := [.ref 0]) rfl ?_
          refine Ev.getR D_174 (by decide +kernel) F_9_28 T_9_2 (x := 16) (S_oR k_0 (by decide +kernel)) ?_
          refine Ev.getR D_174 (by decide +kernel) F_9_131 T_2_10 (x := 18) (S_oR k_16 (by decide +kernel)) ?_
          refine Ev.seg D_174 [(.iload_n 1, 1)] (by decide +kernel) (j := 0) (pc' := 47) (lv' := [(0, .ref 0), (1, .int v1), (2, .int v2)]) (st' := [.int v1, .ref 18]) rfl ?_
          obtain ⟨x13, e13, h⟩ := bd h
          refine Ev.iald D_174 (by decide +kernel) (S_aI k_18 e13) ?_
          refine Ev.seg D_174 [(.istore_n 3, 1), (.aload_n 0, 1)] (by decide +kernel) (j := 0) (pc' := 50) (lv' := [(3, .int x13), (0, .ref 0), (1, .int v1), (2, .int v2)]) (st' := [.ref 0]) rfl ?_
          refine Ev.getR D_174 (by decide +kernel) F_9_28 T_9_2 (x := 16) (S_oR k_0 (by decide +kernel)) ?_
          refine Ev.getR D_174 (by decide +kernel) F_9_131 T_2_10 (x := 18) (S_oR k_16 (by decide +kernel)) ?_
          refine Ev.seg D_174 [(.iload_n 1, 1), (.iload_n 2, 1)] (by decide +kernel) (j := 0) (pc' := 58) (lv' := [(3, .int x13), (0, .ref 0), (1, .int v1), (2, .int v2)]) (st' := [.int v2, .int v1, .ref 18]) rfl ?_
          obtain ⟨s16, e16, h⟩ := bd h
          refine Ev.iast D_174 (by decide +kernel) (S_sI k_18 e16) ?_
          refine Ev.seg D_174 [(.aload_n 0, 1)] (by decide +kernel) (j := 0) (pc' := 60) (lv' := [(3, .int x13), (0, .ref 0), (1, .int v1), (2, .int v2)]) (st' := [.ref 0]) rfl ?_
          obtain ⟨p17, e17, h⟩ := bd h
          refine Ev.callv D_174 E_94 (by decide +kernel) C_9_107 0 [] (r := []) rfl (gd_o k_0 (by decide)) rfl (Nat.le_of_ble_eq_true rfl) (Nat.le_of_ble_eq_true rfl) (gL_sailAgain_ok (by omega)  e17) ?_
          refine Ev.seg D_174 [(.iload_n 3, 1)] (by decide +kernel) (j := 0) (pc' := 64) (lv' := [(3, .int x13), (0, .ref 0), (1, .int v1), (2, .int v2)]) (st' := [.int x13]) rfl ?_
          cases h
          obtain rfl : o = _ := ho
          exact Ev.iret D_174 (by decide +kernel)
        · have c10 : ¬ (s.1 16 8) ≤ 0 := of_decide_eq_false c10
          rw [if_neg c10] at h
          refine Ev.seg D_174 [(.bipush (-5), 2)] (by decide +kernel) (j := 0) (pc' := 38) (lv' := [(0, .ref 0), (1, .int v1), (2, .int v2)]) (st' := [.int (-5 : Int32)]) rfl ?_
          cases h
          obtain rfl : o = _ := ho
          exact Ev.iret D_174 (by decide +kernel)
      · have c7 : ¬ v2 ≤ (9 : Int32) := of_decide_eq_false c7
        rw [if_neg c7] at h
        refine Ev.seg D_174 [(.bipush (-2), 2)] (by decide +kernel) (j := 0) (pc' := 25) (lv' := [(0, .ref 0), (1, .int v1), (2, .int v2)]) (st' := [.int (-2 : Int32)]) rfl ?_
        cases h
        obtain rfl : o = _ := ho
        exact Ev.iret D_174 (by decide +kernel)
/- PennantLawn rowsKept: 176 -/
def gL_rowsKept_h4 (s : mT) (q : Int32 × Int32) : Option ((Int32 × Int32) ⊕ (Int32)) :=
  if (4 : Int32) ≤ q.2 then
    some (.inr q.1)
  else
    if ¬ (q.2 < 0 ∨ 4 ≤ q.2.toNatClampNeg) then
      (
        if (s.1 (286 + 2 * q.2.toNatClampNeg) 1) = 0 then
          some (q.1)
        else
          some (q.1 + (1 : Int32)) : Option (Int32)).bind fun x5 =>
      some (.inl (x5, q.2 + (1 : Int32)))
    else none
set_option maxRecDepth 8000 in
theorem gL_rowsKept_h4_ok {L d : Nat} (hd : 1 ≤ d + 1) {s : mT} : ∀ (q : Int32 × Int32) (x : (Int32 × Int32) ⊕ (Int32)), gL_rowsKept_h4 s q = some x → ∀ o, sK (fun q => Ev (d + 1) 176 4 [(0, .ref 0), (1, .int q.1), (2, .int q.2)] [] (uS L s) o) (fun r => Ev (d + 1) 176 30 [(1, .int r)] [] (uS L s) o) x → Ev (d + 1) 176 4 [(0, .ref 0), (1, .int q.1), (2, .int q.2)] [] (uS L s) o := by
  intro q x h o ho
  unfold gL_rowsKept_h4 at h
  refine Ev.seg D_176 [(.iload_n 2, 1), (.iconst 4, 1)] (by decide +kernel) (j := 0) (pc' := 6) (lv' := [(0, .ref 0), (1, .int q.1), (2, .int q.2)]) (st' := [.int (4 : Int32), .int q.2]) rfl ?_
  refine Ev.icmp D_176 (c := .ge) (off := 24) (by decide +kernel) (t := 30) rfl (fun c1 => ?_) (fun c1 => ?_)
  · have c1 : (4 : Int32) ≤ q.2 := of_decide_eq_true c1
    rw [if_pos c1] at h
    cases h
    exact Ev.sub (lv' := [(1, .int q.1)]) (subL_cons rfl subL_nil) ho
  · have c1 : ¬ (4 : Int32) ≤ q.2 := of_decide_eq_false c1
    rw [if_neg c1] at h
    refine Ev.seg D_176 [(.aload_n 0, 1)] (by decide +kernel) (j := 0) (pc' := 10) (lv' := [(0, .ref 0), (1, .int q.1), (2, .int q.2)]) (st' := [.ref 0]) rfl ?_
    refine Ev.getR D_176 (by decide +kernel) F_9_84 T_9_11 (x := 285) (S_oR k_0 (by decide +kernel)) ?_
    refine Ev.seg D_176 [(.iload_n 2, 1)] (by decide +kernel) (j := 0) (pc' := 14) (lv' := [(0, .ref 0), (1, .int q.1), (2, .int q.2)]) (st' := [.int q.2, .ref 285]) rfl ?_
    by_cases b14 : ¬ (q.2 < 0 ∨ 4 ≤ q.2.toNatClampNeg)
    rotate_left
    · rw [if_neg b14] at h; cases h
    rw [if_pos b14] at h
    refine Ev.aald D_176 (by decide +kernel) (kd := 25) ⟨by decide, by decide⟩ (x := (286 + 2 * q.2.toNatClampNeg)) (S_aR k_285 b14 (el_rwr b14)) ?_
    refine Ev.getI D_176 (by decide +kernel) F_9_311 (Or.inr T_4_1) (S_oI (rw_o (el_rw b14))) ?_
    obtain ⟨x5, g5, h⟩ := bd h
    have j5 : Ev (d + 1) 176 24 [(0, .ref 0), (1, .int x5), (2, .int q.2)] [] (uS L s) o := by
      clear g5
      refine Ev.seg D_176 [(.iinc 2 1, 3), (.goto (-23), 3)] (by decide +kernel) (j := 0) (pc' := 4) (lv' := [(2, .int (q.2 + (1 : Int32))), (0, .ref 0), (1, .int x5)]) (st' := []) rfl ?_
      cases h
      exact Ev.sub (lv' := [(0, .ref 0), (1, .int (x5)), (2, .int (q.2 + (1 : Int32)))]) (subL_cons rfl (subL_cons rfl (subL_cons rfl subL_nil))) ho
    clear h
    refine Ev.if_ D_176 (c := .eq) (off := 6) (by decide +kernel) (t := 24) rfl (fun c5 => ?_) (fun c5 => ?_)
    · have c5 : (s.1 (286 + 2 * q.2.toNatClampNeg) 1) = 0 := of_decide_eq_true c5
      rw [if_pos c5] at g5
      cases g5
      exact Ev.sub2 j5 (subL_cons rfl (subL_cons rfl (subL_cons rfl subL_nil)))
    · have c5 : ¬ (s.1 (286 + 2 * q.2.toNatClampNeg) 1) = 0 := of_decide_eq_false c5
      rw [if_neg c5] at g5
      refine Ev.seg D_176 [(.iinc 1 1, 3)] (by decide +kernel) (j := 0) (pc' := 24) (lv' := [(1, .int (q.1 + (1 : Int32))), (0, .ref 0), (2, .int q.2)]) (st' := []) rfl ?_
      cases g5
      exact Ev.sub2 j5 (subL_cons rfl (subL_cons rfl (subL_cons rfl subL_nil)))
theorem gL_rowsKept_h4_w {L d : Nat} (hd : 1 ≤ d + 1) {s : mT} : ∀ (n : Nat) (q : Int32 × Int32) (r : Int32), wh n (gL_rowsKept_h4 s) q = some r → ∀ o, (fun r => Ev (d + 1) 176 30 [(1, .int r)] [] (uS L s) o) r → Ev (d + 1) 176 4 [(0, .ref 0), (1, .int q.1), (2, .int q.2)] [] (uS L s) o :=
  fun n q r h o hc => wh_ev (E := fun (q : Int32 × Int32) o => Ev (d + 1) 176 4 [(0, .ref 0), (1, .int q.1), (2, .int q.2)] [] (uS L s) o) (C := fun (r : Int32) o => (fun r => Ev (d + 1) 176 30 [(1, .int r)] [] (uS L s) o) r) (gL_rowsKept_h4_ok hd  ) n q r h o hc
def gL_rowsKept (s : mT) : Option (Int32) :=
  (wh FU (gL_rowsKept_h4 s) ((0 : Int32), (0 : Int32))).bind fun x6 =>
  some (x6)
set_option maxRecDepth 8000 in
theorem gL_rowsKept_ok {L d : Nat} (hd : 1 ≤ d) {s : mT} {p : Int32} (h : gL_rowsKept s = some p) : Ev d 176 0 [(0, .ref 0)] [] (uS L s) (some (.int p), uS L s) := by
  obtain ⟨d, rfl⟩ : ∃ e, d = e + 1 := ⟨d - 1, by omega⟩
  obtain ⟨o, ho⟩ : ∃ o : Option Value × mS, o = (some (.int p), uS L s) := ⟨_, rfl⟩
  rw [← ho]
  unfold gL_rowsKept at h
  refine Ev.seg D_176 [(.iconst 0, 1), (.istore_n 1, 1), (.iconst 0, 1), (.istore_n 2, 1)] (by decide +kernel) (j := 0) (pc' := 4) (lv' := [(2, .int (0 : Int32)), (1, .int (0 : Int32)), (0, .ref 0)]) (st' := []) rfl ?_
  obtain ⟨x6, w6, h⟩ := bd h
  have j6 : Ev (d + 1) 176 30 [(1, .int x6)] [] (uS L s) o := by
    clear w6
    refine Ev.seg D_176 [(.iload_n 1, 1)] (by decide +kernel) (j := 0) (pc' := 31) (lv' := [(1, .int x6)]) (st' := [.int x6]) rfl ?_
    cases h
    obtain rfl : o = _ := ho
    exact Ev.iret D_176 (by decide +kernel)
  exact Ev.sub (lv' := [(0, .ref 0), (1, .int (0 : Int32)), (2, .int (0 : Int32))]) (subL_cons rfl (subL_cons rfl (subL_cons rfl subL_nil))) (gL_rowsKept_h4_w hd   _ _ _ w6 _ j6)
