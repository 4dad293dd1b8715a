/-! THE SMALL MACHINE: arrays, constants, the JDK's own -/
section SA
variable {p : Program} {l : Launch} {e : Env} {R : Room} {s : State} {m : MethodId} {args : Array Value} {below : List Frame} {meth : Method} {c : Code} {H : Heap} {locs : List Loc} {cells slots : Nat} {Q : State → Prop}
variable {E : mE} {w0 u : mS} {k pc : Nat} {ls : Array Slot} {st' : List Value} {u' : mS} {r : List Value}
theorem st_upd (S : St E w0 u s H locs cells slots) {a : Nat} {c1 : va_E} {u1 : mS} (hn : mN u1 = mN u) (hz : mZ u1 = mZ u) (hc : eC E u1 a = c1) (ho : ∀ q, q ≠ a → eC E u1 q = eC E u q) (hO : eO E u1) {H1 : Heap} {locs1 : List Loc} (g1 : va_P E.2.2.1 vwCl ((eW E u).set a (E.1 + a, c1)) H1) (g3 : va_S (fA E) s.heap H1 locs1) : St E w0 u1 s H1 locs1 cells slots := by
  rw [eW_set hn hc ho] at g1
  obtain ⟨-, -, a1, a2, a3, a4, a5, -⟩ := S
  exact ⟨g1, g3, by rw [hn]; exact a1, by rw [hz]; exact a2, by rw [hn]; exact a3, by rw [hz]; exact a4, by rw [hn]; exact a5, hO⟩
theorem aI_some {u : mS} {kd a : Nat} {i x : Int32} (h : aI u kd a i = some x) : (mK u a).1 = kd ∧ (a < mN u ∨ XB ≤ a) ∧ vp_in i (mK u a).2 ∧ x = mI u a i.toNatClampNeg := by
  unfold aI at h
  split at h
  · rename_i h1; cases h; exact ⟨h1.1, h1.2.1, h1.2.2, rfl⟩
  · cases h
theorem aL_some {u : mS} {a : Nat} {i : Int32} {x : Int64} (h : aL u a i = some x) : (mK u a).1 = 23 ∧ a < mN u ∧ vp_in i (mK u a).2 ∧ x = mL u a i.toNatClampNeg := by
  unfold aL at h
  split at h
  · rename_i h1; cases h; exact ⟨h1.1, h1.2.1, h1.2.2, rfl⟩
  · cases h
theorem aR_some {u : mS} {kd a x : Nat} {i : Int32} (h : aR u kd a i = some x) : (mK u a).1 = kd ∧ a < mN u ∧ vp_in i (mK u a).2 ∧ mR u a i.toNatClampNeg = some x := by
  unfold aR at h
  split at h
  · rename_i h1; exact ⟨h1.1, h1.2.1, h1.2.2, h⟩
  · cases h
theorem xK_20 {L a : Nat} (h : (xK L a).1 = 20) : a = XB ∨ a = XB + 1 := by
  unfold xK at h
  split at h
  · rename_i h1; exact Or.inl h1
  · split at h
    · rename_i h1; exact Or.inr h1
    · split at h
      · split at h <;> cases h
      · cases h
theorem xK_21 {L a : Nat} (h : (xK L a).1 = 21) : ∃ i, i < 28 ∧ a = XB + 10 + 2 * i + 1 := by
  unfold xK at h
  have e0 : XB = 1000000 := rfl
  split at h
  · cases h
  · split at h
    · cases h
    · split at h
      · rename_i h3
        split at h
        · cases h
        · rename_i h4
          exact ⟨(a - XB - 10) / 2, by omega, by omega⟩
      · cases h
theorem xK_at (L i : Nat) (hi : i < 28) : xK L (XB + 10 + 2 * i + 1) = (21, (xT i).length) := by
  have e0 : XB = 1000000 := rfl
  unfold xK
  rw [if_neg (by omega), if_neg (by omega), if_pos (by omega), if_neg (by omega), show (XB + 10 + 2 * i + 1 - XB - 10) / 2 = i by omega]
theorem xI_at (xs : Nat → Int32) (i j : Nat) (hi : i < 28) : xI xs (XB + 10 + 2 * i + 1) j = nI ((xT i).getD j 'a').toNat := by
  have e0 : XB = 1000000 := rfl
  unfold xI
  rw [if_neg (by omega), if_neg (by omega), if_pos (by omega), show (XB + 10 + 2 * i + 1 - XB - 10) / 2 = i by omega]
theorem sH_iald (C : Cx E (mN w0) k p s m args meth c) (S : St E w0 u s H locs cells slots) {a : Nat} {i x : Int32} (hh : aI u 20 a i = some x) (hd : decode (mm_m k).2.2.1 pc = .ok (.iaload, 1))
    (kk : W p l e R s m args below meth c H locs cells slots Q (F0 m (pc + 1) ls (.int x :: r))) : W p l e R s m args below meth c H locs cells slots Q (F0 m pc ls (.int i :: .ref (eA E a) :: r)) := by
  obtain ⟨h1, h2, h3, rfl⟩ := aI_some hh
  obtain ⟨hx, hb, hml, hret, hlk, hown, hts, hK, hX, hsz, hnm⟩ := C
  obtain ⟨hP, hS, -, -, -, -, hXB, hO⟩ := S
  by_cases ha : a < mN u
  · rw [eA_in ha hXB]
    have he := eW_at (E := E) ha
    rw [eC_int h1 (by omega) (by omega)] at he
    exact va_iald hx hb hK hP a 0 he rfl h3 hd kk
  · have ha : XB ≤ a := h2.resolve_left ha
    obtain ⟨o1, o2⟩ := hO a ha
    rw [o1] at h1 h3
    rw [o2] at kk
    rw [eA_out ha]
    obtain ⟨x1, x2, -⟩ := hX
    rcases xK_20 h1 with rfl | rfl
    · exact va_ti hx hb x1 hS h3 rfl hd kk
    · exact va_ti hx hb x2 hS h3 rfl hd kk
theorem sH_bald (C : Cx E (mN w0) k p s m args meth c) (S : St E w0 u s H locs cells slots) {a : Nat} {i x : Int32} (hh : aI u 21 a i = some x) (hd : decode (mm_m k).2.2.1 pc = .ok (.baload, 1))
    (kk : W p l e R s m args below meth c H locs cells slots Q (F0 m (pc + 1) ls (.int x :: r))) : W p l e R s m args below meth c H locs cells slots Q (F0 m pc ls (.int i :: .ref (eA E a) :: r)) := by
  obtain ⟨h1, h2, h3, rfl⟩ := aI_some hh
  obtain ⟨hx, hb, hml, hret, hlk, hown, hts, hK, hX, hsz, hnm⟩ := C
  obtain ⟨hP, hS, -, -, -, -, hXB, hO⟩ := S
  by_cases ha : a < mN u
  · rw [eA_in ha hXB]
    have he := eW_at (E := E) ha
    rw [eC_int h1 (by omega) (by omega)] at he
    exact va_bald hx hb hK hP a 1 he rfl h3 hd kk
  · have ha : XB ≤ a := h2.resolve_left ha
    obtain ⟨o1, o2⟩ := hO a ha
    rw [o1] at h1 h3
    rw [o2] at kk
    rw [eA_out ha]
    obtain ⟨i9, hi9, rfl⟩ := xK_21 h1
    obtain ⟨-, -, x3, -⟩ := hX
    rw [xK_at _ _ hi9] at h3
    rw [xI_at _ _ _ hi9] at kk
    exact va_tb hx hb (x3 i9 hi9).2.2.2 hS h3 rfl hd kk
theorem sH_zald (C : Cx E (mN w0) k p s m args meth c) (S : St E w0 u s H locs cells slots) {a : Nat} {i x : Int32} (hh : aI u 22 a i = some x) (ha : a < mN u) (hd : decode (mm_m k).2.2.1 pc = .ok (.baload, 1))
    (kk : W p l e R s m args below meth c H locs cells slots Q (F0 m (pc + 1) ls (.int x :: r))) : W p l e R s m args below meth c H locs cells slots Q (F0 m pc ls (.int i :: .ref (eA E a) :: r)) := by
  obtain ⟨h1, h2, h3, rfl⟩ := aI_some hh
  obtain ⟨hx, hb, hml, hret, hlk, hown, hts, hK, hX, hsz, hnm⟩ := C
  obtain ⟨hP, hS, -, -, -, -, hXB, hO⟩ := S
  rw [eA_in ha hXB]
  have he := eW_at (E := E) ha
  rw [eC_int h1 (by omega) (by omega)] at he
  exact va_zald hx hb hK hP a 2 he rfl h3 hd kk
theorem sH_lald (C : Cx E (mN w0) k p s m args meth c) (S : St E w0 u s H locs cells slots) {a : Nat} {i : Int32} {x : Int64} (hh : aL u a i = some x) (hd : decode (mm_m k).2.2.1 pc = .ok (.laload, 1))
    (kk : W p l e R s m args below meth c H locs cells slots Q (F0 m (pc + 1) ls (.long x :: r))) : W p l e R s m args below meth c H locs cells slots Q (F0 m pc ls (.int i :: .ref (eA E a) :: r)) := by
  obtain ⟨h1, ha, h3, rfl⟩ := aL_some hh
  obtain ⟨hx, hb, hml, hret, hlk, hown, hts, hK, hX, hsz, hnm⟩ := C
  obtain ⟨hP, hS, -, -, -, -, hXB, hO⟩ := S
  rw [eA_in ha hXB]
  have he := eW_at (E := E) ha
  rw [eC_long h1] at he
  exact va_lald hx hb hK hP a 3 he rfl h3 hd kk
theorem sH_aald (C : Cx E (mN w0) k p s m args meth c) (S : St E w0 u s H locs cells slots) {a b kd : Nat} {i : Int32} (hh : aR u kd a i = some b) (hkd : 24 ≤ kd ∧ kd ≤ 26) (hd : decode (mm_m k).2.2.1 pc = .ok (.aaload, 1))
    (kk : W p l e R s m args below meth c H locs cells slots Q (F0 m (pc + 1) ls (.ref (eA E b) :: r))) : W p l e R s m args below meth c H locs cells slots Q (F0 m pc ls (.int i :: .ref (eA E a) :: r)) := by
  obtain ⟨h1, ha, h3, h4⟩ := aR_some hh
  obtain ⟨hx, hb, hml, hret, hlk, hown, hts, hK, hX, hsz, hnm⟩ := C
  obtain ⟨hP, hS, -, -, -, -, hXB, hO⟩ := S
  rw [eA_in ha hXB]
  have he := eW_at (E := E) ha
  rw [eC_ref h1 (by omega)] at he
  have hlt : i.toNatClampNeg < (mK u a).2 := Nat.not_le.mp fun q => h3 (Or.inr q)
  have hty : ∃ (t0 : Nat) (ty : FieldType), (eT E)[t0]? = some (E.2.2.2.1 kd, ty) ∧ ty.isReference = true := by
    have hkd3 : kd = 24 ∨ kd = 25 ∨ kd = 26 := by omega
    rcases hkd3 with rfl | rfl | rfl
    · exact ⟨4, _, rfl, rfl⟩
    · exact ⟨5, _, rfl, rfl⟩
    · exact ⟨6, _, rfl, rfl⟩
  obtain ⟨t0, ty, ht, hrf⟩ := hty
  refine W.aald (v := va_rf ((mR u a i.toNatClampNeg).map (eA E))) (ty := ty) hx hb (hP a _ he) ((hK.2 t0 _ ht).1 _ (fun j => va_rf ((mR u a j).map (eA E)))) hrf (fun q => by cases q) (by show ¬ (i < 0 ∨ (arrV _ _ _).slots.size ≤ _); rw [arrV_size]; exact h3) (by show (arrV _ _ _).slots[_]? = _; rw [arrV_read _ _ hlt]) rfl rfl hd ?_
  rw [h4]
  exact kk
theorem sH_alen (C : Cx E (mN w0) k p s m args meth c) (S : St E w0 u s H locs cells slots) {a : Nat} {x : Int32} (hh : aLen u a = some x) (hd : decode (mm_m k).2.2.1 pc = .ok (.arraylength, 1))
    (kk : W p l e R s m args below meth c H locs cells slots Q (F0 m (pc + 1) ls (.int x :: r))) : W p l e R s m args below meth c H locs cells slots Q (F0 m pc ls (.ref (eA E a) :: r)) := by
  unfold aLen at hh
  split at hh
  · rename_i hc
    obtain ⟨h1, h2, h3⟩ := hc
    cases hh
    obtain ⟨hx, hb, hml, hret, hlk, hown, hts, hK, hX, hsz, hnm⟩ := C
    obtain ⟨hP, hS, -, -, -, -, hXB, hO⟩ := S
    by_cases ha : a < mN u
    · rw [eA_in ha hXB]
      have he := eW_at (E := E) ha
      obtain ⟨kd, hkd⟩ : ∃ kd, (mK u a).1 = kd := ⟨_, rfl⟩
      rw [hkd] at h1 h2
      have hkk : kd = 20 ∨ kd = 21 ∨ kd = 22 ∨ kd = 23 ∨ kd = 24 ∨ kd = 25 ∨ kd = 26 := by omega
      rcases hkk with rfl | rfl | rfl | rfl | rfl | rfl | rfl
      · rw [eC_int hkd (by omega) (by omega)] at he
        exact va_alen hx hb hK hP a 0 he rfl rfl hd kk
      · rw [eC_int hkd (by omega) (by omega)] at he
        exact va_alen hx hb hK hP a 1 he rfl rfl hd kk
      · rw [eC_int hkd (by omega) (by omega)] at he
        exact va_alen hx hb hK hP a 2 he rfl rfl hd kk
      · rw [eC_long hkd] at he
        exact va_alen hx hb hK hP a 3 he rfl rfl hd kk
      · rw [eC_ref hkd (by omega)] at he
        exact va_alen hx hb hK hP a 4 he rfl rfl hd kk
      · rw [eC_ref hkd (by omega)] at he
        exact va_alen hx hb hK hP a 5 he rfl rfl hd kk
      · rw [eC_ref hkd (by omega)] at he
        exact va_alen hx hb hK hP a 6 he rfl rfl hd kk
    · obtain ⟨ha, h5⟩ := h3.resolve_left ha
      obtain ⟨o1, o2⟩ := hO a ha
      rw [o1] at h1 h5 kk
      rw [eA_out ha]
      obtain ⟨x1, x2, x3, -⟩ := hX
      rcases (show (xK E.2.2.2.2.1 a).1 = 20 ∨ (xK E.2.2.2.2.1 a).1 = 21 by omega) with h | h
      · rcases xK_20 h with rfl | rfl
        · exact va_tlen hx hb x1 hS rfl hd kk
        · exact va_tlen hx hb x2 hS rfl hd kk
      · obtain ⟨i9, hi9, rfl⟩ := xK_21 h
        rw [xK_at _ _ hi9] at kk
        exact va_tlen hx hb (x3 i9 hi9).2.2.2 hS rfl hd kk
  · cases hh
theorem sH_iast (C : Cx E (mN w0) k p s m args meth c) (S : St E w0 u s H locs cells slots) {a : Nat} {i x : Int32} (hh : sI u a i x = some u') (hd : decode (mm_m k).2.2.1 pc = .ok (.iastore, 1))
    (kk : ∀ H' locs', St E w0 u' s H' locs' cells slots → W p l e R s m args below meth c H' locs' cells slots Q (F0 m (pc + 1) ls r)) : W p l e R s m args below meth c H locs cells slots Q (F0 m pc ls (.int x :: .int i :: .ref (eA E a) :: r)) := by
  unfold sI at hh
  split at hh
  · rename_i h0
    obtain ⟨h1, ha, h3⟩ := h0
    cases hh
    have S' := S
    obtain ⟨hx, hb, hml, hret, hlk, hown, hts, hK, hX, hsz, hnm⟩ := C
    obtain ⟨hP, hS, -, -, -, -, hXB, hO⟩ := S
    rw [eA_in ha hXB]
    have he := eW_at (E := E) ha
    rw [eC_int h1 (by omega) (by omega)] at he
    refine va_iast hx hb hK hP (eW_D E u) hS a 0 he rfl h3 hd (fun H1 locs1 g1 _ g3 => kk H1 locs1 (st_upd (u1 := wI u a i.toNatClampNeg x) S' rfl rfl ?_ (fun q h9 => wIs_ne h9) (eO_I hO (Nat.lt_of_lt_of_le ha hXB)) g1 g3))
    rw [eC_int (u := wI u a i.toNatClampNeg x) (kd := 20) h1 (by omega) (by omega)]
    have e9 : mI (wI u a i.toNatClampNeg x) a = upd (mI u a) i.toNatClampNeg x := va_up_self _ _ _
    rw [e9]
    rfl
  · cases hh
theorem sH_bast (C : Cx E (mN w0) k p s m args meth c) (S : St E w0 u s H locs cells slots) {a : Nat} {i x : Int32} (hh : sB u a i x = some u') (hd : decode (mm_m k).2.2.1 pc = .ok (.bastore, 1))
    (kk : ∀ H' locs', St E w0 u' s H' locs' cells slots → W p l e R s m args below meth c H' locs' cells slots Q (F0 m (pc + 1) ls r)) : W p l e R s m args below meth c H locs cells slots Q (F0 m pc ls (.int x :: .int i :: .ref (eA E a) :: r)) := by
  unfold sB at hh
  split at hh
  · rename_i h0
    obtain ⟨h1, ha, h3⟩ := h0
    cases hh
    have S' := S
    obtain ⟨hx, hb, hml, hret, hlk, hown, hts, hK, hX, hsz, hnm⟩ := C
    obtain ⟨hP, hS, -, -, -, -, hXB, hO⟩ := S
    rw [eA_in ha hXB]
    have he := eW_at (E := E) ha
    rw [eC_int h1 (by omega) (by omega)] at he
    refine va_bast hx hb hK hP (eW_D E u) hS a 1 he rfl h3 hd (fun H1 locs1 g1 _ g3 => kk H1 locs1 (st_upd (u1 := wI u a i.toNatClampNeg (vp_nar .byte x)) S' rfl rfl ?_ (fun q h9 => wIs_ne h9) (eO_I hO (Nat.lt_of_lt_of_le ha hXB)) g1 g3))
    rw [eC_int (u := wI u a i.toNatClampNeg (vp_nar .byte x)) (kd := 21) h1 (by omega) (by omega)]
    have e9 : mI (wI u a i.toNatClampNeg (vp_nar .byte x)) a = upd (mI u a) i.toNatClampNeg (vp_nar .byte x) := va_up_self _ _ _
    rw [e9]
    rfl
  · cases hh
theorem sH_zast (C : Cx E (mN w0) k p s m args meth c) (S : St E w0 u s H locs cells slots) {a : Nat} {i x : Int32} (hh : sZ u a i x = some u') (hd : decode (mm_m k).2.2.1 pc = .ok (.bastore, 1))
    (kk : ∀ H' locs', St E w0 u' s H' locs' cells slots → W p l e R s m args below meth c H' locs' cells slots Q (F0 m (pc + 1) ls r)) : W p l e R s m args below meth c H locs cells slots Q (F0 m pc ls (.int x :: .int i :: .ref (eA E a) :: r)) := by
  unfold sZ at hh
  split at hh
  · rename_i h0
    obtain ⟨h1, ha, h3⟩ := h0
    cases hh
    have S' := S
    obtain ⟨hx, hb, hml, hret, hlk, hown, hts, hK, hX, hsz, hnm⟩ := C
    obtain ⟨hP, hS, -, -, -, -, hXB, hO⟩ := S
    rw [eA_in ha hXB]
    have he := eW_at (E := E) ha
    rw [eC_int h1 (by omega) (by omega)] at he
    refine va_zast hx hb hK hP (eW_D E u) hS a 2 he rfl h3 hd (fun H1 locs1 g1 _ g3 => kk H1 locs1 (st_upd (u1 := wI u a i.toNatClampNeg (vp_nar .boolean x)) S' rfl rfl ?_ (fun q h9 => wIs_ne h9) (eO_I hO (Nat.lt_of_lt_of_le ha hXB)) g1 g3))
    rw [eC_int (u := wI u a i.toNatClampNeg (vp_nar .boolean x)) (kd := 22) h1 (by omega) (by omega)]
    have e9 : mI (wI u a i.toNatClampNeg (vp_nar .boolean x)) a = upd (mI u a) i.toNatClampNeg (vp_nar .boolean x) := va_up_self _ _ _
    rw [e9]
    rfl
  · cases hh
theorem sH_last (C : Cx E (mN w0) k p s m args meth c) (S : St E w0 u s H locs cells slots) {a : Nat} {i : Int32} {x : Int64} (hh : sL u a i x = some u') (hd : decode (mm_m k).2.2.1 pc = .ok (.lastore, 1))
    (kk : ∀ H' locs', St E w0 u' s H' locs' cells slots → W p l e R s m args below meth c H' locs' cells slots Q (F0 m (pc + 1) ls r)) : W p l e R s m args below meth c H locs cells slots Q (F0 m pc ls (.long x :: .int i :: .ref (eA E a) :: r)) := by
  unfold sL at hh
  split at hh
  · rename_i h0
    obtain ⟨h1, ha, h3⟩ := h0
    cases hh
    have S' := S
    obtain ⟨hx, hb, hml, hret, hlk, hown, hts, hK, hX, hsz, hnm⟩ := C
    obtain ⟨hP, hS, -, -, -, -, hXB, hO⟩ := S
    rw [eA_in ha hXB]
    have he := eW_at (E := E) ha
    rw [eC_long h1] at he
    refine va_last hx hb hK hP (eW_D E u) hS a 3 he rfl h3 hd (fun H1 locs1 g1 _ g3 => kk H1 locs1 (st_upd (u1 := wL u a i.toNatClampNeg x) S' rfl rfl ?_ (fun q h9 => wLs_ne h9) (eO_L hO) g1 g3))
    rw [eC_long (u := wL u a i.toNatClampNeg x) h1]
    have e9 : mL (wL u a i.toNatClampNeg x) a = vp_updL (mL u a) i.toNatClampNeg x := va_up_self _ _ _
    rw [e9]
    rfl
  · cases hh
theorem sH_aast (C : Cx E (mN w0) k p s m args meth c) (S : St E w0 u s H locs cells slots) {a b : Nat} {i : Int32} (hh : sR u a i b = some u') (hd : decode (mm_m k).2.2.1 pc = .ok (.aastore, 1))
    (kk : ∀ H' locs', St E w0 u' s H' locs' cells slots → W p l e R s m args below meth c H' locs' cells slots Q (F0 m (pc + 1) ls r)) : W p l e R s m args below meth c H locs cells slots Q (F0 m pc ls (.ref (eA E b) :: .int i :: .ref (eA E a) :: r)) := by
  unfold sR at hh
  split at hh
  · rename_i h0
    obtain ⟨h1, ha, h3, hb9, hk9⟩ := h0
    cases hh
    have S' := S
    obtain ⟨hx, hb, hml, hret, hlk, hown, hts, hK, hX, hsz, hnm⟩ := C
    obtain ⟨hP, hS, -, -, -, -, hXB, hO⟩ := S
    rw [eA_in ha hXB, eA_in hb9 hXB]
    have hset : ∀ (kd : Nat), (mK u a).1 = kd → 23 < kd → eC E (wR u a i.toNatClampNeg b) a = .inl (E.2.2.2.1 kd, (mK u a).2, .inr (.inr (.inr (.inr (va_up (fun j => (mR u a j).map (eA E)) i.toNatClampNeg (some (E.1 + b))))))) := fun kd g1 g2 => by
      rw [eC_ref (u := wR u a i.toNatClampNeg b) (kd := kd) g1 g2]
      have e9 : mR (wR u a i.toNatClampNeg b) a = va_up (mR u a) i.toNatClampNeg (some b) := va_up_self _ _ _
      rw [e9]
      have e8 : (fun j => (va_up (mR u a) i.toNatClampNeg (some b) j).map (eA E)) = va_up (fun j => (mR u a j).map (eA E)) i.toNatClampNeg (some (E.1 + b)) := by
        funext j
        unfold va_up
        by_cases hj : j = i.toNatClampNeg
        · rw [if_pos hj, if_pos hj, ← eA_in hb9 hXB]; rfl
        · rw [if_neg hj, if_neg hj]
      rw [e8]
      rfl
    have he := eW_at (E := E) ha
    have hv := eW_at (E := E) hb9
    rcases h1 with h1 | h1
    · have hk9 : (mK u b).1 = 2 := by rw [hk9, h1]; rfl
      rw [eC_ref h1 (by omega)] at he
      rw [eC_obj hk9 (by omega)] at hv
      exact va_astq hx hb hK hP (eW_D E u) hS a 4 b 2 (r := (RX2, TX2, 20)) he rfl hv rfl h3 hd (fun H1 locs1 g1 _ g3 => kk H1 locs1 (st_upd (u1 := wR u a i.toNatClampNeg b) S' rfl rfl (hset 24 h1 (by omega)) (fun q h9 => wR_ne h9) (eO_R hO) g1 g3))
    · have hk9 : (mK u b).1 = 4 := by rw [hk9, h1]; rfl
      rw [eC_ref h1 (by omega)] at he
      rw [eC_obj hk9 (by omega)] at hv
      exact va_astq hx hb hK hP (eW_D E u) hS a 5 b 4 (r := (RX4, TX4, 4)) he rfl hv rfl h3 hd (fun H1 locs1 g1 _ g3 => kk H1 locs1 (st_upd (u1 := wR u a i.toNatClampNeg b) S' rfl rfl (hset 25 h1 (by omega)) (fun q h9 => wR_ne h9) (eO_R hO) g1 g3))
  · cases hh
theorem sH_stat (C : Cx E (mN w0) k p s m args meth c) (S : St E w0 u s H locs cells slots) {i : Nat} {v : Value} (hh : hStat (mm_m k).1 i = some v) (hd : decode (mm_m k).2.2.1 pc = .ok (.getstatic i, 3))
    (kk : W p l e R s m args below meth c H locs cells slots Q (F0 m (pc + 3) ls (eV E v :: r))) : W p l e R s m args below meth c H locs cells slots Q (F0 m pc ls r) := by
  obtain ⟨hx, hb, hml, hret, hlk, hown, hts, hK, hX, hsz, hnm⟩ := C
  obtain ⟨hP, hS, -⟩ := S
  obtain ⟨-, -, -, x4, x5, x6, -, -, x9, -⟩ := hX
  have e1 : eA E (XB + 1) = E.2.1 (XB + 1) := eA_out (by omega)
  unfold hStat at hh
  split at hh
  · rename_i h0
    cases hh
    rw [← e1] at x4
    rcases h0 with ⟨h1, rfl⟩ | ⟨h1, rfl⟩
    · rw [h1] at hown
      exact va_gets hx hb x4 hS hown (hts _ w_stat.1) (fun _ h9 => h9) hd kk
    · rw [h1] at hown
      exact va_getsN hx hb x4 hS hown (va_Nw.use rfl x9) (fun _ h9 => h9) hd kk
  · split at hh
    · rename_i h0
      obtain ⟨h1, rfl⟩ := h0
      cases hh
      rw [h1] at hown
      exact va_gets hx hb x5 hS hown (hts _ w_stat.2.1) (fun _ h9 => h9) hd kk
    · split at hh
      · rename_i h0
        obtain ⟨h1, rfl⟩ := h0
        cases hh
        rw [h1] at hown
        exact va_gets hx hb x6 hS hown (hts _ w_stat.2.2) (fun _ h9 => h9) hd kk
      · cases hh
theorem sH_ldc (C : Cx E (mN w0) k p s m args meth c) {i : Nat} {v : Value} (hh : hConst (mm_m k).1 i = some v) (hd : decode (mm_m k).2.2.1 pc = .ok (.ldc i, 2))
    (kk : W p l e R s m args below meth c H locs cells slots Q (F0 m (pc + 2) ls (eV E v :: r))) : W p l e R s m args below meth c H locs cells slots Q (F0 m pc ls r) := by
  obtain ⟨hx, hb, hml, hret, hlk, hown, hts, hK, hX, hsz, hnm⟩ := C
  unfold hConst at hh
  split at hh
  · rename_i x h0
    cases hh
    exact lv_ldc hx hb hown (hts _ (int_spec h0)) hd kk
  · split at hh
    · rename_i j h0
      cases hh
      obtain ⟨q, h1, h2, h3⟩ := str_spec h0
      obtain ⟨-, -, -, -, -, -, x7, -⟩ := hX
      have h4 := x7 j q h1
      rw [h2, h3] at h4
      have e1 : eA E (XB + 10 + 2 * j) = E.2.1 (XB + 10 + 2 * j) := eA_out (by omega)
      rw [← e1] at h4
      exact va_ldcS hx hb hown h4 hd kk
    · cases hh
theorem stW_map (E : mE) (r : List Value) : ((r.map (eV E)).map (fun v => v.category)).sum = stW r := by
  unfold stW
  rw [List.map_map]
  congr 1
  refine List.map_congr_left (fun v _ => ?_)
  exact eV_cat E v
end SA
