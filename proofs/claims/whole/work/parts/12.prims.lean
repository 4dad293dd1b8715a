/-! THE SMALL MACHINE: the JDK's own, and what is made -/
section SP
variable {p : Program} {l : Launch} {e : Env} {R : Room} {s : State} {m : MethodId} {args : Array Value} {below : List Frame} {meth : Method} {c : Code} {H : Heap} {locs : List Loc} {cells slots : Nat} {Q : State → Prop}
variable {E : mE} {w0 u : mS} {k pc : Nat} {ls : Array Slot} {st st' : List Value} {u' : mS} {r : List Value}
theorem sH_obj (C : Cx E (mN w0) k p s m args meth c) (hls : ls.size = (mm_m k).2.2.2.1) (hR : 1 ≤ R.frames ∧ 37 ≤ R.locals) {i a : Nat} (hh : hObj (mm_m k).1 u i a r = some (st', u')) (hd : decode (mm_m k).2.2.1 pc = .ok (.invokespecial i, 3))
    (kk : u' = u → W p l e R s m args below meth c H locs cells slots Q (F0 m (pc + 3) ls (st'.map (eV E)))) : W p l e R s m args below meth c H locs cells slots Q (F0 m pc ls ((Value.ref a :: r).map (eV E))) := by
  show W p l e R s m args below meth c H locs cells slots Q (F0 m pc ls (.ref (eA E a) :: r.map (eV E)))
  obtain ⟨hx, hb, hml, hret, hlk, hown, hts, hK, hX, hsz, hnm⟩ := C
  unfold hObj at hh
  split at hh
  · rename_i j hcall
    split at hh
    · rename_i h0
      cases hh
      obtain ⟨w, h1, -⟩ := call_spec hcall
      have h2 : wAt w = some (.methodLink (mm_cls (mm_m k).1) i objectInit) := of_decide_eq_true (show decide (wAt w = some (.methodLink (mm_cls (mm_m k).1) i objectInit)) = true from h1)
      refine W.objInit hx hb hown (hts _ (gw_in h2 rfl)) (hts _ w_obj.1) (hts _ w_obj.2) rfl (hls.trans hml.symm) rfl hd hR.1 ?_ (W.eq rfl (kk rfl))
      have h3 := stW_map E st'
      show 2 * 0 + ((st'.map (eV E)).map (fun v => v.category)).sum + 12 ≤ R.locals
      rw [h3]
      have := h0.1
      omega
    · cases hh
  · cases hh
theorem sH_prim (C : Cx E (mN w0) k p s m args meth c) (S : St E w0 u s H locs cells slots) (hls : ls.size = (mm_m k).2.2.2.1) (hR : 1 ≤ R.frames ∧ 37 ≤ R.locals ∧ cells ≤ R.cells ∧ slots ≤ R.slots) {i : Nat} (hh : hPrim (mm_m k).1 u i st = some (st', u')) (hd : decode (mm_m k).2.2.1 pc = .ok (.invokestatic i, 3))
    (kk : ∀ H' locs', St E w0 u' s H' locs' cells slots → W p l e R s m args below meth c H' locs' cells slots Q (F0 m (pc + 3) ls (st'.map (eV E)))) : W p l e R s m args below meth c H locs cells slots Q (F0 m pc ls (st.map (eV E))) := by
  obtain ⟨hx, hb, hml, hret, hlk, hown, hts, hK, hX, hsz, hnm⟩ := C
  obtain ⟨hR1, hR2, hR3, hR4⟩ := hR
  have S' := S
  obtain ⟨hP, hS, -, -, -, -, hXB, hO⟩ := S
  unfold hPrim at hh
  split at hh
  · rename_i j y x r hcall
    split at hh
    · rename_i h0
      cases hh
      obtain ⟨w, h1, -⟩ := call_spec hcall
      have h2 : wAt w = some (.methodLink (mm_cls (mm_m k).1) i Lib.Math.max.name) := of_decide_eq_true (show decide (wAt w = some (.methodLink (mm_cls (mm_m k).1) i Lib.Math.max.name)) = true from h1)
      exact va_mmax hx hb (hml.trans hls.symm) hown (hts _ (gw_in h2 rfl)) (hts _ w_max.1) (hts _ w_max.2.1) (hts _ w_max.2.2) hR1 (by rw [stW_map]; omega) hR3 hR4 hd (kk H locs S')
    · cases hh
  · rename_i j y x r hcall
    split at hh
    · rename_i h0
      cases hh
      obtain ⟨w, h1, -⟩ := call_spec hcall
      have h2 : wAt w = some (.methodLink (mm_cls (mm_m k).1) i Lib.Math.min.name) := of_decide_eq_true (show decide (wAt w = some (.methodLink (mm_cls (mm_m k).1) i Lib.Math.min.name)) = true from h1)
      exact va_mmin hx hb (hml.trans hls.symm) hown (hts _ (gw_in h2 rfl)) (hts _ w_min.1) (hts _ w_max.2.1) (hts _ w_min.2) hR1 (by rw [stW_map]; omega) hR3 hR4 hd (kk H locs S')
    · cases hh
  · rename_i j x r hcall
    split at hh
    · rename_i h0
      cases hh
      obtain ⟨w, h1, -⟩ := call_spec hcall
      have h2 : wAt w = some (.methodLink (mm_cls (mm_m k).1) i Lib.MathLoose.abs_long.x) := of_decide_eq_true (show decide (wAt w = some (.methodLink (mm_cls (mm_m k).1) i Lib.MathLoose.abs_long.x)) = true from h1)
      exact va_mabs_long hx hb (hml.trans hls.symm) hown (hts _ (gw_in h2 rfl)) (hts _ w_abs.1) (hts _ w_max.2.1) (hts _ w_abs.2) hR1 (by rw [stW_map]; omega) hR3 hR4 hd (kk H locs S')
    · cases hh
  · rename_i j n dp b sp a r hcall
    split at hh
    · rename_i h0
      obtain ⟨w, h1, -⟩ := call_spec hcall
      have h2 : wAt w = some (.methodLink (mm_cls (mm_m k).1) i arraycopyName) := of_decide_eq_true (show decide (wAt w = some (.methodLink (mm_cls (mm_m k).1) i arraycopyName)) = true from h1)
      have h3 : ((r.map (eV E)).map (fun v => v.category)).sum + (nativeFrameWords "java/lang/System" "arraycopy" 5 + 11) ≤ R.locals := by
        rw [stW_map, show nativeFrameWords "java/lang/System" "arraycopy" 5 = 7 by decide]
        omega
      show W p l e R s m args below meth c H locs cells slots Q (F0 m pc ls (.int n :: .int dp :: .ref (eA E b) :: .int sp :: .ref (eA E a) :: r.map (eV E)))
      split at hh
      · rename_i w9 hw
        cases hh
        unfold cpyI at hw
        split at hw
        · rename_i g0
          obtain ⟨⟨g1, g2, ga, gb⟩, g3, g4, g5, g6, g7⟩ := g0
          cases hw
          rw [eA_in ga hXB, eA_in gb hXB]
          have hea := eW_at (E := E) ga
          have heb := eW_at (E := E) gb
          rw [eC_int g1 (by omega) (by omega)] at hea
          rw [eC_int g2 (by omega) (by omega)] at heb
          refine va_copyi hx hb (hml.trans hls.symm) hown (hts _ (gw_in h2 rfl)) (hts _ w_cpy.1) (hts _ w_cpy.2.1) (hts _ w_cpy.2.2) hK hP (eW_D E u) hS a b 0 0 hea heb rfl rfl rfl g3 g4 g5 g6 g7 (fun _ _ => rfl) hR1 h3 hd (fun H1 locs1 f1 _ f3 => kk H1 locs1 (st_upd (u1 := wIs u b (va_cpy (mI u a) (mI u b) sp.toNatClampNeg dp.toNatClampNeg n.toNatClampNeg)) S' rfl rfl ?_ (fun q h9 => wIs_ne h9) (eO_I hO (Nat.lt_of_lt_of_le gb hXB)) f1 f3))
          rw [eC_int (u := wIs u b (va_cpy (mI u a) (mI u b) sp.toNatClampNeg dp.toNatClampNeg n.toNatClampNeg)) (kd := 20) g2 (by omega) (by omega)]
          have e9 : mI (wIs u b (va_cpy (mI u a) (mI u b) sp.toNatClampNeg dp.toNatClampNeg n.toNatClampNeg)) b = va_cpy (mI u a) (mI u b) sp.toNatClampNeg dp.toNatClampNeg n.toNatClampNeg := va_up_self _ _ _
          rw [e9]
          rfl
        · cases hw
      · cases hw : cpyL u a sp b dp n with
        | none => rw [hw] at hh; cases hh
        | some w9 =>
          rw [hw] at hh; cases hh
          unfold cpyL at hw
          split at hw
          · rename_i g0
            obtain ⟨⟨g1, g2, ga, gb⟩, g3, g4, g5, g6, g7⟩ := g0
            cases hw
            rw [eA_in ga hXB, eA_in gb hXB]
            have hea := eW_at (E := E) ga
            have heb := eW_at (E := E) gb
            rw [eC_long g1] at hea
            rw [eC_long g2] at heb
            refine va_copyl hx hb (hml.trans hls.symm) hown (hts _ (gw_in h2 rfl)) (hts _ w_cpy.1) (hts _ w_cpy.2.1) (hts _ w_cpy.2.2) hK hP (eW_D E u) hS a b 3 3 hea heb rfl rfl rfl g3 g4 g5 g6 g7 (fun _ _ => rfl) hR1 h3 hd (fun H1 locs1 f1 _ f3 => kk H1 locs1 (st_upd (u1 := wLs u b (va_cpy (mL u a) (mL u b) sp.toNatClampNeg dp.toNatClampNeg n.toNatClampNeg)) S' rfl rfl ?_ (fun q h9 => wLs_ne h9) (eO_L hO) f1 f3))
            rw [eC_long (u := wLs u b (va_cpy (mL u a) (mL u b) sp.toNatClampNeg dp.toNatClampNeg n.toNatClampNeg)) g2]
            have e9 : mL (wLs u b (va_cpy (mL u a) (mL u b) sp.toNatClampNeg dp.toNatClampNeg n.toNatClampNeg)) b = va_cpy (mL u a) (mL u b) sp.toNatClampNeg dp.toNatClampNeg n.toNatClampNeg := va_up_self _ _ _
            rw [e9]
            rfl
          · cases hw
    · cases hh
  · cases hh
/-- the heap is as large as the store -/
theorem W_sized (hsz : s.heap.size = E.1 + mN w0) (S : St E w0 u s H locs cells slots) {g : JFrame} (kk : H.size = E.1 + mN u → W p l e R s m args below meth c H locs cells slots Q g) : W p l e R s m args below meth c H locs cells slots Q g := by
  intro T hT X
  refine kk ?_ T hT X
  have h1 := X.heapSize
  rw [hT] at h1
  obtain ⟨hP, hS, hc, -, hn, -⟩ := S
  have h2 := hS.1
  by_cases h3 : mN u = mN w0
  · omega
  · have h4 := (hP (mN u - 1) _ (eW_at (E := E) (by omega))).lt
    have h5 : E.1 + (mN u - 1) < H.size := h4
    omega
/-- new cells -/
theorem st_new (S : St E w0 u s H locs cells slots) {u1 : mS} {H1 : Heap} {cells' slots' : Nat} (hn : mN u ≤ mN u1) (hX1 : mN u1 ≤ XB) (hz : mZ u ≤ mZ u1) (ho : ∀ q, q < mN u → eC E u1 q = eC E u q) (hO1 : eO E u1) (hk : ∀ q : Nat, q < H.size → H1[q]? = H[q]?) (hs1 : H.size ≤ H1.size)
    (hat : ∀ a, mN u ≤ a → a < mN u1 → va_at E.2.2.1 vwCl (E.1 + a, eC E u1 a) H1) (hc : cells' = mN u1 - mN w0) (hs : slots' = mZ u1 - mZ w0) : St E w0 u1 s H1 locs cells' slots' := by
  obtain ⟨hP, hS, hce, hse, hn0, hz0, hXB, hO⟩ := S
  refine ⟨fun i q hi => ?_, ⟨Nat.le_trans hS.1 hs1, fun q h1 h2 => (hk q (Nat.lt_of_lt_of_le h1 hS.1)).trans (hS.2.1 q h1 h2), hS.2.2⟩, hc, hs, Nat.le_trans hn0 hn, Nat.le_trans hz0 hz, hX1, hO1⟩
  obtain ⟨h1, rfl⟩ := eW_get hi
  by_cases h2 : i < mN u
  · have h3 := hP i _ (eW_at (E := E) h2)
    rw [ho i h2]
    exact h3.kept (hk _ h3.lt)
  · exact hat i (by omega) h1
theorem fk_ok : ∀ ci, ci < 11 → ∀ j, j < mm_nf ci → fkOf (mm_ty ci j) ≠ 9 := by decide +kernel
theorem eC_nC {u : mS} {kd len q : Nat} (h : q < mN u) : eC E (nC u kd len) q = eC E u q := eC_congr (va_up_ne _ _ (Nat.ne_of_lt h)) (va_up_ne _ _ (Nat.ne_of_lt h)) (va_up_ne _ _ (Nat.ne_of_lt h)) (va_up_ne _ _ (Nat.ne_of_lt h))
theorem eO_nC {u : mS} {kd len : Nat} (h : eO E u) (hX : mN u < XB) : eO E (nC u kd len) := fun q hq => ⟨(va_up_ne _ _ (by show q ≠ u.1; have : mN u = u.1 := rfl; omega)).trans (h q hq).1, (va_up_ne _ _ (by show q ≠ u.1; have : mN u = u.1 := rfl; omega)).trans (h q hq).2⟩
theorem sH_new (C : Cx E (mN w0) k p s m args meth c) (S : St E w0 u s H locs cells slots) (hR : mN u' - mN w0 ≤ R.cells ∧ mZ u' - mZ w0 ≤ R.slots) {i : Nat} (hh : hNew (mm_m k).1 u i r = some (st', u')) (hd : decode (mm_m k).2.2.1 pc = .ok (.new i, 3))
    (kk : ∀ H' cells' slots', St E w0 u' s H' locs cells' slots' → W p l e R s m args below meth c H' locs cells' slots' Q (F0 m (pc + 3) ls (st'.map (eV E)))) : W p l e R s m args below meth c H locs cells slots Q (F0 m pc ls (r.map (eV E))) := by
  have C' := C
  obtain ⟨hx, hb, hml, hret, hlk, hown, hts, hK, hX, hsz, hnm⟩ := C
  refine W_sized (E := E) (w0 := w0) (u := u) hsz S (fun hsize => ?_)
  have S' := S
  obtain ⟨hP, hS, hce, hse, hn0, hz0, hXB, hO⟩ := S
  unfold hNew at hh
  split at hh
  · rename_i ci hnw
    split at hh
    · rename_i h0
      obtain ⟨hci, hlt⟩ := h0
      cases hh
      obtain ⟨⟨C1, T1, N1⟩, hr, e1, e2, e3, e4, e5, e6, e7, e8⟩ := cl_facts ci hci
      have e1 : N1 = mm_nf ci := e1
      subst e1
      have e2 : C1 = mm_cls ci := e2
      have hKn := hK.1 ci _ hr
      have hcl := (new_spec hnw).1 hci
      rw [← e2] at hcl
      have hR1 : mN u + 1 - mN w0 ≤ R.cells := hR.1
      have hR2 : mZ u + mm_nf ci - mZ w0 ≤ R.slots := hR.2
      refine W.newcK hx hb hown (hts _ hcl) (hts _ e7) (hts _ e8) rfl hd (by omega) (by show slots + mm_nf ci ≤ R.slots; omega) hKn.2.1 rfl fun H1 kC hkC f1 z1 o1 => ?_
      have hst : St E w0 (nC u ci (mm_nf ci)) s H1 locs (cells + 1) (slots + mm_nf ci) := by
        refine st_new S' (Nat.le_succ _) hlt (Nat.le_add_right _ _) (fun q hq => eC_nC hq) (eO_nC hO hlt) o1 (by omega) (fun a g1 g2 => ?_) (by show cells + 1 = mN u + 1 - mN w0; omega) (by show slots + mm_nf ci = mZ u + mm_nf ci - mZ w0; omega)
        have g3 : a = mN u := by
          have : a < mN u + 1 := g2
          omega
        subst g3
        have hkd : (mK (nC u ci (mm_nf ci)) (mN u)).1 = ci := congrArg Prod.fst (va_up_self u.2.1 u.1 (ci, mm_nf ci))
        rw [eC_obj hkd hci]
        refine ⟨_, hr, ?_⟩
        have hb9 := u_born (mm_ty ci) hts e3 hKn hkC f1 e4
        rw [hsize] at hb9
        refine hb9.to (fun j hj => ?_)
        have hj : j < mm_nf ci := hj
        show _ = (eObj E (nC u ci (mm_nf ci)) (mN u) ci).getD j .null
        rw [List.getD_eq_getElem?_getD, eObj_at hj]
        have hf := fk_ok ci hci j hj
        have m1 : mI (nC u ci (mm_nf ci)) (mN u) = fun _ => 0 := va_up_self u.2.2.1 u.1 _
        have m2 : mL (nC u ci (mm_nf ci)) (mN u) = fun _ => 0 := va_up_self u.2.2.2.1 u.1 _
        have m3 : mR (nC u ci (mm_nf ci)) (mN u) = fun _ => none := va_up_self u.2.2.2.2.1 u.1 _
        show _ = eFld E (nC u ci (mm_nf ci)) (mN u) j (mm_ty ci j)
        unfold eFld
        rw [m1, m2, m3]
        cases ht : mm_ty ci j with
        | int => rfl
        | long => rfl
        | boolean => rfl
        | object n => rfl
        | array n => rfl
        | _ => rw [ht] at hf; exact absurd rfl hf
      have hk9 := kk H1 _ _ hst
      have e9 : eA E (mN u) = H.size := by rw [hsize]; exact if_pos hlt
      refine W.eq ?_ hk9
      show F0 m (pc + 3) ls (.ref H.size :: r.map (eV E)) = F0 m (pc + 3) ls (.ref (eA E (mN u)) :: r.map (eV E))
      rw [e9]
    · cases hh
  · cases hh
theorem eC_new {u : mS} {kd len : Nat} : mI (nC u kd len) (mN u) = (fun _ => 0) ∧ mL (nC u kd len) (mN u) = (fun _ => 0) ∧ mR (nC u kd len) (mN u) = (fun _ => none) ∧ mK (nC u kd len) (mN u) = (kd, len) := ⟨va_up_self u.2.2.1 u.1 _, va_up_self u.2.2.2.1 u.1 _, va_up_self u.2.2.2.2.1 u.1 _, va_up_self u.2.1 u.1 (kd, len)⟩
/-- a new array of numbers -/
theorem sH_newa1 (C : Cx E (mN w0) k p s m args meth c) (S : St E w0 u s H locs cells slots) {kd t0 : Nat} {n : Int32} {t : ClassFile.ArrayType} {ty : FieldType} (hty : newarray.typeOf t = ty) (hw : Cond.arrayClass ty ∈ GW) (ht0 : (eT E)[t0]? = some (E.2.2.2.1 kd, ty)) (hn : ¬ n < 0) (hbd : n.toNatClampNeg * componentBytes ty ≤ 536870912) (hlt : mN u < XB)
    (hcell : ∀ cA : ClassId, E.2.2.2.1 kd = cA → va_at E.2.2.1 vwCl (E.1 + mN u, eC E (nC u kd n.toNatClampNeg) (mN u)) = fun H1 : Heap => H1[E.1 + mN u]? = some (arrV cA n.toNatClampNeg (fun _ => defaultValue ty)))
    (hra : ∀ cA, va_RA s cA ty → s.vm.findClass ("[" ++ ty.toString) = some cA) (hR : mN u + 1 - mN w0 ≤ R.cells ∧ mZ u + n.toNatClampNeg - mZ w0 ≤ R.slots) (hd : decode (mm_m k).2.2.1 pc = .ok (.newarray t, 2))
    (kk : ∀ H' cells' slots', St E w0 (nC u kd n.toNatClampNeg) s H' locs cells' slots' → W p l e R s m args below meth c H' locs cells' slots' Q (F0 m (pc + 2) ls (.ref (eA E (mN u)) :: r.map (eV E)))) : W p l e R s m args below meth c H locs cells slots Q (F0 m pc ls (.int n :: r.map (eV E))) := by
  subst hty
  obtain ⟨hx, hb, hml, hret, hlk, hown, hts, hK, hX, hsz, hnm⟩ := C
  refine W_sized (E := E) (w0 := w0) (u := u) hsz S (fun hsize => ?_)
  have S' := S
  obtain ⟨hP, hS, hce, hse, hn0, hz0, hXB, hO⟩ := S
  refine va_newaK hx hb (hts _ hw) rfl hd rfl hn rfl hbd (by omega) (by omega) rfl fun H1 cA f1 z1 o1 hAr hNm => ?_
  have hcA : E.2.2.2.1 kd = cA := Option.some.inj ((hra _ (hK.2 t0 _ ht0).2).symm.trans hNm)
  have hst : St E w0 (nC u kd n.toNatClampNeg) s H1 locs (cells + 1) (slots + n.toNatClampNeg) := by
    refine st_new S' (Nat.le_succ _) hlt (Nat.le_add_right _ _) (fun q hq => eC_nC hq) (eO_nC hO hlt) o1 (by omega) (fun a g1 g2 => ?_) (by show cells + 1 = mN u + 1 - mN w0; omega) (by show slots + n.toNatClampNeg = mZ u + n.toNatClampNeg - mZ w0; omega)
    have g3 : a = mN u := by
      have : a < mN u + 1 := g2
      omega
    subst g3
    rw [hcell cA hcA, ← hsize]
    exact f1
  have e9 : eA E (mN u) = H.size := by rw [hsize]; exact if_pos hlt
  rw [← e9]
  exact kk H1 _ _ hst
theorem sH_newa (C : Cx E (mN w0) k p s m args meth c) (S : St E w0 u s H locs cells slots) (hR : mN u' - mN w0 ≤ R.cells ∧ mZ u' - mZ w0 ≤ R.slots) {t : ClassFile.ArrayType} {n : Int32} (hh : hNewA u t n r = some (st', u')) (hd : decode (mm_m k).2.2.1 pc = .ok (.newarray t, 2))
    (kk : ∀ H' cells' slots', St E w0 u' s H' locs cells' slots' → W p l e R s m args below meth c H' locs cells' slots' Q (F0 m (pc + 2) ls (st'.map (eV E)))) : W p l e R s m args below meth c H locs cells slots Q (F0 m pc ls (.int n :: r.map (eV E))) := by
  unfold hNewA at hh
  split at hh
  · rename_i h0
    obtain ⟨hn, hb9, hlt⟩ := h0
    split at hh
    · cases hh
      refine sH_newa1 C S (kd := 20) (t0 := 0) (t := .int) (ty := .int) rfl w_arr.1 rfl hn (by show n.toNatClampNeg * 4 ≤ _; omega) hlt (fun cA hcA => ?_) (fun _ h => h) hR hd kk
      rw [eC_int (u := nC u 20 n.toNatClampNeg) (kd := 20) (by rw [eC_new.2.2.2]) (by omega) (by omega), eC_new.1, eC_new.2.2.2, hcA]
      rfl
    · cases hh
      refine sH_newa1 C S (kd := 21) (t0 := 1) (t := .byte) (ty := .byte) rfl w_arr.2.1 rfl hn (by show n.toNatClampNeg * 1 ≤ _; omega) hlt (fun cA hcA => ?_) (fun _ h => h) hR hd kk
      rw [eC_int (u := nC u 21 n.toNatClampNeg) (kd := 21) (by rw [eC_new.2.2.2]) (by omega) (by omega), eC_new.1, eC_new.2.2.2, hcA]
      rfl
    · cases hh
      refine sH_newa1 C S (kd := 22) (t0 := 2) (t := .boolean) (ty := .boolean) rfl w_arr.2.2.1 rfl hn (by show n.toNatClampNeg * 1 ≤ _; omega) hlt (fun cA hcA => ?_) (fun _ h => h) hR hd kk
      rw [eC_int (u := nC u 22 n.toNatClampNeg) (kd := 22) (by rw [eC_new.2.2.2]) (by omega) (by omega), eC_new.1, eC_new.2.2.2, hcA]
      rfl
    · cases hh
      refine sH_newa1 C S (kd := 23) (t0 := 3) (t := .long) (ty := .long) rfl w_arr.2.2.2 rfl hn (by show n.toNatClampNeg * 8 ≤ _; omega) hlt (fun cA hcA => ?_) (fun _ h => h) hR hd kk
      rw [eC_long (u := nC u 23 n.toNatClampNeg) (by rw [eC_new.2.2.2]), eC_new.2.1, eC_new.2.2.2, hcA]
      rfl
    · cases hh
  · cases hh
/-- a new array of objects -/
theorem sH_newr1 (C : Cx E (mN w0) k p s m args meth c) (S : St E w0 u s H locs cells slots) {kd t0 i : Nat} {n : Int32} {C1 : String} (h23 : 23 < kd) (hcl : Cond.classLink (mm_cls (mm_m k).1) i C1 ∈ GW) (hao : va_AO C1 s) (ht0 : (eT E)[t0]? = some (E.2.2.2.1 kd, .object C1)) (hn : ¬ n < 0) (hbd : n.toNatClampNeg * 4 ≤ 536870912) (hlt : mN u < XB)
    (hR : mN u + 1 - mN w0 ≤ R.cells ∧ mZ u + n.toNatClampNeg - mZ w0 ≤ R.slots) (hd : decode (mm_m k).2.2.1 pc = .ok (.anewarray i, 3))
    (kk : ∀ H' cells' slots', St E w0 (nC u kd n.toNatClampNeg) s H' locs cells' slots' → W p l e R s m args below meth c H' locs cells' slots' Q (F0 m (pc + 3) ls (.ref (eA E (mN u)) :: r.map (eV E)))) : W p l e R s m args below meth c H locs cells slots Q (F0 m pc ls (.int n :: r.map (eV E))) := by
  obtain ⟨hx, hb, hml, hret, hlk, hown, hts, hK, hX, hsz, hnm⟩ := C
  refine W_sized (E := E) (w0 := w0) (u := u) hsz S (fun hsize => ?_)
  have S' := S
  obtain ⟨hP, hS, hce, hse, hn0, hz0, hXB, hO⟩ := S
  refine W.anew hx hb hown (hts _ hcl) (va_AO.use hao) rfl hd rfl hn hbd (by omega) (by omega) fun cA kA comp f1 f2 f3 f4 => ?_
  obtain ⟨kA9, comp9, -, -, -, hNm⟩ := (hK.2 t0 _ ht0).2
  have hcA : E.2.2.2.1 kd = cA := Option.some.inj (hNm.symm.trans f1)
  have hst : St E w0 (nC u kd n.toNatClampNeg) s (H.push ({ cls := cA, slots := Array.replicate n.toNatClampNeg .null, vm := .none } : Cell)) locs (cells + 1) (slots + n.toNatClampNeg) := by
    refine st_new S' (Nat.le_succ _) hlt (Nat.le_add_right _ _) (fun q hq => eC_nC hq) (eO_nC hO hlt) (fun q hq => by rw [Array.getElem?_push, if_neg (Nat.ne_of_lt hq)]) (by rw [Array.size_push]; omega) (fun a g1 g2 => ?_) (by show cells + 1 = mN u + 1 - mN w0; omega) (by show slots + n.toNatClampNeg = mZ u + n.toNatClampNeg - mZ w0; omega)
    have g3 : a = mN u := by
      have : a < mN u + 1 := g2
      omega
    subst g3
    rw [eC_ref (u := nC u kd n.toNatClampNeg) (kd := kd) (by rw [eC_new.2.2.2]) h23, eC_new.2.2.1, eC_new.2.2.2, hcA, ← hsize]
    show (H.push _)[H.size]? = some (vp_cell _ _)
    rw [vp_cell_q, Array.getElem?_push_size]
    exact congrArg some (arrV_new cA n.toNatClampNeg .null)
  have e9 : eA E (mN u) = H.size := by rw [hsize]; exact if_pos hlt
  have hk9 := kk _ _ _ hst
  rw [e9] at hk9
  exact hk9
theorem sH_newr (C : Cx E (mN w0) k p s m args meth c) (S : St E w0 u s H locs cells slots) (hR : mN u' - mN w0 ≤ R.cells ∧ mZ u' - mZ w0 ≤ R.slots) {i : Nat} {n : Int32} (hh : hNewR (mm_m k).1 u i n r = some (st', u')) (hd : decode (mm_m k).2.2.1 pc = .ok (.anewarray i, 3))
    (kk : ∀ H' cells' slots', St E w0 u' s H' locs cells' slots' → W p l e R s m args below meth c H' locs cells' slots' Q (F0 m (pc + 3) ls (st'.map (eV E)))) : W p l e R s m args below meth c H locs cells slots Q (F0 m pc ls (.int n :: r.map (eV E))) := by
  have hX := C.2.2.2.2.2.2.2.2.1
  obtain ⟨-, -, -, -, -, -, -, -, -, x10, x11, -⟩ := hX
  unfold hNewR at hh
  split at hh
  · rename_i ci hnw
    split at hh
    · rename_i h0
      obtain ⟨⟨hn, hb9, hlt⟩, hci⟩ := h0
      cases hh
      rcases hci with rfl | rfl
      · exact sH_newr1 C S (kd := 24) (t0 := 4) (by omega) ((new_spec hnw).1 (by omega)) x10 rfl hn (by omega) hlt hR hd kk
      · exact sH_newr1 C S (kd := 25) (t0 := 5) (by omega) ((new_spec hnw).1 (by omega)) x11 rfl hn (by omega) hlt hR hd kk
    · cases hh
  · cases hh
theorem eC_nM {u : mS} {n j q : Nat} (h : q < mN u) : eC E (nM u n j) q = eC E u q := by
  have e0 : mN u = u.1 := rfl
  refine eC_congr ?_ ?_ ?_ ?_
  · show (if q = u.1 then _ else if u.1 < q ∧ q ≤ u.1 + n then _ else u.2.1 q) = _
    rw [if_neg (by omega), if_neg (by omega)]; rfl
  · show (if u.1 ≤ q ∧ q ≤ u.1 + n then _ else u.2.2.1 q) = _
    rw [if_neg (by omega)]; rfl
  · show (if u.1 ≤ q ∧ q ≤ u.1 + n then _ else u.2.2.2.1 q) = _
    rw [if_neg (by omega)]; rfl
  · show (if q = u.1 then _ else if u.1 < q ∧ q ≤ u.1 + n then _ else u.2.2.2.2.1 q) = _
    rw [if_neg (by omega), if_neg (by omega)]; rfl
theorem eO_nM {u : mS} {n j : Nat} (h : eO E u) (hX : mN u + n < XB) : eO E (nM u n j) := fun q hq => by
  have e0 : mN u = u.1 := rfl
  refine ⟨?_, ?_⟩
  · show (if q = u.1 then _ else if u.1 < q ∧ q ≤ u.1 + n then _ else u.2.1 q) = _
    rw [if_neg (by omega), if_neg (by omega)]; exact (h q hq).1
  · show (if u.1 ≤ q ∧ q ≤ u.1 + n then _ else u.2.2.1 q) = _
    rw [if_neg (by omega)]; exact (h q hq).2
theorem eC_nM0 {u : mS} {n j : Nat} : eC E (nM u n j) (mN u) = .inl (E.2.2.2.1 26, n, .inr (.inr (.inr (.inr (fun i => (if i < n then some (mN u + 1 + i) else none).map (eA E)))))) := by
  have hk : mK (nM u n j) (mN u) = (26, n) := if_pos rfl
  have hr : mR (nM u n j) (mN u) = fun i => if i < n then some (mN u + 1 + i) else none := if_pos rfl
  rw [eC_ref (u := nM u n j) (kd := 26) (by rw [hk]) (by omega), hk, hr]
theorem eC_nM1 {u : mS} {n j i : Nat} (h : i < n) : eC E (nM u n j) (mN u + 1 + i) = .inl (E.2.2.2.1 20, j, .inl (fun _ => 0)) := by
  have e0 : mN u = u.1 := rfl
  have hk : mK (nM u n j) (mN u + 1 + i) = (20, j) := by
    show (if mN u + 1 + i = u.1 then _ else if u.1 < mN u + 1 + i ∧ mN u + 1 + i ≤ u.1 + n then _ else _) = _
    rw [if_neg (by omega), if_pos (by omega)]
  have hi : mI (nM u n j) (mN u + 1 + i) = fun _ => 0 := by
    show (if u.1 ≤ mN u + 1 + i ∧ mN u + 1 + i ≤ u.1 + n then _ else _) = _
    rw [if_pos (by omega)]
  rw [eC_int (u := nM u n j) (kd := 20) (by rw [hk]) (by omega) (by omega), hk, hi]
theorem sH_newm (C : Cx E (mN w0) k p s m args meth c) (S : St E w0 u s H locs cells slots) (hR : mN u' - mN w0 ≤ R.cells ∧ mZ u' - mZ w0 ≤ R.slots) {i : Nat} {n j : Int32} (hh : hNewM (mm_m k).1 u i n j r = some (st', u')) (hd : decode (mm_m k).2.2.1 pc = .ok (.multianewarray i 2, 4))
    (kk : ∀ H' cells' slots', St E w0 u' s H' locs cells' slots' → W p l e R s m args below meth c H' locs cells' slots' Q (F0 m (pc + 4) ls (st'.map (eV E)))) : W p l e R s m args below meth c H locs cells slots Q (F0 m pc ls (.int j :: .int n :: r.map (eV E))) := by
  obtain ⟨hx, hb, hml, hret, hlk, hown, hts, hK, hX, hsz, hnm⟩ := C
  obtain ⟨-, -, -, -, -, -, -, -, -, -, -, x12⟩ := hX
  refine W_sized (E := E) (w0 := w0) (u := u) hsz S (fun hsize => ?_)
  have S' := S
  obtain ⟨hP, hS, hce, hse, hn0, hz0, hXB, hO⟩ := S
  unfold hNewM at hh
  split at hh
  · rename_i ci hnw
    split at hh
    · rename_i h0
      obtain ⟨⟨hn, hnb, hj, hjb, hlt⟩, hci⟩ := h0
      cases hh
      have hcl := (new_spec hnw).2 hci
      intro T hT Xs
      have hR1 : mN u + 1 + n.toNatClampNeg - mN w0 ≤ R.cells := hR.1
      have hR2 : mZ u + n.toNatClampNeg + n.toNatClampNeg * j.toNatClampNeg - mZ w0 ≤ R.slots := hR.2
      obtain ⟨vm₁, cA, comp, -, fA, fC, hOo, -, X', step⟩ := Xs.multianewarray2F hx hown (hts _ hcl) (va_AOA.use x12) (hts _ w_arr.1) (g := F0 m pc ls (.int j :: .int n :: r.map (eV E))) rfl (by rw [hb]; exact hd) rfl hn hj (by omega) (by show j.toNatClampNeg * 4 ≤ _; omega) (by omega) rfl rfl (by omega) (by omega)
      generalize hF : Jvm.Free.Multi.fill (T.setVm vm₁) cA comp n.toNatClampNeg j.toNatClampNeg (defaultValue .int) n.toNatClampNeg = F at X' step
      have hTh : (T.setVm vm₁).heap = H := hT
      obtain ⟨f1, f2, -, -⟩ := Jvm.Free.Multi.fill_facts (T.setVm vm₁) cA comp n.toNatClampNeg j.toNatClampNeg (defaultValue .int) n.toNatClampNeg
      rw [hF, hTh] at f1 f2
      have hold : ∀ x : Nat, x < H.size → F.heap[x]? = H[x]? := fun x hx => by
        have := Jvm.Free.Multi.fill_old (T.setVm vm₁) cA comp n.toNatClampNeg j.toNatClampNeg (defaultValue .int) (a := x) (by rw [hTh]; exact hx) n.toNatClampNeg
        rw [hF, hTh] at this
        exact this
      have hrow : ∀ q : Nat, q < n.toNatClampNeg → F.heap[H.size + 1 + q]? = some (vp_cell comp (j.toNatClampNeg, .inl (fun _ => 0))) := fun q hq => by
        have := Jvm.Free.Multi.fill_inner (T.setVm vm₁) cA comp n.toNatClampNeg j.toNatClampNeg (defaultValue .int) n.toNatClampNeg q hq
        rw [hF, hTh] at this
        rw [this]
        exact congrArg some (arrV_new comp j.toNatClampNeg (.int 0))
      have hcA : E.2.2.2.1 26 = cA := Option.some.inj ((hK.2 6 _ rfl).2.symm.trans fA)
      have hcI : E.2.2.2.1 20 = comp := Option.some.inj ((hK.2 0 _ rfl).2.symm.trans fC)
      have hst : St E w0 (nM u n.toNatClampNeg j.toNatClampNeg) s F.heap locs (cells + 1 + n.toNatClampNeg) (slots + n.toNatClampNeg + n.toNatClampNeg * j.toNatClampNeg) := by
        refine st_new S' (by show mN u ≤ mN u + 1 + _; omega) (by show mN u + 1 + _ ≤ XB; omega) (by show mZ u ≤ mZ u + _ + _; omega) (fun q hq => eC_nM hq) (eO_nM hO hlt) hold (by rw [f1]; omega) (fun a g1 g2 => ?_) (by show _ = mN u + 1 + _ - mN w0; omega) (by show _ = mZ u + _ + _ - mZ w0; omega)
        have g2 : a < mN u + 1 + n.toNatClampNeg := g2
        by_cases g3 : a = mN u
        · subst g3
          rw [eC_nM0, hcA, ← hsize]
          show F.heap[H.size]? = some (vp_cell _ _)
          rw [f2]
          refine congrArg some ?_
          rw [vr_outer cA n.toNatClampNeg H.size n.toNatClampNeg, vp_cell_q]
          refine congrArg (arrV cA n.toNatClampNeg) (funext fun q => ?_)
          by_cases hq : q < n.toNatClampNeg
          · rw [if_pos hq, if_pos hq]
            show _ = va_rf (some (eA E (mN u + 1 + q)))
            have e8 : eA E (mN u + 1 + q) = E.1 + (mN u + 1 + q) := if_pos (by omega)
            rw [e8, show H.size + 1 + q = E.1 + (mN u + 1 + q) by omega]
          · rw [if_neg hq, if_neg hq]
            rfl
        · obtain ⟨q, hq, rfl⟩ : ∃ q, q < n.toNatClampNeg ∧ a = mN u + 1 + q := ⟨a - mN u - 1, by omega, by omega⟩
          rw [eC_nM1 hq, hcI]
          show F.heap[E.1 + (mN u + 1 + q)]? = _
          rw [show E.1 + (mN u + 1 + q) = H.size + 1 + q by omega]
          exact hrow q hq
      have hk9 := kk F.heap _ _ hst F rfl X'
      obtain ⟨t, a1, b1⟩ := hk9
      refine ⟨t, step t ?_, b1⟩
      have e9 : eA E (mN u) = T.heap.size := by rw [hT, hsize]; exact if_pos (by omega)
      rw [← e9]
      exact a1
    · cases hh
  · cases hh
end SP
