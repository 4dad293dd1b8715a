/-! THE SMALL MACHINE: steps that read and write the store -/
section SH
variable {p : Program} {l : Launch} {e : Env} {R : Room} {s : State} {m : MethodId} {args : Array Value} {below : List Frame} {meth : Method} {c : Code} {H : Heap} {locs : List Loc} {cells slots : Nat} {Q : State → Prop}
variable {E : mE} {w0 u : mS} {k pc : Nat} {ls : Array Slot} {st' : List Value} {u' : mS} {r : List Value}
theorem oI_some {u : mS} {ci a j : Nat} {x : Int32} (h : oI u ci a j = some x) : (a < mN u ∧ (mK u a).1 = ci) ∧ x = mI u a j := by
  unfold oI at h
  split at h
  · rename_i h1; cases h; exact ⟨h1, rfl⟩
  · cases h
theorem oL_some {u : mS} {ci a j : Nat} {x : Int64} (h : oL u ci a j = some x) : (a < mN u ∧ (mK u a).1 = ci) ∧ x = mL u a j := by
  unfold oL at h
  split at h
  · rename_i h1; cases h; exact ⟨h1, rfl⟩
  · cases h
theorem oR_some {u : mS} {ci a j x : Nat} (h : oR u ci a j = some x) : (a < mN u ∧ (mK u a).1 = ci) ∧ mR u a j = some x := by
  unfold oR at h
  split at h
  · rename_i h1; exact ⟨h1, h⟩
  · cases h
/-- a field is read -/
theorem sH_fld (C : Cx E (mN w0) k p s m args meth c) (S : St E w0 u s H locs cells slots) {i a ci j : Nat} (hf : mm_fld (mm_m k).1 i = some (ci, j)) (ha : a < mN u) (hc : (mK u a).1 = ci) (hd : decode (mm_m k).2.2.1 pc = .ok (.getfield i, 3)) {v : Value} (hv : eFld E u a j (mm_ty ci j) = v)
    (kk : W p l e R s m args below meth c H locs cells slots Q (F0 m (pc + 3) ls (v :: r))) : W p l e R s m args below meth c H locs cells slots Q (F0 m pc ls (.ref (eA E a) :: r)) := by
  obtain ⟨⟨C1, T1, N1⟩, hr, ⟨e1, e2, e3, e4, e5, e6, -, -⟩, hci, hj, hw⟩ := fld_spec hf
  obtain ⟨hx, hb, hml, hret, hlk, hown, hts, hK, hX, hsz, hnm⟩ := C
  obtain ⟨hP, hS, -, -, -, -, hXB, -⟩ := S
  rw [eA_in ha hXB]
  have he := eW_at (E := E) ha
  rw [eC_obj hc hci] at he
  exact va_get (C := C1) (T := T1) (N := N1) hx hb hts e3 hown hK hP a he hr j hj (hts _ hw) (fun _ h9 => h9) (v := v) (by rw [eObj_at (by rw [← e1]; exact hj), hv]) hd kk
theorem sH_get (C : Cx E (mN w0) k p s m args meth c) (S : St E w0 u s H locs cells slots) {i a : Nat} (hd : decode (mm_m k).2.2.1 pc = .ok (.getfield i, 3)) (hh : hGet (mm_m k).1 u i a r = some (st', u'))
    (kk : u' = u → W p l e R s m args below meth c H locs cells slots Q (F0 m (pc + 3) ls (st'.map (eV E)))) : W p l e R s m args below meth c H locs cells slots Q (F0 m pc ls ((Value.ref a :: r).map (eV E))) := by
  show W p l e R s m args below meth c H locs cells slots Q (F0 m pc ls (.ref (eA E a) :: r.map (eV E)))
  unfold hGet at hh
  split at hh
  · rename_i ci j hf
    split at hh
    · rename_i hk
      cases hx : oI u ci a j with
      | none => rw [hx] at hh; cases hh
      | some x =>
        rw [hx] at hh; cases hh
        obtain ⟨⟨h1, h2⟩, rfl⟩ := oI_some hx
        exact sH_fld C S hf h1 h2 hd (by unfold eFld; rw [hk]; rfl) (kk rfl)
    · rename_i hk
      cases hx : oL u ci a j with
      | none => rw [hx] at hh; cases hh
      | some x =>
        rw [hx] at hh; cases hh
        obtain ⟨⟨h1, h2⟩, rfl⟩ := oL_some hx
        exact sH_fld C S hf h1 h2 hd (by unfold eFld; rw [hk]; rfl) (kk rfl)
    · rename_i hk
      cases hx : oR u ci a j with
      | none => rw [hx] at hh; cases hh
      | some x =>
        rw [hx] at hh; cases hh
        obtain ⟨⟨h1, h2⟩, h3⟩ := oR_some hx
        exact sH_fld C S hf h1 h2 hd (by unfold eFld; rw [hk, h3]; rfl) (kk rfl)
    · rename_i hk
      cases hx : oI u ci a j with
      | none => rw [hx] at hh; cases hh
      | some x =>
        rw [hx] at hh; cases hh
        obtain ⟨⟨h1, h2⟩, rfl⟩ := oI_some hx
        exact sH_fld C S hf h1 h2 hd (by unfold eFld; rw [hk]; rfl) (kk rfl)
    · cases hh
  · split at hh
    · rename_i h1
      obtain ⟨ho, ha, hk⟩ := h1
      obtain ⟨hx, hb, hml, hret, hlk, hown, hts, hK, hX, hsz, hnm⟩ := C
      obtain ⟨hP, hS, -, -, -, -, hXB, hO⟩ := S
      have hown2 : s.vm.findClass "java/lang/String" = some m.cls := by rw [ho] at hown; exact hown
      rw [(hO a ha).1] at hk
      have hi : ∃ i, i < 28 ∧ a = XB + 10 + 2 * i := by
        unfold xK at hk
        split at hk
        · cases hk
        · split at hk
          · cases hk
          · split at hk
            · rename_i h3
              split at hk
              · rename_i h4
                have e0 : XB = 1000000 := rfl
                exact ⟨(a - XB - 10) / 2, by omega, by omega⟩
              · cases hk
            · cases hk
      obtain ⟨i9, hi9, rfl⟩ := hi
      rw [eA_out ha]
      obtain ⟨-, -, hs9, -⟩ := hX
      obtain ⟨-, g2, g3, -⟩ := hs9 i9 hi9
      split at hh
      · rename_i h5
        subst h5
        cases hh
        have kk := kk rfl
        refine vk_getf hx hb g3 hS hown2 (hts _ w_str.1) (fun _ h9 => h9) hd ?_
        have e9 : eA E (XB + 10 + 2 * i9 + 1) = E.2.1 (XB + 10 + 2 * i9 + 1) := eA_out (by omega)
        rw [← e9]
        exact kk
      · split at hh
        · rename_i h5
          subst h5
          cases hh
          exact vk_getf hx hb g2 hS hown2 (hts _ w_str.2) (fun _ h9 => h9) hd (kk rfl)
        · cases hh
    · cases hh
/-- a store of a field: the cell a alone is another -/
theorem sH_put1 (C : Cx E (mN w0) k p s m args meth c) (S : St E w0 u s H locs cells slots) {i a ci j : Nat} {b : Bool} (hbn : b = ((mm_m k).2.1.name == "<init>")) (hf : mm_fld (mm_m k).1 i = some (ci, j)) (hfin : mm_fin ci j = false ∨ (b = true ∧ (mm_m k).1 = ci)) (ha : a < mN u) (hc : (mK u a).1 = ci) (hd : decode (mm_m k).2.2.1 pc = .ok (.putfield i, 3)) {v : Value} {u1 : mS}
    (hn : mN u1 = mN u) (hz : mZ u1 = mZ u) (hk1 : mK u1 = mK u) (hnr : narrow (mm_ty ci j) v = v) (hft : fits (mm_ty ci j) v = true) (hv : eFld E u1 a j (mm_ty ci j) = v) (ho1 : ∀ j2, j2 ≠ j → ∀ t, eFld E u1 a j2 t = eFld E u a j2 t) (ho2 : ∀ q, q ≠ a → eC E u1 q = eC E u q) (hO1 : eO E u1)
    (kk : ∀ H' locs', St E w0 u1 s H' locs' cells slots → W p l e R s m args below meth c H' locs' cells slots Q (F0 m (pc + 3) ls r)) : W p l e R s m args below meth c H locs cells slots Q (F0 m pc ls (v :: .ref (eA E a) :: r)) := by
  obtain ⟨⟨C1, T1, N1⟩, hr, ⟨e1, e2, e3, e4, e5, e6, -, -⟩, hci, hj, hw⟩ := fld_spec hf
  obtain ⟨hx, hb, hml, hret, hlk, hown, hts, hK, hX, hsz, hnm⟩ := C
  obtain ⟨hP, hS, hce, hse, hn0, hz0, hXB, hO⟩ := S
  rw [eA_in ha hXB]
  have he := eW_at (E := E) ha
  rw [eC_obj hc hci] at he
  have hset : (eW E u).set a (E.1 + a, .inr (ci, (eObj E u a ci).set j v)) = eW E u1 := by
    refine eW_set hn ?_ ho2
    rw [eC_obj (by rw [hk1]; exact hc) hci, eObj_set (by rw [← e1]; exact hj) hv ho1]
  have kk2 : ∀ (H1 : Heap) (locs1 : List Loc), va_P E.2.2.1 vwCl ((eW E u).set a (E.1 + a, .inr (ci, (eObj E u a ci).set j v))) H1 → va_D (fA E) ((eW E u).set a (E.1 + a, .inr (ci, (eObj E u a ci).set j v))) → va_S (fA E) s.heap H1 locs1 → W p l e R s m args below meth c H1 locs1 cells slots Q (F0 m (pc + 3) ls r) := fun H1 locs1 g1 _ g3 => by
    rw [hset] at g1
    exact kk H1 locs1 ⟨g1, g3, by rw [hn]; exact hce, by rw [hz]; exact hse, by rw [hn]; exact hn0, by rw [hz]; exact hz0, by rw [hn]; exact hXB, hO1⟩
  have hlen : j < (eObj E u a ci).length := by rw [eObj_len, ← e1]; exact hj
  have hfv : mm_fin ci j = (T1 j).2.2.2 := by unfold mm_fin; rw [hr]; rfl
  cases hff : (T1 j).2.2.2 with
  | false => exact va_put (C := C1) (T := T1) (N := N1) hx hb hts e3 (mm_ty ci) e4 e5 hown hK hP (eW_D E u) hS a he hr j hj (hts _ hw) (fun _ h9 => h9) hff (e4 j hj) hnr hft hlen hd kk2
  | true =>
    rcases hfin with h9 | ⟨h9, h10⟩
    · rw [hfv, hff] at h9; cases h9
    · refine va_putF (C := C1) (T := T1) (N := N1) hx hb hts e3 (mm_ty ci) e4 e5 hown hK hP (eW_D E u) hS a he hr j hj (hts _ hw) (fun _ h9 => h9) hff ?_ ?_ (e4 j hj) hnr hft hlen hd kk2
      · rw [hnm]
        rw [hbn] at h9
        exact eq_of_beq h9
      · rw [e6 j hj, h10]
        exact e2
theorem va_up_at {α : Type} {f : Nat → α} {a : Nat} {v : α} : va_up f a v a = v := va_up_self f a v
/-- an int is written -/
theorem wIs_ne {E : mE} {u : mS} {a q : Nat} {f : Nat → Int32} (h : q ≠ a) : eC E (wIs u a f) q = eC E u q := eC_congr rfl (va_up_ne _ _ h) rfl rfl
theorem wLs_ne {E : mE} {u : mS} {a q : Nat} {f : Nat → Int64} (h : q ≠ a) : eC E (wLs u a f) q = eC E u q := eC_congr rfl rfl (va_up_ne _ _ h) rfl
theorem wR_ne {E : mE} {u : mS} {a q j b : Nat} (h : q ≠ a) : eC E (wR u a j b) q = eC E u q := eC_congr rfl rfl rfl (va_up_ne _ _ h)
theorem wI_fld {E : mE} {u : mS} {a j j2 : Nat} {x : Int32} {t : FieldType} (h : j2 ≠ j) : eFld E (wI u a j x) a j2 t = eFld E u a j2 t := by
  have e : mI (wI u a j x) a j2 = mI u a j2 := by
    show (va_up u.2.2.1 a (upd (u.2.2.1 a) j x) a : Nat → Int32) j2 = u.2.2.1 a j2
    rw [va_up_self]
    exact if_neg h
  unfold eFld
  rw [e]
  rfl
theorem wL_fld {E : mE} {u : mS} {a j j2 : Nat} {x : Int64} {t : FieldType} (h : j2 ≠ j) : eFld E (wL u a j x) a j2 t = eFld E u a j2 t := by
  have e : mL (wL u a j x) a j2 = mL u a j2 := by
    show (va_up u.2.2.2.1 a (vp_updL (u.2.2.2.1 a) j x) a : Nat → Int64) j2 = u.2.2.2.1 a j2
    rw [va_up_self]
    exact if_neg h
  unfold eFld
  rw [e]
  rfl
theorem wR_fld {E : mE} {u : mS} {a j j2 b : Nat} {t : FieldType} (h : j2 ≠ j) : eFld E (wR u a j b) a j2 t = eFld E u a j2 t := by
  have e : mR (wR u a j b) a j2 = mR u a j2 := by
    show (va_up u.2.2.2.2.1 a (va_up (u.2.2.2.2.1 a) j (some b)) a : Nat → Option Nat) j2 = u.2.2.2.2.1 a j2
    rw [va_up_self]
    exact if_neg h
  unfold eFld
  rw [e]
  rfl
theorem eO_I {E : mE} {u : mS} {a : Nat} {f : Nat → Int32} (h : eO E u) (ha : a < XB) : eO E (wIs u a f) := fun q hq => ⟨(h q hq).1, (va_up_ne _ _ (by omega)).trans (h q hq).2⟩
theorem eO_L {E : mE} {u : mS} {a : Nat} {f : Nat → Int64} (h : eO E u) : eO E (wLs u a f) := fun q hq => h q hq
theorem eO_R {E : mE} {u : mS} {a j b : Nat} (h : eO E u) : eO E (wR u a j b) := fun q hq => h q hq
theorem fk_int {t : FieldType} (h : fkOf t = 0) : t = .int := by cases t <;> first | rfl | cases h
theorem fk_long {t : FieldType} (h : fkOf t = 1) : t = .long := by cases t <;> first | rfl | cases h
theorem fk_bool {t : FieldType} (h : fkOf t = 3) : t = .boolean := by cases t <;> first | rfl | cases h
theorem fk_ref {t : FieldType} (h : fkOf t = 2) : (∃ n, t = .object n) ∨ ∃ n, t = .array n := by cases t <;> first | exact Or.inl ⟨_, rfl⟩ | exact Or.inr ⟨_, rfl⟩ | cases h
theorem sH_put (C : Cx E (mN w0) k p s m args meth c) (S : St E w0 u s H locs cells slots) {i a : Nat} {v : Value} {b : Bool} (hbn : b = ((mm_m k).2.1.name == "<init>")) (hd : decode (mm_m k).2.2.1 pc = .ok (.putfield i, 3)) (hh : hPut (mm_m k).1 u b i v a r = some (st', u'))
    (kk : ∀ H' locs', St E w0 u' s H' locs' cells slots → W p l e R s m args below meth c H' locs' cells slots Q (F0 m (pc + 3) ls (st'.map (eV E)))) : W p l e R s m args below meth c H locs cells slots Q (F0 m pc ls ((v :: Value.ref a :: r).map (eV E))) := by
  show W p l e R s m args below meth c H locs cells slots Q (F0 m pc ls (eV E v :: .ref (eA E a) :: r.map (eV E)))
  unfold hPut at hh
  split at hh
  · rename_i ci j hf
    split at hh
    · rename_i hfin
      unfold hPutV at hh
      split at hh
      · rename_i x hk
        cases hx : pI u ci a j x with
        | none => rw [hx] at hh; cases hh
        | some w =>
          rw [hx] at hh; cases hh
          unfold pI at hx
          split at hx
          · rename_i h1
            obtain ⟨h1, h2⟩ := h1
            cases hx
            have hty := fk_int hk
            refine sH_put1 (u1 := wI u a j x) C S hbn hf hfin h1 h2 hd (v := .int x) rfl rfl rfl (by rw [hty]; rfl) (by rw [hty]; rfl) ?_ (fun j2 h9 t => wI_fld h9) (fun q h9 => wIs_ne h9) (eO_I S.2.2.2.2.2.2.2 (Nat.lt_of_lt_of_le h1 S.2.2.2.2.2.2.1)) kk
            unfold eFld
            rw [hty]
            show Value.int ((va_up u.2.2.1 a (upd (u.2.2.1 a) j x) a : Nat → Int32) j) = _
            rw [va_up_self]
            exact congrArg Value.int (if_pos rfl)
          · cases hx
      · rename_i x hk
        cases hx : pL u ci a j x with
        | none => rw [hx] at hh; cases hh
        | some w =>
          rw [hx] at hh; cases hh
          unfold pL at hx
          split at hx
          · rename_i h1
            obtain ⟨h1, h2⟩ := h1
            cases hx
            have hty := fk_long hk
            refine sH_put1 (u1 := wL u a j x) C S hbn hf hfin h1 h2 hd (v := .long x) rfl rfl rfl (by rw [hty]; rfl) (by rw [hty]; rfl) ?_ (fun j2 h9 t => wL_fld h9) (fun q h9 => wLs_ne h9) (eO_L S.2.2.2.2.2.2.2) kk
            unfold eFld
            rw [hty]
            show Value.long ((va_up u.2.2.2.1 a (vp_updL (u.2.2.2.1 a) j x) a : Nat → Int64) j) = _
            rw [va_up_self]
            exact congrArg Value.long (if_pos rfl)
          · cases hx
      · rename_i x hk
        cases hx : pR u ci a j x with
        | none => rw [hx] at hh; cases hh
        | some w =>
          rw [hx] at hh; cases hh
          unfold pR at hx
          split at hx
          · rename_i h1
            obtain ⟨⟨h1, h2⟩, h3⟩ := h1
            cases hx
            have hty := fk_ref hk
            refine sH_put1 (u1 := wR u a j x) C S hbn hf hfin h1 h2 hd (v := .ref (eA E x)) rfl rfl rfl (by rcases hty with ⟨n, h⟩ | ⟨n, h⟩ <;> rw [h] <;> rfl) (by rcases hty with ⟨n, h⟩ | ⟨n, h⟩ <;> rw [h] <;> rfl) ?_ (fun j2 h9 t => wR_fld h9) (fun q h9 => wR_ne h9) (eO_R S.2.2.2.2.2.2.2) kk
            unfold eFld
            rw [hk]
            show va_rf (Option.map (eA E) ((va_up u.2.2.2.2.1 a (va_up (u.2.2.2.2.1 a) j (some x)) a : Nat → Option Nat) j)) = _
            rw [va_up_self, va_up_self]
            rfl
          · cases hx
      · rename_i x hk
        cases hx : pZ u ci a j x with
        | none => rw [hx] at hh; cases hh
        | some w =>
          rw [hx] at hh; cases hh
          unfold pZ at hx
          split at hx
          · rename_i h1
            obtain ⟨⟨h1, h2⟩, h3⟩ := h1
            cases hx
            have hty := fk_bool hk
            refine sH_put1 (u1 := wI u a j x) C S hbn hf hfin h1 h2 hd (v := .int x) rfl rfl rfl (by rw [hty]; rcases h3 with rfl | rfl <;> rfl) (by rw [hty]; rcases h3 with rfl | rfl <;> rfl) ?_ (fun j2 h9 t => wI_fld h9) (fun q h9 => wIs_ne h9) (eO_I S.2.2.2.2.2.2.2 (Nat.lt_of_lt_of_le h1 S.2.2.2.2.2.2.1)) kk
            unfold eFld
            rw [hty]
            show Value.int ((va_up u.2.2.1 a (upd (u.2.2.1 a) j x) a : Nat → Int32) j) = _
            rw [va_up_self]
            exact congrArg Value.int (if_pos rfl)
          · cases hx
      · cases hh
    · cases hh
  · cases hh
end SH
