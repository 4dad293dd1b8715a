/-! THE SMALL MACHINE: one step, a return -/
section SS
variable {p : Program} {l : Launch} {e : Env} {R : Room} {s : State} {m : MethodId} {args : Array Value} {below : List Frame} {meth : Method} {c : Code} {H : Heap} {locs : List Loc} {cells slots : Nat} {Q : State → Prop}
variable {E : mE} {w0 u : mS} {k pc : Nat} {ls : Array Slot} {st st' : List Value} {u' : mS} {r : List Value}
set_option maxHeartbeats 4000000 in
theorem sH {d len : Nat} {b : Bool} {ins : ClassFile.Instr} (C : Cx E (mN w0) k p s m args meth c) (S : St E w0 u s H locs cells slots) (hls : ls.size = (mm_m k).2.2.2.1) (hR : d ≤ R.frames ∧ 37 * d ≤ R.locals ∧ mN u' - mN w0 ≤ R.cells ∧ mZ u' - mZ w0 ≤ R.slots) (hRu : mN u - mN w0 ≤ R.cells ∧ mZ u - mZ w0 ≤ R.slots) (hbn : b = ((mm_m k).2.1.name == "<init>"))
    (hd : decode (mm_m k).2.2.1 pc = .ok (ins, len)) (hh : hF (mm_m k).1 d b ins len st u = some (st', u'))
    (kk : ∀ H' locs' cells' slots', St E w0 u' s H' locs' cells' slots' → W p l e R s m args below meth c H' locs' cells' slots' Q (F0 m (pc + len) ls (st'.map (eV E)))) : W p l e R s m args below meth c H locs cells slots Q (F0 m pc ls (st.map (eV E))) := by
  have e1 : cells ≤ R.cells := by rw [S.2.2.1]; exact hRu.1
  have e2 : slots ≤ R.slots := by rw [S.2.2.2.1]; exact hRu.2
  unfold hF at hh
  split at hh
  · split at hh
    · rename_i h0; subst h0
      exact sH_get C S hd hh (fun h => kk H locs cells slots (by rw [h]; exact S))
    · cases hh
  · split at hh
    · rename_i h0; subst h0
      exact sH_put C S hbn hd hh (fun H' locs' S' => kk H' locs' _ _ S')
    · cases hh
  · split at hh
    · rename_i h0; subst h0
      rename_i i a r0
      cases hx : aI u 20 a i with
      | none => rw [hx] at hh; cases hh
      | some x =>
        rw [hx] at hh; cases hh
        exact sH_iald C S hx hd (kk H locs cells slots S)
    · cases hh
  · split at hh
    · rename_i h0; subst h0
      split at hh
      · rename_i x hx
        cases hh
        exact sH_bald C S hx hd (kk H locs cells slots S)
      · split at hh
        · rename_i ha
          rename_i i a r0 _ _
          cases hx : aI u 22 a i with
          | none => rw [hx] at hh; cases hh
          | some x =>
            rw [hx] at hh; cases hh
            exact sH_zald C S hx ha hd (kk H locs cells slots S)
        · cases hh
    · cases hh
  · split at hh
    · rename_i h0; subst h0
      rename_i i a r0
      cases hx : aL u a i with
      | none => rw [hx] at hh; cases hh
      | some x =>
        rw [hx] at hh; cases hh
        exact sH_lald C S hx hd (kk H locs cells slots S)
    · cases hh
  · split at hh
    · rename_i h0
      obtain ⟨h0, h8, h9⟩ := h0; subst h0
      rename_i i a r0
      cases hx : aR u (mK u a).1 a i with
      | none => rw [hx] at hh; cases hh
      | some x =>
        rw [hx] at hh; cases hh
        exact sH_aald C S hx ⟨h8, h9⟩ hd (kk H locs cells slots S)
    · cases hh
  · split at hh
    · rename_i h0; subst h0
      rename_i x i a r0
      cases hx : sI u a i x with
      | none => rw [hx] at hh; cases hh
      | some w =>
        rw [hx] at hh; cases hh
        exact sH_iast C S hx hd (fun H' locs' S' => kk H' locs' _ _ S')
    · cases hh
  · split at hh
    · rename_i h0; subst h0
      split at hh
      · rename_i w hx
        cases hh
        exact sH_bast C S hx hd (fun H' locs' S' => kk H' locs' _ _ S')
      · rename_i x i a r0 _ _
        cases hx : sZ u a i x with
        | none => rw [hx] at hh; cases hh
        | some w =>
          rw [hx] at hh; cases hh
          exact sH_zast C S hx hd (fun H' locs' S' => kk H' locs' _ _ S')
    · cases hh
  · split at hh
    · rename_i h0; subst h0
      rename_i x i a r0
      cases hx : sL u a i x with
      | none => rw [hx] at hh; cases hh
      | some w =>
        rw [hx] at hh; cases hh
        exact sH_last C S hx hd (fun H' locs' S' => kk H' locs' _ _ S')
    · cases hh
  · split at hh
    · rename_i h0; subst h0
      rename_i x i a r0
      cases hx : sR u a i x with
      | none => rw [hx] at hh; cases hh
      | some w =>
        rw [hx] at hh; cases hh
        exact sH_aast C S hx hd (fun H' locs' S' => kk H' locs' _ _ S')
    · cases hh
  · split at hh
    · rename_i h0; subst h0
      rename_i a r0
      cases hx : aLen u a with
      | none => rw [hx] at hh; cases hh
      | some x =>
        rw [hx] at hh; cases hh
        exact sH_alen C S hx hd (kk H locs cells slots S)
    · cases hh
  · split at hh
    · rename_i h0; subst h0
      rename_i i
      cases hx : hStat (mm_m k).1 i with
      | none => rw [hx] at hh; cases hh
      | some v =>
        rw [hx] at hh; cases hh
        exact sH_stat C S hx hd (kk H locs cells slots S)
    · cases hh
  · split at hh
    · rename_i h0; subst h0
      rename_i i
      cases hx : hConst (mm_m k).1 i with
      | none => rw [hx] at hh; cases hh
      | some v =>
        rw [hx] at hh; cases hh
        exact sH_ldc C hx hd (kk H locs cells slots S)
    · cases hh
  · split at hh
    · rename_i h0; subst h0
      rename_i i
      cases hx : mm_int (mm_m k).1 i with
      | none => rw [hx] at hh; cases hh
      | some v =>
        rw [hx] at hh; cases hh
        obtain ⟨hx9, hb, hml, hret, hlk, hown, hts, hK, hX, hsz, hnm⟩ := C
        exact lv_ldcw hx9 hb hown (hts _ (int_spec hx)) hd (kk H locs cells slots S)
    · cases hh
  · split at hh
    · rename_i h0; subst h0
      rename_i i
      cases hx : mm_long (mm_m k).1 i with
      | none => rw [hx] at hh; cases hh
      | some v =>
        rw [hx] at hh; cases hh
        obtain ⟨hx9, hb, hml, hret, hlk, hown, hts, hK, hX, hsz, hnm⟩ := C
        exact lv_ldc2 hx9 hb hown (hts _ (long_spec hx)) hd (kk H locs cells slots S)
    · cases hh
  · split at hh
    · rename_i h0; subst h0
      exact sH_new C S hR.2.2 hh hd (fun H' cells' slots' S' => kk H' locs cells' slots' S')
    · cases hh
  · split at hh
    · rename_i h0; subst h0
      exact sH_newa C S hR.2.2 hh hd (fun H' cells' slots' S' => kk H' locs cells' slots' S')
    · cases hh
  · split at hh
    · rename_i h0; subst h0
      exact sH_newr C S hR.2.2 hh hd (fun H' cells' slots' S' => kk H' locs cells' slots' S')
    · cases hh
  · split at hh
    · rename_i h0
      obtain ⟨h0, h1⟩ := h0; subst h0; subst h1
      exact sH_newm C S hR.2.2 hh hd (fun H' cells' slots' S' => kk H' locs cells' slots' S')
    · cases hh
  · split at hh
    · rename_i h0
      obtain ⟨h0, h1⟩ := h0; subst h0
      exact sH_prim C S hls ⟨by omega, by omega, e1, e2⟩ hh hd (fun H' locs' S' => kk H' locs' _ _ S')
    · cases hh
  · split at hh
    · rename_i h0
      obtain ⟨h0, h1⟩ := h0; subst h0
      exact sH_obj C hls ⟨by omega, by omega⟩ hh hd (fun h => kk H locs cells slots (by rw [h]; exact S))
    · cases hh
  · cases hh
/-- the store in a state, at a method's entry and end -/
def RU (E : mE) (u : mS) (U : State) : Prop := va_P E.2.2.1 vwCl (eW E u) U.heap ∧ va_K E.2.2.1 vwCl (eT E) U ∧ eX E U U.heap ∧ U.heap.size = E.1 + mN u ∧ mN u ≤ XB ∧ eO E u
def eQ (E : mE) (o : Option Value × mS) : Array Value → State → Outcome → State → Prop := fun _ st oc t => oc = .returned (o.1.map (eV E)) ∧ RU E o.2 t ∧ va_F (fA E) st t
theorem ru_of (C : Cx E (mN w0) k p s m args meth c) (S : St E w0 u s H locs cells slots) (hsize : H.size = E.1 + mN u) {t : State} (ht : t.heap = H) (hW : s.WarmedH t.vm) : RU E u t := by
  obtain ⟨hx, hb, hml, hret, hlk, hown, hts, hK, hX, hsz, hnm⟩ := C
  obtain ⟨hP, hS, hce, hse, hn0, hz0, hXB, hO⟩ := S
  exact ⟨by rw [ht]; exact hP, va_K.moved hW.alike hK, by rw [ht]; exact (hX.kept hS.2.1).warm hW, by rw [ht]; exact hsize, hXB, hO⟩
theorem sRet {len : Nat} {ins : ClassFile.Instr} {o : Option Value × mS} (C : Cx E (mN w0) k p s m args meth c) (S : St E w0 u s H locs cells slots) (hd : decode (mm_m k).2.2.1 pc = .ok (ins, len)) (hh : rF (mm_m k).2.2.2.2.1 ins len st u = some o) : W p l e R s m args below meth c H locs cells slots (MQ below (eQ E o) args s (mN o.2 - mN w0) (mZ o.2 - mZ w0) (fA E)) (F0 m pc ls (st.map (eV E))) := by
  have hsz := C.2.2.2.2.2.2.2.2.2.1
  refine W_sized (E := E) (w0 := w0) (u := u) hsz S (fun hsize => ?_)
  have hru : ∀ t : State, t.heap = H → s.WarmedH t.vm → RU E u t := fun t ht hW => ru_of C S hsize ht hW
  have hfr : ∀ t : State, t.heap = H → va_F (fA E) s t := fun t ht => S.2.1.F ht
  have hloc := S.2.1.2.2
  have hce := S.2.2.1
  have hse := S.2.2.2.1
  obtain ⟨hx, hb, hml, hret, hlk, hown, hts, hK, hX, -, hnm⟩ := C
  unfold rF at hh
  split at hh
  · rename_i hrt
    split at hh
    · rename_i h0; subst h0; cases hh
      rw [hce, hse]
      exact W.iret hx hb (hret.trans hrt) (fun t ht hW => ⟨rfl, hru t ht hW, hfr t ht⟩) hloc hd
    · cases hh
  · rename_i hrt
    split at hh
    · rename_i x _ h0
      obtain ⟨h0, h1⟩ := h0; subst h0; cases hh
      rw [hce, hse]
      exact W.zret (ty := .boolean) hx hb (hret.trans hrt) (by rcases h1 with rfl | rfl <;> rfl) (fun t ht hW => ⟨rfl, hru t ht hW, hfr t ht⟩) hloc hd
    · cases hh
  · rename_i hrt
    split at hh
    · rename_i x _ h0
      obtain ⟨h0, h1⟩ := h0; subst h0; cases hh
      rw [hce, hse]
      exact W.zret (ty := .byte) hx hb (hret.trans hrt) (congrArg Value.int h1) (fun t ht hW => ⟨rfl, hru t ht hW, hfr t ht⟩) hloc hd
    · cases hh
  · rename_i hrt
    split at hh
    · rename_i x _ h0
      obtain ⟨h0, h1⟩ := h0; subst h0; cases hh
      rw [hce, hse]
      exact W.zret (ty := .char) hx hb (hret.trans hrt) (congrArg Value.int h1) (fun t ht hW => ⟨rfl, hru t ht hW, hfr t ht⟩) hloc hd
    · cases hh
  · rename_i hrt
    split at hh
    · rename_i h0; subst h0; cases hh
      rw [hce, hse]
      exact W.lret hx hb (hret.trans hrt) (fun t ht hW => ⟨rfl, hru t ht hW, hfr t ht⟩) hloc hd
    · cases hh
  · rename_i hrt
    split at hh
    · rename_i h0; subst h0; cases hh
      rw [hce, hse]
      exact W.vret hx hb (hret.trans hrt) (fun t ht hW => ⟨rfl, hru t ht hW, hfr t ht⟩) hloc hd
    · cases hh
  · cases hh
end SS
