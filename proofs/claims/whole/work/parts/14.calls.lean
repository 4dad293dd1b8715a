/-! THE SMALL MACHINE: calls; what it answers, the real machine answers -/
def wsOf (k : Nat) : List Cond := .code (mm_m k).2.1 (mm_m k).2.2.1 (mm_m k).2.2.2.1 (mm_m k).2.2.2.2.1 :: GW
theorem gw2 {w : Cond} (h : w ∈ GW) : w ∈ GW ∧ ((w.onTables && w.keeps) = true ∨ ∃ ty, w = .arrayClass ty) := ⟨h, (gw_good h).2⟩
theorem good_ws {k : Nat} (hk : k < 335) : GoodIn GW (wsOf k) := fun w hw => (List.mem_cons.mp hw).elim (fun e => by rw [e]; exact gw2 (m_spec k hk).1.1) (fun h => gw2 h)
theorem nest_in : ∀ q ∈ mm_cl, q.2.2.1 = 3 → Cond.methodLinkNest (mm_cls q.1) q.2.1 (mm_m q.2.2.2.1).2.1 "PennantLawn" ∈ nestW := by decide +kernel
theorem mA_e (E : mE) : ∀ (as : List Value) (i : Nat), eLv E (mA i as) = lv_args i (as.map (eV E))
  | [], _ => rfl
  | v :: r, i => by
    show (i, eV E v) :: eLv E (mA (i + v.category) r) = (i, eV E v) :: lv_args (if (eV E v).category = 2 then i + 2 else i + 1) (r.map (eV E))
    rw [mA_e E r, eV_cat]
    rcases lv_cat v with h | h
    · rw [h, if_neg (by decide)]
    · rw [h, if_pos rfl]
theorem sl_len : ∀ (vs : List Value), (lg_sl vs).length = stW vs
  | [] => rfl
  | v :: r => by
    have ih := sl_len r
    show ((if v.category = 2 then [Slot.val v, Slot.second] else [Slot.val v]) ++ lg_sl r).length = v.category + stW r
    rw [List.length_append, ih]
    rcases lv_cat v with h | h
    · rw [h, if_neg (by decide)]; rfl
    · rw [h, if_pos rfl]; rfl
theorem stW_e (E : mE) (r : List Value) : stW (r.map (eV E)) = stW r := stW_map E r
theorem ru_blind {E : mE} {u : mS} {av : List Value} : FrameBlind (va_Pc av (RU E u)) := by
  intro a U g mk h
  obtain ⟨h1, h2, h3, h4, h5, h6, h7⟩ := h
  exact ⟨h1, h2, va_K.moved (u := U) (U := U.calling g mk a) (Vm.Alike.refl U.vm) h3, eX.warm (s := U) (U := U.calling g mk a) (State.WarmedH.refl U) h4, h5, h6, h7⟩
def rmOf (d a b : Nat) : Room := { frames := d, cells := a, slots := b, locals := 37 * d }
theorem cA_some {k : Nat} {st : List Value} {q : Nat × List Value × List Value} (h : cA k st = some q) : q.1 = k ∧ stW q.2.2 ≤ 8 ∧ stW q.2.1 ≤ (mm_m k).2.2.2.1 ∧ q.2.1.length = (mm_m k).2.2.2.2.2.1 ∧ st = q.2.1.reverse ++ q.2.2 := by
  unfold cA at h
  split at h
  · rename_i h0
    obtain ⟨h1, h2, h3⟩ := h0
    cases h
    refine ⟨rfl, h1, h3, ?_, ?_⟩
    · show ((st.take _).reverse).length = _
      rw [List.length_reverse, List.length_take]
      omega
    · show st = ((st.take _).reverse).reverse ++ st.drop _
      rw [List.reverse_reverse, List.take_append_drop]
  · cases h
theorem xK_30 {L a : Nat} (h : (xK L a).1 = 30) : ∃ i, i < 28 ∧ a = XB + 10 + 2 * i := by
  unfold xK at h
  have e0 : XB = 1000000 := rfl
  split at h
  · cases h
  · split at h
    · cases h
    · split at h
      · rename_i h3
        split at h
        · rename_i h4
          exact ⟨(a - XB - 10) / 2, by omega, by omega⟩
        · cases h
      · cases h
theorem cR_some {u : mS} {k : Nat} {as : List Value} (h : cR u k as = true) : ∃ a As, as = .ref a :: As ∧ ((a < mN u ∧ (mK u a).1 = (mm_m k).1 ∧ (mm_m k).1 < 11) ∨ (XB ≤ a ∧ (mK u a).1 = 30 ∧ (mm_m k).1 = 13)) := by
  unfold cR at h
  split at h
  · rename_i a As
    exact ⟨a, As, rfl, of_decide_eq_true h⟩
  · cases h
theorem cO_some {as : List Value} (h : cO as = true) : ∃ a As, as = .ref a :: As := by
  unfold cO at h
  split at h
  · rename_i a As
    exact ⟨a, As, rfl⟩
  · cases h
section SC
variable {p : Program} {l : Launch} {e : Env} {R : Room} {s : State} {m : MethodId} {args : Array Value} {below : List Frame} {meth : Method} {c : Code} {H : Heap} {locs : List Loc} {cells slots : Nat} {Q : State → Prop}
variable {E : mE} {w0 u : mS} {k pc : Nat} {ls : Array Slot} {st : List Value} {r : List Value}
theorem call_done {mc ms : Nat} {st0 rest : List Value} {o : Option Value × mS} {aa : Array Value} (hr : va_Run p l e R s m args below meth c H locs cells slots mc ms (F0 m pc ls st0) rest (eQ E o aa) (fA E)) (hS : va_S (fA E) s.heap H locs)
    (kk : ∀ H1 locs1, (∀ t : State, t.heap = H1 → True) → va_P E.2.2.1 vwCl (eW E o.2) H1 → mN o.2 ≤ XB → eO E o.2 → va_S (fA E) s.heap H1 locs1 → W p l e R s m args below meth c H1 locs1 (cells + mc) (slots + ms) Q (F0 m (pc + 3) ls ((o.1.map (eV E)).toList ++ rest))) : W p l e R s m args below meth c H locs cells slots Q (F0 m pc ls st0) := by
  intro T hT X
  obtain ⟨v, st₀, t, T', L, h0, X', hL, e1, e2, ⟨hv, hru, hz, hk⟩, st9⟩ := hr T hT X
  cases hv
  rw [h0] at hz hk
  obtain ⟨g1, g2, g3, g4, g5, g6⟩ := hru
  obtain ⟨t2, a1, b1⟩ := kk T'.heap (locs ++ L) (fun _ _ => trivial) (by rw [e1]; exact g1) g5 g6
    ⟨Nat.le_trans hS.1 (by rw [e1]; exact hz), fun q h1 h2 => by rw [e1, hk q (Nat.lt_of_lt_of_le h1 hS.1) h2]; exact hS.2.1 q h1 h2, fun q hq => by
      rcases List.mem_append.mp hq with h | h
      · exact hS.2.2 q h
      · exact hL q h⟩ T' rfl X'
  exact ⟨t2, st9 t2 a1, b1⟩
set_option maxHeartbeats 4000000 in
theorem sC {d k' len : Nat} {ins : ClassFile.Instr} {as : List Value} {o : Option Value × mS} (C : Cx E (mN w0) k p s m args meth c) (S : St E w0 u s H locs cells slots) (hls : ls.size = (mm_m k).2.2.2.1) (hR : d + 1 ≤ R.frames ∧ 37 * (d + 1) ≤ R.locals ∧ mN o.2 - mN w0 ≤ R.cells ∧ mZ o.2 - mZ w0 ≤ R.slots) (hmono : mN u ≤ mN o.2 ∧ mZ u ≤ mZ o.2)
    (hd : decode (mm_m k).2.2.1 pc = .ok (ins, len)) (hh : cF (mm_m k).1 u ins len st = some (k', as, r)) (hM : k' < 335 → stW as ≤ (mm_m k').2.2.2.1 → Met l (mm_m k').2.1 (wsOf k') (rmOf d (mN o.2 - mN u) (mZ o.2 - mZ u)) (va_Pc (as.map (eV E)) (RU E u)) (eQ E o) (mN o.2 - mN u) (mZ o.2 - mZ u) (fA E))
    (kk : ∀ H' locs' cells' slots', St E w0 o.2 s H' locs' cells' slots' → W p l e R s m args below meth c H' locs' cells' slots' Q (F0 m (pc + 3) ls ((o.1.toList ++ r).map (eV E)))) : W p l e R s m args below meth c H locs cells slots Q (F0 m pc ls (st.map (eV E))) := by
  have hsz := C.2.2.2.2.2.2.2.2.2.1
  refine W_sized (E := E) (w0 := w0) (u := u) hsz S (fun hsize => ?_)
  have hpre : ∀ U : State, U.heap = H → s.WarmedH U.vm → va_Pc (as.map (eV E)) (RU E u) (as.map (eV E)).toArray U := fun U hU hW => ⟨rfl, ru_of C S hsize hU hW⟩
  have C' := C
  have S' := S
  obtain ⟨hx, hb, hml, hret, hlk, hown, hts, hK, hX, -, hnm⟩ := C
  obtain ⟨hP, hS, hce, hse, hn0, hz0, hXB, hO⟩ := S
  have hf : cells + (mN o.2 - mN u) ≤ R.cells ∧ slots + (mZ o.2 - mZ u) ≤ R.slots := ⟨by omega, by omega⟩
  have fin : ∀ H1 locs1, (∀ t : State, t.heap = H1 → True) → va_P E.2.2.1 vwCl (eW E o.2) H1 → mN o.2 ≤ XB → eO E o.2 → va_S (fA E) s.heap H1 locs1 → W p l e R s m args below meth c H1 locs1 (cells + (mN o.2 - mN u)) (slots + (mZ o.2 - mZ u)) Q (F0 m (pc + 3) ls ((o.1.map (eV E)).toList ++ r.map (eV E))) := fun H1 locs1 _ g1 g2 g3 g4 => by
    have := kk H1 locs1 (cells + (mN o.2 - mN u)) (slots + (mZ o.2 - mZ u)) ⟨g1, g4, by omega, by omega, by omega, by omega, g2, g3⟩
    rw [List.map_append] at this
    have e9 : o.1.toList.map (eV E) = (o.1.map (eV E)).toList := by cases o.1 <;> rfl
    rw [e9] at this
    exact this
  have hfix : CallFix p m c (mm_m k).2.2.1 (mm_m k).2.2.2.1 s args GW (mm_cls (mm_m k).1) := ⟨hx, hb, hml, hown, hts⟩
  unfold cF at hh
  split at hh
  · rename_i h3
    subst h3
    split at hh
    · rename_i i
      split at hh
      · rename_i k1 hcall
        split at hh
        · rename_i q hq
          split at hh
          · rename_i hrec
            cases hh
            obtain ⟨h1, h2, h3, h4, h5⟩ := cA_some hq
            have h1 : k' = k1 := h1
            subst h1
            have h2 : stW r ≤ 8 := h2
            have h3 : stW as ≤ (mm_m k').2.2.2.1 := h3
            have h4 : as.length = (mm_m k').2.2.2.2.2.1 := h4
            have h5 : st = as.reverse ++ r := h5
            have hrec : cR u k' as = true := hrec
            obtain ⟨w, hw1, -⟩ := call_spec hcall
            obtain ⟨c1, c2, c3, c4⟩ : k' < 335 ∧ (mm_m k').2.2.2.2.2.2.1 = false ∧ (mm_m k').2.1.name ≠ "<init>" ∧ wAt w = some (.methodLink (mm_cls (mm_m k).1) i (mm_m k').2.1) := of_decide_eq_true hw1
            obtain ⟨⟨m1, m2, m3, m4, m5, m6, m7⟩, m8⟩ := m_spec k' c1
            rw [if_neg (by rw [c2]; exact Bool.false_ne_true)] at m8
            obtain ⟨n1, n2, n3, n4⟩ := m8
            have n4 := n4.resolve_left c3
            obtain ⟨a, As, hasE, hrc9⟩ := cR_some hrec
            subst hasE
            · skip
              have hcell : ∃ cellB : Cell, H[eA E a]? = some cellB ∧ cellB.vm.isStatics = false ∧ s.vm.findClass (mm_m k').2.1.cls = some cellB.cls := by
                rcases hrc9 with ⟨r1, r2, r3⟩ | ⟨r1, r2, r3⟩
                · obtain ⟨q9, f1, f2⟩ := cl_facts _ r3
                  rw [eA_in r1 hXB, m2, ← f2.2.1]
                  have he := eW_at (E := E) r1
                  rw [eC_obj r2 r3] at he
                  exact va_recv hK hP f1 he
                · rw [eA_out r1, m2, r3]
                  rw [(hO a r1).1] at r2
                  have hi := xK_30 r2
                  obtain ⟨i9, hi9, rfl⟩ := hi
                  obtain ⟨-, -, hs9, -⟩ := hX
                  obtain ⟨cell, g1, g2, g3, -⟩ := (hs9 i9 hi9).1.kept hS.2.1
                  exact ⟨cell, g1, g2, g3⟩
              rw [h5, List.map_append, List.map_reverse]
              have hW8 : 2 * (F0 m pc ls (((Value.ref a :: As).map (eV E)).reverse ++ r.map (eV E))).monitorRoom + ((r.map (eV E)).map fun v => v.category).sum ≤ 8 := lv_room (by rw [stW_map]; exact h2)
              refine call_done (va_runV (As := As.map (eV E)) (b := eA E a) (C := (mm_m k').2.1.cls) (rest := r.map (eV E)) hfix (hM c1 h3) (cwV ((mm_m k').2.2.2.2.2.1 - 1) hts ?_ rfl rfl rfl ⟨rfl, m4.1, m4.2, n2⟩ ⟨hR.1, ?_⟩) ⟨ru_blind, hcell, fun U hU hW => hpre U hU hW⟩ rfl ?_ hls ?_ hW8 hd hf) hS fin
              · intro w9 hw9
                rcases List.mem_append.mp hw9 with h | h
                · simp only [List.mem_cons, List.not_mem_nil, or_false] at h
                  rcases h with rfl | rfl | rfl | rfl
                  · exact gw2 (gw_in c4 rfl)
                  · exact gw2 n1
                  · exact gw2 n4
                  · exact gw2 m6
                · exact good_ws c1 w9 h
              · show 8 + ((mm_m k').2.2.2.1 + 11) + 37 * d ≤ R.locals
                omega
              · rw [List.length_map]
                simp only [List.length_cons] at h4
                omega
              · show ((Value.ref a :: As).map (eV E)).reverse ++ r.map (eV E) = (As.map (eV E)).reverse ++ Value.ref (eA E a) :: r.map (eV E)
                simp [eV]
          · cases hh
        · cases hh
      · cases hh
    · rename_i i
      split at hh
      · rename_i k1 hcall
        obtain ⟨h1, h2, h3, h4, h5⟩ := cA_some hh
        have h1 : k' = k1 := h1
        subst h1
        have h2 : stW r ≤ 8 := h2
        have h3 : stW as ≤ (mm_m k').2.2.2.1 := h3
        have h4 : as.length = (mm_m k').2.2.2.2.2.1 := h4
        have h5 : st = as.reverse ++ r := h5
        obtain ⟨w, hw1, -⟩ := call_spec hcall
        obtain ⟨c1, c2, c4⟩ : k' < 335 ∧ (mm_m k').2.2.2.2.2.2.1 = true ∧ wAt w = some (.methodLink (mm_cls (mm_m k).1) i (mm_m k').2.1) := of_decide_eq_true hw1
        obtain ⟨⟨m1, m2, m3, m4, m5, m6, m7⟩, m8⟩ := m_spec k' c1
        rw [if_pos c2] at m8
        obtain ⟨n1, n2⟩ := m8
        rw [h5, List.map_append, List.map_reverse]
        have hW8 : 2 * (F0 m pc ls ((as.map (eV E)).reverse ++ r.map (eV E))).monitorRoom + ((r.map (eV E)).map fun v => v.category).sum ≤ 8 := lv_room (by rw [stW_map]; exact h2)
        refine call_done (va_runS (As := as.map (eV E)) (rest := r.map (eV E)) hfix (hM c1 h3) (va_cwS (mm_m k').2.2.2.2.2.1 hts ?_ rfl rfl rfl ⟨m4.1, m4.2, n2⟩ ⟨hR.1, ?_⟩) ⟨ru_blind, fun U hU hW => hpre U hU hW⟩ rfl (by rw [List.length_map]; exact h4) hls rfl hW8 hd hf) hS fin
        · intro w9 hw9
          rcases List.mem_append.mp hw9 with h | h
          · simp only [List.mem_cons, List.not_mem_nil, or_false] at h
            rcases h with rfl | rfl | rfl
            · exact gw2 (gw_in c4 rfl)
            · exact gw2 n1
            · exact gw2 m6
          · exact good_ws c1 w9 h
        · show 8 + ((mm_m k').2.2.2.1 + 11) + 37 * d ≤ R.locals
          omega
      · cases hh
    · rename_i i
      split at hh
      · rename_i k1 hcall
        split at hh
        · rename_i q hq
          split at hh
          · rename_i hrec
            cases hh
            obtain ⟨h1, h2, h3, h4, h5⟩ := cA_some hq
            have h1 : k' = k1 := h1
            subst h1
            have h2 : stW r ≤ 8 := h2
            have h3 : stW as ≤ (mm_m k').2.2.2.1 := h3
            have h4 : as.length = (mm_m k').2.2.2.2.2.1 := h4
            have h5 : st = as.reverse ++ r := h5
            have hrec : cO as = true := hrec
            obtain ⟨w, hw1, -⟩ := call_spec hcall
            obtain ⟨c1, c2, c3, c4⟩ : k' < 335 ∧ (mm_m k').2.2.2.2.2.2.1 = false ∧ (mm_m k').2.1.name = "<init>" ∧ wAt w = some (.methodLink (mm_cls (mm_m k).1) i (mm_m k').2.1) := of_decide_eq_true hw1
            obtain ⟨⟨m1, m2, m3, m4, m5, m6, m7⟩, m8⟩ := m_spec k' c1
            rw [if_neg (by rw [c2]; exact Bool.false_ne_true)] at m8
            obtain ⟨n1, n2, n3, -⟩ := m8
            obtain ⟨a, As, hasE⟩ := cO_some hrec
            subst hasE
            · skip
              rw [h5, List.map_append, List.map_reverse]
              have hW8 : 2 * (F0 m pc ls (((Value.ref a :: As).map (eV E)).reverse ++ r.map (eV E))).monitorRoom + ((r.map (eV E)).map fun v => v.category).sum ≤ 8 := lv_room (by rw [stW_map]; exact h2)
              refine call_done (va_runI (As := As.map (eV E)) (b := eA E a) (rest := r.map (eV E)) hfix (hM c1 h3) (cwI ((mm_m k').2.2.2.2.2.1 - 1) hts (good_ws c1) (by unfold wsOf; rw [m7 c3]) rfl rfl (hts _ m6) (hts _ (gw_in c4 rfl)) (hts _ n1) c3 ⟨m4.1, m4.2, n2⟩ ⟨hR.1, ?_⟩) ⟨ru_blind, fun U hU hW => hpre U hU hW⟩ rfl ?_ hls ?_ hW8 hd hf) hS fin
              · show 8 + ((mm_m k').2.2.2.1 + 11) + 37 * d ≤ R.locals
                omega
              · rw [List.length_map]
                simp only [List.length_cons] at h4
                omega
              · show ((Value.ref a :: As).map (eV E)).reverse ++ r.map (eV E) = (As.map (eV E)).reverse ++ Value.ref (eA E a) :: r.map (eV E)
                simp [eV]
          · cases hh
        · cases hh
      · rename_i k1 hcall
        split at hh
        · rename_i q hq
          split at hh
          · rename_i hrec
            cases hh
            obtain ⟨h1, h2, h3, h4, h5⟩ := cA_some hq
            have h1 : k' = k1 := h1
            subst h1
            have h2 : stW r ≤ 8 := h2
            have h3 : stW as ≤ (mm_m k').2.2.2.1 := h3
            have h4 : as.length = (mm_m k').2.2.2.2.2.1 := h4
            have h5 : st = as.reverse ++ r := h5
            have hrec : cO as = true := hrec
            obtain ⟨w, hw1, hw2⟩ := call_spec hcall
            obtain ⟨c1, c2, c3, c4⟩ : k' < 335 ∧ (mm_m k').2.2.2.2.2.2.1 = false ∧ (mm_m k').2.1.name = "<init>" ∧ wAt w = some (.methodLinkNest (mm_cls (mm_m k).1) i (mm_m k').2.1 "PennantLawn") := of_decide_eq_true hw1
            obtain ⟨⟨m1, m2, m3, m4, m5, m6, m7⟩, m8⟩ := m_spec k' c1
            rw [if_neg (by rw [c2]; exact Bool.false_ne_true)] at m8
            obtain ⟨n1, n2, n3, -⟩ := m8
            have hnest : va_Nw (Cond.methodLinkNest (mm_cls (mm_m k).1) i (mm_m k').2.1 "PennantLawn") s := by
              obtain ⟨-, -, -, -, -, -, -, x8, -⟩ := hX
              exact x8 _ (nest_in _ hw2 rfl)
            obtain ⟨a, As, hasE⟩ := cO_some hrec
            subst hasE
            · skip
              rw [h5, List.map_append, List.map_reverse]
              have hW8 : 2 * (F0 m pc ls (((Value.ref a :: As).map (eV E)).reverse ++ r.map (eV E))).monitorRoom + ((r.map (eV E)).map fun v => v.category).sum ≤ 8 := lv_room (by rw [stW_map]; exact h2)
              refine call_done (va_runIN (As := As.map (eV E)) (b := eA E a) (rest := r.map (eV E)) hfix (hM c1 h3) ⟨va_cnB (ret := none) ((mm_m k').2.2.2.2.2.1 - 1) hts (good_ws c1) (by unfold wsOf; rw [m7 c3]) rfl rfl hnest (hts _ m6) ⟨m4.1, m4.2, n2⟩ ⟨hR.1, ?_⟩, c3, hts _ n1⟩ ⟨ru_blind, fun U hU hW => hpre U hU hW⟩ rfl ?_ hls ?_ hW8 hd hf) hS fin
              · show 8 + ((mm_m k').2.2.2.1 + 11) + 37 * d ≤ R.locals
                omega
              · rw [List.length_map]
                simp only [List.length_cons] at h4
                omega
              · show ((Value.ref a :: As).map (eV E)).reverse ++ r.map (eV E) = (As.map (eV E)).reverse ++ Value.ref (eA E a) :: r.map (eV E)
                simp [eV]
          · cases hh
        · cases hh
      · cases hh
    · cases hh
  · cases hh
end SC
/-! the store only grows -/
theorem hPutV_n {u u' : mS} {ci j a : Nat} {v : Value} {r st' : List Value} (h : hPutV u ci j v a r = some (st', u')) : mN u' = mN u ∧ mZ u' = mZ u := by
  unfold hPutV at h
  split at h
  · unfold pI at h; split at h <;> cases h; exact ⟨rfl, rfl⟩
  · unfold pL at h; split at h <;> cases h; exact ⟨rfl, rfl⟩
  · unfold pR at h; split at h <;> cases h; exact ⟨rfl, rfl⟩
  · unfold pZ at h; split at h <;> cases h; exact ⟨rfl, rfl⟩
  · cases h
theorem map_u {α : Type} {x : Option α} {f : α → List Value} {u : mS} {q : List Value × mS} (h : x.map (fun y => (f y, u)) = some q) : q.2 = u := by
  cases x with
  | none => cases h
  | some y => cases h; rfl
theorem hGet_n {o i a : Nat} {u : mS} {r : List Value} {q : List Value × mS} (h : hGet o u i a r = some q) : q.2 = u := by
  unfold hGet at h
  split at h
  · split at h
    · exact map_u (f := fun x => .int x :: r) h
    · exact map_u (f := fun x => .long x :: r) h
    · exact map_u (f := fun x => .ref x :: r) h
    · exact map_u (f := fun x => .int x :: r) h
    · cases h
  · split at h
    · split at h
      · cases h; rfl
      · split at h
        · cases h; rfl
        · cases h
    · cases h
set_option maxHeartbeats 4000000 in
theorem hF_mono {o d len : Nat} {b : Bool} {ins : ClassFile.Instr} {st : List Value} {u : mS} {q : List Value × mS} (h : hF o d b ins len st u = some q) : mN u ≤ mN q.2 ∧ mZ u ≤ mZ q.2 := by
  have same : q.2 = u → mN u ≤ mN q.2 ∧ mZ u ≤ mZ q.2 := fun e => by rw [e]; exact ⟨Nat.le_refl _, Nat.le_refl _⟩
  unfold hF at h
  split at h
  · split at h
    · exact same (hGet_n h)
    · cases h
  · split at h
    · obtain ⟨st', u'⟩ := q
      unfold hPut at h
      split at h
      · split at h
        · obtain ⟨h1, h2⟩ := hPutV_n h
          exact ⟨by show mN u ≤ mN u'; rw [h1]; exact Nat.le_refl _, by show mZ u ≤ mZ u'; rw [h2]; exact Nat.le_refl _⟩
        · cases h
      · cases h
    · cases h
  · split at h
    · exact same (map_u (f := fun x => .int x :: _) h)
    · cases h
  · split at h
    · split at h
      · cases h; exact same rfl
      · split at h
        · exact same (map_u (f := fun x => .int x :: _) h)
        · cases h
    · cases h
  · split at h
    · exact same (map_u (f := fun x => .long x :: _) h)
    · cases h
  · split at h
    · exact same (map_u (f := fun x => .ref x :: _) h)
    · cases h
  · split at h
    · unfold sI at h; split at h <;> cases h; exact ⟨Nat.le_refl _, Nat.le_refl _⟩
    · cases h
  · split at h
    · split at h
      · rename_i w hw
        cases h
        unfold sB at hw; split at hw <;> cases hw; exact ⟨Nat.le_refl _, Nat.le_refl _⟩
      · unfold sZ at h; split at h <;> cases h; exact ⟨Nat.le_refl _, Nat.le_refl _⟩
    · cases h
  · split at h
    · unfold sL at h; split at h <;> cases h; exact ⟨Nat.le_refl _, Nat.le_refl _⟩
    · cases h
  · split at h
    · unfold sR at h; split at h <;> cases h; exact ⟨Nat.le_refl _, Nat.le_refl _⟩
    · cases h
  · split at h
    · exact same (map_u (f := fun x => .int x :: _) h)
    · cases h
  · split at h
    · exact same (map_u (f := fun x => x :: _) h)
    · cases h
  · split at h
    · exact same (map_u (f := fun x => x :: _) h)
    · cases h
  · split at h
    · exact same (map_u (f := fun x => .int x :: _) h)
    · cases h
  · split at h
    · exact same (map_u (f := fun x => .long x :: _) h)
    · cases h
  · split at h
    · unfold hNew at h
      split at h
      · split at h <;> cases h
        exact ⟨Nat.le_succ _, Nat.le_add_right _ _⟩
      · cases h
    · cases h
  · split at h
    · unfold hNewA at h
      split at h
      · split at h <;> first | (cases h; done) | (cases h; exact ⟨Nat.le_succ _, Nat.le_add_right _ _⟩)
      · cases h
    · cases h
  · split at h
    · unfold hNewR at h
      split at h
      · split at h <;> cases h
        exact ⟨Nat.le_succ _, Nat.le_add_right _ _⟩
      · cases h
    · cases h
  · split at h
    · unfold hNewM at h
      split at h
      · split at h <;> cases h
        refine ⟨?_, ?_⟩
        · show mN u ≤ mN u + 1 + _; omega
        · show mZ u ≤ mZ u + _ + _; omega
      · cases h
    · cases h
  · split at h
    · unfold hPrim at h
      split at h
      · split at h <;> cases h; exact ⟨Nat.le_refl _, Nat.le_refl _⟩
      · split at h <;> cases h; exact ⟨Nat.le_refl _, Nat.le_refl _⟩
      · split at h <;> cases h; exact ⟨Nat.le_refl _, Nat.le_refl _⟩
      · split at h
        · split at h
          · rename_i w hw
            cases h
            unfold cpyI at hw; split at hw <;> cases hw; exact ⟨Nat.le_refl _, Nat.le_refl _⟩
          · unfold cpyL at h; split at h <;> cases h; exact ⟨Nat.le_refl _, Nat.le_refl _⟩
        · cases h
      · cases h
    · cases h
  · split at h
    · unfold hObj at h
      split at h
      · split at h <;> cases h; exact ⟨Nat.le_refl _, Nat.le_refl _⟩
      · cases h
    · cases h
  · cases h
theorem rF_n {rt : Option FieldType} {ins : ClassFile.Instr} {len : Nat} {st : List Value} {u : mS} {o : Option Value × mS} (h : rF rt ins len st u = some o) : o.2 = u := by
  unfold rF at h
  split at h <;> first | (split at h <;> first | (cases h; done) | (cases h; rfl)) | cases h
theorem ev_mono : ∀ (n d k pc : Nat) (lv : mV) (st : List Value) (u : mS) (o : Option Value × mS), ev n d k pc lv st u = some o → mN u ≤ mN o.2 ∧ mZ u ≤ mZ o.2
  | 0, _, _, _, _, _, _, _, h => by cases h
  | n + 1, d, k, pc, lv, st, u, o, h => by
    unfold ev at h
    split at h
    · cases h
    · split at h
      · exact ev_mono n _ _ _ _ _ _ _ h
      · split at h
        · rename_i hh
          have h1 := hF_mono hh
          have h2 := ev_mono n _ _ _ _ _ _ _ h
          exact ⟨Nat.le_trans h1.1 h2.1, Nat.le_trans h1.2 h2.2⟩
        · split at h
          · split at h
            · cases h
            · split at h
              · rename_i hc
                have h1 := ev_mono n _ _ _ _ _ _ _ hc
                have h2 := ev_mono n _ _ _ _ _ _ _ h
                exact ⟨Nat.le_trans h1.1 h2.1, Nat.le_trans h1.2 h2.2⟩
              · cases h
          · rw [rF_n h]
            exact ⟨Nat.le_refl _, Nat.le_refl _⟩
theorem ev_ret {d k pc n : Nat} {lv : mV} {st : List Value} {u : mS} {o : Option Value × mS} (h : ev n d k pc lv st u = some o) : 0 < n := by
  cases n with
  | zero => cases h
  | succ n => exact Nat.succ_pos n
set_option maxHeartbeats 4000000 in
/-- WHAT THE SMALL MACHINE ANSWERS, THE REAL ONE ANSWERS -/
theorem sim (E : mE) (l : Launch) : ∀ (n d k pc : Nat) (lv : mV) (st : List Value) (u : mS) (o : Option Value × mS), ev n d k pc lv st u = some o →
    ∀ (p : Program) (e : Env) (R : Room) (s : State) (m : MethodId) (args : Array Value) (below : List Frame) (meth : Method) (c : Code) (H : Heap) (locs : List Loc) (cells slots : Nat) (ls : Array Slot) (w0 : mS),
    Cx E (mN w0) k p s m args meth c → St E w0 u s H locs cells slots → lv_has ls (mm_m k).2.2.2.1 (eLv E lv) → (d ≤ R.frames ∧ 37 * d ≤ R.locals ∧ mN o.2 - mN w0 ≤ R.cells ∧ mZ o.2 - mZ w0 ≤ R.slots) →
    W p l e R s m args below meth c H locs cells slots (MQ below (eQ E o) args s (mN o.2 - mN w0) (mZ o.2 - mZ w0) (fA E)) (F0 m pc ls (st.map (eV E)))
  | 0, _, _, _, _, _, _, _, h => by cases h
  | n + 1, d, k, pc, lv, st, u, o, h => by
    intro p e R s m args below meth c H locs cells slots ls w0 C S hl hR
    have hm0 := ev_mono _ _ _ _ _ _ _ _ h
    unfold ev at h
    split at h
    · cases h
    · rename_i ins len hd
      have hx := C.1
      have hb := C.2.1
      split at h
      · rename_i pc' lv' st' hf
        exact sF hx hb hd hf hl (fun ls' hl' => sim E l n _ _ _ _ _ _ _ h p e R s m args below meth c H locs cells slots ls' w0 C S hl' hR)
      · split at h
        · rename_i st' u' hh
          have hm1 := ev_mono _ _ _ _ _ _ _ _ h
          have hm2 := hF_mono hh
          have hm2a : mN u ≤ mN u' := hm2.1
          have hm2b : mZ u ≤ mZ u' := hm2.2
          exact sH C S hl.1 ⟨hR.1, hR.2.1, by omega, by omega⟩ ⟨by omega, by omega⟩ rfl hd hh (fun H' locs' cells' slots' S' => sim E l n _ _ _ _ _ _ _ h p e R s m args below meth c H' locs' cells' slots' ls w0 C S' hl hR)
        · split at h
          · rename_i k' as r hc
            split at h
            · cases h
            · rename_i d'
              split at h
              · rename_i v u1 hcall
                have hm1 := ev_mono _ _ _ _ _ _ _ _ h
                have hm2 := ev_mono _ _ _ _ _ _ _ _ hcall
                have hm1a : mN u1 ≤ mN o.2 := hm1.1
                have hm1b : mZ u1 ≤ mZ o.2 := hm1.2
                have hm2a : mN u ≤ mN u1 := hm2.1
                have hm2b : mZ u ≤ mZ u1 := hm2.2
                refine sC (o := (v, u1)) C S hl.1 ⟨hR.1, hR.2.1, by show mN u1 - mN w0 ≤ _; omega, by show mZ u1 - mZ w0 ≤ _; omega⟩ hm2 hd hc (fun hk' hw => ?_) (fun H' locs' cells' slots' S' => sim E l n _ _ _ _ _ _ _ h p e R s m args below meth c H' locs' cells' slots' ls w0 C S' hl hR)
                have ms := m_spec k' hk'
                refine Met.ofW (cc := (mm_m k').2.2.1) (maxL := (mm_m k').2.2.2.1) (ret := (mm_m k').2.2.2.2.1) ms.1.2.2.1 rfl ?_
                intro p2 e2 s2 m2 args2 below2 meth2 c2 s₁ B hml hv
                obtain ⟨rfl, hP2, hK2, hX2, hz2, hXB2, hO2⟩ := hv
                have hts2 : ∀ w ∈ GW, w.before (as.map (eV E)).toArray s2 = true := fun w hw => atoms_spec (ws := wsOf k') B.pre w (List.mem_cons_of_mem _ hw)
                have hown2 : s2.vm.findClass (mm_cls (mm_m k').1) = some m2.cls := by rw [← ms.1.2.1]; exact findClass_of_methodNamed B.named
                have C2 : Cx E (mN u) k' p2 s2 m2 (as.map (eV E)).toArray meth2 c2 := ⟨B.exec, B.bytes, hml, B.returns, B.notSynchronized, hown2, hts2, hK2, hX2, hz2, (name_of_methodNamed B.named B.method).1⟩
                have S2 : St E u u s2 s2.heap [] 0 0 := ⟨hP2, va_S.rf, by omega, by omega, Nat.le_refl _, Nat.le_refl _, hXB2, hO2⟩
                have hlen : (lg_sl (as.map (eV E))).length ≤ (mm_m k').2.2.2.1 := by rw [sl_len, stW_e]; exact hw
                have hl2 := lv_entry (as.map (eV E)) (n := (mm_m k').2.2.2.1) hlen
                rw [← mA_e E as 0] at hl2
                rw [lg_entry_eq]
                exact sim E l n _ _ _ _ _ _ _ hcall p2 e2 _ s2 m2 _ below2 meth2 c2 s2.heap [] 0 0 _ u C2 S2 hl2 ⟨Nat.le_refl _, Nat.le_refl _, Nat.le_refl _, Nat.le_refl _⟩
              · cases h
          · exact sRet C S hd h
