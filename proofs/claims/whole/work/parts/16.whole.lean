/-! THE CLAIM OUT OF ONE WALK OF THE LAW'S BODY. Your part is whole_start (and what it stands on); all else here is the same for every law, but numbers. -/
def R_law : String := "PennantLawnLaw"
def lw_P (b : Addr) (xs : List Int32) (args : Array Value) (s : State) : Prop := args = #[.ref b] ∧ s.IntsAt b xs ∧ xs.length ≤ 3072 ∧ (Jvm.Cond.and given_1 narrow_1).before args s = true
def lw_Q (_ : Array Value) (s : State) (o : Outcome) (t : State) : Prop := o = .returned (some (.int 1)) ∧ Framed s o t [] 600000 7302250
def lw_Z (below : List Frame) (a : Array Value) (s : State) : State → Prop := fun t => ∃ o, t.status = .running ∧ Ended t below o ∧ lw_Q a s o t
/-- the law's own end, with 1 on the stack, nothing written that was there before, its room as the claim has it -/
theorem lw_ret {p : Program} {l : Launch} {e : Env} {s : State} {m : MethodId} {below : List Frame} {meth : Method} {c : Code} {b : Nat} (hx : p.tables.exec = Jvm.exec) (hb : c.code = code) (hr : meth.sig.returnType = ret) (hlocks : meth.locks = false) {pc : Nat} {H : Heap} {ls : Array Slot} (hdg : decode code pc = .ok (.ireturn, 1)) : W p l e room_1 s m #[Value.ref b] below meth c H [] 600000 7302250 (lw_Z below #[Value.ref b] s) (F0 m pc ls [.int 1]) := by
  intro T hT X
  obtain ⟨fs, hret, hrun, hended, hW, hframe⟩ := X.leave (v := some (.int 1)) (hlocks := hlocks) (fun h => by rw [hr] at h; cases h)
  have hmeth' : T.vm.method? m = some meth := X.method'
  refine ⟨T.setFrames fs, ?_, .returned (some (.int 1)), hrun, hended, rfl, ⟨_, rfl⟩, hW, hframe⟩
  jvm_step X.here [X.here.top, hx, hb, hdg, hmeth', hr, ret, narrow_b1]
  (try refine ⟨rfl, ?_⟩); (try refine ⟨rfl, ?_⟩)
  first | (intro acts; rw [hret _ acts rfl rfl rfl]) | rw [hret _ _ rfl rfl rfl]
  exact Steps.refl _
/-- what holds at the law's entry: the machine, the code, the tables' words (any of lw_tbl by 'hts w (by decide +kernel)'), the script of L ints xs at the cell b, what the Statement gives of the start (any of its parts by flat_of_before) -/
def lw_At (p : Program) (s : State) (m : MethodId) (meth : Method) (c : Code) (b L : Nat) (xs : Nat → Int32) : Prop :=
  p.tables.exec = Jvm.exec ∧ c.code = code ∧ meth.sig.returnType = ret ∧ c.maxLocals = 4 ∧ s.vm.findClass R_law = some m.cls ∧ (∀ w ∈ lw_tbl, w.before #[Value.ref b] s = true) ∧ va_X b L xs s s.heap ∧ b < s.heap.size ∧ meth.locks = false ∧ (Jvm.Cond.and given_1 narrow_1).before #[Value.ref b] s = true
theorem d2_ext {s : State} {a : Nat} (h : a < s.heap.size) {E : mE} (hE : E.1 = s.heap.size) : ¬ fA E a := fun z => by
  have z : E.1 ≤ a := z
  omega
/-- every text, in the heap -/
theorem str_start {args : Array Value} {s : State} {A : Nat → Prop} (hs : ∀ w ∈ stw, w.before args s = true) (hA : ∀ a : Nat, a < s.heap.size → ¬ A a) : ∃ adK adV : Nat → Nat, ∀ i, i < 28 → (sT i).eval args s none [] s = some (.ref (adK i)) ∧ va_O "java/lang/String" (adK i) A s s.heap ∧ va_OF "java/lang/String" "coder" "B" (.int 0) (adK i) A s s.heap ∧ va_OF "java/lang/String" "value" "[B" (.ref (adV i)) (adK i) A s s.heap ∧
    va_T .byte (adV i) (xT i).length (fun j => .int (nI ((xT i).getD j 'a').toNat)) A s s.heap := by
  have h0 : ∀ i : Nat, ∃ q : Nat × Nat, i < 28 → (sT i).eval args s none [] s = some (.ref q.1) ∧ va_O "java/lang/String" q.1 A s s.heap ∧ va_OF "java/lang/String" "coder" "B" (.int 0) q.1 A s s.heap ∧ va_OF "java/lang/String" "value" "[B" (.ref q.2) q.1 A s s.heap ∧ va_T .byte q.2 (xT i).length (fun j => .int (nI ((xT i).getD j 'a').toNat)) A s s.heap := by
    intro i
    by_cases hi : i < 28
    · obtain ⟨g1, g2, g3, g4⟩ := g_str1 i hi
      obtain ⟨a, c, cA, kA, q1, q2, q3, q4, q5, q6, -⟩ := Cond.exactly_spec (args := args) (first := s) (o := none) (s := s) (idx := []) (t := sT i) (cls := "java/lang/String") (hs _ g1)
      obtain ⟨t, ht, hT⟩ := va_Tof (f := fun j => .int (nI ((xT i).getD j 'a').toNat)) (A := A) (g_len i hi) (hs _ g3) (va_eqt (hs _ g4)) (fun j hj => va_eqt (hs _ (g_str2 i hi j hj))) hA
      exact ⟨(a, t), fun _ => ⟨q1, ⟨cA, q3, q5, by rw [q6]; exact q2, hA a (Array.getElem?_eq_some_iff.mp q3).1⟩, vk_OFof q1 (va_eqt (hs _ g2)) hA, vk_OFof q1 ht hA, hT⟩⟩
    · exact ⟨(0, 0), fun h => absurd h hi⟩
  obtain ⟨ad, had⟩ := Classical.axiomOfChoice h0
  exact ⟨fun i => (ad i).1, fun i => (ad i).2, fun i hi => had i hi⟩
theorem va_X_T {b L : Nat} {xs : Nat → Int32} {A : Nat → Prop} {s : State} {H : Heap} (h : va_X b L xs s H) (hA : ¬ A b) : va_T .int b L (fun j => .int (xs j)) A s H := by
  obtain ⟨scr, h1, h2, h3, h4, h5⟩ := h
  exact ⟨scr, h1, h2, h3, by omega, by rw [h4] <;> rfl, h5, hA⟩
/-- where the outside lies -/
def xAd (b fa sf : Nat) (adK adV : Nat → Nat) (a : Nat) : Nat := if a = XB then b else if a = XB + 1 then fa else if a = XB + 2 then sf else if a % 2 = 0 then adK ((a - XB - 10) / 2) else adV ((a - XB - 10) / 2)
theorem xAd_0 (b fa sf : Nat) (adK adV : Nat → Nat) : xAd b fa sf adK adV XB = b ∧ xAd b fa sf adK adV (XB + 1) = fa ∧ xAd b fa sf adK adV (XB + 2) = sf := by
  have eXB : XB = 1000000 := rfl
  unfold xAd
  refine ⟨if_pos rfl, ?_, ?_⟩
  · rw [if_neg (by omega), if_pos rfl]
  · rw [if_neg (by omega), if_neg (by omega), if_pos rfl]
theorem xAd_s (b fa sf : Nat) (adK adV : Nat → Nat) (i : Nat) : xAd b fa sf adK adV (XB + 10 + 2 * i) = adK i ∧ xAd b fa sf adK adV (XB + 10 + 2 * i + 1) = adV i := by
  have eXB : XB = 1000000 := rfl
  unfold xAd
  refine ⟨?_, ?_⟩
  · rw [if_neg (by omega), if_neg (by omega), if_neg (by omega), if_pos (by omega), show (XB + 10 + 2 * i - XB - 10) / 2 = i by omega]
  · rw [if_neg (by omega), if_neg (by omega), if_neg (by omega), if_neg (by omega), show (XB + 10 + 2 * i + 1 - XB - 10) / 2 = i by omega]
set_option maxHeartbeats 4000000 in
theorem whole_of (hlaw : LawOk) {p : Program} {e : Env} {s : State} {m : MethodId} {below : List Frame} {meth : Method} {c : Code} (l : Launch) {b L : Nat} {xs : Nat → Int32} (hL : L ≤ 3072) (C0 : lw_At p s m meth c b L xs) (hname : meth.name = "law") : W p l e room_1 s m #[Value.ref b] below meth c s.heap [] 0 0 (lw_Z below #[Value.ref b] s) (entryFrame m ([Value.ref b] : List Value).toArray 4) := by
  obtain ⟨hx, hb, hr, hml, hown, hts, hX, hbl, hlocks, hgv⟩ := C0
  have hs : ∀ w ∈ stw, w.before #[Value.ref b] s = true := flat_of_before _ hgv
  have htg : ∀ w ∈ GW, w.before #[Value.ref b] s = true := fun w hw => hts w (gw_good hw).1
  obtain ⟨n, w1, hev, hw1, hw2⟩ := hlaw L xs hL
  -- the classes
  have hcls : ∀ ci : Nat, ∃ q : ClassId × (Nat → Nat), ∀ r : vw_C, vwCl[ci]? = some r → u_Kn s r.1 r.2.1 r.2.2 q.1 q.2 := by
    intro ci
    by_cases h : ci < 11
    · obtain ⟨r, hr9, ok⟩ := cl_facts ci h
      obtain ⟨-, -, k3, -, -, -, k7, -⟩ := ok
      obtain ⟨cC, iS, hK⟩ := u_known (n := r.2.2) htg k3 (htg _ k7)
      refine ⟨(cC, iS), fun r2 hr2 => ?_⟩
      cases hr9.symm.trans hr2
      exact hK
    · exact ⟨(0, fun _ => 0), fun r2 hr2 => absurd (cl_lt hr2) h⟩
  obtain ⟨D0, hD0⟩ := Classical.axiomOfChoice hcls
  -- the classes of arrays
  obtain ⟨c20, k20, m20, a1, a2, a3⟩ := Cond.arrayClass_spec (htg _ w_arr.1)
  obtain ⟨c21, k21, m21, b1, b2, b3⟩ := Cond.arrayClass_spec (htg _ w_arr.2.1)
  obtain ⟨c22, k22, m22, d1, d2, d3⟩ := Cond.arrayClass_spec (htg _ w_arr.2.2.1)
  obtain ⟨c23, k23, m23, e1, e2, e3⟩ := Cond.arrayClass_spec (htg _ w_arr.2.2.2)
  obtain ⟨m24, c24, k24, f1, -, f3, f4, f5⟩ := Cond.arrayOver_spec (hts _ w_over.1)
  obtain ⟨m25, c25, k25, g1, -, g3, g4, g5⟩ := Cond.arrayOver_spec (hts _ w_over.2.1)
  obtain ⟨m26, c26, k26, h1, -, h3, h4, h5⟩ := arrayOverA_spec (hts _ w_over.2.2)
  have hA0 : ∀ a : Nat, a < s.heap.size → ¬ (fun q : Nat => s.heap.size ≤ q) a := fun a h z => by
    have z : s.heap.size ≤ a := z
    omega
  -- the statics
  obtain ⟨fa, hfa, hfT⟩ := va_Tof (N := 6) (tm := fT) (f := fun j => .int (([1, 1, 2, 6, 24, 120] : List Int32).getD j 0)) (A := fun q : Nat => s.heap.size ≤ q) (by decide) (hs _ g_fact.1) (va_eqt (hs _ g_fact.2.1)) (fun j hj => va_eqt (hs _ (g_fact.2.2 j hj))) hA0
  have hfZ := va_Zof (hts _ w_lays.1) (hts _ w_ini.1) hfa hA0
  have hcZ := va_Zof (hts _ w_lays.2.1) (hts _ w_ini.2.1) (va_eqi (hs _ g_stat.1)) hA0
  obtain ⟨sv, hsv, hsr⟩ := Cond.isRef_spec (hs _ g_stat.2)
  have hsZ := va_Zof (hts _ w_lays.2.2) (hts _ w_ini.2.2) hsv hA0
  obtain ⟨sf, hsf⟩ : ∃ sf : Nat, sv = if sf = 0 then .null else .ref (sf - 1) := by
    cases sv <;> first | exact ⟨0, rfl⟩ | (rename_i a9; exact ⟨a9 + 1, rfl⟩) | cases hsr
  -- the texts
  obtain ⟨adK, adV, hstr⟩ := str_start hs hA0
  obtain ⟨E, hE⟩ : ∃ E : mE, E = (s.heap.size, xAd b fa sf adK adV, (fun ci => (D0 ci).1, fun ci => (D0 ci).2), (fun kd => if kd = 20 then c20 else if kd = 21 then c21 else if kd = 22 then c22 else if kd = 23 then c23 else if kd = 24 then c24 else if kd = 25 then c25 else c26), L, xs) := ⟨_, rfl⟩
  have eXB : XB = 1000000 := rfl
  have x0 : E.2.1 XB = b := by rw [hE]; exact (xAd_0 b fa sf adK adV).1
  have x1 : E.2.1 (XB + 1) = fa := by rw [hE]; exact (xAd_0 b fa sf adK adV).2.1
  have x2 : E.2.1 (XB + 2) = sf := by rw [hE]; exact (xAd_0 b fa sf adK adV).2.2
  have xs0 : ∀ i, E.2.1 (XB + 10 + 2 * i) = adK i := fun i => by rw [hE]; exact (xAd_s b fa sf adK adV i).1
  have xs1 : ∀ i, E.2.1 (XB + 10 + 2 * i + 1) = adV i := fun i => by rw [hE]; exact (xAd_s b fa sf adK adV i).2
  have hfA : fA E = fun q : Nat => s.heap.size ≤ q := by rw [hE]; rfl
  have hEL : E.2.2.2.2.1 = L := by rw [hE]
  have hEx : E.2.2.2.2.2 = xs := by rw [hE]
  have hE1 : E.1 = s.heap.size := by rw [hE]
  have heX : eX E s s.heap := by
    unfold eX
    rw [x0, x1, hEL, hEx, hfA]
    refine ⟨va_X_T hX (hA0 b hbl), hfT, fun i hi => ?_, hfZ, hcZ, ?_, fun i q hq => ?_, fun w hw => ?_, ?_, ?_, ?_, ?_⟩
    · rw [xs0, xs1]
      exact (hstr i hi).2
    · have : eFm E = sv := by unfold eFm; rw [x2]; exact hsf.symm
      rw [this]
      exact hsZ
    · rw [xs0]
      obtain ⟨i1, i2, i3⟩ := sc_in hq
      have := (hstr i i1).1
      rw [i2] at this
      exact vk_R.of (hts _ i3) this
    · simp only [nestW, List.mem_cons, List.not_mem_nil, or_false] at hw
      rcases hw with rfl | rfl | rfl | rfl <;> exact va_Nw.of rfl (hts _ (w_nest.1 _ (by simp [nestW])))
    · exact va_Nw.of rfl (hts _ w_nest.2)
    · exact va_AO.of (hts _ w_over.1)
    · exact va_AO.of (hts _ w_over.2.1)
    · exact va_AOA.of (hts _ w_over.2.2)
  have hK : va_K E.2.2.1 vwCl (eT E) s := by
    refine ⟨fun ci q hq => ?_, fun k q hq => ?_⟩
    · rw [hE]
      exact hD0 ci q hq
    · have e20 : E.2.2.2.1 20 = c20 := by rw [hE]; rfl
      have e21 : E.2.2.2.1 21 = c21 := by rw [hE]; rfl
      have e22 : E.2.2.2.1 22 = c22 := by rw [hE]; rfl
      have e23 : E.2.2.2.1 23 = c23 := by rw [hE]; rfl
      have e24 : E.2.2.2.1 24 = c24 := by rw [hE]; rfl
      have e25 : E.2.2.2.1 25 = c25 := by rw [hE]; rfl
      have e26 : E.2.2.2.1 26 = c26 := by rw [hE]; rfl
      unfold eT at hq
      rw [e20, e21, e22, e23, e24, e25, e26] at hq
      match k, hq with
      | 0, hq => cases hq; exact ⟨fun N z => ⟨(fun k h => by cases h), k20, a2, m20, a3⟩, a1⟩
      | 1, hq => cases hq; exact ⟨fun N z => ⟨(fun k h => by cases h), k21, b2, m21, b3⟩, b1⟩
      | 2, hq => cases hq; exact ⟨fun N z => ⟨(fun k h => by cases h), k22, d2, m22, d3⟩, d1⟩
      | 3, hq => cases hq; exact ⟨fun N z => ⟨(fun k h => by cases h), k23, e2, m23, e3⟩, e1⟩
      | 4, hq => cases hq; exact ⟨fun N z => ⟨(fun k h => by cases h), k24, f3, m24, f4⟩, k24, m24, f3, f4, f1, f5⟩
      | 5, hq => cases hq; exact ⟨fun N z => ⟨(fun k h => by cases h), k25, g3, m25, g4⟩, k25, m25, g3, g4, g1, g5⟩
      | 6, hq => cases hq; exact ⟨fun N z => ⟨(fun k h => by cases h), k26, h3, m26, h4⟩, h5⟩
      | k + 7, hq => simp at hq
  have hC : Cx E (mN (u0 L xs)) 335 p s m #[Value.ref b] meth c := ⟨hx, hb, hml, hr, hlocks, hown, htg, hK, heX, by rw [hE1]; rfl, hname⟩
  have hO : eO E (u0 L xs) := fun a ha => by
    rw [hEL, hEx]
    exact ⟨rfl, rfl⟩
  have hSt : St E (u0 L xs) (u0 L xs) s s.heap [] 0 0 := ⟨fun k q h => by
    have := (eW_get h).1
    exact absurd this (Nat.not_lt_zero _), va_S.rf, rfl, rfl, Nat.le_refl _, Nat.le_refl _, Nat.zero_le _, hO⟩
  have hl := lv_entry ([.ref b]) (n := 4) (Nat.le_of_ble_eq_true rfl)
  rw [lg_entry_eq]
  generalize (lg_sl ([.ref b]) ++ List.replicate (4 - (lg_sl ([.ref b])).length) Slot.unset).toArray = ls at hl ⊢
  have e0 : eLv E (mA 0 [.ref XB]) = lv_args 0 [.ref b] := by
    rw [mA_e]
    show lv_args 0 [.ref (eA E XB)] = _
    rw [eA_out (Nat.le_refl _), x0]
  rw [← e0] at hl
  have key := sim E l n 14 335 0 _ _ _ _ hev p e room_1 s m #[Value.ref b] below meth c s.heap [] 0 0 ls (u0 L xs) hC hSt hl ⟨by decide, by decide, hw1, hw2⟩
  intro T hT Xs
  obtain ⟨t, q1, o, q2, q3, ⟨q4, -, -⟩, Lo, ⟨q5, q6, q7⟩, q8⟩ := key T hT Xs
  refine ⟨t, q1, o, q2, q3, q4, q5, q6, ?_⟩
  refine q7.weaken (fun y hy hlt => absurd hlt (Nat.not_lt.mpr ?_)) hw1 hw2
  have := q8 y hy
  rw [hfA] at this
  exact this
