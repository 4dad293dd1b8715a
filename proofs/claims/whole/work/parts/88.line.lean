/-! READING: any line -/
section LINE
variable {l p q n k i a b : Nat} {T : Nat → Nat} {s s' t t' : mT} {xs : Nat → Int32} {D : RD}
theorem wm_t (h : wmB l T q a = true) (ha : a < 28) : T q = chN a 0 := by
  unfold wmB at h
  rw [Bool.and_eq_true, Bool.and_eq_true] at h
  have h2 := (tx_b ha).2.1
  cases hf : ffN (fun i => !decide (T (q + i) = chN a i)) (xT a).length 0 with
  | some x => rw [hf] at h; exact absurd h.2.2 (fun z => by cases z)
  | none =>
    have := ffN_none hf 0 (Nat.le_refl _) (by omega)
    simpa using this
theorem wm_ne {b : Nat} (h : wmB l T q a = true) (ha : a < 28) (hb : b < 28) (hne : chN a 0 ≠ chN b 0) : wmB l T q b = false := by
  cases hv : wmB l T q b with
  | false => rfl
  | true => exact absurd ((wm_t h ha).symm.trans (wm_t hv hb)) hne
theorem nw {x : Nat} (h : ¬ s.1 3 2 = 0) : gD_takeWord x s = some s := by
  unfold gD_takeWord
  rw [if_neg h]
theorem nn {x y : Int32} (h : ¬ s.1 3 2 = 0) : gD_takeNumber x y s = some (0, s) := by
  unfold gD_takeNumber
  rw [if_neg h]
theorem ln_bd (h : BDq xs l T s' t') (f : Fp pC3 s s') (g : Fp pM3 t t') : LN xs l T D s t s' t' := ⟨f.wid (fun a k z => Or.inl z), g.wid (fun a k z => Or.inl z), Or.inr h, fun z => absurd z h.2.2.1, g.1 300 8 (fun z => by unfold pM3 at z; omega)⟩
theorem tk_0 (h : gM_is a t = some 0) : gM_takes a t = some (0, t) := by
  unfold gM_takes
  rw [h, Option.bind_some, if_pos rfl, Option.bind_some, if_pos (Or.inl rfl)]
theorem tk_1 (h : gM_is a t = some 1) (h2 : gM_advance t = some t') : gM_takes a t = some (1, t') := by
  unfold gM_takes
  rw [h, Option.bind_some, if_neg (by decide), h2, Option.bind_some, Option.bind_some, if_pos (Or.inr rfl)]
theorem next_line (h : GD xs l T s t) (hV : VDR D) (hR : RR 4 D s) (hM : MA (t.1 300) D) : ∃ s' t', ((gD_isAtWord (XB + 20) s).bind fun p5 => if p5 = 0 then (gD_isAtWord (XB + 26) s).bind fun p8 => if p8 = 0 then (gD_isAtWord (XB + 36) s).bind fun p11 => if p11 = 0 then (gD_fail (1 : Int32) s).bind fun p13 => some p13 else (gD_readShowLine s).bind fun p14 => some p14 else (gD_readWatcherLine s).bind fun p15 => some p15 else (gD_readBoatLine s).bind fun p16 => some p16) = some s' ∧ gM_readNext t = some t' ∧ LN xs l T D s t s' t' := by
  have hd := hV.1.1
  obtain ⟨q, hq⟩ := both_q h
  obtain ⟨cb, mb⟩ := hq 5 19 (by omega) (by omega) (by decide)
  obtain ⟨cw, mw⟩ := hq 8 20 (by omega) (by omega) (by decide)
  obtain ⟨cs, ms⟩ := hq 13 21 (by omega) (by omega) (by decide)
  have cb : gD_isAtWord (XB + 20) s = _ := cb
  have cw : gD_isAtWord (XB + 26) s = _ := cw
  have cs : gD_isAtWord (XB + 36) s = _ := cs
  have mb : gM_is (XB + 48) t = _ := mb
  have mw : gM_is (XB + 50) t = _ := mw
  have ms : gM_is (XB + 52) t = _ := ms
  have r4 : rdI (t.1 300) 79 (4 : Int32) = some (nI (D 5 0)) := (rd_n (k := 4) (by omega) (by omega)).trans (congrArg some hM.1.2.2.2.2.1)
  have r5 : rdI (t.1 300) 79 (5 : Int32) = some (nI (D 6 0)) := (rd_n (k := 5) (by omega) (by omega)).trans (congrArg some hM.1.2.2.2.2.2.1)
  have r6 : rdI (t.1 300) 79 (6 : Int32) = some (nI (D 7 0)) := (rd_n (k := 6) (by omega) (by omega)).trans (congrArg some hM.1.2.2.2.2.2.2.1)
  have b48 : ∀ {u v : mT}, BDq xs l T u v → gM_is (XB + 48) v = some 0 := fun z => bd_is z (b := 19) (by omega)
  have b50 : ∀ {u v : mT}, BDq xs l T u v → gM_is (XB + 50) v = some 0 := fun z => bd_is z (b := 20) (by omega)
  have b52 : ∀ {u v : mT}, BDq xs l T u v → gM_is (XB + 52) v = some 0 := fun z => bd_is z (b := 21) (by omega)
  have five : ∀ {n : Nat}, n < 5 → ¬ nI n = (5 : Int32) := fun hn z => absurd ((nI_eq (b := 5) (by omega) (by omega)).mp z) (by omega)
  have gd1 := gd_good h
  cases vb : wmB l T q 5 with
  | true =>
    have vw := wm_ne (b := 8) vb (by omega) (by omega) (by decide)
    have vs := wm_ne (b := 13) vb (by omega) (by omega) (by decide)
    rw [vb] at cb mb
    rw [vw] at cw mw
    rw [vs] at cs ms
    by_cases h5 : D 5 0 < 5
    · obtain ⟨t1, s', t', x1, x2, x3, x4⟩ := boat_line h hV hR hM h5
      refine ⟨s', t', ?_, ?_, x4⟩
      · rw [cb, Option.bind_some, bz_t, if_neg (by decide), x2, Option.bind_some]
      · unfold gM_readNext
        rw [mb, bz_t, Option.bind_some, if_neg (by decide), Option.bind_some, if_neg (by decide), Option.bind_some, mb, bz_t, Option.bind_some, if_neg (by decide), r4, Option.bind_some, if_neg (five h5), Option.bind_some, mw, bz_f, Option.bind_some, if_pos rfl, Option.bind_some, ms, bz_f, Option.bind_some, if_pos rfl, Option.bind_some, gd1, Option.bind_some, if_neg (by decide), tk_1 (mb.trans rfl) x1, Option.bind_some]
        dsimp only
        rw [if_neg (by decide), x3, Option.bind_some]
    · have e5 : D 5 0 = 5 := by omega
      obtain ⟨s', t', f1, f2, f3, f4, f5⟩ := gd_fail (c := 3) (by decide) h
      have nz := f3.2.2.1
      refine ⟨s', t', ?_, ?_, ln_bd f3 f4 f5⟩
      · rw [cb, Option.bind_some, bz_t, if_neg (by decide)]
        unfold gD_readBoatLine gD_takeKind
        rw [hR.1.2.2.2.2.2.1, e5, if_neg (by decide), f1, Option.bind_some, Option.bind_some, Option.bind_some, nw nz, Option.bind_some, nn nz, Option.bind_some]
        dsimp only
        rw [nw nz, Option.bind_some, nn nz, Option.bind_some]
        dsimp only
        rw [if_neg nz, Option.bind_some, Option.bind_some]
      · unfold gM_readNext
        rw [mb, bz_t, Option.bind_some, if_neg (by decide), Option.bind_some, if_neg (by decide), Option.bind_some, mb, bz_t, Option.bind_some, if_neg (by decide), r4, Option.bind_some, e5, if_pos (show nI 5 = (5 : Int32) from rfl), f2, Option.bind_some, Option.bind_some, b50 f3, Option.bind_some, if_pos rfl, Option.bind_some, b52 f3, Option.bind_some, if_pos rfl, Option.bind_some, bd_good f3, Option.bind_some, if_pos rfl]
  | false =>
    rw [vb] at cb mb
    cases vw : wmB l T q 8 with
    | true =>
      have vs := wm_ne (b := 13) vw (by omega) (by omega) (by decide)
      rw [vw] at cw mw
      rw [vs] at cs ms
      by_cases h6 : D 6 0 < 5
      · obtain ⟨t1, s', t', x1, x2, x3, x4⟩ := watch_line h hV hR hM h6
        refine ⟨s', t', ?_, ?_, x4⟩
        · rw [cb, Option.bind_some, bz_f, if_pos rfl, cw, Option.bind_some, bz_t, if_neg (by decide), x2, Option.bind_some]
        · unfold gM_readNext
          rw [mb, bz_f, Option.bind_some, if_pos rfl, mw, bz_t, Option.bind_some, if_neg (by decide), Option.bind_some, if_neg (by decide), Option.bind_some, mb, bz_f, Option.bind_some, if_pos rfl, Option.bind_some, mw, bz_t, Option.bind_some, if_neg (by decide), r5, Option.bind_some, if_neg (five h6), Option.bind_some, ms, bz_f, Option.bind_some, if_pos rfl, Option.bind_some, gd1, Option.bind_some, if_neg (by decide), tk_0 (mb.trans rfl), Option.bind_some]
          dsimp only
          rw [if_pos rfl, tk_1 (mw.trans rfl) x1, Option.bind_some]
          dsimp only
          rw [if_neg (by decide), x3, Option.bind_some, Option.bind_some]
      · have e6 : D 6 0 = 5 := by omega
        obtain ⟨s', t', f1, f2, f3, f4, f5⟩ := gd_fail (c := 3) (by decide) h
        have nz := f3.2.2.1
        refine ⟨s', t', ?_, ?_, ln_bd f3 f4 f5⟩
        · rw [cb, Option.bind_some, bz_f, if_pos rfl, cw, Option.bind_some, bz_t, if_neg (by decide)]
          unfold gD_readWatcherLine gD_takeKind
          rw [hR.1.2.2.2.2.2.2.1, e6, if_neg (by decide), f1, Option.bind_some, Option.bind_some, Option.bind_some, nw nz, Option.bind_some, nn nz, Option.bind_some]
          dsimp only
          rw [nw nz, Option.bind_some, nn nz, Option.bind_some]
          dsimp only
          rw [nw nz, Option.bind_some, nn nz, Option.bind_some]
          dsimp only
          rw [nw nz, Option.bind_some, nn nz, Option.bind_some]
          dsimp only
          rw [if_neg nz, Option.bind_some, Option.bind_some]
        · unfold gM_readNext
          rw [mb, bz_f, Option.bind_some, if_pos rfl, mw, bz_t, Option.bind_some, if_neg (by decide), Option.bind_some, if_neg (by decide), Option.bind_some, mb, bz_f, Option.bind_some, if_pos rfl, Option.bind_some, mw, bz_t, Option.bind_some, if_neg (by decide), r5, Option.bind_some, e6, if_pos (show nI 5 = (5 : Int32) from rfl), f2, Option.bind_some, Option.bind_some, b52 f3, Option.bind_some, if_pos rfl, Option.bind_some, bd_good f3, Option.bind_some, if_pos rfl]
    | false =>
      rw [vw] at cw mw
      cases vs : wmB l T q 13 with
      | true =>
        rw [vs] at cs ms
        by_cases h7 : D 7 0 < 5
        · obtain ⟨t1, s', t', x1, x2, x3, x4⟩ := show_line h hV hR hM h7
          refine ⟨s', t', ?_, ?_, x4⟩
          · rw [cb, Option.bind_some, bz_f, if_pos rfl, cw, Option.bind_some, bz_f, if_pos rfl, cs, Option.bind_some, bz_t, if_neg (by decide), x2, Option.bind_some]
          · unfold gM_readNext
            rw [mb, bz_f, Option.bind_some, if_pos rfl, mw, bz_f, Option.bind_some, if_pos rfl, ms, bz_t, Option.bind_some, if_neg (by decide), Option.bind_some, if_neg (by decide), Option.bind_some, mb, bz_f, Option.bind_some, if_pos rfl, Option.bind_some, mw, bz_f, Option.bind_some, if_pos rfl, Option.bind_some, ms, bz_t, Option.bind_some, if_neg (by decide), r6, Option.bind_some, if_neg (five h7), Option.bind_some, gd1, Option.bind_some, if_neg (by decide), tk_0 (mb.trans rfl), Option.bind_some]
            dsimp only
            rw [if_pos rfl, tk_0 (mw.trans rfl), Option.bind_some]
            dsimp only
            rw [if_pos rfl, x1, Option.bind_some, x3, Option.bind_some]
        · have e7 : D 7 0 = 5 := by omega
          obtain ⟨s', t', f1, f2, f3, f4, f5⟩ := gd_fail (c := 3) (by decide) h
          have nz := f3.2.2.1
          refine ⟨s', t', ?_, ?_, ln_bd f3 f4 f5⟩
          · rw [cb, Option.bind_some, bz_f, if_pos rfl, cw, Option.bind_some, bz_f, if_pos rfl, cs, Option.bind_some, bz_t, if_neg (by decide)]
            unfold gD_readShowLine gD_takeKind
            rw [hR.1.2.2.2.2.2.2.2.1, e7, if_neg (by decide), f1, Option.bind_some, Option.bind_some, Option.bind_some, nn nz, Option.bind_some]
            dsimp only
            rw [nw nz, Option.bind_some, nn nz, Option.bind_some]
            dsimp only
            rw [if_neg nz, Option.bind_some, Option.bind_some]
          · unfold gM_readNext
            rw [mb, bz_f, Option.bind_some, if_pos rfl, mw, bz_f, Option.bind_some, if_pos rfl, ms, bz_t, Option.bind_some, if_neg (by decide), Option.bind_some, if_neg (by decide), Option.bind_some, mb, bz_f, Option.bind_some, if_pos rfl, Option.bind_some, mw, bz_f, Option.bind_some, if_pos rfl, Option.bind_some, ms, bz_t, Option.bind_some, if_neg (by decide), r6, Option.bind_some, e7, if_pos (show nI 5 = (5 : Int32) from rfl), f2, Option.bind_some, Option.bind_some, bd_good f3, Option.bind_some, if_pos rfl]
      | false =>
        rw [vs] at cs ms
        obtain ⟨s', t', f1, f2, f3, f4, f5⟩ := gd_fail (c := 1) (by decide) h
        refine ⟨s', t', ?_, ?_, ln_bd f3 f4 f5⟩
        · rw [cb, Option.bind_some, bz_f, if_pos rfl, cw, Option.bind_some, bz_f, if_pos rfl, cs, Option.bind_some, bz_f, if_pos rfl, f1, Option.bind_some]
        · unfold gM_readNext
          rw [mb, bz_f, Option.bind_some, if_pos rfl, mw, bz_f, Option.bind_some, if_pos rfl, ms, bz_f, Option.bind_some, if_pos rfl, Option.bind_some, if_pos rfl, f2, Option.bind_some, Option.bind_some, b48 f3, Option.bind_some, if_pos rfl, Option.bind_some, b50 f3, Option.bind_some, if_pos rfl, Option.bind_some, b52 f3, Option.bind_some, if_pos rfl, Option.bind_some, bd_good f3, Option.bind_some, if_pos rfl]
end LINE
