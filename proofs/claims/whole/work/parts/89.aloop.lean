/-! READING: line after line -/
section LOOP
variable {l p q n k i a b : Nat} {T : Nat → Nat} {s s' t t' : mT} {xs : Nat → Int32} {D : RD}
theorem RR4u (h : RR 4 (dL D k) s) (f : Fp (fun a j => a = 4 ∧ j = 4) s s') (h4 : s'.1 4 4 = nI (D 4 0)) : RR 4 D s' := by
  obtain ⟨⟨a1, a2, a3, a4, a5, a6, a7, a8, a9⟩, hB, hW, hS, hA⟩ := h
  have e : ∀ a, a ≠ 4 → s'.1 a = s.1 a := fun a ha => f.fn (fun j z => ha z.1)
  have e4 : ∀ j, j ≠ 4 → s'.1 4 j = s.1 4 j := fun j hj => f.1 4 j (fun z => hj z.2)
  refine ⟨⟨by rw [e4 0 (by omega)]; exact a1, by rw [e4 1 (by omega)]; exact a2, by rw [e4 2 (by omega)]; exact a3, by rw [e4 3 (by omega)]; exact a4, h4, by rw [e4 5 (by omega)]; exact a6, by rw [e4 6 (by omega)]; exact a7, by rw [e4 7 (by omega)]; exact a8, by rw [e4 8 (by omega)]; exact a9⟩, fun b hb => by rw [e (4 + 1) (by omega), e (4 + 2) (by omega)]; exact hB b hb, fun w hw => by rw [e (4 + 3) (by omega), e (4 + 4) (by omega), e (4 + 5) (by omega), e (4 + 6) (by omega)]; exact hW w hw, fun k hk => by rw [e (4 + 7) (by omega), e (4 + 8) (by omega)]; exact hS k hk, fun i hi => by rw [e (4 + 9) (by omega), e (4 + 10) (by omega), e (4 + 11) (by omega)]; exact hA i hi⟩
theorem MA4u (h : MA (s.1 300) (dL D k)) (hV : VD D) (f : Fp (fun a j => a = 300 ∧ j = 8) s s') (h4 : s'.1 300 8 = nI (D 4 0)) : MA (s'.1 300) D := by
  obtain ⟨⟨a1, a2, a3, a4, a5, a6, a7, a8, a9⟩, hB, hW, hS, hA⟩ := h
  obtain ⟨v1', v2', v3', v4', v5', v6', v7', v8', v9'⟩ := hV.1
  have e : ∀ j, j ≠ 8 → s'.1 300 j = s.1 300 j := fun j hj => f.1 300 j (fun z => hj z.2)
  refine ⟨⟨by rw [e 0 (by omega)]; exact a1, by rw [e 1 (by omega)]; exact a2, by rw [e 2 (by omega)]; exact a3, by rw [e 3 (by omega)]; exact a4, by rw [e 4 (by omega)]; exact a5, by rw [e 5 (by omega)]; exact a6, by rw [e 6 (by omega)]; exact a7, by rw [e 7 (by omega)]; exact a8, h4⟩, fun b hb => by rw [e _ (by omega), e _ (by omega)]; exact hB b hb, fun w hw => by rw [e _ (by omega), e _ (by omega), e _ (by omega), e _ (by omega)]; exact hW w hw, fun k hk => by rw [e _ (by omega), e _ (by omega)]; exact hS k hk, fun i hi => by rw [e _ (by omega)]; exact hA i hi⟩
theorem line_step (h : GD xs l T s t) (hV : VDR D) (hR : RR 4 D s) (hM : MA (t.1 300) D) : ∃ s' t', gD_readLine s = some s' ∧ gM_readLine t = some t' ∧ Fp pCd s s' ∧ Fp pMd t t' ∧ QD xs l T s' t' ∧ (s'.1 3 2 = 0 → ∃ D', VDR D' ∧ D' 4 0 = D 4 0 + 1 ∧ RR 4 D' s' ∧ MA (t'.1 300) D') := by
  have hd := hV.1.1
  have m8 : t.1 300 8 = nI (D 4 0) := hM.1.2.2.2.2.2.2.2.2
  have r8 : rdI (t.1 300) 79 (8 : Int32) = some (nI (D 4 0)) := (rd_n (k := 8) (by omega) (by omega)).trans (congrArg some m8)
  obtain ⟨x, y, a1, a2, a3, a4, a5, a6, a7⟩ : ∃ x y, (if nI (D 4 0) = 0 then (gD_readRaceLine s).bind fun p17 => some p17 else (gD_isAtWord (XB + 20) s).bind fun p5 => if p5 = 0 then (gD_isAtWord (XB + 26) s).bind fun p8 => if p8 = 0 then (gD_isAtWord (XB + 36) s).bind fun p11 => if p11 = 0 then (gD_fail (1 : Int32) s).bind fun p13 => some p13 else (gD_readShowLine s).bind fun p14 => some p14 else (gD_readWatcherLine s).bind fun p15 => some p15 else (gD_readBoatLine s).bind fun p16 => some p16) = some x ∧ (if nI (D 4 0) = 0 then (gM_readFirst t).bind fun p5 => some p5 else (gM_readNext t).bind fun p4 => some p4) = some y ∧ LN xs l T D s t x y := by
    by_cases e : D 4 0 = 0
    · obtain ⟨z1, z2, z3, z4, z5, z6, z7, z8⟩ := hV.1.2.2.2.2.2 e
      obtain ⟨x, y, f1, f2, f3, f4, f5, f6, f7⟩ := first_line h ⟨by rw [hR.1.2.2.2.2.2.1, z5]; rfl, by rw [hR.1.2.2.2.2.2.2.1, z6]; rfl, by rw [hR.1.2.2.2.2.2.2.2.1, z7]; rfl, by rw [hR.1.2.2.2.2.2.2.2.2, z8]; rfl, by rw [hR.1.2.2.2.2.1, e]; rfl⟩ ⟨by rw [hM.1.2.2.2.2.1, z5]; rfl, by rw [hM.1.2.2.2.2.2.1, z6]; rfl, by rw [hM.1.2.2.2.2.2.2.1, z7]; rfl, by rw [hM.1.2.2.2.2.2.2.2.1, z8]; rfl, by rw [m8, e]; rfl⟩
      refine ⟨x, y, ?_, ?_, f3, f4, f5, ?_, ?_⟩
      · rw [e, if_pos (show nI 0 = (0 : Int32) from rfl), f1, Option.bind_some]
      · rw [e, if_pos (show nI 0 = (0 : Int32) from rfl), f2, Option.bind_some]
      · rw [e]; exact f6
      · rw [f7, m8, e]; rfl
    · obtain ⟨x, y, f1, f2, f3⟩ := next_line h hV hR hM
      have ne : ¬ nI (D 4 0) = (0 : Int32) := fun z => e ((nI_eq (b := 0) (by omega) (by omega)).mp z)
      refine ⟨x, y, ?_, ?_, f3⟩
      · rw [if_neg ne]; exact f1
      · rw [if_neg ne, f2, Option.bind_some]
  have y8 : y.1 300 8 = nI (D 4 0) := a7.trans m8
  obtain ⟨x1, y1, b1, b2, b3, b4, b5, b6⟩ : ∃ x1 y1, (if x.1 3 2 = 0 then if x.1 3 5 = (3 : Int32) then some x else (gD_fail (1 : Int32) x).bind fun p22 => some p22 else some x) = some x1 ∧ ((gM_good y).bind fun p6 => if p6 = 0 then some y else if y.1 294 10 = (3 : Int32) then some y else (gM_errs (1 : Int32) y).bind fun p10 => some p10) = some y1 ∧ Fp pC3 x x1 ∧ Fp pM3 y y1 ∧ QD xs l T x1 y1 ∧ (x1.1 3 2 = 0 → x1 = x ∧ y1 = y) := by
    rcases a5 with g | g
    · obtain ⟨hb, ⟨z1, z2, z3⟩, p, hp, ⟨c1, c2⟩, ⟨d1, d2⟩, -⟩ := id g
      have gg := gd_good g
      by_cases e : x.1 3 5 = (3 : Int32)
      · have e' : y.1 294 10 = (3 : Int32) := by rw [d2, ← d1]; exact e
        exact ⟨x, y, by rw [if_pos z1, if_pos e], by rw [gg, Option.bind_some, if_neg (by decide), if_pos e'], Fp.rfl', Fp.rfl', Or.inl g, fun _ => ⟨rfl, rfl⟩⟩
      · have e' : ¬ y.1 294 10 = (3 : Int32) := by rw [d2, ← d1]; exact e
        obtain ⟨x1, y1, f1, f2, f3, f4, f5⟩ := gd_fail (c := 1) (by decide) g
        exact ⟨x1, y1, by rw [if_pos z1, if_neg e, f1, Option.bind_some], by rw [gg, Option.bind_some, if_neg (by decide), if_neg e', f2, Option.bind_some], f4, f5, Or.inr f3, fun z => absurd z f3.2.2.1⟩
    · exact ⟨x, y, by rw [if_neg g.2.2.1], by rw [bd_good g, Option.bind_some, if_pos rfl], Fp.rfl', Fp.rfl', Or.inr g, fun _ => ⟨rfl, rfl⟩⟩
  have y18 : y1.1 300 8 = nI (D 4 0) := (b4.1 300 8 (fun z => by unfold pM3 at z; omega)).trans y8
  obtain ⟨x2, y2, c1, c2, c3, c4, c5, c6⟩ : ∃ x2 y2, (if x1.1 3 2 = 0 then (gD_takeToken (stI x1 4 4 ((x1.1 4 4) + (1 : Int32)))).bind fun p28 => some p28 else some x1) = some x2 ∧ ((gM_good y1).bind fun p11 => if p11 = 0 then some y1 else (gM_advance y1).bind fun p13 => some p13) = some y2 ∧ Fp pCd x1 x2 ∧ Fp pM3 y1 y2 ∧ QD xs l T x2 y2 ∧ (x2.1 3 2 = 0 → x1.1 3 2 = 0 ∧ Fp pC3 (stI x1 4 4 ((x1.1 4 4) + (1 : Int32))) x2) := by
    rcases b5 with g | g
    · have k1 : Fp (fun a _ => a = 4) x1 (stI x1 4 4 ((x1.1 4 4) + (1 : Int32))) := Fp.st rfl
      have g2 := qd_fp (Or.inl g) k1 (Q := fun _ _ => False) Fp.rfl' (fun a k z => by omega) (fun a k z => z.elim)
      have g3 := qd_gd g2 (by rw [stI_ne (by omega)]; exact g.2.1.1)
      obtain ⟨x2, y2, f1, f2, f3, f4, f5⟩ := gd_tok g3
      refine ⟨x2, y2, by rw [if_pos g.2.1.1, f1, Option.bind_some], by rw [gd_good g, Option.bind_some, if_neg (by decide), f2, Option.bind_some], (k1.wid (fun a k z => Or.inr (by omega))).tr (f4.wid (fun a k z => Or.inl z)), f5, Or.inl f3, fun _ => ⟨g.2.1.1, f4⟩⟩
    · exact ⟨x1, y1, by rw [if_neg g.2.2.1], by rw [bd_good g, Option.bind_some, if_pos rfl], Fp.rfl', Fp.rfl', Or.inr g, fun z => absurd z g.2.2.1⟩
  have y28 : y2.1 300 8 = nI (D 4 0) := (c4.1 300 8 (fun z => by unfold pM3 at z; omega)).trans y18
  have k3 : Fp (fun a _ => a = 300) y2 (stI y2 300 8 (nI (D 4 0 + 1))) := Fp.st rfl
  refine ⟨x2, stI y2 300 8 (nI (D 4 0 + 1)), ?_, ?_, a3.tr ((b3.wid (fun a k z => Or.inl z)).tr c3), a4.tr ((b4.wid (fun a k z => Or.inl z)).tr ((c4.wid (fun a k z => Or.inl z)).tr (k3.wid (fun a k z => Or.inr z)))), qd_fp c5 (P := fun _ _ => False) Fp.rfl' k3 (fun a k z => z.elim) (fun a k z => by omega), fun h0 => ?_⟩
  · unfold gD_readLine
    rw [hR.1.2.2.2.2.1, a1, Option.bind_some, b1, Option.bind_some, c1, Option.bind_some]
  · unfold gM_readLine
    rw [r8, Option.bind_some, a2, Option.bind_some]
    have hb := b2
    have hc := c2
    cases hg : gM_good y with
    | none => rw [hg] at hb; cases hb
    | some g1 =>
      rw [hg, Option.bind_some] at hb
      rw [Option.bind_some, hb, Option.bind_some]
      cases hg1 : gM_good y1 with
      | none => rw [hg1] at hc; cases hc
      | some g2 =>
        rw [hg1, Option.bind_some] at hc
        rw [Option.bind_some, hc, Option.bind_some, show (8 : Int32) = nI 8 from rfl, rd_n (by omega) (by omega), Option.bind_some, y28, nI_1, wr_n (by omega) (by omega), Option.bind_some]
  · obtain ⟨h1, f4⟩ := c6 h0
    obtain ⟨rfl, rfl⟩ := b6 h1
    obtain ⟨D', d1, d2, d3, d4⟩ := a6 h1
    have x44 : x1.1 4 4 = nI (D 4 0) := d3.1.2.2.2.2.1
    refine ⟨D', d1, d2, ?_, ?_⟩
    · have := RR4u d3 (s' := stI x1 4 4 ((x1.1 4 4) + (1 : Int32))) (Fp.st ⟨rfl, rfl⟩) (by rw [stI_eq, x44, nI_1, d2])
      exact this.cg (fun a h1 h2 => f4.fn (fun k z => by unfold pC3 at z; omega))
    · have h2 : MA (y2.1 300) (dL D' (D 4 0)) := by rw [c4.fn (a := 300) (fun k z => by unfold pM3 at z; omega)]; exact d4
      exact MA4u h2 d1.1 (Fp.st ⟨rfl, rfl⟩) (by rw [stI_eq, d2])
theorem loop_read : ∀ m D s t c, GD xs l T s t → VDR D → RR 4 D s → MA (t.1 300) D → 17 ≤ D 4 0 + m → c + m ≤ 600 → ∀ f1 f2, m + 1 < f1 → m + 1 < f2 → ∃ s' t', wh f1 gD_readTape_h28 (nI c, s) = some s' ∧ wh f2 gM_race_h53 t = some t' ∧ Fp pCd s s' ∧ Fp pMd t t' ∧ QD xs l T s' t' ∧ (s'.1 3 2 = 0 → ∃ D', VDR D' ∧ RR 4 D' s' ∧ MA (t'.1 300) D') := by
  intro m
  induction m with
  | zero =>
    intro D s t c h hV hR hM hm hc
    have := hV.1.1
    have := hV.2.1
    omega
  | succ m ih =>
    intro D s t c h hV hR hM hm hc f1 f2 hf1 hf2
    obtain ⟨g1, rfl⟩ : ∃ g, f1 = g + 1 := ⟨f1 - 1, by omega⟩
    obtain ⟨g2, rfl⟩ : ∃ g, f2 = g + 1 := ⟨f2 - 1, by omega⟩
    obtain ⟨hb, ⟨z1, z2, z3⟩, p, hp, ⟨c1, c2⟩, ⟨d1, d2⟩, -⟩ := id h
    have gg := gd_good h
    have c600 : ¬ (600 : Int32) < nI c := nlt (a := 600) (by omega) (by omega) (by omega)
    by_cases e : s.1 3 5 = 0
    · have e' : t.1 294 10 = 0 := by rw [d2, ← d1]; exact e
      refine ⟨s, t, wh_e ?_, wh_e ?_, Fp.rfl', Fp.rfl', Or.inl h, fun _ => ⟨D, hV, hR, hM⟩⟩
      · unfold gD_readTape_h28
        dsimp only
        rw [if_neg c600, if_pos e]
      · unfold gM_race_h53
        rw [gg, Option.bind_some, if_neg (by decide), if_pos e']
    · have e' : ¬ t.1 294 10 = 0 := by rw [d2, ← d1]; exact e
      obtain ⟨x, y, a1, a2, a3, a4, a5, a6⟩ := line_step h hV hR hM
      have st1 : gD_readTape_h28 (nI c, s) = some (.inl (nI (c + 1), x)) := by
        unfold gD_readTape_h28
        dsimp only
        rw [if_neg c600, if_neg e, if_pos z1, a1, Option.bind_some, nI_1]
      have st2 : gM_race_h53 t = some (.inl y) := by
        unfold gM_race_h53
        rw [gg, Option.bind_some, if_neg (by decide), if_neg e', a2, Option.bind_some]
      rw [wh_s st1, wh_s st2]
      rcases a5 with g | g
      · obtain ⟨D', v1, v2, v3, v4⟩ := a6 g.2.1.1
        obtain ⟨s', t', b1, b2, b3, b4, b5⟩ := ih D' x y (c + 1) g v1 v3 v4 (by omega) (by omega) g1 g2 (by omega) (by omega)
        exact ⟨s', t', b1, b2, a3.tr b3, a4.tr b4, b5⟩
      · obtain ⟨j1, rfl⟩ : ∃ j, g1 = j + 1 := ⟨g1 - 1, by omega⟩
        obtain ⟨j2, rfl⟩ : ∃ j, g2 = j + 1 := ⟨g2 - 1, by omega⟩
        refine ⟨x, y, wh_e ?_, wh_e ?_, a3, a4, Or.inr g, fun z => absurd z g.2.2.1⟩
        · unfold gD_readTape_h28
          dsimp only
          by_cases q1 : (600 : Int32) < nI (c + 1)
          · rw [if_pos q1]
          · rw [if_neg q1]
            by_cases q2 : x.1 3 5 = 0
            · rw [if_pos q2]
            · rw [if_neg q2, if_neg g.2.2.1]
        · unfold gM_race_h53
          rw [bd_good g, Option.bind_some, if_pos rfl]
end LOOP
