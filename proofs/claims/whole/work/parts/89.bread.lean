/-! READING: the whole tape -/
def pMr (a k : Nat) : Prop := (a = 294 ∧ (k = 5 ∨ (7 ≤ k ∧ k ≤ 13))) ∨ a = 300
section READ
variable {l p q n k i a b : Nat} {T : Nat → Nat} {s s' t t' : mT} {xs : Nat → Int32} {D : RD}
theorem wipe_is : ∃ s', gR_wipe 4 s = some s' ∧ Fp (fun a _ => a = 4) s s' ∧ ∀ i, i < 9 → s'.1 4 i = 0 := by
  refine ⟨stI (stI (stI (stI (stI (stI (stI (stI (stI s 4 0 (0 : Int32)) 4 1 (0 : Int32)) 4 2 (0 : Int32)) 4 3 (0 : Int32)) 4 4 (0 : Int32)) 4 5 (0 : Int32)) 4 6 (0 : Int32)) 4 7 (0 : Int32)) 4 8 (0 : Int32), rfl, ?_, fun i hi => ?_⟩
  · have f : ∀ {u : mT} {k : Nat}, Fp (fun a _ => a = 4) u (stI u 4 k (0 : Int32)) := Fp.st rfl
    exact f.tr (f.tr (f.tr (f.tr (f.tr (f.tr (f.tr (f.tr f)))))))
  · match i, hi with
    | 0, _ => rw [stI_nk (by omega), stI_nk (by omega), stI_nk (by omega), stI_nk (by omega), stI_nk (by omega), stI_nk (by omega), stI_nk (by omega), stI_nk (by omega), stI_eq]
    | 1, _ => rw [stI_nk (by omega), stI_nk (by omega), stI_nk (by omega), stI_nk (by omega), stI_nk (by omega), stI_nk (by omega), stI_nk (by omega), stI_eq]
    | 2, _ => rw [stI_nk (by omega), stI_nk (by omega), stI_nk (by omega), stI_nk (by omega), stI_nk (by omega), stI_nk (by omega), stI_eq]
    | 3, _ => rw [stI_nk (by omega), stI_nk (by omega), stI_nk (by omega), stI_nk (by omega), stI_nk (by omega), stI_eq]
    | 4, _ => rw [stI_nk (by omega), stI_nk (by omega), stI_nk (by omega), stI_nk (by omega), stI_eq]
    | 5, _ => rw [stI_nk (by omega), stI_nk (by omega), stI_nk (by omega), stI_eq]
    | 6, _ => rw [stI_nk (by omega), stI_nk (by omega), stI_eq]
    | 7, _ => rw [stI_nk (by omega), stI_eq]
    | 8, _ => rw [stI_eq]
theorem zero_is : ∃ s', wh FU gM_race_h30 ((0 : Int32), s) = some s' ∧ Fp (fun a _ => a = 300) s s' ∧ ∀ i, i < 79 → s'.1 300 i = 0 := by
  have := wh_cnt (f := gM_race_h30) (fun j t => Fp (fun a _ => a = 300) s t ∧ ∀ i, i < j → t.1 300 i = 0) (fun t => Fp (fun a _ => a = 300) s t ∧ ∀ i, i < 79 → t.1 300 i = 0) 0 79 (by omega) (fun j _ hj t hI => by
    obtain ⟨i1, i2⟩ := hI
    refine ⟨stI t 300 j (0 : Int32), ?_, i1.tr (Fp.st rfl), fun i hi => ?_⟩
    · unfold gM_race_h30
      dsimp only
      rw [show (79 : Int32) = nI 79 from rfl, if_neg (nle (by omega) (by omega) (by omega)), wr_n (by omega) (by omega), Option.bind_some, nI_1]
    · by_cases e : i = j
      · subst e; exact stI_eq
      · rw [stI_nk e]; exact i2 i (by omega)) (fun t hI => ⟨t, rfl, hI⟩) (s := s) ⟨Fp.rfl', fun i hi => absurd hi (Nat.not_lt_zero _)⟩ (i := (0 : Int32)) rfl FU (FU_gt (by omega))
  exact this
theorem race_read (hC : CTp l T s) (oC : OUT xs s) (h5 : t.1 294 5 = nI l) (hT : ∀ i, i < l → t.1 298 i = (nI (T i)).toInt8.toInt32) (oM : OUT xs t) : ∃ s' t' y0 y1 y2, gD_readTape s = some (bz (decide (s'.1 3 2 = 0)), s') ∧ (y0 = stI (stI (stI (stI (stI t 294 7 (t.1 294 5)) 294 5 (0 : Int32)) 294 8 (0 : Int32)) 294 12 (0 : Int32)) 294 13 (-1 : Int32) ∧ wh FU gM_race_h30 ((0 : Int32), y0) = some y1 ∧ gM_advance y1 = some y2 ∧ wh FU gM_race_h53 y2 = some t' ∧ gM_good t' = some (bz (decide (s'.1 3 2 = 0)))) ∧ Fp pCd s s' ∧ Fp pMr t t' ∧ (s'.1 3 2 = t'.1 294 12 ∧ s'.1 3 3 = t'.1 294 13) ∧ t'.1 294 5 = 0 ∧ (s'.1 3 2 = 0 → ∃ D, VDR D ∧ RR 4 D s' ∧ MA (t'.1 300) D) := by
  have h600 := hC.1
  obtain ⟨s1, a1, a2, a3⟩ := wipe_is (s := s)
  obtain ⟨s2, hs2⟩ : ∃ s2, s2 = stI (stI (stI s1 3 2 (0 : Int32)) 3 3 (-1 : Int32)) 3 4 (0 : Int32) := ⟨_, rfl⟩
  have f2 : Fp pC3 s1 s2 := by
    rw [hs2]
    exact ((Fp.st (P := pC3) ⟨rfl, by omega, by omega⟩).tr (Fp.st ⟨rfl, by omega, by omega⟩)).tr (Fp.st ⟨rfl, by omega, by omega⟩)
  have c2 : CTp l T s2 := (hC.fp a2 (fun a k z => by omega)).fp f2 (fun a k z => Or.inl z.1)
  obtain ⟨s3, b1, b2, b3, b4, b5, b6⟩ := c_tok c2 (p := 0) (by rw [hs2, stI_eq]; rfl) (Nat.zero_le _)
  obtain ⟨y0, hy0⟩ : ∃ y0, y0 = stI (stI (stI (stI (stI t 294 7 (t.1 294 5)) 294 5 (0 : Int32)) 294 8 (0 : Int32)) 294 12 (0 : Int32)) 294 13 (-1 : Int32) := ⟨_, rfl⟩
  have g0 : Fp pMr t y0 := by
    rw [hy0]
    exact (((((Fp.st (P := pMr) (Or.inl ⟨rfl, by omega⟩)).tr (Fp.st (Or.inl ⟨rfl, by omega⟩))).tr (Fp.st (Or.inl ⟨rfl, by omega⟩))).tr (Fp.st (Or.inl ⟨rfl, by omega⟩))).tr (Fp.st (Or.inl ⟨rfl, by omega⟩)))
  have y07 : y0.1 294 7 = nI l := by rw [hy0, stI_nk (by omega), stI_nk (by omega), stI_nk (by omega), stI_nk (by omega), stI_eq, h5]
  have y05 : y0.1 294 5 = 0 := by rw [hy0, stI_nk (by omega), stI_nk (by omega), stI_nk (by omega), stI_eq]
  have y08 : y0.1 294 8 = 0 := by rw [hy0, stI_nk (by omega), stI_nk (by omega), stI_eq]
  have y12 : y0.1 294 12 = 0 := by rw [hy0, stI_nk (by omega), stI_eq]
  have y13 : y0.1 294 13 = -1 := by rw [hy0, stI_eq]
  have m0 : MTp l T y0 := ⟨h600, y07, fun i hi => ⟨(hC.2.2 i hi).1, by rw [g0.1 298 i (by unfold pMr; omega)]; exact hT i hi⟩⟩
  obtain ⟨y1, d1, d2, d3⟩ := zero_is (s := y0)
  have m1 : MTp l T y1 := m0.fp d2 (fun a k z => Or.inr (by omega))
  have e1 : ∀ k, y1.1 294 k = y0.1 294 k := fun k => d2.1 294 k (by omega)
  obtain ⟨y2, j1, j2, j3, j4, j5, j6⟩ := m_tok m1 (p := 0) (by rw [e1, y08]; rfl) (Nat.zero_le _)
  have f3 : Fp pCd s s3 := (a2.wid (fun a k z => Or.inr (by omega))).tr ((f2.wid (fun a k z => Or.inl z)).tr (b2.wid (fun a k z => Or.inl (by unfold pC3; omega))))
  have g3 : Fp pMr t y2 := g0.tr ((d2.wid (fun a k z => Or.inr z)).tr (j2.wid (fun a k z => Or.inl (by omega))))
  have gd : GD xs l T s3 y2 := by
    refine ⟨⟨c2.fp b2 (fun a k z => Or.inl z.1), m1.fp j2 (fun a k z => Or.inl (by omega)), oC.fp f3 (fun a k z => by unfold pCd pC3 at z; omega), oM.fp g3 (fun a k z => by unfold pMr at z; omega)⟩, ⟨?_, ?_, ?_⟩, 0, Nat.zero_le _, ⟨b3, j3⟩, ⟨b4, j4⟩, ⟨b5, j5⟩, fun z => ⟨b6 z, j6 z⟩⟩
    · rw [b2.1 3 2 (by omega), hs2, stI_nk (by omega), stI_nk (by omega), stI_eq]
    · rw [j2.1 294 12 (by omega), e1, y12]
    · rw [b2.1 3 3 (by omega), hs2, stI_nk (by omega), stI_eq, j2.1 294 13 (by omega), e1, y13]
  have s34 : ∀ i, i < 9 → s3.1 4 i = nI 0 := fun i hi => by rw [b2.1 4 i (by omega), f2.1 4 i (fun z => by unfold pC3 at z; omega), a3 i hi]; rfl
  have y23 : ∀ i, i < 79 → y2.1 300 i = nI 0 := fun i hi => by rw [j2.1 300 i (by omega), d3 i hi]; rfl
  obtain ⟨s', t', k1, k2, k3, k4, k5, k6⟩ := loop_read 17 (fun _ _ => 0) s3 y2 0 gd ⟨⟨⟨by decide, by decide, by decide, by decide, by decide, by decide, by decide, by decide, by decide⟩, fun b hb => absurd hb (Nat.not_lt_zero _), fun b hb => absurd hb (Nat.not_lt_zero _), fun b hb => absurd hb (Nat.not_lt_zero _), fun b hb => absurd hb (Nat.not_lt_zero _), fun _ => ⟨rfl, rfl, rfl, rfl, rfl, rfl, rfl, rfl⟩⟩, by decide, rfl⟩ ⟨⟨s34 0 (by omega), s34 1 (by omega), s34 2 (by omega), s34 3 (by omega), s34 4 (by omega), s34 5 (by omega), s34 6 (by omega), s34 7 (by omega), s34 8 (by omega)⟩, fun b hb => absurd hb (Nat.not_lt_zero _), fun b hb => absurd hb (Nat.not_lt_zero _), fun b hb => absurd hb (Nat.not_lt_zero _), fun b hb => absurd hb (Nat.not_lt_zero _)⟩ ⟨⟨y23 0 (by omega), y23 1 (by omega), y23 2 (by omega), y23 3 (by omega), y23 4 (by omega), y23 5 (by omega), y23 6 (by omega), y23 7 (by omega), y23 8 (by omega)⟩, fun b hb => absurd hb (Nat.not_lt_zero _), fun b hb => absurd hb (Nat.not_lt_zero _), fun b hb => absurd hb (Nat.not_lt_zero _), fun b hb => absurd hb (Nat.not_lt_zero _)⟩ (by decide) (by decide) FU FU (FU_gt (by omega)) (FU_gt (by omega))
  have hgood : gM_good t' = some (bz (decide (s'.1 3 2 = 0))) := by
    rcases k5 with g | g
    · rw [gd_good g, decide_eq_true g.2.1.1]; rfl
    · rw [bd_good g, decide_eq_false g.2.2.1]; rfl
  refine ⟨s', t', y0, y1, y2, ?_, ⟨hy0, d1, j1, k2, hgood⟩, f3.tr k3, g3.tr (k4.wid (fun a k z => by unfold pMd pM3 at z; unfold pMr; omega)), ?_, ?_, k6⟩
  · unfold gD_readTape
    rw [a1, Option.bind_some, Option.bind_some, ← hs2, b1, Option.bind_some, show wh FU gD_readTape_h28 ((0 : Int32), s3) = some s' from k1, Option.bind_some]
    by_cases e : s'.1 3 2 = 0
    · rw [if_pos e, decide_eq_true e, Option.bind_some, if_pos (Or.inr rfl)]; rfl
    · rw [if_neg e, decide_eq_false e, Option.bind_some, if_pos (Or.inl rfl)]; rfl
  · rcases k5 with g | g
    · exact ⟨by rw [g.2.1.1, g.2.1.2.1], g.2.1.2.2⟩
    · exact ⟨g.2.1, g.2.2.2⟩
  · rw [k4.1 294 5 (fun z => by unfold pMd pM3 at z; omega), j2.1 294 5 (by omega), e1, y05]
end READ
