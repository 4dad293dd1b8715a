/-! READING: race -/
section RACE
variable {l p q n k i a b : Nat} {T : Nat → Nat} {s s' t t' : mT} {xs : Nat → Int32} {D : RD}
theorem IV.rd0 (h : IV xs D s) (hf : ∀ a, a ≠ 1 → ¬ (3 ≤ a ∧ a ≤ 15) → a ≠ 294 → a ≠ 300 → s'.1 a = s.1 a) (h2 : s'.2 = s.2) (hT : TPI s') (hF : s'.1 3 2 = s'.1 294 12 ∧ s'.1 3 3 = s'.1 294 13) : IV xs D s' := by
  obtain ⟨⟨i1, i2, i3⟩, ⟨i4, i5⟩, i6, i7, i8, i9, i10, i11, i12⟩ := h
  have eXB : XB = 1000000 := rfl
  refine ⟨⟨i1, i2.cg (fun a h1 h2 => hf a (by omega) (by omega) (by omega) (by omega)), ?_⟩, ⟨i4.cg i1 (fun a h1 h2 => hf a (by omega) (by omega) (by omega) (by omega)), i5.cg i1.1.1 (fun a h1 h2 => hf a (by omega) (by omega) (by omega) (by omega))⟩, hT, hF, fun k hk => ?_, fun l hl => ?_, ?_, ?_, fun a ha => ?_⟩
  · rw [hf 295 (by omega) (by omega) (by omega) (by omega)]; exact i3
  · rcases i8 k hk with h | ⟨h1, h2, D', h3, h4, h5⟩
    · left
      rw [hf 248 (by omega) (by omega) (by omega) (by omega), hf 297 (by omega) (by omega) (by omega) (by omega)]; exact h
    · right
      rw [hf 248 (by omega) (by omega) (by omega) (by omega), hf 297 (by omega) (by omega) (by omega) (by omega), hf 296 (by omega) (by omega) (by omega) (by omega)]
      exact ⟨h1, h2, D', h3, h4.cg (fun a z1 z2 => hf a (by omega) (by omega) (by omega) (by omega)), h5⟩
  · exact (i9 l hl).cg (hf _ (by omega) (by omega) (by omega) (by omega)) (by rw [hf 313 (by omega) (by omega) (by omega) (by omega)]) (by rw [hf 314 (by omega) (by omega) (by omega) (by omega)]) (fun i hi => by rw [h2]; exact ⟨rfl, rfl⟩)
  · unfold SVI at i10 ⊢
    rw [hf 214 (by omega) (by omega) (by omega) (by omega), hf 215 (by omega) (by omega) (by omega) (by omega), hf 216 (by omega) (by omega) (by omega) (by omega), hf 217 (by omega) (by omega) (by omega) (by omega), hf 218 (by omega) (by omega) (by omega) (by omega)]
    rcases i10 with h | ⟨h1, h2⟩
    · exact Or.inl h
    · refine Or.inr ⟨h1, fun b hb => ?_⟩
      have hB := i1.1.2.2.2.2.2.1
      rw [hf (220 + b) (by omega) (by omega) (by omega) (by omega)]
      exact h2 b hb
  · unfold SNI at i11 ⊢
    rw [hf 225 (by omega) (by omega) (by omega) (by omega), h2]
    rcases i11 with h | ⟨l, n, hl, h1, h2, h3, h4, h5⟩
    · exact Or.inl h
    · refine Or.inr ⟨l, n, hl, h1, h2, ?_⟩
      have hW := i1.1.2.2.2.2.2.2.1
      rw [hf (286 + 2 * l) (by omega) (by omega) (by omega) (by omega)]
      refine ⟨h3, h4, fun w b hw hb => ?_⟩
      rw [hf (227 + w) (by omega) (by omega) (by omega) (by omega)]
      exact h5 w b hw hb
  · rw [hf a (by omega) (by omega) (by omega) (by omega)]; exact i12 a ha
theorem take_is : ∃ s', wh FU gM_race_h86 ((0 : Int32), s) = some s' ∧ Fp (fun a _ => a = 295) s s' ∧ ∀ i, i < 79 → s'.1 295 i = s.1 300 i := by
  have := wh_cnt (f := gM_race_h86) (fun j t => Fp (fun a _ => a = 295) s t ∧ ∀ i, i < j → t.1 295 i = s.1 300 i) (fun t => Fp (fun a _ => a = 295) s t ∧ ∀ i, i < 79 → t.1 295 i = s.1 300 i) 0 79 (by omega) (fun j _ hj t hI => by
    obtain ⟨i1, i2⟩ := hI
    refine ⟨stI t 295 j (s.1 300 j), ?_, i1.tr (Fp.st rfl), fun i hi => ?_⟩
    · unfold gM_race_h86
      dsimp only
      rw [show (79 : Int32) = nI 79 from rfl, if_neg (nle (by omega) (by omega) (by omega)), rd_n (by omega) (by omega), Option.bind_some, wr_n (by omega) (by omega), Option.bind_some, nI_1, i1.1 300 j (by omega)]
    · by_cases e : i = j
      · subst e; exact stI_eq
      · rw [stI_nk e]; exact i2 i (by omega)) (fun t hI => ⟨t, rfl, hI⟩) (s := s) ⟨Fp.rfl', fun i hi => absurd hi (Nat.not_lt_zero _)⟩ (i := (0 : Int32)) rfl FU (FU_gt (by omega))
  exact this
theorem a_race : AS gL_race gM_race := fun xs D s h => by
  have eXB : XB = 1000000 := rfl
  obtain ⟨l, T, hl, h1, h2, h3⟩ := h.2.2.1
  have hC : CTp l T s := ⟨hl, h1, fun i hi => ⟨(h3 i hi).1, (h3 i hi).2.1⟩⟩
  have oC : OUT xs s := h.2.2.2.2.2.2.2.2
  obtain ⟨s1, tq, zq0, zq1, zq2, c1, _, c3, _, _, _, c7⟩ := race_read (xs := xs) (t := s) hC oC h2 (fun i hi => (h3 i hi).2.2) oC
  obtain ⟨u, hu⟩ : ∃ u, u = stI s1 1 1 (0 : Int32) := ⟨_, rfl⟩
  have uf : ∀ a, a ≠ 1 → ¬ (3 ≤ a ∧ a ≤ 15) → u.1 a = s.1 a := fun a ha hb => by
    rw [hu, stI_fn ha]
    exact c3.fn (fun k z => by unfold pCd pC3 at z; omega)
  have u2 : u.2 = s.2 := by rw [hu]; exact c3.2
  have u3 : ∀ k, u.1 3 k = s1.1 3 k := fun k => by rw [hu, stI_ne (by omega)]
  have u11 : u.1 1 1 = 0 := by rw [hu, stI_eq]
  by_cases e : s1.1 3 2 = 0
  · obtain ⟨D1, v1, v2, -⟩ := c7 e
    have ru : RR 4 D1 u := v2.cg (fun a h1 h2 => by rw [hu, stI_fn (by omega)])
    obtain ⟨s2, x1, x2, x3⟩ := copy_is (v0 := 16) (v1 := 4) v1.1 ru (by omega)
    obtain ⟨s3, y1, y2, y3, y4⟩ := sa_is v1.1 x3
    have f3 : ∀ a, (a < 16 ∨ 226 ≤ a) → s3.1 a = u.1 a := fun a ha => by rw [y4 a (by omega), x2.1 a (by omega)]
    have s32 : ∀ a, a ≠ 294 → a ≠ 316 → s3.2 a = s.2 a := fun a h1 h2 => by rw [y3.2 a h1 h2, x2.2, u2]
    have f4 : ∀ a, 226 ≤ a → s3.1 a = s.1 a := fun a ha => by rw [f3 a (by omega), uf a (by omega) (by omega)]
    obtain ⟨s1', t', w0, w1, w2, d1, ⟨d21, d22, d23, d24, d25⟩, d3, d4, ⟨d5, d5'⟩, d6, d7⟩ := race_read (xs := xs) (s := s) (t := s3) hC oC (by rw [f4 294 (by omega)]; exact h2) (fun i hi => by rw [f4 298 (by omega)]; exact (h3 i hi).2.2) (fun a ha => by rw [f4 a (by omega)]; exact oC a ha)
    have es : s1' = s1 := by
      have := Option.some.inj (d1.symm.trans c1)
      exact congrArg Prod.snd this
    subst es
    obtain ⟨D2, g1, g2, g3⟩ := d7 e
    have ru2 : RR 4 D2 u := g2.cg (fun a h1 h2 => by rw [hu, stI_fn (by omega)])
    obtain ⟨s2', x1', x2', x3'⟩ := copy_is (v0 := 16) (v1 := 4) g1.1 ru2 (by omega)
    have e2 : s2' = s2 := Option.some.inj (x1'.symm.trans x1)
    subst e2
    obtain ⟨s3', y1', y2', y3', y4'⟩ := sa_is g1.1 x3'
    have e3 : s3' = s3 := Option.some.inj (y1'.symm.trans y1)
    subst e3
    obtain ⟨x, k1, k2, k3⟩ := take_is (s := t')
    have hM : MA (x.1 295) D2 := g3.cg g1.1 (fun i hi => k3 i hi)
    have fx : ∀ a k, ¬ pMr a k → a ≠ 295 → x.1 a k = s3'.1 a k := fun a k h1 h2 => by rw [k2.1 a k h2, d4.1 a k h1]
    obtain ⟨sv, hsv⟩ : ∃ sv : mT, sv = (fun a k => if a = 1 ∨ (3 ≤ a ∧ a ≤ 15) ∨ a = 294 ∨ a = 300 then x.1 a k else s.1 a k, s.2) := ⟨_, rfl⟩
    have sv1 : ∀ a k, (a = 1 ∨ (3 ≤ a ∧ a ≤ 15) ∨ a = 294 ∨ a = 300) → sv.1 a k = x.1 a k := fun a k ha => by
      rw [hsv]
      exact if_pos ha
    have sv2 : ∀ a k, ¬ (a = 1 ∨ (3 ≤ a ∧ a ≤ 15) ∨ a = 294 ∨ a = 300) → sv.1 a k = s.1 a k := fun a k ha => by
      rw [hsv]
      exact if_neg ha
    have x11 : x.1 1 1 = nI 0 := by rw [fx 1 1 (by unfold pMr; omega) (by omega), f3 1 (by omega), u11]; rfl
    have x5 : x.1 294 5 = nI 0 := by rw [k2.1 294 5 (by omega), d6]; rfl
    have x32 : x.1 3 2 = x.1 294 12 := by rw [fx 3 2 (by unfold pMr; omega) (by omega), f3 3 (by omega), u3, k2.1 294 12 (by omega)]; exact d5
    have x33 : x.1 3 3 = x.1 294 13 := by rw [fx 3 3 (by unfold pMr; omega) (by omega), f3 3 (by omega), u3, k2.1 294 13 (by omega)]; exact d5'
    have iv : IV xs D sv := h.rd0 (fun a h1 h2 h3 h4 => funext (fun k => sv2 a k (by omega))) (by rw [hsv]) ⟨0, fun _ => 0, by omega, by rw [sv1 1 1 (by omega)]; exact x11, by rw [sv1 294 5 (by omega)]; exact x5, fun i hi => absurd hi (Nat.not_lt_zero _)⟩ ⟨by rw [sv1 3 2 (by omega), sv1 294 12 (by omega)]; exact x32, by rw [sv1 3 3 (by omega), sv1 294 13 (by omega)]; exact x33⟩
    have kz : KZ sv x := by
      refine ⟨fun a k hn => ?_, fun a h1 h2 => ?_⟩
      · by_cases ha : a = 1 ∨ (3 ≤ a ∧ a ≤ 15) ∨ a = 294 ∨ a = 300
        · rw [sv1 a k ha]
        · have hn' := hn
          unfold pZq at hn'
          rw [sv2 a k ha, fx a k (by unfold pMr; omega) (by omega), y3'.1 a k hn, x2'.1 a (by omega), uf a (by omega) (by omega)]
      · rw [k2.2, d4.2, s32 a h1 h2, hsv]
    refine ⟨nI (D2 4 0), s3', x, D2, ?_, fun a ha => f4 a (by omega), ?_, iv.fin kz g1.1 (y2'.cg g1.1 (fun a ha => funext (fun k => fx a k (by unfold pMr; omega) (by omega)))) hM⟩
    · unfold gL_race
      rw [c1, Option.bind_some]
      dsimp only
      rw [decide_eq_true e, bz_t, if_neg (by decide), ← hu, x1, Option.bind_some, y1, Option.bind_some, y2'.1.1.2.2.2.2.1]
    · unfold gM_race
      rw [Option.bind_some, ← d21, d22, Option.bind_some, d23, Option.bind_some, d24, Option.bind_some, d25, Option.bind_some, decide_eq_true e, bz_t, if_neg (by decide), k1, Option.bind_some, show (8 : Int32) = nI 8 from rfl, rd_n (by omega) (by omega), Option.bind_some, hM.1.2.2.2.2.2.2.2.2]
  · have f4 : ∀ a, 226 ≤ a → u.1 a = s.1 a := fun a ha => uf a (by omega) (by omega)
    obtain ⟨s1', t', w0, w1, w2, d1, ⟨d21, d22, d23, d24, d25⟩, d3, d4, ⟨d5, d5'⟩, d6, d7⟩ := race_read (xs := xs) (s := s) (t := u) hC oC (by rw [f4 294 (by omega)]; exact h2) (fun i hi => by rw [f4 298 (by omega)]; exact (h3 i hi).2.2) (fun a ha => by rw [f4 a (by omega)]; exact oC a ha)
    have es : s1' = s1 := by
      have := Option.some.inj (d1.symm.trans c1)
      exact congrArg Prod.snd this
    subst es
    have ft : ∀ a, a ≠ 294 → a ≠ 300 → t'.1 a = u.1 a := fun a h1 h2 => d4.fn (fun k z => by unfold pMr at z; omega)
    refine ⟨-4, u, t', D, ?_, fun a ha => f4 a (by omega), ?_, h.rd0 (fun a h1 h2 h3 h4 => by rw [ft a h3 h4, uf a h1 h2]) (by rw [d4.2, u2]) ⟨0, fun _ => 0, by omega, by rw [ft 1 (by omega) (by omega), u11]; rfl, by rw [d6]; rfl, fun i hi => absurd hi (Nat.not_lt_zero _)⟩ ⟨by rw [ft 3 (by omega) (by omega), u3]; exact d5, by rw [ft 3 (by omega) (by omega), u3]; exact d5'⟩⟩
    · unfold gL_race
      rw [c1, Option.bind_some]
      dsimp only
      rw [decide_eq_false e, bz_f, if_pos rfl, ← hu]
    · unfold gM_race
      rw [Option.bind_some, ← d21, d22, Option.bind_some, d23, Option.bind_some, d24, Option.bind_some, d25, Option.bind_some, decide_eq_false e, bz_f, if_pos rfl]
end RACE
