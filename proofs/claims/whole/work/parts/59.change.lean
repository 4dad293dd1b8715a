/-! CHANGES: what a call may change that tells a race anew -/
def pZq (a k : Nat) : Prop := pK a k ∨ (16 ≤ a ∧ a ≤ 213) ∨ (a = 214 ∧ k = 2) ∨ (a = 225 ∧ k = 2) ∨ a = 295
def KZ (s s' : mT) : Prop := (∀ a k, ¬ pZq a k → s'.1 a k = s.1 a k) ∧ (∀ a, a ≠ 294 → a ≠ 316 → s'.2 a = s.2 a)
def pM (a k : Nat) : Prop := a = 295 ∨ (299 ≤ a ∧ a ≤ 312) ∨ (a = 294 ∧ k ≠ 5 ∧ k ≠ 12 ∧ k ≠ 13)
def SA (D : RD) (s : mT) : Prop := RR 16 D s ∧ PR 28 D (T0 D) s ∧ RW 28 D (T0 D) (D 0 0) s ∧ s.1 214 2 = 1 ∧ s.1 225 2 = -1
section CHG
variable {n w o b a k m : Nat} {s s' s'' : mT} {D D' : RD} {xs : Nat → Int32}
theorem KZ.rfl' : KZ s s := ⟨fun _ _ _ => rfl, fun _ _ _ => rfl⟩
theorem KZ.tr (h1 : KZ s s') (h2 : KZ s' s'') : KZ s s'' := ⟨fun a k h => (h2.1 a k h).trans (h1.1 a k h), fun a h1' h2' => (h2.2 a h1' h2').trans (h1.2 a h1' h2')⟩
theorem KZ.of {P : Nat → Nat → Prop} (h : Fp P s s') (hw : ∀ a k, P a k → pZq a k) : KZ s s' := ⟨fun a k hn => h.1 a k (fun z => hn (hw a k z)), fun a _ _ => by rw [h.2]⟩
theorem KZ.ofr {lo hi : Nat} (h : Fr lo hi s s') (hw : ∀ a k, lo ≤ a → a < hi → pZq a k) : KZ s s' := ⟨fun a k hn => congrFun (h.1 a (by
  by_cases h1 : lo ≤ a ∧ a < hi
  · exact absurd (hw a k h1.1 h1.2) hn
  · omega)) k, fun a _ _ => by rw [h.2]⟩
theorem KZ.st {x : Int32} (h : pZq a k) : KZ s (stI s a k x) := ⟨fun b j hb => by
  rw [stI_at, if_neg]
  rintro ⟨rfl, rfl⟩
  exact hb h, fun _ _ _ => rfl⟩
theorem KZ.c (h : KZ s s') (ha : ∀ k, ¬ pZq a k) : s'.1 a = s.1 a := funext (fun k => h.1 a k (ha k))
theorem pM_Z (a k : Nat) (h : pM a k) : pZq a k := by unfold pM at h; unfold pZq pK; omega
theorem SA.cg (h : SA D s) (hV : VD D) (hf : ∀ a, a < 294 → s'.1 a = s.1 a) : SA D s' := ⟨h.1.cg (fun a _ _ => hf a (by omega)), h.2.1.cg hV (fun a _ _ => hf a (by omega)), h.2.2.1.cg hV.1.1 (fun a _ _ => hf a (by omega)), by rw [hf 214 (by omega)]; exact h.2.2.2.1, by rw [hf 225 (by omega)]; exact h.2.2.2.2⟩
theorem sa_is (hV : VD D) (hR : RR 16 D s) : ∃ s', gL_sailAgain s = some s' ∧ SA D s' ∧ KZ s s' ∧ ∀ a, (226 ≤ a ∨ a < 28) → s'.1 a = s.1 a := by
  obtain ⟨s1, f1, f2, f3⟩ := prepW_is (c := 28) (v := (-1 : Int32)) (ex := fun _ => false) (Or.inl rfl) hV hR (fun k hk => ⟨fun z => absurd z (m1_n (by have := hV.1.2.2.2.2.2.2.2.1; omega)), fun z => by cases z⟩)
  have r1 : RR 16 D s1 := hR.cg (fun a h1 h2 => f2.1 a (by omega))
  obtain ⟨s2, g1, g2, g3⟩ := sail_is (c := 28) (M := D 0 0) (Or.inl rfl) hV r1 f3 hV.1.2.1 (Nat.le_refl _)
  have r2 : RR 16 D s2 := r1.cg (fun a h1 h2 => g2.1 a (by omega))
  have p2 : PR 28 D (T0 D) s2 := PR.cg f3 hV (fun a h1 h2 => g2.1 a (by omega))
  have hf : ∀ a, a < 214 → (stI (stI s2 214 2 (1 : Int32)) 225 2 (-1 : Int32)).1 a = s2.1 a := fun a ha => (stI_fn (by omega)).trans (stI_fn (by omega))
  refine ⟨stI (stI s2 214 2 (1 : Int32)) 225 2 (-1 : Int32), ?_, ⟨r2.cg (fun a _ _ => hf a (by omega)), p2.cg hV (fun a _ _ => hf a (by omega)), RW.cg g3 hV.1.1 (fun a _ _ => hf a (by omega)), by rw [stI_ne (by omega), stI_eq], stI_eq⟩, ?_, fun a ha => ?_⟩
  · unfold gL_sailAgain gC_prepare
    rw [f1, Option.bind_some, Option.bind_some, r1.1.1, g1, Option.bind_some]
  · exact (KZ.ofr f2 (fun a k _ _ => by unfold pZq; omega)).tr ((KZ.ofr g2 (fun a k _ _ => by unfold pZq; omega)).tr ((KZ.st (by unfold pZq; omega)).tr (KZ.st (by unfold pZq; omega))))
  · rw [stI_fn (by omega), stI_fn (by omega), g2.1 a (by omega), f2.1 a (by omega)]
theorem IV.fin (h : IV xs D s) (z : KZ s s') (hV : VD D') (sa : SA D' s') (hM : MA (s'.1 295) D') : IV xs D' s' := by
  obtain ⟨-, -, i6, i7, i8, i9, -, -, i12⟩ := h
  have eXB : XB = 1000000 := rfl
  have e5 : s'.1 294 5 = s.1 294 5 := z.1 294 5 (by unfold pZq pK; omega)
  have e12 : s'.1 294 12 = s.1 294 12 := z.1 294 12 (by unfold pZq pK; omega)
  have e13 : s'.1 294 13 = s.1 294 13 := z.1 294 13 (by unfold pZq pK; omega)
  have e : ∀ a, a ≠ 294 → (a < 16 ∨ 247 ≤ a) → a ≠ 295 → (a < 299 ∨ 312 < a) → s'.1 a = s.1 a := fun a h1 h2 h3 h4 => z.c (fun k => by unfold pZq pK; omega)
  refine ⟨⟨hV, sa.1, hM⟩, ⟨sa.2.1, sa.2.2.1⟩, ?_, ?_, fun k hk => ?_, fun l hl => ?_, Or.inl sa.2.2.2.1, Or.inl sa.2.2.2.2, fun a ha => ?_⟩
  · unfold TPI
    rw [e5, e 1 (by omega) (by omega) (by omega) (by omega), e 2 (by omega) (by omega) (by omega) (by omega), e 298 (by omega) (by omega) (by omega) (by omega)]
    exact i6
  · rw [e12, e13, e 3 (by omega) (by omega) (by omega) (by omega)]; exact i7
  · rcases i8 k hk with h | ⟨h1, h2, D', h3, h4, h5⟩
    · left
      rw [e 248 (by omega) (by omega) (by omega) (by omega), e 297 (by omega) (by omega) (by omega) (by omega)]; exact h
    · right
      rw [e 248 (by omega) (by omega) (by omega) (by omega), e 297 (by omega) (by omega) (by omega) (by omega), e 296 (by omega) (by omega) (by omega) (by omega)]
      exact ⟨h1, h2, D', h3, h4.cg (fun a z1 z2 => e a (by omega) (by omega) (by omega) (by omega)), h5⟩
  · have := i9 l hl
    unfold SLI at this ⊢
    rw [e (286 + 2 * l) (by omega) (by omega) (by omega) (by omega), e 313 (by omega) (by omega) (by omega) (by omega), e 314 (by omega) (by omega) (by omega) (by omega), z.2 (287 + 2 * l) (by omega) (by omega), z.2 315 (by omega) (by omega)]
    exact this
  · rw [e a (by omega) (by omega) (by omega) (by omega)]; exact i12 a ha
theorem AS_err {R : Type} {A B : mT → Option (R × mT)} {r : R} (h : IV xs D s) (h1 : A s = some (r, s)) (h2 : B s = some (r, s)) : ∃ r s1 s2 D', A s = some (r, s1) ∧ (∀ a, XB ≤ a → s1.1 a = s.1 a) ∧ B s1 = some (r, s2) ∧ IV xs D' s2 := ⟨r, s, s, D, h1, fun _ _ => rfl, h2, h⟩
/-- the call changes the race to D' and both go on -/
theorem AS_chg {R : Type} {A B : mT → Option (R × mT)} {r : R} {t : mT} (h : IV xs D s) (hV : VD D') (zt : KZ s t) (et : t.1 295 = s.1 295) (hR : RR 16 D' t) (hA : ∀ s1, gL_sailAgain t = some s1 → s1.1 16 = t.1 16 → A s = some (r, s1)) (hB : ∀ s1, (∀ a, 226 ≤ a → s1.1 a = t.1 a) → ∃ s2, B s1 = some (r, s2) ∧ Fp pM s1 s2 ∧ MA (s2.1 295) D') : ∃ r s1 s2 D', A s = some (r, s1) ∧ (∀ a, XB ≤ a → s1.1 a = s.1 a) ∧ B s1 = some (r, s2) ∧ IV xs D' s2 := by
  obtain ⟨s1, f1, f2, f3, f4⟩ := sa_is hV hR
  have eXB : XB = 1000000 := rfl
  obtain ⟨s2, g1, g2, g3⟩ := hB s1 (fun a ha => f4 a (by omega))
  refine ⟨r, s1, s2, D', hA s1 f1 (f4 16 (by omega)), fun a ha => ?_, g1, ?_⟩
  · rw [f4 a (by omega)]
    exact zt.c (fun k => by unfold pZq pK; omega)
  · exact h.fin (zt.tr (f3.tr (KZ.of g2 pM_Z))) hV (f2.cg hV (fun a ha => g2.fn (fun k => by unfold pM; omega))) g3
abbrev dAc (D : RD) (v : Nat) : RD := fun k => if k = 8 then fun _ => v else D k
theorem VD8 (hV : VD D) {v : Nat} (hv : v ≤ D 8 0) : VD (dAc D v) := by
  obtain ⟨⟨v1, v2, v3, v4, v5, v6, v7, v8, v9⟩, vB, vW, vS, vA, v0⟩ := hV
  refine ⟨⟨v1, v2, v3, v4, v5, v6, v7, v8, Nat.le_trans hv v9⟩, vB, vW, vS, fun i hi => vA i (Nat.lt_of_lt_of_le hi hv), fun z => ?_⟩
  obtain ⟨z1, z2, z3, z4, z5, z6, z7, z8⟩ := v0 z
  exact ⟨z1, z2, z3, z4, z5, z6, z7, by show v = 0; omega⟩
theorem RR8 (hR : RR 16 D s) {v : Nat} (hv : v ≤ D 8 0) : RR 16 (dAc D v) (stI s 16 8 (nI v)) := by
  obtain ⟨⟨h1, h2, h3, h4, h5, h6, h7, h8, h9⟩, hB, hW, hS, hA⟩ := hR
  refine ⟨⟨?_, ?_, ?_, ?_, ?_, ?_, ?_, ?_, stI_eq⟩, fun b hb => ?_, fun w hw => ?_, fun k hk => ?_, fun i hi => ?_⟩
  · rw [stI_nk (by omega)]; exact h1
  · rw [stI_nk (by omega)]; exact h2
  · rw [stI_nk (by omega)]; exact h3
  · rw [stI_nk (by omega)]; exact h4
  · rw [stI_nk (by omega)]; exact h5
  · rw [stI_nk (by omega)]; exact h6
  · rw [stI_nk (by omega)]; exact h7
  · rw [stI_nk (by omega)]; exact h8
  · rw [stI_ne (by omega), stI_ne (by omega)]; exact hB b hb
  · rw [stI_ne (by omega), stI_ne (by omega), stI_ne (by omega), stI_ne (by omega)]; exact hW w hw
  · rw [stI_ne (by omega), stI_ne (by omega)]; exact hS k hk
  · rw [stI_ne (by omega), stI_ne (by omega), stI_ne (by omega)]; exact hA i (Nat.lt_of_lt_of_le hi hv)
theorem MA8 (hM : MA (s.1 295) D) (hV : VD D) {v : Nat} (hv : v ≤ D 8 0) : MA ((stI s 295 7 (nI v)).1 295) (dAc D v) := by
  obtain ⟨⟨h1, h2, h3, h4, h5, h6, h7, h8, h9⟩, hB, hW, hS, hA⟩ := hM
  have hd := hV.1
  refine ⟨⟨?_, ?_, ?_, ?_, ?_, ?_, ?_, stI_eq, ?_⟩, fun b hb => ?_, fun w hw => ?_, fun k hk => ?_, fun i hi => ?_⟩
  · rw [stI_nk (by omega)]; exact h1
  · rw [stI_nk (by omega)]; exact h2
  · rw [stI_nk (by omega)]; exact h3
  · rw [stI_nk (by omega)]; exact h4
  · rw [stI_nk (by omega)]; exact h5
  · rw [stI_nk (by omega)]; exact h6
  · rw [stI_nk (by omega)]; exact h7
  · rw [stI_nk (by omega)]; exact h9
  · rw [stI_nk (by omega), stI_nk (by omega)]; exact hB b hb
  · rw [stI_nk (by omega), stI_nk (by omega), stI_nk (by omega), stI_nk (by omega)]; exact hW w hw
  · rw [stI_nk (by omega), stI_nk (by omega)]; exact hS k hk
  · rw [stI_nk (by omega)]; exact hA i (Nat.lt_of_lt_of_le hi hv)
theorem mR1 (hM : MA (s.1 295) D) (hV : VD D) : gM_isRace s = some (bz (decide (0 < D 4 0))) := m_isRace hM.1.2.2.2.2.2.2.2.2 (by have := hV.1.2.2.2.2.1; omega)
theorem mA1 (hM : MA (s.1 295) D) : rdI (s.1 295) 79 (7 : Int32) = some (nI (D 8 0)) := (rd_n (k := 7) (by omega) (by omega)).trans (congrArg some hM.1.2.2.2.2.2.2.2.1)
theorem a_undo : AS gL_undo gM_undo := fun xs D s h => by
  have hd := h.V.1
  by_cases g : 0 < D 4 0
  · by_cases g0 : D 8 0 = 0
    · refine AS_err (r := -5) h ?_ ?_
      · unfold gL_undo
        rw [h.ex, Option.bind_some, bz_if, if_pos g, h.R.1.2.2.2.2.2.2.2.2, g0, show (1 : Int32) = nI 1 from rfl, if_neg (nle (by omega) (by omega) (by omega))]
      · unfold gM_undo
        rw [h.mR, Option.bind_some, bz_if, if_pos g, mA1 h.M, Option.bind_some, g0, if_pos (show nI 0 = (0 : Int32) from rfl)]
    · refine AS_chg (D' := dAc D (D 8 0 - 1)) (r := nI (D 8 0 - 1)) (t := stI s 16 8 (nI (D 8 0 - 1))) h (VD8 h.V (by omega)) (KZ.st (by unfold pZq; omega)) (stI_fn (by omega)) (RR8 h.R (by omega)) (fun s1 f1 f2 => ?_) (fun s1 hs => ?_)
      · unfold gL_undo
        rw [h.ex, Option.bind_some, bz_if, if_pos g, h.R.1.2.2.2.2.2.2.2.2, show (1 : Int32) = nI 1 from rfl, if_pos (nI_le (by omega) (by omega)), pk_sub (by omega), f1, Option.bind_some, f2, stI_eq]
      · have m1 : MA (s1.1 295) D := by rw [hs 295 (by omega), stI_fn (by omega)]; exact h.M
        refine ⟨stI s1 295 7 (nI (D 8 0 - 1)), ?_, Fp.st (Or.inl rfl), MA8 m1 h.V (by omega)⟩
        unfold gM_undo
        rw [mR1 m1 h.V, Option.bind_some, bz_if, if_pos g, mA1 m1, Option.bind_some, if_neg (show ¬ nI (D 8 0) = (0 : Int32) from fun z => g0 ((nI_eq (b := 0) (by omega) (by omega)).mp z)), Option.bind_some, show (1 : Int32) = nI 1 from rfl, pk_sub (by omega), show (7 : Int32) = nI 7 from rfl, wr_n (by omega) (by omega), Option.bind_some, rd_n (by omega) (by omega), Option.bind_some, stI_eq]
  · refine AS_err (r := -2) h ?_ ?_
    · unfold gL_undo
      rw [h.ex, Option.bind_some, bz_if, if_neg g]
    · unfold gM_undo
      rw [h.mR, Option.bind_some, bz_if, if_neg g]
theorem a_anew : AS gL_anew gM_anew := fun xs D s h => by
  have hd := h.V.1
  by_cases g : 0 < D 4 0
  · refine AS_chg (D' := dAc D 0) (r := nI (D 8 0)) (t := stI s 16 8 (nI 0)) h (VD8 h.V (by omega)) (KZ.st (by unfold pZq; omega)) (stI_fn (by omega)) (RR8 h.R (by omega)) (fun s1 f1 f2 => ?_) (fun s1 hs => ?_)
    · unfold gL_anew
      rw [h.ex, Option.bind_some, bz_if, if_pos g, h.R.1.2.2.2.2.2.2.2.2, show (0 : Int32) = nI 0 from rfl, f1, Option.bind_some]
    · have m1 : MA (s1.1 295) D := by rw [hs 295 (by omega), stI_fn (by omega)]; exact h.M
      refine ⟨stI s1 295 7 (nI 0), ?_, Fp.st (Or.inl rfl), MA8 m1 h.V (by omega)⟩
      unfold gM_anew
      rw [mR1 m1 h.V, Option.bind_some, bz_if, if_pos g, mA1 m1, Option.bind_some, show (7 : Int32) = nI 7 from rfl, wr_n (by omega) (by omega), Option.bind_some]
      rfl
  · refine AS_err (r := -2) h ?_ ?_
    · unfold gL_anew
      rw [h.ex, Option.bind_some, bz_if, if_neg g]
    · unfold gM_anew
      rw [h.mR, Option.bind_some, bz_if, if_neg g]
end CHG
