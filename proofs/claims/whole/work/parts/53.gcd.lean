/-! FRACTIONS: the common divisor, both ways -/
theorem gcd_st (x y : Nat) : Nat.gcd x y = Nat.gcd y (x % y) := by
  rw [Nat.gcd_comm x y, Nat.gcd_rec y x, Nat.gcd_comm]
theorem mod_half {x y : Nat} (h : y ≤ x) (h0 : 0 < y) : 2 * (x % y) < x := by
  have q := Nat.div_pos h h0
  have e := Nat.div_add_mod x y
  have l := Nat.mod_lt x h0
  have m := Nat.mul_le_mul_left y q
  omega
theorem lc_0 {y : Nat} (h : y < 2 ^ 63) : (lg_cmp (lN y) (0 : Int64) = 0) ↔ y = 0 := by
  rw [lg_cmp_eq]
  exact pk_lEQ (b := 0) h (by decide)
theorem l0_ne {y : Nat} (h : y < 2 ^ 63) (h0 : 0 < y) : ¬ lN y = 0 := fun z => by
  have := (pk_lEQ (b := 0) h (by decide)).mp z
  omega
section GC
variable {s : mT}
theorem c_gcd : ∀ (m x y i fuel : Nat), y < 2 ^ m → x < 2 ^ 63 → y < 2 ^ 63 → i + 2 * m + 1 ≤ 100 → 2 * m + 1 < fuel → wh fuel (gL_commonDivisor_h9 s) (lN x, lN y, nI i) = some (lN (Nat.gcd x y))
  | 0, x, y, i, fuel, h1, h2, h3, h4, h5 => by
    obtain ⟨j, rfl⟩ : ∃ j, fuel = j + 1 := ⟨fuel - 1, by omega⟩
    obtain rfl : y = 0 := by omega
    unfold wh gL_commonDivisor_h9
    dsimp only
    rw [show (100 : Int32) = nI 100 from rfl, if_neg (nle (by omega) (by omega) (by omega)), if_pos ((lc_0 (by omega)).mpr rfl), Nat.gcd_zero_right]
    rfl
  | m + 1, x, y, i, fuel, h1, h2, h3, h4, h5 => by
    obtain ⟨j, rfl⟩ : ∃ j, fuel = j + 2 := ⟨fuel - 2, by omega⟩
    have step : ∀ x y i : Nat, x < 2 ^ 63 → y < 2 ^ 63 → i < 100 → gL_commonDivisor_h9 s (lN x, lN y, nI i) = if y = 0 then some (.inr (lN x)) else some (.inl (lN y, lN (x % y), nI (i + 1))) := fun x y i hx hy hi => by
      unfold gL_commonDivisor_h9
      dsimp only
      rw [show (100 : Int32) = nI 100 from rfl, if_neg (nle (by omega) (by omega) (by omega))]
      by_cases h : y = 0
      · rw [if_pos ((lc_0 hy).mpr h), if_pos h]
      · rw [if_neg (fun z => h ((lc_0 hy).mp z)), if_neg h, if_neg (l0_ne hy (by omega)), pk_lRem hx (by omega) hy, nI_1]
    unfold wh
    rw [step x y i h2 h3 (by omega)]
    by_cases hy : y = 0
    · subst hy
      rw [if_pos rfl, Nat.gcd_zero_right]
      rfl
    · rw [if_neg hy]
      show wh (j + 1) _ _ = _
      unfold wh
      have l := Nat.mod_lt x (show 0 < y by omega)
      rw [step y (x % y) (i + 1) h3 (by omega) (by omega)]
      by_cases hy2 : x % y = 0
      · rw [if_pos hy2, gcd_st x y, hy2, Nat.gcd_zero_right]
        rfl
      · rw [if_neg hy2]
        have hh := mod_half (x := y) (y := x % y) (by omega) (by omega)
        rw [gcd_st x y, gcd_st y (x % y)]
        exact c_gcd m (x % y) (y % (x % y)) (i + 1 + 1) j (by rw [Nat.pow_succ] at h1; omega) (by omega) (by omega) (by omega) (by omega)
theorem m_gcd : ∀ (m x y fuel : Nat), y < 2 ^ m → x < 2 ^ 63 → y < 2 ^ 63 → 2 * m + 1 < fuel → wh fuel (gM_divisor_h9 s) (lN x, lN y) = some (lN (Nat.gcd x y))
  | 0, x, y, fuel, h1, h2, h3, h5 => by
    obtain ⟨j, rfl⟩ : ∃ j, fuel = j + 1 := ⟨fuel - 1, by omega⟩
    obtain rfl : y = 0 := by omega
    unfold wh gM_divisor_h9
    dsimp only
    rw [if_pos ((lc_0 (by omega)).mpr rfl), Nat.gcd_zero_right]
    rfl
  | m + 1, x, y, fuel, h1, h2, h3, h5 => by
    obtain ⟨j, rfl⟩ : ∃ j, fuel = j + 2 := ⟨fuel - 2, by omega⟩
    have step : ∀ x y : Nat, x < 2 ^ 63 → y < 2 ^ 63 → gM_divisor_h9 s (lN x, lN y) = if y = 0 then some (.inr (lN x)) else some (.inl (lN y, lN (x % y))) := fun x y hx hy => by
      unfold gM_divisor_h9
      dsimp only
      by_cases h : y = 0
      · rw [if_pos ((lc_0 hy).mpr h), if_pos h]
      · rw [if_neg (fun z => h ((lc_0 hy).mp z)), if_neg h, if_neg (l0_ne hy (by omega)), pk_lRem hx (by omega) hy]
    unfold wh
    rw [step x y h2 h3]
    by_cases hy : y = 0
    · subst hy
      rw [if_pos rfl, Nat.gcd_zero_right]
      rfl
    · rw [if_neg hy]
      show wh (j + 1) _ _ = _
      unfold wh
      have l := Nat.mod_lt x (show 0 < y by omega)
      rw [step y (x % y) h3 (by omega)]
      by_cases hy2 : x % y = 0
      · rw [if_pos hy2, gcd_st x y, hy2, Nat.gcd_zero_right]
        rfl
      · rw [if_neg hy2]
        have hh := mod_half (x := y) (y := x % y) (by omega) (by omega)
        rw [gcd_st x y, gcd_st y (x % y)]
        exact m_gcd m (x % y) (y % (x % y)) j (by rw [Nat.pow_succ] at h1; omega) (by omega) (by omega) (by omega)
/-- the fraction's part, as both tell it -/
def frV (v0 : Int64) (a b : Nat) (v4 : Int32) : Int64 := (if v4 = 0 then v0 else lN b) / lN (Nat.gcd a b)
theorem gcd_b {a b : Nat} (hb : 0 < b) (hb2 : b < 2 ^ 40) : 0 < Nat.gcd a b ∧ Nat.gcd a b < 2 ^ 63 := by
  have h1 := Nat.gcd_pos_of_pos_right a hb
  have h2 := Nat.le_of_dvd hb (Nat.gcd_dvd_right a b)
  omega
theorem c_low {v0 : Int64} {a b : Nat} {v4 : Int32} (hl : labs v0 = lN a) (ha : a < 2 ^ 63) (hb : 0 < b) (hb2 : b < 2 ^ 40) : gL_lowestTerms v0 (lN b) v4 s = some (frV v0 a b v4) := by
  obtain ⟨g1, g2⟩ := gcd_b (a := a) hb hb2
  unfold gL_lowestTerms gL_commonDivisor frV
  rw [hl, show ((0 : Int32)) = nI 0 from rfl, c_gcd 40 a b 0 FU hb2 ha (by omega) (by omega) (FU_gt (by omega)), Option.bind_some, Option.bind_some]
  rw [if_pos (by rw [show nI 0 = (0 : Int32) from rfl, lg_cmp_ge]; exact (pk_lLE (a := 1) (by decide) g2).mpr g1)]
  by_cases h : v4 = nI 0
  · rw [if_pos h, Option.bind_some, if_neg (l0_ne g2 g1), if_pos h]
  · rw [if_neg h, Option.bind_some, if_neg (l0_ne g2 g1), if_neg h]
theorem m_part {v0 : Int64} {a b : Nat} {v4 : Int32} (hl : labs v0 = lN a) (ha : a < 2 ^ 63) (hb : 0 < b) (hb2 : b < 2 ^ 40) : gM_part v0 (lN b) v4 s = some (frV v0 a b v4) := by
  obtain ⟨g1, g2⟩ := gcd_b (a := a) hb hb2
  unfold gM_part gM_divisor frV
  rw [hl, m_gcd 40 a b FU hb2 ha (by omega) (FU_gt (by omega)), Option.bind_some]
  by_cases h : v4 = 0
  · rw [if_pos h, Option.bind_some, Option.bind_some, if_neg (l0_ne g2 g1), if_pos h]
  · rw [if_neg h, Option.bind_some, Option.bind_some, if_neg (l0_ne g2 g1), if_neg h]
theorem labs_n {a : Nat} (h : a < 2 ^ 63) : labs (lN a) = lN a := by
  show (if 0 < lN a then lN a else -lN a) = lN a
  by_cases h0 : a = 0
  · subst h0; rfl
  · rw [if_pos (show (0 : Int64) < lN a from (pk_lLT (a := 0) (by decide) h).mpr (by omega))]
end GC
