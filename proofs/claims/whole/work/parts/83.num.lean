/-! READING: numbers, and what follows -/
section RNUM
variable {l p q n k i a b : Nat} {T : Nat → Nat} {s s' t t' : mT} {xs : Nat → Int32}
def QD (xs : Nat → Int32) (l : Nat) (T : Nat → Nat) (s t : mT) : Prop := GD xs l T s t ∨ BDq xs l T s t
theorem n_step {v1 v2 : Int32} (h : QD xs l T s t) (h1 : v1.toInt ≤ 60) (h2 : v2.toInt ≤ 60) (h0 : 0 ≤ v1.toInt) : ∃ v s' t', gD_takeNumber v1 v2 s = some (v, s') ∧ gM_number v1 v2 t = some (v, t') ∧ ((GD xs l T s' t' ∧ v1.toInt ≤ v.toInt ∧ v.toInt ≤ v2.toInt) ∨ BDq xs l T s' t') ∧ Fp pC3 s s' ∧ Fp pM3 t t' := by
  rcases h with h | h
  · have hg := h
    obtain ⟨hb, ⟨z1, z2, z3⟩, p, hp, ⟨a1, a2⟩, ⟨b1, b2⟩, ⟨c1, c2⟩, d⟩ := hg
    have hk := tKd_le (l := l) (T := T) (q := tSt l T p)
    by_cases e1 : tKd l T (tSt l T p) = 2
    · obtain ⟨d1, d2⟩ := d e1
      have vl := vC_le (T := T) (q := tSt l T p) (k := tLn l T (tSt l T p))
      have vm : vM T (tSt l T p) (tLn l T (tSt l T p)) = min 99999 (vC T (tSt l T p) (tLn l T (tSt l T p))) := by
        refine vM_is (fun j hj => ?_)
        unfold tLn at hj
        unfold tKd at e1
        by_cases q1 : tSt l T p < l
        · rw [if_pos q1] at hj e1
          by_cases q2 : isLe T (tSt l T p) = true
          · rw [if_pos q2] at e1; cases e1
          · rw [if_neg q2] at hj e1
            by_cases q3 : isDi T (tSt l T p) = true
            · rw [if_pos q3] at hj
              have := (skp_is (c := isDi T) (m := l - tSt l T p) (p := tSt l T p)).2.1 j hj
              exact (of_decide_eq_true this).1
            · rw [if_neg q3] at e1
              split at e1 <;> cases e1
        · rw [if_neg q1] at e1; cases e1
      rw [vm] at d2
      generalize vC T (tSt l T p) (tLn l T (tSt l T p)) = c at *
      have k2 : s.1 3 5 = (2 : Int32) := by rw [b1, e1]; rfl
      have k2' : t.1 294 10 = (2 : Int32) := by rw [b2, e1]; rfl
      have hin : gM_in ((t.1 294 11).toInt64) v1.toInt64 v2.toInt64 t = some (bz (decide (v1.toInt ≤ (c : Int) ∧ (c : Int) ≤ v2.toInt))) := by
        rw [d2, m_in, Int32.toInt_toInt64, Int32.toInt_toInt64, Int32.toInt_toInt64, nI_toInt (by omega)]
        congr 2
        exact decide_eq_decide.mpr ⟨fun z => by omega, fun z => by omega⟩
      have mh : gM_number v1 v2 t = (if bz (decide (v1.toInt ≤ (c : Int) ∧ (c : Int) ≤ v2.toInt)) = 0 then (gM_errs (2 : Int32) t).bind fun p11 => some p11 else some t).bind fun x7 => (gM_good x7).bind fun p12 => if p12 = 0 then some (((0 : Int32), x7)) else (gM_advance x7).bind fun p15 => some ((x7.1 294 11, p15)) := by
        unfold gM_number
        rw [gd_good h, Option.bind_some, if_neg (by decide), if_pos k2', Option.bind_some, gd_good h, Option.bind_some, if_neg (by decide), hin, Option.bind_some]
      by_cases e2 : v1.toInt ≤ (c : Int) ∧ (c : Int) ≤ v2.toInt
      · obtain ⟨s', t', f1, f2, f3, f4, f5⟩ := gd_tok h
        refine ⟨nI c, s', t', ?_, ?_, Or.inl ⟨f3, by rw [nI_toInt (by omega)]; exact e2.1, by rw [nI_toInt (by omega)]; exact e2.2⟩, f4, f5⟩
        · unfold gD_takeNumber
          rw [z1, if_pos rfl, if_pos k2, d1, if_neg (fun z => by rw [Int32.lt_iff_toInt_lt, nI_toInt (by omega)] at z; omega), if_pos (by rw [Int32.le_iff_toInt_le, nI_toInt (by omega)]; exact e2.2), f1, Option.bind_some]
        · rw [mh, decide_eq_true e2, bz_t, if_neg (by decide), Option.bind_some, gd_good h, Option.bind_some, if_neg (by decide), f2, Option.bind_some, d2, Nat.min_eq_right (by omega)]
      · obtain ⟨s', t', f1, f2, f3, f4, f5⟩ := gd_fail (c := 2) (by decide) h
        refine ⟨0, s', t', ?_, ?_, Or.inr f3, f4, f5⟩
        · unfold gD_takeNumber
          rw [z1, if_pos rfl, if_pos k2, d1, f1, Option.bind_some]
          by_cases e3 : nI c < v1
          · rw [if_pos e3]
          · rw [if_neg e3, if_neg (fun z => e2 (by
              rw [Int32.lt_iff_toInt_lt, nI_toInt (by omega)] at e3
              rw [Int32.le_iff_toInt_le, nI_toInt (by omega)] at z
              omega))]
        · rw [mh, decide_eq_false e2, bz_f, if_pos rfl, f2, Option.bind_some, Option.bind_some, bd_good f3, Option.bind_some, if_pos rfl]
    · obtain ⟨s', t', f1, f2, f3, f4, f5⟩ := gd_fail (c := 1) (by decide) h
      refine ⟨0, s', t', ?_, ?_, Or.inr f3, f4, f5⟩
      · unfold gD_takeNumber
        rw [z1, if_pos rfl, b1, if_neg (show ¬ nI (tKd l T (tSt l T p)) = (2 : Int32) from fun z => e1 ((nI_eq (b := 2) (by omega) (by omega)).mp z)), f1, Option.bind_some]
      · unfold gM_number
        rw [gd_good h, Option.bind_some, if_neg (by decide), b2, if_neg (show ¬ nI (tKd l T (tSt l T p)) = (2 : Int32) from fun z => e1 ((nI_eq (b := 2) (by omega) (by omega)).mp z)), f2, Option.bind_some, Option.bind_some, bd_good f3, Option.bind_some, if_pos rfl, Option.bind_some, bd_good f3, Option.bind_some, if_pos rfl]
  · refine ⟨0, s, t, ?_, ?_, Or.inr h, Fp.rfl', Fp.rfl'⟩
    · unfold gD_takeNumber
      rw [if_neg h.2.2.1]
    · unfold gM_number
      rw [bd_good h, Option.bind_some, if_pos rfl, Option.bind_some, bd_good h, Option.bind_some, if_pos rfl, Option.bind_some, bd_good h, Option.bind_some, if_pos rfl]
/-- writes beside the tokens -/
theorem qd_fp {P Q : Nat → Nat → Prop} (h : QD xs l T s t) (hf : Fp P s s') (hg : Fp Q t t') (hP : ∀ a k, P a k → 4 ≤ a ∧ a < 294) (hQ : ∀ a k, Q a k → a ≠ 294 ∧ a ≠ 298 ∧ a < 400) : QD xs l T s' t' := by
  have e1 : ∀ k, s'.1 3 k = s.1 3 k := fun k => hf.1 3 k (fun z => by have := hP _ _ z; omega)
  have e2 : ∀ k, t'.1 294 k = t.1 294 k := fun k => hg.1 294 k (fun z => by have := hQ _ _ z; omega)
  rcases h with ⟨hb, h1, h2⟩ | ⟨hb, h1⟩
  · refine Or.inl ⟨base_fp hb hf hg (fun a k z => by have := hP a k z; omega) (fun a k z => by have := hQ a k z; omega), ?_, ?_⟩
    · rw [e1, e1, e2, e2]; exact h1
    · obtain ⟨p, q⟩ := h2
      refine ⟨p, ?_⟩
      rw [e1, e1, e1, e1, e2, e2, e2, e2]
      exact q
  · refine Or.inr ⟨base_fp hb hf hg (fun a k z => by have := hP a k z; omega) (fun a k z => by have := hQ a k z; omega), ?_⟩
    rw [e1, e1, e2, e2]
    exact h1
/-- a word and a number -/
theorem t_step {v1 v2 : Int32} (h : QD xs l T s t) (ha : a < 28) (hb : b < 28) (he : xT a = xT b) (h1 : v1.toInt ≤ 60) (h2 : v2.toInt ≤ 60) (h0 : 0 ≤ v1.toInt) : ∃ v s1 s' t', gD_takeWord (XB + 10 + 2 * a) s = some s1 ∧ gD_takeNumber v1 v2 s1 = some (v, s') ∧ gM_told (XB + 10 + 2 * b) v1 v2 t = some (v, t') ∧ ((GD xs l T s' t' ∧ v1.toInt ≤ v.toInt ∧ v.toInt ≤ v2.toInt) ∨ BDq xs l T s' t') ∧ Fp pC3 s s1 ∧ Fp pC3 s s' ∧ Fp pM3 t t' := by
  obtain ⟨s1, t1, f1, f2, f3, f4, f5⟩ := w_step h ha hb he
  obtain ⟨v, s2, t2, g1, g2, g3, g4, g5⟩ := n_step f3 h1 h2 h0
  refine ⟨v, s1, s2, t2, f1, g1, ?_, g3, f4, f4.tr g4, f5.tr g5⟩
  unfold gM_told
  rw [f2, Option.bind_some, g2, Option.bind_some]
theorem qd_of {P : Prop} (h : (GD xs l T s t ∧ P) ∨ BDq xs l T s t) : QD xs l T s t := h.elim (fun z => Or.inl z.1) Or.inr
end RNUM
