/-! READING: the model's token -/
section MTOK
variable {l p q n k i : Nat} {T : Nat → Nat} {s s' t t' : mT}
theorem MTp.fp {P : Nat → Nat → Prop} (h : MTp l T s) (hf : Fp P s s') (hP : ∀ a k, P a k → (a = 294 ∧ 8 ≤ k) ∨ (a ≠ 294 ∧ a ≠ 298)) : MTp l T s' := ⟨h.1, by rw [hf.1 294 7 (fun z => by have := hP _ _ z; omega)]; exact h.2.1, fun i hi => by rw [hf.1 298 i (fun z => by have := hP _ _ z; omega)]; exact h.2.2 i hi⟩
theorem see_in (h : MTp l T s) (hi : i < l) : gM_see (nI i) s = some (nI (T i)) := by
  have h600 := h.1
  obtain ⟨d1, d2⟩ := h.2.2 i hi
  unfold gM_see
  rw [h.2.1, if_neg (nle (by omega) (by omega) (by omega)), rd_n (by omega) (by omega), Option.bind_some, Option.bind_some, d2, (by decide +kernel : ∀ v, v < 256 → ((nI v).toInt8.toInt32 &&& (255 : Int32)) = nI v) _ d1]
theorem see_out (h : MTp l T s) (hi : l ≤ i) (hi2 : i < 2 ^ 31) : gM_see (nI i) s = some (-1) := by
  have h600 := h.1
  unfold gM_see
  rw [h.2.1, if_pos (nI_le hi hi2), Option.bind_some]
theorem in_n {v lo hi : Nat} (hv : v < 2 ^ 31) (hl : lo < 2 ^ 31) (hh : hi < 2 ^ 31) : gM_in (nI v).toInt64 (lN lo) (lN hi) s = some (bz (decide (lo ≤ v ∧ v ≤ hi))) := by
  rw [m_in_n hh hl, nI_toInt hv]
  congr 2
  exact decide_eq_decide.mpr ⟨fun z => by omega, fun z => by omega⟩
theorem in_m1 {lo hi : Nat} (hl : lo < 2 ^ 31) (hh : hi < 2 ^ 31) : gM_in (-1 : Int32).toInt64 (lN lo) (lN hi) s = some 0 := by
  rw [m_in_n hh hl, decide_eq_false (by
    rw [show (-1 : Int32).toInt = -1 from rfl]
    omega)]
  rfl
theorem m_blank (h : MTp l T s) (hp : s.1 294 8 = nI p) (hpl : p ≤ l) : ∃ s', wh FU gM_advance_h0 s = some s' ∧ Fp (fun a k => a = 294 ∧ k = 8) s s' ∧ s'.1 294 8 = nI (tSt l T p) := by
  obtain ⟨k1, k2, k3⟩ := skp_is (c := isBl T) (m := l - p) (p := p)
  have h600 := h.1
  have := wh_inv (f := gM_advance_h0) (fun k u => Fp (fun a k => a = 294 ∧ k = 8) s u ∧ u.1 294 8 = nI (p + k)) (fun u => Fp (fun a k => a = 294 ∧ k = 8) s u ∧ u.1 294 8 = nI (tSt l T p)) (skp (isBl T) (l - p) p) (fun k hk u hu => by
    obtain ⟨u1, u2⟩ := hu
    have c := h.fp u1 (fun a k z => Or.inl (by omega))
    have d1 := (c.2.2 (p + k) (by omega)).1
    have hb : T (p + k) = 32 ∨ T (p + k) = 10 := of_decide_eq_true (k2 k hk)
    refine ⟨stI u 294 8 (nI (p + (k + 1))), ?_, u1.tr (Fp.st ⟨rfl, rfl⟩), stI_eq⟩
    unfold gM_advance_h0
    rw [u2, see_in c (by omega), Option.bind_some, show (32 : Int32) = nI 32 from rfl, ite_iff (nI_eq (a := T (p + k)) (b := 32) (by omega) (by omega)), nI_1]
    by_cases e : T (p + k) = 32
    · rw [if_pos e]
      rfl
    · rw [if_neg e, Option.bind_some, show (10 : Int32) = nI 10 from rfl, if_pos ((nI_eq (by omega) (by omega)).mpr (by omega))]
      rfl) (fun u hu => by
    obtain ⟨u1, u2⟩ := hu
    have c := h.fp u1 (fun a k z => Or.inl (by omega))
    refine ⟨u, ?_, u1, u2⟩
    unfold gM_advance_h0
    rw [u2]
    by_cases e : skp (isBl T) (l - p) p < l - p
    · have d1 := (c.2.2 (p + skp (isBl T) (l - p) p) (by omega)).1
      have hb := of_decide_eq_false (k3 e)
      rw [see_in c (by omega), Option.bind_some, show (32 : Int32) = nI 32 from rfl, if_neg (fun z => hb (Or.inl ((nI_eq (by omega) (by omega)).mp z))), Option.bind_some, show (10 : Int32) = nI 10 from rfl, if_neg (fun z => hb (Or.inr ((nI_eq (by omega) (by omega)).mp z)))]
    · rw [see_out c (by omega) (by omega), Option.bind_some, if_neg (by decide), Option.bind_some, if_neg (by decide)]) (q := s) ⟨Fp.rfl', hp⟩ FU (FU_gt (by omega))
  exact this
theorem m_word (h : MTp l T s) (hp : s.1 294 8 = nI p) (hpl : p ≤ l) : ∃ s', wh FU gM_advance_h83 s = some s' ∧ Fp (fun a k => a = 294 ∧ k = 8) s s' ∧ s'.1 294 8 = nI (p + skp (isLe T) (l - p) p) := by
  obtain ⟨k1, k2, k3⟩ := skp_is (c := isLe T) (m := l - p) (p := p)
  have h600 := h.1
  have := wh_inv (f := gM_advance_h83) (fun k u => Fp (fun a k => a = 294 ∧ k = 8) s u ∧ u.1 294 8 = nI (p + k)) (fun u => Fp (fun a k => a = 294 ∧ k = 8) s u ∧ u.1 294 8 = nI (p + skp (isLe T) (l - p) p)) (skp (isLe T) (l - p) p) (fun k hk u hu => by
    obtain ⟨u1, u2⟩ := hu
    have c := h.fp u1 (fun a k z => Or.inl (by omega))
    have d1 := (c.2.2 (p + k) (by omega)).1
    refine ⟨stI u 294 8 (nI (p + (k + 1))), ?_, u1.tr (Fp.st ⟨rfl, rfl⟩), stI_eq⟩
    unfold gM_advance_h83
    rw [u2, see_in c (by omega), Option.bind_some, show gM_in (nI (T (p + k))).toInt64 (97 : Int64) (122 : Int64) u = _ from in_n (lo := 97) (hi := 122) (by omega) (by omega) (by omega), Option.bind_some, show decide (97 ≤ T (p + k) ∧ T (p + k) ≤ 122) = true from k2 k hk, bz_t, if_neg (by decide), nI_1]
    rfl) (fun u hu => by
    obtain ⟨u1, u2⟩ := hu
    have c := h.fp u1 (fun a k z => Or.inl (by omega))
    refine ⟨u, ?_, u1, u2⟩
    unfold gM_advance_h83
    rw [u2]
    by_cases e : skp (isLe T) (l - p) p < l - p
    · have d1 := (c.2.2 (p + skp (isLe T) (l - p) p) (by omega)).1
      rw [see_in c (by omega), Option.bind_some, show gM_in (nI (T (p + skp (isLe T) (l - p) p))).toInt64 (97 : Int64) (122 : Int64) u = _ from in_n (lo := 97) (hi := 122) (by omega) (by omega) (by omega), Option.bind_some, show decide (97 ≤ T (p + skp (isLe T) (l - p) p) ∧ T (p + skp (isLe T) (l - p) p) ≤ 122) = false from k3 e, bz_f, if_pos rfl]
    · rw [see_out c (by omega) (by omega), Option.bind_some, show gM_in (-1 : Int32).toInt64 (97 : Int64) (122 : Int64) u = _ from in_m1 (lo := 97) (hi := 122) (by omega) (by omega), Option.bind_some, if_pos rfl]) (q := s) ⟨Fp.rfl', hp⟩ FU (FU_gt (by omega))
  exact this
theorem vM_le : vM T q k ≤ 99999 := by
  cases k with
  | zero => exact Nat.zero_le _
  | succ k => rw [vM_s]; omega
theorem m_num (h : MTp l T s) (hp : s.1 294 8 = nI p) (hpl : p ≤ l) (h0 : s.1 294 11 = 0) : ∃ s', wh FU gM_advance_h144 s = some s' ∧ Fp (fun a k => a = 294 ∧ (k = 8 ∨ k = 11)) s s' ∧ s'.1 294 8 = nI (p + skp (isDi T) (l - p) p) ∧ s'.1 294 11 = nI (vM T p (skp (isDi T) (l - p) p)) := by
  obtain ⟨k1, k2, k3⟩ := skp_is (c := isDi T) (m := l - p) (p := p)
  have h600 := h.1
  have := wh_inv (f := gM_advance_h144) (fun k u => Fp (fun a k => a = 294 ∧ (k = 8 ∨ k = 11)) s u ∧ u.1 294 8 = nI (p + k) ∧ u.1 294 11 = nI (vM T p k)) (fun u => Fp (fun a k => a = 294 ∧ (k = 8 ∨ k = 11)) s u ∧ u.1 294 8 = nI (p + skp (isDi T) (l - p) p) ∧ u.1 294 11 = nI (vM T p (skp (isDi T) (l - p) p))) (skp (isDi T) (l - p) p) (fun k hk u hu => by
    obtain ⟨u1, u2, u3⟩ := hu
    have c := h.fp u1 (fun a k z => Or.inl (by omega))
    have d1 := (c.2.2 (p + k) (by omega)).1
    have hd : decide (48 ≤ T (p + k) ∧ T (p + k) ≤ 57) = true := k2 k hk
    have hd2 := of_decide_eq_true hd
    have vl := vM_le (T := T) (q := p) (k := k)
    refine ⟨stI (stI u 294 11 (nI (vM T p (k + 1)))) 294 8 (nI (p + (k + 1))), ?_, (u1.tr (Fp.st ⟨rfl, Or.inr rfl⟩)).tr (Fp.st ⟨rfl, Or.inl rfl⟩), stI_eq, by rw [stI_nk (by omega), stI_eq]⟩
    unfold gM_advance_h144
    rw [u2, see_in c (by omega), Option.bind_some, show gM_in (nI (T (p + k))).toInt64 (48 : Int64) (57 : Int64) u = _ from in_n (lo := 48) (hi := 57) (by omega) (by omega) (by omega), Option.bind_some, hd, bz_t, if_neg (by decide), Option.bind_some, u3, show (10 : Int32) = nI 10 from rfl, pk_mul, nI_add, show (48 : Int32) = nI 48 from rfl, pk_sub (by omega), show (99999 : Int32) = nI 99999 from rfl, imin_n (by omega) (by omega), ← vM_s, stI_nk (by omega), u2, nI_1, Option.bind_some]
    rfl) (fun u hu => by
    obtain ⟨u1, u2, u3⟩ := hu
    have c := h.fp u1 (fun a k z => Or.inl (by omega))
    refine ⟨u, ?_, u1, u2, u3⟩
    unfold gM_advance_h144
    rw [u2]
    by_cases e : skp (isDi T) (l - p) p < l - p
    · have d1 := (c.2.2 (p + skp (isDi T) (l - p) p) (by omega)).1
      rw [see_in c (by omega), Option.bind_some, show gM_in (nI (T (p + skp (isDi T) (l - p) p))).toInt64 (48 : Int64) (57 : Int64) u = _ from in_n (lo := 48) (hi := 57) (by omega) (by omega) (by omega), Option.bind_some, show decide (48 ≤ T (p + skp (isDi T) (l - p) p) ∧ T (p + skp (isDi T) (l - p) p) ≤ 57) = false from k3 e, bz_f, if_pos rfl]
    · rw [see_out c (by omega) (by omega), Option.bind_some, show gM_in (-1 : Int32).toInt64 (48 : Int64) (57 : Int64) u = _ from in_m1 (lo := 48) (hi := 57) (by omega) (by omega), Option.bind_some, if_pos rfl]) (q := s) ⟨Fp.rfl', hp, h0⟩ FU (FU_gt (by omega))
  exact this
theorem m_tok (h : MTp l T s) (hp : s.1 294 8 = nI p) (hpl : p ≤ l) : ∃ s', gM_advance s = some s' ∧ Fp (fun a k => a = 294 ∧ 8 ≤ k ∧ k ≤ 11) s s' ∧ s'.1 294 9 = nI (tSt l T p) ∧ s'.1 294 10 = nI (tKd l T (tSt l T p)) ∧ s'.1 294 8 = nI (tSt l T p + tLn l T (tSt l T p)) ∧ (tKd l T (tSt l T p) = 2 → s'.1 294 11 = nI (vM T (tSt l T p) (tLn l T (tSt l T p)))) := by
  obtain ⟨s1, f1, f2, f3⟩ := m_blank h hp hpl
  have hq := tS_le (l := l) (T := T) hpl
  have h600 := h.1
  generalize tSt l T p = q at *
  obtain ⟨t0, ht0⟩ : ∃ t0, t0 = stI s1 294 9 (nI q) := ⟨_, rfl⟩
  have g0 : Fp (fun a k => a = 294 ∧ 8 ≤ k ∧ k ≤ 11) s t0 := (f2.wid (fun a k z => by omega)).tr (by rw [ht0]; exact Fp.st ⟨rfl, by omega, by omega⟩)
  have c0 := h.fp g0 (fun a k z => Or.inl (by omega))
  have e4 : t0.1 294 8 = nI q := by rw [ht0, stI_nk (by omega)]; exact f3
  have e6 : t0.1 294 9 = nI q := by rw [ht0, stI_eq]
  unfold gM_advance
  rw [f1, Option.bind_some, f3, ← ht0, e4]
  unfold tKd tLn
  by_cases hl : q < l
  · have d1 := (c0.2.2 q hl).1
    rw [see_in c0 hl, Option.bind_some, if_neg (m1_n (by omega)), show gM_in (nI (T q)).toInt64 (97 : Int64) (122 : Int64) t0 = _ from in_n (lo := 97) (hi := 122) (by omega) (by omega) (by omega), Option.bind_some, if_pos hl, if_pos hl]
    cases hle : isLe T q with
    | true =>
      obtain ⟨t1, x1, x2, x3⟩ := m_word c0 e4 (by omega)
      refine ⟨stI t1 294 10 (1 : Int32), ?_, (g0.tr (x2.wid (fun a k z => by omega))).tr (Fp.st ⟨rfl, by omega, by omega⟩), ?_, ?_, ?_, fun z => by cases z⟩
      · rw [show decide (97 ≤ T q ∧ T q ≤ 122) = true from hle, bz_t, if_neg (by decide), x1, Option.bind_some, Option.bind_some]
      · rw [stI_nk (by omega), x2.1 294 9 (by omega)]; exact e6
      · rw [stI_eq]; rfl
      · rw [stI_nk (by omega), x3]; rfl
    | false =>
      rw [show decide (97 ≤ T q ∧ T q ≤ 122) = false from hle, bz_f, if_pos rfl, show gM_in (nI (T q)).toInt64 (48 : Int64) (57 : Int64) t0 = _ from in_n (lo := 48) (hi := 57) (by omega) (by omega) (by omega), Option.bind_some, if_neg (show ¬ (false : Bool) = true by decide), if_neg (show ¬ (false : Bool) = true by decide)]
      cases hdi : isDi T q with
      | true =>
        have k0 : Fp (fun a k => a = 294 ∧ 8 ≤ k ∧ k ≤ 11) t0 (stI t0 294 11 (0 : Int32)) := Fp.st ⟨rfl, by omega, by omega⟩
        obtain ⟨t1, x1, x2, x3, x4⟩ := m_num (s := stI t0 294 11 (0 : Int32)) (p := q) (c0.fp k0 (fun a k z => Or.inl (by omega))) (by rw [stI_nk (by omega)]; exact e4) (by omega) stI_eq
        refine ⟨stI t1 294 10 (2 : Int32), ?_, (g0.tr k0).tr ((x2.wid (fun a k z => by omega)).tr (Fp.st ⟨rfl, by omega, by omega⟩)), ?_, ?_, ?_, fun _ => ?_⟩
        · rw [show decide (48 ≤ T q ∧ T q ≤ 57) = true from hdi, bz_t, if_neg (by decide), x1, Option.bind_some, Option.bind_some]
        · rw [stI_nk (by omega), x2.1 294 9 (by omega), stI_nk (by omega)]; exact e6
        · rw [stI_eq]; rfl
        · rw [stI_nk (by omega), x3]; rfl
        · rw [stI_nk (by omega), x4]; rfl
      | false =>
        rw [show decide (48 ≤ T q ∧ T q ≤ 57) = false from hdi, bz_f, if_pos rfl, if_neg (show ¬ (false : Bool) = true by decide), if_neg (show ¬ (false : Bool) = true by decide)]
        rw [show (59 : Int32) = nI 59 from rfl, ite_iff (nI_eq (a := T q) (b := 59) (by omega) (by omega))]
        have es : (if T q = 59 then some (3 : Int32) else some (4 : Int32)) = some (nI (if T q = 59 then 3 else 4)) := by split <;> rfl
        rw [es, Option.bind_some, Option.bind_some, Option.bind_some, stI_nk (by omega), e4, nI_1]
        refine ⟨_, rfl, (g0.tr (Fp.st ⟨rfl, by omega, by omega⟩)).tr (Fp.st ⟨rfl, by omega, by omega⟩), ?_, ?_, stI_eq, fun z => ?_⟩
        · rw [stI_nk (by omega), stI_nk (by omega)]; exact e6
        · rw [stI_nk (by omega), stI_eq]
        · exfalso
          split at z <;> cases z
  · rw [see_out c0 (by omega) (by omega), Option.bind_some, if_pos rfl, if_neg hl, if_neg hl, Option.bind_some]
    refine ⟨_, rfl, g0.tr (Fp.st ⟨rfl, by omega, by omega⟩), ?_, stI_eq, ?_, fun z => by cases z⟩
    · rw [stI_nk (by omega)]; exact e6
    · rw [stI_nk (by omega)]; exact e4
end MTOK
