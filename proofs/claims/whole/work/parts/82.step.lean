/-! READING: both go step by step alike -/
def chN (a i : Nat) : Nat := ((xT a).getD i 'a').toNat
def OUT (xs : Nat → Int32) (s : mT) : Prop := ∀ a, XB ≤ a → s.1 a = xI xs a
def GD (xs : Nat → Int32) (l : Nat) (T : Nat → Nat) (s t : mT) : Prop := (CTp l T s ∧ MTp l T t ∧ OUT xs s ∧ OUT xs t) ∧ (s.1 3 2 = 0 ∧ t.1 294 12 = 0 ∧ s.1 3 3 = t.1 294 13) ∧ ∃ p, p ≤ l ∧ (s.1 3 6 = nI (tSt l T p) ∧ t.1 294 9 = nI (tSt l T p)) ∧ (s.1 3 5 = nI (tKd l T (tSt l T p)) ∧ t.1 294 10 = nI (tKd l T (tSt l T p))) ∧ (s.1 3 4 = nI (tSt l T p + tLn l T (tSt l T p)) ∧ t.1 294 8 = nI (tSt l T p + tLn l T (tSt l T p))) ∧ (tKd l T (tSt l T p) = 2 → s.1 3 7 = nI (vC T (tSt l T p) (tLn l T (tSt l T p))) ∧ t.1 294 11 = nI (vM T (tSt l T p) (tLn l T (tSt l T p))))
def BDq (xs : Nat → Int32) (l : Nat) (T : Nat → Nat) (s t : mT) : Prop := (CTp l T s ∧ MTp l T t ∧ OUT xs s ∧ OUT xs t) ∧ s.1 3 2 = t.1 294 12 ∧ ¬ s.1 3 2 = 0 ∧ s.1 3 3 = t.1 294 13
def pC3 (a k : Nat) : Prop := a = 3 ∧ 2 ≤ k ∧ k ≤ 7
def pM3 (a k : Nat) : Prop := a = 294 ∧ 8 ≤ k ∧ k ≤ 13
section STEP
variable {l p q n k i a b : Nat} {T : Nat → Nat} {s s' t t' : mT} {xs : Nat → Int32}
theorem OUT.fp {P : Nat → Nat → Prop} (h : OUT xs s) (hf : Fp P s s') (hP : ∀ a k, P a k → a < 400) : OUT xs s' := fun a ha => by
  have eXB : XB = 1000000 := rfl
  rw [hf.fn (fun k z => by have := hP _ _ z; omega)]
  exact h a ha
theorem base_fp (h : CTp l T s ∧ MTp l T t ∧ OUT xs s ∧ OUT xs t) {P Q : Nat → Nat → Prop} (hf : Fp P s s') (hg : Fp Q t t') (hP : ∀ a k, P a k → 3 ≤ a ∧ a < 294) (hQ : ∀ a k, Q a k → (a = 294 ∧ 8 ≤ k) ∨ (a ≠ 294 ∧ a ≠ 298 ∧ a < 400)) : CTp l T s' ∧ MTp l T t' ∧ OUT xs s' ∧ OUT xs t' := ⟨h.1.fp hf (fun a k z => by have := hP a k z; omega), h.2.1.fp hg (fun a k z => by have := hQ a k z; omega), h.2.2.1.fp hf (fun a k z => by have := hP a k z; omega), h.2.2.2.fp hg (fun a k z => by have := hQ a k z; omega)⟩
theorem gd_tok (h : GD xs l T s t) : ∃ s' t', gD_takeToken s = some s' ∧ gM_advance t = some t' ∧ GD xs l T s' t' ∧ Fp pC3 s s' ∧ Fp pM3 t t' := by
  obtain ⟨hb, ⟨z1, z2, z3⟩, p, hp, ⟨a1, a2⟩, ⟨b1, b2⟩, ⟨c1, c2⟩, d⟩ := h
  have hs := tS_le (l := l) (T := T) hp
  have hl := tL_le (l := l) (T := T) (q := tSt l T p)
  have he : tSt l T p + tLn l T (tSt l T p) ≤ l := by omega
  obtain ⟨s', f1, f2, f3, f4, f5, f6⟩ := c_tok hb.1 c1 he
  obtain ⟨t', g1, g2, g3, g4, g5, g6⟩ := m_tok hb.2.1 c2 he
  refine ⟨s', t', f1, g1, ⟨base_fp hb f2 g2 (fun a k z => by omega) (fun a k z => by omega), ⟨?_, ?_, ?_⟩, _, he, ⟨f3, g3⟩, ⟨f4, g4⟩, ⟨f5, g5⟩, fun z => ⟨f6 z, g6 z⟩⟩, f2.wid (fun a k z => by unfold pC3; omega), g2.wid (fun a k z => by unfold pM3; omega)⟩
  · rw [f2.1 3 2 (by omega)]; exact z1
  · rw [g2.1 294 12 (by omega)]; exact z2
  · rw [f2.1 3 3 (by omega), g2.1 294 13 (by omega)]; exact z3
theorem gd_fail {c : Int32} (hc : ¬ c = 0) (h : GD xs l T s t) : ∃ s' t', gD_fail c s = some s' ∧ gM_errs c t = some t' ∧ BDq xs l T s' t' ∧ Fp pC3 s s' ∧ Fp pM3 t t' := by
  obtain ⟨hb, ⟨z1, z2, z3⟩, p, hp, ⟨a1, a2⟩, -⟩ := h
  have f : Fp pC3 s (stI (stI s 3 2 c) 3 3 (nI (tSt l T p))) := (Fp.st ⟨rfl, by omega, by omega⟩).tr (Fp.st ⟨rfl, by omega, by omega⟩)
  have g : Fp pM3 t (stI (stI t 294 12 c) 294 13 (nI (tSt l T p))) := (Fp.st ⟨rfl, by omega, by omega⟩).tr (Fp.st ⟨rfl, by omega, by omega⟩)
  refine ⟨_, _, ?_, ?_, ⟨base_fp hb f g (fun a k z => by unfold pC3 at z; omega) (fun a k z => by unfold pM3 at z; omega), ?_, ?_, ?_⟩, f, g⟩
  · unfold gD_fail
    rw [z1, if_pos rfl, Option.bind_some, stI_nk (by omega), a1]
  · unfold gM_errs gM_good
    rw [z2, if_pos rfl, Option.bind_some, if_pos (Or.inr rfl), Option.bind_some, if_neg (by decide), stI_nk (by omega), a2]
  · rw [stI_nk (by omega), stI_eq, stI_nk (by omega), stI_eq]
  · rw [stI_nk (by omega), stI_eq]; exact hc
  · rw [stI_eq, stI_eq]
theorem gd_good (h : GD xs l T s t) : gM_good t = some 1 := by
  unfold gM_good
  rw [h.2.1.2.1, if_pos rfl, Option.bind_some, if_pos (Or.inr rfl)]
theorem bd_good (h : BDq xs l T s t) : gM_good t = some 0 := by
  unfold gM_good
  rw [if_neg (show ¬ t.1 294 12 = 0 by rw [← h.2.1]; exact h.2.2.1), Option.bind_some, if_pos (Or.inl rfl)]
theorem bd_errs {c : Int32} (h : BDq xs l T s t) : gM_errs c t = some t := by
  unfold gM_errs
  rw [bd_good h, Option.bind_some, if_pos rfl]
/-! words -/
theorem tx_b (ha : a < 28) : bLen (XB + 10 + 2 * a + 1) = (xT a).length ∧ 0 < (xT a).length ∧ (xT a).length ≤ 7 := (by decide +kernel : ∀ a, a < 28 → bLen (XB + 10 + 2 * a + 1) = (xT a).length ∧ 0 < (xT a).length ∧ (xT a).length ≤ 7) a ha
theorem ch_lt (ha : a < 28) (hi : i < 7) : chN a i < 128 := (by decide +kernel : ∀ a, a < 28 → ∀ i, i < 7 → chN a i < 128) a ha i hi
theorem tx_len (ha : a < 28) : gS_length (XB + 10 + 2 * a) s = some (nI (xT a).length) := by
  obtain ⟨h1, h2, h3⟩ := tx_b ha
  unfold gS_length gS_coder
  rw [if_neg (by decide), Option.bind_some, if_pos (by decide), Option.bind_some, h1]
  exact congrArg some ((by decide +kernel : ∀ n, n < 8 → (Int32.ofNat n) >>> ((0 : Int32) &&& 31) = nI n) _ (by omega))
theorem tx_ch (ho : OUT xs s) (ha : a < 28) (hi : i < (xT a).length) : gS_charAt (XB + 10 + 2 * a) (nI i) s = some (nI (chN a i)) := by
  have eXB : XB = 1000000 := rfl
  obtain ⟨h1, h2, h3⟩ := tx_b ha
  have hc := ch_lt (i := i) ha (by omega)
  have hx : s.1 (XB + 10 + 2 * a + 1) i = nI (chN a i) := by
    rw [ho _ (by omega)]
    unfold xI chN
    rw [if_neg (by omega), if_neg (by omega), if_pos (by omega), show (XB + 10 + 2 * a + 1 - XB - 10) / 2 = a by omega]
  unfold gS_charAt gS_isLatin1 gS1_charAt gS_checkIndex gP_checkIndex
  rw [if_neg (by decide), if_pos rfl, Option.bind_some, if_pos (Or.inr rfl), Option.bind_some, if_neg (by decide), h1, if_neg (nI_pos (by omega)), show Int32.ofNat (xT a).length = nI (xT a).length from rfl, if_pos (nI_lt hi (by omega)), Option.bind_some, Option.bind_some, rd_n hi (by omega), Option.bind_some, hx]
  have k1 := (by decide +kernel : ∀ c, c < 128 → ((nI c &&& (255 : Int32)).toUInt32 % 65536).toInt32 = nI c ∧ ((nI c).toUInt32 % 65536).toInt32 = nI c) _ hc
  rw [k1.1, k1.2, if_pos rfl, Option.bind_some, k1.2, if_pos rfl]
theorem by8 {v c : Nat} (hv : v < 256) (hc : c < 128) : ((nI v).toInt8.toInt32 = nI c) ↔ v = c := by
  by_cases h : v < 128
  · rw [(by decide +kernel : ∀ v, v < 128 → (nI v).toInt8.toInt32 = nI v) v h]
    exact nI_eq (by omega) (by omega)
  · have h2 := (by decide +kernel : ∀ v, v < 128 → (nI (v + 128)).toInt8.toInt32 < 0) (v - 128) (by omega)
    rw [show v - 128 + 128 = v by omega] at h2
    refine ⟨fun z => ?_, fun z => by omega⟩
    rw [z] at h2
    exact absurd h2 (nI_pos (by omega))
def wmB (l : Nat) (T : Nat → Nat) (q a : Nat) : Bool := decide (tKd l T q = 1) && (decide (tLn l T q = (xT a).length) && (ffN (fun i => !decide (T (q + i) = chN a i)) (xT a).length 0).isNone)
theorem tKd_le : tKd l T q ≤ 4 := by
  unfold tKd
  split
  · split
    · omega
    · split
      · omega
      · split <;> omega
  · omega
theorem tKd_l (h : tKd l T q = 1) : q < l := by
  unfold tKd at h
  by_cases e : q < l
  · exact e
  · rw [if_neg e] at h; cases h
theorem c_at (h : GD xs l T s t) (ha : a < 28) : ∃ q, q ≤ l ∧ t.1 294 9 = nI q ∧ t.1 294 10 = nI (tKd l T q) ∧ t.1 294 8 = nI (q + tLn l T q) ∧ gD_isAtWord (XB + 10 + 2 * a) s = some (bz (wmB l T q a)) := by
  obtain ⟨hb, ⟨z1, z2, z3⟩, p, hp, ⟨a1, a2⟩, ⟨b1, b2⟩, ⟨c1, c2⟩, d⟩ := h
  have hs := tS_le (l := l) (T := T) hp
  generalize tSt l T p = q at *
  have hl := tL_le (l := l) (T := T) (q := q)
  have hk := tKd_le (l := l) (T := T) (q := q)
  have h600 := hb.1.1
  obtain ⟨x1, x2, x3⟩ := tx_b ha
  refine ⟨q, hs.2, a2, b2, c2, ?_⟩
  unfold gD_isAtWord wmB
  rw [b1, c1, a1, pk_sub (by omega), Nat.add_sub_cancel_left, show (1 : Int32) = nI 1 from rfl, ite_iff (nI_eq (a := tKd l T q) (b := 1) (by omega) (by omega))]
  by_cases e1 : tKd l T q = 1
  · have ql := tKd_l e1
    rw [if_pos e1, decide_eq_true e1, Bool.true_and, tx_len ha, Option.bind_some, ite_iff (nI_eq (a := tLn l T q) (b := (xT a).length) (by omega) (by omega))]
    by_cases e2 : tLn l T q = (xT a).length
    · rw [if_pos e2, decide_eq_true e2, Bool.true_and]
      have step : ∀ i, i < (xT a).length → gD_isAtWord_h28 (XB + 10 + 2 * a) s (nI i) = if T (q + i) = chN a i then some (.inl (nI (i + 1))) else some (.inr 0) := fun i hi => by
        obtain ⟨d1, d2⟩ := hb.1.2.2 (q + i) (by omega)
        have hc := ch_lt (i := i) ha (by omega)
        unfold gD_isAtWord_h28
        rw [tx_len ha, Option.bind_some, if_neg (nle (by omega) (by omega) (by omega)), a1, nI_add, rd_n (by omega) (by omega), Option.bind_some, tx_ch hb.2.2.1 ha hi, Option.bind_some, d2, ite_iff (nI_eq (a := T (q + i)) (b := chN a i) (by omega) (by omega)), nI_1]
      have := wh_ff (f := gD_isAtWord_h28 (XB + 10 + 2 * a) s) (fun i => !decide (T (q + i) = chN a i)) (fun i => nI i) (fun r => bz r.isNone) (xT a).length 0 (fun i _ hi hp => by
        rw [step i (by omega), if_pos (by simpa using hp)]) (fun i _ hi hp => by
        rw [step i (by omega), if_neg (by simpa using hp)]
        rfl) (by
        unfold gD_isAtWord_h28
        rw [tx_len ha, Option.bind_some, if_pos (nI_le (by omega) (by omega))]
        rfl) FU (FU_gt (by omega))
      exact this
    · rw [if_neg e2, decide_eq_false e2, Bool.false_and]; rfl
  · rw [if_neg e1, decide_eq_false e1, Bool.false_and]; rfl
theorem m_is1 (hm : MTp l T t) (ho : OUT xs t) (hb : b < 28) (h9 : t.1 294 9 = nI q) (hq : q + (xT b).length ≤ l) : ∀ m i, i + m = (xT b).length → ∀ fuel, m + 1 < fuel → wh fuel (gM_is_h39 (XB + 10 + 2 * b) t) ((1 : Int32), nI i) = some (bz (ffN (fun i => !decide (T (q + i) = chN b i)) m i).isNone) := by
  obtain ⟨x1, x2, x3⟩ := tx_b hb
  have h600 := hm.1
  intro m
  induction m with
  | zero =>
    intro i hi fuel hf
    obtain ⟨f, rfl⟩ : ∃ f, fuel = f + 1 := ⟨fuel - 1, by omega⟩
    refine wh_e ?_
    unfold gM_is_h39
    dsimp only
    rw [tx_len hb, Option.bind_some, if_pos (nI_le (by omega) (by omega))]
    rfl
  | succ m ih =>
    intro i hi fuel hf
    obtain ⟨f, rfl⟩ : ∃ f, fuel = f + 1 := ⟨fuel - 1, by omega⟩
    obtain ⟨d1, d2⟩ := hm.2.2 (q + i) (by omega)
    have hc := ch_lt (i := i) hb (by omega)
    have step : gM_is_h39 (XB + 10 + 2 * b) t ((1 : Int32), nI i) = some (.inl (bz (decide (T (q + i) = chN b i)), nI (i + 1))) := by
      unfold gM_is_h39
      dsimp only
      rw [tx_len hb, Option.bind_some, if_neg (nle (by omega) (by omega) (by omega)), if_neg (by decide), h9, nI_add, rd_n (by omega) (by omega), Option.bind_some, tx_ch ho hb (by omega), Option.bind_some, d2, ite_iff (by8 d1 hc), nI_1]
      by_cases e : T (q + i) = chN b i
      · rw [if_pos e, decide_eq_true e]; rfl
      · rw [if_neg e, decide_eq_false e]; rfl
    rw [wh_s step]
    by_cases e : T (q + i) = chN b i
    · rw [decide_eq_true e, bz_t, ih (i + 1) (by omega) f (by omega)]
      show _ = some (bz (if (!decide (T (q + i) = chN b i)) = true then some i else ffN _ m (i + 1)).isNone)
      rw [decide_eq_true e, if_neg (by decide)]
    · rw [decide_eq_false e, bz_f]
      show _ = some (bz (if (!decide (T (q + i) = chN b i)) = true then some i else ffN _ m (i + 1)).isNone)
      rw [decide_eq_false e, if_pos (show (!false) = true from rfl)]
      obtain ⟨g, rfl⟩ : ∃ g, f = g + 1 := ⟨f - 1, by omega⟩
      refine wh_e ?_
      unfold gM_is_h39
      dsimp only
      rw [tx_len hb, Option.bind_some]
      by_cases e2 : nI (xT b).length ≤ nI (i + 1)
      · rw [if_pos e2]; rfl
      · rw [if_neg e2, if_pos rfl]; rfl
theorem m_is0 (hb : b < 28) {i : Int32} : wh FU (gM_is_h39 (XB + 10 + 2 * b) t) ((0 : Int32), i) = some 0 := by
  refine wh_1 ?_
  unfold gM_is_h39
  dsimp only
  rw [tx_len hb, Option.bind_some]
  by_cases e2 : nI (xT b).length ≤ i
  · rw [if_pos e2]
  · rw [if_neg e2, if_pos rfl]
/-- the same word, in both -/
theorem both_at (h : GD xs l T s t) (ha : a < 28) (hb : b < 28) (he : xT a = xT b) : ∃ v, gD_isAtWord (XB + 10 + 2 * a) s = some (bz v) ∧ gM_is (XB + 10 + 2 * b) t = some (bz v) := by
  obtain ⟨q, q1, q2, q3, q4, q5⟩ := c_at h ha
  have hl := tL_le (l := l) (T := T) (q := q)
  have hk := tKd_le (l := l) (T := T) (q := q)
  have h600 := h.1.1.1
  obtain ⟨x1, x2, x3⟩ := tx_b hb
  refine ⟨_, q5, ?_⟩
  unfold gM_is wmB
  have ech : chN a = chN b := by funext i; unfold chN; rw [he]
  rw [gd_good h, Option.bind_some, if_neg (by decide), q3, q2, q4, pk_sub (by omega), Nat.add_sub_cancel_left, he, ech, show (if nI (tKd l T q) = (1 : Int32) then _ else _) = (if tKd l T q = 1 then _ else _) from ite_iff (nI_eq (a := tKd l T q) (b := 1) (by omega) (by omega))]
  by_cases e1 : tKd l T q = 1
  · have ql := tKd_l e1
    rw [if_pos e1, decide_eq_true e1, Bool.true_and, tx_len hb, Option.bind_some, ite_iff (nI_eq (a := tLn l T q) (b := (xT b).length) (by omega) (by omega))]
    by_cases e2 : tLn l T q = (xT b).length
    · rw [if_pos e2, Option.bind_some, decide_eq_true e2, Bool.true_and, show (0 : Int32) = nI 0 from rfl, m_is1 h.1.2.1 h.1.2.2.2 hb q2 (by omega) (xT b).length 0 (Nat.zero_add _) FU (FU_gt (n := (xT b).length + 1) (by omega)), Option.bind_some]
      exact bz_ite _ _ _
    · rw [if_neg e2, Option.bind_some, decide_eq_false e2, Bool.false_and, m_is0 hb, Option.bind_some, if_pos (Or.inl rfl)]; rfl
  · rw [if_neg e1, Option.bind_some, decide_eq_false e1, Bool.false_and, m_is0 hb, Option.bind_some, if_pos (Or.inl rfl)]; rfl
theorem bd_is (h : BDq xs l T s t) (hb : b < 28) : gM_is (XB + 10 + 2 * b) t = some 0 := by
  unfold gM_is
  rw [bd_good h, Option.bind_some, if_pos rfl, Option.bind_some, m_is0 hb, Option.bind_some, if_pos (Or.inl rfl)]
theorem w_step (h : GD xs l T s t ∨ BDq xs l T s t) (ha : a < 28) (hb : b < 28) (he : xT a = xT b) : ∃ s' t', gD_takeWord (XB + 10 + 2 * a) s = some s' ∧ gM_needs (XB + 10 + 2 * b) t = some t' ∧ (GD xs l T s' t' ∨ BDq xs l T s' t') ∧ Fp pC3 s s' ∧ Fp pM3 t t' := by
  rcases h with h | h
  · obtain ⟨v, v1, v2⟩ := both_at h ha hb he
    cases v with
    | true =>
      obtain ⟨s', t', f1, f2, f3, f4, f5⟩ := gd_tok h
      refine ⟨s', t', ?_, ?_, Or.inl f3, f4, f5⟩
      · unfold gD_takeWord
        rw [h.2.1.1, if_pos rfl, v1, Option.bind_some, bz_t, if_neg (by decide), f1, Option.bind_some, Option.bind_some]
      · unfold gM_needs gM_takes
        rw [v2, Option.bind_some, bz_t, if_neg (by decide), f2, Option.bind_some, Option.bind_some, if_pos (Or.inr rfl), Option.bind_some]
        dsimp only
        rw [if_neg (by decide), Option.bind_some]
    | false =>
      obtain ⟨s', t', f1, f2, f3, f4, f5⟩ := gd_fail (c := 1) (by decide) h
      refine ⟨s', t', ?_, ?_, Or.inr f3, f4, f5⟩
      · unfold gD_takeWord
        rw [h.2.1.1, if_pos rfl, v1, Option.bind_some, bz_f, if_pos rfl, f1, Option.bind_some, Option.bind_some]
      · unfold gM_needs gM_takes
        rw [v2, Option.bind_some, bz_f, if_pos rfl, Option.bind_some, if_pos (Or.inl rfl), Option.bind_some]
        dsimp only
        rw [if_pos rfl, f2, Option.bind_some, Option.bind_some]
  · refine ⟨s, t, ?_, ?_, Or.inr h, Fp.rfl', Fp.rfl'⟩
    · unfold gD_takeWord
      rw [if_neg h.2.2.1]
    · unfold gM_needs gM_takes
      rw [bd_is h hb, Option.bind_some, if_pos rfl, Option.bind_some, if_pos (Or.inl rfl), Option.bind_some]
      dsimp only
      rw [if_pos rfl, bd_errs h, Option.bind_some, Option.bind_some]
end STEP
