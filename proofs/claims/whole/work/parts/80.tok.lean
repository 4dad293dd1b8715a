/-! READING: tokens -/
def skp (c : Nat → Bool) : Nat → Nat → Nat
  | 0, _ => 0
  | m + 1, p => if c p = true then skp c m (p + 1) + 1 else 0
theorem skp_is {c : Nat → Bool} : ∀ {m p : Nat}, skp c m p ≤ m ∧ (∀ j, j < skp c m p → c (p + j) = true) ∧ (skp c m p < m → c (p + skp c m p) = false) := by
  intro m
  induction m with
  | zero => intro p; exact ⟨Nat.le_refl _, fun j hj => absurd hj (Nat.not_lt_zero _), fun h => absurd h (Nat.not_lt_zero _)⟩
  | succ m ih =>
    intro p
    obtain ⟨h1, h2, h3⟩ := ih (p := p + 1)
    show (if c p = true then skp c m (p + 1) + 1 else 0) ≤ m + 1 ∧ (∀ j, j < (if c p = true then skp c m (p + 1) + 1 else 0) → _) ∧ ((if c p = true then skp c m (p + 1) + 1 else 0) < m + 1 → c (p + (if c p = true then skp c m (p + 1) + 1 else 0)) = false)
    by_cases hp : c p = true
    · rw [if_pos hp]
      refine ⟨by omega, fun j hj => ?_, fun h => ?_⟩
      · cases j with
        | zero => exact hp
        | succ j =>
          have := h2 j (by omega)
          rw [show p + 1 + j = p + (j + 1) by omega] at this
          exact this
      · have := h3 (by omega)
        rw [show p + 1 + skp c m (p + 1) = p + (skp c m (p + 1) + 1) by omega] at this
        exact this
    · rw [if_neg hp]
      exact ⟨Nat.zero_le _, fun j hj => absurd hj (Nat.not_lt_zero _), fun _ => Bool.eq_false_iff.mpr hp⟩
def isBl (T : Nat → Nat) (i : Nat) : Bool := decide (T i = 32 ∨ T i = 10)
def isLe (T : Nat → Nat) (i : Nat) : Bool := decide (97 ≤ T i ∧ T i ≤ 122)
def isDi (T : Nat → Nat) (i : Nat) : Bool := decide (48 ≤ T i ∧ T i ≤ 57)
def vC (T : Nat → Nat) (q : Nat) : Nat → Nat
  | 0 => 0
  | k + 1 => min 1000000 (vC T q k * 10 + (T (q + k) - 48))
def vM (T : Nat → Nat) (q : Nat) : Nat → Nat
  | 0 => 0
  | k + 1 => min 99999 (10 * vM T q k + T (q + k) - 48)
theorem vC_s (T : Nat → Nat) (q k : Nat) : vC T q (k + 1) = min 1000000 (vC T q k * 10 + (T (q + k) - 48)) := rfl
theorem vM_s (T : Nat → Nat) (q k : Nat) : vM T q (k + 1) = min 99999 (10 * vM T q k + T (q + k) - 48) := rfl
theorem vC_le {T : Nat → Nat} {q : Nat} : ∀ {k}, vC T q k ≤ 1000000 := by
  intro k
  cases k with
  | zero => exact Nat.zero_le _
  | succ k => rw [vC_s]; omega
theorem vM_is {T : Nat → Nat} {q : Nat} : ∀ {k}, (∀ j, j < k → 48 ≤ T (q + j)) → vM T q k = min 99999 (vC T q k) := by
  intro k
  induction k with
  | zero => intro _; rfl
  | succ k ih =>
    intro h
    have h1 := ih (fun j hj => h j (by omega))
    have h2 := h k (by omega)
    rw [vM_s, vC_s, h1]
    omega
def tSt (l : Nat) (T : Nat → Nat) (p : Nat) : Nat := p + skp (isBl T) (l - p) p
def tKd (l : Nat) (T : Nat → Nat) (q : Nat) : Nat := if q < l then (if isLe T q = true then 1 else if isDi T q = true then 2 else if T q = 59 then 3 else 4) else 0
def tLn (l : Nat) (T : Nat → Nat) (q : Nat) : Nat := if q < l then (if isLe T q = true then skp (isLe T) (l - q) q else if isDi T q = true then skp (isDi T) (l - q) q else 1) else 0
def CTp (l : Nat) (T : Nat → Nat) (s : mT) : Prop := l ≤ 600 ∧ s.1 1 1 = nI l ∧ ∀ i, i < l → T i < 256 ∧ s.1 2 i = nI (T i)
def MTp (l : Nat) (T : Nat → Nat) (s : mT) : Prop := l ≤ 600 ∧ s.1 294 7 = nI l ∧ ∀ i, i < l → T i < 256 ∧ s.1 298 i = (nI (T i)).toInt8.toInt32
section TOK
variable {l p q n k i : Nat} {T : Nat → Nat} {s s' t t' : mT}
theorem tS_le (h : p ≤ l) : p ≤ tSt l T p ∧ tSt l T p ≤ l := by
  have := (skp_is (c := isBl T) (m := l - p) (p := p)).1
  unfold tSt
  omega
theorem tL_le : tLn l T q ≤ l - q := by
  unfold tLn
  have h1 := (skp_is (c := isLe T) (m := l - q) (p := q)).1
  have h2 := (skp_is (c := isDi T) (m := l - q) (p := q)).1
  split
  · split
    · exact h1
    · split
      · exact h2
      · omega
  · omega
theorem cc_bl {v : Nat} (h : v < 256) : gD_isBlank (nI v) s = some (bz (decide (v = 32 ∨ v = 10))) := by
  unfold gD_isBlank
  rw [show (32 : Int32) = nI 32 from rfl, show (10 : Int32) = nI 10 from rfl, ite_iff (nI_eq (a := v) (b := 32) (by omega) (by omega)), ite_iff (nI_eq (a := v) (b := 10) (by omega) (by omega))]
  by_cases h1 : v = 32
  · rw [if_pos h1, decide_eq_true (Or.inl h1)]; rfl
  · rw [if_neg h1]
    by_cases h2 : v = 10
    · rw [if_pos h2, decide_eq_true (Or.inr h2)]; rfl
    · rw [if_neg h2, decide_eq_false (fun z => z.elim h1 h2)]; rfl
theorem cc_le {v : Nat} (h : v < 256) : gD_isLetter (nI v) s = some (bz (decide (97 ≤ v ∧ v ≤ 122))) := by
  unfold gD_isLetter
  rw [show (97 : Int32) = nI 97 from rfl, show (122 : Int32) = nI 122 from rfl, ite_iff (nI_ltI (a := v) (b := 97) (by omega) (by omega)), ite_iff (nI_ltI (a := 122) (b := v) (by omega) (by omega))]
  by_cases h1 : v < 97
  · rw [if_pos h1, decide_eq_false (by omega)]; rfl
  · rw [if_neg h1]
    by_cases h2 : 122 < v
    · rw [if_pos h2, decide_eq_false (by omega)]; rfl
    · rw [if_neg h2, decide_eq_true (by omega)]; rfl
theorem cc_di {v : Nat} (h : v < 256) : gD_isDigit (nI v) s = some (bz (decide (48 ≤ v ∧ v ≤ 57))) := by
  unfold gD_isDigit
  rw [show (48 : Int32) = nI 48 from rfl, show (57 : Int32) = nI 57 from rfl, ite_iff (nI_ltI (a := v) (b := 48) (by omega) (by omega)), ite_iff (nI_ltI (a := 57) (b := v) (by omega) (by omega))]
  by_cases h1 : v < 48
  · rw [if_pos h1, decide_eq_false (by omega)]; rfl
  · rw [if_neg h1]
    by_cases h2 : 57 < v
    · rw [if_pos h2, decide_eq_false (by omega)]; rfl
    · rw [if_neg h2, decide_eq_true (by omega)]; rfl
theorem CTp.fp {P : Nat → Nat → Prop} (h : CTp l T s) (hf : Fp P s s') (hP : ∀ a k, P a k → a = 3 ∨ 4 ≤ a) : CTp l T s' := ⟨h.1, by rw [hf.1 1 1 (fun z => by have := hP _ _ z; omega)]; exact h.2.1, fun i hi => by rw [hf.1 2 i (fun z => by have := hP _ _ z; omega)]; exact h.2.2 i hi⟩
theorem c_blank (h : CTp l T s) (hp : s.1 3 4 = nI p) (hpl : p ≤ l) : ∃ s', wh FU gD_takeToken_h0 s = some s' ∧ Fp (fun a k => a = 3 ∧ k = 4) s s' ∧ s'.1 3 4 = nI (tSt l T p) := by
  obtain ⟨k1, k2, k3⟩ := skp_is (c := isBl T) (m := l - p) (p := p)
  have h600 := h.1
  have := wh_inv (f := gD_takeToken_h0) (fun k u => Fp (fun a k => a = 3 ∧ k = 4) s u ∧ u.1 3 4 = nI (p + k)) (fun u => Fp (fun a k => a = 3 ∧ k = 4) s u ∧ u.1 3 4 = nI (tSt l T p)) (skp (isBl T) (l - p) p) (fun k hk u hu => by
    obtain ⟨u1, u2⟩ := hu
    obtain ⟨-, c1, c2⟩ := h.fp u1 (fun a k z => Or.inl z.1)
    obtain ⟨d1, d2⟩ := c2 (p + k) (by omega)
    refine ⟨stI u 3 4 (nI (p + (k + 1))), ?_, u1.tr (Fp.st ⟨rfl, rfl⟩), stI_eq⟩
    unfold gD_takeToken_h0
    rw [c1, u2, if_neg (nle (by omega) (by omega) (by omega)), rd_n (by omega) (by omega), Option.bind_some, d2, cc_bl d1, Option.bind_some, show decide (T (p + k) = 32 ∨ T (p + k) = 10) = true from k2 k hk, bz_t, if_neg (by decide), nI_1]
    rfl) (fun u hu => by
    obtain ⟨u1, u2⟩ := hu
    obtain ⟨-, c1, c2⟩ := h.fp u1 (fun a k z => Or.inl z.1)
    refine ⟨u, ?_, u1, u2⟩
    unfold gD_takeToken_h0
    rw [c1, u2]
    by_cases e : skp (isBl T) (l - p) p < l - p
    · obtain ⟨d1, d2⟩ := c2 (p + skp (isBl T) (l - p) p) (by omega)
      rw [if_neg (nle (by omega) (by omega) (by omega)), rd_n (by omega) (by omega), Option.bind_some, d2, cc_bl d1, Option.bind_some, show decide (T (p + skp (isBl T) (l - p) p) = 32 ∨ T (p + skp (isBl T) (l - p) p) = 10) = false from k3 e, bz_f, if_pos rfl]
    · rw [if_pos (nI_le (by omega) (by omega))]) (q := s) ⟨Fp.rfl', hp⟩ FU (FU_gt (by omega))
  exact this
theorem c_word (h : CTp l T s) (hp : s.1 3 4 = nI p) (hpl : p ≤ l) : ∃ s', gD_passWord s = some s' ∧ Fp (fun a k => a = 3 ∧ k = 4) s s' ∧ s'.1 3 4 = nI (p + skp (isLe T) (l - p) p) := by
  obtain ⟨k1, k2, k3⟩ := skp_is (c := isLe T) (m := l - p) (p := p)
  have h600 := h.1
  obtain ⟨s', f1, f2⟩ := wh_inv (f := gD_passWord_h0) (fun k u => Fp (fun a k => a = 3 ∧ k = 4) s u ∧ u.1 3 4 = nI (p + k)) (fun u => Fp (fun a k => a = 3 ∧ k = 4) s u ∧ u.1 3 4 = nI (p + skp (isLe T) (l - p) p)) (skp (isLe T) (l - p) p) (fun k hk u hu => by
    obtain ⟨u1, u2⟩ := hu
    obtain ⟨-, c1, c2⟩ := h.fp u1 (fun a k z => Or.inl z.1)
    obtain ⟨d1, d2⟩ := c2 (p + k) (by omega)
    refine ⟨stI u 3 4 (nI (p + (k + 1))), ?_, u1.tr (Fp.st ⟨rfl, rfl⟩), stI_eq⟩
    unfold gD_passWord_h0
    rw [c1, u2, if_neg (nle (by omega) (by omega) (by omega)), rd_n (by omega) (by omega), Option.bind_some, d2, cc_le d1, Option.bind_some, show decide (97 ≤ T (p + k) ∧ T (p + k) ≤ 122) = true from k2 k hk, bz_t, if_neg (by decide), nI_1]
    rfl) (fun u hu => by
    obtain ⟨u1, u2⟩ := hu
    obtain ⟨-, c1, c2⟩ := h.fp u1 (fun a k z => Or.inl z.1)
    refine ⟨u, ?_, u1, u2⟩
    unfold gD_passWord_h0
    rw [c1, u2]
    by_cases e : skp (isLe T) (l - p) p < l - p
    · obtain ⟨d1, d2⟩ := c2 (p + skp (isLe T) (l - p) p) (by omega)
      rw [if_neg (nle (by omega) (by omega) (by omega)), rd_n (by omega) (by omega), Option.bind_some, d2, cc_le d1, Option.bind_some, show decide (97 ≤ T (p + skp (isLe T) (l - p) p) ∧ T (p + skp (isLe T) (l - p) p) ≤ 122) = false from k3 e, bz_f, if_pos rfl]
    · rw [if_pos (nI_le (by omega) (by omega))]) (q := s) ⟨Fp.rfl', hp⟩ FU (FU_gt (by omega))
  exact ⟨s', by unfold gD_passWord; rw [f1]; rfl, f2⟩
theorem c_num (h : CTp l T s) (hp : s.1 3 4 = nI p) (hpl : p ≤ l) : ∃ s', gD_passNumber s = some s' ∧ Fp (fun a k => a = 3 ∧ (k = 4 ∨ k = 7)) s s' ∧ s'.1 3 4 = nI (p + skp (isDi T) (l - p) p) ∧ s'.1 3 7 = nI (vC T p (skp (isDi T) (l - p) p)) := by
  obtain ⟨k1, k2, k3⟩ := skp_is (c := isDi T) (m := l - p) (p := p)
  have h600 := h.1
  obtain ⟨t0, ht0⟩ : ∃ t0, t0 = stI s 3 7 (0 : Int32) := ⟨_, rfl⟩
  have f0 : Fp (fun a k => a = 3 ∧ (k = 4 ∨ k = 7)) s t0 := by rw [ht0]; exact Fp.st ⟨rfl, Or.inr rfl⟩
  obtain ⟨s', f1, f2⟩ := wh_inv (f := gD_passNumber_h5) (fun k u => Fp (fun a k => a = 3 ∧ (k = 4 ∨ k = 7)) s u ∧ u.1 3 4 = nI (p + k) ∧ u.1 3 7 = nI (vC T p k)) (fun u => Fp (fun a k => a = 3 ∧ (k = 4 ∨ k = 7)) s u ∧ u.1 3 4 = nI (p + skp (isDi T) (l - p) p) ∧ u.1 3 7 = nI (vC T p (skp (isDi T) (l - p) p))) (skp (isDi T) (l - p) p) (fun k hk u hu => by
    obtain ⟨u1, u2, u3⟩ := hu
    obtain ⟨-, c1, c2⟩ := h.fp u1 (fun a k z => Or.inl z.1)
    obtain ⟨d1, d2⟩ := c2 (p + k) (by omega)
    have vl := vC_le (T := T) (q := p) (k := k)
    have hd : decide (48 ≤ T (p + k) ∧ T (p + k) ≤ 57) = true := k2 k hk
    have hd2 := of_decide_eq_true hd
    refine ⟨stI (stI u 3 7 (nI (vC T p (k + 1)))) 3 4 (nI (p + (k + 1))), ?_, (u1.tr (Fp.st ⟨rfl, Or.inr rfl⟩)).tr (Fp.st ⟨rfl, Or.inl rfl⟩), stI_eq, by rw [stI_nk (by omega), stI_eq]⟩
    unfold gD_passNumber_h5
    rw [c1, u2, if_neg (nle (by omega) (by omega) (by omega)), rd_n (by omega) (by omega), Option.bind_some, d2, cc_di d1, Option.bind_some, hd, bz_t, if_neg (by decide), Option.bind_some, u3, show (48 : Int32) = nI 48 from rfl, pk_sub (by omega), show (10 : Int32) = nI 10 from rfl, pk_mul, nI_add, show (1000000 : Int32) = nI 1000000 from rfl, imin_n (by omega) (by omega), ← vC_s, stI_nk (by omega), u2, nI_1, Option.bind_some]
    rfl) (fun u hu => by
    obtain ⟨u1, u2, u3⟩ := hu
    obtain ⟨-, c1, c2⟩ := h.fp u1 (fun a k z => Or.inl z.1)
    refine ⟨u, ?_, u1, u2, u3⟩
    unfold gD_passNumber_h5
    rw [c1, u2]
    by_cases e : skp (isDi T) (l - p) p < l - p
    · obtain ⟨d1, d2⟩ := c2 (p + skp (isDi T) (l - p) p) (by omega)
      rw [if_neg (nle (by omega) (by omega) (by omega)), rd_n (by omega) (by omega), Option.bind_some, d2, cc_di d1, Option.bind_some, show decide (48 ≤ T (p + skp (isDi T) (l - p) p) ∧ T (p + skp (isDi T) (l - p) p) ≤ 57) = false from k3 e, bz_f, if_pos rfl]
    · rw [if_pos (nI_le (by omega) (by omega))]) (q := t0) ⟨f0, by rw [ht0, stI_nk (by omega)]; exact hp, by rw [ht0, stI_eq]; rfl⟩ FU (FU_gt (by omega))
  exact ⟨s', by unfold gD_passNumber; rw [← ht0, f1]; rfl, f2⟩
/-- the class's token -/
theorem c_tok (h : CTp l T s) (hp : s.1 3 4 = nI p) (hpl : p ≤ l) : ∃ s', gD_takeToken s = some s' ∧ Fp (fun a k => a = 3 ∧ 4 ≤ k ∧ k ≤ 7) s s' ∧ s'.1 3 6 = nI (tSt l T p) ∧ s'.1 3 5 = nI (tKd l T (tSt l T p)) ∧ s'.1 3 4 = nI (tSt l T p + tLn l T (tSt l T p)) ∧ (tKd l T (tSt l T p) = 2 → s'.1 3 7 = nI (vC T (tSt l T p) (tLn l T (tSt l T p)))) := by
  obtain ⟨s1, f1, f2, f3⟩ := c_blank h hp hpl
  have hq := tS_le (l := l) (T := T) hpl
  have h600 := h.1
  generalize tSt l T p = q at *
  obtain ⟨t0, ht0⟩ : ∃ t0, t0 = stI s1 3 6 (nI q) := ⟨_, rfl⟩
  have g0 : Fp (fun a k => a = 3 ∧ 4 ≤ k ∧ k ≤ 7) s t0 := (f2.wid (fun a k z => by omega)).tr (by rw [ht0]; exact Fp.st ⟨rfl, by omega, by omega⟩)
  have c0 := h.fp g0 (fun a k z => Or.inl z.1)
  have e4 : t0.1 3 4 = nI q := by rw [ht0, stI_nk (by omega)]; exact f3
  have e6 : t0.1 3 6 = nI q := by rw [ht0, stI_eq]
  unfold gD_takeToken
  rw [f1, Option.bind_some, f3, ← ht0, e4, c0.2.1]
  unfold tKd tLn
  by_cases hl : q < l
  · obtain ⟨d1, d2⟩ := c0.2.2 q hl
    rw [if_pos (nI_lt hl (by omega)), rd_n (by omega) (by omega), Option.bind_some, d2, cc_le d1, Option.bind_some, if_pos hl, if_pos hl]
    cases hle : isLe T q with
    | true =>
      obtain ⟨t1, x1, x2, x3⟩ := c_word (s := stI t0 3 5 (1 : Int32)) (p := q) (c0.fp (P := fun a k => a = 3 ∧ k = 5) (Fp.st ⟨rfl, rfl⟩) (fun a k z => Or.inl z.1)) (by rw [stI_nk (by omega)]; exact e4) (by omega)
      refine ⟨t1, ?_, (g0.tr (Fp.st ⟨rfl, by omega, by omega⟩)).tr (x2.wid (fun a k z => by omega)), ?_, ?_, ?_, fun z => by cases z⟩
      · rw [show decide (97 ≤ T q ∧ T q ≤ 122) = true from hle, bz_t, if_neg (by decide), x1, Option.bind_some, Option.bind_some]
      · rw [x2.1 3 6 (by omega), stI_nk (by omega)]; exact e6
      · rw [x2.1 3 5 (by omega), stI_eq]; rfl
      · rw [x3]; rfl
    | false =>
      rw [show decide (97 ≤ T q ∧ T q ≤ 122) = false from hle, bz_f, if_pos rfl, Option.bind_some, cc_di d1, Option.bind_some, if_neg (show ¬ (false : Bool) = true by decide), if_neg (show ¬ (false : Bool) = true by decide)]
      cases hdi : isDi T q with
      | true =>
        obtain ⟨t1, x1, x2, x3, x4⟩ := c_num (s := stI t0 3 5 (2 : Int32)) (p := q) (c0.fp (P := fun a k => a = 3 ∧ k = 5) (Fp.st ⟨rfl, rfl⟩) (fun a k z => Or.inl z.1)) (by rw [stI_nk (by omega)]; exact e4) (by omega)
        refine ⟨t1, ?_, (g0.tr (Fp.st ⟨rfl, by omega, by omega⟩)).tr (x2.wid (fun a k z => by omega)), ?_, ?_, ?_, fun _ => ?_⟩
        · rw [show decide (48 ≤ T q ∧ T q ≤ 57) = true from hdi, bz_t, if_neg (by decide), x1, Option.bind_some, Option.bind_some]
        · rw [x2.1 3 6 (by omega), stI_nk (by omega)]; exact e6
        · rw [x2.1 3 5 (by omega), stI_eq]; rfl
        · rw [x3]; rfl
        · rw [x4]; rfl
      | false =>
        rw [show decide (48 ≤ T q ∧ T q ≤ 57) = false from hdi, bz_f, if_pos rfl, Option.bind_some, if_neg (show ¬ (false : Bool) = true by decide), if_neg (show ¬ (false : Bool) = true by decide)]
        rw [show (59 : Int32) = nI 59 from rfl, ite_iff (nI_eq (a := T q) (b := 59) (by omega) (by omega))]
        have es : (if T q = 59 then some (3 : Int32) else some (4 : Int32)) = some (nI (if T q = 59 then 3 else 4)) := by split <;> rfl
        rw [es, Option.bind_some, Option.bind_some, Option.bind_some, stI_nk (by omega), e4, nI_1]
        refine ⟨_, rfl, (g0.tr (Fp.st ⟨rfl, by omega, by omega⟩)).tr (Fp.st ⟨rfl, by omega, by omega⟩), ?_, ?_, stI_eq, fun z => ?_⟩
        · rw [stI_nk (by omega), stI_nk (by omega)]; exact e6
        · rw [stI_nk (by omega), stI_eq]
        · exfalso
          split at z <;> cases z
  · rw [if_neg (nlt (by omega) (by omega) hl), if_neg hl, if_neg hl, Option.bind_some]
    refine ⟨_, rfl, g0.tr (Fp.st ⟨rfl, by omega, by omega⟩), ?_, stI_eq, ?_, fun z => by cases z⟩
    · rw [stI_nk (by omega)]; exact e6
    · rw [stI_nk (by omega)]; exact e4
end TOK
