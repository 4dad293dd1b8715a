/-! THE MODEL'S COURSE: looks by acts, eyes, the whole -/
/-- nothing changed but where P says -/
def Fp (P : Nat → Nat → Prop) (s s' : mT) : Prop := (∀ a k, ¬ P a k → s'.1 a k = s.1 a k) ∧ s'.2 = s.2
section FPS
variable {P P' : Nat → Nat → Prop} {s s' s'' : mT} {a k : Nat}
theorem Fp.rfl' : Fp P s s := ⟨fun _ _ _ => rfl, rfl⟩
theorem Fp.tr (h1 : Fp P s s') (h2 : Fp P s' s'') : Fp P s s'' := ⟨fun a k h => (h2.1 a k h).trans (h1.1 a k h), h2.2.trans h1.2⟩
theorem Fp.wid (h : Fp P s s') (hw : ∀ a k, P a k → P' a k) : Fp P' s s' := ⟨fun a k hn => h.1 a k (fun z => hn (hw a k z)), h.2⟩
theorem Fp.st {x : Int32} (h : P a k) : Fp P s (stI s a k x) := ⟨fun b j hb => by
  rw [stI_at, if_neg]
  rintro ⟨rfl, rfl⟩
  exact hb h, rfl⟩
theorem Fp.fn (h : Fp P s s') (hn : ∀ k, ¬ P a k) : s'.1 a = s.1 a := funext (fun k => h.1 a k (hn k))
end FPS
theorem bz_eq0 (b : Bool) : (bz b = 0) = (b = false) := propext (bz_0 b)
theorem bz_not (b : Bool) : (if bz b = 0 then some (1 : Int32) else some (0 : Int32)) = some (bz (!b)) := by cases b <;> rfl
def owS (D : RD) (n w now : Nat) (sn : Bool) (s : mT) : mT := if 0 < D 8 0 ∧ D 17 (D 8 0 - 1) = w ∧ D 19 (D 8 0 - 1) = n then stI (stI s 294 25 (nI ((alK D (D 8 0 - 1) n w).getD now))) 294 26 (bz (!(sn || snK D (D 8 0 - 1) n w))) else s
def s0N (D : RD) (lu : Nat → Nat) (m n w : Nat) : Bool := decide (m / 2 ^ w % 2 = 1) || decide (D 11 w ≤ lu n)
def awN (D : RD) (lu : Nat → Nat) (m n w : Nat) : Bool := !(s0N D lu m n w || snK D (D 8 0) n w)
def OW (D : RD) (lu : Nat → Nat) (m : Nat) (bs : Nat → Nat) (n : Nat) (s : mT) : Prop := s.1 294 25 = nI ((alK D (D 8 0 - 1) n (D 17 (D 8 0 - 1))).getD (bs (D 17 (D 8 0 - 1)))) ∧ s.1 294 26 = bz (!(s0N D lu m n (D 17 (D 8 0 - 1)) || snK D (D 8 0 - 1) n (D 17 (D 8 0 - 1))))
/-- the model is prepared as T says: lures lu, asleep m -/
def MP (D : RD) (T : SU) (lu : Nat → Nat) (m : Nat) (s : mT) : Prop :=
  (s.1 294 19 = nI T.1 ∧ T.1 ≤ 3) ∧
  (∀ b, b < D 5 0 → (s.1 301 b = nI (T.2.1 b) ∧ T.2.1 b ≤ 30) ∧ s.1 302 b = nI (T.2.2.1 b) ∧ 1 ≤ T.2.2.1 b ∧ T.2.2.1 b ≤ 9) ∧
  (∀ w, w < D 6 0 → s.1 303 w = nI (T.2.2.2.1 w) ∧ T.2.2.2.1 w < D 5 0) ∧
  (∀ n w, n ≤ D 0 0 → w < D 6 0 → T.2.2.2.2.1 n w = alK D (D 8 0) n w) ∧
  (∀ n, n ≤ 20 → s.1 304 n = nI (lu n) ∧ lu n ≤ 9) ∧ (s.1 294 20 = nI m ∧ m < 2 ^ 31) ∧
  ∀ n w, n < D 0 0 → w < D 6 0 → T.2.2.2.2.2 n w = awN D lu m n w
/-- the model's rows after goAll -/
def MW (D : RD) (T : SU) (s : mT) : Prop :=
  (∀ n b, n ≤ D 0 0 → b < D 5 0 → s.1 305 (5 * n + b) = nI (rP D T n b)) ∧
  (∀ n w, n ≤ D 0 0 → w < D 6 0 → s.1 306 (5 * n + w) = nI (rK D T n w)) ∧
  (∀ n b, n < D 0 0 → b < D 5 0 → s.1 307 (5 * n + b) = nI (rE D T n b)) ∧
  (∀ n, n < D 0 0 → s.1 308 n = nI (bmN (T.2.2.2.2.2 n) (D 6 0)))
def bsT (D : RD) (T : SU) (n w : Nat) : Nat := if n = 0 then T.2.2.2.1 w else turnN D T.1 (rP D T n) w (rK D T (n - 1) w)
def pLo (n a k : Nat) : Prop := (a = 306 ∧ 5 * n ≤ k ∧ k < 5 * n + 5) ∨ (a = 308 ∧ k = n) ∨ (a = 294 ∧ (k = 25 ∨ k = 26))
def pB (n a k : Nat) : Prop := (a = 307 ∧ 5 * n ≤ k ∧ k < 5 * n + 5) ∨ (a = 305 ∧ 5 * (n + 1) ≤ k ∧ k < 5 * (n + 1) + 5)
def pG (a k : Nat) : Prop := (305 ≤ a ∧ a ≤ 308) ∨ (a = 294 ∧ (k = 25 ∨ k = 26))
section MG
variable {n w b : Nat} {s : mT} {D : RD} {T : SU} {lu : Nat → Nat} {m : Nat}
theorem m_acts {now : Nat} {sn : Bool} (hV : VD D) (hM : MA (s.1 295) D) (hn : n ≤ 20) (hw : w < D 6 0) : wh FU (gM_goLooks_h77 (nI n) (nI w)) (nI now, bz sn, (0 : Int32), s) = some (nI ((alK D (D 8 0) n w).getD now), bz (sn || snK D (D 8 0) n w), owS D n w now sn s) := by
  obtain ⟨⟨v1, v2, v3, v4, v5, v6, v7, v8, v9⟩, vB, vW, vS, vA, v0⟩ := hV
  have hA := hM.1.2.2.2.2.2.2.2.1
  have hx0 : (nI now, bz sn, (0 : Int32), s) = (fun k => (nI ((alK D k n w).getD now), bz (sn || snK D k n w), nI k, if k = D 8 0 then owS D n w now sn s else s)) 0 := by
    dsimp only
    rw [show alK D 0 n w = none from rfl, show snK D 0 n w = false from rfl, Bool.or_false]
    by_cases h : 0 = D 8 0
    · rw [if_pos h]
      unfold owS
      rw [if_neg (fun z => absurd z.1 (by omega))]
      rfl
    · rw [if_neg h]; rfl
  rw [hx0]
  refine wh_for (fun k => (nI ((alK D k n w).getD now), bz (sn || snK D k n w), nI k, if k = D 8 0 then owS D n w now sn s else s)) (D 8 0) (fun k hk => ?_) ?_ FU (FU_gt (by omega))
  · obtain ⟨a1, a2, a3⟩ := vA k hk
    have hac := hM.2.2.2.2 k hk
    have e9 : ¬ D 8 0 ≤ k := by omega
    have hkA : ¬ k = D 8 0 := by omega
    have hA1 : nI (D 8 0) - (1 : Int32) = nI (D 8 0 - 1) := pk_sub (b := 1) (by omega)
    have h100 : ¬ nI 100 = (0 : Int32) := by decide
    have h1000 : ¬ nI 1000 = (0 : Int32) := by decide
    have h10 : ¬ nI 10 = (0 : Int32) := by decide
    have h1 : ¬ (1 : Int32) = 0 := by decide
    have ea : alK D (k + 1) n w = if D 17 k = w ∧ D 19 k = n ∧ D 18 k ≠ 0 then some (D 18 k - 1) else alK D k n w := rfl
    have es : snK D (k + 1) n w = (snK D k n w || (decide (D 17 k = w) && decide (D 19 k = n) && decide (D 18 k = 0))) := rfl
    have hst : (if k + 1 = D 8 0 then owS D n w now sn s else s) = if k = D 8 0 - 1 then (if D 17 k = w ∧ D 19 k = n then stI (stI s 294 25 (nI ((alK D k n w).getD now))) 294 26 (bz (!(sn || snK D k n w))) else s) else s := by
      by_cases h : k = D 8 0 - 1
      · rw [if_pos (by omega), if_pos h]
        unfold owS
        rw [← h]
        by_cases h2 : D 17 k = w ∧ D 19 k = n
        · rw [if_pos h2, if_pos ⟨by omega, h2⟩]
        · rw [if_neg h2, if_neg (fun z => h2 z.2)]
      · rw [if_neg (by omega), if_neg h]
    simp only [hst]
    by_cases h18 : D 18 k = 0
    · have hac2 : s.1 295 (49 + k) = nI (100000 + 100 * D 17 k + D 19 k) := by rw [hac]; unfold acN; rw [if_pos h18]
      have c1 : 100000 ≤ 100000 + 100 * D 17 k + D 19 k := by omega
      have c2 : (100000 + 100 * D 17 k + D 19 k - 100000) / 100 = D 17 k := by omega
      have c3 : (100000 + 100 * D 17 k + D 19 k) % 100 = D 19 k := by omega
      have r1 : nI (100000 + 100 * D 17 k + D 19 k) - nI (100000 + 100 * D 17 k + D 19 k) / nI 100 * nI 100 = nI (D 19 k) := by rw [pk_rem (by omega) (by omega) (by omega), c3]
      simp (disch := omega) only [gM_goLooks_h77, if_neg hkA, show (7 : Int32) = nI 7 from rfl, rd_n, hA, Option.bind_some, nI_leI, e9, if_false, show (49 : Int32) = nI 49 from rfl, nI_add, hac2, show (100000 : Int32) = nI 100000 from rfl, show (100 : Int32) = nI 100 from rfl, c1, if_true, h100, ↓r1, pk_sub, pk_div, c2, nI_eq, hA1, nI_1]
      by_cases x1 : D 17 k = w
      · by_cases x2 : D 19 k = n
        · simp only [x1, x2, if_true, bz_not, Option.bind_some, ea, es, h18, ne_eq, not_true_eq_false, and_false, if_false, decide_true, Bool.and_true, Bool.or_true, bz_t, and_self]
          by_cases x3 : k = D 8 0 - 1
          · simp only [x3, if_true, Option.bind_some]
          · simp only [x3, if_false, Option.bind_some]
        · simp only [x1, x2, if_true, if_false, Option.bind_some, ea, es, h18, ne_eq, not_true_eq_false, and_false, false_and, ite_self, decide_true, decide_false, Bool.and_false, Bool.false_and, Bool.or_false]
      · simp only [x1, if_false, Option.bind_some, ea, es, h18, ne_eq, not_true_eq_false, and_false, false_and, ite_self, decide_false, Bool.false_and, Bool.or_false]
    · have hac2 : s.1 295 (49 + k) = nI (1000 * D 17 k + 100 * (D 18 k - 1) + D 19 k) := by rw [hac]; unfold acN; rw [if_neg h18]
      have c1 : ¬ 100000 ≤ 1000 * D 17 k + 100 * (D 18 k - 1) + D 19 k := by omega
      have c2 : (1000 * D 17 k + 100 * (D 18 k - 1) + D 19 k) / 1000 = D 17 k := by omega
      have c3 : (1000 * D 17 k + 100 * (D 18 k - 1) + D 19 k) % 100 = D 19 k := by omega
      have c4 : (1000 * D 17 k + 100 * (D 18 k - 1) + D 19 k) / 100 % 10 = D 18 k - 1 := by omega
      have c5 : (1000 * D 17 k + 100 * (D 18 k - 1) + D 19 k) / 100 < 2 ^ 31 := by omega
      have r1 : nI (1000 * D 17 k + 100 * (D 18 k - 1) + D 19 k) - nI (1000 * D 17 k + 100 * (D 18 k - 1) + D 19 k) / nI 100 * nI 100 = nI (D 19 k) := by rw [pk_rem (by omega) (by omega) (by omega), c3]
      have r2 : nI (1000 * D 17 k + 100 * (D 18 k - 1) + D 19 k) / nI 100 - nI (1000 * D 17 k + 100 * (D 18 k - 1) + D 19 k) / nI 100 / nI 10 * nI 10 = nI (D 18 k - 1) := by rw [pk_div (by omega) (by omega) (by omega), pk_rem (by omega) (by omega) (by omega), c4]
      simp (disch := omega) only [gM_goLooks_h77, if_neg hkA, show (7 : Int32) = nI 7 from rfl, rd_n, hA, Option.bind_some, nI_leI, e9, if_false, show (49 : Int32) = nI 49 from rfl, nI_add, hac2, show (100000 : Int32) = nI 100000 from rfl, show (1000 : Int32) = nI 1000 from rfl, show (100 : Int32) = nI 100 from rfl, show (10 : Int32) = nI 10 from rfl, c1, h1, h100, h1000, h10, ↓r1, ↓r2, pk_div, c2, nI_eq, hA1, nI_1]
      by_cases x1 : D 17 k = w
      · by_cases x2 : D 19 k = n
        · simp only [x1, x2, if_true, if_false, bz_not, Option.bind_some, ea, es, h18, ne_eq, not_false_eq_true, and_true, and_self, decide_true, decide_false, Bool.and_false, Bool.or_false, Option.getD_some]
          by_cases x3 : k = D 8 0 - 1
          · simp only [x3, if_true, Option.bind_some]
          · simp only [x3, if_false, Option.bind_some]
        · simp only [x1, x2, if_true, if_false, Option.bind_some, ea, es, h18, and_false, false_and, ite_self, decide_true, decide_false, Bool.and_false, Bool.false_and, Bool.or_false]
      · simp only [x1, if_false, Option.bind_some, ea, es, h18, and_false, false_and, ite_self, decide_false, Bool.false_and, Bool.or_false]
  · simp (disch := omega) only [gM_goLooks_h77, show (7 : Int32) = nI 7 from rfl, rd_n, if_true]
    have : (owS D n w now sn s).1 295 = s.1 295 := by
      unfold owS
      split
      · funext j; rw [stI_ne (by omega), stI_ne (by omega)]
      · rfl
    rw [this, hA, Option.bind_some, if_pos (nI_le (Nat.le_refl _) (by omega))]
theorem owS_fp {now : Nat} {sn : Bool} : Fp (pLo n) s (owS D n w now sn s) := by
  unfold owS
  split
  · exact (Fp.st (by unfold pLo; omega)).tr (Fp.st (by unfold pLo; omega))
  · exact Fp.rfl'
theorem goLooks_is {lw : Nat} {p bs : Nat → Nat} (hV : VD D) (hM : MA (s.1 295) D) (hl : s.1 294 19 = nI lw) (hl3 : lw ≤ 3) (hn : n ≤ D 0 0) (hlu : s.1 304 n = nI (lu n) ∧ lu n ≤ 9) (hm : s.1 294 20 = nI m ∧ m < 2 ^ 31) (hp : ∀ b, b < D 5 0 → s.1 305 (5 * n + b) = nI (p b) ∧ p b ≤ 60) (hb0 : n = 0 → ∀ w, w < D 6 0 → s.1 303 w = nI (bs w)) (hb1 : n ≠ 0 → ∀ w, w < D 6 0 → ∃ v, v < 9 ∧ s.1 306 (5 * (n - 1) + w) = nI v ∧ bs w = turnN D lw p w v) (h0 : s.1 308 n = 0) : ∃ s', gM_goLooks (nI n) s = some s' ∧ Fp (pLo n) s s' ∧ (∀ w, w < D 6 0 → s'.1 306 (5 * n + w) = nI ((alK D (D 8 0) n w).getD (bs w))) ∧ s'.1 308 n = nI (bmN (awN D lu m n) (D 6 0)) ∧ (0 < D 8 0 → D 19 (D 8 0 - 1) = n → OW D lu m bs n s') ∧ (¬ (0 < D 8 0 ∧ D 19 (D 8 0 - 1) = n) → s'.1 294 25 = s.1 294 25 ∧ s'.1 294 26 = s.1 294 26) := by
  have hV2 := hV
  obtain ⟨⟨v1, v2, v3, v4, v5, v6, v7, v8, v9⟩, vB, vW, vS, vA, v0⟩ := hV
  have hWn := hM.1.2.2.2.2.2.1
  have e := wh_cnt (f := gM_goLooks_h2 (nI n)) (fun j s1 => Fp (pLo n) s s1 ∧ (∀ w, w < j → s1.1 306 (5 * n + w) = nI ((alK D (D 8 0) n w).getD (bs w))) ∧ s1.1 308 n = nI (bmN (awN D lu m n) j) ∧ (0 < D 8 0 → D 19 (D 8 0 - 1) = n → D 17 (D 8 0 - 1) < j → OW D lu m bs n s1) ∧ (¬ (0 < D 8 0 ∧ D 19 (D 8 0 - 1) = n) → s1.1 294 25 = s.1 294 25 ∧ s1.1 294 26 = s.1 294 26)) (fun s' => Fp (pLo n) s s' ∧ (∀ w, w < D 6 0 → s'.1 306 (5 * n + w) = nI ((alK D (D 8 0) n w).getD (bs w))) ∧ s'.1 308 n = nI (bmN (awN D lu m n) (D 6 0)) ∧ (0 < D 8 0 → D 19 (D 8 0 - 1) = n → OW D lu m bs n s') ∧ (¬ (0 < D 8 0 ∧ D 19 (D 8 0 - 1) = n) → s'.1 294 25 = s.1 294 25 ∧ s'.1 294 26 = s.1 294 26)) 0 (D 6 0) (Nat.zero_le _) (fun j _ hj s1 hI => by
    obtain ⟨q1, q2, q3, q4, q5⟩ := hI
    have e295 : s1.1 295 = s.1 295 := q1.fn (fun k => by unfold pLo; omega)
    have hM1 : MA (s1.1 295) D := by rw [e295]; exact hM
    have e19 : s1.1 294 19 = nI lw := (q1.1 294 19 (by unfold pLo; omega)).trans hl
    have e20 : s1.1 294 20 = nI m := (q1.1 294 20 (by unfold pLo; omega)).trans hm.1
    have e304 : s1.1 304 n = nI (lu n) := (q1.1 304 n (by unfold pLo; omega)).trans hlu.1
    have o0 := of_0 hV2 hM1 hj
    have hvj := vW j hj
    have e9 : ¬ D 6 0 ≤ j := by omega
    have hbase : (if nI n = 0 then (rdI (s1.1 303) 5 (nI j)).bind fun x8 => some x8 else (gM_onOf (nI j) (nI n - (1 : Int32)) s1).bind fun p5 => (gM_turned (nI j) (nI n) p5 s1).bind fun p6 => some p6) = some (nI (bs j)) := by
      by_cases hn0 : n = 0
      · rw [if_pos (by rw [hn0]; rfl), rd_n (by omega) (by omega), Option.bind_some, q1.1 303 j (by unfold pLo; omega), hb0 hn0 j hj]
      · obtain ⟨v, z1, z2, z3⟩ := hb1 hn0 j hj
        rw [if_neg (nI_ne0 (by omega) (by omega)), show nI n - (1 : Int32) = nI (n - 1) from pk_sub (b := 1) (by omega), on_is (by omega) (by omega), Option.bind_some, q1.1 306 (5 * (n - 1) + j) (by unfold pLo; omega), z2, m_turned (lw := lw) (p := p) hV2 hM1 e19 hl3 (by omega) (fun b hb => ⟨(q1.1 305 (5 * n + b) (by unfold pLo; omega)).trans (hp b hb).1, (hp b hb).2⟩) hj z1, Option.bind_some, z3]
    have hs0 : (if nI (m / 2 ^ j % 2) = (1 : Int32) then some (1 : Int32) else some (nI (D 11 j)) >>= fun p12 => (rdI (s1.1 304) 21 (nI n)).bind fun x14 => if x14 < p12 then some (0 : Int32) else some (1 : Int32)) = some (bz (s0N D lu m n j)) := by
      unfold s0N
      rw [show ((1 : Int32)) = nI 1 from rfl]
      have e2 : m / 2 ^ j % 2 < 2 := Nat.mod_lt _ (by decide)
      simp (disch := omega) only [nI_eq]
      by_cases h : m / 2 ^ j % 2 = 1
      · rw [if_pos h, decide_eq_true h]; rfl
      · rw [if_neg h, decide_eq_false h]
        show (rdI (s1.1 304) 21 (nI n)).bind _ = _
        rw [rd_n (by omega) (by omega), Option.bind_some, e304]
        simp (disch := omega) only [nI_ltI]
        by_cases h3 : lu n < D 11 j
        · rw [if_pos h3, decide_eq_false (by omega)]; rfl
        · rw [if_neg h3, decide_eq_true (by omega)]; rfl
    have hac := m_acts (n := n) (w := j) (s := s1) (now := bs j) (sn := s0N D lu m n j) hV2 hM1 (by omega) hj
    have of1 := owS_fp (n := n) (w := j) (s := s1) (D := D) (now := bs j) (sn := s0N D lu m n j)
    generalize hs2 : owS D n j (bs j) (s0N D lu m n j) s1 = s2 at hac of1
    have e308 : s2.1 308 n = nI (bmN (awN D lu m n) j) := by
      rw [← q3, ← hs2]
      unfold owS
      split
      · rw [stI_ne (by omega), stI_ne (by omega)]
      · rfl
    have e306 : ∀ k, s2.1 306 k = s1.1 306 k := fun k => by
      rw [← hs2]
      unfold owS
      split
      · rw [stI_ne (by omega), stI_ne (by omega)]
      · rfl
    have hx : (if bz (s0N D lu m n j || snK D (D 8 0) n j) = 0 then some ((1 : Int32) <<< (nI j &&& 31)) else some (0 : Int32)) = some (nI (if awN D lu m n j = true then 2 ^ j else 0)) := by
      unfold awN
      cases s0N D lu m n j || snK D (D 8 0) n j
      · rw [bz_f, if_pos rfl, sh_1 (by omega)]; rfl
      · rfl
    have hor : nI (bmN (awN D lu m n) j) ||| nI (if awN D lu m n j = true then 2 ^ j else 0) = nI (bmN (awN D lu m n) (j + 1)) := by
      by_cases h : awN D lu m n j = true
      · rw [if_pos h, ← sh_1 (show j < 31 by omega), or_new (by omega)]
        rw [bm_s, if_pos h]
      · rw [if_neg h, nI_or, Nat.or_zero]
        rw [bm_s, if_neg h, Nat.add_zero]
    refine ⟨stI (stI s2 306 (5 * n + j) (nI ((alK D (D 8 0) n j).getD (bs j)))) 308 n (nI (bmN (awN D lu m n) (j + 1))), ?_, ?_, ?_, ?_, ?_, ?_⟩
    · unfold gM_goLooks_h2
      dsimp only
      rw [show (5 : Int32) = nI 5 from rfl, rd_n (by omega) (by omega), e295, hWn, Option.bind_some, if_neg (fun z => e9 ((nI_leI (by omega) (by omega)).mp z))]
      rw [← show (5 : Int32) = nI 5 from rfl, hbase, Option.bind_some]
      unfold gM_bit
      rw [Option.bind_some, e20, shr_b hm.2 (by omega), o0]
      rw [show ((if nI (m / 2 ^ j % 2) = (1 : Int32) then some (1 : Int32) else (some (nI (D 11 j))).bind fun p12 => (rdI (s1.1 304) 21 (nI n)).bind fun x14 => if x14 < p12 then some (0 : Int32) else some (1 : Int32)) = some (bz (s0N D lu m n j))) from hs0, Option.bind_some, hac, Option.bind_some]
      dsimp only
      rw [show (5 : Int32) = nI 5 from rfl, pk_mul, nI_add, wr_n (by omega) (by omega), Option.bind_some, rd_n (by omega) (by omega), Option.bind_some, hx, Option.bind_some, stI_ne (by omega), e308, hor, wr_n (by omega) (by omega), Option.bind_some, nI_1]
    · exact q1.tr (of1.tr ((Fp.st (by unfold pLo; omega)).tr (Fp.st (by unfold pLo; omega))))
    · intro w hw
      rw [stI_ne (by omega), stI_at]
      by_cases hwj : w = j
      · subst hwj; rw [if_pos ⟨rfl, rfl⟩]
      · rw [if_neg (by omega), e306]
        exact q2 w (by omega)
    · rw [stI_eq]
    · intro z1 z2 z3
      unfold OW
      rw [stI_ne (by omega), stI_ne (by omega), stI_ne (by omega), stI_ne (by omega)]
      by_cases hwj : D 17 (D 8 0 - 1) = j
      · rw [← hs2]
        unfold owS
        rw [if_pos ⟨z1, hwj, z2⟩, hwj]
        exact ⟨by rw [stI_nk (by omega), stI_eq], by rw [stI_eq]⟩
      · have := q4 z1 z2 (by omega)
        rw [← hs2]
        unfold owS
        rw [if_neg (fun z => hwj z.2.1)]
        exact this
    · intro z
      rw [stI_ne (by omega), stI_ne (by omega), stI_ne (by omega), stI_ne (by omega)]
      rw [← hs2]
      unfold owS
      rw [if_neg (fun z2 => z ⟨z2.1, z2.2.2⟩)]
      exact q5 z) (fun s1 hI => by
    obtain ⟨q1, q2, q3, q4, q5⟩ := hI
    have e295 : s1.1 295 = s.1 295 := q1.fn (fun k => by unfold pLo; omega)
    refine ⟨s1, ?_, q1, q2, q3, fun z1 z2 => q4 z1 z2 (vA _ (by omega)).1, q5⟩
    unfold gM_goLooks_h2
    dsimp only
    rw [show (5 : Int32) = nI 5 from rfl, rd_n (by omega) (by omega), e295, hWn, Option.bind_some, if_pos (nI_le (Nat.le_refl _) (by omega))]) (s := s) ⟨Fp.rfl', fun w hw => absurd hw (Nat.not_lt_zero _), h0, fun _ _ z => absurd z (Nat.not_lt_zero _), fun _ => ⟨rfl, rfl⟩⟩ (i := (0 : Int32)) rfl FU (FU_gt (by omega))
  obtain ⟨s', f1, f2⟩ := e
  refine ⟨s', ?_, f2⟩
  unfold gM_goLooks
  rw [f1]
  rfl
end MG
