/-! THE MODEL AS IT IS: shows laid, the setup -/
theorem stI_fn {s : mT} {a k i : Nat} {x : Int32} (h : i ≠ a) : (stI s a k x).1 i = s.1 i := funext (fun _ => stI_ne h)
def luN (D : RD) (ex : Nat → Bool) : Nat → Nat → Nat
  | 0, _ => 0
  | m + 1, n => if ex m = false ∧ D 16 m = n then max (luN D ex m n) (D 15 m) else luN D ex m n
theorem luN_s (D : RD) (ex : Nat → Bool) (m n : Nat) : luN D ex (m + 1) n = if ex m = false ∧ D 16 m = n then max (luN D ex m n) (D 15 m) else luN D ex m n := rfl
theorem luN_sh {D : RD} {ex : Nat → Bool} {n w : Nat} (hw : 1 ≤ D 11 w) : ∀ m, decide (D 11 w ≤ luN D ex m n) = shK D ex m n w := by
  intro m
  induction m with
  | zero => exact decide_eq_false (by unfold luN; omega)
  | succ m ih =>
    unfold luN shK
    rw [← ih]
    cases he : ex m
    · by_cases h : D 16 m = n
      · rw [if_pos ⟨rfl, h⟩, decide_eq_true h]
        by_cases h1 : D 11 w ≤ luN D ex m n <;> by_cases h2 : D 11 w ≤ D 15 m <;> simp [h1, h2] <;> omega
      · rw [if_neg (fun z => h z.2), decide_eq_false h]
        simp
    · rw [if_neg (fun z => absurd z.1 (by decide))]
      simp
theorem luN_le {D : RD} {ex : Nat → Bool} {n : Nat} (hV : VD D) : ∀ m, m ≤ D 7 0 → luN D ex m n ≤ 9 := by
  intro m
  induction m with
  | zero => intro _; exact Nat.zero_le _
  | succ m ih =>
    intro hm
    have h1 := ih (by omega)
    have h2 := (hV.2.2.2.1 m (by omega)).2.1
    unfold luN
    split <;> omega
/-- a setup by its parts: law, starts, needs, first looks, whose eyes are drawn away -/
def tX (D : RD) (lw : Nat) (st nd fo : Nat → Nat) (sl : Nat → Nat → Bool) : SU := (lw, st, nd, fo, alK D (D 8 0), fun n w => !sl n w && !snK D (D 8 0) n w)
theorem tS_tX (D : RD) (sl : Nat → Nat → Bool) : tS D sl = tX D (D 1 0) (D 9) (D 10) (D 14) sl := rfl
def MPB (D : RD) (lw : Nat) (st nd fo lu : Nat → Nat) (m : Nat) (s : mT) : Prop :=
  (s.1 294 19 = nI lw ∧ lw ≤ 3) ∧
  (∀ b, b < D 5 0 → (s.1 301 b = nI (st b) ∧ st b ≤ 30) ∧ s.1 302 b = nI (nd b) ∧ 1 ≤ nd b ∧ nd b ≤ 9) ∧
  (∀ w, w < D 6 0 → s.1 303 w = nI (fo w) ∧ fo w < D 5 0) ∧
  (∀ n, n ≤ 20 → s.1 304 n = nI (lu n) ∧ lu n ≤ 9) ∧ (s.1 294 20 = nI m ∧ m < 2 ^ 31)
def pS (a _k : Nat) : Prop := a = 304
def pA (a k : Nat) : Prop := (301 ≤ a ∧ a ≤ 304) ∨ (a = 294 ∧ (k = 19 ∨ k = 20))
section MX
variable {n w b lw m : Nat} {s s' : mT} {D : RD} {st nd fo lu : Nat → Nat} {sl : Nat → Nat → Bool}
theorem MPB.mp (h : MPB D lw st nd fo lu m s) (hs : ∀ n w, n < D 0 0 → w < D 6 0 → sl n w = s0N D lu m n w) : MP D (tX D lw st nd fo sl) lu m s := by
  obtain ⟨h1, h2, h3, h4, h5⟩ := h
  refine ⟨h1, h2, h3, fun n w _ _ => rfl, h4, h5, fun n w hn hw => ?_⟩
  show (!sl n w && !snK D (D 8 0) n w) = _
  unfold awN
  rw [hs n w hn hw, Bool.not_or]
theorem MPB.fp {P : Nat → Nat → Prop} (h : MPB D lw st nd fo lu m s) (hf : Fp P s s') (hP : ∀ a k, P a k → ¬ pA a k) : MPB D lw st nd fo lu m s' := by
  obtain ⟨h1, h2, h3, h4, h5⟩ := h
  have q : ∀ a k, pA a k → s'.1 a k = s.1 a k := fun a k hp => hf.1 a k (fun z => hP a k z hp)
  refine ⟨⟨(q 294 19 (by unfold pA; omega)).trans h1.1, h1.2⟩, fun b hb => ?_, fun w hw => ?_, fun n hn => ?_, (q 294 20 (by unfold pA; omega)).trans h5.1, h5.2⟩
  · rw [q 301 b (by unfold pA; omega), q 302 b (by unfold pA; omega)]
    exact h2 b hb
  · rw [q 303 w (by unfold pA; omega)]
    exact h3 w hw
  · rw [q 304 n (by unfold pA; omega)]
    exact h4 n hn
theorem MA_fp {P : Nat → Nat → Prop} (h : MA (s.1 295) D) (hf : Fp P s s') (hP : ∀ k, ¬ P 295 k) : MA (s'.1 295) D := by
  rw [hf.fn hP]
  exact h
theorem goX (hV : VD D) (hM : MA (s.1 295) D) (hP : MPB D lw st nd fo lu m s) (hs : ∀ n w, n < D 0 0 → w < D 6 0 → sl n w = s0N D lu m n w) : ∃ s', gM_goAll s = some s' ∧ Fp pG s s' ∧ MA (s'.1 295) D ∧ MPB D lw st nd fo lu m s' ∧ MW D (tX D lw st nd fo sl) s' ∧ OWN D (tX D lw st nd fo sl) lu m s' := by
  obtain ⟨s', f1, f2, f3, f4⟩ := goAll_is hV hM (hP.mp hs)
  exact ⟨s', f1, f2, MA_fp hM f2 (fun k => by unfold pG; omega), hP.fp f2 (fun a k h => by unfold pG at h; unfold pA; omega), f3, f4⟩
theorem layShows_is {v : Int32} {ex : Nat → Bool} (hV : VD D) (hM : MA (s.1 295) D) (hex : ∀ k, k < D 7 0 → (nI k = v ↔ ex k = true)) : ∃ s', gM_layShows v s = some s' ∧ Fp pS s s' ∧ ∀ n, n ≤ 20 → s'.1 304 n = nI (luN D ex (D 7 0) n) := by
  have hV2 := hV
  obtain ⟨⟨v1, v2, v3, v4, v5, v6, v7, v8, v9⟩, vB, vW, vS, vA, v0⟩ := hV
  have hSn := hM.1.2.2.2.2.2.2.1
  obtain ⟨s1, f1, g1, g2⟩ := wh_cnt (f := gM_layShows_h2 v) (fun j s1 => Fp pS s s1 ∧ ∀ n, n < j → s1.1 304 n = 0) (fun s1 => Fp pS s s1 ∧ ∀ n, n ≤ 20 → s1.1 304 n = 0) 0 21 (by omega) (fun j _ hj s1 hI => by
    obtain ⟨q1, q2⟩ := hI
    refine ⟨stI s1 304 j 0, ?_, q1.tr (Fp.st rfl), fun n hn => ?_⟩
    · unfold gM_layShows_h2
      dsimp only
      rw [show (20 : Int32) = nI 20 from rfl, if_neg (fun z => absurd ((nI_ltI (by omega) (by omega)).mp z) (by omega)), wr_n (by omega) (by omega), Option.bind_some, nI_1]
    · rw [stI_at]
      by_cases h : n = j
      · rw [if_pos ⟨rfl, h⟩]
      · rw [if_neg (by omega)]
        exact q2 n (by omega)) (fun s1 hI => ⟨s1, rfl, hI.1, fun n hn => hI.2 n (by omega)⟩) (s := s) ⟨Fp.rfl', fun n hn => absurd hn (Nat.not_lt_zero _)⟩ (i := (0 : Int32)) rfl FU (FU_gt (by omega))
  obtain ⟨s2, f2, g3, g4⟩ := wh_cnt (f := gM_layShows_h23 v) (fun j s1 => Fp pS s s1 ∧ ∀ n, n ≤ 20 → s1.1 304 n = nI (luN D ex j n)) (fun s1 => Fp pS s s1 ∧ ∀ n, n ≤ 20 → s1.1 304 n = nI (luN D ex (D 7 0) n)) 0 (D 7 0) (by omega) (fun j _ hj s1 hI => by
    obtain ⟨q1, q2⟩ := hI
    have e295 : s1.1 295 = s.1 295 := q1.fn (fun k => by unfold pS; omega)
    have e9 : ¬ D 7 0 ≤ j := by omega
    obtain ⟨x1, x2, x3⟩ := vS j hj
    obtain ⟨y1, y2⟩ := hM.2.2.2.1 j hj
    have hle := luN_le (ex := ex) (n := D 16 j) hV2 j (by omega)
    by_cases h : ex j = true
    · refine ⟨s1, ?_, q1, fun n hn => ?_⟩
      · unfold gM_layShows_h23
        dsimp only
        rw [show (6 : Int32) = nI 6 from rfl, rd_n (by omega) (by omega), e295, hSn, Option.bind_some, if_neg (fun z => e9 ((nI_leI (by omega) (by omega)).mp z)), if_pos ((hex j hj).mpr h), Option.bind_some, nI_1]
      · rw [q2 n hn]
        rw [luN_s, if_neg (fun z => by rw [h] at z; exact absurd z.1 (by decide))]
    · have h2 : ex j = false := by cases hh : ex j; rfl; exact absurd hh h
      refine ⟨stI s1 304 (D 16 j) (nI (max (luN D ex j (D 16 j)) (D 15 j))), ?_, q1.tr (Fp.st rfl), fun n hn => ?_⟩
      · unfold gM_layShows_h23
        dsimp only
        rw [show (6 : Int32) = nI 6 from rfl, rd_n (by omega) (by omega), e295, hSn, Option.bind_some, if_neg (fun z => e9 ((nI_leI (by omega) (by omega)).mp z)), if_neg (fun z => h ((hex j hj).mp z)), show (39 : Int32) = nI 39 from rfl, show (2 : Int32) = nI 2 from rfl, pk_mul, nI_add, nI_1, rd_n (by omega) (by omega), y2, Option.bind_some, Option.bind_some, rd_n (by omega) (by omega), q2 (D 16 j) (by omega), Option.bind_some, rd_n (by omega) (by omega), y1, Option.bind_some, imax_n (by omega) (by omega), wr_n (by omega) (by omega), Option.bind_some, Option.bind_some, nI_1]
      · rw [stI_at, luN_s]
        by_cases hnj : n = D 16 j
        · subst hnj
          rw [if_pos ⟨rfl, rfl⟩, if_pos ⟨h2, rfl⟩]
        · rw [if_neg (fun z => hnj z.2), if_neg (fun z => hnj z.2.symm)]
          exact q2 n hn) (fun s1 hI => by
    obtain ⟨q1, q2⟩ := hI
    have e295 : s1.1 295 = s.1 295 := q1.fn (fun k => by unfold pS; omega)
    refine ⟨s1, ?_, q1, q2⟩
    unfold gM_layShows_h23
    dsimp only
    rw [show (6 : Int32) = nI 6 from rfl, rd_n (by omega) (by omega), e295, hSn, Option.bind_some, if_pos (nI_le (Nat.le_refl _) (by omega))]) (s := s1) ⟨g1, fun n hn => g2 n hn⟩ (i := (0 : Int32)) rfl FU (FU_gt (by omega))
  refine ⟨s2, ?_, g3, g4⟩
  unfold gM_layShows
  rw [f1, Option.bind_some, f2]
  rfl
theorem asItIs_is (hV : VD D) (hM : MA (s.1 295) D) : ∃ s', gM_asItIs s = some s' ∧ Fp pA s s' ∧ MA (s'.1 295) D ∧ MPB D (D 1 0) (D 9) (D 10) (D 14) (luN D (fun _ => false) (D 7 0)) 0 s' := by
  have hV2 := hV
  obtain ⟨⟨v1, v2, v3, v4, v5, v6, v7, v8, v9⟩, vB, vW, vS, vA, v0⟩ := hV
  obtain ⟨t0, ht0⟩ : ∃ t0, t0 = stI (stI s 294 19 (nI (D 1 0))) 294 20 (0 : Int32) := ⟨_, rfl⟩
  have F0 : Fp pA s t0 := by rw [ht0]; exact (Fp.st (by unfold pA; omega)).tr (Fp.st (by unfold pA; omega))
  have a19 : t0.1 294 19 = nI (D 1 0) := by rw [ht0, stI_nk (by omega), stI_eq]
  have a20 : t0.1 294 20 = nI 0 := by rw [ht0, stI_eq]; rfl
  obtain ⟨s1, f1, g1, g2⟩ := wh_cnt (f := gM_asItIs_h17) (fun j s1 => Fp (fun a _ => a = 301 ∨ a = 302) t0 s1 ∧ ∀ b, b < j → s1.1 301 b = s.1 295 (9 + 2 * b) ∧ s1.1 302 b = s.1 295 (9 + 2 * b + 1)) (fun s1 => Fp (fun a _ => a = 301 ∨ a = 302) t0 s1 ∧ ∀ b, b < 5 → s1.1 301 b = s.1 295 (9 + 2 * b) ∧ s1.1 302 b = s.1 295 (9 + 2 * b + 1)) 0 5 (by omega) (fun j _ hj s1 hI => by
    obtain ⟨q1, q2⟩ := hI
    have e295 : s1.1 295 = s.1 295 := (q1.fn (fun k => by omega)).trans (F0.fn (fun k => by unfold pA; omega))
    refine ⟨stI (stI s1 301 j (s.1 295 (9 + 2 * j))) 302 j (s.1 295 (9 + 2 * j + 1)), ?_, q1.tr ((Fp.st (Or.inl rfl)).tr (Fp.st (Or.inr rfl))), fun b hb => ?_⟩
    · unfold gM_asItIs_h17
      dsimp only
      rw [show (5 : Int32) = nI 5 from rfl, if_neg (fun z => absurd ((nI_leI (by omega) (by omega)).mp z) (by omega)), show (9 : Int32) = nI 9 from rfl, show (2 : Int32) = nI 2 from rfl, pk_mul, nI_add, nI_1, rd_n (by omega) (by omega), Option.bind_some, e295, wr_n (by omega) (by omega), Option.bind_some, stI_fn (by omega), e295, rd_n (by omega) (by omega), Option.bind_some, wr_n (by omega) (by omega), Option.bind_some, nI_1]
    · rw [stI_ne (by omega), stI_at, stI_at]
      by_cases h : b = j
      · subst h
        rw [if_pos ⟨rfl, rfl⟩, if_pos ⟨rfl, rfl⟩]
        exact ⟨rfl, rfl⟩
      · rw [if_neg (by omega), if_neg (by omega), stI_ne (by omega)]
        exact q2 b (by omega)) (fun s1 hI => ⟨s1, rfl, hI.1, hI.2⟩) (s := t0) ⟨Fp.rfl', fun n hn => absurd hn (Nat.not_lt_zero _)⟩ (i := (0 : Int32)) rfl FU (FU_gt (by omega))
  have F1 : Fp pA s s1 := F0.tr (g1.wid (fun a k h => by unfold pA; omega))
  obtain ⟨s2, f2, g3, g4⟩ := wh_cnt (f := gM_asItIs_h66) (fun j s2 => Fp (fun a _ => a = 303) s1 s2 ∧ ∀ w, w < j → s2.1 303 w = s.1 295 (19 + 4 * w + 3)) (fun s2 => Fp (fun a _ => a = 303) s1 s2 ∧ ∀ w, w < 5 → s2.1 303 w = s.1 295 (19 + 4 * w + 3)) 0 5 (by omega) (fun j _ hj s2 hI => by
    obtain ⟨q1, q2⟩ := hI
    have e295 : s2.1 295 = s.1 295 := (q1.fn (fun k => by omega)).trans (F1.fn (fun k => by unfold pA; omega))
    refine ⟨stI s2 303 j (s.1 295 (19 + 4 * j + 3)), ?_, q1.tr (Fp.st rfl), fun b hb => ?_⟩
    · unfold gM_asItIs_h66 gM_of
      dsimp only
      rw [show (5 : Int32) = nI 5 from rfl, if_neg (fun z => absurd ((nI_leI (by omega) (by omega)).mp z) (by omega)), show (19 : Int32) = nI 19 from rfl, show (4 : Int32) = nI 4 from rfl, show (3 : Int32) = nI 3 from rfl, pk_mul, nI_add, nI_add, rd_n (by omega) (by omega), Option.bind_some, e295, Option.bind_some, wr_n (by omega) (by omega), Option.bind_some, nI_1]
    · rw [stI_at]
      by_cases h : b = j
      · subst h
        rw [if_pos ⟨rfl, rfl⟩]
      · rw [if_neg (by omega)]
        exact q2 b (by omega)) (fun s1 hI => ⟨s1, rfl, hI.1, hI.2⟩) (s := s1) ⟨Fp.rfl', fun n hn => absurd hn (Nat.not_lt_zero _)⟩ (i := (0 : Int32)) rfl FU (FU_gt (by omega))
  have F2 : Fp pA s s2 := F1.tr (g3.wid (fun a k h => by unfold pA; omega))
  have hM2 : MA (s2.1 295) D := MA_fp hM F2 (fun k => by unfold pA; omega)
  obtain ⟨s3, f3, g5, g6⟩ := layShows_is (v := (-1 : Int32)) (ex := fun _ => false) hV2 hM2 (fun k hk => ⟨fun z => absurd z (m1_n (by omega)), fun z => absurd z (by decide)⟩)
  have F3 : Fp pA s s3 := F2.tr (g5.wid (fun a k h => by unfold pS at h; unfold pA; omega))
  refine ⟨s3, ?_, F3, MA_fp hM F3 (fun k => by unfold pA; omega), ⟨?_, v2⟩, fun b hb => ?_, fun w hw => ?_, fun n hn => ⟨g6 n hn, luN_le hV2 _ (Nat.le_refl _)⟩, ?_, by omega⟩
  · unfold gM_asItIs
    rw [show rdI (s.1 295) 79 (1 : Int32) = some (nI (D 1 0)) from (rd_n (k := 1) (by omega) (by omega)).trans (congrArg some hM.1.2.1), Option.bind_some, ← ht0, f1, Option.bind_some, f2, Option.bind_some, f3]
    rfl
  · rw [g5.1 294 19 (by unfold pS; omega), g3.1 294 19 (by omega), g1.1 294 19 (by omega)]
    exact a19
  · obtain ⟨y1, y2⟩ := hM.2.1 b hb
    obtain ⟨y3, y4⟩ := vB b hb
    rw [g5.1 301 b (by unfold pS; omega), g3.1 301 b (by omega), (g2 b (by omega)).1, g5.1 302 b (by unfold pS; omega), g3.1 302 b (by omega), (g2 b (by omega)).2]
    exact ⟨⟨y1, y3⟩, y2, y4⟩
  · obtain ⟨y1, y2, y3, y4⟩ := hM.2.2.1 w hw
    obtain ⟨x1, x2, x3, x4, x5⟩ := vW w hw
    rw [g5.1 303 w (by unfold pS; omega), g4 w (by omega)]
    exact ⟨y4, by omega⟩
  · rw [g5.1 294 20 (by unfold pS; omega), g3.1 294 20 (by omega), g1.1 294 20 (by omega)]
    exact a20
theorem shs0 {ex : Nat → Bool} (hV : VD D) (hw : w < D 6 0) : shK D ex (D 7 0) n w = s0N D (luN D ex (D 7 0)) 0 n w := by
  unfold s0N
  rw [luN_sh (hV.2.2.1 w hw).1, Nat.zero_div]
  simp
theorem asksRace_is (hV : VD D) (hM : MA (s.1 295) D) : ∃ s', gM_asksRace s = some (bz (decide (0 < D 4 0)), s') ∧ Fp (fun a k => pA a k ∨ pG a k) s s' ∧ MA (s'.1 295) D ∧ MPB D (D 1 0) (D 9) (D 10) (D 14) (luN D (fun _ => false) (D 7 0)) 0 s' ∧ (0 < D 4 0 → MW D (tS D (fun n w => shK D (fun _ => false) (D 7 0) n w)) s' ∧ OWN D (tS D (fun n w => shK D (fun _ => false) (D 7 0) n w)) (luN D (fun _ => false) (D 7 0)) 0 s') := by
  obtain ⟨s1, f1, f2, f3, f4⟩ := asItIs_is hV hM
  have hl : D 4 0 < 2 ^ 31 := by have := hV.1.2.2.2.2.1; omega
  have hr1 := m_isRace (s := s1) f3.1.2.2.2.2.2.2.2.2 hl
  by_cases h : 0 < D 4 0
  · obtain ⟨s2, g1, g2, g3, g4, g5, g6⟩ := goX (sl := fun n w => shK D (fun _ => false) (D 7 0) n w) hV f3 f4 (fun n w _ hw => shs0 hV hw)
    have hr2 := m_isRace (s := s2) g3.1.2.2.2.2.2.2.2.2 hl
    refine ⟨s2, ?_, (f2.wid (fun a k h => Or.inl h)).tr (g2.wid (fun a k h => Or.inr h)), g3, g4, fun _ => ⟨g5, g6⟩⟩
    unfold gM_asksRace
    rw [f1, Option.bind_some, hr1, Option.bind_some, decide_eq_true h, bz_t, if_neg (by decide), g1, Option.bind_some, Option.bind_some, hr2, Option.bind_some, bz_ite, decide_eq_true h, bz_t]
  · refine ⟨s1, ?_, f2.wid (fun a k h => Or.inl h), f3, f4, fun z => absurd z h⟩
    unfold gM_asksRace
    rw [f1, Option.bind_some, hr1, Option.bind_some, decide_eq_false h, bz_f, if_pos rfl, Option.bind_some, hr1, Option.bind_some, bz_ite, decide_eq_false h, bz_f]
end MX
