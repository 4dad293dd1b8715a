/-! SHARE -/
theorem wh_pc {S R : Type} {f : S → Option (S ⊕ R)} (I : S → Prop) (Q : R → Prop) (h1 : ∀ q q', I q → f q = some (.inl q') → I q') (h2 : ∀ q r, I q → f q = some (.inr r) → Q r) : ∀ n q r, I q → wh n f q = some r → Q r
  | 0, _, _, _, h => by cases h
  | n + 1, q, r, hI, h => by
    unfold wh at h
    obtain ⟨x, hx, h⟩ := bd h
    cases x with
    | inl q' => exact wh_pc I Q h1 h2 n q' r (h1 q q' hI hx) h
    | inr r' =>
      cases h
      exact h2 q r hI hx
theorem wrI_fr {s s' : mT} {a n : Nat} {i x : Int32} (h : wrI s a n i x = some s') : Fr a (a + 1) s s' := by
  unfold wrI at h
  split at h
  · cases h; exact Fr.st (by omega) (by omega)
  · cases h
def facN : Nat → Nat
  | 0 => 1
  | n + 1 => facN n * (n + 1)
theorem pcN_hi {x m : Nat} (h : x < 2 ^ m) : ∀ j, pcN x (m + j) = pcN x m := by
  intro j
  induction j with
  | zero => rfl
  | succ j ih =>
    show pcN x (m + j) + (if decide (x / 2 ^ (m + j) % 2 = 1) = true then 1 else 0) = _
    rw [Nat.div_eq_of_lt (Nat.lt_of_lt_of_le h (Nat.pow_le_pow_right (by decide) (by omega))), if_neg (by decide), ih]
    rfl
theorem pc_lt {x W w : Nat} (h : x < 2 ^ W) (hW : W ≤ 20) (hw : w < W) (hb : ¬ x / 2 ^ w % 2 = 1) : pcN x 20 < W := by
  have := pcN_hi h (20 - W)
  rw [show W + (20 - W) = 20 by omega] at this
  rw [this]
  exact cnt_lt_n ⟨w, hw, decide_eq_false hb⟩
theorem labs_i (x : Int32) : ∃ a, a < 2 ^ 63 ∧ labs x.toInt64 = lN a := by
  have h1 := x.toInt_lt
  have h2 := x.le_toInt
  have e := Int32.toInt_toInt64 x
  show ∃ a, a < 2 ^ 63 ∧ (if 0 < x.toInt64 then x.toInt64 else -x.toInt64) = lN a
  by_cases h : 0 < x.toInt64
  · rw [if_pos h]
    rw [Int64.lt_iff_toInt_lt, e, show (0 : Int64).toInt = 0 from rfl] at h
    refine ⟨x.toInt.toNat, by omega, ?_⟩
    apply Int64.toInt_inj.mp
    rw [pk_lT (by omega), e]
    omega
  · rw [if_neg h]
    rw [Int64.lt_iff_toInt_lt, e, show (0 : Int64).toInt = 0 from rfl] at h
    refine ⟨(-x.toInt).toNat, by omega, ?_⟩
    apply Int64.toInt_inj.mp
    rw [pk_lT (by omega), Int64.toInt_neg, e, Int.bmod_def]
    split <;> omega
theorem xor2 (x : Int32) : (x ^^^ (-1 : Int32)) ^^^ (-1 : Int32) = x := by
  apply Int32.toBitVec.inj
  show (x.toBitVec ^^^ (-1 : Int32).toBitVec) ^^^ (-1 : Int32).toBitVec = x.toBitVec
  rw [BitVec.xor_assoc, BitVec.xor_self, BitVec.xor_zero]
theorem bm_and {p : Nat → Bool} {W m : Nat} : nI (bmN p W) &&& nI m = nI (bmN (fun w => p w && decide (m / 2 ^ w % 2 = 1)) W) := by
  rw [nI_and]
  congr 1
  apply Nat.eq_of_testBit_eq
  intro i
  rw [Nat.testBit_and, bm_tb, bm_tb, Nat.testBit_eq_decide_div_mod_eq, Bool.and_assoc]
theorem hu_sh {p : Nat → Bool} {W k : Nat} : nI (bmN p W) &&& ((nI k ^^^ (-1 : Int32)) ^^^ (-1 : Int32)) = nI (bmN (fun w => p w && !(!decide (k / 2 ^ w % 2 = 1))) W) := by
  rw [xor2, bm_and]
  exact congrArg nI (bmN_congr (fun w _ => by rw [Bool.not_not]))
theorem all_and {W k : Nat} : nI (bmN (fun _ => true) W) &&& (nI k ^^^ (-1 : Int32)) = nI (bmN (fun w => !decide (k / 2 ^ w % 2 = 1)) W) := nI_andn (fun i hi => by
  rw [bm_tb, bm_tb, Nat.testBit_eq_decide_div_mod_eq, Bool.and_true])
def smI (f : Nat → Int32) : Nat → Int32
  | 0 => 0
  | n + 1 => smI f n + f n
abbrev saT (D : RD) (k : Nat) : SU := tX D (D 1 0) (D 9) (D 10) (D 14) (huS (sh0 D) (fun w => !decide (k / 2 ^ w % 2 = 1)))
def wvI (D : RD) (b k : Nat) : Int32 := nI (rP D (saT D k) (D 0 0) b) - nI (rP D (saT D k) 0 b)
def shF (D : RD) (b w k : Nat) : Int32 := (nI (facN (pcN k 20)) * nI (facN (D 6 0 - 1 - pcN k 20))) * (wvI D b (k ||| 2 ^ w) - wvI D b k)
def shG (D : RD) (b w : Nat) : Nat → Int32
  | 0 => 0
  | k + 1 => if k / 2 ^ w % 2 = 1 then shG D b w k else shG D b w k + shF D b w k
section SHR
variable {n w b k m : Nat} {s s' : mT} {D : RD} {xs : Nat → Int32} {T : SU} {lw : Nat} {st nd fo lu : Nat → Nat} {sl : Nat → Nat → Bool}
theorem fr_hush {x : Int32} (h : gC_hush 121 x s = some s') : Fr 147 148 s s' := by
  unfold gC_hush at h
  obtain ⟨q, h1, h2⟩ := bd h
  cases h2
  refine wh_pc (f := gC_hush_h2 121 x) (fun q => Fr 147 148 s q.2) (fun r => Fr 147 148 s r) (fun q q' hI hq => ?_) (fun q r hI hq => ?_) FU _ _ Fr.rfl' h1
  · unfold gC_hush_h2 at hq
    split at hq
    · cases hq
    · obtain ⟨y, y1, hq⟩ := bd hq
      obtain ⟨z, z1, hq⟩ := bd hq
      cases hq
      exact hI.tr (wrI_fr z1)
  · unfold gC_hush_h2 at hq
    split at hq
    · cases hq; exact hI
    · obtain ⟨y, y1, hq⟩ := bd hq
      obtain ⟨z, z1, hq⟩ := bd hq
      cases hq
theorem fr_prep (h : IV xs D s) (hp : gC_prepare 121 s = some s') : Fr 121 148 s s' := by
  obtain ⟨s1, f1, f2, f3⟩ := prepW_is (c := 121) (s := s) (v := (-1 : Int32)) (ex := fun _ => false) (Or.inr rfl) h.V h.R (fun k hk => ⟨fun z => absurd z (m1_n (by have := h.bd; omega)), fun z => by cases z⟩)
  unfold gC_prepare at hp
  rw [f1] at hp
  cases hp
  exact f2
theorem fr_sail {M : Nat} (h : IV xs D s) (hP : PR 121 D T s) (hl : T.1 ≤ 3) (hM : M ≤ D 0 0) (hp : gC_sail 121 (nI M) s = some s') : Fr 149 214 s s' := by
  obtain ⟨s1, f1, f2, f3⟩ := sail_is (c := 121) (Or.inr rfl) h.V h.R hP hl hM
  rw [f1] at hp
  cases hp
  exact f2
theorem fp_go (h : IV xs D s) (hP : MPB D lw st nd fo lu m s) (hs : ∀ n w, n < D 0 0 → w < D 6 0 → sl n w = s0N D lu m n w) (hp : gM_goAll s = some s') : Fp pG s s' := by
  obtain ⟨s1, f1, f2, -⟩ := goX h.V h.M hP hs
  rw [f1] at hp
  cases hp
  exact f2
theorem c_make (h : IV xs D s) (hb : b < D 5 0) : ∃ s', gH_makeFor (nI b) s = some s' ∧ KP s s' ∧ IV xs D s' ∧ ∀ k, k < 2 ^ D 6 0 → s'.1 233 k = wvI D b k := by
  have hd := h.bd
  have h2 : 2 ^ D 6 0 ≤ 2 ^ 5 := Nat.pow_le_pow_right (by omega) (by omega)
  obtain ⟨s1, f1, f2⟩ := wh_cnt (f := gH_makeFor_h2 (nI b)) (fun k t => KP s t ∧ IV xs D t ∧ ∀ j, j < k → t.1 233 j = wvI D b j) (fun t => KP s t ∧ IV xs D t ∧ ∀ k, k < 2 ^ D 6 0 → t.1 233 k = wvI D b k) 0 (2 ^ D 6 0) (Nat.zero_le _) (fun k _ hk t hI => by
    obtain ⟨i1, i2, i3⟩ := hI
    obtain ⟨t1, y1, y2, y3, y4⟩ := i2.prep
    have fr1 := fr_prep i2 y1
    obtain ⟨t2, z1, z2, z3, z4⟩ := y3.hush (x := nI k ^^^ (-1 : Int32)) (as := fun w => !decide (k / 2 ^ w % 2 = 1)) y4 (fun p => hu_sh)
    have fr2 := fr_hush z1
    obtain ⟨t3, x1, x2, x3, x4, x5⟩ := z3.sail z4 h.V.1.2.1 (Nat.le_refl _)
    have fr3 := fr_sail z3 z4 h.V.1.2.1 (Nat.le_refl _) x1
    have e233 : t3.1 233 = t.1 233 := (fr3.1 233 (by omega)).trans ((fr2.1 233 (by omega)).trans (fr1.1 233 (by omega)))
    have pN := x5.2.2.1 (D 0 0) b (Nat.le_refl _) hb
    have p0 := x5.2.2.1 0 b (Nat.zero_le _) hb
    refine ⟨stI t3 233 k (wvI D b k), ?_, i1.tr (y2.tr (z2.tr (x2.tr (KP.st (by unfold pK; omega))))), x3.wr (by unfold pK; omega), fun j hj => ?_⟩
    · unfold gH_makeFor_h2
      dsimp only
      rw [i2.W, sh_1 (by omega), if_neg (nle (by omega) (by omega) (by omega)), y1, Option.bind_some, z1, Option.bind_some, z3.N, x1, Option.bind_some, x3.N, ix_ite (by omega) (by omega), nI_clamp (by omega), rd_n (by omega) (by omega), Option.bind_some, show t3.1 (149 + D 0 0) b = nI (rP D (saT D k) (D 0 0) b) from pN.1]
      rw [if_pos (show ¬ ((0 : Int32) < 0 ∨ 21 ≤ (0 : Int32).toNatClampNeg) by decide), show (0 : Int32).toNatClampNeg = 0 from rfl, rd_n (by omega) (by omega), Option.bind_some, show t3.1 (149 + 0) b = nI (rP D (saT D k) 0 b) from p0.1, wr_n (by omega) (by omega), Option.bind_some, nI_1]
      rfl
    · rw [stI_at]
      by_cases e : j = k
      · subst e; rw [if_pos ⟨rfl, rfl⟩]
      · rw [if_neg (fun z => e z.2), e233]
        exact i3 j (by omega)) (fun t hI => by
    refine ⟨t, ?_, hI⟩
    unfold gH_makeFor_h2
    dsimp only
    rw [hI.2.1.W, sh_1 (by omega), if_pos (nI_le (Nat.le_refl _) (by omega))]) (s := s) ⟨KP.rfl', h, fun j hj => absurd hj (Nat.not_lt_zero _)⟩ (i := (0 : Int32)) rfl FU (FU_gt (by omega))
  exact ⟨s1, by unfold gH_makeFor; rw [f1]; rfl, f2⟩
theorem fact_x {i : Nat} (h : IV xs D s) (hi : i < 6) : s.1 (XB + 1) i = nI (facN i) := by
  have eXB : XB = 1000000 := rfl
  rw [h.2.2.2.2.2.2.2.2 (XB + 1) (by omega)]
  unfold xI
  rw [if_neg (by omega), if_pos rfl]
  exact (by decide +kernel : ∀ i, i < 6 → ([1, 1, 2, 6, 24, 120] : List Int32).getD i 0 = nI (facN i)) i hi
theorem or_lt {k w W : Nat} (hk : k < 2 ^ W) (hw : w < W) : k ||| 2 ^ w < 2 ^ W := Nat.or_lt_two_pow hk (Nat.pow_lt_pow_right (by decide) hw)
theorem c_sum (h : IV xs D s) (hw : w < D 6 0) (hv : ∀ k, k < 2 ^ D 6 0 → s.1 233 k = wvI D b k) : gH_sumOf (nI w) s = some (shG D b w (2 ^ D 6 0)) := by
  have hd := h.bd
  have h2 : 2 ^ D 6 0 ≤ 2 ^ 5 := Nat.pow_le_pow_right (by omega) (by omega)
  have e : wh FU (gH_sumOf_h4 (nI w) s) ((0 : Int32), (0 : Int32)) = some (shG D b w (2 ^ D 6 0)) := by
    refine wh_for (fun k => (shG D b w k, nI k)) (2 ^ D 6 0) (fun k hk => ?_) ?_ FU (FU_gt (by omega))
    · have e2 : k / 2 ^ w % 2 < 2 := Nat.mod_lt _ (by decide)
      have hor := or_lt hk hw
      unfold gH_sumOf_h4
      dsimp only
      rw [h.W, sh_1 (by omega), if_neg (nle (by omega) (by omega) (by omega)), shr_b (by omega) (by omega), ite_iff (show (nI (k / 2 ^ w % 2) = (0 : Int32)) ↔ ¬ (k / 2 ^ w % 2 = 1) from (nI_eq (b := 0) (by omega) (by omega)).trans (by omega))]
      show _ = some (Sum.inl (if k / 2 ^ w % 2 = 1 then shG D b w k else shG D b w k + shF D b w k, nI (k + 1)))
      by_cases h1 : k / 2 ^ w % 2 = 1
      · rw [if_neg (fun z => z h1), if_pos h1, Option.bind_some, nI_1]
      · have hp := pc_lt hk (by omega) hw h1
        rw [if_pos h1, if_neg h1, bitCount_is (by omega), Option.bind_some, rd_n (by omega) (by omega), Option.bind_some, fact_x h (by omega), show nI (D 6 0) - (1 : Int32) = nI (D 6 0 - 1) from pk_sub (b := 1) (by omega), pk_sub (by omega), rd_n (by omega) (by omega), Option.bind_some, fact_x h (by omega), sh_1 (by omega), nI_or, rd_n (by omega) (by omega), Option.bind_some, rd_n (by omega) (by omega), Option.bind_some, hv _ hor, hv _ hk, Option.bind_some, nI_1]
        rfl
    · unfold gH_sumOf_h4
      dsimp only
      rw [h.W, sh_1 (by omega), if_pos (nI_le (Nat.le_refl _) (by omega))]
  unfold gH_sumOf
  rw [e]
  rfl
theorem m_fac {n : Nat} (hn : n ≤ 5) : gM_factorial (nI n) s = some (nI (facN n)) := by
  have e : wh FU (gM_factorial_h4 (nI n) s) ((1 : Int32), (2 : Int32)) = some (nI (facN n)) := by
    by_cases h0 : n = 0
    · subst h0
      exact wh_1 rfl
    · have := wh_for (f := gM_factorial_h4 (nI n) s) (fun k => (nI (facN (k + 1)), nI (k + 2))) (r := nI (facN n)) (n - 1) (fun k hk => by
        unfold gM_factorial_h4
        dsimp only
        rw [if_neg (nlt (by omega) (by omega) (by omega)), pk_mul, nI_1]
        rfl) (by
        unfold gM_factorial_h4
        dsimp only
        rw [if_pos (nI_lt (by omega) (by omega)), show n - 1 + 1 = n by omega]) FU (FU_gt (by omega))
      exact this
  unfold gM_factorial
  rw [e]
  rfl
theorem m_worth (h : IV xs D s) (hP : MPB D (D 1 0) (D 9) (D 10) (D 14) (l0 D) 0 s) (hb : b < D 5 0) {x y z : Int32} : ∃ s', wh FU (gM_share_h53 (nI b) x y z (nI (bmN (fun _ => true) (D 6 0)))) ((0 : Int32), s) = some s' ∧ IV xs D s' ∧ ∀ k, k < 2 ^ D 6 0 → s'.1 311 k = wvI D b k := by
  have hd := h.bd
  have h2 : 2 ^ D 6 0 ≤ 2 ^ 5 := Nat.pow_le_pow_right (by omega) (by omega)
  have hall := bm_all (D 6 0)
  have hpos := Nat.two_pow_pos (D 6 0)
  obtain ⟨s1, f1, f2⟩ := wh_cnt (f := gM_share_h53 (nI b) x y z (nI (bmN (fun _ => true) (D 6 0)))) (fun k t => IV xs D t ∧ (∃ m, MPB D (D 1 0) (D 9) (D 10) (D 14) (l0 D) m t) ∧ ∀ j, j < k → t.1 311 j = wvI D b j) (fun t => IV xs D t ∧ ∀ k, k < 2 ^ D 6 0 → t.1 311 k = wvI D b k) 0 (2 ^ D 6 0) (Nat.zero_le _) (fun k _ hk t hI => by
    obtain ⟨i1, ⟨m, i2⟩, i3⟩ := hI
    have hm2 := bmN_lt (fun w => !decide (k / 2 ^ w % 2 = 1)) (D 6 0)
    have i4 := i2.wasl (m2 := bmN (fun w => !decide (k / 2 ^ w % 2 = 1)) (D 6 0)) (by omega)
    have hs := s0_hu (D := D) (as := fun w => !decide (k / 2 ^ w % 2 = 1)) (m2 := bmN (fun w => !decide (k / 2 ^ w % 2 = 1)) (D 6 0)) (s0_0 (ex := fun _ => false) h.V) (fun w hw => by
      rw [bmN_bit hw]
      cases decide (k / 2 ^ w % 2 = 1) <;> rfl)
    have i5 := i1.wr (a := 294) (k := 20) (x := nI (bmN (fun w => !decide (k / 2 ^ w % 2 = 1)) (D 6 0))) (by unfold pK; omega)
    obtain ⟨t2, x1, x2, x3, x4, x5⟩ := i5.go i4 hs
    have fr := fp_go i5 i4 hs x1
    refine ⟨stI t2 311 k (wvI D b k), ?_, x3.wr (by unfold pK; omega), ⟨_, x4.fp (P := fun a _ => a = 311) (Fp.st rfl) (fun a k z => by unfold pA; omega)⟩, fun j hj => ?_⟩
    · unfold gM_share_h53
      dsimp only
      rw [if_neg (nlt (by omega) (by omega) (by omega)), all_and, x1, Option.bind_some, mq_N x5, Option.bind_some, mq_pl x5 (Nat.le_refl _) hb, Option.bind_some, show (0 : Int32) = nI 0 from rfl, mq_pl x5 (Nat.zero_le _) hb, Option.bind_some, wr_n (by omega) (by omega), Option.bind_some, nI_1]
      rfl
    · rw [stI_at]
      by_cases e : j = k
      · subst e; rw [if_pos ⟨rfl, rfl⟩]
      · rw [if_neg (fun z => e z.2), fr.1 311 j (by unfold pG; omega), stI_ne (by omega)]
        exact i3 j (by omega)) (fun t hI => by
    refine ⟨t, ?_, hI.1, hI.2.2⟩
    unfold gM_share_h53
    dsimp only
    rw [if_pos (nI_lt (by omega) (by omega))]) (s := s) ⟨h, ⟨0, hP⟩, fun j hj => absurd hj (Nat.not_lt_zero _)⟩ (i := (0 : Int32)) rfl FU (FU_gt (by omega))
  exact ⟨s1, f1, f2⟩
theorem m_sum (h : IV xs D s) (hw : w < D 6 0) (hv : ∀ k, k < 2 ^ D 6 0 → s.1 311 k = wvI D b k) {y : Int32} : wh FU (gM_share_h110 (nI w) y (nI (D 6 0)) (nI (bmN (fun _ => true) (D 6 0))) s) ((0 : Int32), (0 : Int32)) = some (shG D b w (2 ^ D 6 0)) := by
  have hd := h.bd
  have h2 : 2 ^ D 6 0 ≤ 2 ^ 5 := Nat.pow_le_pow_right (by omega) (by omega)
  have hall := bm_all (D 6 0)
  have hpos := Nat.two_pow_pos (D 6 0)
  refine wh_for (fun k => (shG D b w k, nI k)) (2 ^ D 6 0) (fun k hk => ?_) ?_ FU (FU_gt (by omega))
  · have e2 : k / 2 ^ w % 2 < 2 := Nat.mod_lt _ (by decide)
    have hor := or_lt hk hw
    unfold gM_share_h110 gM_bit
    dsimp only
    rw [if_neg (nlt (by omega) (by omega) (by omega)), m_bits (by omega), Option.bind_some, shr_b (by omega) (by omega), Option.bind_some, ite_iff (show (nI (k / 2 ^ w % 2) = (0 : Int32)) ↔ ¬ (k / 2 ^ w % 2 = 1) from (nI_eq (b := 0) (by omega) (by omega)).trans (by omega))]
    show _ = some (Sum.inl (if k / 2 ^ w % 2 = 1 then shG D b w k else shG D b w k + shF D b w k, nI (k + 1)))
    by_cases h1 : k / 2 ^ w % 2 = 1
    · rw [if_neg (fun z => z h1), if_pos h1, Option.bind_some, nI_1]
    · have hp := pc_lt hk (by omega) hw h1
      rw [if_pos h1, if_neg h1, m_fac (by omega), Option.bind_some, show nI (D 6 0) - (1 : Int32) = nI (D 6 0 - 1) from pk_sub (b := 1) (by omega), pk_sub (by omega), m_fac (by omega), Option.bind_some, sh_1 (by omega), nI_or, rd_n (by omega) (by omega), Option.bind_some, rd_n (by omega) (by omega), Option.bind_some, hv _ hor, hv _ hk, Option.bind_some, nI_1]
      rfl
  · unfold gM_share_h110
    dsimp only
    rw [if_pos (nI_lt (by omega) (by omega))]
theorem a_share (v1 v2 v3 : Int32) : AS (gL_share v1 v2 v3) (gM_share v1 v2 v3) := AS_of fun xs D s h => by
  have hd := h.bd
  by_cases g : (0 ≤ v1.toInt ∧ v1.toInt < (D 5 0 : Int)) ∧ (0 ≤ v2.toInt ∧ v2.toInt < (D 6 0 : Int)) ∧ (0 ≤ v3.toInt ∧ v3.toInt < (2 : Nat))
  · obtain ⟨g1, g2, g3⟩ := g
    obtain ⟨b, hb, rfl⟩ := of_in g1
    obtain ⟨w, hw, rfl⟩ := of_in g2
    obtain ⟨s1, f1, f2, f3, f4⟩ := c_make h hb
    obtain ⟨a, ha, hl⟩ := labs_i (shG D b w (2 ^ D 6 0))
    have hf : 0 < facN (D 6 0) ∧ facN (D 6 0) < 2 ^ 31 := (by decide +kernel : ∀ i, i < 6 → 0 < facN i ∧ facN i < 2 ^ 31) (D 6 0) (by omega)
    refine ⟨(frV (shG D b w (2 ^ D 6 0)).toInt64 a (facN (D 6 0)) v3).toInt32, s1, ?_, f2, fun t ht => ?_⟩
    · unfold gL_share
      rw [h.hasB, Option.bind_some, bz_if, if_pos g1, h.hasW, Option.bind_some, bz_if, if_pos g2, g_isPart, Option.bind_some, bz_if, if_pos g3, f1, Option.bind_some, c_sum f3 hw f4, Option.bind_some, f3.W, rd_n (by omega) (by omega), Option.bind_some, fact_x f3 (by omega), nI_l hf.2, c_low hl ha hf.1 (by omega), Option.bind_some]
    · obtain ⟨t1, y1, y2, y3, y4⟩ := ht.asIs
      obtain ⟨t2, z1, z2, z3⟩ := m_worth (x := nI w) (y := v3) (z := nI (D 6 0)) y3 y4 hb
      have hW : rdI (t1.1 295) 79 (5 : Int32) = some (nI (D 6 0)) := (rd_n (k := 5) (by omega) (by omega)).trans (congrArg some y3.M.1.2.2.2.2.2.1)
      refine ⟨t2, ?_, z2⟩
      unfold gM_share
      rw [ht.mB, Option.bind_some, bz_if, if_pos g1, ht.mW, Option.bind_some, bz_if, if_pos g2, m_in01, Option.bind_some, bz_if, if_pos g3, y1, Option.bind_some, hW, Option.bind_some, sh_all (by omega), z1, Option.bind_some, m_sum z2 hw z3, Option.bind_some, m_fac (by omega), Option.bind_some, nI_l hf.2, m_part hl ha hf.1 (by omega), Option.bind_some]
  · refine ⟨-2, s, ?_, KP.rfl', fun t ht => ⟨t, ?_, ht⟩⟩
    · unfold gL_share
      rw [h.hasB, Option.bind_some, bz_if, h.hasW, Option.bind_some, bz_if, g_isPart, Option.bind_some, bz_if]
      by_cases g1 : 0 ≤ v1.toInt ∧ v1.toInt < (D 5 0 : Int)
      · rw [if_pos g1]
        by_cases g2 : 0 ≤ v2.toInt ∧ v2.toInt < (D 6 0 : Int)
        · rw [if_pos g2, if_neg (fun z => g ⟨g1, g2, z⟩)]
        · rw [if_neg g2]
      · rw [if_neg g1]
    · unfold gM_share
      rw [ht.mB, Option.bind_some, bz_if, ht.mW, Option.bind_some, bz_if, m_in01, Option.bind_some, bz_if]
      by_cases g1 : 0 ≤ v1.toInt ∧ v1.toInt < (D 5 0 : Int)
      · rw [if_pos g1]
        by_cases g2 : 0 ≤ v2.toInt ∧ v2.toInt < (D 6 0 : Int)
        · rw [if_pos g2, if_neg (fun z => g ⟨g1, g2, z⟩)]
        · rw [if_neg g2]
      · rw [if_neg g1]
end SHR
