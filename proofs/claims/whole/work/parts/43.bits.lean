/-! HOW MANY BITS: the JDK's way and the model's -/
theorem and_split (x y k : Nat) : x &&& y = 2 ^ k * ((x / 2 ^ k) &&& (y / 2 ^ k)) + ((x % 2 ^ k) &&& (y % 2 ^ k)) := by
  rw [← Nat.and_div_two_pow, ← Nat.and_mod_two_pow]
  exact (Nat.div_add_mod _ _).symm
theorem and_1 (x : Nat) (M : Nat) : x &&& (1 + 4 * M) = x % 2 + 4 * ((x / 4) &&& M) := by
  rw [and_split x (1 + 4 * M) 2, show (1 + 4 * M) / 2 ^ 2 = M by omega, show (1 + 4 * M) % 2 ^ 2 = 1 by omega, show (2 : Nat) ^ 2 = 4 from rfl]
  have h : ∀ y, y < 4 → y &&& 1 = y % 2 := by decide
  rw [h (x % 4) (by omega)]
  omega
theorem and_3 (x : Nat) (M : Nat) : x &&& (3 + 16 * M) = x % 4 + 16 * ((x / 16) &&& M) := by
  rw [and_split x (3 + 16 * M) 4, show (3 + 16 * M) / 2 ^ 4 = M by omega, show (3 + 16 * M) % 2 ^ 4 = 3 by omega, show (2 : Nat) ^ 4 = 16 from rfl]
  have h : ∀ y, y < 16 → y &&& 3 = y % 4 := by decide
  rw [h (x % 16) (by omega)]
  omega
theorem and_15 (x : Nat) (M : Nat) : x &&& (15 + 256 * M) = x % 16 + 256 * ((x / 256) &&& M) := by
  rw [and_split x (15 + 256 * M) 8, show (15 + 256 * M) / 2 ^ 8 = M by omega, show (15 + 256 * M) % 2 ^ 8 = 15 by omega, show (2 : Nat) ^ 8 = 256 from rfl]
  have h : ∀ y, y < 256 → y &&& 15 = y % 16 := by decide +kernel
  rw [h (x % 256) (by omega)]
  omega
def M5 : Nat → Nat
  | 0 => 0
  | j + 1 => 1 + 4 * M5 j
def M3 : Nat → Nat
  | 0 => 0
  | j + 1 => 3 + 16 * M3 j
def MF : Nat → Nat
  | 0 => 0
  | j + 1 => 15 + 256 * MF j
def P1 : Nat → Nat → Nat
  | 0, _ => 0
  | j + 1, n => (n % 2 + n / 2 % 2) + 4 * P1 j (n / 4)
def P2 : Nat → Nat → Nat
  | 0, _ => 0
  | j + 1, n => (n % 2 + n / 2 % 2 + (n / 4 % 2 + n / 4 / 2 % 2)) + 16 * P2 j (n / 16)
def d8 (n : Nat) : Nat := n % 2 + n / 2 % 2 + (n / 4 % 2 + n / 4 / 2 % 2) + (n / 16 % 2 + n / 16 / 2 % 2 + (n / 16 / 4 % 2 + n / 16 / 4 / 2 % 2))
def P3 : Nat → Nat → Nat
  | 0, _ => 0
  | j + 1, n => d8 n + 256 * P3 j (n / 256)
theorem P1_is : ∀ (j n : Nat), n < 4 ^ j → n - (n / 2 &&& M5 j) = P1 j n := by
  intro j
  induction j with
  | zero =>
    intro n h
    obtain rfl : n = 0 := by simp at h; exact h
    rfl
  | succ j ih =>
    intro n h
    have h1 := ih (n / 4) (by rw [Nat.pow_succ] at h; omega)
    unfold M5 P1
    rw [and_1, ← h1, show n / 2 / 4 = n / 4 / 2 by omega]
    have h2 : (n / 4 / 2) &&& M5 j ≤ n / 4 / 2 := Nat.and_le_left
    omega
theorem P2_is : ∀ (j n : Nat), (P1 (2 * j) n &&& M3 j) + (P1 (2 * j) n / 4 &&& M3 j) = P2 j n := by
  intro j
  induction j with
  | zero => intro n; simp [P1, P2, M3]
  | succ j ih =>
    intro n
    have h1 := ih (n / 16)
    have e : P1 (2 * (j + 1)) n = (n % 2 + n / 2 % 2) + 4 * ((n / 4 % 2 + n / 4 / 2 % 2) + 4 * P1 (2 * j) (n / 16)) := by
      show (n % 2 + n / 2 % 2) + 4 * ((n / 4 % 2 + n / 4 / 2 % 2) + 4 * P1 (2 * j) (n / 4 / 4)) = _
      rw [show n / 4 / 4 = n / 16 by omega]
    unfold M3 P2
    rw [e, and_3, and_3, ← h1]
    generalize P1 (2 * j) (n / 16) = r
    rw [show ((n % 2 + n / 2 % 2) + 4 * ((n / 4 % 2 + n / 4 / 2 % 2) + 4 * r)) / 16 = r by omega, show ((n % 2 + n / 2 % 2) + 4 * ((n / 4 % 2 + n / 4 / 2 % 2) + 4 * r)) / 4 / 16 = r / 4 by omega]
    generalize r &&& M3 j = x
    generalize r / 4 &&& M3 j = y
    omega
theorem P2_lo (j n : Nat) : P2 j n % 16 ≤ 4 := by
  cases j with
  | zero => exact Nat.zero_le _
  | succ j => unfold P2; omega
theorem P3_is : ∀ (j n : Nat), (P2 (2 * j) n + P2 (2 * j) n / 16) &&& MF j = P3 j n := by
  intro j
  induction j with
  | zero => intro n; simp [P2, P3, MF]
  | succ j ih =>
    intro n
    have h1 := ih (n / 256)
    have h2 := P2_lo (2 * j) (n / 256)
    have e : P2 (2 * (j + 1)) n = (n % 2 + n / 2 % 2 + (n / 4 % 2 + n / 4 / 2 % 2)) + 16 * ((n / 16 % 2 + n / 16 / 2 % 2 + (n / 16 / 4 % 2 + n / 16 / 4 / 2 % 2)) + 16 * P2 (2 * j) (n / 256)) := by
      show (n % 2 + n / 2 % 2 + (n / 4 % 2 + n / 4 / 2 % 2)) + 16 * ((n / 16 % 2 + n / 16 / 2 % 2 + (n / 16 / 4 % 2 + n / 16 / 4 / 2 % 2)) + 16 * P2 (2 * j) (n / 16 / 16)) = _
      rw [show n / 16 / 16 = n / 256 by omega]
    unfold MF P3 d8
    rw [e, and_15, ← h1]
    generalize P2 (2 * j) (n / 256) = r at *
    obtain ⟨e0, he0⟩ : ∃ e0, e0 = n % 2 + n / 2 % 2 + (n / 4 % 2 + n / 4 / 2 % 2) := ⟨_, rfl⟩
    obtain ⟨e1, he1⟩ : ∃ e1, e1 = n / 16 % 2 + n / 16 / 2 % 2 + (n / 16 / 4 % 2 + n / 16 / 4 / 2 % 2) := ⟨_, rfl⟩
    have l0 : e0 ≤ 4 := by omega
    have l1 : e1 ≤ 4 := by omega
    rw [← he0, ← he1]
    clear he0 he1
    rw [show (e0 + 16 * (e1 + 16 * r) + (e0 + 16 * (e1 + 16 * r)) / 16) / 256 = r + r / 16 by omega, show (e0 + 16 * (e1 + 16 * r) + (e0 + 16 * (e1 + 16 * r)) / 16) % 16 = e0 + e1 by omega]
/-- how many of the first k bits of n -/
def pcN (n k : Nat) : Nat := cntB (fun i => decide (n / 2 ^ i % 2 = 1)) k
theorem pc_b (x : Nat) : (if decide (x % 2 = 1) = true then 1 else 0) = x % 2 := by
  by_cases h : x % 2 = 1
  · rw [if_pos (decide_eq_true h), h]
  · rw [if_neg (fun z => h (of_decide_eq_true z))]; omega
theorem d8_le (n : Nat) : d8 n ≤ 8 := by unfold d8; omega
theorem P3_pc {n : Nat} (h : n < 2 ^ 20) : ∃ f0 f1 f2, P3 4 n = f0 + 256 * (f1 + 256 * f2) ∧ f0 ≤ 8 ∧ f1 ≤ 8 ∧ f2 ≤ 8 ∧ f0 + f1 + f2 = pcN n 20 := by
  refine ⟨d8 n, d8 (n / 256), d8 (n / 256 / 256), ?_, d8_le _, d8_le _, d8_le _, ?_⟩
  · show d8 n + 256 * (d8 (n / 256) + 256 * (d8 (n / 256 / 256) + 256 * (d8 (n / 256 / 256 / 256) + 256 * 0))) = _
    rw [show n / 256 / 256 / 256 = 0 by omega, show d8 0 = 0 from rfl]
    omega
  · have z0 : n / 1048576 = 0 := by omega
    have z1 : n / 2097152 = 0 := by omega
    have z2 : n / 4194304 = 0 := by omega
    have z3 : n / 8388608 = 0 := by omega
    unfold d8
    show _ = 0 + (if decide (n / 2 ^ 0 % 2 = 1) = true then 1 else 0) + (if decide (n / 2 ^ 1 % 2 = 1) = true then 1 else 0) + (if decide (n / 2 ^ 2 % 2 = 1) = true then 1 else 0) + (if decide (n / 2 ^ 3 % 2 = 1) = true then 1 else 0) + (if decide (n / 2 ^ 4 % 2 = 1) = true then 1 else 0) + (if decide (n / 2 ^ 5 % 2 = 1) = true then 1 else 0) + (if decide (n / 2 ^ 6 % 2 = 1) = true then 1 else 0) + (if decide (n / 2 ^ 7 % 2 = 1) = true then 1 else 0) + (if decide (n / 2 ^ 8 % 2 = 1) = true then 1 else 0) + (if decide (n / 2 ^ 9 % 2 = 1) = true then 1 else 0) + (if decide (n / 2 ^ 10 % 2 = 1) = true then 1 else 0) + (if decide (n / 2 ^ 11 % 2 = 1) = true then 1 else 0) + (if decide (n / 2 ^ 12 % 2 = 1) = true then 1 else 0) + (if decide (n / 2 ^ 13 % 2 = 1) = true then 1 else 0) + (if decide (n / 2 ^ 14 % 2 = 1) = true then 1 else 0) + (if decide (n / 2 ^ 15 % 2 = 1) = true then 1 else 0) + (if decide (n / 2 ^ 16 % 2 = 1) = true then 1 else 0) + (if decide (n / 2 ^ 17 % 2 = 1) = true then 1 else 0) + (if decide (n / 2 ^ 18 % 2 = 1) = true then 1 else 0) + (if decide (n / 2 ^ 19 % 2 = 1) = true then 1 else 0)
    simp only [pc_b, Nat.div_div_eq_div_mul]
    simp only [Nat.reduceMul, Nat.reducePow, Nat.div_one, z0, z1, z2, z3, Nat.zero_mod, Nat.add_zero, Nat.zero_add]
    generalize n % 2 = b0
    generalize n / 2 % 2 = b1
    generalize n / 4 % 2 = b2
    generalize n / 8 % 2 = b3
    generalize n / 16 % 2 = b4
    generalize n / 32 % 2 = b5
    generalize n / 64 % 2 = b6
    generalize n / 128 % 2 = b7
    generalize n / 256 % 2 = b8
    generalize n / 512 % 2 = b9
    generalize n / 1024 % 2 = b10
    generalize n / 2048 % 2 = b11
    generalize n / 4096 % 2 = b12
    generalize n / 8192 % 2 = b13
    generalize n / 16384 % 2 = b14
    generalize n / 32768 % 2 = b15
    generalize n / 65536 % 2 = b16
    generalize n / 131072 % 2 = b17
    generalize n / 262144 % 2 = b18
    generalize n / 524288 % 2 = b19
    omega
theorem bitCount_is {n : Nat} {s : mT} (h : n < 2 ^ 20) : gI_bitCount (nI n) s = some (nI (pcN n 20)) := by
  have sh1 : (((1 : Int32).toUInt32 &&& Int32.toUInt32 31).toBitVec % 32).toNat = 1 := by decide
  have sh2 : (((2 : Int32).toUInt32 &&& Int32.toUInt32 31).toBitVec % 32).toNat = 2 := by decide
  have sh4 : (((4 : Int32).toUInt32 &&& Int32.toUInt32 31).toBitVec % 32).toNat = 4 := by decide
  have sh8 : (((8 : Int32).toUInt32 &&& Int32.toUInt32 31).toBitVec % 32).toNat = 8 := by decide
  have sh16 : (((16 : Int32).toUInt32 &&& Int32.toUInt32 31).toBitVec % 32).toNat = 16 := by decide
  obtain ⟨f0, f1, f2, g1, g2, g3, g4, g5⟩ := P3_pc h
  have p1 := P1_is 16 n (by omega)
  have p2 := P2_is 8 n
  have p3 := P3_is 4 n
  have m5 : M5 16 = 1431655765 := by decide +kernel
  have m3 : M3 8 = 858993459 := by decide +kernel
  have mf : MF 4 = 252645135 := by decide +kernel
  rw [m5] at p1
  rw [m3] at p2
  rw [mf, g1] at p3
  have c5 : (1431655765 : Int32) = nI 1431655765 := rfl
  have c3 : (858993459 : Int32) = nI 858993459 := rfl
  have cf : (252645135 : Int32) = nI 252645135 := rfl
  have q1 : nI n - (((nI n).toUInt32 >>> ((1 : Int32).toUInt32 &&& Int32.toUInt32 31)).toInt32 &&& (1431655765 : Int32)) = nI (P1 16 n) := by
    rw [pk_ushrN (by omega) _ 1 sh1, c5, nI_and, pk_sub (Nat.le_trans Nat.and_le_left (Nat.div_le_self _ _)), Nat.pow_one, p1]
  have l1 : P1 16 n < 2 ^ 32 := by rw [← p1]; omega
  have q2 : (nI (P1 16 n) &&& (858993459 : Int32)) + (((nI (P1 16 n)).toUInt32 >>> ((2 : Int32).toUInt32 &&& Int32.toUInt32 31)).toInt32 &&& (858993459 : Int32)) = nI (P2 8 n) := by
    rw [pk_ushrN l1 _ 2 sh2, c3, nI_and, nI_and, nI_add, show 2 ^ 2 = 4 from rfl, show P1 16 n = P1 (2 * 8) n from rfl, p2]
  have l2 : P2 8 n < 2 ^ 32 := by
    rw [← p2]
    have a1 : P1 (2 * 8) n &&& 858993459 ≤ 858993459 := Nat.and_le_right
    have a2 : P1 (2 * 8) n / 4 &&& 858993459 ≤ 858993459 := Nat.and_le_right
    omega
  have q3 : (nI (P2 8 n) + ((nI (P2 8 n)).toUInt32 >>> ((4 : Int32).toUInt32 &&& Int32.toUInt32 31)).toInt32) &&& (252645135 : Int32) = nI (f0 + 256 * (f1 + 256 * f2)) := by
    rw [pk_ushrN l2 _ 4 sh4, cf, nI_add, nI_and, show 2 ^ 4 = 16 from rfl, show P2 8 n = P2 (2 * 4) n from rfl, p3]
  have q4 : nI (f0 + 256 * (f1 + 256 * f2)) + ((nI (f0 + 256 * (f1 + 256 * f2))).toUInt32 >>> ((8 : Int32).toUInt32 &&& Int32.toUInt32 31)).toInt32 = nI (f0 + f1 + 256 * (f1 + f2 + 256 * f2)) := by
    rw [pk_ushrN (by omega) _ 8 sh8, nI_add]
    congr 1
    omega
  have q5 : nI (f0 + f1 + 256 * (f1 + f2 + 256 * f2)) + ((nI (f0 + f1 + 256 * (f1 + f2 + 256 * f2))).toUInt32 >>> ((16 : Int32).toUInt32 &&& Int32.toUInt32 31)).toInt32 = nI (f0 + f1 + f2 + 256 * (f1 + f2 + 256 * f2)) := by
    rw [pk_ushrN (by omega) _ 16 sh16, nI_add]
    congr 1
    omega
  have q6 : nI (f0 + f1 + f2 + 256 * (f1 + f2 + 256 * f2)) &&& (63 : Int32) = nI (pcN n 20) := by
    rw [pk_andN (by omega) 6 (by decide), ← g5]
    congr 1
    omega
  unfold gI_bitCount
  rw [q1, q2, q3, q4, q5, q6]
theorem m_bits {n : Nat} {s : mT} (h : n < 2 ^ 31) : gM_bits (nI n) s = some (nI (pcN n 20)) := by
  have e : wh FU (gM_bits_h4 (nI n) s) ((0 : Int32), (0 : Int32)) = some (nI (pcN n 20)) := by
    refine wh_for (fun k => (nI (pcN n k), nI k)) 20 (fun k hk => ?_) ?_ FU (FU_gt (by omega))
    · unfold gM_bits_h4
      dsimp only
      rw [show (20 : Int32) = nI 20 from rfl, if_neg (fun z => absurd ((nI_leI (by omega) (by omega)).mp z) (by omega)), shr_b h (by omega), nI_add, nI_1]
      have : pcN n (k + 1) = pcN n k + n / 2 ^ k % 2 := by
        show pcN n k + (if decide (n / 2 ^ k % 2 = 1) = true then 1 else 0) = _
        rw [pc_b]
      rw [this]
    · rfl
  unfold gM_bits
  rw [e]
  rfl
theorem pcN_le (n k : Nat) : pcN n k ≤ k := cntB_le _ _
