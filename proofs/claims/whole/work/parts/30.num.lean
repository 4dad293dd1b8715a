/-! NUMBERS AND LOOPS: what the functions of ints and longs are, over naturals -/
theorem FU_gt {n : Nat} (h : n ≤ 9999) : n < FU := by unfold FU; omega
/-- a loop that goes through x 0, x 1 .. x n and ends there -/
theorem wh_for {S R : Type} {f : S → Option (S ⊕ R)} (x : Nat → S) {r : R} (n : Nat) (hs : ∀ k, k < n → f (x k) = some (.inl (x (k + 1)))) (he : f (x n) = some (.inr r)) : ∀ fuel, n < fuel → wh fuel f (x 0) = some r := by
  have key : ∀ j, j ≤ n → ∀ fuel, j < fuel → wh fuel f (x (n - j)) = some r := by
    intro j
    induction j with
    | zero =>
      intro _ fuel hf
      obtain ⟨m, rfl⟩ : ∃ m, fuel = m + 1 := ⟨fuel - 1, by omega⟩
      unfold wh
      rw [Nat.sub_zero, he]
      rfl
    | succ j ih =>
      intro hj fuel hf
      obtain ⟨m, rfl⟩ : ∃ m, fuel = m + 1 := ⟨fuel - 1, by omega⟩
      unfold wh
      rw [hs (n - (j + 1)) (by omega)]
      show wh m f (x (n - (j + 1) + 1)) = some r
      rw [show n - (j + 1) + 1 = n - j by omega]
      exact ih (by omega) m (by omega)
  intro fuel hf
  have := key n (Nat.le_refl _) fuel hf
  rwa [Nat.sub_self] at this
/-- the same over states that are known by a property -/
theorem wh_inv {S R : Type} {f : S → Option (S ⊕ R)} (I : Nat → S → Prop) (Q : R → Prop) (n : Nat) (hs : ∀ k, k < n → ∀ q, I k q → ∃ q', f q = some (.inl q') ∧ I (k + 1) q') (he : ∀ q, I n q → ∃ r, f q = some (.inr r) ∧ Q r) {q : S} (h0 : I 0 q) : ∀ fuel, n < fuel → ∃ r, wh fuel f q = some r ∧ Q r := by
  have key : ∀ j, j ≤ n → ∀ fuel, j < fuel → ∀ q, I (n - j) q → ∃ r, wh fuel f q = some r ∧ Q r := by
    intro j
    induction j with
    | zero =>
      intro _ fuel hf q hq
      obtain ⟨m, rfl⟩ : ∃ m, fuel = m + 1 := ⟨fuel - 1, by omega⟩
      obtain ⟨r, h1, h2⟩ := he q hq
      refine ⟨r, ?_, h2⟩
      unfold wh
      rw [h1]
      rfl
    | succ j ih =>
      intro hj fuel hf q hq
      obtain ⟨m, rfl⟩ : ∃ m, fuel = m + 1 := ⟨fuel - 1, by omega⟩
      obtain ⟨q', h1, h2⟩ := hs (n - (j + 1)) (by omega) q hq
      rw [show n - (j + 1) + 1 = n - j by omega] at h2
      obtain ⟨r, h3, h4⟩ := ih (by omega) m (by omega) q' h2
      refine ⟨r, ?_, h4⟩
      unfold wh
      rw [h1]
      exact h3
  intro fuel hf
  have := key n (Nat.le_refl _) fuel hf q
  rw [Nat.sub_self] at this
  exact this h0
/-- the first k from a on, of m, at which p holds -/
def ffN (p : Nat → Bool) : Nat → Nat → Option Nat
  | 0, _ => none
  | m + 1, a => if p a = true then some a else ffN p m (a + 1)
theorem wh_ff {S R : Type} {f : S → Option (S ⊕ R)} (p : Nat → Bool) (x : Nat → S) (g : Option Nat → R) (m : Nat) : ∀ (a : Nat), (∀ k, a ≤ k → k < a + m → p k = false → f (x k) = some (.inl (x (k + 1)))) → (∀ k, a ≤ k → k < a + m → p k = true → f (x k) = some (.inr (g (some k)))) → f (x (a + m)) = some (.inr (g none)) → ∀ fuel, m < fuel → wh fuel f (x a) = some (g (ffN p m a)) := by
  induction m with
  | zero =>
    intro a _ _ he fuel hf
    obtain ⟨j, rfl⟩ : ∃ j, fuel = j + 1 := ⟨fuel - 1, by omega⟩
    unfold wh ffN
    rw [show x a = x (a + 0) from rfl, he]
    rfl
  | succ m ih =>
    intro a h1 h2 he fuel hf
    obtain ⟨j, rfl⟩ : ∃ j, fuel = j + 1 := ⟨fuel - 1, by omega⟩
    unfold wh ffN
    cases hp : p a with
    | true =>
      rw [h2 a (Nat.le_refl _) (by omega) hp, if_pos rfl]
      rfl
    | false =>
      rw [h1 a (Nat.le_refl _) (by omega) hp, if_neg (by decide)]
      show wh j f (x (a + 1)) = _
      refine ih (a + 1) (fun k hk hk2 => h1 k (by omega) (by omega)) (fun k hk hk2 => h2 k (by omega) (by omega)) ?_ j (by omega)
      rw [show a + 1 + m = a + (m + 1) by omega]
      exact he
/-- how many, the sum, the bits, of all k below n -/
def cntB (p : Nat → Bool) : Nat → Nat
  | 0 => 0
  | n + 1 => cntB p n + (if p n = true then 1 else 0)
def sumN (f : Nat → Nat) : Nat → Nat
  | 0 => 0
  | n + 1 => sumN f n + f n
def bmN (p : Nat → Bool) : Nat → Nat
  | 0 => 0
  | n + 1 => bmN p n + (if p n = true then 2 ^ n else 0)
/-- the best of a, a + 1 .. a + m: b stands before c where gt c b is false -/
def amF (gt : Nat → Nat → Bool) (a : Nat) : Nat → Nat
  | 0 => a
  | m + 1 => if gt (a + m + 1) (amF gt a m) = true then a + m + 1 else amF gt a m
/-- none as -1 -/
def oz : Option Nat → Int32
  | none => -1
  | some n => nI n
theorem cntB_le (p : Nat → Bool) (n : Nat) : cntB p n ≤ n := by
  induction n with
  | zero => exact Nat.le_refl _
  | succ n ih => unfold cntB; split <;> omega
theorem bmN_lt (p : Nat → Bool) (n : Nat) : bmN p n < 2 ^ n := by
  induction n with
  | zero => exact Nat.one_pos
  | succ n ih => unfold bmN; rw [Nat.pow_succ]; split <;> omega
theorem amF_in (gt : Nat → Nat → Bool) (a m : Nat) : a ≤ amF gt a m ∧ amF gt a m ≤ a + m := by
  induction m with
  | zero => exact ⟨Nat.le_refl _, Nat.le_refl _⟩
  | succ m ih => unfold amF; split <;> omega
theorem sumN_le (f : Nat → Nat) (c n : Nat) (h : ∀ k, k < n → f k ≤ c) : sumN f n ≤ c * n := by
  induction n with
  | zero => exact Nat.le_refl _
  | succ n ih =>
    unfold sumN
    have := ih (fun k hk => h k (by omega))
    have := h n (by omega)
    rw [Nat.mul_succ]
    omega
theorem cntB_congr {p q : Nat → Bool} {n : Nat} (h : ∀ k, k < n → p k = q k) : cntB p n = cntB q n := by
  induction n with
  | zero => rfl
  | succ n ih => unfold cntB; rw [ih (fun k hk => h k (by omega)), h n (by omega)]
theorem sumN_congr {p q : Nat → Nat} {n : Nat} (h : ∀ k, k < n → p k = q k) : sumN p n = sumN q n := by
  induction n with
  | zero => rfl
  | succ n ih => unfold sumN; rw [ih (fun k hk => h k (by omega)), h n (by omega)]
theorem bmN_congr {p q : Nat → Bool} {n : Nat} (h : ∀ k, k < n → p k = q k) : bmN p n = bmN q n := by
  induction n with
  | zero => rfl
  | succ n ih => unfold bmN; rw [ih (fun k hk => h k (by omega)), h n (by omega)]
theorem ffN_congr {p q : Nat → Bool} {m : Nat} : ∀ {a : Nat}, (∀ k, a ≤ k → k < a + m → p k = q k) → ffN p m a = ffN q m a := by
  induction m with
  | zero => intro a _; rfl
  | succ m ih => intro a h; unfold ffN; rw [ih (fun k hk hk2 => h k (by omega) (by omega)), h a (by omega) (by omega)]
theorem amF_congr {p q : Nat → Nat → Bool} {a m : Nat} (h : ∀ i j, a ≤ i → i ≤ a + m → a ≤ j → j ≤ a + m → p i j = q i j) : amF p a m = amF q a m := by
  induction m with
  | zero => rfl
  | succ m ih =>
    unfold amF
    rw [ih (fun i j h1 h2 h3 h4 => h i j h1 (by omega) h3 (by omega))]
    have := amF_in q a m
    rw [h (a + m + 1) (amF q a m) (by omega) (by omega) (by omega) (by omega)]
theorem ffN_some {p : Nat → Bool} {m : Nat} : ∀ {a k : Nat}, ffN p m a = some k → a ≤ k ∧ k < a + m ∧ p k = true ∧ ∀ j, a ≤ j → j < k → p j = false := by
  induction m with
  | zero => intro a k h; cases h
  | succ m ih =>
    intro a k h
    unfold ffN at h
    cases hp : p a with
    | true =>
      rw [hp, if_pos rfl] at h
      cases h
      exact ⟨Nat.le_refl _, by omega, hp, fun j h1 h2 => absurd h1 (by omega)⟩
    | false =>
      rw [hp, if_neg (by decide)] at h
      obtain ⟨h1, h2, h3, h4⟩ := ih h
      refine ⟨by omega, by omega, h3, fun j h5 h6 => ?_⟩
      by_cases e : j = a
      · rw [e]; exact hp
      · exact h4 j (by omega) h6
theorem ffN_none {p : Nat → Bool} {m : Nat} : ∀ {a : Nat}, ffN p m a = none → ∀ j, a ≤ j → j < a + m → p j = false := by
  induction m with
  | zero => intro a _ j h1 h2; omega
  | succ m ih =>
    intro a h j h1 h2
    unfold ffN at h
    cases hp : p a with
    | true => rw [hp, if_pos rfl] at h; cases h
    | false =>
      rw [hp, if_neg (by decide)] at h
      by_cases e : j = a
      · rw [e]; exact hp
      · exact ih h j (by omega) (by omega)
theorem ffN_is {p : Nat → Bool} {m a k : Nat} (h1 : a ≤ k) (h2 : k < a + m) (h3 : p k = true) (h4 : ∀ j, a ≤ j → j < k → p j = false) : ffN p m a = some k := by
  cases h : ffN p m a with
  | none => rw [ffN_none h k h1 h2] at h3; cases h3
  | some j =>
    obtain ⟨g1, g2, g3, g4⟩ := ffN_some h
    by_cases e : j < k
    · rw [h4 j g1 e] at g3; cases g3
    · by_cases e2 : k < j
      · rw [g4 k h1 e2] at h3; cases h3
      · exact congrArg some (by omega)
theorem ffN_isN {p : Nat → Bool} {m a : Nat} (h : ∀ j, a ≤ j → j < a + m → p j = false) : ffN p m a = none := by
  cases h2 : ffN p m a with
  | none => rfl
  | some j =>
    obtain ⟨g1, g2, g3, g4⟩ := ffN_some h2
    rw [h j g1 g2] at g3; cases g3
/-! ints -/
section NU
variable {n m k a b : Nat} {s : mT}
theorem rd_n {f : Nat → Int32} (h : k < n) (hn : n < 2 ^ 31) : rdI f n (nI k) = some (f k) := by
  unfold rdI
  rw [if_pos (nI_in h hn), nI_clamp (by omega)]
theorem rdL_n {f : Nat → Int64} (h : k < n) (hn : n < 2 ^ 31) : rdL f n (nI k) = some (f k) := by
  unfold rdL
  rw [if_pos (nI_in h hn), nI_clamp (by omega)]
theorem wr_n {x : Int32} (h : k < n) (hn : n < 2 ^ 31) : wrI s a n (nI k) x = some (stI s a k x) := by
  unfold wrI
  rw [if_pos (nI_in h hn), nI_clamp (by omega)]
theorem wrL_n {x : Int64} (h : k < n) (hn : n < 2 ^ 31) : wrL s a n (nI k) x = some (stL s a k x) := by
  unfold wrL
  rw [if_pos (nI_in h hn), nI_clamp (by omega)]
theorem ix_ite {α : Type} {x y : α} (h : k < n) (hn : n < 2 ^ 31) : (if ¬ (nI k < 0 ∨ n ≤ (nI k).toNatClampNeg) then x else y) = x := if_pos (nI_in h hn)
theorem ix_ite2 {α : Type} {x y : α} (h : k < n) (hn : k < 2 ^ 31) : (if ¬ (nI k < 0 ∨ n ≤ k) then x else y) = x := if_pos (fun z => z.elim (nI_pos hn) (fun z => absurd h (Nat.not_lt.mpr z)))
theorem stI_at {x : Int32} {i j : Nat} : (stI s a k x).1 i j = if i = a ∧ j = k then x else s.1 i j := by
  unfold stI va_up upd
  (try dsimp only)
  by_cases e : i = a
  · subst e
    rw [if_pos rfl]
    by_cases e2 : j = k
    · rw [if_pos e2, if_pos ⟨rfl, e2⟩]
    · rw [if_neg e2, if_neg (fun h => e2 h.2)]
  · rw [if_neg e, if_neg (fun h => e h.1)]
theorem stI_ne {x : Int32} {i j : Nat} (h : i ≠ a) : (stI s a k x).1 i j = s.1 i j := by rw [stI_at, if_neg (fun z => h z.1)]
theorem stI_nk {x : Int32} {i j : Nat} (h : j ≠ k) : (stI s a k x).1 i j = s.1 i j := by rw [stI_at, if_neg (fun z => h z.2)]
theorem stI_eq {x : Int32} : (stI s a k x).1 a k = x := by rw [stI_at, if_pos ⟨rfl, rfl⟩]
theorem stI_2 {x : Int32} : (stI s a k x).2 = s.2 := rfl
theorem stL_1 {x : Int64} : (stL s a k x).1 = s.1 := rfl
theorem stL_at {x : Int64} {i j : Nat} : (stL s a k x).2 i j = if i = a ∧ j = k then x else s.2 i j := by
  unfold stL va_up vp_updL
  (try dsimp only)
  by_cases e : i = a
  · subst e
    rw [if_pos rfl]
    by_cases e2 : j = k
    · rw [if_pos e2, if_pos ⟨rfl, e2⟩]
    · rw [if_neg e2, if_neg (fun h => e2 h.2)]
  · rw [if_neg e, if_neg (fun h => e h.1)]
theorem sh_1 (h : k < 31) : (1 : Int32) <<< (nI k &&& 31) = nI (2 ^ k) := (by decide +kernel : ∀ k, k < 31 → (1 : Int32) <<< (nI k &&& 31) = nI (2 ^ k)) k h
theorem nI_or (a b : Nat) : nI a ||| nI b = nI (a ||| b) := Int32.toBitVec.inj (by
  show BitVec.ofNat 32 a ||| BitVec.ofNat 32 b = BitVec.ofNat 32 (a ||| b)
  exact BitVec.ofNat_or.symm)
theorem nI_and (a b : Nat) : nI a &&& nI b = nI (a &&& b) := Int32.toBitVec.inj (by
  show BitVec.ofNat 32 a &&& BitVec.ofNat 32 b = BitVec.ofNat 32 (a &&& b)
  exact BitVec.ofNat_and.symm)
theorem or_new {p : Nat → Bool} (h : k < 31) : nI (bmN p k) ||| ((1 : Int32) <<< (nI k &&& 31)) = nI (bmN p k + 2 ^ k) := by
  rw [sh_1 h, nI_or]
  have h1 := bmN_lt p k
  have h2 := Nat.two_pow_add_eq_or_of_lt h1 1
  rw [Nat.mul_one] at h2
  rw [Nat.or_comm, ← h2, Nat.add_comm]
theorem shr_b {x : Nat} (hx : x < 2 ^ 31) (h : k < 31) : (nI x >>> (nI k &&& 31)) &&& (1 : Int32) = nI (x / 2 ^ k % 2) := by
  rw [pk_shrN hx (nI k &&& 31) k ?_]
  · exact pk_andN (Nat.lt_of_le_of_lt (Nat.div_le_self _ _) (by omega)) 1 (by decide)
  · exact (by decide +kernel : ∀ k, k < 31 → ((nI k &&& 31).toBitVec.smod 32).toNat = k) k h
theorem imin_n (ha : a < 2 ^ 31) (hb : b < 2 ^ 31) : imin (nI a) (nI b) = nI (min a b) := by
  show (if nI b < nI a then nI b else nI a) = _
  by_cases h : b < a
  · rw [if_pos (nI_lt h ha), Nat.min_eq_right (by omega)]
  · rw [if_neg (nI_nlt (by omega) hb), Nat.min_eq_left (by omega)]
theorem imax_n (ha : a < 2 ^ 31) (hb : b < 2 ^ 31) : imax (nI a) (nI b) = nI (max a b) := by
  show (if nI a < nI b then nI b else nI a) = _
  by_cases h : a < b
  · rw [if_pos (nI_lt h hb), Nat.max_eq_right (by omega)]
  · rw [if_neg (nI_nlt (by omega) ha), Nat.max_eq_left (by omega)]
theorem m1_n (h : k < 2 ^ 31) : ¬ nI k = -1 := fun e => by
  have := congrArg Int32.toInt e
  rw [nI_toInt h] at this
  have e2 : ((-1 : Int32)).toInt = -1 := by decide
  omega
theorem m1_n' (h : k < 2 ^ 31) : ¬ -1 = nI k := fun e => m1_n h e.symm
theorem lt_m1 (h : k < 2 ^ 31) : ¬ nI k < -1 := by
  rw [Int32.lt_iff_toInt_lt, nI_toInt h]
  have e2 : ((-1 : Int32)).toInt = -1 := by decide
  omega
end NU
