/-! HOW A RACE GOES, over naturals; and that the class's course goes so -/
/-- race data: field k (as the class Race numbers them), index i -/
abbrev RD : Type := Nat → Nat → Nat
/-- a setup: law, starts, needs, first looks, looks by act, who is awake -/
abbrev SU : Type := Nat × (Nat → Nat) × (Nat → Nat) × (Nat → Nat) × (Nat → Nat → Option Nat) × (Nat → Nat → Bool)
def eyN (D : RD) (a : Nat → Bool) (k : Nat → Nat) (b n : Nat) : Nat := sumN (fun w => if a w = true ∧ k w = b then D 11 w else 0) n
def turnN (D : RD) (lw : Nat) (p : Nat → Nat) (w v : Nat) : Nat :=
  if lw = 1 then amF (fun i j => decide (p j < p i)) (D 12 w) (D 13 w - D 12 w) else
  if lw = 2 then amF (fun i j => decide (p i < p j)) (D 12 w) (D 13 w - D 12 w) else
  if lw = 3 then (if D 12 w ≤ v ∧ v < D 13 w then v + 1 else D 12 w) else v
def rS (D : RD) (T : SU) : Nat → (Nat → Nat) × (Nat → Nat)
  | 0 => (fun b => min (T.2.1 b) (D 2 0), fun w => (T.2.2.2.2.1 0 w).getD (T.2.2.2.1 w))
  | n + 1 => (fun b => min ((rS D T n).1 b + min 3 (eyN D (T.2.2.2.2.2 n) (rS D T n).2 b (D 6 0) / T.2.2.1 b)) (D 2 0),
    fun w => (T.2.2.2.2.1 (n + 1) w).getD (turnN D T.1 (fun b => min ((rS D T n).1 b + min 3 (eyN D (T.2.2.2.2.2 n) (rS D T n).2 b (D 6 0) / T.2.2.1 b)) (D 2 0)) w ((rS D T n).2 w)))
def rP (D : RD) (T : SU) (n b : Nat) : Nat := (rS D T n).1 b
def rK (D : RD) (T : SU) (n w : Nat) : Nat := (rS D T n).2 w
def rE (D : RD) (T : SU) (n b : Nat) : Nat := eyN D (T.2.2.2.2.2 n) (rK D T n) b (D 6 0)
theorem rP_0 (D : RD) (T : SU) (b : Nat) : rP D T 0 b = min (T.2.1 b) (D 2 0) := rfl
theorem rK_0 (D : RD) (T : SU) (w : Nat) : rK D T 0 w = (T.2.2.2.2.1 0 w).getD (T.2.2.2.1 w) := rfl
theorem rP_s (D : RD) (T : SU) (n b : Nat) : rP D T (n + 1) b = min (rP D T n b + min 3 (rE D T n b / T.2.2.1 b)) (D 2 0) := rfl
theorem rK_s (D : RD) (T : SU) (n w : Nat) : rK D T (n + 1) w = (T.2.2.2.2.1 (n + 1) w).getD (turnN D T.1 (rP D T (n + 1)) w (rK D T n w)) := rfl
/-- what is told of a race keeps the bounds -/
def VD (D : RD) : Prop :=
  (D 0 0 ≤ 20 ∧ D 1 0 ≤ 3 ∧ D 2 0 ≤ 60 ∧ D 3 0 ≤ 10 ∧ D 4 0 ≤ 200 ∧ D 5 0 ≤ 5 ∧ D 6 0 ≤ 5 ∧ D 7 0 ≤ 5 ∧ D 8 0 ≤ 30) ∧
  (∀ b, b < D 5 0 → D 9 b ≤ 30 ∧ 1 ≤ D 10 b ∧ D 10 b ≤ 9) ∧
  (∀ w, w < D 6 0 → 1 ≤ D 11 w ∧ D 11 w ≤ 9 ∧ D 12 w ≤ D 14 w ∧ D 14 w ≤ D 13 w ∧ D 13 w < D 5 0) ∧
  (∀ k, k < D 7 0 → 1 ≤ D 15 k ∧ D 15 k ≤ 9 ∧ D 16 k ≤ 19) ∧
  (∀ i, i < D 8 0 → D 17 i < D 6 0 ∧ D 18 i ≤ D 5 0 ∧ D 19 i ≤ D 0 0) ∧
  (D 4 0 = 0 → D 0 0 = 0 ∧ D 1 0 = 0 ∧ D 2 0 = 0 ∧ D 3 0 = 0 ∧ D 5 0 = 0 ∧ D 6 0 = 0 ∧ D 7 0 = 0 ∧ D 8 0 = 0)
/-- the object r of the class Race holds D (a boat told by an act is one more, a sneeze 0) -/
def RR (r : Nat) (D : RD) (s : mT) : Prop :=
  (s.1 r 0 = nI (D 0 0) ∧ s.1 r 1 = nI (D 1 0) ∧ s.1 r 2 = nI (D 2 0) ∧ s.1 r 3 = nI (D 3 0) ∧ s.1 r 4 = nI (D 4 0) ∧ s.1 r 5 = nI (D 5 0) ∧ s.1 r 6 = nI (D 6 0) ∧ s.1 r 7 = nI (D 7 0) ∧ s.1 r 8 = nI (D 8 0)) ∧
  (∀ b, b < D 5 0 → s.1 (r + 1) b = nI (D 9 b) ∧ s.1 (r + 2) b = nI (D 10 b)) ∧
  (∀ w, w < D 6 0 → s.1 (r + 3) w = nI (D 11 w) ∧ s.1 (r + 4) w = nI (D 12 w) ∧ s.1 (r + 5) w = nI (D 13 w) ∧ s.1 (r + 6) w = nI (D 14 w)) ∧
  (∀ k, k < D 7 0 → s.1 (r + 7) k = nI (D 15 k) ∧ s.1 (r + 8) k = nI (D 16 k)) ∧
  (∀ i, i < D 8 0 → s.1 (r + 9) i = nI (D 17 i) ∧ s.1 (r + 10) i = nI (D 18 i) - 1 ∧ s.1 (r + 11) i = nI (D 19 i))
/-- the course c is prepared as T says -/
def PR (c : Nat) (D : RD) (T : SU) (s : mT) : Prop :=
  s.1 c 1 = nI T.1 ∧
  (∀ b, b < D 5 0 → (s.1 (c + 1) b = nI (T.2.1 b) ∧ T.2.1 b ≤ 30) ∧ s.1 (c + 2) b = nI (T.2.2.1 b) ∧ 1 ≤ T.2.2.1 b ∧ T.2.2.1 b ≤ 9) ∧
  (∀ w, w < D 6 0 → s.1 (c + 3) w = nI (T.2.2.2.1 w) ∧ T.2.2.2.1 w < D 5 0) ∧
  (∀ n w, n ≤ D 0 0 → w < D 6 0 → s.1 (c + 5 + n) w = oz (T.2.2.2.2.1 n w) ∧ ∀ b, T.2.2.2.2.1 n w = some b → b < D 5 0) ∧
  (∀ n, n ≤ 20 → s.1 (c + 26) n = nI (bmN (T.2.2.2.2.2 n) (D 6 0)))
/-- nothing changed but the cells from lo to hi -/
def Fr (lo hi : Nat) (s s' : mT) : Prop := (∀ a, a < lo ∨ hi ≤ a → s'.1 a = s.1 a) ∧ s'.2 = s.2
section FRM
variable {lo hi lo' hi' a k : Nat} {s s' s'' : mT}
theorem Fr.rfl' : Fr lo hi s s := ⟨fun _ _ => rfl, rfl⟩
theorem Fr.tr (h1 : Fr lo hi s s') (h2 : Fr lo hi s' s'') : Fr lo hi s s'' := ⟨fun a ha => (h2.1 a ha).trans (h1.1 a ha), h2.2.trans h1.2⟩
theorem Fr.wid (h : Fr lo hi s s') (h1 : lo' ≤ lo) (h2 : hi ≤ hi') : Fr lo' hi' s s' := ⟨fun a ha => h.1 a (by omega), h.2⟩
theorem Fr.st {x : Int32} (h1 : lo ≤ a) (h2 : a < hi) : Fr lo hi s (stI s a k x) := ⟨fun b hb => by
  funext j
  exact stI_ne (by omega), rfl⟩
end FRM
theorem bmN_bit {p : Nat → Bool} {n k : Nat} (h : k < n) : bmN p n / 2 ^ k % 2 = if p k = true then 1 else 0 := by
  induction n with
  | zero => omega
  | succ n ih =>
    unfold bmN
    by_cases e : k = n
    · subst e
      have h1 := bmN_lt p k
      by_cases hp : p k = true
      · rw [if_pos hp, if_pos hp, Nat.add_div_right _ (Nat.two_pow_pos k), Nat.div_eq_of_lt h1]
      · rw [if_neg hp, if_neg hp, Nat.add_zero, Nat.div_eq_of_lt h1]
    · rw [← ih (by omega)]
      by_cases hp : p n = true
      · rw [if_pos hp, show 2 ^ n = 2 ^ k * (2 * 2 ^ (n - k - 1)) by rw [← Nat.pow_succ', ← Nat.pow_add]; congr 1; omega, Nat.add_mul_div_left _ _ (Nat.two_pow_pos k), Nat.add_mul_mod_self_left]
      · rw [if_neg hp, Nat.add_zero]
theorem eyN_le {D : RD} {a : Nat → Bool} {k : Nat → Nat} {b n : Nat} (h : ∀ w, w < n → D 11 w ≤ 9) : eyN D a k b n ≤ 9 * n := sumN_le _ 9 n (fun w hw => by
  show (if _ then _ else _) ≤ 9
  split
  · exact h w hw
  · omega)
/-- bounds of a run -/
theorem rK_lt {D : RD} {T : SU} (hV : VD D) (hf : ∀ w, w < D 6 0 → T.2.2.2.1 w < D 5 0) (ha : ∀ n w, n ≤ D 0 0 → w < D 6 0 → ∀ b, T.2.2.2.2.1 n w = some b → b < D 5 0) : ∀ n, n ≤ D 0 0 → ∀ w, w < D 6 0 → rK D T n w < D 5 0 := by
  intro n
  induction n with
  | zero =>
    intro hn w hw
    rw [rK_0]
    cases h : T.2.2.2.2.1 0 w with
    | none => exact hf w hw
    | some b => exact ha 0 w hn hw b h
  | succ n ih =>
    intro hn w hw
    rw [rK_s]
    cases h : T.2.2.2.2.1 (n + 1) w with
    | some b => exact ha (n + 1) w hn hw b h
    | none =>
      show turnN _ _ _ _ _ < _
      have h1 := hV.2.2.1 w hw
      have h2 := ih (by omega) w hw
      unfold turnN
      split
      · have := amF_in (fun i j => decide (rP D T (n + 1) j < rP D T (n + 1) i)) (D 12 w) (D 13 w - D 12 w)
        omega
      · split
        · have := amF_in (fun i j => decide (rP D T (n + 1) i < rP D T (n + 1) j)) (D 12 w) (D 13 w - D 12 w)
          omega
        · split
          · split <;> omega
          · exact h2
theorem rP_le {D : RD} {T : SU} (n b : Nat) : rP D T n b ≤ D 2 0 := by
  cases n with
  | zero => rw [rP_0]; omega
  | succ n => rw [rP_s]; omega
theorem rE_le {D : RD} {T : SU} (hV : VD D) (n b : Nat) : rE D T n b ≤ 45 := by
  have h1 := eyN_le (D := D) (a := T.2.2.2.2.2 n) (k := rK D T n) (b := b) (n := D 6 0) (fun w hw => (hV.2.2.1 w hw).2.1)
  have := hV.1.2.2.2.2.2.2.1
  unfold rE
  omega
