/-! ALL LOOKS, one after the other -/
def nxK (D : RD) : Nat → (Nat → Nat) → Option (Nat → Nat)
  | 0, _ => none
  | j + 1, f => if f j < D 13 j then some (va_up f j (f j + 1)) else nxK D j (va_up f j (D 12 j))
def lkN (D : RD) : Nat → Nat → Nat
  | 0 => D 12
  | i + 1 => (nxK D (D 6 0) (lkN D i)).getD (D 12)
def qN (D : RD) : Nat → Nat
  | 0 => 1
  | j + 1 => qN D j * (D 13 j - D 12 j + 1)
def vlN (D : RD) : Nat → (Nat → Nat) → Nat
  | 0, _ => 0
  | j + 1, f => vlN D j f * (D 13 j - D 12 j + 1) + (f j - D 12 j)
abbrev QN (D : RD) : Nat := qN D (D 6 0)
/-- the least, the greatest -/
def mnO (p : Nat → Bool) (f : Nat → Nat) : Nat → Option Nat
  | 0 => none
  | n + 1 => if p n = true then some (match mnO p f n with
    | none => f n
    | some v => min v (f n)) else mnO p f n
def mxN (f : Nat → Nat) : Nat → Nat
  | 0 => 0
  | n + 1 => max (mxN f n) (f n)
def allN (p : Nat → Bool) : Nat → Bool
  | 0 => true
  | n + 1 => allN p n && p n
abbrev sh0 (D : RD) : Nat → Nat → Bool := fun n w => shK D (fun _ => false) (D 7 0) n w
abbrev T0 (D : RD) : SU := tS D (sh0 D)
abbrev TL (D : RD) (f : Nat → Nat) : SU := tX D (D 1 0) (D 9) (D 10) f (sh0 D)
def wnI (D : RD) (i : Nat) : Option Nat := winO (D 0 0) (D 5 0) (D 2 0) (rP D (TL D (lkN D i)))
def hmI (D : RD) (b i : Nat) : Option Nat := homeO (D 0 0) (D 2 0) (rP D (TL D (lkN D i))) b
def otN (D : RD) (f : Nat → Nat) : Nat := cntB (fun w => decide (f w ≠ D 14 w)) (D 6 0)
def wyN (D : RD) (b j : Nat) : Nat := cntB (fun i => decide (wnI D i = some b)) j
def plN (D : RD) (b w j : Nat) : Option Nat := (ffN (fun i => decide (wnI D i = some b)) j 0).map (fun i => lkN D i w)
def fwO (D : RD) (b j : Nat) : Option Nat := mnO (fun i => decide (wnI D i = some b)) (fun i => otN D (lkN D i)) j
def snO (D : RD) (b j : Nat) : Option Nat := mnO (fun i => (hmI D b i).isSome) (fun i => (hmI D b i).getD 0) j
def frN (D : RD) (b j : Nat) : Nat := mxN (fun i => rP D (TL D (lkN D i)) (D 0 0) b) j
/-- the looks numbered i fit a row of n numbers R -/
def ftB (D : RD) (n : Nat) (R : Nat → Int64) (T : SU) : Bool := allN (fun t => decide ((rP D T (R (3 * t + 1)).toInt.toNat (R (3 * t)).toInt.toNat : Int) = (R (3 * t + 2)).toInt)) (n / 3)
/-! THE INVARIANT: what holds between calls, of both programs -/
def TPI (s : mT) : Prop := ∃ (l : Nat) (t : Nat → Nat), l ≤ 600 ∧ s.1 1 1 = nI l ∧ s.1 294 5 = nI l ∧ ∀ i, i < l → t i < 256 ∧ s.1 2 i = nI (t i) ∧ s.1 298 i = (nI (t i)).toInt8.toInt32
def IMI (k : Nat) (s : mT) : Prop := (s.1 248 k = 0 ∧ s.1 297 k = 0) ∨ (s.1 248 k = 1 ∧ s.1 297 k = 1 ∧ ∃ D, VD D ∧ RR (249 + 12 * k) D s ∧ MA (fun i => s.1 296 (79 * k + i)) D)
def SLI (l : Nat) (s : mT) : Prop := (s.1 (286 + 2 * l) 1 = 0 ∧ s.1 313 l = -1) ∨ (s.1 (286 + 2 * l) 1 = 1 ∧ ∃ wd n, wd ≤ 3 ∧ n ≤ 60 ∧ s.1 (286 + 2 * l) 2 = nI wd ∧ s.1 314 l = nI wd ∧ s.1 (286 + 2 * l) 3 = nI n ∧ s.1 313 l = nI n ∧ ∀ i, i < n → s.2 (287 + 2 * l) i = s.2 315 (60 * l + i))
def SVI (D : RD) (s : mT) : Prop := s.1 214 2 = 1 ∨ (s.1 214 2 = 0 ∧ (∀ b, b < D 5 0 → s.1 215 b = nI (wyN D b (QN D)) ∧ s.1 216 b = oz (fwO D b (QN D)) ∧ s.1 217 b = oz (snO D b (QN D)) ∧ s.1 218 b = nI (frN D b (QN D)) ∧ ∀ w, w < D 6 0 → s.1 (220 + b) w = oz (plN D b w (QN D))))
def SNI (D : RD) (s : mT) : Prop := s.1 225 2 = -1 ∨ ∃ l n, l < 4 ∧ s.1 225 2 = nI l ∧ n ≤ 60 ∧ s.1 (286 + 2 * l) 3 = nI n ∧ s.1 225 3 = nI (cntB (fun i => ftB D n (s.2 (287 + 2 * l)) (TL D (lkN D i))) (QN D)) ∧ ∀ w b, w < D 6 0 → b < 5 → s.1 (227 + w) b = nI (cntB (fun i => ftB D n (s.2 (287 + 2 * l)) (TL D (lkN D i)) && decide (lkN D i w = b)) (QN D))
def IV (xs : Nat → Int32) (D : RD) (s : mT) : Prop :=
  (VD D ∧ RR 16 D s ∧ MA (s.1 295) D) ∧ (PR 28 D (T0 D) s ∧ RW 28 D (T0 D) (D 0 0) s) ∧ TPI s ∧ (s.1 3 2 = s.1 294 12 ∧ s.1 3 3 = s.1 294 13) ∧
  (∀ k, k < 3 → IMI k s) ∧ (∀ l, l < 4 → SLI l s) ∧ SVI D s ∧ SNI D s ∧ (∀ a, XB ≤ a → s.1 a = xI xs a)
/-- what calls may change that ask alone -/
def pK (a k : Nat) : Prop := (121 ≤ a ∧ a ≤ 213) ∨ (232 ≤ a ∧ a ≤ 246) ∨ (299 ≤ a ∧ a ≤ 312) ∨ (a = 294 ∧ k ≠ 5 ∧ k ≠ 12 ∧ k ≠ 13)
def KP (s s' : mT) : Prop := (∀ a k, ¬ pK a k → s'.1 a k = s.1 a k) ∧ (∀ a, a ≠ 294 → a ≠ 316 → s'.2 a = s.2 a)
section IVS
variable {n w b a k l : Nat} {s s' s'' : mT} {D : RD} {T : SU} {xs : Nat → Int32}
theorem KP.rfl' : KP s s := ⟨fun _ _ _ => rfl, fun _ _ _ => rfl⟩
theorem KP.tr (h1 : KP s s') (h2 : KP s' s'') : KP s s'' := ⟨fun a k h => (h2.1 a k h).trans (h1.1 a k h), fun a h1' h2' => (h2.2 a h1' h2').trans (h1.2 a h1' h2')⟩
theorem KP.of {P : Nat → Nat → Prop} (h : Fp P s s') (hw : ∀ a k, P a k → pK a k) : KP s s' := ⟨fun a k hn => h.1 a k (fun z => hn (hw a k z)), fun a _ _ => by rw [h.2]⟩
theorem KP.ofr {lo hi : Nat} (h : Fr lo hi s s') (hw : ∀ a k, lo ≤ a → a < hi → pK a k) : KP s s' := ⟨fun a k hn => congrFun (h.1 a (by
  by_cases h1 : lo ≤ a ∧ a < hi
  · exact absurd (hw a k h1.1 h1.2) hn
  · omega)) k, fun a _ _ => by rw [h.2]⟩
theorem KP.st {x : Int32} (h : pK a k) : KP s (stI s a k x) := ⟨fun b j hb => by
  rw [stI_at, if_neg]
  rintro ⟨rfl, rfl⟩
  exact hb h, fun _ _ _ => rfl⟩
theorem KP.c (h : KP s s') (ha : ∀ k, ¬ pK a k) : s'.1 a = s.1 a := funext (fun k => h.1 a k (ha k))
theorem RR.cg {r : Nat} (h : RR r D s) (hf : ∀ a, r ≤ a → a < r + 12 → s'.1 a = s.1 a) : RR r D s' := by
  obtain ⟨h1, h2, h3, h4, h5⟩ := h
  have e0 := hf r (by omega) (by omega)
  have e1 := hf (r + 1) (by omega) (by omega)
  have e2 := hf (r + 2) (by omega) (by omega)
  have e3 := hf (r + 3) (by omega) (by omega)
  have e4 := hf (r + 4) (by omega) (by omega)
  have e5 := hf (r + 5) (by omega) (by omega)
  have e6 := hf (r + 6) (by omega) (by omega)
  have e7 := hf (r + 7) (by omega) (by omega)
  have e8 := hf (r + 8) (by omega) (by omega)
  have e9 := hf (r + 9) (by omega) (by omega)
  have e10 := hf (r + 10) (by omega) (by omega)
  have e11 := hf (r + 11) (by omega) (by omega)
  unfold RR
  rw [e0, e1, e2, e3, e4, e5, e6, e7, e8, e9, e10, e11]
  exact ⟨h1, h2, h3, h4, h5⟩
theorem PR.cg {c : Nat} (h : PR c D T s) (hV : VD D) (hf : ∀ a, c ≤ a → a < c + 27 → s'.1 a = s.1 a) : PR c D T s' := by
  obtain ⟨h1, h2, h3, h4, h5⟩ := h
  have hN := hV.1.1
  have e0 := hf c (by omega) (by omega)
  have e1 := hf (c + 1) (by omega) (by omega)
  have e2 := hf (c + 2) (by omega) (by omega)
  have e3 := hf (c + 3) (by omega) (by omega)
  have e5 := hf (c + 26) (by omega) (by omega)
  refine ⟨by rw [e0]; exact h1, fun b hb => by rw [e1, e2]; exact h2 b hb, fun w hw => by rw [e3]; exact h3 w hw, fun n w hn hw => ?_, fun n hn => by rw [e5]; exact h5 n hn⟩
  rw [hf (c + 5 + n) (by omega) (by omega)]
  exact h4 n w hn hw
theorem RW.cg {c M : Nat} (h : RW c D T M s) (hM : M ≤ 20) (hf : ∀ a, c + 28 ≤ a → a < c + 93 → s'.1 a = s.1 a) : RW c D T M s' := by
  obtain ⟨h1, h2, h3⟩ := h
  refine ⟨fun n b hn hb => ?_, fun n w hn hw => ?_, fun n b hn hb => ?_⟩
  · rw [hf (c + 28 + n) (by omega) (by omega)]; exact h1 n b hn hb
  · rw [hf (c + 50 + n) (by omega) (by omega)]; exact h2 n w hn hw
  · rw [hf (c + 72 + n) (by omega) (by omega)]; exact h3 n b hn hb
theorem IV.kp (h : IV xs D s) (hf : KP s s') : IV xs D s' := by
  obtain ⟨⟨i1, i2, i3⟩, ⟨i4, i5⟩, i6, i7, i8, i9, i10, i11, i12⟩ := h
  have eXB : XB = 1000000 := rfl
  have e : ∀ a, a ≠ 294 → (a < 121 ∨ 213 < a) → (a < 232 ∨ 246 < a) → (a < 299 ∨ 312 < a) → s'.1 a = s.1 a := fun a h1 h2 h3 h4 => hf.c (fun k => by unfold pK; omega)
  have e5 : s'.1 294 5 = s.1 294 5 := hf.1 294 5 (by unfold pK; omega)
  have e12 : s'.1 294 12 = s.1 294 12 := hf.1 294 12 (by unfold pK; omega)
  have e13 : s'.1 294 13 = s.1 294 13 := hf.1 294 13 (by unfold pK; omega)
  refine ⟨⟨i1, i2.cg (fun a h1 h2 => e a (by omega) (by omega) (by omega) (by omega)), ?_⟩, ⟨i4.cg i1 (fun a h1 h2 => e a (by omega) (by omega) (by omega) (by omega)), i5.cg i1.1.1 (fun a h1 h2 => e a (by omega) (by omega) (by omega) (by omega))⟩, ?_, ?_, fun k hk => ?_, fun l hl => ?_, ?_, ?_, fun a ha => ?_⟩
  · rw [e 295 (by omega) (by omega) (by omega) (by omega)]; exact i3
  · unfold TPI
    rw [e5, e 1 (by omega) (by omega) (by omega) (by omega), e 2 (by omega) (by omega) (by omega) (by omega), e 298 (by omega) (by omega) (by omega) (by omega)]
    exact i6
  · rw [e12, e13, e 3 (by omega) (by omega) (by omega) (by omega)]; exact i7
  · rcases i8 k hk with h | ⟨h1, h2, D', h3, h4, h5⟩
    · left
      rw [e 248 (by omega) (by omega) (by omega) (by omega), e 297 (by omega) (by omega) (by omega) (by omega)]; exact h
    · right
      rw [e 248 (by omega) (by omega) (by omega) (by omega), e 297 (by omega) (by omega) (by omega) (by omega), e 296 (by omega) (by omega) (by omega) (by omega)]
      exact ⟨h1, h2, D', h3, h4.cg (fun a z1 z2 => e a (by omega) (by omega) (by omega) (by omega)), h5⟩
  · have := i9 l hl
    unfold SLI at this ⊢
    rw [e (286 + 2 * l) (by omega) (by omega) (by omega) (by omega), e 313 (by omega) (by omega) (by omega) (by omega), e 314 (by omega) (by omega) (by omega) (by omega), hf.2 (287 + 2 * l) (by omega) (by omega), hf.2 315 (by omega) (by omega)]
    exact this
  · unfold SVI at i10 ⊢
    rw [e 214 (by omega) (by omega) (by omega) (by omega), e 215 (by omega) (by omega) (by omega) (by omega), e 216 (by omega) (by omega) (by omega) (by omega), e 217 (by omega) (by omega) (by omega) (by omega), e 218 (by omega) (by omega) (by omega) (by omega)]
    rcases i10 with h | ⟨h1, h2⟩
    · exact Or.inl h
    · refine Or.inr ⟨h1, fun b hb => ?_⟩
      have hB := i1.1.2.2.2.2.2.1
      rw [e (220 + b) (by omega) (by omega) (by omega) (by omega)]
      exact h2 b hb
  · unfold SNI at i11 ⊢
    rw [e 225 (by omega) (by omega) (by omega) (by omega)]
    rcases i11 with h | ⟨l, n, hl, h1, h2, h3, h4, h5⟩
    · exact Or.inl h
    · refine Or.inr ⟨l, n, hl, h1, h2, ?_⟩
      have hW := i1.1.2.2.2.2.2.2.1
      rw [e (286 + 2 * l) (by omega) (by omega) (by omega) (by omega), hf.2 (287 + 2 * l) (by omega) (by omega)]
      refine ⟨h3, h4, fun w b hw hb => ?_⟩
      rw [e (227 + w) (by omega) (by omega) (by omega) (by omega)]
      exact h5 w b hw hb
  · rw [e a (by omega) (by omega) (by omega) (by omega)]; exact i12 a ha
theorem IV.V (h : IV xs D s) : VD D := h.1.1
theorem IV.R (h : IV xs D s) : RR 16 D s := h.1.2.1
theorem IV.M (h : IV xs D s) : MA (s.1 295) D := h.1.2.2
theorem IV.l31 (h : IV xs D s) : D 4 0 < 2 ^ 31 := by have := h.V.1.2.2.2.2.1; omega
theorem T0_K (hV : VD D) : ∀ n w, n ≤ D 0 0 → w < D 6 0 → rK D (T0 D) n w < D 5 0 := tX_K hV (fun w hw => by have := hV.2.2.1 w hw; omega)
theorem IV.cv (h : IV xs D s) : CV 28 s (D 0 0) (D 0 0) (D 5 0) (D 6 0) (D 2 0) (rP D (T0 D)) (rK D (T0 D)) (rE D (T0 D)) (D 10) := CV.mk' h.V h.R h.2.1.1 h.2.1.2 (Nat.le_refl _) (T0_K h.V)
theorem IV.hasB {v : Int32} (h : IV xs D s) : gR_hasBoat 16 v.toInt64 s = some (bz (decide (0 ≤ v.toInt ∧ v.toInt < (D 5 0 : Int)))) := by
  have := g_hasBoat (v := v.toInt64) h.R.1.2.2.2.2.2.1 h.V.1.2.2.2.2.2.1
  rw [Int32.toInt_toInt64] at this
  exact this
theorem IV.hasW {v : Int32} (h : IV xs D s) : gR_hasWatcher 16 v s = some (bz (decide (0 ≤ v.toInt ∧ v.toInt < (D 6 0 : Int)))) := g_hasW h.R.1.2.2.2.2.2.2.1 h.V.1.2.2.2.2.2.2.1
theorem IV.hasSh {v : Int32} (h : IV xs D s) : gR_hasShow 16 v s = some (bz (decide (0 ≤ v.toInt ∧ v.toInt < (D 7 0 : Int)))) := g_hasShow h.R.1.2.2.2.2.2.2.2.1 h.V.1.2.2.2.2.2.2.2.1
theorem IV.ex (h : IV xs D s) : gR_exists 16 s = some (bz (decide (0 < D 4 0))) := g_exists h.R.1.2.2.2.2.1 h.l31
theorem IV.hasS {v : Int32} (h : IV xs D s) : gR_hasStep 16 v.toInt64 s = some (bz (decide (0 < D 4 0 ∧ 0 ≤ v.toInt ∧ v.toInt < (D 0 0 : Int) + 1))) := by
  have := g_hasStep (v := v.toInt64) h.R.1.2.2.2.2.1 h.l31 h.R.1.1 h.V.1.1
  rw [Int32.toInt_toInt64] at this
  exact this
theorem IV.hasE {v : Int32} (h : IV xs D s) : gR_hasEarlyStep 16 v s = some (bz (decide (0 < D 4 0 ∧ 0 ≤ v.toInt ∧ v.toInt < (D 0 0 : Int)))) := g_hasEarly h.R.1.2.2.2.2.1 h.l31 h.R.1.1 h.V.1.1
theorem IV.mB {v : Int32} (h : IV xs D s) : gM_isBoat v.toInt64 s = some (bz (decide (0 ≤ v.toInt ∧ v.toInt < (D 5 0 : Int)))) := by
  have := m_isBoat (v := v.toInt64) h.M.1.2.2.2.2.1 h.V.1.2.2.2.2.2.1
  rw [Int32.toInt_toInt64] at this
  exact this
theorem IV.mW {v : Int32} (h : IV xs D s) : gM_isWatcher v s = some (bz (decide (0 ≤ v.toInt ∧ v.toInt < (D 6 0 : Int)))) := m_isW h.M.1.2.2.2.2.2.1 h.V.1.2.2.2.2.2.2.1
theorem IV.mS {v : Int32} (h : IV xs D s) : gM_isStep v.toInt64 s = some (bz (decide (0 < D 4 0 ∧ 0 ≤ v.toInt ∧ v.toInt < (D 0 0 : Int) + 1))) := by
  have := m_isStep (v := v.toInt64) h.M.1.2.2.2.2.2.2.2.2 h.l31 h.M.1.1 h.V.1.1
  rw [Int32.toInt_toInt64] at this
  exact this
theorem IV.mE {v : Int32} (h : IV xs D s) : gM_isAhead v s = some (bz (decide (0 < D 4 0 ∧ 0 ≤ v.toInt ∧ v.toInt < (D 0 0 : Int)))) := m_isAhead h.M.1.2.2.2.2.2.2.2.2 h.l31 h.M.1.1 h.V.1.1
theorem IV.mR (h : IV xs D s) : gM_isRace s = some (bz (decide (0 < D 4 0))) := m_isRace h.M.1.2.2.2.2.2.2.2.2 h.l31
/-- no race, no boats and the like -/
theorem IV.isr (h : IV xs D s) (hb : 0 < D 5 0 ∨ 0 < D 6 0 ∨ 0 < D 7 0 ∨ 0 < D 0 0 ∨ 0 < D 8 0) : 0 < D 4 0 := by
  by_cases h0 : D 4 0 = 0
  · have := h.V.2.2.2.2.2 h0
    omega
  · omega
def MS (xs : Nat → Int32) (D : RD) (s s1 : mT) : Prop := KP s s1 ∧ IV xs D s1 ∧ MPB D (D 1 0) (D 9) (D 10) (D 14) (luN D (fun _ => false) (D 7 0)) 0 s1 ∧ (0 < D 4 0 → MQq D (T0 D) s1 ∧ OWN D (T0 D) (luN D (fun _ => false) (D 7 0)) 0 s1)
theorem pAG_K (a k : Nat) (h : pA a k ∨ pG a k) : pK a k := by
  unfold pA pG at h
  unfold pK
  omega
theorem IV.asIs (h : IV xs D s) : ∃ s1, gM_asItIs s = some s1 ∧ KP s s1 ∧ IV xs D s1 ∧ MPB D (D 1 0) (D 9) (D 10) (D 14) (luN D (fun _ => false) (D 7 0)) 0 s1 := by
  obtain ⟨s1, f1, f2, f3, f4⟩ := asItIs_is h.V h.M
  have hk : KP s s1 := KP.of f2 (fun a k z => pAG_K a k (Or.inl z))
  exact ⟨s1, f1, hk, h.kp hk, f4⟩
theorem IV.asks (h : IV xs D s) : ∃ s1, gM_asksRace s = some (bz (decide (0 < D 4 0)), s1) ∧ MS xs D s s1 := by
  obtain ⟨s1, f1, f2, f3, f4, f5⟩ := asksRace_is h.V h.M
  have hk : KP s s1 := KP.of f2 pAG_K
  refine ⟨s1, f1, hk, h.kp hk, f4, fun z => ⟨?_, (f5 z).2⟩⟩
  exact MQq.mk' h.V f3 f4 (f5 z).1
theorem IV.asksS {v : Int32} (h : IV xs D s) : ∃ s1, gM_asksStep v s = some (bz (decide (0 < D 4 0 ∧ 0 ≤ v.toInt ∧ v.toInt < (D 0 0 : Int) + 1)), s1) ∧ MS xs D s s1 := by
  obtain ⟨s1, f1, f2⟩ := h.asks
  refine ⟨s1, ?_, f2⟩
  unfold gM_asksStep
  rw [f1, Option.bind_some, f2.2.1.mS, Option.bind_some]
  by_cases h1 : 0 < D 4 0
  · rw [decide_eq_true h1, bz_t, if_neg (show ¬ (1 : Int32) = 0 by decide)]
    by_cases h2 : 0 ≤ v.toInt ∧ v.toInt < (D 0 0 : Int) + 1
    · rw [decide_eq_true ⟨h1, h2⟩]; rfl
    · rw [decide_eq_false (fun z => h2 z.2)]; rfl
  · rw [decide_eq_false h1, bz_f, if_pos rfl, decide_eq_false (fun z => h1 z.1)]; rfl
theorem IV.asksE {v : Int32} (h : IV xs D s) : ∃ s1, gM_asksAhead v s = some (bz (decide (0 < D 4 0 ∧ 0 ≤ v.toInt ∧ v.toInt < (D 0 0 : Int))), s1) ∧ MS xs D s s1 := by
  obtain ⟨s1, f1, f2⟩ := h.asks
  refine ⟨s1, ?_, f2⟩
  unfold gM_asksAhead
  rw [f1, Option.bind_some, f2.2.1.mE, Option.bind_some]
  by_cases h1 : 0 < D 4 0
  · rw [decide_eq_true h1, bz_t, if_neg (show ¬ (1 : Int32) = 0 by decide)]
    by_cases h2 : 0 ≤ v.toInt ∧ v.toInt < (D 0 0 : Int)
    · rw [decide_eq_true ⟨h1, h2⟩]; rfl
    · rw [decide_eq_false (fun z => h2 z.2)]; rfl
  · rw [decide_eq_false h1, bz_f, if_pos rfl, decide_eq_false (fun z => h1 z.1)]; rfl
theorem IV.asksB {v : Int32} (h : IV xs D s) : ∃ s1, gM_asksBoat v s = some (bz (decide (0 ≤ v.toInt ∧ v.toInt < (D 5 0 : Int))), s1) ∧ MS xs D s s1 := by
  obtain ⟨s1, f1, f2⟩ := h.asks
  refine ⟨s1, ?_, f2⟩
  unfold gM_asksBoat
  rw [f1, Option.bind_some, f2.2.1.mB, Option.bind_some]
  by_cases h1 : 0 < D 4 0
  · rw [decide_eq_true h1, bz_t, if_neg (show ¬ (1 : Int32) = 0 by decide)]
    by_cases h2 : 0 ≤ v.toInt ∧ v.toInt < (D 5 0 : Int)
    · rw [decide_eq_true h2]; rfl
    · rw [decide_eq_false h2]; rfl
  · rw [decide_eq_false h1, bz_f, if_pos rfl, decide_eq_false (fun z => h1 (h.isr (by omega)))]; rfl
theorem IV.asksW {v : Int32} (h : IV xs D s) : ∃ s1, gM_asksWatcher v s = some (bz (decide (0 ≤ v.toInt ∧ v.toInt < (D 6 0 : Int))), s1) ∧ MS xs D s s1 := by
  obtain ⟨s1, f1, f2⟩ := h.asks
  refine ⟨s1, ?_, f2⟩
  unfold gM_asksWatcher
  rw [f1, Option.bind_some, f2.2.1.mW, Option.bind_some]
  by_cases h1 : 0 < D 4 0
  · rw [decide_eq_true h1, bz_t, if_neg (show ¬ (1 : Int32) = 0 by decide)]
    by_cases h2 : 0 ≤ v.toInt ∧ v.toInt < (D 6 0 : Int)
    · rw [decide_eq_true h2]; rfl
    · rw [decide_eq_false h2]; rfl
  · rw [decide_eq_false h1, bz_f, if_pos rfl, decide_eq_false (fun z => h1 (h.isr (by omega)))]; rfl
end IVS
