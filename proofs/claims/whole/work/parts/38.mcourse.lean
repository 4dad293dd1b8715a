/-! MORE LOOPS: a counter and the store -/
theorem wh_cnt {R : Type} {f : Int32 × mT → Option ((Int32 × mT) ⊕ R)} (I : Nat → mT → Prop) (Q : R → Prop) (a n : Nat) (han : a ≤ n) (hs : ∀ k, a ≤ k → k < n → ∀ s, I k s → ∃ s', f (nI k, s) = some (.inl (nI (k + 1), s')) ∧ I (k + 1) s') (he : ∀ s, I n s → ∃ r, f (nI n, s) = some (.inr r) ∧ Q r) {s : mT} (h0 : I a s) {i : Int32} (hi : i = nI a) : ∀ fuel, n < fuel → ∃ r, wh fuel f (i, s) = some r ∧ Q r := by
  subst hi
  have := wh_inv (f := f) (fun k q => q.1 = nI (a + k) ∧ I (a + k) q.2) Q (n - a) (fun k hk q hq => by
    obtain ⟨i, s⟩ := q
    obtain ⟨h1, h2⟩ := hq
    dsimp only at h1 h2
    subst h1
    obtain ⟨s', h3, h4⟩ := hs (a + k) (by omega) (by omega) s h2
    exact ⟨_, h3, rfl, h4⟩) (fun q hq => by
    obtain ⟨i, s⟩ := q
    obtain ⟨h1, h2⟩ := hq
    dsimp only at h1 h2
    rw [show a + (n - a) = n by omega] at h1 h2
    subst h1
    exact he s h2) (q := (nI a, s)) ⟨rfl, h0⟩
  exact fun fuel hf => this fuel (by omega)
theorem wh_fs {R : Type} {f : Int32 × mT → Option ((Int32 × mT) ⊕ R)} (p : Nat → Bool) (I : mT → Prop) (Q : Option Nat → R → Prop) (m : Nat) : ∀ a, (∀ k, a ≤ k → k < a + m → ∀ s, I s → p k = true → ∃ r, f (nI k, s) = some (.inr r) ∧ Q (some k) r) → (∀ k, a ≤ k → k < a + m → ∀ s, I s → p k = false → ∃ s', f (nI k, s) = some (.inl (nI (k + 1), s')) ∧ I s') → (∀ s, I s → ∃ r, f (nI (a + m), s) = some (.inr r) ∧ Q none r) → ∀ s, I s → ∀ fuel, m < fuel → ∃ r, wh fuel f (nI a, s) = some r ∧ Q (ffN p m a) r := by
  induction m with
  | zero =>
    intro a _ _ he s hI fuel hf
    obtain ⟨j, rfl⟩ : ∃ j, fuel = j + 1 := ⟨fuel - 1, by omega⟩
    obtain ⟨r, h1, h2⟩ := he s hI
    refine ⟨r, ?_, h2⟩
    rw [Nat.add_zero] at h1
    unfold wh
    rw [h1]
    rfl
  | succ m ih =>
    intro a h1 h2 he s hI fuel hf
    obtain ⟨j, rfl⟩ : ∃ j, fuel = j + 1 := ⟨fuel - 1, by omega⟩
    unfold ffN
    cases hp : p a with
    | true =>
      obtain ⟨r, g1, g2⟩ := h1 a (Nat.le_refl _) (by omega) s hI hp
      rw [if_pos rfl]
      refine ⟨r, ?_, g2⟩
      unfold wh
      rw [g1]
      rfl
    | false =>
      obtain ⟨s', g1, g2⟩ := h2 a (Nat.le_refl _) (by omega) s hI hp
      rw [if_neg (by decide)]
      obtain ⟨r, g3, g4⟩ := ih (a + 1) (fun k hk hk2 => h1 k (by omega) (by omega)) (fun k hk hk2 => h2 k (by omega) (by omega)) (fun s hs => by
        rw [show a + 1 + m = a + (m + 1) by omega]
        exact he s hs) s' g2 j (by omega)
      refine ⟨r, ?_, g4⟩
      unfold wh
      rw [g1]
      exact g3
/-! THE MODEL: what its rows hold -/
def acN (D : RD) (i : Nat) : Nat := if D 18 i = 0 then 100000 + 100 * D 17 i + D 19 i else 1000 * D 17 i + 100 * (D 18 i - 1) + D 19 i
/-- a row of numbers of the model (a race) holds D -/
def MA (f : Nat → Int32) (D : RD) : Prop :=
  (f 0 = nI (D 0 0) ∧ f 1 = nI (D 1 0) ∧ f 2 = nI (D 2 0) ∧ f 3 = nI (D 3 0) ∧ f 4 = nI (D 5 0) ∧ f 5 = nI (D 6 0) ∧ f 6 = nI (D 7 0) ∧ f 7 = nI (D 8 0) ∧ f 8 = nI (D 4 0)) ∧
  (∀ b, b < D 5 0 → f (9 + 2 * b) = nI (D 9 b) ∧ f (9 + 2 * b + 1) = nI (D 10 b)) ∧
  (∀ w, w < D 6 0 → f (19 + 4 * w) = nI (D 11 w) ∧ f (19 + 4 * w + 1) = nI (D 12 w) ∧ f (19 + 4 * w + 2) = nI (D 13 w) ∧ f (19 + 4 * w + 3) = nI (D 14 w)) ∧
  (∀ k, k < D 7 0 → f (39 + 2 * k) = nI (D 15 k) ∧ f (39 + 2 * k + 1) = nI (D 16 k)) ∧
  (∀ i, i < D 8 0 → f (49 + i) = nI (acN D i))
section MC
variable {n w b v lw : Nat} {s : mT} {D : RD} {T : SU} {p : Nat → Nat}
theorem n_4 : (4 : Int32) = nI 4 := rfl
theorem of_is {k : Nat} (hV : VD D) (hM : MA (s.1 295) D) (hw : w < D 6 0) (hk : k < 4) : gM_of (nI w) (nI k) s = some (nI (D (11 + k) w)) := by
  obtain ⟨⟨v1, v2, v3, v4, v5, v6, v7, v8, v9⟩, vB, vW, vS, vA, v0⟩ := hV
  obtain ⟨h0, h1, h2, h3⟩ := hM.2.2.1 w hw
  unfold gM_of
  simp (disch := omega) only [show (19 : Int32) = nI 19 from rfl, show (4 : Int32) = nI 4 from rfl, pk_mul, nI_add, rd_n, Option.bind_some]
  match k, hk with
  | 0, _ => exact congrArg some h0
  | 1, _ => exact congrArg some h1
  | 2, _ => exact congrArg some h2
  | 3, _ => exact congrArg some h3
theorem of_0 (hV : VD D) (hM : MA (s.1 295) D) (hw : w < D 6 0) : gM_of (nI w) (0 : Int32) s = some (nI (D 11 w)) := of_is (k := 0) hV hM hw (by omega)
theorem of_1 (hV : VD D) (hM : MA (s.1 295) D) (hw : w < D 6 0) : gM_of (nI w) (1 : Int32) s = some (nI (D 12 w)) := of_is (k := 1) hV hM hw (by omega)
theorem of_2 (hV : VD D) (hM : MA (s.1 295) D) (hw : w < D 6 0) : gM_of (nI w) (2 : Int32) s = some (nI (D 13 w)) := of_is (k := 2) hV hM hw (by omega)
theorem of_3 (hV : VD D) (hM : MA (s.1 295) D) (hw : w < D 6 0) : gM_of (nI w) (3 : Int32) s = some (nI (D 14 w)) := of_is (k := 3) hV hM hw (by omega)
theorem pl_is (hn : n ≤ 20) (hb : b < 5) : gM_placeOf (nI b) (nI n) s = some (s.1 305 (5 * n + b)) := by
  unfold gM_placeOf
  simp (disch := omega) only [show (5 : Int32) = nI 5 from rfl, pk_mul, nI_add, rd_n, Option.bind_some]
theorem on_is (hn : n ≤ 20) (hb : w < 5) : gM_onOf (nI w) (nI n) s = some (s.1 306 (5 * n + w)) := by
  unfold gM_onOf
  simp (disch := omega) only [show (5 : Int32) = nI 5 from rfl, pk_mul, nI_add, rd_n, Option.bind_some]
theorem m_turned1 (hV : VD D) (hM : MA (s.1 295) D) (hl : s.1 294 19 = nI lw) (h12 : lw = 1 ∨ lw = 2) (hn : n ≤ 20) (hp : ∀ b, b < D 5 0 → s.1 305 (5 * n + b) = nI (p b) ∧ p b ≤ 60) (hw : w < D 6 0) : wh FU (gM_turned_h68 (nI w) (nI n) s) (nI (D 12 w), nI (D 12 w) + (1 : Int32)) = some (nI (amF (fun i j => if lw = 1 then decide (p j < p i) else decide (p i < p j)) (D 12 w) (D 13 w - D 12 w))) := by
  have hV2 := hV
  obtain ⟨⟨v1, v2, v3, v4, v5, v6, v7, v8, v9⟩, vB, vW, vS, vA, v0⟩ := hV
  have h1 := vW w hw
  have h2 := of_2 hV2 hM hw
  rw [nI_1]
  refine wh_for (fun k => (nI (amF (fun i j => if lw = 1 then decide (p j < p i) else decide (p i < p j)) (D 12 w) k), nI (D 12 w + k + 1))) (D 13 w - D 12 w) (fun k hk => ?_) ?_ FU (FU_gt (by omega))
  · have g0 := amF_in (fun i j => if lw = 1 then decide (p j < p i) else decide (p i < p j)) (D 12 w) k
    have g1 := hp (D 12 w + k + 1) (by omega)
    have g2 := hp (amF (fun i j => if lw = 1 then decide (p j < p i) else decide (p i < p j)) (D 12 w) k) (by omega)
    have e1 : ¬ D 13 w < D 12 w + k + 1 := by omega
    simp (disch := omega) only [gM_turned_h68, h2, Option.bind_some, nI_ltI, e1, if_false, hl, show (1 : Int32) = nI 1 from rfl, nI_eq, pl_is, g1.1, g2.1, nI_leI, nI_add]
    show _ = some (Sum.inl (nI (if (if lw = 1 then decide (p (amF (fun i j => if lw = 1 then decide (p j < p i) else decide (p i < p j)) (D 12 w) k) < p (D 12 w + k + 1)) else decide (p (D 12 w + k + 1) < p (amF (fun i j => if lw = 1 then decide (p j < p i) else decide (p i < p j)) (D 12 w) k))) = true then D 12 w + k + 1 else amF (fun i j => if lw = 1 then decide (p j < p i) else decide (p i < p j)) (D 12 w) k), _))
    generalize amF (fun i j => if lw = 1 then decide (p j < p i) else decide (p i < p j)) (D 12 w) k = z at *
    by_cases hl1 : lw = 1
    · simp only [hl1, if_true]
      by_cases h : p (D 12 w + k + 1) ≤ p z
      · simp only [h, if_true, Option.bind_some, decide_eq_true_eq, Nat.not_lt.mpr h, if_false]
        try rfl
      · simp only [h, if_false, Option.bind_some, decide_eq_true_eq, Nat.not_le.mp h, if_true]
        try rfl
    · simp only [hl1, if_false]
      by_cases h : p z ≤ p (D 12 w + k + 1)
      · simp only [h, if_true, Option.bind_some, decide_eq_true_eq, Nat.not_lt.mpr h, if_false]
        try rfl
      · simp only [h, if_false, Option.bind_some, decide_eq_true_eq, Nat.not_le.mp h, if_true]
        try rfl
  · have e1 : D 13 w < D 12 w + (D 13 w - D 12 w) + 1 := by omega
    simp (disch := omega) only [gM_turned_h68, h2, Option.bind_some, nI_ltI, e1, if_true]
theorem m_turned (hV : VD D) (hM : MA (s.1 295) D) (hl : s.1 294 19 = nI lw) (hl3 : lw ≤ 3) (hn : n ≤ 20) (hp : ∀ b, b < D 5 0 → s.1 305 (5 * n + b) = nI (p b) ∧ p b ≤ 60) (hw : w < D 6 0) (hv : v < 9) : gM_turned (nI w) (nI n) (nI v) s = some (nI (turnN D lw p w v)) := by
  have h1 := of_1 hV hM hw
  have h2 := of_2 hV hM hw
  have hh := hV.2.2.1 w hw
  have h5 := hV.1.2.2.2.2.2.1
  have h8 := fun h => m_turned1 (n := n) (w := w) (p := p) hV hM hl h hn hp hw
  unfold gM_turned turnN
  rw [hl]
  by_cases a0 : lw = 0
  · subst a0; rfl
  · rw [if_neg (nI_ne0 (by omega) (by omega))]
    simp (disch := omega) only [show (3 : Int32) = nI 3 from rfl, nI_eq, h1, h2, Option.bind_some, m_in, pred_l, nI_l, lN_toInt]
    by_cases a3 : lw = 3
    · subst a3
      simp only [if_true, if_false, show ¬ (3 = 1) by decide, show ¬ (3 = 2) by decide]
      by_cases b1 : D 12 w ≤ v ∧ v < D 13 w
      · rw [if_pos b1, decide_eq_true (by omega), bz_t, if_neg (by decide), Option.bind_some, nI_1]
      · rw [if_neg b1, decide_eq_false (by omega), bz_f, if_pos rfl, Option.bind_some]
    · rw [if_neg a3, h8 (by omega), Option.bind_some]
      by_cases a1 : lw = 1
      · subst a1; simp only [if_true]
      · have a2 : lw = 2 := by omega
        subst a2
        simp only [if_true, if_false, show ¬ (2 = 1) by decide]
end MC
