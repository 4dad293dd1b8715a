/-! READING: boats, watchers, shows -/
abbrev dBo (D : RD) (x y : Nat) : RD := fun k => if k = 4 then fun _ => D 4 0 + 1 else if k = 5 then fun _ => D 5 0 + 1 else if k = 9 then upN (D 9) (D 5 0) x else if k = 10 then upN (D 10) (D 5 0) y else D k
abbrev dWa (D : RD) (x y z u : Nat) : RD := fun k => if k = 4 then fun _ => D 4 0 + 1 else if k = 6 then fun _ => D 6 0 + 1 else if k = 11 then upN (D 11) (D 6 0) x else if k = 12 then upN (D 12) (D 6 0) y else if k = 13 then upN (D 13) (D 6 0) z else if k = 14 then upN (D 14) (D 6 0) u else D k
abbrev dSh (D : RD) (x y : Nat) : RD := fun k => if k = 4 then fun _ => D 4 0 + 1 else if k = 7 then fun _ => D 7 0 + 1 else if k = 15 then upN (D 15) (D 7 0) x else if k = 16 then upN (D 16) (D 7 0) y else D k
section LINES
variable {l p q n k i a b : Nat} {T : Nat → Nat} {s s' t t' : mT} {xs : Nat → Int32} {D : RD} {n1 n2 n3 n4 : Nat}
theorem VDbo (h : VDR D) (h5 : D 5 0 < 5) (h1 : n1 ≤ 30) (h2 : 1 ≤ n2) (h3 : n2 ≤ 9) : VDR (dBo D n1 n2) := by
  obtain ⟨⟨⟨v1, v2, v3, v4, v5, v6, v7, v8, v9⟩, vB, vW, vS, vA, v0⟩, hl, h8⟩ := h
  refine ⟨⟨⟨v1, v2, v3, v4, by show D 4 0 + 1 ≤ 200; omega, h5, v7, v8, v9⟩, fun b hb => ?_, fun w hw => ?_, vS, fun i hi => ?_, fun z => by cases z⟩, by show D 4 0 + 1 ≤ 1 + (D 5 0 + 1) + D 6 0 + D 7 0; omega, h8⟩
  · have hb : b < D 5 0 + 1 := hb
    show upN (D 9) (D 5 0) n1 b ≤ 30 ∧ 1 ≤ upN (D 10) (D 5 0) n2 b ∧ upN (D 10) (D 5 0) n2 b ≤ 9
    by_cases e : b = D 5 0
    · subst e; rw [upN_eq, upN_eq]; exact ⟨h1, h2, h3⟩
    · rw [upN_ne e, upN_ne e]; exact vB b (by omega)
  · obtain ⟨w1, w2, w3, w4, w5⟩ := vW w hw
    exact ⟨w1, w2, w3, w4, Nat.lt_succ_of_lt w5⟩
  · have hi : i < D 8 0 := hi
    omega
theorem VDwa (h : VDR D) (h6 : D 6 0 < 5) (h1 : 1 ≤ n1) (h2 : n1 ≤ 9) (h3 : n2 ≤ n4) (h4 : n4 ≤ n3) (h5 : n3 < D 5 0) : VDR (dWa D n1 n2 n3 n4) := by
  obtain ⟨⟨⟨v1, v2, v3, v4, v5, v6, v7, v8, v9⟩, vB, vW, vS, vA, v0⟩, hl, h8⟩ := h
  refine ⟨⟨⟨v1, v2, v3, v4, by show D 4 0 + 1 ≤ 200; omega, v6, h6, v8, v9⟩, vB, fun w hw => ?_, vS, fun i hi => ?_, fun z => by cases z⟩, by show D 4 0 + 1 ≤ 1 + D 5 0 + (D 6 0 + 1) + D 7 0; omega, h8⟩
  · have hw : w < D 6 0 + 1 := hw
    show 1 ≤ upN (D 11) (D 6 0) n1 w ∧ upN (D 11) (D 6 0) n1 w ≤ 9 ∧ upN (D 12) (D 6 0) n2 w ≤ upN (D 14) (D 6 0) n4 w ∧ upN (D 14) (D 6 0) n4 w ≤ upN (D 13) (D 6 0) n3 w ∧ upN (D 13) (D 6 0) n3 w < D 5 0
    by_cases e : w = D 6 0
    · subst e; rw [upN_eq, upN_eq, upN_eq, upN_eq]; exact ⟨h1, h2, h3, h4, h5⟩
    · rw [upN_ne e, upN_ne e, upN_ne e, upN_ne e]; exact vW w (by omega)
  · have hi : i < D 8 0 := hi
    omega
theorem VDsh (h : VDR D) (h7 : D 7 0 < 5) (h1 : 1 ≤ n1) (h2 : n1 ≤ 9) (h3 : n2 ≤ 19) : VDR (dSh D n1 n2) := by
  obtain ⟨⟨⟨v1, v2, v3, v4, v5, v6, v7, v8, v9⟩, vB, vW, vS, vA, v0⟩, hl, h8⟩ := h
  refine ⟨⟨⟨v1, v2, v3, v4, by show D 4 0 + 1 ≤ 200; omega, v6, v7, h7, v9⟩, vB, vW, fun b hb => ?_, fun i hi => ?_, fun z => by cases z⟩, by show D 4 0 + 1 ≤ 1 + D 5 0 + D 6 0 + (D 7 0 + 1); omega, h8⟩
  · have hb : b < D 7 0 + 1 := hb
    show 1 ≤ upN (D 15) (D 7 0) n1 b ∧ upN (D 15) (D 7 0) n1 b ≤ 9 ∧ upN (D 16) (D 7 0) n2 b ≤ 19
    by_cases e : b = D 7 0
    · subst e; rw [upN_eq, upN_eq]; exact ⟨h1, h2, h3⟩
    · rw [upN_ne e, upN_ne e]; exact vS b (by omega)
  · have hi : i < D 8 0 := hi
    omega
theorem RRbo (h : RR 4 D s) (h8 : D 8 0 = 0) (hf : ∀ a k, 4 ≤ a → a ≤ 15 → ¬ ((a = 5 ∨ a = 6) ∧ k = D 5 0) → ¬ (a = 4 ∧ k = 5) → s'.1 a k = s.1 a k) (h1 : s'.1 5 (D 5 0) = nI n1) (h2 : s'.1 6 (D 5 0) = nI n2) (h3 : s'.1 4 5 = nI (D 5 0 + 1)) : RR 4 (dL (dBo D n1 n2) (D 4 0)) s' := by
  obtain ⟨⟨a1, a2, a3, a4, a5, a6, a7, a8, a9⟩, hB, hW, hS, hA⟩ := h
  refine ⟨⟨by rw [hf 4 0 (by omega) (by omega) (by omega) (by omega)]; exact a1, by rw [hf 4 1 (by omega) (by omega) (by omega) (by omega)]; exact a2, by rw [hf 4 2 (by omega) (by omega) (by omega) (by omega)]; exact a3, by rw [hf 4 3 (by omega) (by omega) (by omega) (by omega)]; exact a4, by rw [hf 4 4 (by omega) (by omega) (by omega) (by omega)]; exact a5, h3, by rw [hf 4 6 (by omega) (by omega) (by omega) (by omega)]; exact a7, by rw [hf 4 7 (by omega) (by omega) (by omega) (by omega)]; exact a8, by rw [hf 4 8 (by omega) (by omega) (by omega) (by omega)]; exact a9⟩, fun b hb => ?_, fun w hw => ?_, fun k hk => ?_, fun i hi => ?_⟩
  · have hb : b < D 5 0 + 1 := hb
    show s'.1 5 b = nI (upN (D 9) (D 5 0) n1 b) ∧ s'.1 6 b = nI (upN (D 10) (D 5 0) n2 b)
    by_cases e : b = D 5 0
    · subst e; rw [upN_eq, upN_eq]; exact ⟨h1, h2⟩
    · rw [upN_ne e, upN_ne e, hf 5 b (by omega) (by omega) (by omega) (by omega), hf 6 b (by omega) (by omega) (by omega) (by omega)]; exact hB b (by omega)
  · rw [hf (4 + 3) w (by omega) (by omega) (by omega) (by omega), hf (4 + 4) w (by omega) (by omega) (by omega) (by omega), hf (4 + 5) w (by omega) (by omega) (by omega) (by omega), hf (4 + 6) w (by omega) (by omega) (by omega) (by omega)]; exact hW w hw
  · rw [hf (4 + 7) k (by omega) (by omega) (by omega) (by omega), hf (4 + 8) k (by omega) (by omega) (by omega) (by omega)]; exact hS k hk
  · have hi : i < D 8 0 := hi
    omega
theorem RRwa (h : RR 4 D s) (h8 : D 8 0 = 0) (hf : ∀ a k, 4 ≤ a → a ≤ 15 → ¬ ((7 ≤ a ∧ a ≤ 10) ∧ k = D 6 0) → ¬ (a = 4 ∧ k = 6) → s'.1 a k = s.1 a k) (h1 : s'.1 7 (D 6 0) = nI n1) (h2 : s'.1 8 (D 6 0) = nI n2) (h4 : s'.1 9 (D 6 0) = nI n3) (h5 : s'.1 10 (D 6 0) = nI n4) (h3 : s'.1 4 6 = nI (D 6 0 + 1)) : RR 4 (dL (dWa D n1 n2 n3 n4) (D 4 0)) s' := by
  obtain ⟨⟨a1, a2, a3, a4, a5, a6, a7, a8, a9⟩, hB, hW, hS, hA⟩ := h
  refine ⟨⟨by rw [hf 4 0 (by omega) (by omega) (by omega) (by omega)]; exact a1, by rw [hf 4 1 (by omega) (by omega) (by omega) (by omega)]; exact a2, by rw [hf 4 2 (by omega) (by omega) (by omega) (by omega)]; exact a3, by rw [hf 4 3 (by omega) (by omega) (by omega) (by omega)]; exact a4, by rw [hf 4 4 (by omega) (by omega) (by omega) (by omega)]; exact a5, by rw [hf 4 5 (by omega) (by omega) (by omega) (by omega)]; exact a6, h3, by rw [hf 4 7 (by omega) (by omega) (by omega) (by omega)]; exact a8, by rw [hf 4 8 (by omega) (by omega) (by omega) (by omega)]; exact a9⟩, fun b hb => ?_, fun w hw => ?_, fun k hk => ?_, fun i hi => ?_⟩
  · rw [hf (4 + 1) b (by omega) (by omega) (by omega) (by omega), hf (4 + 2) b (by omega) (by omega) (by omega) (by omega)]; exact hB b hb
  · have hw : w < D 6 0 + 1 := hw
    show s'.1 7 w = nI (upN (D 11) (D 6 0) n1 w) ∧ s'.1 8 w = nI (upN (D 12) (D 6 0) n2 w) ∧ s'.1 9 w = nI (upN (D 13) (D 6 0) n3 w) ∧ s'.1 10 w = nI (upN (D 14) (D 6 0) n4 w)
    by_cases e : w = D 6 0
    · subst e; rw [upN_eq, upN_eq, upN_eq, upN_eq]; exact ⟨h1, h2, h4, h5⟩
    · rw [upN_ne e, upN_ne e, upN_ne e, upN_ne e, hf 7 w (by omega) (by omega) (by omega) (by omega), hf 8 w (by omega) (by omega) (by omega) (by omega), hf 9 w (by omega) (by omega) (by omega) (by omega), hf 10 w (by omega) (by omega) (by omega) (by omega)]; exact hW w (by omega)
  · rw [hf (4 + 7) k (by omega) (by omega) (by omega) (by omega), hf (4 + 8) k (by omega) (by omega) (by omega) (by omega)]; exact hS k hk
  · have hi : i < D 8 0 := hi
    omega
theorem RRsh (h : RR 4 D s) (h8 : D 8 0 = 0) (hf : ∀ a k, 4 ≤ a → a ≤ 15 → ¬ ((a = 11 ∨ a = 12) ∧ k = D 7 0) → ¬ (a = 4 ∧ k = 7) → s'.1 a k = s.1 a k) (h1 : s'.1 11 (D 7 0) = nI n1) (h2 : s'.1 12 (D 7 0) = nI n2) (h3 : s'.1 4 7 = nI (D 7 0 + 1)) : RR 4 (dL (dSh D n1 n2) (D 4 0)) s' := by
  obtain ⟨⟨a1, a2, a3, a4, a5, a6, a7, a8, a9⟩, hB, hW, hS, hA⟩ := h
  refine ⟨⟨by rw [hf 4 0 (by omega) (by omega) (by omega) (by omega)]; exact a1, by rw [hf 4 1 (by omega) (by omega) (by omega) (by omega)]; exact a2, by rw [hf 4 2 (by omega) (by omega) (by omega) (by omega)]; exact a3, by rw [hf 4 3 (by omega) (by omega) (by omega) (by omega)]; exact a4, by rw [hf 4 4 (by omega) (by omega) (by omega) (by omega)]; exact a5, by rw [hf 4 5 (by omega) (by omega) (by omega) (by omega)]; exact a6, by rw [hf 4 6 (by omega) (by omega) (by omega) (by omega)]; exact a7, h3, by rw [hf 4 8 (by omega) (by omega) (by omega) (by omega)]; exact a9⟩, fun b hb => ?_, fun w hw => ?_, fun k hk => ?_, fun i hi => ?_⟩
  · rw [hf (4 + 1) b (by omega) (by omega) (by omega) (by omega), hf (4 + 2) b (by omega) (by omega) (by omega) (by omega)]; exact hB b hb
  · rw [hf (4 + 3) w (by omega) (by omega) (by omega) (by omega), hf (4 + 4) w (by omega) (by omega) (by omega) (by omega), hf (4 + 5) w (by omega) (by omega) (by omega) (by omega), hf (4 + 6) w (by omega) (by omega) (by omega) (by omega)]; exact hW w hw
  · have hk : k < D 7 0 + 1 := hk
    show s'.1 11 k = nI (upN (D 15) (D 7 0) n1 k) ∧ s'.1 12 k = nI (upN (D 16) (D 7 0) n2 k)
    by_cases e : k = D 7 0
    · subst e; rw [upN_eq, upN_eq]; exact ⟨h1, h2⟩
    · rw [upN_ne e, upN_ne e, hf 11 k (by omega) (by omega) (by omega) (by omega), hf 12 k (by omega) (by omega) (by omega) (by omega)]; exact hS k (by omega)
  · have hi : i < D 8 0 := hi
    omega
theorem MAbo (h : MA (s.1 300) D) (hV : VD D) (h5 : D 5 0 < 5) (h8 : D 8 0 = 0) (hf : ∀ k, k < 79 → k ≠ 9 + 2 * D 5 0 → k ≠ 9 + 2 * D 5 0 + 1 → k ≠ 4 → s'.1 300 k = s.1 300 k) (h1 : s'.1 300 (9 + 2 * D 5 0) = nI n1) (h2 : s'.1 300 (9 + 2 * D 5 0 + 1) = nI n2) (h3 : s'.1 300 4 = nI (D 5 0 + 1)) : MA (s'.1 300) (dL (dBo D n1 n2) (D 4 0)) := by
  obtain ⟨⟨a1, a2, a3, a4, a5, a6, a7, a8, a9⟩, hB, hW, hS, hA⟩ := h
  have hd := hV.1
  refine ⟨⟨by rw [hf 0 (by omega) (by omega) (by omega) (by omega)]; exact a1, by rw [hf 1 (by omega) (by omega) (by omega) (by omega)]; exact a2, by rw [hf 2 (by omega) (by omega) (by omega) (by omega)]; exact a3, by rw [hf 3 (by omega) (by omega) (by omega) (by omega)]; exact a4, h3, by rw [hf 5 (by omega) (by omega) (by omega) (by omega)]; exact a6, by rw [hf 6 (by omega) (by omega) (by omega) (by omega)]; exact a7, by rw [hf 7 (by omega) (by omega) (by omega) (by omega)]; exact a8, by rw [hf 8 (by omega) (by omega) (by omega) (by omega)]; exact a9⟩, fun b hb => ?_, fun w hw => ?_, fun k hk => ?_, fun i hi => ?_⟩
  · have hb : b < D 5 0 + 1 := hb
    show s'.1 300 (9 + 2 * b) = nI (upN (D 9) (D 5 0) n1 b) ∧ s'.1 300 (9 + 2 * b + 1) = nI (upN (D 10) (D 5 0) n2 b)
    by_cases e : b = D 5 0
    · subst e; rw [upN_eq, upN_eq]; exact ⟨h1, h2⟩
    · rw [upN_ne e, upN_ne e, hf _ (by omega) (by omega) (by omega) (by omega), hf _ (by omega) (by omega) (by omega) (by omega)]; exact hB b (by omega)
  · have hw' : w < D 6 0 := hw
    rw [hf _ (by omega) (by omega) (by omega) (by omega), hf _ (by omega) (by omega) (by omega) (by omega), hf _ (by omega) (by omega) (by omega) (by omega), hf _ (by omega) (by omega) (by omega) (by omega)]; exact hW w hw
  · have hk' : k < D 7 0 := hk
    rw [hf _ (by omega) (by omega) (by omega) (by omega), hf _ (by omega) (by omega) (by omega) (by omega)]; exact hS k hk
  · have hi : i < D 8 0 := hi
    omega
theorem MAwa (h : MA (s.1 300) D) (hV : VD D) (h6 : D 6 0 < 5) (h8 : D 8 0 = 0) (hf : ∀ k, k < 79 → ¬ (19 + 4 * D 6 0 ≤ k ∧ k ≤ 19 + 4 * D 6 0 + 3) → k ≠ 5 → s'.1 300 k = s.1 300 k) (h1 : s'.1 300 (19 + 4 * D 6 0) = nI n1) (h2 : s'.1 300 (19 + 4 * D 6 0 + 1) = nI n2) (h4 : s'.1 300 (19 + 4 * D 6 0 + 2) = nI n3) (h5 : s'.1 300 (19 + 4 * D 6 0 + 3) = nI n4) (h3 : s'.1 300 5 = nI (D 6 0 + 1)) : MA (s'.1 300) (dL (dWa D n1 n2 n3 n4) (D 4 0)) := by
  obtain ⟨⟨a1, a2, a3, a4, a5, a6, a7, a8, a9⟩, hB, hW, hS, hA⟩ := h
  have hd := hV.1
  refine ⟨⟨by rw [hf 0 (by omega) (by omega) (by omega)]; exact a1, by rw [hf 1 (by omega) (by omega) (by omega)]; exact a2, by rw [hf 2 (by omega) (by omega) (by omega)]; exact a3, by rw [hf 3 (by omega) (by omega) (by omega)]; exact a4, by rw [hf 4 (by omega) (by omega) (by omega)]; exact a5, h3, by rw [hf 6 (by omega) (by omega) (by omega)]; exact a7, by rw [hf 7 (by omega) (by omega) (by omega)]; exact a8, by rw [hf 8 (by omega) (by omega) (by omega)]; exact a9⟩, fun b hb => ?_, fun w hw => ?_, fun k hk => ?_, fun i hi => ?_⟩
  · have hb' : b < D 5 0 := hb
    rw [hf _ (by omega) (by omega) (by omega), hf _ (by omega) (by omega) (by omega)]; exact hB b hb
  · have hw : w < D 6 0 + 1 := hw
    show s'.1 300 (19 + 4 * w) = nI (upN (D 11) (D 6 0) n1 w) ∧ s'.1 300 (19 + 4 * w + 1) = nI (upN (D 12) (D 6 0) n2 w) ∧ s'.1 300 (19 + 4 * w + 2) = nI (upN (D 13) (D 6 0) n3 w) ∧ s'.1 300 (19 + 4 * w + 3) = nI (upN (D 14) (D 6 0) n4 w)
    by_cases e : w = D 6 0
    · subst e; rw [upN_eq, upN_eq, upN_eq, upN_eq]; exact ⟨h1, h2, h4, h5⟩
    · rw [upN_ne e, upN_ne e, upN_ne e, upN_ne e, hf _ (by omega) (by omega) (by omega), hf _ (by omega) (by omega) (by omega), hf _ (by omega) (by omega) (by omega), hf _ (by omega) (by omega) (by omega)]; exact hW w (by omega)
  · have hk' : k < D 7 0 := hk
    rw [hf _ (by omega) (by omega) (by omega), hf _ (by omega) (by omega) (by omega)]; exact hS k hk
  · have hi : i < D 8 0 := hi
    omega
theorem MAsh (h : MA (s.1 300) D) (hV : VD D) (h7 : D 7 0 < 5) (h8 : D 8 0 = 0) (hf : ∀ k, k < 79 → k ≠ 39 + 2 * D 7 0 → k ≠ 39 + 2 * D 7 0 + 1 → k ≠ 6 → s'.1 300 k = s.1 300 k) (h1 : s'.1 300 (39 + 2 * D 7 0) = nI n1) (h2 : s'.1 300 (39 + 2 * D 7 0 + 1) = nI n2) (h3 : s'.1 300 6 = nI (D 7 0 + 1)) : MA (s'.1 300) (dL (dSh D n1 n2) (D 4 0)) := by
  obtain ⟨⟨a1, a2, a3, a4, a5, a6, a7, a8, a9⟩, hB, hW, hS, hA⟩ := h
  have hd := hV.1
  refine ⟨⟨by rw [hf 0 (by omega) (by omega) (by omega) (by omega)]; exact a1, by rw [hf 1 (by omega) (by omega) (by omega) (by omega)]; exact a2, by rw [hf 2 (by omega) (by omega) (by omega) (by omega)]; exact a3, by rw [hf 3 (by omega) (by omega) (by omega) (by omega)]; exact a4, by rw [hf 4 (by omega) (by omega) (by omega) (by omega)]; exact a5, by rw [hf 5 (by omega) (by omega) (by omega) (by omega)]; exact a6, h3, by rw [hf 7 (by omega) (by omega) (by omega) (by omega)]; exact a8, by rw [hf 8 (by omega) (by omega) (by omega) (by omega)]; exact a9⟩, fun b hb => ?_, fun w hw => ?_, fun k hk => ?_, fun i hi => ?_⟩
  · have hb' : b < D 5 0 := hb
    rw [hf _ (by omega) (by omega) (by omega) (by omega), hf _ (by omega) (by omega) (by omega) (by omega)]; exact hB b hb
  · have hw' : w < D 6 0 := hw
    rw [hf _ (by omega) (by omega) (by omega) (by omega), hf _ (by omega) (by omega) (by omega) (by omega), hf _ (by omega) (by omega) (by omega) (by omega), hf _ (by omega) (by omega) (by omega) (by omega)]; exact hW w hw
  · have hk : k < D 7 0 + 1 := hk
    show s'.1 300 (39 + 2 * k) = nI (upN (D 15) (D 7 0) n1 k) ∧ s'.1 300 (39 + 2 * k + 1) = nI (upN (D 16) (D 7 0) n2 k)
    by_cases e : k = D 7 0
    · subst e; rw [upN_eq, upN_eq]; exact ⟨h1, h2⟩
    · rw [upN_ne e, upN_ne e, hf _ (by omega) (by omega) (by omega) (by omega), hf _ (by omega) (by omega) (by omega) (by omega)]; exact hS k (by omega)
  · have hi : i < D 8 0 := hi
    omega
end LINES
