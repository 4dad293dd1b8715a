/-! THE LAW: every case of the script's keeps the invariant -/
def KOK (L : Nat) (f : Int32 × mT → Option ((Int32 × mT) ⊕ (Int32 × mT))) : Prop := ∀ xs D s i, IV xs D s → i + 6 ≤ L → ∃ s' D', f (nI i, s) = some (.inl (nI (i + 6), s')) ∧ IV xs D' s'
theorem rX {f : Nat → Int32} {L i : Nat} (k : Nat) (hL : L ≤ 3072) (hi : i + 6 ≤ L) (hk : k < 6) : rdI f L (nI i + nI k) = some (f (i + k)) := by
  rw [nI_add]
  exact rd_n (by omega) (by omega)
theorem n_6 (i : Nat) : nI i + (6 : Int32) = nI (i + 6) := nI_add i 6
def kst0 (A : Int32 → Int32 → Int32 → Int32 → Int32 → mT → Option (Int32 × mT)) (B : Int32 → Int32 → Int32 → Int32 → Int32 → mT → Option (Int32 × mT)) (L : Nat) (q : Int32 × mT) : Option ((Int32 × mT) ⊕ (Int32 × mT)) :=
  (rdI (q.2.1 XB) L (q.1 + (1 : Int32))).bind fun x1 =>
  (rdI (q.2.1 XB) L (q.1 + (2 : Int32))).bind fun x2 =>
  (rdI (q.2.1 XB) L (q.1 + (3 : Int32))).bind fun x3 =>
  (rdI (q.2.1 XB) L (q.1 + (4 : Int32))).bind fun x4 =>
  (rdI (q.2.1 XB) L (q.1 + (5 : Int32))).bind fun x5 =>
  (A x1 x2 x3 x4 x5 q.2).bind fun p6 =>
  (rdI (p6.2.1 XB) L (q.1 + (1 : Int32))).bind fun x7 =>
  (rdI (p6.2.1 XB) L (q.1 + (2 : Int32))).bind fun x8 =>
  (rdI (p6.2.1 XB) L (q.1 + (3 : Int32))).bind fun x9 =>
  (rdI (p6.2.1 XB) L (q.1 + (4 : Int32))).bind fun x10 =>
  (rdI (p6.2.1 XB) L (q.1 + (5 : Int32))).bind fun x11 =>
  (B x7 x8 x9 x10 x11 p6.2).bind fun p12 =>
  if p6.1 = p12.1 then
    some (.inl (q.1 + (6 : Int32), p12.2))
  else
    some (.inr (((0 : Int32), p12.2)))
theorem kst0_ok {A : Int32 → Int32 → Int32 → Int32 → Int32 → mT → Option (Int32 × mT)} {B : Int32 → Int32 → Int32 → Int32 → Int32 → mT → Option (Int32 × mT)} {L : Nat} (hL : L ≤ 3072) (h : ∀ v1 v2 v3 v4 v5, AS (A v1 v2 v3 v4 v5) (B v1 v2 v3 v4 v5)) : KOK L (kst0 A B L) := fun xs D s i hI hi => by
  have r1 : ∀ f : Nat → Int32, rdI f L (nI i + (1 : Int32)) = some (f (i + 1)) := fun f => rX 1 hL hi (by omega)
  have r2 : ∀ f : Nat → Int32, rdI f L (nI i + (2 : Int32)) = some (f (i + 2)) := fun f => rX 2 hL hi (by omega)
  have r3 : ∀ f : Nat → Int32, rdI f L (nI i + (3 : Int32)) = some (f (i + 3)) := fun f => rX 3 hL hi (by omega)
  have r4 : ∀ f : Nat → Int32, rdI f L (nI i + (4 : Int32)) = some (f (i + 4)) := fun f => rX 4 hL hi (by omega)
  have r5 : ∀ f : Nat → Int32, rdI f L (nI i + (5 : Int32)) = some (f (i + 5)) := fun f => rX 5 hL hi (by omega)
  obtain ⟨r, s1, s2, D', h1, h2, h3, h4⟩ := (h (s.1 XB (i + 1)) (s.1 XB (i + 2)) (s.1 XB (i + 3)) (s.1 XB (i + 4)) (s.1 XB (i + 5))) xs D s hI
  have e1 : s1.1 XB = s.1 XB := h2 XB (Nat.le_refl _)
  refine ⟨s2, D', ?_, h4⟩
  unfold kst0
  dsimp only
  simp only [r1, Option.bind_some, r2, Option.bind_some, r3, Option.bind_some, r4, Option.bind_some, r5, Option.bind_some, Option.bind_some, h1, e1, h3]
  rw [if_pos trivial, n_6]
def kst1 (A : Int32 → mT → Option (Int32 × mT)) (B : Int32 → mT → Option (Int32 × mT)) (L : Nat) (q : Int32 × mT) : Option ((Int32 × mT) ⊕ (Int32 × mT)) :=
  (rdI (q.2.1 XB) L (q.1 + (1 : Int32))).bind fun x1 =>
  (A x1 q.2).bind fun p2 =>
  (rdI (p2.2.1 XB) L (q.1 + (1 : Int32))).bind fun x3 =>
  (B x3 p2.2).bind fun p4 =>
  if p2.1 = p4.1 then
    some (.inl (q.1 + (6 : Int32), p4.2))
  else
    some (.inr (((0 : Int32), p4.2)))
theorem kst1_ok {A : Int32 → mT → Option (Int32 × mT)} {B : Int32 → mT → Option (Int32 × mT)} {L : Nat} (hL : L ≤ 3072) (h : ∀ v1, AS (A v1) (B v1)) : KOK L (kst1 A B L) := fun xs D s i hI hi => by
  have r1 : ∀ f : Nat → Int32, rdI f L (nI i + (1 : Int32)) = some (f (i + 1)) := fun f => rX 1 hL hi (by omega)
  obtain ⟨r, s1, s2, D', h1, h2, h3, h4⟩ := (h (s.1 XB (i + 1))) xs D s hI
  have e1 : s1.1 XB = s.1 XB := h2 XB (Nat.le_refl _)
  refine ⟨s2, D', ?_, h4⟩
  unfold kst1
  dsimp only
  simp only [r1, Option.bind_some, Option.bind_some, h1, e1, h3]
  rw [if_pos trivial, n_6]
def kst2 (A : mT → Option (Int32 × mT)) (B : mT → Option (Int32 × mT)) (L : Nat) (q : Int32 × mT) : Option ((Int32 × mT) ⊕ (Int32 × mT)) :=
  (A q.2).bind fun p1 =>
  (B p1.2).bind fun p2 =>
  if p1.1 = p2.1 then
    some (.inl (q.1 + (6 : Int32), p2.2))
  else
    some (.inr (((0 : Int32), p2.2)))
theorem kst2_ok {A : mT → Option (Int32 × mT)} {B : mT → Option (Int32 × mT)} {L : Nat} (hL : L ≤ 3072) (h : AS A B) : KOK L (kst2 A B L) := fun xs D s i hI hi => by
  obtain ⟨r, s1, s2, D', h1, h2, h3, h4⟩ := h xs D s hI
  have e1 : s1.1 XB = s.1 XB := h2 XB (Nat.le_refl _)
  refine ⟨s2, D', ?_, h4⟩
  unfold kst2
  dsimp only
  simp only [Option.bind_some, h1, e1, h3]
  rw [if_pos trivial, n_6]
def kst3 (A : Int32 → mT → Option Int32) (B : Int32 → mT → Option Int32) (L : Nat) (q : Int32 × mT) : Option ((Int32 × mT) ⊕ (Int32 × mT)) :=
  (rdI (q.2.1 XB) L (q.1 + (1 : Int32))).bind fun x1 =>
  (A x1 q.2).bind fun p2 =>
  (rdI (q.2.1 XB) L (q.1 + (1 : Int32))).bind fun x3 =>
  (B x3 q.2).bind fun p4 =>
  if p2 = p4 then
    some (.inl (q.1 + (6 : Int32), q.2))
  else
    some (.inr (((0 : Int32), q.2)))
theorem kst3_ok {A : Int32 → mT → Option Int32} {B : Int32 → mT → Option Int32} {L : Nat} (hL : L ≤ 3072) (h : ∀ v1, AP (A v1) (B v1)) : KOK L (kst3 A B L) := fun xs D s i hI hi => by
  have r1 : ∀ f : Nat → Int32, rdI f L (nI i + (1 : Int32)) = some (f (i + 1)) := fun f => rX 1 hL hi (by omega)
  obtain ⟨r, h1, h3⟩ := (h (s.1 XB (i + 1))) xs D s hI
  refine ⟨s, D, ?_, hI⟩
  unfold kst3
  dsimp only
  simp only [r1, Option.bind_some, Option.bind_some, h1, h3]
  rw [if_pos trivial, n_6]
def kst4 (A : Int32 → Int32 → mT → Option Int32) (B : Int32 → Int32 → mT → Option Int32) (L : Nat) (q : Int32 × mT) : Option ((Int32 × mT) ⊕ (Int32 × mT)) :=
  (rdI (q.2.1 XB) L (q.1 + (1 : Int32))).bind fun x1 =>
  (rdI (q.2.1 XB) L (q.1 + (2 : Int32))).bind fun x2 =>
  (A x1 x2 q.2).bind fun p3 =>
  (rdI (q.2.1 XB) L (q.1 + (1 : Int32))).bind fun x4 =>
  (rdI (q.2.1 XB) L (q.1 + (2 : Int32))).bind fun x5 =>
  (B x4 x5 q.2).bind fun p6 =>
  if p3 = p6 then
    some (.inl (q.1 + (6 : Int32), q.2))
  else
    some (.inr (((0 : Int32), q.2)))
theorem kst4_ok {A : Int32 → Int32 → mT → Option Int32} {B : Int32 → Int32 → mT → Option Int32} {L : Nat} (hL : L ≤ 3072) (h : ∀ v1 v2, AP (A v1 v2) (B v1 v2)) : KOK L (kst4 A B L) := fun xs D s i hI hi => by
  have r1 : ∀ f : Nat → Int32, rdI f L (nI i + (1 : Int32)) = some (f (i + 1)) := fun f => rX 1 hL hi (by omega)
  have r2 : ∀ f : Nat → Int32, rdI f L (nI i + (2 : Int32)) = some (f (i + 2)) := fun f => rX 2 hL hi (by omega)
  obtain ⟨r, h1, h3⟩ := (h (s.1 XB (i + 1)) (s.1 XB (i + 2))) xs D s hI
  refine ⟨s, D, ?_, hI⟩
  unfold kst4
  dsimp only
  simp only [r1, Option.bind_some, r2, Option.bind_some, Option.bind_some, h1, h3]
  rw [if_pos trivial, n_6]
def kst5 (A : Int32 → Int32 → mT → Option Int32) (B : Int32 → Int32 → mT → Option (Int32 × mT)) (L : Nat) (q : Int32 × mT) : Option ((Int32 × mT) ⊕ (Int32 × mT)) :=
  (rdI (q.2.1 XB) L (q.1 + (1 : Int32))).bind fun x1 =>
  (rdI (q.2.1 XB) L (q.1 + (2 : Int32))).bind fun x2 =>
  (A x1 x2 q.2).bind fun p3 =>
  (rdI (q.2.1 XB) L (q.1 + (1 : Int32))).bind fun x4 =>
  (rdI (q.2.1 XB) L (q.1 + (2 : Int32))).bind fun x5 =>
  (B x4 x5 q.2).bind fun p6 =>
  if p3 = p6.1 then
    some (.inl (q.1 + (6 : Int32), p6.2))
  else
    some (.inr (((0 : Int32), p6.2)))
theorem kst5_ok {A : Int32 → Int32 → mT → Option Int32} {B : Int32 → Int32 → mT → Option (Int32 × mT)} {L : Nat} (hL : L ≤ 3072) (h : ∀ v1 v2, AG (A v1 v2) (B v1 v2)) : KOK L (kst5 A B L) := fun xs D s i hI hi => by
  have r1 : ∀ f : Nat → Int32, rdI f L (nI i + (1 : Int32)) = some (f (i + 1)) := fun f => rX 1 hL hi (by omega)
  have r2 : ∀ f : Nat → Int32, rdI f L (nI i + (2 : Int32)) = some (f (i + 2)) := fun f => rX 2 hL hi (by omega)
  obtain ⟨r, s2, h1, h3, h4⟩ := (h (s.1 XB (i + 1)) (s.1 XB (i + 2))) xs D s hI
  refine ⟨s2, D, ?_, h4⟩
  unfold kst5
  dsimp only
  simp only [r1, Option.bind_some, r2, Option.bind_some, Option.bind_some, h1, h3]
  rw [if_pos trivial, n_6]
def kst6 (A : Int32 → mT → Option Int32) (B : Int32 → mT → Option (Int32 × mT)) (L : Nat) (q : Int32 × mT) : Option ((Int32 × mT) ⊕ (Int32 × mT)) :=
  (rdI (q.2.1 XB) L (q.1 + (1 : Int32))).bind fun x1 =>
  (A x1 q.2).bind fun p2 =>
  (rdI (q.2.1 XB) L (q.1 + (1 : Int32))).bind fun x3 =>
  (B x3 q.2).bind fun p4 =>
  if p2 = p4.1 then
    some (.inl (q.1 + (6 : Int32), p4.2))
  else
    some (.inr (((0 : Int32), p4.2)))
theorem kst6_ok {A : Int32 → mT → Option Int32} {B : Int32 → mT → Option (Int32 × mT)} {L : Nat} (hL : L ≤ 3072) (h : ∀ v1, AG (A v1) (B v1)) : KOK L (kst6 A B L) := fun xs D s i hI hi => by
  have r1 : ∀ f : Nat → Int32, rdI f L (nI i + (1 : Int32)) = some (f (i + 1)) := fun f => rX 1 hL hi (by omega)
  obtain ⟨r, s2, h1, h3, h4⟩ := (h (s.1 XB (i + 1))) xs D s hI
  refine ⟨s2, D, ?_, h4⟩
  unfold kst6
  dsimp only
  simp only [r1, Option.bind_some, Option.bind_some, h1, h3]
  rw [if_pos trivial, n_6]
def kst7 (A : mT → Option Int32) (B : mT → Option (Int32 × mT)) (L : Nat) (q : Int32 × mT) : Option ((Int32 × mT) ⊕ (Int32 × mT)) :=
  (A q.2).bind fun p1 =>
  (B q.2).bind fun p2 =>
  if p1 = p2.1 then
    some (.inl (q.1 + (6 : Int32), p2.2))
  else
    some (.inr (((0 : Int32), p2.2)))
theorem kst7_ok {A : mT → Option Int32} {B : mT → Option (Int32 × mT)} {L : Nat} (hL : L ≤ 3072) (h : AG A B) : KOK L (kst7 A B L) := fun xs D s i hI hi => by
  obtain ⟨r, s2, h1, h3, h4⟩ := h xs D s hI
  refine ⟨s2, D, ?_, h4⟩
  unfold kst7
  dsimp only
  simp only [Option.bind_some, h1, h3]
  rw [if_pos trivial, n_6]
def kst8 (A : Int32 → Int32 → Int32 → mT → Option Int32) (B : Int32 → Int32 → Int32 → mT → Option (Int32 × mT)) (L : Nat) (q : Int32 × mT) : Option ((Int32 × mT) ⊕ (Int32 × mT)) :=
  (rdI (q.2.1 XB) L (q.1 + (1 : Int32))).bind fun x1 =>
  (rdI (q.2.1 XB) L (q.1 + (2 : Int32))).bind fun x2 =>
  (rdI (q.2.1 XB) L (q.1 + (3 : Int32))).bind fun x3 =>
  (A x1 x2 x3 q.2).bind fun p4 =>
  (rdI (q.2.1 XB) L (q.1 + (1 : Int32))).bind fun x5 =>
  (rdI (q.2.1 XB) L (q.1 + (2 : Int32))).bind fun x6 =>
  (rdI (q.2.1 XB) L (q.1 + (3 : Int32))).bind fun x7 =>
  (B x5 x6 x7 q.2).bind fun p8 =>
  if p4 = p8.1 then
    some (.inl (q.1 + (6 : Int32), p8.2))
  else
    some (.inr (((0 : Int32), p8.2)))
theorem kst8_ok {A : Int32 → Int32 → Int32 → mT → Option Int32} {B : Int32 → Int32 → Int32 → mT → Option (Int32 × mT)} {L : Nat} (hL : L ≤ 3072) (h : ∀ v1 v2 v3, AG (A v1 v2 v3) (B v1 v2 v3)) : KOK L (kst8 A B L) := fun xs D s i hI hi => by
  have r1 : ∀ f : Nat → Int32, rdI f L (nI i + (1 : Int32)) = some (f (i + 1)) := fun f => rX 1 hL hi (by omega)
  have r2 : ∀ f : Nat → Int32, rdI f L (nI i + (2 : Int32)) = some (f (i + 2)) := fun f => rX 2 hL hi (by omega)
  have r3 : ∀ f : Nat → Int32, rdI f L (nI i + (3 : Int32)) = some (f (i + 3)) := fun f => rX 3 hL hi (by omega)
  obtain ⟨r, s2, h1, h3, h4⟩ := (h (s.1 XB (i + 1)) (s.1 XB (i + 2)) (s.1 XB (i + 3))) xs D s hI
  refine ⟨s2, D, ?_, h4⟩
  unfold kst8
  dsimp only
  simp only [r1, Option.bind_some, r2, Option.bind_some, r3, Option.bind_some, Option.bind_some, h1, h3]
  rw [if_pos trivial, n_6]
def kst9 (A : Int32 → Int32 → mT → Option (Int32 × mT)) (B : Int32 → Int32 → mT → Option (Int32 × mT)) (L : Nat) (q : Int32 × mT) : Option ((Int32 × mT) ⊕ (Int32 × mT)) :=
  (rdI (q.2.1 XB) L (q.1 + (1 : Int32))).bind fun x1 =>
  (rdI (q.2.1 XB) L (q.1 + (2 : Int32))).bind fun x2 =>
  (A x1 x2 q.2).bind fun p3 =>
  (rdI (p3.2.1 XB) L (q.1 + (1 : Int32))).bind fun x4 =>
  (rdI (p3.2.1 XB) L (q.1 + (2 : Int32))).bind fun x5 =>
  (B x4 x5 p3.2).bind fun p6 =>
  if p3.1 = p6.1 then
    some (.inl (q.1 + (6 : Int32), p6.2))
  else
    some (.inr (((0 : Int32), p6.2)))
theorem kst9_ok {A : Int32 → Int32 → mT → Option (Int32 × mT)} {B : Int32 → Int32 → mT → Option (Int32 × mT)} {L : Nat} (hL : L ≤ 3072) (h : ∀ v1 v2, AS (A v1 v2) (B v1 v2)) : KOK L (kst9 A B L) := fun xs D s i hI hi => by
  have r1 : ∀ f : Nat → Int32, rdI f L (nI i + (1 : Int32)) = some (f (i + 1)) := fun f => rX 1 hL hi (by omega)
  have r2 : ∀ f : Nat → Int32, rdI f L (nI i + (2 : Int32)) = some (f (i + 2)) := fun f => rX 2 hL hi (by omega)
  obtain ⟨r, s1, s2, D', h1, h2, h3, h4⟩ := (h (s.1 XB (i + 1)) (s.1 XB (i + 2))) xs D s hI
  have e1 : s1.1 XB = s.1 XB := h2 XB (Nat.le_refl _)
  refine ⟨s2, D', ?_, h4⟩
  unfold kst9
  dsimp only
  simp only [r1, Option.bind_some, r2, Option.bind_some, Option.bind_some, h1, e1, h3]
  rw [if_pos trivial, n_6]
def kst10 (A : mT → Option Int32) (B : mT → Option Int32) (L : Nat) (q : Int32 × mT) : Option ((Int32 × mT) ⊕ (Int32 × mT)) :=
  (A q.2).bind fun p1 =>
  (B q.2).bind fun p2 =>
  if p1 = p2 then
    some (.inl (q.1 + (6 : Int32), q.2))
  else
    some (.inr (((0 : Int32), q.2)))
theorem kst10_ok {A : mT → Option Int32} {B : mT → Option Int32} {L : Nat} (hL : L ≤ 3072) (h : AP A B) : KOK L (kst10 A B L) := fun xs D s i hI hi => by
  obtain ⟨r, h1, h3⟩ := h xs D s hI
  refine ⟨s, D, ?_, hI⟩
  unfold kst10
  dsimp only
  simp only [Option.bind_some, h1, h3]
  rw [if_pos trivial, n_6]
def kst11 (A : Int32 → Int32 → Int32 → mT → Option (Int32 × mT)) (B : Int32 → Int32 → Int32 → mT → Option (Int32 × mT)) (L : Nat) (q : Int32 × mT) : Option ((Int32 × mT) ⊕ (Int32 × mT)) :=
  (rdI (q.2.1 XB) L (q.1 + (1 : Int32))).bind fun x1 =>
  (rdI (q.2.1 XB) L (q.1 + (2 : Int32))).bind fun x2 =>
  (rdI (q.2.1 XB) L (q.1 + (3 : Int32))).bind fun x3 =>
  (A x1 x2 x3 q.2).bind fun p4 =>
  (rdI (p4.2.1 XB) L (q.1 + (1 : Int32))).bind fun x5 =>
  (rdI (p4.2.1 XB) L (q.1 + (2 : Int32))).bind fun x6 =>
  (rdI (p4.2.1 XB) L (q.1 + (3 : Int32))).bind fun x7 =>
  (B x5 x6 x7 p4.2).bind fun p8 =>
  if p4.1 = p8.1 then
    some (.inl (q.1 + (6 : Int32), p8.2))
  else
    some (.inr (((0 : Int32), p8.2)))
theorem kst11_ok {A : Int32 → Int32 → Int32 → mT → Option (Int32 × mT)} {B : Int32 → Int32 → Int32 → mT → Option (Int32 × mT)} {L : Nat} (hL : L ≤ 3072) (h : ∀ v1 v2 v3, AS (A v1 v2 v3) (B v1 v2 v3)) : KOK L (kst11 A B L) := fun xs D s i hI hi => by
  have r1 : ∀ f : Nat → Int32, rdI f L (nI i + (1 : Int32)) = some (f (i + 1)) := fun f => rX 1 hL hi (by omega)
  have r2 : ∀ f : Nat → Int32, rdI f L (nI i + (2 : Int32)) = some (f (i + 2)) := fun f => rX 2 hL hi (by omega)
  have r3 : ∀ f : Nat → Int32, rdI f L (nI i + (3 : Int32)) = some (f (i + 3)) := fun f => rX 3 hL hi (by omega)
  obtain ⟨r, s1, s2, D', h1, h2, h3, h4⟩ := (h (s.1 XB (i + 1)) (s.1 XB (i + 2)) (s.1 XB (i + 3))) xs D s hI
  have e1 : s1.1 XB = s.1 XB := h2 XB (Nat.le_refl _)
  refine ⟨s2, D', ?_, h4⟩
  unfold kst11
  dsimp only
  simp only [r1, Option.bind_some, r2, Option.bind_some, r3, Option.bind_some, Option.bind_some, h1, e1, h3]
  rw [if_pos trivial, n_6]
def kst12 (A : Int32 → Int32 → Int32 → mT → Option (Int64 × mT)) (B : Int32 → Int32 → Int32 → mT → Option (Int64 × mT)) (L : Nat) (q : Int32 × mT) : Option ((Int32 × mT) ⊕ (Int32 × mT)) :=
  (rdI (q.2.1 XB) L (q.1 + (1 : Int32))).bind fun x1 =>
  (rdI (q.2.1 XB) L (q.1 + (2 : Int32))).bind fun x2 =>
  (rdI (q.2.1 XB) L (q.1 + (3 : Int32))).bind fun x3 =>
  (A x1 x2 x3 q.2).bind fun p4 =>
  (rdI (p4.2.1 XB) L (q.1 + (1 : Int32))).bind fun x5 =>
  (rdI (p4.2.1 XB) L (q.1 + (2 : Int32))).bind fun x6 =>
  (rdI (p4.2.1 XB) L (q.1 + (3 : Int32))).bind fun x7 =>
  (B x5 x6 x7 p4.2).bind fun p8 =>
  if (lg_cmp p4.1 p8.1) = 0 then
    some (.inl (q.1 + (6 : Int32), p8.2))
  else
    some (.inr (((0 : Int32), p8.2)))
theorem kst12_ok {A : Int32 → Int32 → Int32 → mT → Option (Int64 × mT)} {B : Int32 → Int32 → Int32 → mT → Option (Int64 × mT)} {L : Nat} (hL : L ≤ 3072) (h : ∀ v1 v2 v3, AS (A v1 v2 v3) (B v1 v2 v3)) : KOK L (kst12 A B L) := fun xs D s i hI hi => by
  have r1 : ∀ f : Nat → Int32, rdI f L (nI i + (1 : Int32)) = some (f (i + 1)) := fun f => rX 1 hL hi (by omega)
  have r2 : ∀ f : Nat → Int32, rdI f L (nI i + (2 : Int32)) = some (f (i + 2)) := fun f => rX 2 hL hi (by omega)
  have r3 : ∀ f : Nat → Int32, rdI f L (nI i + (3 : Int32)) = some (f (i + 3)) := fun f => rX 3 hL hi (by omega)
  obtain ⟨r, s1, s2, D', h1, h2, h3, h4⟩ := (h (s.1 XB (i + 1)) (s.1 XB (i + 2)) (s.1 XB (i + 3))) xs D s hI
  have e1 : s1.1 XB = s.1 XB := h2 XB (Nat.le_refl _)
  refine ⟨s2, D', ?_, h4⟩
  unfold kst12
  dsimp only
  simp only [r1, Option.bind_some, r2, Option.bind_some, r3, Option.bind_some, Option.bind_some, h1, e1, h3]
  rw [if_pos (by rw [lg_cmp_eq]), n_6]
def kst13 (A : Int32 → Int32 → Int64 → mT → Option (Int32 × mT)) (B : Int32 → Int32 → Int64 → mT → Option (Int32 × mT)) (L : Nat) (q : Int32 × mT) : Option ((Int32 × mT) ⊕ (Int32 × mT)) :=
  (rdI (q.2.1 XB) L (q.1 + (1 : Int32))).bind fun x1 =>
  (rdI (q.2.1 XB) L (q.1 + (2 : Int32))).bind fun x2 =>
  (rdI (q.2.1 XB) L (q.1 + (3 : Int32))).bind fun x3 =>
  (rdI (q.2.1 XB) L (q.1 + (4 : Int32))).bind fun x4 =>
  (A x1 x2 ((x3.toInt64 <<< ((32 : Int32).toInt64 &&& 63)) ||| (x4.toInt64 &&& (4294967295 : Int64))) q.2).bind fun p6 =>
  (rdI (p6.2.1 XB) L (q.1 + (1 : Int32))).bind fun x7 =>
  (rdI (p6.2.1 XB) L (q.1 + (2 : Int32))).bind fun x8 =>
  (rdI (p6.2.1 XB) L (q.1 + (3 : Int32))).bind fun x9 =>
  (rdI (p6.2.1 XB) L (q.1 + (4 : Int32))).bind fun x10 =>
  (B x7 x8 ((x9.toInt64 <<< ((32 : Int32).toInt64 &&& 63)) ||| (x10.toInt64 &&& (4294967295 : Int64))) p6.2).bind fun p12 =>
  if p6.1 = p12.1 then
    some (.inl (q.1 + (6 : Int32), p12.2))
  else
    some (.inr (((0 : Int32), p12.2)))
theorem kst13_ok {A : Int32 → Int32 → Int64 → mT → Option (Int32 × mT)} {B : Int32 → Int32 → Int64 → mT → Option (Int32 × mT)} {L : Nat} (hL : L ≤ 3072) (h : ∀ v1 v2 v3, AS (A v1 v2 v3) (B v1 v2 v3)) : KOK L (kst13 A B L) := fun xs D s i hI hi => by
  have r1 : ∀ f : Nat → Int32, rdI f L (nI i + (1 : Int32)) = some (f (i + 1)) := fun f => rX 1 hL hi (by omega)
  have r2 : ∀ f : Nat → Int32, rdI f L (nI i + (2 : Int32)) = some (f (i + 2)) := fun f => rX 2 hL hi (by omega)
  have r3 : ∀ f : Nat → Int32, rdI f L (nI i + (3 : Int32)) = some (f (i + 3)) := fun f => rX 3 hL hi (by omega)
  have r4 : ∀ f : Nat → Int32, rdI f L (nI i + (4 : Int32)) = some (f (i + 4)) := fun f => rX 4 hL hi (by omega)
  obtain ⟨r, s1, s2, D', h1, h2, h3, h4⟩ := (h (s.1 XB (i + 1)) (s.1 XB (i + 2)) (((s.1 XB (i + 3)).toInt64 <<< ((32 : Int32).toInt64 &&& 63)) ||| ((s.1 XB (i + 4)).toInt64 &&& (4294967295 : Int64)))) xs D s hI
  have e1 : s1.1 XB = s.1 XB := h2 XB (Nat.le_refl _)
  refine ⟨s2, D', ?_, h4⟩
  unfold kst13
  dsimp only
  simp only [r1, Option.bind_some, r2, Option.bind_some, r3, Option.bind_some, r4, Option.bind_some, Option.bind_some, h1, e1, h3]
  rw [if_pos trivial, n_6]
theorem kk0 {L : Nat} (hL : L ≤ 3072) : KOK L (gLaw_k0 L)   := kst0_ok hL a_feed
theorem kk1 {L : Nat} (hL : L ≤ 3072) : KOK L (gLaw_k1 L)   := kst1_ok hL a_end
theorem kk2 {L : Nat} (hL : L ≤ 3072) : KOK L (gLaw_k2 L)   := kst2_ok hL a_race
theorem kk3 {L : Nat} (hL : L ≤ 3072) : KOK L (gLaw_k3 L)   := kst3_ok hL a_fault
theorem kk4 {L : Nat} (hL : L ≤ 3072) : KOK L (gLaw_k4 L)   := kst4_ok hL a_boat
theorem kk5 {L : Nat} (hL : L ≤ 3072) : KOK L (gLaw_k5 L)   := kst4_ok hL a_watcher
theorem kk6 {L : Nat} (hL : L ≤ 3072) : KOK L (gLaw_k6 L)   := kst4_ok hL a_show
theorem kk7 {L : Nat} (hL : L ≤ 3072) : KOK L (gLaw_k7 L)   := kst5_ok hL a_place
theorem kk8 {L : Nat} (hL : L ≤ 3072) : KOK L (gLaw_k8 L)   := kst5_ok hL a_on
theorem kk9 {L : Nat} (hL : L ≤ 3072) : KOK L (gLaw_k9 L)   := kst5_ok hL a_eyes
theorem kk10 {L : Nat} (hL : L ≤ 3072) : KOK L (gLaw_k10 L)   := kst6_ok hL a_awake
theorem kk11 {L : Nat} (hL : L ≤ 3072) : KOK L (gLaw_k11 L)   := kst5_ok hL a_lookers
theorem kk12 {L : Nat} (hL : L ≤ 3072) : KOK L (gLaw_k12 L)   := kst6_ok hL a_leads
theorem kk13 {L : Nat} (hL : L ≤ 3072) : KOK L (gLaw_k13 L)   := kst6_ok hL a_lags
theorem kk14 {L : Nat} (hL : L ≤ 3072) : KOK L (gLaw_k14 L)   := kst6_ok hL a_front
theorem kk15 {L : Nat} (hL : L ≤ 3072) : KOK L (gLaw_k15 L)   := kst5_ok hL a_behind
theorem kk16 {L : Nat} (hL : L ≤ 3072) : KOK L (gLaw_k16 L)   := kst6_ok hL a_calm
theorem kk17 {L : Nat} (hL : L ≤ 3072) : KOK L (gLaw_k17 L)   := kst7_ok hL a_drops
theorem kk18 {L : Nat} (hL : L ≤ 3072) : KOK L (gLaw_k18 L)   := kst6_ok hL a_home
theorem kk19 {L : Nat} (hL : L ≤ 3072) : KOK L (gLaw_k19 L)   := kst7_ok hL a_wins
theorem kk20 {L : Nat} (hL : L ≤ 3072) : KOK L (gLaw_k20 L)   := kst8_ok hL a_gap
theorem kk21 {L : Nat} (hL : L ≤ 3072) : KOK L (gLaw_k21 L)   := kst7_ok hL a_changes
theorem kk22 {L : Nat} (hL : L ≤ 3072) : KOK L (gLaw_k22 L)   := kst6_ok hL a_wavers
theorem kk23 {L : Nat} (hL : L ≤ 3072) : KOK L (gLaw_k23 L)   := kst5_ok hL a_speed
theorem kk24 {L : Nat} (hL : L ≤ 3072) : KOK L (gLaw_k24 L)   := kst5_ok hL a_lacks
theorem kk25 {L : Nat} (hL : L ≤ 3072) : KOK L (gLaw_k25 L)   := kst6_ok hL a_total
theorem kk26 {L : Nat} (hL : L ≤ 3072) : KOK L (gLaw_k26 L)   := kst6_ok hL a_fleet
theorem kk27 {L : Nat} (hL : L ≤ 3072) : KOK L (gLaw_k27 L)   := kst6_ok hL a_gaze
theorem kk28 {L : Nat} (hL : L ≤ 3072) : KOK L (gLaw_k28 L)   := kst7_ok hL a_faithful
theorem kk29 {L : Nat} (hL : L ≤ 3072) : KOK L (gLaw_k29 L)   := kst6_ok hL a_unseen
theorem kk30 {L : Nat} (hL : L ≤ 3072) : KOK L (gLaw_k30 L)   := kst3_ok hL a_seers
theorem kk31 {L : Nat} (hL : L ≤ 3072) : KOK L (gLaw_k31 L)   := kst5_ok hL a_order
theorem kk32 {L : Nat} (hL : L ≤ 3072) : KOK L (gLaw_k32 L)   := kst5_ok hL a_even
theorem kk33 {L : Nat} (hL : L ≤ 3072) : KOK L (gLaw_k33 L)   := kst5_ok hL a_passes
theorem kk34 {L : Nat} (hL : L ≤ 3072) : KOK L (gLaw_k34 L)   := kst6_ok hL a_arrived
theorem kk35 {L : Nat} (hL : L ≤ 3072) : KOK L (gLaw_k35 L)   := kst7_ok hL a_calmest
theorem kk36 {L : Nat} (hL : L ≤ 3072) : KOK L (gLaw_k36 L)   := kst1_ok hL a_clear
theorem kk37 {L : Nat} (hL : L ≤ 3072) : KOK L (gLaw_k37 L)   := kst2_ok hL a_key
theorem kk38 {L : Nat} (hL : L ≤ 3072) : KOK L (gLaw_k38 L)   := kst1_ok hL a_handicap
theorem kk39 {L : Nat} (hL : L ≤ 3072) : KOK L (gLaw_k39 L)   := kst1_ok hL a_start
theorem kk40 {L : Nat} (hL : L ≤ 3072) : KOK L (gLaw_k40 L)   := kst1_ok hL a_by
theorem kk41 {L : Nat} (hL : L ≤ 3072) : KOK L (gLaw_k41 L)   := kst1_ok hL a_ways
theorem kk42 {L : Nat} (hL : L ≤ 3072) : KOK L (gLaw_k42 L)   := kst9_ok hL a_plan
theorem kk43 {L : Nat} (hL : L ≤ 3072) : KOK L (gLaw_k43 L)   := kst1_ok hL a_fewest
theorem kk44 {L : Nat} (hL : L ≤ 3072) : KOK L (gLaw_k44 L)   := kst1_ok hL a_soonest
theorem kk45 {L : Nat} (hL : L ≤ 3072) : KOK L (gLaw_k45 L)   := kst1_ok hL a_far
theorem kk46 {L : Nat} (hL : L ≤ 3072) : KOK L (gLaw_k46 L)   := kst2_ok hL a_can
theorem kk47 {L : Nat} (hL : L ≤ 3072) : KOK L (gLaw_k47 L)   := kst2_ok hL a_spoils
theorem kk48 {L : Nat} (hL : L ≤ 3072) : KOK L (gLaw_k48 L)   := kst1_ok hL a_lure
theorem kk49 {L : Nat} (hL : L ≤ 3072) : KOK L (gLaw_k49 L)   := kst10_ok hL a_cover
theorem kk50 {L : Nat} (hL : L ≤ 3072) : KOK L (gLaw_k50 L)   := kst10_ok hL a_covers
theorem kk51 {L : Nat} (hL : L ≤ 3072) : KOK L (gLaw_k51 L)   := kst1_ok hL a_fits
theorem kk52 {L : Nat} (hL : L ≤ 3072) : KOK L (gLaw_k52 L)   := kst9_ok hL a_may
theorem kk53 {L : Nat} (hL : L ≤ 3072) : KOK L (gLaw_k53 L)   := kst1_ok hL a_ask
theorem kk54 {L : Nat} (hL : L ≤ 3072) : KOK L (gLaw_k54 L)   := kst1_ok hL a_leaves
theorem kk55 {L : Nat} (hL : L ≤ 3072) : KOK L (gLaw_k55 L)   := kst1_ok hL a_laws
theorem kk56 {L : Nat} (hL : L ≤ 3072) : KOK L (gLaw_k56 L)   := kst11_ok hL a_share
theorem kk57 {L : Nat} (hL : L ≤ 3072) : KOK L (gLaw_k57 L)   := kst9_ok hL a_rests
theorem kk58 {L : Nat} (hL : L ≤ 3072) : KOK L (gLaw_k58 L)   := kst9_ok hL a_rest
theorem kk59 {L : Nat} (hL : L ≤ 3072) : KOK L (gLaw_k59 L)   := kst12_ok hL a_chance
theorem kk60 {L : Nat} (hL : L ≤ 3072) : KOK L (gLaw_k60 L)   := kst12_ok hL a_mean
theorem kk61 {L : Nat} (hL : L ≤ 3072) : KOK L (gLaw_k61 L)   := kst11_ok hL a_look
theorem kk62 {L : Nat} (hL : L ≤ 3072) : KOK L (gLaw_k62 L)   := kst9_ok hL a_sneeze
theorem kk63 {L : Nat} (hL : L ≤ 3072) : KOK L (gLaw_k63 L)   := kst2_ok hL a_undo
theorem kk64 {L : Nat} (hL : L ≤ 3072) : KOK L (gLaw_k64 L)   := kst2_ok hL a_anew
theorem kk65 {L : Nat} (hL : L ≤ 3072) : KOK L (gLaw_k65 L)   := kst9_ok hL a_drawn
theorem kk66 {L : Nat} (hL : L ≤ 3072) : KOK L (gLaw_k66 L)   := kst11_ok hL a_luck
theorem kk67 {L : Nat} (hL : L ≤ 3072) : KOK L (gLaw_k67 L)   := kst9_ok hL a_rate
theorem kk68 {L : Nat} (hL : L ≤ 3072) : KOK L (gLaw_k68 L)   := kst3_ok hL a_count
theorem kk69 {L : Nat} (hL : L ≤ 3072) : KOK L (gLaw_k69 L)   := kst1_ok hL a_image
theorem kk70 {L : Nat} (hL : L ≤ 3072) : KOK L (gLaw_k70 L)   := kst1_ok hL a_back
theorem kk71 {L : Nat} (hL : L ≤ 3072) : KOK L (gLaw_k71 L)   := kst11_ok hL a_row
theorem kk72 {L : Nat} (hL : L ≤ 3072) : KOK L (gLaw_k72 L)   := kst13_ok hL a_write
theorem kk73 {L : Nat} (hL : L ≤ 3072) : KOK L (gLaw_k73 L)   := kst0_ok hL a_paste
theorem ite_ok {α : Type} {c : Prop} [Decidable c] {x y : α} {P : α → Prop} (hx : P x) (hy : P y) : P (if c then x else y) := by
  by_cases h : c
  · rw [if_pos h]; exact hx
  · rw [if_neg h]; exact hy
def PKq (xs : Nat → Int32) (i : Nat) (o : Option ((Int32 × mT) ⊕ (Int32 × mT))) : Prop := ∃ s' D', o = some (.inl (nI (i + 6), s')) ∧ IV xs D' s'
theorem law_1 {L : Nat} (hL : L ≤ 3072) {xs : Nat → Int32} {D : RD} {s : mT} {i : Nat} (hI : IV xs D s) (hi : i + 6 ≤ L) : ∃ s' D', gLaw_law_h18 L (nI i, s) = some (.inl (nI (i + 6), s')) ∧ IV xs D' s' := by
  have e0 : nI L - (6 : Int32) = nI (L - 6) := pk_sub (b := 6) (by omega)
  have r0 : rdI (s.1 XB) L (nI i) = some (s.1 XB i) := rd_n (by omega) (by omega)
  unfold gLaw_law_h18
  dsimp only
  rw [show Int32.ofNat L = nI L from rfl, e0, if_neg (nlt (by omega) (by omega) (by omega)), r0, Option.bind_some]
  have hl : PKq xs i (some (.inl (nI i + (6 : Int32), s))) := ⟨s, D, by rw [n_6], hI⟩
  show PKq xs i _
  exact (ite_ok (kk0 hL xs D s i hI hi) (ite_ok (kk1 hL xs D s i hI hi) (ite_ok (kk2 hL xs D s i hI hi) (ite_ok (kk3 hL xs D s i hI hi) (ite_ok (kk4 hL xs D s i hI hi) (ite_ok (kk5 hL xs D s i hI hi) (ite_ok (kk6 hL xs D s i hI hi) (ite_ok (kk7 hL xs D s i hI hi) (ite_ok (kk8 hL xs D s i hI hi) (ite_ok (kk9 hL xs D s i hI hi) (ite_ok (kk10 hL xs D s i hI hi) (ite_ok (kk11 hL xs D s i hI hi) (ite_ok (kk12 hL xs D s i hI hi) (ite_ok (kk13 hL xs D s i hI hi) (ite_ok (kk14 hL xs D s i hI hi) (ite_ok (kk15 hL xs D s i hI hi) (ite_ok (kk16 hL xs D s i hI hi) (ite_ok (kk17 hL xs D s i hI hi) (ite_ok (kk18 hL xs D s i hI hi) (ite_ok (kk19 hL xs D s i hI hi) (ite_ok (kk20 hL xs D s i hI hi) (ite_ok (kk21 hL xs D s i hI hi) (ite_ok (kk22 hL xs D s i hI hi) (ite_ok (kk23 hL xs D s i hI hi) (ite_ok (kk24 hL xs D s i hI hi) (ite_ok (kk25 hL xs D s i hI hi) (ite_ok (kk26 hL xs D s i hI hi) (ite_ok (kk27 hL xs D s i hI hi) (ite_ok (kk28 hL xs D s i hI hi) (ite_ok (kk29 hL xs D s i hI hi) (ite_ok (kk30 hL xs D s i hI hi) (ite_ok (kk31 hL xs D s i hI hi) (ite_ok (kk32 hL xs D s i hI hi) (ite_ok (kk33 hL xs D s i hI hi) (ite_ok (kk34 hL xs D s i hI hi) (ite_ok (kk35 hL xs D s i hI hi) (ite_ok (kk36 hL xs D s i hI hi) (ite_ok (kk37 hL xs D s i hI hi) (ite_ok (kk38 hL xs D s i hI hi) (ite_ok (kk39 hL xs D s i hI hi) (ite_ok (kk40 hL xs D s i hI hi) (ite_ok (kk41 hL xs D s i hI hi) (ite_ok (kk42 hL xs D s i hI hi) (ite_ok (kk43 hL xs D s i hI hi) (ite_ok (kk44 hL xs D s i hI hi) (ite_ok (kk45 hL xs D s i hI hi) (ite_ok (kk46 hL xs D s i hI hi) (ite_ok (kk47 hL xs D s i hI hi) (ite_ok (kk48 hL xs D s i hI hi) (ite_ok (kk49 hL xs D s i hI hi) (ite_ok (kk50 hL xs D s i hI hi) (ite_ok (kk51 hL xs D s i hI hi) (ite_ok (kk52 hL xs D s i hI hi) (ite_ok (kk53 hL xs D s i hI hi) (ite_ok (kk54 hL xs D s i hI hi) (ite_ok (kk55 hL xs D s i hI hi) (ite_ok (kk56 hL xs D s i hI hi) (ite_ok (kk57 hL xs D s i hI hi) (ite_ok (kk58 hL xs D s i hI hi) (ite_ok (kk59 hL xs D s i hI hi) (ite_ok (kk60 hL xs D s i hI hi) (ite_ok (kk61 hL xs D s i hI hi) (ite_ok (kk62 hL xs D s i hI hi) (ite_ok (kk63 hL xs D s i hI hi) (ite_ok (kk64 hL xs D s i hI hi) (ite_ok (kk65 hL xs D s i hI hi) (ite_ok (kk66 hL xs D s i hI hi) (ite_ok (kk67 hL xs D s i hI hi) (ite_ok (kk68 hL xs D s i hI hi) (ite_ok (kk69 hL xs D s i hI hi) (ite_ok (kk70 hL xs D s i hI hi) (ite_ok (kk71 hL xs D s i hI hi) (ite_ok (kk72 hL xs D s i hI hi) (ite_ok (kk73 hL xs D s i hI hi) hl))))))))))))))))))))))))))))))))))))))))))))))))))))))))))))))))))))))))))
theorem s0_lt {xs : Nat → Int32} {a k : Nat} (h : a < XB) : (s0 xs).1 a k = iL 9 a k := if_pos h
theorem iv_0 (xs : Nat → Int32) : IV xs (fun _ _ => 0) (s0 xs) := by
  have eXB : XB = 1000000 := rfl
  have z : ∀ a k, a < 400 → iL 9 a k = 0 → (s0 xs).1 a k = 0 := fun a k ha h => (s0_lt (by omega)).trans h
  refine ⟨⟨⟨⟨by decide, by decide, by decide, by decide, by decide, by decide, by decide, by decide, by decide⟩, fun b hb => absurd hb (Nat.not_lt_zero _), fun b hb => absurd hb (Nat.not_lt_zero _), fun b hb => absurd hb (Nat.not_lt_zero _), fun b hb => absurd hb (Nat.not_lt_zero _), fun _ => ⟨rfl, rfl, rfl, rfl, rfl, rfl, rfl, rfl⟩⟩, ⟨⟨?_, ?_, ?_, ?_, ?_, ?_, ?_, ?_, ?_⟩, fun b hb => absurd hb (Nat.not_lt_zero _), fun b hb => absurd hb (Nat.not_lt_zero _), fun b hb => absurd hb (Nat.not_lt_zero _), fun b hb => absurd hb (Nat.not_lt_zero _)⟩, ⟨⟨?_, ?_, ?_, ?_, ?_, ?_, ?_, ?_, ?_⟩, fun b hb => absurd hb (Nat.not_lt_zero _), fun b hb => absurd hb (Nat.not_lt_zero _), fun b hb => absurd hb (Nat.not_lt_zero _), fun b hb => absurd hb (Nat.not_lt_zero _)⟩⟩, ⟨⟨?_, fun b hb => absurd hb (Nat.not_lt_zero _), fun b hb => absurd hb (Nat.not_lt_zero _), fun n w _ hw => absurd hw (Nat.not_lt_zero _), fun n hn => ?_⟩, ⟨fun n b _ hb => absurd hb (Nat.not_lt_zero _), fun n b _ hb => absurd hb (Nat.not_lt_zero _), fun n b _ hb => absurd hb (Nat.not_lt_zero _)⟩⟩, ⟨0, fun _ => 0, by decide, ?_, ?_, fun i hi => absurd hi (Nat.not_lt_zero _)⟩, ⟨?_, ?_⟩, fun k hk => Or.inl ⟨?_, ?_⟩, fun l hl => Or.inl ⟨?_, ?_⟩, Or.inl ?_, Or.inl ?_, fun a ha => ?_⟩
  · exact z 16 0 (by omega) (by decide +kernel)
  · exact z 16 1 (by omega) (by decide +kernel)
  · exact z 16 2 (by omega) (by decide +kernel)
  · exact z 16 3 (by omega) (by decide +kernel)
  · exact z 16 4 (by omega) (by decide +kernel)
  · exact z 16 5 (by omega) (by decide +kernel)
  · exact z 16 6 (by omega) (by decide +kernel)
  · exact z 16 7 (by omega) (by decide +kernel)
  · exact z 16 8 (by omega) (by decide +kernel)
  · exact z 295 0 (by omega) (by decide +kernel)
  · exact z 295 1 (by omega) (by decide +kernel)
  · exact z 295 2 (by omega) (by decide +kernel)
  · exact z 295 3 (by omega) (by decide +kernel)
  · exact z 295 4 (by omega) (by decide +kernel)
  · exact z 295 5 (by omega) (by decide +kernel)
  · exact z 295 6 (by omega) (by decide +kernel)
  · exact z 295 7 (by omega) (by decide +kernel)
  · exact z 295 8 (by omega) (by decide +kernel)
  · exact z 28 1 (by omega) (by decide +kernel)
  · exact z 54 n (by omega) ((by decide +kernel : ∀ n, n < 21 → iL 9 54 n = 0) n (by omega))
  · exact z 1 1 (by omega) (by decide +kernel)
  · exact z 294 5 (by omega) (by decide +kernel)
  · rw [z 3 2 (by omega) (by decide +kernel), z 294 12 (by omega) (by decide +kernel)]
  · rw [s0_lt (by omega), s0_lt (by omega)]
    decide +kernel
  · exact z 248 k (by omega) ((by decide +kernel : ∀ n, n < 3 → iL 9 248 n = 0) k hk)
  · exact z 297 k (by omega) ((by decide +kernel : ∀ n, n < 3 → iL 9 297 n = 0) k hk)
  · exact z (286 + 2 * l) 1 (by omega) ((by decide +kernel : ∀ n, n < 4 → iL 9 (286 + 2 * n) 1 = 0) l hl)
  · exact (s0_lt (by omega)).trans ((by decide +kernel : ∀ n, n < 4 → iL 9 313 n = -1) l hl)
  · exact (s0_lt (by omega)).trans (by decide +kernel)
  · exact (s0_lt (by omega)).trans (by decide +kernel)
  · funext k
    exact if_neg (by omega)
theorem law_runs {L : Nat} (hL : L ≤ 3072) (xs : Nat → Int32) : ∃ s, wh FU (gLaw_law_h18 L) ((0 : Int32), s0 xs) = some (1, s) := by
  obtain ⟨⟨r, s⟩, f1, f2⟩ := wh_inv (f := gLaw_law_h18 L) (fun k q => q.1 = nI (6 * k) ∧ ∃ D, IV xs D q.2) (fun r => r.1 = (1 : Int32)) (L / 6) (fun k hk q hI => by
    obtain ⟨c, u⟩ := q
    obtain ⟨h1, D, h2⟩ := hI
    dsimp only at h1 h2
    subst h1
    obtain ⟨s', D', g1, g2⟩ := law_1 hL h2 (i := 6 * k) (by omega)
    exact ⟨(nI (6 * k + 6), s'), g1, by show nI (6 * k + 6) = nI (6 * (k + 1)); rw [show 6 * k + 6 = 6 * (k + 1) by omega], D', g2⟩) (fun q hI => by
    obtain ⟨c, u⟩ := q
    obtain ⟨h1, D, h2⟩ := hI
    dsimp only at h1 h2
    subst h1
    refine ⟨(1, u), ?_, rfl⟩
    unfold gLaw_law_h18
    dsimp only
    rw [if_pos]
    rw [show Int32.ofNat L = nI L from rfl]
    by_cases e : L < 6
    · have : L / 6 = 0 := by omega
      rw [this]
      exact (by decide +kernel : ∀ L, L < 6 → nI L - (6 : Int32) < nI (6 * 0)) L e
    · rw [show nI L - (6 : Int32) = nI (L - 6) from pk_sub (b := 6) (by omega)]
      exact nI_lt (by omega) (by omega)) (q := ((0 : Int32), s0 xs)) ⟨rfl, _, iv_0 xs⟩ FU (FU_gt (by omega))
  dsimp only at f2
  subst f2
  exact ⟨s, f1⟩
