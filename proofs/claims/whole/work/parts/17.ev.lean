/-! THE SMALL MACHINE's own rules: 'Ev': from here the method comes to that answer -/
def Ev (d k pc : Nat) (lv : mV) (st : List Value) (u : mS) (o : Option Value × mS) : Prop := ∃ n, ev n d k pc lv st u = some o
theorem ev_up : ∀ (n d k pc : Nat) (lv : mV) (st : List Value) (u : mS) (o : Option Value × mS), ev n d k pc lv st u = some o → ev (n + 1) d k pc lv st u = some o
  | 0, _, _, _, _, _, _, _, h => by cases h
  | n + 1, d, k, pc, lv, st, u, o, h => by
    unfold ev at h ⊢
    split at h
    · cases h
    · rename_i hd
      try rw [hd]
      try dsimp only
      split at h
      · rename_i hf
        try rw [hf]
        exact ev_up n _ _ _ _ _ _ _ h
      · rename_i hf
        try rw [hf]
        try dsimp only
        split at h
        · rename_i hh
          try rw [hh]
          exact ev_up n _ _ _ _ _ _ _ h
        · rename_i hh
          try rw [hh]
          try dsimp only
          split at h
          · rename_i hc
            try rw [hc]
            try dsimp only
            split at h
            · cases h
            · skip
              split at h
              · rename_i hcall
                try rw [ev_up n _ _ _ _ _ _ _ hcall]
                exact ev_up n _ _ _ _ _ _ _ h
              · cases h
          · rename_i hc
            try rw [hc]
            exact h
theorem ev_le {n m d k pc : Nat} {lv : mV} {st : List Value} {u : mS} {o : Option Value × mS} (h : ev n d k pc lv st u = some o) (hm : n ≤ m) : ev m d k pc lv st u = some o := by
  obtain ⟨j, rfl⟩ := Nat.exists_eq_add_of_le hm
  clear hm
  induction j with
  | zero => exact h
  | succ j ih => exact ev_up _ _ _ _ _ _ _ _ ih
/-- the method k: its class, bytes, locals, answer -/
def mD (k ow : Nat) (B : ByteArray) (nL : Nat) (rt : Option FieldType) : Prop := (mm_m k).1 = ow ∧ (mm_m k).2.2.1 = B ∧ (mm_m k).2.2.2.1 = nL ∧ (mm_m k).2.2.2.2.1 = rt
section EV
variable {d k ow nL pc len : Nat} {B : ByteArray} {rt : Option FieldType} {lv lv' : mV} {st st' r : List Value} {u u' : mS} {o : Option Value × mS} {ins : ClassFile.Instr}
theorem Ev.f (hm : mD k ow B nL rt) (hd : decode B pc = .ok (ins, len)) {pc' : Nat} (hf : fF ins len pc nL lv st = some (pc', lv', st')) (h : Ev d k pc' lv' st' u o) : Ev d k pc lv st u o := by
  obtain ⟨n, hn⟩ := h
  refine ⟨n + 1, ?_⟩
  unfold ev
  rw [hm.2.1, hd, hm.2.2.1]
  dsimp only
  rw [hf]
  exact hn
def chk (B : ByteArray) : Nat → List (ClassFile.Instr × Nat) → Bool
  | _, [] => true
  | pc, (i, l) :: r => decide (decode B pc = .ok (i, l)) && chk B (pc + l) r
def runF (nL : Nat) : List (ClassFile.Instr × Nat) → Nat → mV → List Value → Option (Nat × Nat × mV × List Value)
  | [], pc, lv, st => some (0, pc, lv, st)
  | (i, l) :: r, pc, lv, st => match fF i l pc nL lv st with
    | some (pc', lv', st') => if pc' = pc + l ∨ r = [] then runF nL r pc' lv' st' else none
    | none => none
theorem Ev.seg (hm : mD k ow B nL rt) : ∀ (is : List (ClassFile.Instr × Nat)) {pc pc' j : Nat} {lv lv' : mV} {st st' : List Value}, chk B pc is = true → runF nL is pc lv st = some (j, pc', lv', st') → Ev d k pc' lv' st' u o → Ev d k pc lv st u o
  | [], _, _, _, _, _, _, _, _, hr, h => by cases hr; exact h
  | (i, l) :: r, pc, pc', j, lv, lv', st, st', hc, hr, h => by
    unfold chk at hc
    unfold runF at hr
    rw [Bool.and_eq_true] at hc
    split at hr
    · rename_i pc1 lv1 st1 hf
      split at hr
      · rename_i hor
        rcases hor with e | e
        · subst e
          exact Ev.f hm (of_decide_eq_true hc.1) hf (Ev.seg hm r hc.2 hr h)
        · subst e
          unfold runF at hr
          cases hr
          exact Ev.f hm (of_decide_eq_true hc.1) hf h
      · cases hr
    · cases hr
theorem Ev.h (hm : mD k ow B nL rt) (hd : decode B pc = .ok (ins, len)) (hn : ∀ lv, fF ins len pc nL lv st = none) (hh : hF ow d ((mm_m k).2.1.name == "<init>") ins len st u = some (st', u')) (h : Ev d k (pc + len) lv st' u' o) : Ev d k pc lv st u o := by
  obtain ⟨n, hn9⟩ := h
  refine ⟨n + 1, ?_⟩
  unfold ev
  rw [hm.2.1, hd, hm.2.2.1, hm.1]
  dsimp only
  rw [hn lv]
  dsimp only
  rw [hh]
  exact hn9
theorem Ev.ret (hm : mD k ow B nL rt) (hd : decode B pc = .ok (ins, len)) (hf : fF ins len pc nL lv st = none) (hh : hF ow d ((mm_m k).2.1.name == "<init>") ins len st u = none) (hc : cF ow u ins len st = none) (h : rF rt ins len st u = some o) : Ev d k pc lv st u o := by
  refine ⟨1, ?_⟩
  unfold ev
  rw [hm.2.1, hd, hm.2.2.1, hm.1, hm.2.2.2]
  dsimp only
  rw [hf]
  dsimp only
  rw [hh]
  dsimp only
  rw [hc]
  exact h
theorem Ev.iret (hm : mD k ow B nL (some .int)) {x : Int32} (hd : decode B pc = .ok (.ireturn, 1)) : Ev d k pc lv [.int x] u (some (.int x), u) := Ev.ret hm hd rfl rfl rfl rfl
theorem Ev.zret (hm : mD k ow B nL (some .boolean)) {x : Int32} (hx : x = 0 ∨ x = 1) (hd : decode B pc = .ok (.ireturn, 1)) : Ev d k pc lv [.int x] u (some (.int x), u) := Ev.ret hm hd rfl rfl rfl (if_pos ⟨rfl, hx⟩)
theorem Ev.bret (hm : mD k ow B nL (some .byte)) {x : Int32} (hx : x.toInt8.toInt32 = x) (hd : decode B pc = .ok (.ireturn, 1)) : Ev d k pc lv [.int x] u (some (.int x), u) := Ev.ret hm hd rfl rfl rfl (if_pos ⟨rfl, hx⟩)
theorem Ev.cret (hm : mD k ow B nL (some .char)) {x : Int32} (hx : (x.toUInt32 % 65536).toInt32 = x) (hd : decode B pc = .ok (.ireturn, 1)) : Ev d k pc lv [.int x] u (some (.int x), u) := Ev.ret hm hd rfl rfl rfl (if_pos ⟨rfl, hx⟩)
theorem Ev.lret (hm : mD k ow B nL (some .long)) {x : Int64} (hd : decode B pc = .ok (.lreturn, 1)) : Ev d k pc lv [.long x] u (some (.long x), u) := Ev.ret hm hd rfl rfl rfl rfl
theorem Ev.vret (hm : mD k ow B nL none) (hd : decode B pc = .ok (.return_, 1)) : Ev d k pc lv [] u (none, u) := Ev.ret hm hd rfl rfl rfl rfl
/-- a call: what the callee comes to, then what comes behind -/
theorem Ev.call (hm : mD k ow B nL rt) {k' : Nat} {as : List Value} {v : Option Value} (hd : decode B pc = .ok (ins, 3)) (hn : ∀ lv, fF ins 3 pc nL lv st = none) (hh : hF ow (d + 1) ((mm_m k).2.1.name == "<init>") ins 3 st u = none) (hc : cF ow u ins 3 st = some (k', as, r)) (h1 : Ev d k' 0 (mA 0 as) [] u (v, u')) (h2 : Ev (d + 1) k (pc + 3) lv (v.toList ++ r) u' o) : Ev (d + 1) k pc lv st u o := by
  obtain ⟨n1, g1⟩ := h1
  obtain ⟨n2, g2⟩ := h2
  refine ⟨(n1 + n2) + 1, ?_⟩
  unfold ev
  rw [hm.2.1, hd, hm.2.2.1, hm.1]
  dsimp only
  rw [hn lv]
  dsimp only
  rw [hh]
  dsimp only
  rw [hc]
  dsimp only
  rw [ev_le g1 (Nat.le_add_right n1 n2)]
  exact ev_le g2 (Nat.le_add_left n2 n1)
/-- branches -/
theorem Ev.if_ (hm : mD k ow B nL rt) {c : ClassFile.Cond} {off : Int} {t : Nat} {x : Int32} (hd : decode B pc = .ok (.ifCond c off, 3)) (ht : jT pc off = some t) (h1 : cH c x 0 = true → Ev d k t lv r u o) (h2 : cH c x 0 = false → Ev d k (pc + 3) lv r u o) : Ev d k pc lv (.int x :: r) u o := by
  cases hc : cH c x 0 with
  | true => exact Ev.f hm hd (by show fIf 3 pc lv (.int x :: r) c off = _; unfold fIf; dsimp only; rw [if_pos rfl, ht]; dsimp only; rw [if_pos hc]) (h1 hc)
  | false => exact Ev.f hm hd (by show fIf 3 pc lv (.int x :: r) c off = _; unfold fIf; dsimp only; rw [if_pos rfl, ht]; dsimp only; rw [if_neg (by rw [hc]; exact Bool.false_ne_true)]) (h2 hc)
theorem Ev.icmp (hm : mD k ow B nL rt) {c : ClassFile.Cond} {off : Int} {t : Nat} {x y : Int32} (hd : decode B pc = .ok (.if_icmp c off, 3)) (ht : jT pc off = some t) (h1 : cH c x y = true → Ev d k t lv r u o) (h2 : cH c x y = false → Ev d k (pc + 3) lv r u o) : Ev d k pc lv (.int y :: .int x :: r) u o := by
  cases hc : cH c x y with
  | true => exact Ev.f hm hd (by show fIc 3 pc lv (.int y :: .int x :: r) c off = _; unfold fIc; dsimp only; rw [if_pos rfl, ht]; dsimp only; rw [if_pos hc]) (h1 hc)
  | false => exact Ev.f hm hd (by show fIc 3 pc lv (.int y :: .int x :: r) c off = _; unfold fIc; dsimp only; rw [if_pos rfl, ht]; dsimp only; rw [if_neg (by rw [hc]; exact Bool.false_ne_true)]) (h2 hc)
/-- less locals are enough -/
def subL (lv' lv : mV) : Prop := ∀ q ∈ lv', lget q.1 lv = some q.2
theorem subL.get {i : Nat} {v : Value} (hs : subL lv' lv) (h : lget i lv' = some v) : lget i lv = some v := by
  unfold lget at h
  cases hf : lv'.find? (fun q => q.1 == i) with
  | none => rw [hf] at h; cases h
  | some q =>
    rw [hf] at h
    have h1 : q.1 = i := by simpa using List.find?_some hf
    have h2 : q.2 = v := Option.some.inj h
    have h3 := hs q (List.mem_of_find?_eq_some hf)
    rw [h1, h2] at h3
    exact h3
theorem lget_filter {f : Nat × Value → Bool} {i : Nat} {v : Value} (h : lget i lv = some v) (hf : f (i, v) = true) : lget i (lv.filter f) = some v := by
  unfold lget at h ⊢
  induction lv with
  | nil => cases h
  | cons q l ih =>
    rw [List.find?_cons] at h
    cases hq : (q.1 == i) with
    | true =>
      rw [hq] at h
      have e1 : q.1 = i := by simpa using hq
      have e2 : q.2 = v := Option.some.inj h
      have e3 : q = (i, v) := by rw [← e1, ← e2]
      rw [List.filter_cons_of_pos (by rw [e3]; exact hf), List.find?_cons, hq]
      exact h
    | false =>
      rw [hq] at h
      cases hfq : f q with
      | true =>
        rw [List.filter_cons_of_pos hfq, List.find?_cons, hq]
        exact ih h
      | false =>
        rw [List.filter_cons_of_neg (by rw [hfq]; exact Bool.false_ne_true)]
        exact ih h
theorem lget_cons {i j : Nat} {v : Value} (h : ¬ j = i) : lget i ((j, v) :: lv) = lget i lv := by
  unfold lget
  rw [List.find?_cons]
  have : (j == i) = false := by simpa using h
  rw [this]
theorem lget_self {i : Nat} {v : Value} : lget i ((i, v) :: lv) = some v := by
  unfold lget
  rw [List.find?_cons]
  have : (i == i) = true := by simp
  rw [this]
  rfl
theorem subL.st1 {i : Nat} {v : Value} (hs : subL lv' lv) : subL (lst1 i v lv') (lst1 i v lv) := by
  intro q hq
  rcases List.mem_cons.mp hq with rfl | h
  · exact lget_self
  · obtain ⟨h1, h2⟩ := List.mem_filter.mp h
    have h3 := hs q h1
    have h4 : ¬ i = q.1 := by
      intro e
      simp [e] at h2
    show lget q.1 ((i, v) :: _) = _
    rw [lget_cons h4]
    exact lget_filter h3 h2
theorem subL.st2 {i : Nat} {v : Value} (hs : subL lv' lv) : subL (lst2 i v lv') (lst2 i v lv) := by
  intro q hq
  rcases List.mem_cons.mp hq with rfl | h
  · exact lget_self
  · obtain ⟨h1, h2⟩ := List.mem_filter.mp h
    have h3 := hs q h1
    have h4 : ¬ i = q.1 := by
      intro e
      simp [e] at h2
    show lget q.1 ((i, v) :: _) = _
    rw [lget_cons h4]
    exact lget_filter h3 h2
def SubF (lv lv' : mV) (x x' : Option mF) : Prop := ∀ pc1 l1 s1, x' = some (pc1, l1, s1) → ∃ l2, x = some (pc1, l2, s1) ∧ subL l1 l2
theorem sub_pass {f : mV → Option mF} (hs : subL lv' lv) (h : ∀ l, f l = none ∨ ∃ a b, ∀ l2, f l2 = some (a, l2, b)) : SubF lv lv' (f lv) (f lv') := by
  intro pc1 l1 s1 h1
  rcases h lv' with h2 | ⟨a, b, h2⟩
  · rw [h2] at h1; cases h1
  · rw [h2] at h1
    cases h1
    exact ⟨lv, h2 lv, hs⟩
end EV
