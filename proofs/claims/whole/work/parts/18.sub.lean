/-! THE SMALL MACHINE's own rules: less locals are enough -/
section SUB
variable {len pc nL : Nat} {lv lv' : mV} {st : List Value}
theorem sub_fK {w : Nat} {v : Value} (hs : subL lv' lv) : SubF lv lv' (fK len pc lv st w v) (fK len pc lv' st w v) := by
  intro pc1 l1 s1 h
  unfold fK at h ⊢
  split at h
  · rename_i h0
    cases h
    exact ⟨lv, if_pos h0, hs⟩
  · cases h
theorem sub_fIld {w i : Nat} (hs : subL lv' lv) : SubF lv lv' (fIld len pc lv st w i) (fIld len pc lv' st w i) := by
  intro pc1 l1 s1 h
  unfold fIld at h ⊢
  split at h
  · rename_i h0
    split at h
    · rename_i x hg
      cases h
      exact ⟨lv, by rw [if_pos h0, hs.get hg], hs⟩
    · cases h
  · cases h
theorem sub_fLld {w i : Nat} (hs : subL lv' lv) : SubF lv lv' (fLld len pc lv st w i) (fLld len pc lv' st w i) := by
  intro pc1 l1 s1 h
  unfold fLld at h ⊢
  split at h
  · rename_i h0
    split at h
    · rename_i x hg
      cases h
      exact ⟨lv, by rw [if_pos h0, hs.get hg], hs⟩
    · cases h
  · cases h
theorem sub_fAld {w i : Nat} (hs : subL lv' lv) : SubF lv lv' (fAld len pc lv st w i) (fAld len pc lv' st w i) := by
  intro pc1 l1 s1 h
  unfold fAld at h ⊢
  split at h
  · rename_i h0
    split at h
    · rename_i x hg
      cases h
      exact ⟨lv, by rw [if_pos h0, hs.get hg], hs⟩
    · cases h
  · cases h
theorem sub_fIst {w i : Nat} (hs : subL lv' lv) : SubF lv lv' (fIst len pc nL lv st w i) (fIst len pc nL lv' st w i) := by
  intro pc1 l1 s1 h
  unfold fIst at h ⊢
  split at h
  · split at h
    · rename_i h0
      cases h
      exact ⟨_, if_pos h0, hs.st1⟩
    · cases h
  · cases h
theorem sub_fLst {w i : Nat} (hs : subL lv' lv) : SubF lv lv' (fLst len pc nL lv st w i) (fLst len pc nL lv' st w i) := by
  intro pc1 l1 s1 h
  unfold fLst at h ⊢
  split at h
  · split at h
    · rename_i h0
      cases h
      exact ⟨_, if_pos h0, hs.st2⟩
    · cases h
  · cases h
theorem sub_fAst {w i : Nat} (hs : subL lv' lv) : SubF lv lv' (fAst len pc nL lv st w i) (fAst len pc nL lv' st w i) := by
  intro pc1 l1 s1 h
  unfold fAst at h ⊢
  split at h
  · split at h
    · rename_i h0
      cases h
      exact ⟨_, if_pos h0, hs.st1⟩
    · cases h
  · cases h
theorem sub_fInc {i : Nat} {n : Int} (hs : subL lv' lv) : SubF lv lv' (fInc len pc nL lv st i n) (fInc len pc nL lv' st i n) := by
  intro pc1 l1 s1 h
  unfold fInc at h ⊢
  split at h
  · rename_i h0
    split at h
    · rename_i x hg
      cases h
      exact ⟨_, by rw [if_pos h0, hs.get hg], hs.st1⟩
    · cases h
  · cases h
theorem sub_fB {op : Int32 → Int32 → Int32} (hs : subL lv' lv) : SubF lv lv' (fB len pc lv st op) (fB len pc lv' st op) := by
  intro pc1 l1 s1 h
  unfold fB at h ⊢
  split at h
  · split at h
    · rename_i h0
      cases h
      exact ⟨lv, if_pos h0, hs⟩
    · cases h
  · cases h
theorem sub_fD {op : Int32 → Int32 → Int32} (hs : subL lv' lv) : SubF lv lv' (fD len pc lv st op) (fD len pc lv' st op) := by
  intro pc1 l1 s1 h
  unfold fD at h ⊢
  split at h
  · split at h
    · rename_i h0
      cases h
      exact ⟨lv, if_pos h0, hs⟩
    · cases h
  · cases h
theorem sub_fBL {op : Int64 → Int64 → Int64} (hs : subL lv' lv) : SubF lv lv' (fBL len pc lv st op) (fBL len pc lv' st op) := by
  intro pc1 l1 s1 h
  unfold fBL at h ⊢
  split at h
  · split at h
    · rename_i h0
      cases h
      exact ⟨lv, if_pos h0, hs⟩
    · cases h
  · cases h
theorem sub_fDL {op : Int64 → Int64 → Int64} (hs : subL lv' lv) : SubF lv lv' (fDL len pc lv st op) (fDL len pc lv' st op) := by
  intro pc1 l1 s1 h
  unfold fDL at h ⊢
  split at h
  · split at h
    · rename_i h0
      cases h
      exact ⟨lv, if_pos h0, hs⟩
    · cases h
  · cases h
theorem sub_fSL {op : Int64 → Int32 → Int64} (hs : subL lv' lv) : SubF lv lv' (fSL len pc lv st op) (fSL len pc lv' st op) := by
  intro pc1 l1 s1 h
  unfold fSL at h ⊢
  split at h
  · split at h
    · rename_i h0
      cases h
      exact ⟨lv, if_pos h0, hs⟩
    · cases h
  · cases h
theorem sub_fU {op : Int32 → Int32} (hs : subL lv' lv) : SubF lv lv' (fU len pc lv st op) (fU len pc lv' st op) := by
  intro pc1 l1 s1 h
  unfold fU at h ⊢
  split at h
  · split at h
    · rename_i h0
      cases h
      exact ⟨lv, if_pos h0, hs⟩
    · cases h
  · cases h
theorem sub_fIL (hs : subL lv' lv) : SubF lv lv' (fIL len pc lv st) (fIL len pc lv' st) := by
  intro pc1 l1 s1 h
  unfold fIL at h ⊢
  split at h
  · split at h
    · rename_i h0
      cases h
      exact ⟨lv, if_pos h0, hs⟩
    · cases h
  · cases h
theorem sub_fLI (hs : subL lv' lv) : SubF lv lv' (fLI len pc lv st) (fLI len pc lv' st) := by
  intro pc1 l1 s1 h
  unfold fLI at h ⊢
  split at h
  · split at h
    · rename_i h0
      cases h
      exact ⟨lv, if_pos h0, hs⟩
    · cases h
  · cases h
theorem sub_fCmp (hs : subL lv' lv) : SubF lv lv' (fCmp len pc lv st) (fCmp len pc lv' st) := by
  intro pc1 l1 s1 h
  unfold fCmp at h ⊢
  split at h
  · split at h
    · rename_i h0
      cases h
      exact ⟨lv, if_pos h0, hs⟩
    · cases h
  · cases h
theorem sub_fDup (hs : subL lv' lv) : SubF lv lv' (fDup len pc lv st) (fDup len pc lv' st) := by
  intro pc1 l1 s1 h
  unfold fDup at h ⊢
  split at h
  · split at h
    · rename_i h0
      cases h
      exact ⟨lv, if_pos h0, hs⟩
    · cases h
  · cases h
theorem sub_fPop (hs : subL lv' lv) : SubF lv lv' (fPop len pc lv st) (fPop len pc lv' st) := by
  intro pc1 l1 s1 h
  unfold fPop at h ⊢
  split at h
  · split at h
    · rename_i h0
      cases h
      exact ⟨lv, if_pos h0, hs⟩
    · cases h
  · cases h
theorem sub_fDup2 (hs : subL lv' lv) : SubF lv lv' (fDup2 len pc lv st) (fDup2 len pc lv' st) := by
  intro pc1 l1 s1 h
  unfold fDup2 at h ⊢
  split at h
  · split at h
    · rename_i h0
      cases h
      exact ⟨lv, if_pos h0, hs⟩
    · rename_i h0
      split at h
      · split at h
        · rename_i h1
          cases h
          exact ⟨lv, by rw [if_neg h0]; exact if_pos h1, hs⟩
        · cases h
      · cases h
  · cases h
theorem sub_fIf {c : ClassFile.Cond} {off : Int} (hs : subL lv' lv) : SubF lv lv' (fIf len pc lv st c off) (fIf len pc lv' st c off) := by
  intro pc1 l1 s1 h
  unfold fIf at h ⊢
  split at h
  · split at h
    · rename_i h0
      split at h
      · rename_i t ht
        cases h
        exact ⟨lv, if_pos h0, hs⟩
      · cases h
    · cases h
  · cases h
theorem sub_fIc {c : ClassFile.Cond} {off : Int} (hs : subL lv' lv) : SubF lv lv' (fIc len pc lv st c off) (fIc len pc lv' st c off) := by
  intro pc1 l1 s1 h
  unfold fIc at h ⊢
  split at h
  · split at h
    · rename_i h0
      split at h
      · rename_i t ht
        cases h
        exact ⟨lv, if_pos h0, hs⟩
      · cases h
    · cases h
  · cases h
theorem sub_fGo {off : Int} (hs : subL lv' lv) : SubF lv lv' (fGo len pc lv st off) (fGo len pc lv' st off) := by
  intro pc1 l1 s1 h
  unfold fGo at h ⊢
  split at h
  · rename_i h0
    split at h
    · rename_i t ht
      cases h
      exact ⟨lv, if_pos h0, hs⟩
    · cases h
  · cases h
theorem sub_fTab {df lo hi : Int} {offs : Array Int} (hs : subL lv' lv) : SubF lv lv' (fTab pc lv st df lo hi offs) (fTab pc lv' st df lo hi offs) := by
  intro pc1 l1 s1 h
  unfold fTab at h ⊢
  split at h
  · split at h
    · rename_i h0
      split at h
      · rename_i t ht
        cases h
        exact ⟨lv, if_pos h0, hs⟩
      · cases h
    · rename_i h0
      split at h
      · rename_i off ho
        split at h
        · rename_i t ht
          cases h
          exact ⟨lv, if_neg h0, hs⟩
        · cases h
      · cases h
  · cases h
set_option maxHeartbeats 4000000 in
theorem sub_fF {ins : ClassFile.Instr} (hs : subL lv' lv) : SubF lv lv' (fF ins len pc nL lv st) (fF ins len pc nL lv' st) := by
  cases ins <;> first
    | exact sub_fK hs
    | exact sub_fIld hs
    | exact sub_fLld hs
    | exact sub_fAld hs
    | exact sub_fIst hs
    | exact sub_fLst hs
    | exact sub_fAst hs
    | exact sub_fInc hs
    | exact sub_fB hs
    | exact sub_fD hs
    | exact sub_fBL hs
    | exact sub_fDL hs
    | exact sub_fSL hs
    | exact sub_fU hs
    | exact sub_fIL hs
    | exact sub_fLI hs
    | exact sub_fCmp hs
    | exact sub_fDup hs
    | exact sub_fPop hs
    | exact sub_fDup2 hs
    | exact sub_fIf hs
    | exact sub_fIc hs
    | exact sub_fGo hs
    | exact sub_fTab hs
    | (intro a b c h; cases h; done)
theorem hF_fF {o d : Nat} {b : Bool} {ins : ClassFile.Instr} {u : mS} {q : List Value × mS} (h : hF o d b ins len st u = some q) (l : mV) : fF ins len pc nL l st = none := by
  unfold hF at h
  split at h <;> first | rfl | cases h
theorem cF_fF {o : Nat} {ins : ClassFile.Instr} {u : mS} {q : Nat × List Value × List Value} (h : cF o u ins len st = some q) (l : mV) : fF ins len pc nL l st = none := by
  unfold cF at h
  split at h
  · split at h <;> first | rfl | cases h
  · cases h
theorem rF_fF {rt : Option FieldType} {ins : ClassFile.Instr} {u : mS} {q : Option Value × mS} (h : rF rt ins len st u = some q) (l : mV) : fF ins len pc nL l st = none := by
  unfold rF at h
  split at h <;> first | rfl | cases h
end SUB
theorem ev_sub : ∀ (n d k pc : Nat) (lv lv' : mV) (st : List Value) (u : mS) (o : Option Value × mS), subL lv' lv → ev n d k pc lv' st u = some o → ev n d k pc lv st u = some o
  | 0, _, _, _, _, _, _, _, _, _, h => by cases h
  | n + 1, d, k, pc, lv, lv', st, u, o, hs, h => by
    unfold ev at h ⊢
    cases hd : decode (mm_m k).2.2.1 pc with
    | error z => rw [hd] at h; cases h
    | ok q =>
      obtain ⟨ins, len⟩ := q
      rw [hd] at h
      dsimp only at h ⊢
      cases hf : fF ins len pc (mm_m k).2.2.2.1 lv' st with
      | some q =>
        obtain ⟨pc1, l1, s1⟩ := q
        rw [hf] at h
        obtain ⟨l2, e1, e2⟩ := sub_fF hs pc1 l1 s1 hf
        rw [e1]
        exact ev_sub n _ _ _ _ _ _ _ _ e2 h
      | none =>
        rw [hf] at h
        dsimp only at h
        cases hh : hF (mm_m k).1 d ((mm_m k).2.1.name == "<init>") ins len st u with
        | some q =>
          rw [hh] at h
          rw [hF_fF hh lv]
          exact ev_sub n _ _ _ _ _ _ _ _ hs h
        | none =>
          rw [hh] at h
          dsimp only at h
          cases hc : cF (mm_m k).1 u ins len st with
          | some q =>
            obtain ⟨k', as, r⟩ := q
            rw [hc] at h
            rw [cF_fF hc lv]
            dsimp only at h ⊢
            cases d with
            | zero => cases h
            | succ d =>
              dsimp only at h ⊢
              cases hcall : ev n d k' 0 (mA 0 as) [] u with
              | none => rw [hcall] at h; cases h
              | some q =>
                obtain ⟨v, u1⟩ := q
                rw [hcall] at h
                exact ev_sub n _ _ _ _ _ _ _ _ hs h
          | none =>
            rw [hc] at h
            dsimp only at h
            rw [rF_fF h lv]
            exact h
theorem Ev.sub {d k pc : Nat} {lv lv' : mV} {st : List Value} {u : mS} {o : Option Value × mS} (hs : subL lv' lv) (h : Ev d k pc lv' st u o) : Ev d k pc lv st u o := by
  obtain ⟨n, hn⟩ := h
  exact ⟨n, ev_sub n d k pc lv lv' st u o hs hn⟩
theorem subL_nil {lv : mV} : subL [] lv := fun _ h => absurd h List.not_mem_nil
theorem subL_cons {lv lv' : mV} {i : Nat} {v : Value} (h1 : lget i lv = some v) (h2 : subL lv' lv) : subL ((i, v) :: lv') lv := fun q hq => by
  rcases List.mem_cons.mp hq with rfl | h
  · exact h1
  · exact h2 q h
