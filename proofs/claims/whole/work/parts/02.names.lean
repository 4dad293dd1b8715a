/-- the tables say that there is a class of arrays over arrays of t -/
def va_AOA (t : FieldType) (U : State) : Prop := (Cond.arrayOver (.array t)).before #[] U = true
theorem va_AOA.of {t : FieldType} {A : Array Value} {U : State} (h : (Cond.arrayOver (.array t)).before A U = true) : va_AOA t U := h
theorem va_AOA.use {t : FieldType} {A : Array Value} {U : State} (h : va_AOA t U) : (Cond.arrayOver (.array t)).before A U = true := h
/-! ===== BEGIN words of one list among another's, by their places ===== -/
theorem goodIn_r {big : List Cond} (ws : List Cond) (ps : List Nat) (hp : ws = ps.filterMap (fun i => big[i]?)) (h : ws.all goodWord = true) : GoodIn big ws := by
  intro w hw
  have h1 := List.all_eq_true.mp h w hw
  rw [hp] at hw
  obtain ⟨i, -, hi⟩ := List.mem_filterMap.mp hw
  have hm : w ∈ big := by first | exact List.mem_of_getElem? hi | exact List.getElem?_mem hi
  exact ⟨hm, good_of_word h1⟩
theorem goodIn_app {big a b : List Cond} (ha : GoodIn big a) (hb : GoodIn big b) : GoodIn big (a ++ b) := fun w h => (List.mem_append.mp h).elim (ha w) (hb w)
theorem goodIn_ca {big a b : List Cond} {c : Cond} (ha : GoodIn big (c :: a)) (hb : GoodIn big b) : GoodIn big (c :: (a ++ b)) := fun w h => (List.mem_cons.mp h).elim (fun e => ha w (List.mem_cons.mpr (Or.inl e))) (fun h => (List.mem_append.mp h).elim (fun h => ha w (List.mem_cons.mpr (Or.inr h))) (hb w))
theorem goodIn_sub {big ws : List Cond} (hm : ∀ w ∈ ws, w ∈ big) (h : ws.all goodWord = true) : GoodIn big ws := fun w hw => ⟨hm w hw, good_of_word (List.all_eq_true.mp h w hw)⟩
/-! ===== END ===== -/

/-! ===== BEGIN new T[n][m]: the outer array a place, the inner ones among the pooled ===== -/
/-- f, but v at every address of l -/
def vr_up {α : Type} (f : Nat → α) (l : List Nat) (v : α) : Nat → α := fun a => if a ∈ l then v else f a
theorem vr_up_in {α : Type} {f : Nat → α} {l : List Nat} {v : α} {a : Nat} (h : a ∈ l) : vr_up f l v a = v := if_pos h
theorem vr_up_ne {α : Type} {f : Nat → α} {l : List Nat} {v : α} {a : Nat} (h : a ∉ l) : vr_up f l v a = f a := if_neg h
theorem vr_rows {L l : List Nat} {f : Nat → va_E} {e : va_E} (h : ∀ a, a ∈ l → a ∉ L) : va_pl L f ++ l.map (fun a => (a, e)) = va_pl (L ++ l) (vr_up f l e) := by
  unfold va_pl
  rw [List.map_append]
  congr 1
  · apply List.map_congr_left
    intro a ha
    rw [vr_up_ne (fun q => h a q ha)]
  · apply List.map_congr_left
    intro a ha
    rw [vr_up_in ha]
theorem vr_lay {X rows : va_W} {x : Nat × va_E} {pl : va_W} {D : va_G} {cl : List vw_C} {H : Heap} (hP : va_P D cl (((X ++ pl) ++ [x]) ++ rows) H) : va_P D cl ((X ++ [x]) ++ (pl ++ rows)) H := by
  rw [List.append_assoc (X ++ pl)] at hP
  have h := va_P.swap hP
  rw [← List.append_assoc X] at h
  have h2 := va_P.swap h
  rw [List.append_assoc (X ++ [x])] at h2
  exact h2
theorem vr_layD {X rows : va_W} {x : Nat × va_E} {pl : va_W} {A : Nat → Prop} (hD : va_D A (((X ++ pl) ++ [x]) ++ rows)) : va_D A ((X ++ [x]) ++ (pl ++ rows)) := by
  rw [List.append_assoc (X ++ pl)] at hD
  have h := va_D.swap hD
  rw [← List.append_assoc X] at h
  have h2 := va_D.swap h
  rw [List.append_assoc (X ++ [x])] at h2
  exact h2
theorem vr_outer (c : ClassId) (N h0 : Nat) : ∀ i : Nat, Jvm.Free.Multi.outerC c N h0 i = arrV c N (fun j => va_rf (if j < i then some (h0 + 1 + j) else none))
  | 0 => by
    show ({ cls := c, slots := Array.replicate N .null, vm := .none } : Cell) = _
    rw [arrV_new]
    refine congrArg (arrV c N) (funext fun j => ?_)
    simp [va_rf]
  | i + 1 => by
    show (Jvm.Free.Multi.outerC c N h0 i).setSlot i (.ref (h0 + 1 + i)) = _
    rw [vr_outer c N h0 i, arrV_store]
    refine congrArg (arrV c N) (funext fun j => ?_)
    by_cases e : j = i
    · subst e
      simp [updV, va_rf]
    · by_cases h : j < i
      · simp [updV, e, h, Nat.lt_succ_of_lt h]
      · simp [updV, e, h, show ¬ j < i + 1 by omega]
section VGM
variable {p : Program} {l : Launch} {e : Env} {R : Room} {s : State} {m : MethodId} {args : Array Value} {below : List Frame} {meth : Method} {c : Code} {H : Heap} {locs : List Loc} {cells slots : Nat} {Q : State → Prop}
variable {cc : ByteArray} {pc : Nat} {ls : Array Slot} {rest : List Value} {D : va_G} {cl : List vw_C} {A : Nat → Prop} {a : Nat} {tys : List (ClassId × FieldType)} {ws : va_W} {H0 : Heap}
theorem va_mna {X : va_W} {L : List Nat} {f : Nat → va_E} {cc : ByteArray} (hexec : p.tables.exec = Jvm.exec) (hb : c.code = cc) {own : String} {index : Nat} {ty : FieldType} {cy : ClassId} (hown : s.vm.findClass own = some m.cls) (hclink : (Cond.classLink own index ("[" ++ (FieldType.array ty).toString)).before args s = true) (hover : va_AOA ty s) (harr : (Cond.arrayClass ty).before args s = true) (hcy : s.vm.findClass (FieldType.array ty).toString = some cy)
    (hK : va_K D cl tys s) (hP : va_P D cl (X ++ va_pl L f) H) (hD : va_D A (X ++ va_pl L f)) (hS : va_S A H0 H locs) (hA : ∀ q, H0.size ≤ q → A q) {n k : Int32} {N' K' : Nat} {z : vp_A} (hn : ¬ n < 0) (hk : ¬ k < 0) (hN : n.toNatClampNeg = N') (hM : k.toNatClampNeg = K')
    (hb1 : N' * 4 ≤ 536870912) (hb2 : K' * componentBytes ty ≤ 536870912) (hb3 : K' ≤ 536870912) (hdf : fits ty (defaultValue ty) = true) (hdd : (defaultValue ty).isDefault = true) (hcells : cells + (1 + N') ≤ R.cells) (hslots : slots + (N' + N' * K') ≤ R.slots) (hz : ∀ c : ClassId, Jvm.Free.Multi.innerC c K' (defaultValue ty) = vp_cell c z) (hdg : decode cc pc = .ok (.multianewarray index 2, 4))
    (kk : ∀ (q : Nat) (r : Nat → Nat) (cA : ClassId) (H1 : Heap), (∀ i j : Nat, i < N' → j < N' → r i = r j → i = j) → (∀ i : Nat, i < N' → r i ∉ L) → va_K D cl (tys ++ [(cA, .array ty)]) s →
      va_P D cl ((X ++ [(q, .inl (cA, N', .inr (.inr (.inr (.inr (fun i => if i < N' then some (r i) else none))))))]) ++ va_pl (L ++ (List.range N').map r) (vr_up f ((List.range N').map r) (.inl (cy, z)))) H1 → va_D A ((X ++ [(q, .inl (cA, N', .inr (.inr (.inr (.inr (fun i => if i < N' then some (r i) else none))))))]) ++ va_pl (L ++ (List.range N').map r) (vr_up f ((List.range N').map r) (.inl (cy, z)))) → va_S A H0 H1 locs →
      W p l e R s m args below meth c H1 locs (cells + 1 + N') (slots + N' + N' * K') Q (F0 m (pc + 4) ls (.ref q :: rest))) : W p l e R s m args below meth c H locs cells slots Q (F0 m pc ls (.int k :: .int n :: rest)) := by
  subst hN
  subst hM
  intro T hT Xs
  obtain ⟨vm₁, cA, comp, -, fA, fC, hO, -, X', step⟩ := Xs.multianewarray2F hexec hown hclink (va_AOA.use hover) harr (g := F0 m pc ls (.int k :: .int n :: rest)) rfl (by rw [hb]; exact hdg) rfl hn hk hb1 hb2 hb3 hdf hdd hcells hslots
  have ec : some cy = some comp := hcy.symm.trans fC
  cases ec
  generalize hF : Jvm.Free.Multi.fill (T.setVm vm₁) cA cy n.toNatClampNeg k.toNatClampNeg (defaultValue ty) n.toNatClampNeg = F at X' step
  have hTh : (T.setVm vm₁).heap = H := hT
  obtain ⟨f1, f2, -, -⟩ := Jvm.Free.Multi.fill_facts (T.setVm vm₁) cA cy n.toNatClampNeg k.toNatClampNeg (defaultValue ty) n.toNatClampNeg
  rw [hF, hTh] at f1 f2
  have hold : ∀ x : Nat, x < H.size → F.heap[x]? = H[x]? := fun x hx => by
    have := Jvm.Free.Multi.fill_old (T.setVm vm₁) cA cy n.toNatClampNeg k.toNatClampNeg (defaultValue ty) (a := x) (by rw [hTh]; exact hx) n.toNatClampNeg
    rw [hF, hTh] at this
    exact this
  have hrow : ∀ j : Nat, j < n.toNatClampNeg → F.heap[H.size + 1 + j]? = some (vp_cell cy z) := fun j hj => by
    have := Jvm.Free.Multi.fill_inner (T.setVm vm₁) cA cy n.toNatClampNeg k.toNatClampNeg (defaultValue ty) n.toNatClampNeg j hj
    rw [hF, hTh, hz] at this
    exact this
  have hout : Jvm.Free.Multi.outerC cA n.toNatClampNeg H.size n.toNatClampNeg = vp_cell cA (n.toNatClampNeg, .inr (.inr (.inr (.inr (fun i => if i < n.toNatClampNeg then some (H.size + 1 + i) else none))))) := by
    rw [vp_cell_q]
    exact vr_outer cA n.toNatClampNeg H.size n.toNatClampNeg
  rw [hout] at f2
  have hlt : ∀ a, a ∈ L → a < H.size := fun a ha => by
    obtain ⟨k9, hk9⟩ := va_pl_get (X := X) (f := f) ha
    exact (hP k9 _ hk9).lt
  have hnl : ∀ i : Nat, i < n.toNatClampNeg → H.size + 1 + i ∉ L := fun i _ h => by
    have := hlt _ h
    omega
  have hnm : ∀ a, a ∈ (List.range n.toNatClampNeg).map (fun i => H.size + 1 + i) → a ∉ L := fun a ha h => by
    obtain ⟨i, -, rfl⟩ := List.mem_map.mp ha
    have := hlt _ h
    omega
  have hP0 : va_P D cl (X ++ va_pl L f) F.heap := hP.kept (fun k9 x hx => hold x.1 ((hP k9 x hx).lt))
  have hP1 : va_P D cl ((X ++ va_pl L f) ++ [(H.size, .inl (cA, n.toNatClampNeg, .inr (.inr (.inr (.inr (fun i => if i < n.toNatClampNeg then some (H.size + 1 + i) else none))))))]) F.heap := hP0.app (fun k9 x hx => by
    have h0 : k9 < 1 := (List.getElem?_eq_some_iff.mp hx).1
    rw [show k9 = 0 by omega] at hx
    cases hx
    exact f2)
  have hP2 : va_P D cl (((X ++ va_pl L f) ++ [(H.size, .inl (cA, n.toNatClampNeg, .inr (.inr (.inr (.inr (fun i => if i < n.toNatClampNeg then some (H.size + 1 + i) else none))))))]) ++ ((List.range n.toNatClampNeg).map (fun i => H.size + 1 + i)).map (fun a => (a, .inl (cy, z)))) F.heap := hP1.app (fun k9 x hx => by
    obtain ⟨a, ha, rfl⟩ := List.mem_map.mp (List.mem_of_getElem? hx)
    obtain ⟨i, hi, rfl⟩ := List.mem_map.mp ha
    exact hrow i (List.mem_range.mp hi))
  have hD2 : va_D A (((X ++ va_pl L f) ++ [(H.size, .inl (cA, n.toNatClampNeg, .inr (.inr (.inr (.inr (fun i => if i < n.toNatClampNeg then some (H.size + 1 + i) else none))))))]) ++ ((List.range n.toNatClampNeg).map (fun i => H.size + 1 + i)).map (fun a => (a, .inl (cy, z)))) := by
    have hD1 := hD.push (e := .inl (cA, n.toNatClampNeg, .inr (.inr (.inr (.inr (fun i => if i < n.toNatClampNeg then some (H.size + 1 + i) else none)))))) hP rfl (hA _ hS.1)
    generalize hW1 : (X ++ va_pl L f) ++ [(H.size, .inl (cA, n.toNatClampNeg, .inr (.inr (.inr (.inr (fun i => if i < n.toNatClampNeg then some (H.size + 1 + i) else none))))))] = W1 at hD1 hP1 ⊢
    have hle : ∀ (k9 : Nat) (x : Nat × va_E), W1[k9]? = some x → x.1 ≤ H.size := fun k9 x hx => by
      rw [← hW1] at hx
      by_cases hl : k9 < (X ++ va_pl L f).length
      · rw [List.getElem?_append_left hl] at hx
        exact Nat.le_of_lt ((hP k9 x hx).lt)
      · rw [List.getElem?_append_right (by omega)] at hx
        have h0 : k9 - (X ++ va_pl L f).length < 1 := (List.getElem?_eq_some_iff.mp hx).1
        rw [show k9 - (X ++ va_pl L f).length = 0 by omega] at hx
        cases hx
        exact Nat.le_refl _
    have hr : ∀ (k9 : Nat) (x : Nat × va_E), (((List.range n.toNatClampNeg).map (fun i => H.size + 1 + i)).map (fun a => ((a, .inl (cy, z)) : Nat × va_E)))[k9]? = some x → x.1 = H.size + 1 + k9 := fun k9 x hx => by
      rw [List.getElem?_map, List.getElem?_map] at hx
      by_cases h9 : k9 < n.toNatClampNeg
      · rw [List.getElem?_range h9] at hx
        cases hx
        rfl
      · have hn0 : (List.range n.toNatClampNeg)[k9]? = none := List.getElem?_eq_none (by rw [List.length_range]; omega)
        rw [hn0] at hx
        cases hx
    refine ⟨fun i j x y hi hj hxy => ?_, fun k9 x hx => ?_⟩
    · by_cases h1 : i < W1.length <;> by_cases h2 : j < W1.length
      · rw [List.getElem?_append_left h1] at hi
        rw [List.getElem?_append_left h2] at hj
        exact hD1.1 i j x y hi hj hxy
      · rw [List.getElem?_append_left h1] at hi
        rw [List.getElem?_append_right (by omega)] at hj
        have := hle _ _ hi
        have := hr _ _ hj
        omega
      · rw [List.getElem?_append_right (by omega)] at hi
        rw [List.getElem?_append_left h2] at hj
        have := hle _ _ hj
        have := hr _ _ hi
        omega
      · rw [List.getElem?_append_right (by omega)] at hi hj
        have := hr _ _ hi
        have := hr _ _ hj
        omega
    · by_cases h1 : k9 < W1.length
      · rw [List.getElem?_append_left h1] at hx
        exact hD1.2 k9 x hx
      · rw [List.getElem?_append_right (by omega)] at hx
        have := hr _ _ hx
        exact hA _ (by have := hS.1; omega)
  have hAr : ArrOfT s cA (.array ty) := fun N9 z9 => by
    obtain ⟨-, k9, hk9, cm9, hkk9⟩ := (hO 0 0 0).1
    exact ⟨(fun q hq => by cases hq), k9, hk9, cm9, hkk9⟩
  have hK2 : va_K D cl (tys ++ [(cA, .array ty)]) s := ⟨hK.1, fun k9 x hx => by
    by_cases hl : k9 < tys.length
    · rw [List.getElem?_append_left hl] at hx
      exact hK.2 k9 x hx
    · rw [List.getElem?_append_right (by omega)] at hx
      have h0 : k9 - tys.length < 1 := (List.getElem?_eq_some_iff.mp hx).1
      rw [show k9 - tys.length = 0 by omega] at hx
      cases hx
      exact ⟨hAr, fA⟩⟩
  obtain ⟨t, a1, b1⟩ := kk H.size (fun i => H.size + 1 + i) cA F.heap (fun i j _ _ h => by have h9 : H.size + 1 + i = H.size + 1 + j := h; omega) hnl hK2 (by rw [← vr_rows hnm]; exact vr_lay hP2) (by rw [← vr_rows hnm]; exact vr_layD hD2) ⟨by rw [f1]; have := hS.1; omega, fun x h1 h2 => (hold x (Nat.lt_of_lt_of_le h1 hS.1)).trans (hS.2.1 x h1 h2), hS.2.2⟩ F rfl X'
  refine ⟨t, step t ?_, b1⟩
  have e : T.heap.size = H.size := by rw [hT]
  rw [e]
  exact a1
end VGM
/-! ===== END ===== -/
def RX0 : String := "PennantLawn$Course"
def TX0 : u_T := fun k => match k with
  | 0 => ("PennantLawn$Course", "race", "LPennantLawn$Race;", true)
  | 1 => ("PennantLawn$Course", "law", "I", false)
  | 2 => ("PennantLawn$Course", "starts", "[I", true)
  | 3 => ("PennantLawn$Course", "needs", "[I", true)
  | 4 => ("PennantLawn$Course", "firstLooks", "[I", true)
  | 5 => ("PennantLawn$Course", "actLooks", "[[I", true)
  | 6 => ("PennantLawn$Course", "awake", "[I", true)
  | 7 => ("PennantLawn$Course", "places", "[[I", true)
  | 8 => ("PennantLawn$Course", "looks", "[[I", true)
  | _ => ("PennantLawn$Course", "eyes", "[[I", true)
def tyX0 : Nat → FieldType := fun k => match k with
  | 0 => .object "PennantLawn$Race"
  | 1 => .int
  | 2 => .array .int
  | 3 => .array .int
  | 4 => .array .int
  | 5 => .array (.array .int)
  | 6 => .array .int
  | 7 => .array (.array .int)
  | 8 => .array (.array .int)
  | _ => .array (.array .int)
theorem nmX0 : ∀ a, a < 10 → ∀ b, b < 10 → a ≠ b → (TX0 a).2.1 ≠ (TX0 b).2.1 := by decide +kernel
theorem tyX0_ok : ∀ k, k < 10 → parseFieldDescriptor (TX0 k).2.2.1 = some (tyX0 k) := by decide +kernel
abbrev cX0_init : ByteArray := prog_2_method_1_code
def yX0_init : MethodName := ⟨RX0, "<init>", "(LPennantLawn$Race;)V"⟩
abbrev cX0_prepare : ByteArray := prog_2_method_2_code
def yX0_prepare : MethodName := ⟨RX0, "prepare", "()V"⟩
abbrev cX0_prepareWithout : ByteArray := prog_2_method_3_code
def yX0_prepareWithout : MethodName := ⟨RX0, "prepareWithout", "(I)V"⟩
abbrev cX0_prepareActs : ByteArray := prog_2_method_4_code
def yX0_prepareActs : MethodName := ⟨RX0, "prepareActs", "()V"⟩
abbrev cX0_draw : ByteArray := prog_2_method_5_code
def yX0_draw : MethodName := ⟨RX0, "draw", "(II)V"⟩
abbrev cX0_drawKingfishers : ByteArray := prog_2_method_6_code
def yX0_drawKingfishers : MethodName := ⟨RX0, "drawKingfishers", "(I)V"⟩
abbrev cX0_hush : ByteArray := prog_2_method_7_code
def yX0_hush : MethodName := ⟨RX0, "hush", "(I)V"⟩
abbrev cX0_startLooks : ByteArray := prog_2_method_8_code
def yX0_startLooks : MethodName := ⟨RX0, "startLooks", "()V"⟩
abbrev cX0_nextLooks : ByteArray := prog_2_method_9_code
def yX0_nextLooks : MethodName := ⟨RX0, "nextLooks", "()Z"⟩
abbrev cX0_sailToWinner : ByteArray := prog_2_method_10_code
def yX0_sailToWinner : MethodName := ⟨RX0, "sailToWinner", "()I"⟩
abbrev cX0_sail : ByteArray := prog_2_method_11_code
def yX0_sail : MethodName := ⟨RX0, "sail", "(I)V"⟩
abbrev cX0_countEyes : ByteArray := prog_2_method_12_code
def yX0_countEyes : MethodName := ⟨RX0, "countEyes", "(I)V"⟩
abbrev cX0_go : ByteArray := prog_2_method_13_code
def yX0_go : MethodName := ⟨RX0, "go", "(I)V"⟩
abbrev cX0_pace : ByteArray := prog_2_method_14_code
def yX0_pace : MethodName := ⟨RX0, "pace", "(II)I"⟩
abbrev cX0_turn : ByteArray := prog_2_method_15_code
def yX0_turn : MethodName := ⟨RX0, "turn", "(I)V"⟩
abbrev cX0_turned : ByteArray := prog_2_method_16_code
def yX0_turned : MethodName := ⟨RX0, "turned", "(II)I"⟩
abbrev cX0_farthest : ByteArray := prog_2_method_17_code
def yX0_farthest : MethodName := ⟨RX0, "farthest", "(III)I"⟩
abbrev cX0_leastFar : ByteArray := prog_2_method_18_code
def yX0_leastFar : MethodName := ⟨RX0, "leastFar", "(III)I"⟩
abbrev cX0_leader : ByteArray := prog_2_method_19_code
def yX0_leader : MethodName := ⟨RX0, "leader", "(I)I"⟩
abbrev cX0_last : ByteArray := prog_2_method_20_code
def yX0_last : MethodName := ⟨RX0, "last", "(I)I"⟩
abbrev cX0_isHome : ByteArray := prog_2_method_21_code
def yX0_isHome : MethodName := ⟨RX0, "isHome", "(II)Z"⟩
abbrev cX0_homeStep : ByteArray := prog_2_method_22_code
def yX0_homeStep : MethodName := ⟨RX0, "homeStep", "(I)I"⟩
abbrev cX0_winner : ByteArray := prog_2_method_23_code
def yX0_winner : MethodName := ⟨RX0, "winner", "()I"⟩
abbrev cX0_isBecalmed : ByteArray := prog_2_method_24_code
def yX0_isBecalmed : MethodName := ⟨RX0, "isBecalmed", "(II)Z"⟩
abbrev cX0_calmSteps : ByteArray := prog_2_method_25_code
def yX0_calmSteps : MethodName := ⟨RX0, "calmSteps", "(I)I"⟩
abbrev cX0_lookersAt : ByteArray := prog_2_method_26_code
def yX0_lookersAt : MethodName := ⟨RX0, "lookersAt", "(II)I"⟩
abbrev cX0_stepsOn : ByteArray := prog_2_method_27_code
def yX0_stepsOn : MethodName := ⟨RX0, "stepsOn", "(II)I"⟩
abbrev cX0_rank : ByteArray := prog_2_method_28_code
def yX0_rank : MethodName := ⟨RX0, "rank", "(II)I"⟩
def RX1 : String := "PennantLawn$Game"
def TX1 : u_T := fun k => match k with
  | 0 => ("PennantLawn$Game", "race", "LPennantLawn$Race;", true)
  | 1 => ("PennantLawn$Game", "course", "LPennantLawn$Course;", true)
  | 2 => ("PennantLawn$Game", "gets", "[[I", true)
  | 3 => ("PennantLawn$Game", "otherGets", "[[I", true)
  | 4 => ("PennantLawn$Game", "restCount", "I", false)
  | _ => ("PennantLawn$Game", "firstRest", "I", false)
def tyX1 : Nat → FieldType := fun k => match k with
  | 0 => .object "PennantLawn$Race"
  | 1 => .object "PennantLawn$Course"
  | 2 => .array (.array .int)
  | 3 => .array (.array .int)
  | 4 => .int
  | _ => .int
theorem nmX1 : ∀ a, a < 6 → ∀ b, b < 6 → a ≠ b → (TX1 a).2.1 ≠ (TX1 b).2.1 := by decide +kernel
theorem tyX1_ok : ∀ k, k < 6 → parseFieldDescriptor (TX1 k).2.2.1 = some (tyX1 k) := by decide +kernel
abbrev cX1_init : ByteArray := prog_3_method_1_code
def yX1_init : MethodName := ⟨RX1, "<init>", "(LPennantLawn$Race;LPennantLawn$Course;)V"⟩
abbrev cX1_play : ByteArray := prog_3_method_2_code
def yX1_play : MethodName := ⟨RX1, "play", "(II)V"⟩
abbrev cX1_fill : ByteArray := prog_3_method_3_code
def yX1_fill : MethodName := ⟨RX1, "fill", "(II)V"⟩
abbrev cX1_mostAgainst : ByteArray := prog_3_method_4_code
def yX1_mostAgainst : MethodName := ⟨RX1, "mostAgainst", "(II)I"⟩
abbrev cX1_mostBeside : ByteArray := prog_3_method_5_code
def yX1_mostBeside : MethodName := ⟨RX1, "mostBeside", "(II)I"⟩
def RX2 : String := "PennantLawn$Race"
def TX2 : u_T := fun k => match k with
  | 0 => ("PennantLawn$Race", "steps", "I", false)
  | 1 => ("PennantLawn$Race", "law", "I", false)
  | 2 => ("PennantLawn$Race", "goal", "I", false)
  | 3 => ("PennantLawn$Race", "odds", "I", false)
  | 4 => ("PennantLawn$Race", "lines", "I", false)
  | 5 => ("PennantLawn$Race", "boats", "I", false)
  | 6 => ("PennantLawn$Race", "watchers", "I", false)
  | 7 => ("PennantLawn$Race", "shows", "I", false)
  | 8 => ("PennantLawn$Race", "acts", "I", false)
  | 9 => ("PennantLawn$Race", "starts", "[I", true)
  | 10 => ("PennantLawn$Race", "needs", "[I", true)
  | 11 => ("PennantLawn$Race", "eyes", "[I", true)
  | 12 => ("PennantLawn$Race", "firstSeen", "[I", true)
  | 13 => ("PennantLawn$Race", "lastSeen", "[I", true)
  | 14 => ("PennantLawn$Race", "told", "[I", true)
  | 15 => ("PennantLawn$Race", "lures", "[I", true)
  | 16 => ("PennantLawn$Race", "lureSteps", "[I", true)
  | 17 => ("PennantLawn$Race", "actWatchers", "[I", true)
  | 18 => ("PennantLawn$Race", "actBoats", "[I", true)
  | _ => ("PennantLawn$Race", "actSteps", "[I", true)
def tyX2 : Nat → FieldType := fun k => match k with
  | 0 => .int
  | 1 => .int
  | 2 => .int
  | 3 => .int
  | 4 => .int
  | 5 => .int
  | 6 => .int
  | 7 => .int
  | 8 => .int
  | 9 => .array .int
  | 10 => .array .int
  | 11 => .array .int
  | 12 => .array .int
  | 13 => .array .int
  | 14 => .array .int
  | 15 => .array .int
  | 16 => .array .int
  | 17 => .array .int
  | 18 => .array .int
  | _ => .array .int
theorem nmX2 : ∀ a, a < 20 → ∀ b, b < 20 → a ≠ b → (TX2 a).2.1 ≠ (TX2 b).2.1 := by decide +kernel
theorem tyX2_ok : ∀ k, k < 20 → parseFieldDescriptor (TX2 k).2.2.1 = some (tyX2 k) := by decide +kernel
abbrev cX2_init : ByteArray := prog_4_method_1_code
def yX2_init : MethodName := ⟨RX2, "<init>", "()V"⟩
abbrev cX2_wipe : ByteArray := prog_4_method_2_code
def yX2_wipe : MethodName := ⟨RX2, "wipe", "()V"⟩
abbrev cX2_copyFrom : ByteArray := prog_4_method_3_code
def yX2_copyFrom : MethodName := ⟨RX2, "copyFrom", "(LPennantLawn$Race;)V"⟩
abbrev cX2_addBoat : ByteArray := prog_4_method_4_code
def yX2_addBoat : MethodName := ⟨RX2, "addBoat", "(II)V"⟩
abbrev cX2_addWatcher : ByteArray := prog_4_method_5_code
def yX2_addWatcher : MethodName := ⟨RX2, "addWatcher", "(IIII)V"⟩
abbrev cX2_addShow : ByteArray := prog_4_method_6_code
def yX2_addShow : MethodName := ⟨RX2, "addShow", "(II)V"⟩
abbrev cX2_addAct : ByteArray := prog_4_method_7_code
def yX2_addAct : MethodName := ⟨RX2, "addAct", "(III)V"⟩
abbrev cX2_exists : ByteArray := prog_4_method_8_code
def yX2_exists : MethodName := ⟨RX2, "exists", "()Z"⟩
abbrev cX2_hasBoat : ByteArray := prog_4_method_9_code
def yX2_hasBoat : MethodName := ⟨RX2, "hasBoat", "(J)Z"⟩
abbrev cX2_hasWatcher : ByteArray := prog_4_method_10_code
def yX2_hasWatcher : MethodName := ⟨RX2, "hasWatcher", "(I)Z"⟩
abbrev cX2_hasShow : ByteArray := prog_4_method_11_code
def yX2_hasShow : MethodName := ⟨RX2, "hasShow", "(I)Z"⟩
abbrev cX2_hasStep : ByteArray := prog_4_method_12_code
def yX2_hasStep : MethodName := ⟨RX2, "hasStep", "(J)Z"⟩
abbrev cX2_hasEarlyStep : ByteArray := prog_4_method_13_code
def yX2_hasEarlyStep : MethodName := ⟨RX2, "hasEarlyStep", "(I)Z"⟩
abbrev cX2_sees : ByteArray := prog_4_method_14_code
def yX2_sees : MethodName := ⟨RX2, "sees", "(II)Z"⟩
def RX3 : String := "PennantLawn$Reader"
def TX3 : u_T := fun k => match k with
  | 0 => ("PennantLawn$Reader", "tape", "LPennantLawn$Tape;", true)
  | 1 => ("PennantLawn$Reader", "draft", "LPennantLawn$Race;", true)
  | 2 => ("PennantLawn$Reader", "fault", "I", false)
  | 3 => ("PennantLawn$Reader", "faultPlace", "I", false)
  | 4 => ("PennantLawn$Reader", "at", "I", false)
  | 5 => ("PennantLawn$Reader", "kind", "I", false)
  | 6 => ("PennantLawn$Reader", "tokenPlace", "I", false)
  | _ => ("PennantLawn$Reader", "value", "I", false)
def tyX3 : Nat → FieldType := fun k => match k with
  | 0 => .object "PennantLawn$Tape"
  | 1 => .object "PennantLawn$Race"
  | 2 => .int
  | 3 => .int
  | 4 => .int
  | 5 => .int
  | 6 => .int
  | _ => .int
theorem nmX3 : ∀ a, a < 8 → ∀ b, b < 8 → a ≠ b → (TX3 a).2.1 ≠ (TX3 b).2.1 := by decide +kernel
theorem tyX3_ok : ∀ k, k < 8 → parseFieldDescriptor (TX3 k).2.2.1 = some (tyX3 k) := by decide +kernel
abbrev cX3_init : ByteArray := prog_5_method_1_code
def yX3_init : MethodName := ⟨RX3, "<init>", "(LPennantLawn$Tape;)V"⟩
abbrev cX3_readTape : ByteArray := prog_5_method_2_code
def yX3_readTape : MethodName := ⟨RX3, "readTape", "()Z"⟩
abbrev cX3_readLine : ByteArray := prog_5_method_3_code
def yX3_readLine : MethodName := ⟨RX3, "readLine", "()V"⟩
abbrev cX3_readRaceLine : ByteArray := prog_5_method_4_code
def yX3_readRaceLine : MethodName := ⟨RX3, "readRaceLine", "()V"⟩
abbrev cX3_readBoatLine : ByteArray := prog_5_method_5_code
def yX3_readBoatLine : MethodName := ⟨RX3, "readBoatLine", "()V"⟩
abbrev cX3_readWatcherLine : ByteArray := prog_5_method_6_code
def yX3_readWatcherLine : MethodName := ⟨RX3, "readWatcherLine", "()V"⟩
abbrev cX3_readShowLine : ByteArray := prog_5_method_7_code
def yX3_readShowLine : MethodName := ⟨RX3, "readShowLine", "()V"⟩
abbrev cX3_takeKind : ByteArray := prog_5_method_8_code
def yX3_takeKind : MethodName := ⟨RX3, "takeKind", "(I)V"⟩
abbrev cX3_takeWord : ByteArray := prog_5_method_9_code
def yX3_takeWord : MethodName := ⟨RX3, "takeWord", "(Ljava/lang/String;)V"⟩
abbrev cX3_takeNumber : ByteArray := prog_5_method_10_code
def yX3_takeNumber : MethodName := ⟨RX3, "takeNumber", "(II)I"⟩
abbrev cX3_fail : ByteArray := prog_5_method_11_code
def yX3_fail : MethodName := ⟨RX3, "fail", "(I)V"⟩
abbrev cX3_isAtWord : ByteArray := prog_5_method_12_code
def yX3_isAtWord : MethodName := ⟨RX3, "isAtWord", "(Ljava/lang/String;)Z"⟩
abbrev cX3_takeToken : ByteArray := prog_5_method_13_code
def yX3_takeToken : MethodName := ⟨RX3, "takeToken", "()V"⟩
abbrev cX3_passWord : ByteArray := prog_5_method_14_code
def yX3_passWord : MethodName := ⟨RX3, "passWord", "()V"⟩
abbrev cX3_passNumber : ByteArray := prog_5_method_15_code
def yX3_passNumber : MethodName := ⟨RX3, "passNumber", "()V"⟩
abbrev cX3_isBlank : ByteArray := prog_5_method_16_code
def yX3_isBlank : MethodName := ⟨RX3, "isBlank", "(I)Z"⟩
abbrev cX3_isLetter : ByteArray := prog_5_method_17_code
def yX3_isLetter : MethodName := ⟨RX3, "isLetter", "(I)Z"⟩
abbrev cX3_isDigit : ByteArray := prog_5_method_18_code
def yX3_isDigit : MethodName := ⟨RX3, "isDigit", "(I)Z"⟩
def RX4 : String := "PennantLawn$Row"
def TX4 : u_T := fun k => match k with
  | 0 => ("PennantLawn$Row", "numbers", "[J", true)
  | 1 => ("PennantLawn$Row", "kept", "Z", false)
  | 2 => ("PennantLawn$Row", "width", "I", false)
  | _ => ("PennantLawn$Row", "size", "I", false)
def tyX4 : Nat → FieldType := fun k => match k with
  | 0 => .array .long
  | 1 => .boolean
  | 2 => .int
  | _ => .int
theorem nmX4 : ∀ a, a < 4 → ∀ b, b < 4 → a ≠ b → (TX4 a).2.1 ≠ (TX4 b).2.1 := by decide +kernel
theorem tyX4_ok : ∀ k, k < 4 → parseFieldDescriptor (TX4 k).2.2.1 = some (tyX4 k) := by decide +kernel
abbrev cX4_init : ByteArray := prog_6_method_1_code
def yX4_init : MethodName := ⟨RX4, "<init>", "()V"⟩
abbrev cX4_lay : ByteArray := prog_6_method_2_code
def yX4_lay : MethodName := ⟨RX4, "lay", "(II)V"⟩
abbrev cX4_put : ByteArray := prog_6_method_3_code
def yX4_put : MethodName := ⟨RX4, "put", "(IJ)V"⟩
abbrev cX4_hasSpan : ByteArray := prog_6_method_4_code
def yX4_hasSpan : MethodName := ⟨RX4, "hasSpan", "(II)Z"⟩
abbrev cX4_tellsPlaces : ByteArray := prog_6_method_5_code
def yX4_tellsPlaces : MethodName := ⟨RX4, "tellsPlaces", "(LPennantLawn$Race;)Z"⟩
abbrev cX4_lastStepTold : ByteArray := prog_6_method_6_code
def yX4_lastStepTold : MethodName := ⟨RX4, "lastStepTold", "(LPennantLawn$Race;)I"⟩
abbrev cX4_agreesWith : ByteArray := prog_6_method_7_code
def yX4_agreesWith : MethodName := ⟨RX4, "agreesWith", "(LPennantLawn$Course;)Z"⟩
def RX5 : String := "PennantLawn$Seen"
def TX5 : u_T := fun k => match k with
  | 0 => ("PennantLawn$Seen", "race", "LPennantLawn$Race;", true)
  | 1 => ("PennantLawn$Seen", "course", "LPennantLawn$Course;", true)
  | 2 => ("PennantLawn$Seen", "slot", "I", false)
  | 3 => ("PennantLawn$Seen", "total", "I", false)
  | _ => ("PennantLawn$Seen", "tallies", "[[I", true)
def tyX5 : Nat → FieldType := fun k => match k with
  | 0 => .object "PennantLawn$Race"
  | 1 => .object "PennantLawn$Course"
  | 2 => .int
  | 3 => .int
  | _ => .array (.array .int)
theorem nmX5 : ∀ a, a < 5 → ∀ b, b < 5 → a ≠ b → (TX5 a).2.1 ≠ (TX5 b).2.1 := by decide +kernel
theorem tyX5_ok : ∀ k, k < 5 → parseFieldDescriptor (TX5 k).2.2.1 = some (tyX5 k) := by decide +kernel
abbrev cX5_init : ByteArray := prog_7_method_1_code
def yX5_init : MethodName := ⟨RX5, "<init>", "(LPennantLawn$Race;LPennantLawn$Course;)V"⟩
abbrev cX5_makeIfStale : ByteArray := prog_7_method_2_code
def yX5_makeIfStale : MethodName := ⟨RX5, "makeIfStale", "(ILPennantLawn$Row;)V"⟩
abbrev cX5_forget : ByteArray := prog_7_method_3_code
def yX5_forget : MethodName := ⟨RX5, "forget", "()V"⟩
abbrev cX5_tally : ByteArray := prog_7_method_4_code
def yX5_tally : MethodName := ⟨RX5, "tally", "()V"⟩
abbrev cX5_boatsOf : ByteArray := prog_7_method_5_code
def yX5_boatsOf : MethodName := ⟨RX5, "boatsOf", "(I)I"⟩
abbrev cX5_worstOf : ByteArray := prog_7_method_6_code
def yX5_worstOf : MethodName := ⟨RX5, "worstOf", "(I)I"⟩
abbrev cX5_bestAsked : ByteArray := prog_7_method_7_code
def yX5_bestAsked : MethodName := ⟨RX5, "bestAsked", "()I"⟩
def RX6 : String := "PennantLawn$Shares"
def TX6 : u_T := fun k => match k with
  | 0 => ("PennantLawn$Shares", "race", "LPennantLawn$Race;", true)
  | 1 => ("PennantLawn$Shares", "course", "LPennantLawn$Course;", true)
  | _ => ("PennantLawn$Shares", "worth", "[I", true)
def tyX6 : Nat → FieldType := fun k => match k with
  | 0 => .object "PennantLawn$Race"
  | 1 => .object "PennantLawn$Course"
  | _ => .array .int
theorem nmX6 : ∀ a, a < 3 → ∀ b, b < 3 → a ≠ b → (TX6 a).2.1 ≠ (TX6 b).2.1 := by decide +kernel
theorem tyX6_ok : ∀ k, k < 3 → parseFieldDescriptor (TX6 k).2.2.1 = some (tyX6 k) := by decide +kernel
abbrev cX6_init : ByteArray := prog_8_method_1_code
def yX6_init : MethodName := ⟨RX6, "<init>", "(LPennantLawn$Race;LPennantLawn$Course;)V"⟩
abbrev cX6_makeFor : ByteArray := prog_8_method_2_code
def yX6_makeFor : MethodName := ⟨RX6, "makeFor", "(I)V"⟩
abbrev cX6_sumOf : ByteArray := prog_8_method_3_code
def yX6_sumOf : MethodName := ⟨RX6, "sumOf", "(I)I"⟩
def RX7 : String := "PennantLawn$Survey"
def TX7 : u_T := fun k => match k with
  | 0 => ("PennantLawn$Survey", "race", "LPennantLawn$Race;", true)
  | 1 => ("PennantLawn$Survey", "course", "LPennantLawn$Course;", true)
  | 2 => ("PennantLawn$Survey", "stale", "Z", false)
  | 3 => ("PennantLawn$Survey", "wayCounts", "[I", true)
  | 4 => ("PennantLawn$Survey", "fewestOthers", "[I", true)
  | 5 => ("PennantLawn$Survey", "soonestHomes", "[I", true)
  | 6 => ("PennantLawn$Survey", "farthest", "[I", true)
  | _ => ("PennantLawn$Survey", "plans", "[[I", true)
def tyX7 : Nat → FieldType := fun k => match k with
  | 0 => .object "PennantLawn$Race"
  | 1 => .object "PennantLawn$Course"
  | 2 => .boolean
  | 3 => .array .int
  | 4 => .array .int
  | 5 => .array .int
  | 6 => .array .int
  | _ => .array (.array .int)
theorem nmX7 : ∀ a, a < 8 → ∀ b, b < 8 → a ≠ b → (TX7 a).2.1 ≠ (TX7 b).2.1 := by decide +kernel
theorem tyX7_ok : ∀ k, k < 8 → parseFieldDescriptor (TX7 k).2.2.1 = some (tyX7 k) := by decide +kernel
abbrev cX7_init : ByteArray := prog_9_method_1_code
def yX7_init : MethodName := ⟨RX7, "<init>", "(LPennantLawn$Race;LPennantLawn$Course;)V"⟩
abbrev cX7_makeIfStale : ByteArray := prog_9_method_2_code
def yX7_makeIfStale : MethodName := ⟨RX7, "makeIfStale", "()V"⟩
abbrev cX7_forget : ByteArray := prog_9_method_3_code
def yX7_forget : MethodName := ⟨RX7, "forget", "()V"⟩
abbrev cX7_noteWinner : ByteArray := prog_9_method_4_code
def yX7_noteWinner : MethodName := ⟨RX7, "noteWinner", "(I)V"⟩
abbrev cX7_othersThanTold : ByteArray := prog_9_method_5_code
def yX7_othersThanTold : MethodName := ⟨RX7, "othersThanTold", "()I"⟩
abbrev cX7_noteHomes : ByteArray := prog_9_method_6_code
def yX7_noteHomes : MethodName := ⟨RX7, "noteHomes", "()V"⟩
def RX8 : String := "PennantLawn$Tape"
def TX8 : u_T := fun k => match k with
  | 0 => ("PennantLawn$Tape", "bytes", "[I", true)
  | _ => ("PennantLawn$Tape", "length", "I", false)
def tyX8 : Nat → FieldType := fun k => match k with
  | 0 => .array .int
  | _ => .int
theorem nmX8 : ∀ a, a < 2 → ∀ b, b < 2 → a ≠ b → (TX8 a).2.1 ≠ (TX8 b).2.1 := by decide +kernel
theorem tyX8_ok : ∀ k, k < 2 → parseFieldDescriptor (TX8 k).2.2.1 = some (tyX8 k) := by decide +kernel
abbrev cX8_init : ByteArray := prog_10_method_1_code
def yX8_init : MethodName := ⟨RX8, "<init>", "()V"⟩
abbrev cX8_put : ByteArray := prog_10_method_2_code
def yX8_put : MethodName := ⟨RX8, "put", "(I)V"⟩
def RX9 : String := "PennantLawn"
def TX9 : u_T := fun k => match k with
  | 0 => ("PennantLawn", "tape", "LPennantLawn$Tape;", true)
  | 1 => ("PennantLawn", "reader", "LPennantLawn$Reader;", true)
  | 2 => ("PennantLawn", "race", "LPennantLawn$Race;", true)
  | 3 => ("PennantLawn", "images", "[LPennantLawn$Race;", true)
  | 4 => ("PennantLawn", "imagesKept", "[Z", true)
  | 5 => ("PennantLawn", "now", "LPennantLawn$Course;", true)
  | 6 => ("PennantLawn", "trial", "LPennantLawn$Course;", true)
  | 7 => ("PennantLawn", "survey", "LPennantLawn$Survey;", true)
  | 8 => ("PennantLawn", "seen", "LPennantLawn$Seen;", true)
  | 9 => ("PennantLawn", "shares", "LPennantLawn$Shares;", true)
  | 10 => ("PennantLawn", "game", "LPennantLawn$Game;", true)
  | _ => ("PennantLawn", "rows", "[LPennantLawn$Row;", true)
def tyX9 : Nat → FieldType := fun k => match k with
  | 0 => .object "PennantLawn$Tape"
  | 1 => .object "PennantLawn$Reader"
  | 2 => .object "PennantLawn$Race"
  | 3 => .array (.object "PennantLawn$Race")
  | 4 => .array .boolean
  | 5 => .object "PennantLawn$Course"
  | 6 => .object "PennantLawn$Course"
  | 7 => .object "PennantLawn$Survey"
  | 8 => .object "PennantLawn$Seen"
  | 9 => .object "PennantLawn$Shares"
  | 10 => .object "PennantLawn$Game"
  | _ => .array (.object "PennantLawn$Row")
theorem nmX9 : ∀ a, a < 12 → ∀ b, b < 12 → a ≠ b → (TX9 a).2.1 ≠ (TX9 b).2.1 := by decide +kernel
theorem tyX9_ok : ∀ k, k < 12 → parseFieldDescriptor (TX9 k).2.2.1 = some (tyX9 k) := by decide +kernel
abbrev cX9_init : ByteArray := prog_1_method_1_code
def yX9_init : MethodName := ⟨RX9, "<init>", "()V"⟩
abbrev cX9_feed : ByteArray := prog_1_method_2_code
def yX9_feed : MethodName := ⟨RX9, "feed", "(IIIII)I"⟩
abbrev cX9_end : ByteArray := prog_1_method_3_code
def yX9_end : MethodName := ⟨RX9, "end", "(I)I"⟩
abbrev cX9_race : ByteArray := prog_1_method_4_code
def yX9_race : MethodName := ⟨RX9, "race", "()I"⟩
abbrev cX9_fault : ByteArray := prog_1_method_5_code
def yX9_fault : MethodName := ⟨RX9, "fault", "(I)I"⟩
abbrev cX9_boat : ByteArray := prog_1_method_6_code
def yX9_boat : MethodName := ⟨RX9, "boat", "(II)I"⟩
abbrev cX9_watcher : ByteArray := prog_1_method_7_code
def yX9_watcher : MethodName := ⟨RX9, "watcher", "(II)I"⟩
abbrev cX9_show : ByteArray := prog_1_method_8_code
def yX9_show : MethodName := ⟨RX9, "show", "(II)I"⟩
abbrev cX9_place : ByteArray := prog_1_method_9_code
def yX9_place : MethodName := ⟨RX9, "place", "(II)I"⟩
abbrev cX9_on : ByteArray := prog_1_method_10_code
def yX9_on : MethodName := ⟨RX9, "on", "(II)I"⟩
abbrev cX9_eyes : ByteArray := prog_1_method_11_code
def yX9_eyes : MethodName := ⟨RX9, "eyes", "(II)I"⟩
abbrev cX9_awake : ByteArray := prog_1_method_12_code
def yX9_awake : MethodName := ⟨RX9, "awake", "(I)I"⟩
abbrev cX9_lookers : ByteArray := prog_1_method_13_code
def yX9_lookers : MethodName := ⟨RX9, "lookers", "(II)I"⟩
abbrev cX9_leads : ByteArray := prog_1_method_14_code
def yX9_leads : MethodName := ⟨RX9, "leads", "(I)I"⟩
abbrev cX9_lags : ByteArray := prog_1_method_15_code
def yX9_lags : MethodName := ⟨RX9, "lags", "(I)I"⟩
abbrev cX9_front : ByteArray := prog_1_method_16_code
def yX9_front : MethodName := ⟨RX9, "front", "(I)I"⟩
abbrev cX9_behind : ByteArray := prog_1_method_17_code
def yX9_behind : MethodName := ⟨RX9, "behind", "(II)I"⟩
abbrev cX9_calm : ByteArray := prog_1_method_18_code
def yX9_calm : MethodName := ⟨RX9, "calm", "(I)I"⟩
abbrev cX9_drops : ByteArray := prog_1_method_19_code
def yX9_drops : MethodName := ⟨RX9, "drops", "()I"⟩
abbrev cX9_home : ByteArray := prog_1_method_20_code
def yX9_home : MethodName := ⟨RX9, "home", "(I)I"⟩
abbrev cX9_wins : ByteArray := prog_1_method_21_code
def yX9_wins : MethodName := ⟨RX9, "wins", "()I"⟩
abbrev cX9_gap : ByteArray := prog_1_method_22_code
def yX9_gap : MethodName := ⟨RX9, "gap", "(III)I"⟩
abbrev cX9_changes : ByteArray := prog_1_method_23_code
def yX9_changes : MethodName := ⟨RX9, "changes", "()I"⟩
abbrev cX9_wavers : ByteArray := prog_1_method_24_code
def yX9_wavers : MethodName := ⟨RX9, "wavers", "(I)I"⟩
abbrev cX9_speed : ByteArray := prog_1_method_25_code
def yX9_speed : MethodName := ⟨RX9, "speed", "(II)I"⟩
abbrev cX9_lacks : ByteArray := prog_1_method_26_code
def yX9_lacks : MethodName := ⟨RX9, "lacks", "(II)I"⟩
abbrev cX9_total : ByteArray := prog_1_method_27_code
def yX9_total : MethodName := ⟨RX9, "total", "(I)I"⟩
abbrev cX9_fleet : ByteArray := prog_1_method_28_code
def yX9_fleet : MethodName := ⟨RX9, "fleet", "(I)I"⟩
abbrev cX9_gaze : ByteArray := prog_1_method_29_code
def yX9_gaze : MethodName := ⟨RX9, "gaze", "(I)I"⟩
abbrev cX9_faithful : ByteArray := prog_1_method_30_code
def yX9_faithful : MethodName := ⟨RX9, "faithful", "()I"⟩
abbrev cX9_unseen : ByteArray := prog_1_method_31_code
def yX9_unseen : MethodName := ⟨RX9, "unseen", "(I)I"⟩
abbrev cX9_seers : ByteArray := prog_1_method_32_code
def yX9_seers : MethodName := ⟨RX9, "seers", "(I)I"⟩
abbrev cX9_order : ByteArray := prog_1_method_33_code
def yX9_order : MethodName := ⟨RX9, "order", "(II)I"⟩
abbrev cX9_even : ByteArray := prog_1_method_34_code
def yX9_even : MethodName := ⟨RX9, "even", "(II)I"⟩
abbrev cX9_passes : ByteArray := prog_1_method_35_code
def yX9_passes : MethodName := ⟨RX9, "passes", "(II)I"⟩
abbrev cX9_arrived : ByteArray := prog_1_method_36_code
def yX9_arrived : MethodName := ⟨RX9, "arrived", "(I)I"⟩
abbrev cX9_calmest : ByteArray := prog_1_method_37_code
def yX9_calmest : MethodName := ⟨RX9, "calmest", "()I"⟩
abbrev cX9_clear : ByteArray := prog_1_method_38_code
def yX9_clear : MethodName := ⟨RX9, "clear", "(I)I"⟩
abbrev cX9_key : ByteArray := prog_1_method_39_code
def yX9_key : MethodName := ⟨RX9, "key", "()I"⟩
abbrev cX9_handicap : ByteArray := prog_1_method_40_code
def yX9_handicap : MethodName := ⟨RX9, "handicap", "(I)I"⟩
abbrev cX9_start : ByteArray := prog_1_method_41_code
def yX9_start : MethodName := ⟨RX9, "start", "(I)I"⟩
abbrev cX9_by : ByteArray := prog_1_method_42_code
def yX9_by : MethodName := ⟨RX9, "by", "(I)I"⟩
abbrev cX9_ways : ByteArray := prog_1_method_43_code
def yX9_ways : MethodName := ⟨RX9, "ways", "(I)I"⟩
abbrev cX9_plan : ByteArray := prog_1_method_44_code
def yX9_plan : MethodName := ⟨RX9, "plan", "(II)I"⟩
abbrev cX9_fewest : ByteArray := prog_1_method_45_code
def yX9_fewest : MethodName := ⟨RX9, "fewest", "(I)I"⟩
abbrev cX9_soonest : ByteArray := prog_1_method_46_code
def yX9_soonest : MethodName := ⟨RX9, "soonest", "(I)I"⟩
abbrev cX9_far : ByteArray := prog_1_method_47_code
def yX9_far : MethodName := ⟨RX9, "far", "(I)I"⟩
abbrev cX9_can : ByteArray := prog_1_method_48_code
def yX9_can : MethodName := ⟨RX9, "can", "()I"⟩
abbrev cX9_spoils : ByteArray := prog_1_method_49_code
def yX9_spoils : MethodName := ⟨RX9, "spoils", "()I"⟩
abbrev cX9_lure : ByteArray := prog_1_method_50_code
def yX9_lure : MethodName := ⟨RX9, "lure", "(I)I"⟩
abbrev cX9_winnerWithShow : ByteArray := prog_1_method_51_code
def yX9_winnerWithShow : MethodName := ⟨RX9, "winnerWithShow", "(II)I"⟩
abbrev cX9_cover : ByteArray := prog_1_method_52_code
def yX9_cover : MethodName := ⟨RX9, "cover", "()I"⟩
abbrev cX9_covers : ByteArray := prog_1_method_53_code
def yX9_covers : MethodName := ⟨RX9, "covers", "()I"⟩
abbrev cX9_leastCover : ByteArray := prog_1_method_54_code
def yX9_leastCover : MethodName := ⟨RX9, "leastCover", "()I"⟩
abbrev cX9_seenBy : ByteArray := prog_1_method_55_code
def yX9_seenBy : MethodName := ⟨RX9, "seenBy", "(I)I"⟩
abbrev cX9_fits : ByteArray := prog_1_method_56_code
def yX9_fits : MethodName := ⟨RX9, "fits", "(I)I"⟩
abbrev cX9_may : ByteArray := prog_1_method_57_code
def yX9_may : MethodName := ⟨RX9, "may", "(II)I"⟩
abbrev cX9_ask : ByteArray := prog_1_method_58_code
def yX9_ask : MethodName := ⟨RX9, "ask", "(I)I"⟩
abbrev cX9_leaves : ByteArray := prog_1_method_59_code
def yX9_leaves : MethodName := ⟨RX9, "leaves", "(I)I"⟩
abbrev cX9_laws : ByteArray := prog_1_method_60_code
def yX9_laws : MethodName := ⟨RX9, "laws", "(I)I"⟩
abbrev cX9_wrongSeen : ByteArray := prog_1_method_61_code
def yX9_wrongSeen : MethodName := ⟨RX9, "wrongSeen", "(I)I"⟩
abbrev cX9_share : ByteArray := prog_1_method_62_code
def yX9_share : MethodName := ⟨RX9, "share", "(III)I"⟩
abbrev cX9_rests : ByteArray := prog_1_method_63_code
def yX9_rests : MethodName := ⟨RX9, "rests", "(II)I"⟩
abbrev cX9_rest : ByteArray := prog_1_method_64_code
def yX9_rest : MethodName := ⟨RX9, "rest", "(II)I"⟩
abbrev cX9_areTwoWatchers : ByteArray := prog_1_method_65_code
def yX9_areTwoWatchers : MethodName := ⟨RX9, "areTwoWatchers", "(II)Z"⟩
abbrev cX9_chance : ByteArray := prog_1_method_66_code
def yX9_chance : MethodName := ⟨RX9, "chance", "(III)J"⟩
abbrev cX9_mean : ByteArray := prog_1_method_67_code
def yX9_mean : MethodName := ⟨RX9, "mean", "(III)J"⟩
abbrev cX9_sailWithKingfishers : ByteArray := prog_1_method_68_code
def yX9_sailWithKingfishers : MethodName := ⟨RX9, "sailWithKingfishers", "(II)J"⟩
abbrev cX9_isChanceStep : ByteArray := prog_1_method_69_code
def yX9_isChanceStep : MethodName := ⟨RX9, "isChanceStep", "(I)Z"⟩
abbrev cX9_tenTo : ByteArray := prog_1_method_70_code
def yX9_tenTo : MethodName := ⟨RX9, "tenTo", "(I)J"⟩
abbrev cX9_lowestTerms : ByteArray := prog_1_method_71_code
def yX9_lowestTerms : MethodName := ⟨RX9, "lowestTerms", "(JJI)J"⟩
abbrev cX9_commonDivisor : ByteArray := prog_1_method_72_code
def yX9_commonDivisor : MethodName := ⟨RX9, "commonDivisor", "(JJ)J"⟩
abbrev cX9_look : ByteArray := prog_1_method_73_code
def yX9_look : MethodName := ⟨RX9, "look", "(III)I"⟩
abbrev cX9_sneeze : ByteArray := prog_1_method_74_code
def yX9_sneeze : MethodName := ⟨RX9, "sneeze", "(II)I"⟩
abbrev cX9_undo : ByteArray := prog_1_method_75_code
def yX9_undo : MethodName := ⟨RX9, "undo", "()I"⟩
abbrev cX9_anew : ByteArray := prog_1_method_76_code
def yX9_anew : MethodName := ⟨RX9, "anew", "()I"⟩
abbrev cX9_drawn : ByteArray := prog_1_method_77_code
def yX9_drawn : MethodName := ⟨RX9, "drawn", "(II)I"⟩
abbrev cX9_luck : ByteArray := prog_1_method_78_code
def yX9_luck : MethodName := ⟨RX9, "luck", "(III)I"⟩
abbrev cX9_drawnKingfishers : ByteArray := prog_1_method_79_code
def yX9_drawnKingfishers : MethodName := ⟨RX9, "drawnKingfishers", "(I)I"⟩
abbrev cX9_drawnWinner : ByteArray := prog_1_method_80_code
def yX9_drawnWinner : MethodName := ⟨RX9, "drawnWinner", "(I)I"⟩
abbrev cX9_isSeed : ByteArray := prog_1_method_81_code
def yX9_isSeed : MethodName := ⟨RX9, "isSeed", "(I)Z"⟩
abbrev cX9_rate : ByteArray := prog_1_method_82_code
def yX9_rate : MethodName := ⟨RX9, "rate", "(II)I"⟩
abbrev cX9_count : ByteArray := prog_1_method_83_code
def yX9_count : MethodName := ⟨RX9, "count", "(I)I"⟩
abbrev cX9_rowsKept : ByteArray := prog_1_method_84_code
def yX9_rowsKept : MethodName := ⟨RX9, "rowsKept", "()I"⟩
abbrev cX9_image : ByteArray := prog_1_method_85_code
def yX9_image : MethodName := ⟨RX9, "image", "(I)I"⟩
abbrev cX9_back : ByteArray := prog_1_method_86_code
def yX9_back : MethodName := ⟨RX9, "back", "(I)I"⟩
abbrev cX9_row : ByteArray := prog_1_method_87_code
def yX9_row : MethodName := ⟨RX9, "row", "(III)I"⟩
abbrev cX9_write : ByteArray := prog_1_method_88_code
def yX9_write : MethodName := ⟨RX9, "write", "(IIJ)I"⟩
abbrev cX9_paste : ByteArray := prog_1_method_89_code
def yX9_paste : MethodName := ⟨RX9, "paste", "(IIIII)I"⟩
abbrev cX9_isSlot : ByteArray := prog_1_method_90_code
def yX9_isSlot : MethodName := ⟨RX9, "isSlot", "(I)Z"⟩
abbrev cX9_isPart : ByteArray := prog_1_method_91_code
def yX9_isPart : MethodName := ⟨RX9, "isPart", "(I)Z"⟩
abbrev cX9_sailAgain : ByteArray := prog_1_method_92_code
def yX9_sailAgain : MethodName := ⟨RX9, "sailAgain", "()V"⟩
def RX10 : String := "PennantLawnModel"
def TX10 : u_T := fun k => match k with
  | 0 => ("PennantLawnModel", "thrown", "I", false)
  | 1 => ("PennantLawnModel", "world", "[I", true)
  | 2 => ("PennantLawnModel", "images", "[I", true)
  | 3 => ("PennantLawnModel", "hasImage", "[Z", true)
  | 4 => ("PennantLawnModel", "tape", "[B", true)
  | 5 => ("PennantLawnModel", "taped", "I", false)
  | 6 => ("PennantLawnModel", "five", "[I", true)
  | 7 => ("PennantLawnModel", "size", "I", false)
  | 8 => ("PennantLawnModel", "at", "I", false)
  | 9 => ("PennantLawnModel", "from", "I", false)
  | 10 => ("PennantLawnModel", "token", "I", false)
  | 11 => ("PennantLawnModel", "value", "I", false)
  | 12 => ("PennantLawnModel", "faultKind", "I", false)
  | 13 => ("PennantLawnModel", "faultPlace", "I", false)
  | 14 => ("PennantLawnModel", "fresh", "[I", true)
  | 15 => ("PennantLawnModel", "startOf", "[I", true)
  | 16 => ("PennantLawnModel", "needsOf", "[I", true)
  | 17 => ("PennantLawnModel", "firstOn", "[I", true)
  | 18 => ("PennantLawnModel", "lureAt", "[I", true)
  | 19 => ("PennantLawnModel", "lawNow", "I", false)
  | 20 => ("PennantLawnModel", "asleep", "I", false)
  | 21 => ("PennantLawnModel", "placeAt", "[I", true)
  | 22 => ("PennantLawnModel", "onAt", "[I", true)
  | 23 => ("PennantLawnModel", "eyesAt", "[I", true)
  | 24 => ("PennantLawnModel", "awakeAt", "[I", true)
  | 25 => ("PennantLawnModel", "ownOn", "I", false)
  | 26 => ("PennantLawnModel", "ownAwake", "I", false)
  | 27 => ("PennantLawnModel", "planRow", "[I", true)
  | 28 => ("PennantLawnModel", "waysMany", "I", false)
  | 29 => ("PennantLawnModel", "fewestOther", "I", false)
  | 30 => ("PennantLawnModel", "soonestStep", "I", false)
  | 31 => ("PennantLawnModel", "farMost", "I", false)
  | 32 => ("PennantLawnModel", "canSet", "I", false)
  | 33 => ("PennantLawnModel", "fitRows", "[B", true)
  | 34 => ("PennantLawnModel", "fitMany", "I", false)
  | 35 => ("PennantLawnModel", "askWorst", "I", false)
  | 36 => ("PennantLawnModel", "worthOf", "[I", true)
  | 37 => ("PennantLawnModel", "getsOf", "[I", true)
  | 38 => ("PennantLawnModel", "restMany", "I", false)
  | 39 => ("PennantLawnModel", "restFirst", "I", false)
  | 40 => ("PennantLawnModel", "oftenAll", "J", false)
  | 41 => ("PennantLawnModel", "oftenLeads", "J", false)
  | 42 => ("PennantLawnModel", "oftenPlace", "J", false)
  | 43 => ("PennantLawnModel", "many", "[I", true)
  | 44 => ("PennantLawnModel", "width", "[I", true)
  | 45 => ("PennantLawnModel", "numbers", "[J", true)
  | _ => ("PennantLawnModel", "moving", "[J", true)
def tyX10 : Nat → FieldType := fun k => match k with
  | 0 => .int
  | 1 => .array .int
  | 2 => .array .int
  | 3 => .array .boolean
  | 4 => .array .byte
  | 5 => .int
  | 6 => .array .int
  | 7 => .int
  | 8 => .int
  | 9 => .int
  | 10 => .int
  | 11 => .int
  | 12 => .int
  | 13 => .int
  | 14 => .array .int
  | 15 => .array .int
  | 16 => .array .int
  | 17 => .array .int
  | 18 => .array .int
  | 19 => .int
  | 20 => .int
  | 21 => .array .int
  | 22 => .array .int
  | 23 => .array .int
  | 24 => .array .int
  | 25 => .int
  | 26 => .int
  | 27 => .array .int
  | 28 => .int
  | 29 => .int
  | 30 => .int
  | 31 => .int
  | 32 => .int
  | 33 => .array .byte
  | 34 => .int
  | 35 => .int
  | 36 => .array .int
  | 37 => .array .int
  | 38 => .int
  | 39 => .int
  | 40 => .long
  | 41 => .long
  | 42 => .long
  | 43 => .array .int
  | 44 => .array .int
  | 45 => .array .long
  | _ => .array .long
theorem nmX10 : ∀ a, a < 47 → ∀ b, b < 47 → a ≠ b → (TX10 a).2.1 ≠ (TX10 b).2.1 := by decide +kernel
theorem tyX10_ok : ∀ k, k < 47 → parseFieldDescriptor (TX10 k).2.2.1 = some (tyX10 k) := by decide +kernel
abbrev cX10_init : ByteArray := prog_12_method_1_code
def yX10_init : MethodName := ⟨RX10, "<init>", "()V"⟩
abbrev cX10_in : ByteArray := prog_12_method_3_code
def yX10_in : MethodName := ⟨RX10, "in", "(JJJ)Z"⟩
abbrev cX10_bits : ByteArray := prog_12_method_4_code
def yX10_bits : MethodName := ⟨RX10, "bits", "(I)I"⟩
abbrev cX10_bit : ByteArray := prog_12_method_5_code
def yX10_bit : MethodName := ⟨RX10, "bit", "(II)I"⟩
abbrev cX10_image : ByteArray := prog_12_method_6_code
def yX10_image : MethodName := ⟨RX10, "image", "(I)I"⟩
abbrev cX10_back : ByteArray := prog_12_method_7_code
def yX10_back : MethodName := ⟨RX10, "back", "(I)I"⟩
abbrev cX10_isRace : ByteArray := prog_12_method_8_code
def yX10_isRace : MethodName := ⟨RX10, "isRace", "()Z"⟩
abbrev cX10_last : ByteArray := prog_12_method_9_code
def yX10_last : MethodName := ⟨RX10, "last", "()I"⟩
abbrev cX10_isStep : ByteArray := prog_12_method_10_code
def yX10_isStep : MethodName := ⟨RX10, "isStep", "(J)Z"⟩
abbrev cX10_isAhead : ByteArray := prog_12_method_11_code
def yX10_isAhead : MethodName := ⟨RX10, "isAhead", "(I)Z"⟩
abbrev cX10_isBoat : ByteArray := prog_12_method_12_code
def yX10_isBoat : MethodName := ⟨RX10, "isBoat", "(J)Z"⟩
abbrev cX10_isWatcher : ByteArray := prog_12_method_13_code
def yX10_isWatcher : MethodName := ⟨RX10, "isWatcher", "(I)Z"⟩
abbrev cX10_isLaw : ByteArray := prog_12_method_14_code
def yX10_isLaw : MethodName := ⟨RX10, "isLaw", "(I)Z"⟩
abbrev cX10_of : ByteArray := prog_12_method_15_code
def yX10_of : MethodName := ⟨RX10, "of", "(II)I"⟩
abbrev cX10_sees : ByteArray := prog_12_method_16_code
def yX10_sees : MethodName := ⟨RX10, "sees", "(II)Z"⟩
abbrev cX10_feed : ByteArray := prog_12_method_17_code
def yX10_feed : MethodName := ⟨RX10, "feed", "(IIIII)I"⟩
abbrev cX10_end : ByteArray := prog_12_method_18_code
def yX10_end : MethodName := ⟨RX10, "end", "(I)I"⟩
abbrev cX10_see : ByteArray := prog_12_method_19_code
def yX10_see : MethodName := ⟨RX10, "see", "(I)I"⟩
abbrev cX10_advance : ByteArray := prog_12_method_20_code
def yX10_advance : MethodName := ⟨RX10, "advance", "()V"⟩
abbrev cX10_good : ByteArray := prog_12_method_21_code
def yX10_good : MethodName := ⟨RX10, "good", "()Z"⟩
abbrev cX10_errs : ByteArray := prog_12_method_22_code
def yX10_errs : MethodName := ⟨RX10, "errs", "(I)V"⟩
abbrev cX10_is : ByteArray := prog_12_method_23_code
def yX10_is : MethodName := ⟨RX10, "is", "(Ljava/lang/String;)Z"⟩
abbrev cX10_takes : ByteArray := prog_12_method_24_code
def yX10_takes : MethodName := ⟨RX10, "takes", "(Ljava/lang/String;)Z"⟩
abbrev cX10_needs : ByteArray := prog_12_method_25_code
def yX10_needs : MethodName := ⟨RX10, "needs", "(Ljava/lang/String;)V"⟩
abbrev cX10_number : ByteArray := prog_12_method_26_code
def yX10_number : MethodName := ⟨RX10, "number", "(II)I"⟩
abbrev cX10_told : ByteArray := prog_12_method_27_code
def yX10_told : MethodName := ⟨RX10, "told", "(Ljava/lang/String;II)I"⟩
abbrev cX10_fault : ByteArray := prog_12_method_28_code
def yX10_fault : MethodName := ⟨RX10, "fault", "(I)I"⟩
abbrev cX10_readFirst : ByteArray := prog_12_method_29_code
def yX10_readFirst : MethodName := ⟨RX10, "readFirst", "()V"⟩
abbrev cX10_readWatcher : ByteArray := prog_12_method_30_code
def yX10_readWatcher : MethodName := ⟨RX10, "readWatcher", "()V"⟩
abbrev cX10_readNext : ByteArray := prog_12_method_31_code
def yX10_readNext : MethodName := ⟨RX10, "readNext", "()V"⟩
abbrev cX10_readLine : ByteArray := prog_12_method_32_code
def yX10_readLine : MethodName := ⟨RX10, "readLine", "()V"⟩
abbrev cX10_race : ByteArray := prog_12_method_33_code
def yX10_race : MethodName := ⟨RX10, "race", "()I"⟩
abbrev cX10_boat : ByteArray := prog_12_method_34_code
def yX10_boat : MethodName := ⟨RX10, "boat", "(II)I"⟩
abbrev cX10_watcher : ByteArray := prog_12_method_35_code
def yX10_watcher : MethodName := ⟨RX10, "watcher", "(II)I"⟩
abbrev cX10_show : ByteArray := prog_12_method_36_code
def yX10_show : MethodName := ⟨RX10, "show", "(II)I"⟩
abbrev cX10_asItIs : ByteArray := prog_12_method_37_code
def yX10_asItIs : MethodName := ⟨RX10, "asItIs", "()V"⟩
abbrev cX10_layShows : ByteArray := prog_12_method_38_code
def yX10_layShows : MethodName := ⟨RX10, "layShows", "(I)V"⟩
abbrev cX10_placeOf : ByteArray := prog_12_method_39_code
def yX10_placeOf : MethodName := ⟨RX10, "placeOf", "(II)I"⟩
abbrev cX10_onOf : ByteArray := prog_12_method_40_code
def yX10_onOf : MethodName := ⟨RX10, "onOf", "(II)I"⟩
abbrev cX10_turned : ByteArray := prog_12_method_41_code
def yX10_turned : MethodName := ⟨RX10, "turned", "(III)I"⟩
abbrev cX10_goLooks : ByteArray := prog_12_method_42_code
def yX10_goLooks : MethodName := ⟨RX10, "goLooks", "(I)V"⟩
abbrev cX10_goAll : ByteArray := prog_12_method_43_code
def yX10_goAll : MethodName := ⟨RX10, "goAll", "()V"⟩
abbrev cX10_asksRace : ByteArray := prog_12_method_44_code
def yX10_asksRace : MethodName := ⟨RX10, "asksRace", "()Z"⟩
abbrev cX10_asksStep : ByteArray := prog_12_method_45_code
def yX10_asksStep : MethodName := ⟨RX10, "asksStep", "(I)Z"⟩
abbrev cX10_asksAhead : ByteArray := prog_12_method_46_code
def yX10_asksAhead : MethodName := ⟨RX10, "asksAhead", "(I)Z"⟩
abbrev cX10_asksBoat : ByteArray := prog_12_method_47_code
def yX10_asksBoat : MethodName := ⟨RX10, "asksBoat", "(I)Z"⟩
abbrev cX10_asksWatcher : ByteArray := prog_12_method_48_code
def yX10_asksWatcher : MethodName := ⟨RX10, "asksWatcher", "(I)Z"⟩
abbrev cX10_place : ByteArray := prog_12_method_49_code
def yX10_place : MethodName := ⟨RX10, "place", "(II)I"⟩
abbrev cX10_on : ByteArray := prog_12_method_50_code
def yX10_on : MethodName := ⟨RX10, "on", "(II)I"⟩
abbrev cX10_eyes : ByteArray := prog_12_method_51_code
def yX10_eyes : MethodName := ⟨RX10, "eyes", "(II)I"⟩
abbrev cX10_awake : ByteArray := prog_12_method_52_code
def yX10_awake : MethodName := ⟨RX10, "awake", "(I)I"⟩
abbrev cX10_lookersOf : ByteArray := prog_12_method_53_code
def yX10_lookersOf : MethodName := ⟨RX10, "lookersOf", "(II)I"⟩
abbrev cX10_lookers : ByteArray := prog_12_method_54_code
def yX10_lookers : MethodName := ⟨RX10, "lookers", "(II)I"⟩
abbrev cX10_leadsOf : ByteArray := prog_12_method_55_code
def yX10_leadsOf : MethodName := ⟨RX10, "leadsOf", "(I)I"⟩
abbrev cX10_leads : ByteArray := prog_12_method_56_code
def yX10_leads : MethodName := ⟨RX10, "leads", "(I)I"⟩
abbrev cX10_lags : ByteArray := prog_12_method_57_code
def yX10_lags : MethodName := ⟨RX10, "lags", "(I)I"⟩
abbrev cX10_front : ByteArray := prog_12_method_58_code
def yX10_front : MethodName := ⟨RX10, "front", "(I)I"⟩
abbrev cX10_behind : ByteArray := prog_12_method_59_code
def yX10_behind : MethodName := ⟨RX10, "behind", "(II)I"⟩
abbrev cX10_calmOf : ByteArray := prog_12_method_60_code
def yX10_calmOf : MethodName := ⟨RX10, "calmOf", "(I)I"⟩
abbrev cX10_calm : ByteArray := prog_12_method_61_code
def yX10_calm : MethodName := ⟨RX10, "calm", "(I)I"⟩
abbrev cX10_drops : ByteArray := prog_12_method_62_code
def yX10_drops : MethodName := ⟨RX10, "drops", "()I"⟩
abbrev cX10_homeOf : ByteArray := prog_12_method_63_code
def yX10_homeOf : MethodName := ⟨RX10, "homeOf", "(I)I"⟩
abbrev cX10_home : ByteArray := prog_12_method_64_code
def yX10_home : MethodName := ⟨RX10, "home", "(I)I"⟩
abbrev cX10_winsOf : ByteArray := prog_12_method_65_code
def yX10_winsOf : MethodName := ⟨RX10, "winsOf", "()I"⟩
abbrev cX10_wins : ByteArray := prog_12_method_66_code
def yX10_wins : MethodName := ⟨RX10, "wins", "()I"⟩
abbrev cX10_gap : ByteArray := prog_12_method_67_code
def yX10_gap : MethodName := ⟨RX10, "gap", "(III)I"⟩
abbrev cX10_changes : ByteArray := prog_12_method_68_code
def yX10_changes : MethodName := ⟨RX10, "changes", "()I"⟩
abbrev cX10_wavers : ByteArray := prog_12_method_69_code
def yX10_wavers : MethodName := ⟨RX10, "wavers", "(I)I"⟩
abbrev cX10_speed : ByteArray := prog_12_method_70_code
def yX10_speed : MethodName := ⟨RX10, "speed", "(II)I"⟩
abbrev cX10_lacks : ByteArray := prog_12_method_71_code
def yX10_lacks : MethodName := ⟨RX10, "lacks", "(II)I"⟩
abbrev cX10_total : ByteArray := prog_12_method_72_code
def yX10_total : MethodName := ⟨RX10, "total", "(I)I"⟩
abbrev cX10_fleet : ByteArray := prog_12_method_73_code
def yX10_fleet : MethodName := ⟨RX10, "fleet", "(I)I"⟩
abbrev cX10_gaze : ByteArray := prog_12_method_74_code
def yX10_gaze : MethodName := ⟨RX10, "gaze", "(I)I"⟩
abbrev cX10_faithful : ByteArray := prog_12_method_75_code
def yX10_faithful : MethodName := ⟨RX10, "faithful", "()I"⟩
abbrev cX10_unseen : ByteArray := prog_12_method_76_code
def yX10_unseen : MethodName := ⟨RX10, "unseen", "(I)I"⟩
abbrev cX10_seersOf : ByteArray := prog_12_method_77_code
def yX10_seersOf : MethodName := ⟨RX10, "seersOf", "(I)I"⟩
abbrev cX10_seers : ByteArray := prog_12_method_78_code
def yX10_seers : MethodName := ⟨RX10, "seers", "(I)I"⟩
abbrev cX10_order : ByteArray := prog_12_method_79_code
def yX10_order : MethodName := ⟨RX10, "order", "(II)I"⟩
abbrev cX10_even : ByteArray := prog_12_method_80_code
def yX10_even : MethodName := ⟨RX10, "even", "(II)I"⟩
abbrev cX10_passes : ByteArray := prog_12_method_81_code
def yX10_passes : MethodName := ⟨RX10, "passes", "(II)I"⟩
abbrev cX10_arrived : ByteArray := prog_12_method_82_code
def yX10_arrived : MethodName := ⟨RX10, "arrived", "(I)I"⟩
abbrev cX10_calmest : ByteArray := prog_12_method_83_code
def yX10_calmest : MethodName := ⟨RX10, "calmest", "()I"⟩
abbrev cX10_clear : ByteArray := prog_12_method_84_code
def yX10_clear : MethodName := ⟨RX10, "clear", "(I)I"⟩
abbrev cX10_key : ByteArray := prog_12_method_85_code
def yX10_key : MethodName := ⟨RX10, "key", "()I"⟩
abbrev cX10_handicap : ByteArray := prog_12_method_86_code
def yX10_handicap : MethodName := ⟨RX10, "handicap", "(I)I"⟩
abbrev cX10_start : ByteArray := prog_12_method_87_code
def yX10_start : MethodName := ⟨RX10, "start", "(I)I"⟩
abbrev cX10_winsBy : ByteArray := prog_12_method_88_code
def yX10_winsBy : MethodName := ⟨RX10, "winsBy", "(I)I"⟩
abbrev cX10_by : ByteArray := prog_12_method_89_code
def yX10_by : MethodName := ⟨RX10, "by", "(I)I"⟩
abbrev cX10_firstLooks : ByteArray := prog_12_method_90_code
def yX10_firstLooks : MethodName := ⟨RX10, "firstLooks", "()V"⟩
abbrev cX10_nextLooks : ByteArray := prog_12_method_91_code
def yX10_nextLooks : MethodName := ⟨RX10, "nextLooks", "()Z"⟩
abbrev cX10_othersNow : ByteArray := prog_12_method_92_code
def yX10_othersNow : MethodName := ⟨RX10, "othersNow", "()I"⟩
abbrev cX10_keepLooks : ByteArray := prog_12_method_93_code
def yX10_keepLooks : MethodName := ⟨RX10, "keepLooks", "(I)V"⟩
abbrev cX10_layLooks : ByteArray := prog_12_method_94_code
def yX10_layLooks : MethodName := ⟨RX10, "layLooks", "(I)V"⟩
abbrev cX10_asksLooks : ByteArray := prog_12_method_95_code
def yX10_asksLooks : MethodName := ⟨RX10, "asksLooks", "(I)Z"⟩
abbrev cX10_orNone : ByteArray := prog_12_method_96_code
def yX10_orNone : MethodName := ⟨RX10, "orNone", "(I)I"⟩
abbrev cX10_ways : ByteArray := prog_12_method_97_code
def yX10_ways : MethodName := ⟨RX10, "ways", "(I)I"⟩
abbrev cX10_plan : ByteArray := prog_12_method_98_code
def yX10_plan : MethodName := ⟨RX10, "plan", "(II)I"⟩
abbrev cX10_fewest : ByteArray := prog_12_method_99_code
def yX10_fewest : MethodName := ⟨RX10, "fewest", "(I)I"⟩
abbrev cX10_soonest : ByteArray := prog_12_method_100_code
def yX10_soonest : MethodName := ⟨RX10, "soonest", "(I)I"⟩
abbrev cX10_far : ByteArray := prog_12_method_101_code
def yX10_far : MethodName := ⟨RX10, "far", "(I)I"⟩
abbrev cX10_can : ByteArray := prog_12_method_102_code
def yX10_can : MethodName := ⟨RX10, "can", "()I"⟩
abbrev cX10_lureOf : ByteArray := prog_12_method_103_code
def yX10_lureOf : MethodName := ⟨RX10, "lureOf", "(III)I"⟩
abbrev cX10_spoils : ByteArray := prog_12_method_104_code
def yX10_spoils : MethodName := ⟨RX10, "spoils", "()I"⟩
abbrev cX10_lure : ByteArray := prog_12_method_105_code
def yX10_lure : MethodName := ⟨RX10, "lure", "(I)I"⟩
abbrev cX10_coverSet : ByteArray := prog_12_method_106_code
def yX10_coverSet : MethodName := ⟨RX10, "coverSet", "()I"⟩
abbrev cX10_cover : ByteArray := prog_12_method_107_code
def yX10_cover : MethodName := ⟨RX10, "cover", "()I"⟩
abbrev cX10_covers : ByteArray := prog_12_method_108_code
def yX10_covers : MethodName := ⟨RX10, "covers", "()I"⟩
abbrev cX10_numberAt : ByteArray := prog_12_method_109_code
def yX10_numberAt : MethodName := ⟨RX10, "numberAt", "(II)J"⟩
abbrev cX10_askSeen : ByteArray := prog_12_method_110_code
def yX10_askSeen : MethodName := ⟨RX10, "askSeen", "(I)I"⟩
abbrev cX10_isSeen : ByteArray := prog_12_method_111_code
def yX10_isSeen : MethodName := ⟨RX10, "isSeen", "(I)Z"⟩
abbrev cX10_layFits : ByteArray := prog_12_method_112_code
def yX10_layFits : MethodName := ⟨RX10, "layFits", "(I)I"⟩
abbrev cX10_fits : ByteArray := prog_12_method_113_code
def yX10_fits : MethodName := ⟨RX10, "fits", "(I)I"⟩
abbrev cX10_may : ByteArray := prog_12_method_114_code
def yX10_may : MethodName := ⟨RX10, "may", "(II)I"⟩
abbrev cX10_askOf : ByteArray := prog_12_method_115_code
def yX10_askOf : MethodName := ⟨RX10, "askOf", "()I"⟩
abbrev cX10_ask : ByteArray := prog_12_method_116_code
def yX10_ask : MethodName := ⟨RX10, "ask", "(I)I"⟩
abbrev cX10_leaves : ByteArray := prog_12_method_117_code
def yX10_leaves : MethodName := ⟨RX10, "leaves", "(I)I"⟩
abbrev cX10_laws : ByteArray := prog_12_method_118_code
def yX10_laws : MethodName := ⟨RX10, "laws", "(I)I"⟩
abbrev cX10_factorial : ByteArray := prog_12_method_119_code
def yX10_factorial : MethodName := ⟨RX10, "factorial", "(I)I"⟩
abbrev cX10_divisor : ByteArray := prog_12_method_120_code
def yX10_divisor : MethodName := ⟨RX10, "divisor", "(JJ)J"⟩
abbrev cX10_part : ByteArray := prog_12_method_121_code
def yX10_part : MethodName := ⟨RX10, "part", "(JJI)J"⟩
abbrev cX10_share : ByteArray := prog_12_method_122_code
def yX10_share : MethodName := ⟨RX10, "share", "(III)I"⟩
abbrev cX10_isRest : ByteArray := prog_12_method_123_code
def yX10_isRest : MethodName := ⟨RX10, "isRest", "(IIII)Z"⟩
abbrev cX10_asksRests : ByteArray := prog_12_method_124_code
def yX10_asksRests : MethodName := ⟨RX10, "asksRests", "(II)Z"⟩
abbrev cX10_rests : ByteArray := prog_12_method_125_code
def yX10_rests : MethodName := ⟨RX10, "rests", "(II)I"⟩
abbrev cX10_rest : ByteArray := prog_12_method_126_code
def yX10_rest : MethodName := ⟨RX10, "rest", "(II)I"⟩
abbrev cX10_layFishers : ByteArray := prog_12_method_127_code
def yX10_layFishers : MethodName := ⟨RX10, "layFishers", "(II)V"⟩
abbrev cX10_isFishers : ByteArray := prog_12_method_128_code
def yX10_isFishers : MethodName := ⟨RX10, "isFishers", "(III)Z"⟩
abbrev cX10_chance : ByteArray := prog_12_method_129_code
def yX10_chance : MethodName := ⟨RX10, "chance", "(III)J"⟩
abbrev cX10_mean : ByteArray := prog_12_method_130_code
def yX10_mean : MethodName := ⟨RX10, "mean", "(III)J"⟩
abbrev cX10_keepAct : ByteArray := prog_12_method_131_code
def yX10_keepAct : MethodName := ⟨RX10, "keepAct", "(I)I"⟩
abbrev cX10_look : ByteArray := prog_12_method_132_code
def yX10_look : MethodName := ⟨RX10, "look", "(III)I"⟩
abbrev cX10_sneeze : ByteArray := prog_12_method_133_code
def yX10_sneeze : MethodName := ⟨RX10, "sneeze", "(II)I"⟩
abbrev cX10_undo : ByteArray := prog_12_method_134_code
def yX10_undo : MethodName := ⟨RX10, "undo", "()I"⟩
abbrev cX10_anew : ByteArray := prog_12_method_135_code
def yX10_anew : MethodName := ⟨RX10, "anew", "()I"⟩
abbrev cX10_goDrawn : ByteArray := prog_12_method_136_code
def yX10_goDrawn : MethodName := ⟨RX10, "goDrawn", "(J)I"⟩
abbrev cX10_isSeed : ByteArray := prog_12_method_137_code
def yX10_isSeed : MethodName := ⟨RX10, "isSeed", "(I)Z"⟩
abbrev cX10_drawn : ByteArray := prog_12_method_138_code
def yX10_drawn : MethodName := ⟨RX10, "drawn", "(II)I"⟩
abbrev cX10_luck : ByteArray := prog_12_method_139_code
def yX10_luck : MethodName := ⟨RX10, "luck", "(III)I"⟩
abbrev cX10_rate : ByteArray := prog_12_method_140_code
def yX10_rate : MethodName := ⟨RX10, "rate", "(II)I"⟩
abbrev cX10_count : ByteArray := prog_12_method_141_code
def yX10_count : MethodName := ⟨RX10, "count", "(I)I"⟩
abbrev cX10_isSlot : ByteArray := prog_12_method_142_code
def yX10_isSlot : MethodName := ⟨RX10, "isSlot", "(I)Z"⟩
abbrev cX10_cut : ByteArray := prog_12_method_143_code
def yX10_cut : MethodName := ⟨RX10, "cut", "(JI)J"⟩
abbrev cX10_row : ByteArray := prog_12_method_144_code
def yX10_row : MethodName := ⟨RX10, "row", "(III)I"⟩
abbrev cX10_write : ByteArray := prog_12_method_145_code
def yX10_write : MethodName := ⟨RX10, "write", "(IIJ)I"⟩
abbrev cX10_paste : ByteArray := prog_12_method_146_code
def yX10_paste : MethodName := ⟨RX10, "paste", "(IIIII)I"⟩
def RJ6 : String := "java/lang/Integer"
def TJ6 : u_T := fun k => match k with
  | _ => ("", "", "", false)
def tyJ6 : Nat → FieldType := fun k => match k with
  | _ => .int
theorem nmJ6 : ∀ a, a < 0 → ∀ b, b < 0 → a ≠ b → (TJ6 a).2.1 ≠ (TJ6 b).2.1 := by decide +kernel
theorem tyJ6_ok : ∀ k, k < 0 → parseFieldDescriptor (TJ6 k).2.2.1 = some (tyJ6 k) := by decide +kernel
abbrev cJ6_bitCount_0f7a4 : ByteArray := prog_13_method_49_code
def yJ6_bitCount_0f7a4 : MethodName := ⟨RJ6, "bitCount", "(I)I"⟩
def RJ9 : String := "java/lang/Math"
def TJ9 : u_T := fun k => match k with
  | _ => ("", "", "", false)
def tyJ9 : Nat → FieldType := fun k => match k with
  | _ => .int
theorem nmJ9 : ∀ a, a < 0 → ∀ b, b < 0 → a ≠ b → (TJ9 a).2.1 ≠ (TJ9 b).2.1 := by decide +kernel
theorem tyJ9_ok : ∀ k, k < 0 → parseFieldDescriptor (TJ9 k).2.2.1 = some (tyJ9 k) := by decide +kernel
abbrev cJ9_abs_067f4 : ByteArray := prog_14_method_61_code
def yJ9_abs_067f4 : MethodName := ⟨RJ9, "abs", "(J)J"⟩
abbrev cJ9_max_7cf53 : ByteArray := prog_14_method_65_code
def yJ9_max_7cf53 : MethodName := ⟨RJ9, "max", "(II)I"⟩
abbrev cJ9_min_7cf53 : ByteArray := prog_14_method_69_code
def yJ9_min_7cf53 : MethodName := ⟨RJ9, "min", "(II)I"⟩
def RJ0 : String := "java/lang/String"
def TJ0 : u_T := fun k => match k with
  | _ => ("", "", "", false)
def tyJ0 : Nat → FieldType := fun k => match k with
  | _ => .int
theorem nmJ0 : ∀ a, a < 0 → ∀ b, b < 0 → a ≠ b → (TJ0 a).2.1 ≠ (TJ0 b).2.1 := by decide +kernel
theorem tyJ0_ok : ∀ k, k < 0 → parseFieldDescriptor (TJ0 k).2.2.1 = some (tyJ0 k) := by decide +kernel
abbrev cJ0_length_8abf5 : ByteArray := prog_15_method_54_code
def yJ0_length_8abf5 : MethodName := ⟨RJ0, "length", "()I"⟩
abbrev cJ0_charAt_5068e : ByteArray := prog_15_method_56_code
def yJ0_charAt_5068e : MethodName := ⟨RJ0, "charAt", "(I)C"⟩
abbrev cJ0_coder_7d493 : ByteArray := prog_15_method_152_code
def yJ0_coder_7d493 : MethodName := ⟨RJ0, "coder", "()B"⟩
abbrev cJ0_isLatin1_aae02 : ByteArray := prog_15_method_154_code
def yJ0_isLatin1_aae02 : MethodName := ⟨RJ0, "isLatin1", "()Z"⟩
abbrev cJ0_checkIndex_df160 : ByteArray := prog_15_method_155_code
def yJ0_checkIndex_df160 : MethodName := ⟨RJ0, "checkIndex", "(II)V"⟩
def RJ1 : String := "java/lang/StringLatin1"
def TJ1 : u_T := fun k => match k with
  | _ => ("", "", "", false)
def tyJ1 : Nat → FieldType := fun k => match k with
  | _ => .int
theorem nmJ1 : ∀ a, a < 0 → ∀ b, b < 0 → a ≠ b → (TJ1 a).2.1 ≠ (TJ1 b).2.1 := by decide +kernel
theorem tyJ1_ok : ∀ k, k < 0 → parseFieldDescriptor (TJ1 k).2.2.1 = some (tyJ1 k) := by decide +kernel
abbrev cJ1_charAt_3b067 : ByteArray := prog_16_method_2_code
def yJ1_charAt_3b067 : MethodName := ⟨RJ1, "charAt", "([BI)C"⟩
def RJ2 : String := "java/lang/StringUTF16"
def TJ2 : u_T := fun k => match k with
  | _ => ("", "", "", false)
def tyJ2 : Nat → FieldType := fun k => match k with
  | _ => .int
theorem nmJ2 : ∀ a, a < 0 → ∀ b, b < 0 → a ≠ b → (TJ2 a).2.1 ≠ (TJ2 b).2.1 := by decide +kernel
theorem tyJ2_ok : ∀ k, k < 0 → parseFieldDescriptor (TJ2 k).2.2.1 = some (tyJ2 k) := by decide +kernel
abbrev cJ2_getChar_3b067 : ByteArray := prog_17_method_5_code
def yJ2_getChar_3b067 : MethodName := ⟨RJ2, "getChar", "([BI)C"⟩
abbrev cJ2_length_9d52b : ByteArray := prog_17_method_6_code
def yJ2_length_9d52b : MethodName := ⟨RJ2, "length", "([B)I"⟩
abbrev cJ2_charAt_3b067 : ByteArray := prog_17_method_83_code
def yJ2_charAt_3b067 : MethodName := ⟨RJ2, "charAt", "([BI)C"⟩
abbrev cJ2_checkIndex_2214a : ByteArray := prog_17_method_91_code
def yJ2_checkIndex_2214a : MethodName := ⟨RJ2, "checkIndex", "(I[B)V"⟩
def RJ10 : String := "java/lang/System"
def TJ10 : u_T := fun k => match k with
  | _ => ("", "", "", false)
def tyJ10 : Nat → FieldType := fun k => match k with
  | _ => .int
theorem nmJ10 : ∀ a, a < 0 → ∀ b, b < 0 → a ≠ b → (TJ10 a).2.1 ≠ (TJ10 b).2.1 := by decide +kernel
theorem tyJ10_ok : ∀ k, k < 0 → parseFieldDescriptor (TJ10 k).2.2.1 = some (tyJ10 k) := by decide +kernel
def RJ3 : String := "jdk/internal/util/Preconditions"
def TJ3 : u_T := fun k => match k with
  | _ => ("", "", "", false)
def tyJ3 : Nat → FieldType := fun k => match k with
  | _ => .int
theorem nmJ3 : ∀ a, a < 0 → ∀ b, b < 0 → a ≠ b → (TJ3 a).2.1 ≠ (TJ3 b).2.1 := by decide +kernel
theorem tyJ3_ok : ∀ k, k < 0 → parseFieldDescriptor (TJ3 k).2.2.1 = some (tyJ3 k) := by decide +kernel
abbrev cJ3_checkIndex_8e157 : ByteArray := prog_19_method_11_code
def yJ3_checkIndex_8e157 : MethodName := ⟨RJ3, "checkIndex", "(IILjava/util/function/BiFunction;)I"⟩
def RL : String := "PennantLawnLaw"
abbrev cL_law : ByteArray := code
def yL_law : MethodName := ⟨RL, "law", "([I)Z"⟩
abbrev vwCl : List vw_C := [(RX0, TX0, 10), (RX1, TX1, 6), (RX2, TX2, 20), (RX3, TX3, 8), (RX4, TX4, 4), (RX5, TX5, 5), (RX6, TX6, 3), (RX7, TX7, 8), (RX8, TX8, 2), (RX9, TX9, 12), (RX10, TX10, 47)]
