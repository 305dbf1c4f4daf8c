/-! the little machine's state as a picture of the great one's -/
/-- classes and slots, array classes, where the made cells begin, where the outside arrays lie, their lengths and what they hold -/
abbrev GP : Type := va_G × (Nat → ClassId) × Nat × (Nat → Nat) × (Nat → Nat) × (Nat → Nat → Int32)
def gD (g : GP) : va_G := g.1
def gA (g : GP) : Nat → ClassId := g.2.1
def gB (g : GP) : Nat := g.2.2.1
def gE (g : GP) : Nat → Nat := g.2.2.2.1
def gN (g : GP) : Nat → Nat := g.2.2.2.2.1
def gF (g : GP) : Nat → Nat → Int32 := g.2.2.2.2.2
def gQ (g : GP) : Nat → Prop := fun q => gB g ≤ q
def ad (g : GP) (i : Nat) : Nat := if i < 5 then gE g i else gB g + (i - 5)
def cv (g : GP) (v : Value) : Value := match v with
  | .ref i => .ref (ad g i)
  | w => w
theorem cv_cat (g : GP) (v : Value) : (cv g v).category = v.category := by cases v <;> rfl
theorem cv_int (g : GP) (x : Int32) : cv g (.int x) = .int x := rfl
theorem cv_long (g : GP) (x : Int64) : cv g (.long x) = .long x := rfl
theorem cv_ref (g : GP) (x : Nat) : cv g (.ref x) = .ref (ad g x) := rfl
theorem ad_hi (g : GP) {i : Nat} (h : 5 ≤ i) : ad g i = gB g + (i - 5) := by unfold ad; rw [if_neg (by omega)]
theorem ad_lo (g : GP) {i : Nat} (h : i < 5) : ad g i = gE g i := by unfold ad; rw [if_pos h]
def tyA (cA : Nat → ClassId) : List (ClassId × FieldType) := [(cA 10, .int), (cA 11, .long), (cA 12, .boolean)]
def fvs (g : GP) (h : HP) (ci o : Nat) : List Value := (List.range (cN ci)).map fun k => if ft ci k = 2 then va_rf ((hR h o k).map (ad g)) else .int (hI h o k)
def ce (g : GP) (h : HP) (o : Nat) : va_E :=
  if hK h o = 10 then .inl (gA g 10, hN h o, .inl (hI h o))
  else if hK h o = 11 then .inl (gA g 11, hN h o, .inr (.inl (hL h o)))
  else if hK h o = 12 then .inl (gA g 12, hN h o, .inl (hI h o))
  else .inr (hK h o, fvs g h (hK h o) o)
def wo (g : GP) (h : HP) : va_W := (List.range (hZ h - 5)).map fun i => (gB g + i, ce g h (i + 5))
def WF (g : GP) (h : HP) : Prop := 5 ≤ hZ h ∧ (∀ i, i < 5 → hK h i = 13 ∧ hN h i = gN g i ∧ hI h i = gF g i) ∧ (∀ o, hZ h ≤ o → hK h o = 99) ∧ ∀ o, hK h o = 13 → o < 5
def Kx (g : GP) (U : State) (Hp : Heap) : Prop := gB g ≤ Hp.size ∧ va_K (gD g) vwCl (tyA (gA g)) U ∧ (∀ w ∈ nw_, va_Nw w U) ∧ (∀ i, i < 4 → va_Z (stC i) (stN i) "[I" (.ref (gE g i)) (gQ g) U Hp) ∧ ∀ i, i < 5 → va_T .int (gE g i) (gN g i) (fun j => .int (gF g i j)) (gQ g) U Hp
def Rl (g : GP) (h : HP) (U : State) : Prop := WF g h ∧ U.heap.size = gB g + (hZ h - 5) ∧ va_P (gD g) vwCl (wo g h) U.heap ∧ Kx g U U.heap
def Cur (g : GP) (h : HP) (s : State) (H : Heap) (locs : List Loc) : Prop := WF g h ∧ va_P (gD g) vwCl (wo g h) H ∧ va_S (gQ g) s.heap H locs
theorem nw_warm {s U : State} (hW : s.WarmedH U.vm) (h : ∀ w ∈ nw_, va_Nw w s) : ∀ w ∈ nw_, va_Nw w U := by
  intro w hw
  have h1 := h w hw
  simp only [nw_, List.mem_cons, List.mem_nil_iff, or_false] at hw
  rcases hw with rfl | rfl | rfl | rfl | rfl | rfl | rfl <;> first | exact va_Nw.warmF hW h1 | exact va_Nw.warmM hW h1
theorem nw_same {s U : State} (hW : s.vm = U.vm) (h : ∀ w ∈ nw_, va_Nw w s) : ∀ w ∈ nw_, va_Nw w U := by
  intro w hw
  have h1 := h w hw
  simp only [nw_, List.mem_cons, List.mem_nil_iff, or_false] at hw
  rcases hw with rfl | rfl | rfl | rfl | rfl | rfl | rfl <;> exact va_Nw.same rfl hW h1
theorem Kx.warm {g : GP} {s U : State} {H : Heap} {locs : List Loc} (h : Kx g s s.heap) (hS : va_S (gQ g) s.heap H locs) (hW : s.WarmedH U.vm) : Kx g U H := by
  obtain ⟨h1, h2, h3, h4, h5⟩ := h
  refine ⟨Nat.le_trans h1 hS.1, va_K.moved hW.alike h2, nw_warm hW h3, fun i hi => ?_, fun i hi => ?_⟩
  · exact ((h4 i hi).moved hW.alike).kept (fun a ha hA => hS.2.1 a ha hA)
  · exact ((h5 i hi).moved hW.alike).kept (fun a ha hA => hS.2.1 a ha hA)
theorem Kx.same {g : GP} {s U : State} {H : Heap} (h : Kx g s H) (hvm : s.vm = U.vm) : Kx g U H := by
  obtain ⟨h1, h2, h3, h4, h5⟩ := h
  have ha : s.vm.Alike U.vm := by rw [← hvm]; exact Vm.Alike.refl s.vm
  exact ⟨h1, va_K.moved ha h2, nw_same hvm h3, fun i hi => (h4 i hi).moved ha, fun i hi => (h5 i hi).moved ha⟩
theorem Cur.rl {g : GP} {h : HP} {s U : State} {H : Heap} {locs : List Loc} (hc : Cur g h s H locs) (hk : Kx g s s.heap) (hz : H.size = gB g + (hZ h - 5)) (hU : U.heap = H) (hW : s.WarmedH U.vm) : Rl g h U := by
  obtain ⟨h1, h3, h4⟩ := hc
  subst hU
  exact ⟨h1, hz, h3, hk.warm h4 hW⟩
theorem Rl.blind {g : GP} {h : HP} : ∀ (av : List Value), FrameBlind (va_Pc av (Rl g h)) := by
  intro av a U f mk hq
  obtain ⟨h0, h1, h2, h3, h4⟩ := hq
  exact ⟨h0, h1, h2, h3, h4.same rfl⟩
theorem wo_len (g : GP) (h : HP) : (wo g h).length = hZ h - 5 := by simp [wo]
theorem wo_at (g : GP) {h : HP} {o : Nat} (h5 : 5 ≤ o) (hz : o < hZ h) : (wo g h)[o - 5]? = some (gB g + (o - 5), ce g h o) := by
  have : o - 5 < hZ h - 5 := by omega
  simp only [wo, List.getElem?_map, List.getElem?_range this, Option.map_some]
  rw [Nat.sub_add_cancel h5]
theorem wo_get (g : GP) {h : HP} {i : Nat} {q : Nat × va_E} (hi : (wo g h)[i]? = some q) : i < hZ h - 5 ∧ q = (gB g + i, ce g h (i + 5)) := by
  have h1 : i < hZ h - 5 := by
    have := (List.getElem?_eq_some_iff.mp hi).1
    simpa [wo] using this
  refine ⟨h1, ?_⟩
  have e : (wo g h)[i]? = some (gB g + i, ce g h (i + 5)) := by simp [wo, h1]
  exact Option.some.inj (hi.symm.trans e)
theorem wo_D (g : GP) (h : HP) : va_D (gQ g) (wo g h) := by
  refine ⟨fun i j p q hi hj hpq => ?_, fun k q hk => ?_⟩
  · rw [(wo_get g hi).2, (wo_get g hj).2] at hpq
    exact Nat.add_left_cancel hpq
  · rw [(wo_get g hk).2]
    exact Nat.le_add_right _ _
theorem wo_set (g : GP) {h h' : HP} {o : Nat} (hz : hZ h' = hZ h) (ho : ∀ q, q ≠ o → ce g h' q = ce g h q) (h5 : 5 ≤ o) : wo g h' = (wo g h).set (o - 5) (gB g + (o - 5), ce g h' o) := by
  apply List.ext_getElem?
  intro i
  rw [List.getElem?_set]
  by_cases hi : i < hZ h - 5
  · have e1 : (wo g h')[i]? = some (gB g + i, ce g h' (i + 5)) := by simp [wo, hz, hi]
    have e2 : (wo g h)[i]? = some (gB g + i, ce g h (i + 5)) := by simp [wo, hi]
    rw [e1, e2]
    by_cases hio : o - 5 = i
    · subst hio
      rw [if_pos rfl, wo_len, if_pos hi, Nat.sub_add_cancel h5]
    · rw [if_neg hio, ho (i + 5) (by omega)]
  · have e1 : (wo g h')[i]? = none := by simp [wo, hz]; omega
    have e2 : (wo g h)[i]? = none := by simp [wo]; omega
    rw [e1, e2]
    by_cases hio : o - 5 = i
    · rw [if_pos hio, wo_len, if_neg (by omega)]
    · rw [if_neg hio]
/-- the size of the heap, exactly -/
theorem wo_size {g : GP} {h : HP} {H : Heap} (hz : 5 ≤ hZ h) (hP : va_P (gD g) vwCl (wo g h) H) (hb : gB g ≤ H.size) (hu : H.size ≤ gB g + (hZ h - 5)) : H.size = gB g + (hZ h - 5) := by
  by_cases h6 : hZ h = 5
  · omega
  · have h7 := (hP (hZ h - 6) (gB g + (hZ h - 6), ce g h (hZ h - 6 + 5)) (by
      have : hZ h - 6 < hZ h - 5 := by omega
      simp [wo, this])).lt
    have h8 : gB g + (hZ h - 6) < H.size := h7
    omega
theorem W_size {p : Program} {l : Launch} {e : Env} {R : Room} {s : State} {m : MethodId} {args : Array Value} {below : List Frame} {meth : Method} {c : Code} {H : Heap} {locs : List Loc} {cells slots : Nat} {Q : State → Prop} {f : JFrame} (k : H.size ≤ s.heap.size + cells → W p l e R s m args below meth c H locs cells slots Q f) : W p l e R s m args below meth c H locs cells slots Q f := fun T hT X => k (by rw [← hT]; exact X.heapSize) T hT X
theorem wo_push (g : GP) {h h' : HP} (hz : hZ h' = hZ h + 1) (h5 : 5 ≤ hZ h) (ho : ∀ q, q ≠ hZ h → ce g h' q = ce g h q) : wo g h' = wo g h ++ [(gB g + (hZ h - 5), ce g h' (hZ h))] := by
  unfold wo
  rw [hz, show hZ h + 1 - 5 = (hZ h - 5) + 1 by omega, List.range_succ, List.map_append]
  congr 1
  · refine List.map_congr_left fun i hi => ?_
    have hi := List.mem_range.mp hi
    rw [ho (i + 5) (by omega)]
  · simp only [List.map_cons, List.map_nil]
    rw [Nat.sub_add_cancel h5]
/-- locals -/
def LR (g : GP) (ls : Array Slot) (n : Nat) (loc : List Value) : Prop := loc.length = n ∧ ls.size = n ∧ lv_wf ls ∧ ∀ (i : Nat) (v : Value), loc[i]? = some v → v ≠ .null → ls[i]? = some (.val (cv g v))
def lp (g : GP) (loc : List Value) : List (Nat × Value) := (List.range loc.length).filterMap fun i => match loc[i]? with
  | some v => if v = .null then none else some (i, cv g v)
  | none => none
theorem lp_mem {g : GP} {loc : List Value} {q : Nat × Value} : q ∈ lp g loc ↔ ∃ v, loc[q.1]? = some v ∧ v ≠ .null ∧ q.2 = cv g v := by
  unfold lp
  rw [List.mem_filterMap]
  constructor
  · rintro ⟨i, hi, h⟩
    cases hv : loc[i]? with
    | none => rw [hv] at h; cases h
    | some v =>
      rw [hv] at h
      dsimp only at h
      by_cases hn : v = .null
      · rw [if_pos hn] at h; cases h
      · rw [if_neg hn] at h
        cases h
        exact ⟨v, hv, hn, rfl⟩
  · rintro ⟨v, hv, hn, h2⟩
    refine ⟨q.1, List.mem_range.mpr (List.getElem?_eq_some_iff.mp hv).1, ?_⟩
    rw [hv]
    dsimp only
    rw [if_neg hn, ← h2]
theorem LR.has {g : GP} {ls : Array Slot} {n : Nat} {loc : List Value} (h : LR g ls n loc) : lv_has ls n (lp g loc) := by
  obtain ⟨h0, h1, h2, h3⟩ := h
  refine ⟨h1, h2, fun q hq => ?_⟩
  obtain ⟨v, hv, hn, e⟩ := lp_mem.mp hq
  rw [e]
  exact h3 _ _ hv hn
theorem getD_some {loc : List Value} {i : Nat} {v : Value} (h : loc.getD i .null = v) (hn : v ≠ .null) : loc[i]? = some v := by
  rw [List.getD_eq_getElem?_getD] at h
  cases hq : loc[i]? with
  | none => rw [hq] at h; exact absurd h.symm hn
  | some w => rw [hq] at h; rw [← h]; rfl
theorem LR.at {g : GP} {ls : Array Slot} {n : Nat} {loc : List Value} (h : LR g ls n loc) {i : Nat} {v : Value} (hv : loc.getD i .null = v) (hn : v ≠ .null) : ls[i]? = some (.val (cv g v)) := h.2.2.2 i v (getD_some hv hn) hn
theorem clr_len (loc : List Value) (i : Nat) : (clr loc i).length = loc.length := by cases i <;> simp [clr]
theorem clr_at {loc : List Value} {i j : Nat} {w : Value} (h : (clr loc i)[j]? = some w) (hn : w ≠ .null) : loc[j]? = some w ∧ ¬ (j + 1 = i ∧ w.category = 2) := by
  cases i with
  | zero => exact ⟨h, by omega⟩
  | succ k =>
    simp only [clr, List.getElem?_set] at h
    by_cases hk : k = j
    · subst hk
      rw [if_pos rfl] at h
      by_cases hl : k < loc.length
      · rw [if_pos hl] at h
        cases h
        have e : loc.getD k .null = loc[k] := by simp [List.getD_eq_getElem?_getD, hl]
        unfold nl at hn ⊢
        by_cases hc : (loc.getD k .null).category = 2
        · rw [if_pos hc] at hn
          exact absurd rfl hn
        · rw [if_neg hc]
          refine ⟨by rw [e]; exact List.getElem?_eq_getElem hl, fun q => hc q.2⟩
      · rw [if_neg hl] at h; cases h
    · rw [if_neg hk] at h
      exact ⟨h, by omega⟩
theorem LR_st1 {g : GP} {ls ls' : Array Slot} {n i : Nat} {loc : List Value} {v : Value} (h : LR g ls n loc) (h' : lv_has ls' n ((i, cv g v) :: (lp g loc).filter (fun q => !(q.1 == i) && !(q.1 + 1 == i && q.2.category == 2)))) : LR g ls' n (st1 loc i v) := by
  obtain ⟨h0, h1, h2, h3⟩ := h
  obtain ⟨k1, k2, k3⟩ := h'
  refine ⟨by simp [st1, clr_len, h0], k1, k2, fun j w hj hn => ?_⟩
  simp only [st1, List.getElem?_set] at hj
  by_cases hij : i = j
  · subst hij
    rw [if_pos rfl] at hj
    by_cases hl : i < (clr loc i).length
    · rw [if_pos hl] at hj
      cases hj
      exact k3 _ List.mem_cons_self
    · rw [if_neg hl] at hj; cases hj
  · rw [if_neg hij] at hj
    obtain ⟨g1, g2⟩ := clr_at hj hn
    refine k3 (j, cv g w) (List.mem_cons_of_mem _ (List.mem_filter.mpr ⟨lp_mem.mpr ⟨w, g1, hn, rfl⟩, ?_⟩))
    simp only [Bool.and_eq_true, Bool.not_eq_true', beq_eq_false_iff_ne, ne_eq, Bool.and_eq_false_iff, cv_cat]
    refine ⟨fun q => hij q.symm, ?_⟩
    by_cases q : j + 1 = i
    · exact Or.inr (fun q2 => g2 ⟨q, q2⟩)
    · exact Or.inl q
theorem LR_st2 {g : GP} {ls ls' : Array Slot} {n i : Nat} {loc : List Value} {v : Value} (h : LR g ls n loc) (h' : lv_has ls' n ((i, cv g v) :: (lp g loc).filter (fun q => !(q.1 == i) && (!(q.1 == i + 1) && !(q.1 + 1 == i && q.2.category == 2))))) : LR g ls' n (st2 loc i v) := by
  obtain ⟨h0, h1, h2, h3⟩ := h
  obtain ⟨k1, k2, k3⟩ := h'
  refine ⟨by simp [st2, clr_len, h0], k1, k2, fun j w hj hn => ?_⟩
  simp only [st2, List.getElem?_set] at hj
  by_cases hij2 : i + 1 = j
  · subst hij2
    rw [if_pos rfl] at hj
    split at hj
    · cases hj; exact absurd rfl hn
    · cases hj
  · rw [if_neg hij2] at hj
    by_cases hij : i = j
    · subst hij
      rw [if_pos rfl] at hj
      by_cases hl : i < (clr loc i).length
      · rw [if_pos hl] at hj
        cases hj
        exact k3 _ List.mem_cons_self
      · rw [if_neg hl] at hj; cases hj
    · rw [if_neg hij] at hj
      obtain ⟨g1, g2⟩ := clr_at hj hn
      refine k3 (j, cv g w) (List.mem_cons_of_mem _ (List.mem_filter.mpr ⟨lp_mem.mpr ⟨w, g1, hn, rfl⟩, ?_⟩))
      simp only [Bool.and_eq_true, Bool.not_eq_true', beq_eq_false_iff_ne, ne_eq, Bool.and_eq_false_iff, cv_cat]
      refine ⟨fun q => hij q.symm, fun q => hij2 q.symm, ?_⟩
      by_cases q : j + 1 = i
      · exact Or.inr (fun q2 => g2 ⟨q, q2⟩)
      · exact Or.inl q
/-- a method's first locals -/
theorem sl_lg (g : GP) : ∀ as : List Value, (lg_sl (as.map (cv g))).length = (sl as).length := by
  intro as
  induction as with
  | nil => rfl
  | cons v vs ih =>
    unfold lg_sl sl at ih ⊢
    simp only [List.map_cons, List.flatMap_cons, List.length_append, cv_cat, ih]
    by_cases hc : v.category = 2 <;> simp [hc]
theorem sl_args (g : GP) : ∀ (as : List Value) (k i : Nat) (v : Value), (sl as)[i]? = some v → v ≠ .null → (k + i, cv g v) ∈ lv_args k (as.map (cv g)) := by
  intro as
  induction as with
  | nil => intro k i v h; simp [sl] at h
  | cons w vs ih =>
    intro k i v h hn
    simp only [List.map_cons, lv_args, cv_cat]
    by_cases hc : w.category = 2
    · have e : sl (w :: vs) = w :: .null :: sl vs := by simp [sl, hc]
      rw [e] at h
      rw [if_pos hc]
      match i, h with
      | 0, h => simp at h; subst h; exact List.mem_cons_self
      | 1, h => simp at h; exact absurd h.symm hn
      | i + 2, h =>
        have := ih (k + 2) i v (by simpa using h) hn
        rw [show k + (i + 2) = k + 2 + i by omega]
        exact List.mem_cons_of_mem _ this
    · have e : sl (w :: vs) = w :: sl vs := by simp [sl, hc]
      rw [e] at h
      rw [if_neg hc]
      match i, h with
      | 0, h => simp at h; subst h; exact List.mem_cons_self
      | i + 1, h =>
        have := ih (k + 1) i v (by simpa using h) hn
        rw [show k + (i + 1) = k + 1 + i by omega]
        exact List.mem_cons_of_mem _ this
theorem LR_ent {g : GP} {n : Nat} {as : List Value} (h : (sl as).length ≤ n) : LR g ((lg_sl (as.map (cv g)) ++ List.replicate (n - (lg_sl (as.map (cv g))).length) Slot.unset).toArray) n (ent n as) := by
  have h0 := lv_entry (as.map (cv g)) (n := n) (by rw [sl_lg]; exact h)
  refine ⟨by simp [ent]; omega, h0.1, h0.2.1, fun i v hv hn => ?_⟩
  have h1 : (sl as)[i]? = some v := by
    unfold ent at hv
    by_cases hi : i < (sl as).length
    · rwa [List.getElem?_append_left hi] at hv
    · rw [List.getElem?_append_right (by omega)] at hv
      exact absurd (List.eq_of_mem_replicate (List.mem_of_getElem? hv)) hn
  have := sl_args g as 0 i v h1 hn
  rw [Nat.zero_add] at this
  exact h0.2.2 _ this
