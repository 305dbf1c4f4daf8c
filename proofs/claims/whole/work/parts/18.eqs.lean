/-! equations of X: what an instruction does -/
theorem X_ite {P : Prop} [Decidable P] {c c1 c2 : CF} (h : act c = if P then some (.inr (.inl c1)) else some (.inr (.inl c2))) : X c = if P then X c1 else X c2 := by
  by_cases q : P
  · rw [if_pos q] at h ⊢; exact X_nx h
  · rw [if_neg q] at h ⊢; exact X_nx h
theorem X_gd {P : Prop} [Decidable P] {c c1 : CF} (h : act c = if P then some (.inr (.inl c1)) else none) : X c = if P then X c1 else none := by
  by_cases q : P
  · rw [if_pos q] at h ⊢; exact X_nx h
  · rw [if_neg q] at h ⊢; exact X_none h
theorem X_ng {P : Prop} [Decidable P] {c c1 : CF} (h : act c = if P then none else some (.inr (.inl c1))) : X c = if P then none else X c1 := by
  by_cases q : P
  · rw [if_pos q] at h ⊢; exact X_none h
  · rw [if_neg q] at h ⊢; exact X_nx h
theorem X_rd {P : Prop} [Decidable P] {c : CF} {o : Option Nat} {f : Nat → CF} (h : act c = if P then (match o with
    | some q => some (.inr (.inl (f q)))
    | none => none) else none) : X c = if P then o.bind (fun q => X (f q)) else none := by
  by_cases q : P
  · rw [if_pos q] at h ⊢
    cases o with
    | none => exact X_none h
    | some a => exact X_nx h
  · rw [if_neg q] at h ⊢; exact X_none h
theorem X_rt1 {P : Prop} [Decidable P] {c : CF} {r : Option Value × HP} (h : act c = if P then some (.inl r) else none) : X c = if P then some r else none := by
  by_cases q : P
  · rw [if_pos q] at h ⊢; exact X_ret h
  · rw [if_neg q] at h ⊢; exact X_none h
def bI (o : RS) (k : Int32 → HP → RS) : RS := match o with
  | some (some (.int v), h) => k v h
  | _ => none
def bL (o : RS) (k : Int64 → HP → RS) : RS := match o with
  | some (some (.long v), h) => k v h
  | _ => none
def bV (o : RS) (k : HP → RS) : RS := match o with
  | some (none, h) => k h
  | _ => none
theorem bI_s (v : Int32) (h : HP) (k : Int32 → HP → RS) : bI (some (some (.int v), h)) k = k v h := rfl
theorem bL_s (v : Int64) (h : HP) (k : Int64 → HP → RS) : bL (some (some (.long v), h)) k = k v h := rfl
theorem bV_s (h : HP) (k : HP → RS) : bV (some (none, h)) k = k h := rfl
theorem run_RI : ∀ (n : Nat) (mid pc : Nat) (z : MT) (loc stk : List Value) (h : HP) (r : Option Value) (hf : HP), nth mtab mid = some z → run n (mid, pc, loc, stk, h) = some (r, hf) → ∃ pc', RI z pc' r := by
  intro n
  induction n with
  | zero => intro mid pc z loc stk h r hf _ hr; exact absurd hr (by simp [run])
  | succ n ih =>
    intro mid pc z loc stk h r hf hz hr
    rw [run] at hr
    cases ha : act (mid, pc, loc, stk, h) with
    | none => rw [ha] at hr; cases hr
    | some x =>
      rw [ha] at hr
      rcases x with ⟨r0, h0⟩ | d | ⟨cz, mid', pc', loc', rest⟩
      · cases hr
        exact ⟨pc, (act_ret hz ha).2.1⟩
      · obtain ⟨hd1, -, -⟩ := act_nx hz ha
        obtain ⟨dm, dpc, dloc, dstk, dh⟩ := d
        dsimp only at hd1 hr
        subst hd1
        exact ih _ _ _ _ _ _ _ _ hz hr
      · dsimp only at hr
        obtain ⟨k, zi, i, y, hinv, -⟩ := act_call hz ha
        obtain ⟨y2, as, rest2, hy2, -, hx2, -⟩ := inv_call hinv
        cases hx2
        cases hz1 : run n (zi, 0, ent (mX y2) as, [], h) with
        | none => rw [hz1] at hr; cases hr
        | some q => rw [hz1] at hr; exact ih _ _ _ _ _ _ _ _ hz hr
theorem X_cI {P : Prop} [Decidable P] {c : CF} {zi pcz mid pc : Nat} {lz sz loc rest : List Value} {hz : HP} {z : MT} {ty : FieldType} (h : act c = if P then some (.inr (.inr ((zi, pcz, lz, sz, hz), mid, pc, loc, rest))) else none) (hm : nth mtab zi = some z) (ht : mT z = some ty) (hl : ty ≠ .long) : X c = if P then bI (X (zi, pcz, lz, sz, hz)) (fun v h' => X (mid, pc, loc, .int v :: rest, h')) else none := by
  by_cases q : P
  · rw [if_pos q] at h ⊢
    rw [X_call h]
    cases hx : X (zi, pcz, lz, sz, hz) with
    | none => rfl
    | some r =>
      obtain ⟨r0, h0⟩ := r
      obtain ⟨n, hn⟩ := X_some.mp hx
      obtain ⟨pc', hri⟩ := run_RI n _ _ _ _ _ _ _ _ hm hn
      rcases hri with ⟨-, -, e⟩ | ⟨v, ty', rfl, -⟩ | ⟨v, -, -, e⟩
      · rw [ht] at e; cases e
      · rfl
      · rw [ht] at e; cases e; exact absurd rfl hl
  · rw [if_neg q] at h ⊢; exact X_none h
theorem X_cL {P : Prop} [Decidable P] {c : CF} {zi pcz mid pc : Nat} {lz sz loc rest : List Value} {hz : HP} {z : MT} (h : act c = if P then some (.inr (.inr ((zi, pcz, lz, sz, hz), mid, pc, loc, rest))) else none) (hm : nth mtab zi = some z) (ht : mT z = some .long) : X c = if P then bL (X (zi, pcz, lz, sz, hz)) (fun v h' => X (mid, pc, loc, .long v :: rest, h')) else none := by
  by_cases q : P
  · rw [if_pos q] at h ⊢
    rw [X_call h]
    cases hx : X (zi, pcz, lz, sz, hz) with
    | none => rfl
    | some r =>
      obtain ⟨r0, h0⟩ := r
      obtain ⟨n, hn⟩ := X_some.mp hx
      obtain ⟨pc', hri⟩ := run_RI n _ _ _ _ _ _ _ _ hm hn
      rcases hri with ⟨-, -, e⟩ | ⟨v, ty', -, -, e, e2⟩ | ⟨v, rfl, -, e⟩
      · rw [ht] at e; cases e
      · rw [ht] at e; cases e; exact absurd rfl e2.2
      · rfl
  · rw [if_neg q] at h ⊢; exact X_none h
theorem X_cV {P : Prop} [Decidable P] {c : CF} {zi pcz mid pc : Nat} {lz sz loc rest : List Value} {hz : HP} {z : MT} (h : act c = if P then some (.inr (.inr ((zi, pcz, lz, sz, hz), mid, pc, loc, rest))) else none) (hm : nth mtab zi = some z) (ht : mT z = none) : X c = if P then bV (X (zi, pcz, lz, sz, hz)) (fun h' => X (mid, pc, loc, rest, h')) else none := by
  by_cases q : P
  · rw [if_pos q] at h ⊢
    rw [X_call h]
    cases hx : X (zi, pcz, lz, sz, hz) with
    | none => rfl
    | some r =>
      obtain ⟨r0, h0⟩ := r
      obtain ⟨n, hn⟩ := X_some.mp hx
      obtain ⟨pc', hri⟩ := run_RI n _ _ _ _ _ _ _ _ hm hn
      rcases hri with ⟨rfl, -, -⟩ | ⟨v, ty', -, -, e, -⟩ | ⟨v, -, -, e⟩
      · rfl
      · rw [ht] at e; cases e
      · rw [ht] at e; cases e
  · rw [if_neg q] at h ⊢; exact X_none h
theorem X_cI0 {c : CF} {zi pcz mid pc : Nat} {lz sz loc rest : List Value} {hz : HP} {z : MT} {ty : FieldType} (h : act c = some (.inr (.inr ((zi, pcz, lz, sz, hz), mid, pc, loc, rest)))) (hm : nth mtab zi = some z) (ht : mT z = some ty) (hl : ty ≠ .long) : X c = bI (X (zi, pcz, lz, sz, hz)) (fun v h' => X (mid, pc, loc, .int v :: rest, h')) := by
  have := X_cI (P := True) (by rw [if_pos trivial]; exact h) hm ht hl
  rwa [if_pos trivial] at this
theorem X_cL0 {c : CF} {zi pcz mid pc : Nat} {lz sz loc rest : List Value} {hz : HP} {z : MT} (h : act c = some (.inr (.inr ((zi, pcz, lz, sz, hz), mid, pc, loc, rest)))) (hm : nth mtab zi = some z) (ht : mT z = some .long) : X c = bL (X (zi, pcz, lz, sz, hz)) (fun v h' => X (mid, pc, loc, .long v :: rest, h')) := by
  have := X_cL (P := True) (by rw [if_pos trivial]; exact h) hm ht
  rwa [if_pos trivial] at this
theorem X_cV0 {c : CF} {zi pcz mid pc : Nat} {lz sz loc rest : List Value} {hz : HP} {z : MT} (h : act c = some (.inr (.inr ((zi, pcz, lz, sz, hz), mid, pc, loc, rest)))) (hm : nth mtab zi = some z) (ht : mT z = none) : X c = bV (X (zi, pcz, lz, sz, hz)) (fun h' => X (mid, pc, loc, rest, h')) := by
  have := X_cV (P := True) (by rw [if_pos trivial]; exact h) hm ht
  rwa [if_pos trivial] at this
theorem X_gd2 {P Q : Prop} [Decidable P] [Decidable Q] {c c1 : CF} (h : act c = if P then (if Q then some (.inr (.inl c1)) else none) else none) : X c = if P then (if Q then X c1 else none) else none := by
  by_cases q : P
  · rw [if_pos q] at h ⊢; exact X_gd h
  · rw [if_neg q] at h ⊢; exact X_none h
theorem nl_i (x : Int32) : nl (.int x) = .int x := rfl
theorem nl_r (x : Nat) : nl (.ref x) = .ref x := rfl
theorem nl_n : nl .null = .null := rfl
theorem nl_l (x : Int64) : nl (.long x) = .null := rfl
