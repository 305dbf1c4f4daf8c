/-! calls, returns, and the whole walk -/
def RI (z : MT) (pc : Nat) (r : Option Value) : Prop :=
  (r = none ∧ decode (mB z) pc = .ok (.return_, 1) ∧ mT z = none) ∨ (∃ v ty, r = some (.int v) ∧ decode (mB z) pc = .ok (.ireturn, 1) ∧ mT z = some ty ∧ narrow ty (.int v) = .int v ∧ ty ≠ .long) ∨ (∃ v, r = some (.long v) ∧ decode (mB z) pc = .ok (.lreturn, 1) ∧ mT z = some .long)
theorem inv_noR {mid pc : Nat} {loc stk : List Value} {h : HP} {k zi : Nat} {d : Option Value × HP} (ha : inv mid pc loc stk h k zi = some (.inl d)) : False := by
  have cl_noR : ∀ {rest : List Value} {z : MT} {as : List Value}, cl mid pc loc rest h z zi as = some (.inl d) → False := by
    intro rest z as ha
    unfold cl at ha
    split at ha <;> cases ha
  unfold inv at ha
  split at ha
  next => cases ha
  next =>
    split at ha
    next =>
      split at ha
      next => exact cl_noR ha
      next =>
        split at ha
        next =>
          split at ha
          next => exact cl_noR ha
          next =>
            split at ha
            next => exact cl_noR ha
            next => cases ha
        next => cases ha
    next => cases ha
theorem rtB_ok {t : Option FieldType} {v : Int32} (h : rtB t v = true) : ∃ ty, t = some ty ∧ narrow ty (.int v) = .int v ∧ ty ≠ .long := by
  unfold rtB at h
  split at h
  next => exact ⟨.int, rfl, rfl, by simp⟩
  next =>
    rcases of_decide_eq_true h with rfl | rfl
    · exact ⟨.boolean, rfl, rfl, by simp⟩
    · exact ⟨.boolean, rfl, rfl, by simp⟩
  next => cases h
set_option maxHeartbeats 4000000 in
set_option maxRecDepth 100000 in
theorem act_ret {mid pc : Nat} {loc stk : List Value} {h hf : HP} {r : Option Value} {z : MT} (hz : nth mtab mid = some z) (ha : act (mid, pc, loc, stk, h) = some (.inl (r, hf))) : hf = h ∧ RI z pc r ∧ stk = r.toList := by
  unfold act at ha
  dsimp only at ha
  rw [hz] at ha
  dsimp only at ha
  cases hfe : fe z pc with
  | none => rw [hfe] at ha; cases ha
  | some e =>
    rw [hfe] at ha
    obtain ⟨-, hd, hlen, hck, hlk⟩ := e_facts hz hfe
    obtain ⟨pc0, ins, len, a, b, c⟩ := e
    dsimp only at ha hd hlen hck hlk
    cases ins
    case ireturn =>
      have hl9 : len = 1 := hlen (fun q => Nat.noConfusion (show 1 = 0 from q))
      subst hl9
      unfold actI at ha
      dsimp only at ha
      split at ha
      next v =>
        split at ha
        next hq =>
          cases ha
          obtain ⟨ty, t1, t2⟩ := rtB_ok hq
          exact ⟨rfl, Or.inr (Or.inl ⟨v, ty, rfl, hd, t1, t2⟩), rfl⟩
        next => cases ha
      next => cases ha
    case lreturn =>
      have hl9 : len = 1 := hlen (fun q => Nat.noConfusion (show 1 = 0 from q))
      subst hl9
      unfold actI at ha
      dsimp only at ha
      split at ha
      next v =>
        split at ha
        next hq =>
          cases ha
          exact ⟨rfl, Or.inr (Or.inr ⟨v, rfl, hd, hq⟩), rfl⟩
        next => cases ha
      next => cases ha
    case return_ =>
      have hl9 : len = 1 := hlen (fun q => Nat.noConfusion (show 1 = 0 from q))
      subst hl9
      unfold actI at ha
      dsimp only at ha
      split at ha
      next =>
        split at ha
        next hq =>
          cases ha
          exact ⟨rfl, Or.inl ⟨rfl, hd, hq⟩, rfl⟩
        next => cases ha
      next => cases ha
    case invokevirtual i => exact (inv_noR ha).elim
    case invokespecial i =>
      unfold actI at ha
      dsimp only at ha
      split at ha
      next =>
        split at ha
        next =>
          split at ha <;> cases ha
        next => cases ha
      next => exact (inv_noR ha).elim
    case invokestatic i =>
      unfold actI at ha
      dsimp only at ha
      split at ha
      next =>
        split at ha
        next =>
          split at ha <;> cases ha
        next => cases ha
      next =>
        split at ha
        next =>
          split at ha
          next =>
            split at ha <;> cases ha
          next => cases ha
        next =>
          split at ha
          next =>
            split at ha
            next =>
              split at ha <;> cases ha
            next => cases ha
          next => exact (inv_noR ha).elim
    case if_icmp q off =>
      unfold actI at ha
      dsimp only at ha
      split at ha
      next =>
        cases q <;> (unfold br at ha; dsimp only at ha; split at ha <;> cases ha)
      next => cases ha
    case ifCond q off =>
      unfold actI at ha
      dsimp only at ha
      split at ha
      next =>
        cases q <;> (unfold br at ha; dsimp only at ha; split at ha <;> cases ha)
      next => cases ha
    all_goals exact absurd ha (by simp only [actI, nx, ldI, ldL, ldR, soI, soL, soR, opI, opD, opL]; (try (split <;> (try (split <;> (try (split <;> (try (split <;> (try (split <;> simp)) <;> simp)) <;> simp)) <;> simp)) <;> simp)); (try simp))
