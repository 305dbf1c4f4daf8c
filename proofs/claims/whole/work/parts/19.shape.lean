/-! the shape of the heap: where the objects of the two systems lie, and that no method but constructors changes it -/
def ktL : List Nat := [13, 13, 13, 13, 13, 5, 0, 10, 10, 10, 1, 10, 3, 10, 12, 4, 2, 10, 10, 12, 12, 10, 10, 11, 11, 11, 6, 10, 10, 10, 10, 10, 10, 10, 10, 10, 10, 10, 11, 11, 10, 10]
def ntL : List Nat := [10, 40, 20, 7, 0, 0, 0, 20, 20, 20, 0, 6, 0, 20, 40, 0, 0, 21, 76, 76, 76, 64, 21, 0, 76, 76, 0, 20, 20, 10, 20, 20, 10, 21, 16800, 2048, 168000, 168000, 403200, 16800, 20, 40]
def rtL : List (Nat × Nat × Nat) := [(5, 0, 6), (5, 1, 12), (5, 2, 15), (6, 3, 7), (6, 4, 8), (6, 5, 9), (10, 0, 6), (10, 1, 11), (12, 0, 6), (12, 1, 10), (12, 2, 13), (12, 3, 14), (15, 0, 6), (15, 1, 16), (15, 2, 22), (16, 0, 6), (16, 1, 10), (16, 2, 17), (16, 3, 18), (26, 3, 27), (26, 4, 28), (26, 6, 29), (26, 7, 30), (26, 8, 31), (26, 9, 32), (26, 11, 33), (26, 12, 34), (26, 13, 35), (26, 14, 36), (26, 15, 37), (26, 16, 38), (26, 17, 39), (26, 19, 40), (26, 20, 41)]
def dynL : List (Nat × Nat) := [(2, 4), (2, 5), (2, 6), (4, 3), (4, 4), (4, 5)]
def kt (i : Nat) : Nat := ktL.getD i 99
def nt (i : Nat) : Nat := ntL.getD i 0
def SH (h : HP) : Prop := 42 ≤ hZ h ∧ (∀ i, i < 42 → hK h i = kt i) ∧ (∀ i, i < 42 → i ≠ 4 → hN h i = nt i) ∧ (∀ p ∈ rtL, hR h p.1 p.2.1 = some p.2.2) ∧ ∀ i, i < 4 → hI h i = xv i
theorem SH.k {h : HP} (hs : SH h) (i : Nat) (hi : Nat.ble (i + 1) 42 = true) : hK h i = kt i := hs.2.1 i (Nat.le_of_ble_eq_true hi)
theorem SH.n {h : HP} (hs : SH h) (i : Nat) (hi : (Nat.ble (i + 1) 42 && !Nat.beq i 4) = true) : hN h i = nt i := by
  simp only [Bool.and_eq_true, Bool.not_eq_true'] at hi
  refine hs.2.2.1 i (Nat.le_of_ble_eq_true hi.1) (fun q => ?_)
  have h2 := hi.2
  rw [q] at h2
  cases h2
theorem SH.r {h : HP} (hs : SH h) (j : Nat) {p : Nat × Nat × Nat} (hj : nth rtL j = some p) : hR h p.1 p.2.1 = some p.2.2 := hs.2.2.2.1 p (nth_mem hj)
theorem SH.t {h : HP} (hs : SH h) (i : Nat) (hi : Nat.ble (i + 1) 4 = true) : hI h i = xv i := hs.2.2.2.2 i (Nat.le_of_ble_eq_true hi)
def ckS (z : MT) : Bool := Nat.beq (mS z) 2 || (mC z).all (fun e => match e.2.1 with
  | .putfield _ => !Nat.beq (ft e.2.2.2.1 e.2.2.2.2.1) 2 || dynL.contains (e.2.2.2.1, e.2.2.2.2.1)
  | .invokespecial _ => false
  | _ => true)
set_option maxRecDepth 100000 in
theorem ckS_ok : (mtab.take 144).all ckS = true := by decide +kernel
def HC (b : Bool) (h h' : HP) : Prop := h' = h ∨ (∃ (o : Nat) (f : Nat → Int32), hK h o ≠ 13 ∧ h' = sA h o f) ∨ (∃ (o : Nat) (f : Nat → Int64), h' = sB h o f) ∨ (∃ a b' o q, hK h o = a ∧ h' = sR h o b' (some q) ∧ (b = true ∨ (a, b') ∈ dynL)) ∨ ∃ a n w, h' = nw h a n w
theorem SH.hc {h h' : HP} (hs : SH h) (hc : HC false h h') : SH h' := by
  obtain ⟨s0, s1, s2, s3, s4⟩ := hs
  rcases hc with rfl | ⟨o, f, hk, rfl⟩ | ⟨o, f, rfl⟩ | ⟨a, b', o, q, hk, rfl, hd⟩ | ⟨a, n, w, rfl⟩
  · exact ⟨s0, s1, s2, s3, s4⟩
  · refine ⟨s0, s1, s2, s3, fun i hi => ?_⟩
    rw [hI_sA]
    by_cases hio : i = o
    · subst hio
      rw [s1 i (by omega)] at hk
      exfalso
      match i, hi with
      | 0, _ => exact hk rfl
      | 1, _ => exact hk rfl
      | 2, _ => exact hk rfl
      | 3, _ => exact hk rfl
    · rw [if_neg hio]; exact s4 i hi
  · exact ⟨s0, s1, s2, s3, s4⟩
  · refine ⟨s0, s1, s2, fun p hp => ?_, s4⟩
    rw [hR_sRr]
    by_cases hpo : p.1 = o
    · rw [if_pos hpo]
      unfold va_up
      by_cases hpb : p.2.1 = b'
      · exfalso
        rcases hd with hd | hd
        · cases hd
        · have hlt : ∀ p ∈ rtL, p.1 < 42 ∧ (kt p.1, p.2.1) ∉ dynL := by decide +kernel
          have := hlt p hp
          rw [← hk, ← hpo, s1 p.1 this.1, ← hpb] at hd
          exact this.2 hd
      · rw [if_neg hpb, ← hpo]; exact s3 p hp
    · rw [if_neg hpo]; exact s3 p hp
  · refine ⟨by rw [hZ_nw]; omega, fun i hi => ?_, fun i hi h4 => ?_, fun p hp => ?_, fun i hi => ?_⟩
    · rw [hK_nw, if_neg (by omega)]; exact s1 i hi
    · rw [hN_nw, if_neg (by omega)]; exact s2 i hi h4
    · have hlt : ∀ p ∈ rtL, p.1 < 42 := by decide +kernel
      have := hlt p hp
      rw [hR_nw, if_neg (by omega)]; exact s3 p hp
    · rw [hI_nw, if_neg (by omega)]; exact s4 i hi
set_option maxHeartbeats 4000000 in
set_option maxRecDepth 100000 in
theorem act_heap {mid pc : Nat} {loc stk : List Value} {h : HP} {d : CF} {z : MT} (hz : nth mtab mid = some z) (hck : ckS z = true) (ha : act (mid, pc, loc, stk, h) = some (.inr (.inl d))) : HC (Nat.beq (mS z) 2) h d.2.2.2.2 := by
  unfold act at ha
  dsimp only at ha
  rw [hz] at ha
  dsimp only at ha
  cases hfe : fe z pc with
  | none => rw [hfe] at ha; cases ha
  | some e =>
    rw [hfe] at ha
    have hmem : e ∈ mC z := List.mem_of_find?_eq_some hfe
    obtain ⟨pc0, ins, len, a, b, c⟩ := e
    dsimp only at ha
    cases ins
    case iinc i n =>
      unfold actI at ha
      dsimp only at ha
      split at ha
      next => cases nx_inj ha; exact Or.inl rfl
      next => cases ha
    case iload i => obtain ⟨x, hv, rfl⟩ := v_ldI ha; exact Or.inl rfl
    case iload_n i => obtain ⟨x, hv, rfl⟩ := v_ldI ha; exact Or.inl rfl
    case lload i => obtain ⟨x, hv, rfl⟩ := v_ldL ha; exact Or.inl rfl
    case lload_n i => obtain ⟨x, hv, rfl⟩ := v_ldL ha; exact Or.inl rfl
    case aload i => obtain ⟨x, hv, rfl⟩ := v_ldR ha; exact Or.inl rfl
    case aload_n i => obtain ⟨x, hv, rfl⟩ := v_ldR ha; exact Or.inl rfl
    case istore i => obtain ⟨x, st, rfl, hi, rfl⟩ := v_soI ha; exact Or.inl rfl
    case istore_n i => obtain ⟨x, st, rfl, hi, rfl⟩ := v_soI ha; exact Or.inl rfl
    case lstore i => obtain ⟨x, st, rfl, hi, rfl⟩ := v_soL ha; exact Or.inl rfl
    case lstore_n i => obtain ⟨x, st, rfl, hi, rfl⟩ := v_soL ha; exact Or.inl rfl
    case astore i => obtain ⟨x, st, rfl, hi, rfl⟩ := v_soR ha; exact Or.inl rfl
    case astore_n i => obtain ⟨x, st, rfl, hi, rfl⟩ := v_soR ha; exact Or.inl rfl
    case iadd => obtain ⟨x, y, st, rfl, rfl⟩ := v_opI ha; exact Or.inl rfl
    case isub => obtain ⟨x, y, st, rfl, rfl⟩ := v_opI ha; exact Or.inl rfl
    case imul => obtain ⟨x, y, st, rfl, rfl⟩ := v_opI ha; exact Or.inl rfl
    case iand => obtain ⟨x, y, st, rfl, rfl⟩ := v_opI ha; exact Or.inl rfl
    case ior => obtain ⟨x, y, st, rfl, rfl⟩ := v_opI ha; exact Or.inl rfl
    case ixor => obtain ⟨x, y, st, rfl, rfl⟩ := v_opI ha; exact Or.inl rfl
    case ishl => obtain ⟨x, y, st, rfl, rfl⟩ := v_opI ha; exact Or.inl rfl
    case ishr => obtain ⟨x, y, st, rfl, rfl⟩ := v_opI ha; exact Or.inl rfl
    case iushr => obtain ⟨x, y, st, rfl, rfl⟩ := v_opI ha; exact Or.inl rfl
    case idiv => obtain ⟨x, y, st, rfl, hy, rfl⟩ := v_opD ha; exact Or.inl rfl
    case irem => obtain ⟨x, y, st, rfl, hy, rfl⟩ := v_opD ha; exact Or.inl rfl
    case ladd => obtain ⟨x, y, st, rfl, rfl⟩ := v_opL ha; exact Or.inl rfl
    case lsub => obtain ⟨x, y, st, rfl, rfl⟩ := v_opL ha; exact Or.inl rfl
    case lmul => obtain ⟨x, y, st, rfl, rfl⟩ := v_opL ha; exact Or.inl rfl
    case land => obtain ⟨x, y, st, rfl, rfl⟩ := v_opL ha; exact Or.inl rfl
    case lor => obtain ⟨x, y, st, rfl, rfl⟩ := v_opL ha; exact Or.inl rfl
    case iconst n => cases nx_inj ha; exact Or.inl rfl
    case bipush n => cases nx_inj ha; exact Or.inl rfl
    case sipush n => cases nx_inj ha; exact Or.inl rfl
    case lconst n => cases nx_inj ha; exact Or.inl rfl
    case ldc i => cases nx_inj ha; exact Or.inl rfl
    case ldc_w i => cases nx_inj ha; exact Or.inl rfl
    case ldc2_w i => cases nx_inj ha; exact Or.inl rfl
    case goto off => cases nx_inj ha; exact Or.inl rfl
    case getstatic i => cases nx_inj ha; exact Or.inl rfl
    case invokevirtual i => exact (inv_no ha).elim
    case putfield i =>
      have hsr : Nat.beq (mS z) 2 = true ∨ (ft a b ≠ 2 ∨ (a, b) ∈ dynL) := by
        unfold ckS at hck
        rcases (Bool.or_eq_true _ _).mp hck with q | q
        · exact Or.inl q
        · right
          have := List.all_eq_true.mp q _ hmem
          dsimp only at this
          rcases (Bool.or_eq_true _ _).mp this with q | q
          · left
            intro h2
            rw [h2] at q
            cases q
          · exact Or.inr (List.contains_iff_mem.mp q)
      unfold actI at ha
      dsimp only at ha
      split at ha
      next x o st =>
        split at ha
        next hko =>
          have hn : hK h o ≠ 13 ∨ ft a b = 9 := by
            by_cases h13 : a = 13
            · right; rw [h13]; rfl
            · left; rw [hko]; exact h13
          split at ha
          next hft =>
            cases nx_inj ha
            rcases hn with hn | hn
            · exact Or.inr (Or.inl ⟨o, _, hn, rfl⟩)
            · rw [hft] at hn; cases hn
          next =>
            split at ha
            next hft =>
              split at ha
              next =>
                cases nx_inj ha
                rcases hn with hn | hn
                · exact Or.inr (Or.inl ⟨o, _, hn, rfl⟩)
                · rw [hft] at hn; cases hn
              next => cases ha
            next => cases ha
        next => cases ha
      next q o st =>
        split at ha
        next hko =>
          split at ha
          next hft =>
            cases nx_inj ha
            refine Or.inr (Or.inr (Or.inr (Or.inl ⟨a, b, o, q, hko, rfl, ?_⟩)))
            rcases hsr with u | u | u
            · exact Or.inl u
            · exact absurd hft u
            · exact Or.inr u
          next => cases ha
        next => cases ha
      next => cases ha
    case iastore =>
      unfold actI at ha
      dsimp only at ha
      split at ha
      next x i o st =>
        split at ha
        next hq => cases nx_inj ha; exact Or.inr (Or.inl ⟨o, _, by rw [hq.1]; decide, rfl⟩)
        next => cases ha
      next => cases ha
    case bastore =>
      unfold actI at ha
      dsimp only at ha
      split at ha
      next x i o st =>
        split at ha
        next hq => cases nx_inj ha; exact Or.inr (Or.inl ⟨o, _, by rw [hq.1]; decide, rfl⟩)
        next => cases ha
      next => cases ha
    case lastore =>
      unfold actI at ha
      dsimp only at ha
      split at ha
      next x i o st =>
        split at ha
        next hq => cases nx_inj ha; exact Or.inr (Or.inr (Or.inl ⟨o, _, rfl⟩))
        next => cases ha
      next => cases ha
    case new i => cases nx_inj ha; exact Or.inr (Or.inr (Or.inr (Or.inr ⟨_, _, _, rfl⟩)))
    case newarray t =>
      unfold actI at ha
      dsimp only at ha
      split at ha
      next =>
        split at ha
        next => cases nx_inj ha; exact Or.inr (Or.inr (Or.inr (Or.inr ⟨_, _, _, rfl⟩)))
        next => cases ha
      next => cases ha
    case invokespecial i =>
      unfold actI at ha
      dsimp only at ha
      split at ha
      next =>
        split at ha
        next =>
          split at ha
          next => cases nx_inj ha; exact Or.inl rfl
          next => cases ha
        next => cases ha
      next => exact (inv_no ha).elim
    case invokestatic i =>
      unfold actI at ha
      dsimp only at ha
      split at ha
      next =>
        split at ha
        next n dp q sp o st =>
          split at ha
          next hq => cases nx_inj ha; exact Or.inr (Or.inl ⟨q, _, by rw [hq.1.2.1]; decide, rfl⟩)
          next => cases ha
        next => cases ha
      next =>
        split at ha
        next =>
          split at ha
          next =>
            split at ha
            next => cases nx_inj ha; exact Or.inl rfl
            next => cases ha
          next => cases ha
        next =>
          split at ha
          next =>
            split at ha
            next =>
              split at ha
              next => cases nx_inj ha; exact Or.inl rfl
              next => cases ha
            next => cases ha
          next => exact (inv_no ha).elim
    case if_icmp q off =>
      unfold actI at ha
      dsimp only at ha
      split at ha
      next =>
        cases q <;> (unfold br at ha; dsimp only at ha; split at ha <;> (cases nx_inj ha; exact Or.inl rfl))
      next => cases ha
    case ifCond q off =>
      unfold actI at ha
      dsimp only at ha
      split at ha
      next =>
        cases q <;> (unfold br at ha; dsimp only at ha; split at ha <;> (cases nx_inj ha; exact Or.inl rfl))
      next => cases ha
    case tableswitch d lo hi offs =>
      unfold actI at ha
      dsimp only at ha
      split at ha
      next =>
        split at ha
        next => cases nx_inj ha; exact Or.inl rfl
        next =>
          split at ha
          next => cases nx_inj ha; exact Or.inl rfl
          next => cases ha
      next => cases ha
    case getfield i =>
      unfold actI at ha
      dsimp only at ha
      split at ha
      next =>
        split at ha
        next =>
          split at ha
          next =>
            split at ha
            next => cases nx_inj ha; exact Or.inl rfl
            next => cases ha
          next =>
            split at ha
            next => cases nx_inj ha; exact Or.inl rfl
            next => cases ha
        next => cases ha
      next => cases ha
    case dup =>
      unfold actI at ha
      dsimp only at ha
      split at ha
      next =>
        split at ha
        next => cases nx_inj ha; exact Or.inl rfl
        next => cases ha
      next => cases ha
    case dup2 =>
      unfold actI at ha
      dsimp only at ha
      split at ha
      next =>
        split at ha
        next => cases nx_inj ha; exact Or.inl rfl
        next => cases ha
      next => cases ha
    case pop =>
      unfold actI at ha
      dsimp only at ha
      split at ha
      next =>
        split at ha
        next => cases nx_inj ha; exact Or.inl rfl
        next => cases ha
      next => cases ha
    case iaload =>
      unfold actI at ha
      dsimp only at ha
      split at ha
      next =>
        split at ha
        next => cases nx_inj ha; exact Or.inl rfl
        next => cases ha
      next => cases ha
    case baload =>
      unfold actI at ha
      dsimp only at ha
      split at ha
      next =>
        split at ha
        next => cases nx_inj ha; exact Or.inl rfl
        next => cases ha
      next => cases ha
    case laload =>
      unfold actI at ha
      dsimp only at ha
      split at ha
      next =>
        split at ha
        next => cases nx_inj ha; exact Or.inl rfl
        next => cases ha
      next => cases ha
    case arraylength =>
      unfold actI at ha
      dsimp only at ha
      split at ha
      next =>
        split at ha
        next => cases nx_inj ha; exact Or.inl rfl
        next => cases ha
      next => cases ha
    case lshl =>
      unfold actI at ha
      dsimp only at ha
      split at ha
      next => cases nx_inj ha; exact Or.inl rfl
      next => cases ha
    case lcmp =>
      unfold actI at ha
      dsimp only at ha
      split at ha
      next => cases nx_inj ha; exact Or.inl rfl
      next => cases ha
    case i2l =>
      unfold actI at ha
      dsimp only at ha
      split at ha
      next => cases nx_inj ha; exact Or.inl rfl
      next => cases ha
    case ireturn =>
      unfold actI at ha
      dsimp only at ha
      split at ha
      next =>
        split at ha <;> cases ha
      next => cases ha
    case lreturn =>
      unfold actI at ha
      dsimp only at ha
      split at ha
      next =>
        split at ha <;> cases ha
      next => cases ha
    case return_ =>
      unfold actI at ha
      dsimp only at ha
      split at ha
      next =>
        split at ha <;> cases ha
      next => cases ha
    all_goals exact absurd ha (by simp [actI])
theorem SH_run : ∀ (n mid pc : Nat) (z : MT) (loc stk : List Value) (h : HP) (r : Option Value) (hf : HP), mid < 144 → nth mtab mid = some z → mS z ≠ 2 → run n (mid, pc, loc, stk, h) = some (r, hf) → SH h → SH hf := by
  intro n
  induction n with
  | zero => intro mid pc z loc stk h r hf _ _ _ hr; exact absurd hr (by simp [run])
  | succ n ih =>
    intro mid pc z loc stk h r hf hm hz hsz hr hs
    have hck : ckS z = true := by
      refine List.all_eq_true.mp ckS_ok z ?_
      rw [nth_get] at hz
      refine List.mem_of_getElem? (i := mid) ?_
      rw [List.getElem?_take, if_pos hm]; exact hz
    have hb : Nat.beq (mS z) 2 = false := by
      cases hq : Nat.beq (mS z) 2 with
      | false => rfl
      | true => exact absurd (Nat.eq_of_beq_eq_true hq) hsz
    rw [run] at hr
    cases ha : act (mid, pc, loc, stk, h) with
    | none => rw [ha] at hr; cases hr
    | some x =>
      rw [ha] at hr
      rcases x with ⟨r0, h0⟩ | d | ⟨cz, mid', pc', loc', rest⟩
      · cases hr
        obtain ⟨rfl, -, -⟩ := act_ret hz ha
        exact hs
      · have hc := act_heap hz hck ha
        obtain ⟨hd1, -, -⟩ := act_nx hz ha
        obtain ⟨dm, dpc, dloc, dstk, dh⟩ := d
        dsimp only at hd1 hr hc
        subst hd1
        rw [hb] at hc
        exact ih _ _ _ _ _ _ _ _ hm hz hsz hr (hs.hc hc)
      · dsimp only at hr
        obtain ⟨k, zi, i, y, hinv, hy, hzi, hsy, -, hdec, -⟩ := act_call hz ha
        obtain ⟨y2, as, rest2, hy2, -, hx2, -⟩ := inv_call hinv
        cases hy.symm.trans hy2
        cases hx2
        have hk2 : mS y ≠ 2 := by
          intro h2
          rw [hsy] at h2
          have hd : decode (mB z) pc = .ok (.invokespecial i, 3) := by
            rcases hdec with ⟨q, -⟩ | ⟨q, -⟩ | ⟨-, q⟩
            · omega
            · omega
            · exact q
          unfold act at ha
          dsimp only at ha
          rw [hz] at ha
          dsimp only at ha
          cases hfe : fe z pc with
          | none => rw [hfe] at ha; cases ha
          | some e =>
            obtain ⟨-, hd2, -⟩ := e_facts hz hfe
            rw [hd2] at hd
            have he : e.2.1 = .invokespecial i := by
              injection hd with hd3
              exact congrArg Prod.fst hd3
            have hmem : e ∈ mC z := List.mem_of_find?_eq_some hfe
            unfold ckS at hck
            rw [hb, Bool.false_or] at hck
            have := List.all_eq_true.mp hck e hmem
            rw [he] at this
            cases this
        cases hz1 : run n (zi, 0, ent (mX y) as, [], h) with
        | none => rw [hz1] at hr; cases hr
        | some q =>
          rw [hz1] at hr
          exact ih _ _ _ _ _ _ _ _ hm hz hsz hr (ih _ _ _ _ _ _ _ _ hzi hy hk2 hz1 hs)
theorem SH_X {zi pc : Nat} {loc stk : List Value} {h hf : HP} {r : Option Value} {z : MT} (hm : Nat.ble (zi + 1) 144 = true) (hz : nth mtab zi = some z) (hk : Nat.beq (mS z) 2 = false) (hx : X (zi, pc, loc, stk, h) = some (r, hf)) (hs : SH h) : SH hf := by
  obtain ⟨n, hn⟩ := X_some.mp hx
  refine SH_run n zi pc z loc stk h r hf (Nat.le_of_ble_eq_true hm) hz ?_ hn hs
  intro h2
  rw [h2] at hk
  cases hk
/-- trees without the guards that the shape settles -/
theorem gd_c {P : Prop} [Decidable P] {t t' : RS} (hp : P) (h : t = t') : (if P then t else none) = t' := by rw [if_pos hp, h]
theorem rd_c {P : Prop} [Decidable P] {o : Option Nat} {f : Nat → RS} {q : Nat} {t' : RS} (hp : P) (ho : o = some q) (h : f q = t') : (if P then o.bind f else none) = t' := by rw [if_pos hp, ho, Option.bind_some, h]
theorem ite_c {P : Prop} [Decidable P] {a a' b b' : RS} (h1 : a = a') (h2 : b = b') : (if P then a else b) = if P then a' else b' := by rw [h1, h2]
theorem al_c {k m n : Nat} {i : Int32} {t t' : RS} (hk : k = 10 ∨ k = 13) (hn : m = n) (h : t = t') : (if (k = 10 ∨ k = 13) ∧ inB i m = true then t else none) = if inB i n = true then t' else none := by
  subst hn
  subst h
  by_cases q : inB i m = true
  · rw [if_pos ⟨hk, q⟩, if_pos q]
  · rw [if_neg (fun u => q u.2), if_neg q]
theorem as_c {k j m n : Nat} {i : Int32} {t t' : RS} (hk : k = j) (hn : m = n) (h : t = t') : (if k = j ∧ inB i m = true then t else none) = if inB i n = true then t' else none := by
  subst hn
  subst h
  by_cases q : inB i m = true
  · rw [if_pos ⟨hk, q⟩, if_pos q]
  · rw [if_neg (fun u => q u.2), if_neg q]
theorem bI_c {zi pc : Nat} {loc stk : List Value} {h : HP} {z : MT} {k k' : Int32 → HP → RS} (hs : SH h) (hm : Nat.ble (zi + 1) 144 = true) (hz : nth mtab zi = some z) (hk : Nat.beq (mS z) 2 = false) (e : ∀ (r : Int32) (h1 : HP), SH h1 → k r h1 = k' r h1) : bI (X (zi, pc, loc, stk, h)) k = bI (X (zi, pc, loc, stk, h)) k' := by
  cases hx : X (zi, pc, loc, stk, h) with
  | none => rfl
  | some q =>
    obtain ⟨r, h1⟩ := q
    have hs1 := SH_X hm hz hk hx hs
    cases r with
    | none => rfl
    | some v => cases v <;> first | rfl | exact e _ _ hs1
theorem bL_c {zi pc : Nat} {loc stk : List Value} {h : HP} {z : MT} {k k' : Int64 → HP → RS} (hs : SH h) (hm : Nat.ble (zi + 1) 144 = true) (hz : nth mtab zi = some z) (hk : Nat.beq (mS z) 2 = false) (e : ∀ (r : Int64) (h1 : HP), SH h1 → k r h1 = k' r h1) : bL (X (zi, pc, loc, stk, h)) k = bL (X (zi, pc, loc, stk, h)) k' := by
  cases hx : X (zi, pc, loc, stk, h) with
  | none => rfl
  | some q =>
    obtain ⟨r, h1⟩ := q
    have hs1 := SH_X hm hz hk hx hs
    cases r with
    | none => rfl
    | some v => cases v <;> first | rfl | exact e _ _ hs1
theorem bV_c {zi pc : Nat} {loc stk : List Value} {h : HP} {z : MT} {k k' : HP → RS} (hs : SH h) (hm : Nat.ble (zi + 1) 144 = true) (hz : nth mtab zi = some z) (hk : Nat.beq (mS z) 2 = false) (e : ∀ (h1 : HP), SH h1 → k h1 = k' h1) : bV (X (zi, pc, loc, stk, h)) k = bV (X (zi, pc, loc, stk, h)) k' := by
  cases hx : X (zi, pc, loc, stk, h) with
  | none => rfl
  | some q =>
    obtain ⟨r, h1⟩ := q
    have hs1 := SH_X hm hz hk hx hs
    cases r with
    | none => exact e _ hs1
    | some v => rfl
theorem ift_c {P : Prop} [Decidable P] {a a' b : RS} (hp : P) (h : a = a') : (if P then a else b) = a' := by rw [if_pos hp, h]
theorem iff_c {P : Prop} [Decidable P] {a b b' : RS} (hp : ¬ P) (h : b = b') : (if P then a else b) = b' := by rw [if_neg hp, h]
theorem iteh_c {P : Prop} [Decidable P] {a a' b b' : RS} (h1 : P → a = a') (h2 : b = b') : (if P then a else b) = if P then a' else b' := by
  by_cases q : P
  · rw [if_pos q, if_pos q, h1 q]
  · rw [if_neg q, if_neg q, h2]
theorem rdd_c {P : Prop} [Decidable P] {o : Option Nat} {f f' : Nat → RS} (hp : P) (h : ∀ q, f q = f' q) : (if P then o.bind f else none) = o.bind f' := by
  rw [if_pos hp]
  cases o with
  | none => rfl
  | some q => exact h q
theorem SH.sAd {h : HP} {o : Nat} {f : Nat → Int32} (hs : SH h) (hk : hK h o ≠ 13) : SH (sA h o f) := hs.hc (Or.inr (Or.inl ⟨o, f, hk, rfl⟩))
theorem SH.sId {h : HP} {o k : Nat} {v : Int32} (hs : SH h) (hk : hK h o ≠ 13) : SH (sI h o k v) := hs.hc (Or.inr (Or.inl ⟨o, _, hk, rfl⟩))
theorem SH.sIs {h : HP} (hs : SH h) (o : Nat) (ho : (Nat.ble (o + 1) 42 && !Nat.beq (kt o) 13) = true) {k : Nat} {v : Int32} : SH (sI h o k v) := by
  simp only [Bool.and_eq_true, Bool.not_eq_true'] at ho
  refine hs.sId ?_
  rw [hs.k o ho.1]
  intro q
  have h2 := ho.2
  rw [q] at h2
  cases h2
theorem SH.sAs {h : HP} (hs : SH h) (o : Nat) (ho : (Nat.ble (o + 1) 42 && !Nat.beq (kt o) 13) = true) {f : Nat → Int32} : SH (sA h o f) := by
  simp only [Bool.and_eq_true, Bool.not_eq_true'] at ho
  refine hs.sAd ?_
  rw [hs.k o ho.1]
  intro q
  have h2 := ho.2
  rw [q] at h2
  cases h2
theorem SH.sL {h : HP} {o k : Nat} {v : Int64} (hs : SH h) : SH (sL h o k v) := hs.hc (Or.inr (Or.inr (Or.inl ⟨o, _, rfl⟩)))
theorem SH.sB {h : HP} {o : Nat} {f : Nat → Int64} (hs : SH h) : SH (sB h o f) := hs.hc (Or.inr (Or.inr (Or.inl ⟨o, _, rfl⟩)))
theorem SH.nw {h : HP} {a n w : Nat} (hs : SH h) : SH (nw h a n w) := hs.hc (Or.inr (Or.inr (Or.inr (Or.inr ⟨a, n, w, rfl⟩))))
theorem SH.sRs {h : HP} (hs : SH h) (o b : Nat) (ho : (Nat.ble (o + 1) 42 && dynL.contains (kt o, b)) = true) {q : Nat} : SH (sR h o b (some q)) := by
  simp only [Bool.and_eq_true] at ho
  exact hs.hc (Or.inr (Or.inr (Or.inr (Or.inl ⟨kt o, b, o, q, hs.k o ho.1, rfl, Or.inr (List.contains_iff_mem.mp ho.2)⟩))))
