theorem cl_call {mid pc : Nat} {loc rest : List Value} {h : HP} {z : MT} {zi : Nat} {as : List Value} {x : CF × Nat × Nat × List Value × List Value} (ha : cl mid pc loc rest h z zi as = some (.inr (.inr x))) : x = ((zi, 0, ent (mX z) as, [], h), mid, pc, loc, rest) ∧ (sl as).length ≤ mX z ∧ rmB rest = true := by
  unfold cl at ha
  split at ha
  next hq => cases ha; exact ⟨rfl, hq.1, hq.2⟩
  next => cases ha
theorem inv_call {mid pc : Nat} {loc stk : List Value} {h : HP} {k zi : Nat} {x : CF × Nat × Nat × List Value × List Value} (ha : inv mid pc loc stk h k zi = some (.inr (.inr x))) : ∃ (y : MT) (as rest : List Value), nth mtab zi = some y ∧ mS y = k ∧ x = ((zi, 0, ent (mX y) as, [], h), mid, pc, loc, rest) ∧ (sl as).length ≤ mX y ∧ rmB rest = true ∧
    ((k = 0 ∧ as.length = mP y ∧ stk = as.reverse ++ rest) ∨ (k ≠ 0 ∧ ∃ (o : Nat) (as' : List Value), as = .ref o :: as' ∧ (k = 2 ∨ hK h o = mV y) ∧ as'.length = mP y ∧ stk = as'.reverse ++ .ref o :: rest)) := by
  unfold inv at ha
  split at ha
  next => cases ha
  next y hy =>
    split at ha
    next hq =>
      have hl : (stk.take (mP y)).reverse.length = mP y := by simp; have := hq.2; omega
      split at ha
      next hk =>
        obtain ⟨c1, c2, c3⟩ := cl_call ha
        exact ⟨y, _, _, hy, hq.1, c1, c2, c3, Or.inl ⟨hk, hl, by rw [List.reverse_reverse, List.take_append_drop]⟩⟩
      next hk =>
        split at ha
        next o rest hdr =>
          split at ha
          next hko =>
            obtain ⟨c1, c2, c3⟩ := cl_call ha
            exact ⟨y, _, _, hy, hq.1, c1, c2, c3, Or.inr ⟨hk, o, _, rfl, Or.inl hko, hl, by rw [List.reverse_reverse, ← hdr, List.take_append_drop]⟩⟩
          next =>
            split at ha
            next hko =>
              obtain ⟨c1, c2, c3⟩ := cl_call ha
              exact ⟨y, _, _, hy, hq.1, c1, c2, c3, Or.inr ⟨hk, o, _, rfl, Or.inr hko, hl, by rw [List.reverse_reverse, ← hdr, List.take_append_drop]⟩⟩
            next => cases ha
        next => cases ha
    next => cases ha
def CL (z : MT) (mid pc : Nat) (loc stk : List Value) (h : HP) (x : CF × Nat × Nat × List Value × List Value) : Prop :=
  ∃ (k zi i : Nat) (y : MT), inv mid (pc + 3) loc stk h k zi = some (.inr (.inr x)) ∧ nth mtab zi = some y ∧ zi < 144 ∧ mS y = k ∧ (mF y + 1 ≤ mF z ∧ 8 + (mX y + 11) + mO y ≤ mO z) ∧
    ((k = 0 ∧ decode (mB z) pc = .ok (.invokestatic i, 3)) ∨ (k = 1 ∧ decode (mB z) pc = .ok (.invokevirtual i, 3)) ∨ (k = 2 ∧ decode (mB z) pc = .ok (.invokespecial i, 3))) ∧
    ((k = 0 ∧ Cond.methodLinkNest (mY z).cls i (mY y) "LoopBoard" ∈ nw_) ∨ Cond.methodLink (mY z).cls i (mY y) ∈ gw)
theorem cl_of {z : MT} {mid pc : Nat} {loc stk : List Value} {h : HP} {k a b c i : Nat} {x : CF × Nat × Nat × List Value × List Value} (ha : inv mid (pc + 3) loc stk h k a = some (.inr (.inr x))) (hck : ckC z k a b = true) (hl : (if b = 1 then nth nw_ c else nth lw_tbl c) = lkM z i a b)
    (hd : (k = 0 ∧ decode (mB z) pc = .ok (.invokestatic i, 3)) ∨ (k = 1 ∧ decode (mB z) pc = .ok (.invokevirtual i, 3)) ∨ (k = 2 ∧ decode (mB z) pc = .ok (.invokespecial i, 3))) : CL z mid pc loc stk h x := by
  unfold ckC at hck
  unfold lkM at hl
  cases hy : nth mtab a with
  | none => rw [hy] at hck; cases hck
  | some y =>
    rw [hy] at hck hl
    simp only [Bool.and_eq_true] at hck
    obtain ⟨⟨⟨⟨h1, h2⟩, h3⟩, h4⟩, h5⟩ := hck
    refine ⟨k, a, i, y, ha, hy, Nat.le_of_ble_eq_true h4, Nat.eq_of_beq_eq_true h3, ⟨Nat.le_of_ble_eq_true h1, Nat.le_of_ble_eq_true h2⟩, hd, ?_⟩
    dsimp only at hl
    by_cases hb : b = 1
    · rw [if_pos hb, if_pos hb] at hl
      rw [if_pos hb] at h5
      exact Or.inl ⟨Nat.eq_of_beq_eq_true h5, nth_mem hl⟩
    · rw [if_neg hb, if_neg hb] at hl
      exact Or.inr (word_in hl rfl)
theorem ckC_b {z : MT} {k a b : Nat} (h : ckC z k a b = true) (hk : k ≠ 0) : b ≠ 1 := by
  intro hb
  unfold ckC at h
  split at h
  next => cases h
  next =>
    simp only [Bool.and_eq_true] at h
    have := h.2
    rw [if_pos hb] at this
    exact hk (Nat.eq_of_beq_eq_true this)
set_option maxHeartbeats 4000000 in
set_option maxRecDepth 100000 in
theorem act_call {mid pc : Nat} {loc stk : List Value} {h : HP} {x : CF × Nat × Nat × List Value × List Value} {z : MT} (hz : nth mtab mid = some z) (ha : act (mid, pc, loc, stk, h) = some (.inr (.inr x))) : CL z mid pc loc stk h x := by
  unfold act at ha
  dsimp only at ha
  rw [hz] at ha
  dsimp only at ha
  cases hfe : fe z pc with
  | none => rw [hfe] at ha; cases ha
  | some e =>
    rw [hfe] at ha
    obtain ⟨-, hd, hlen, hck, hlk⟩ := e_facts hz hfe
    obtain ⟨pc0, ins, len, a, b, c⟩ := e
    dsimp only at ha hd hlen hck hlk
    cases ins
    case invokevirtual i =>
      have hl9 : len = 3 := hlen (fun q => Nat.noConfusion (show 3 = 0 from q))
      subst hl9
      have hb := ckC_b hck (by decide)
      exact cl_of (c := c) ha hck (by rw [if_neg hb]; exact hlk) (Or.inr (Or.inl ⟨rfl, hd⟩))
    case invokespecial i =>
      have hl9 : len = 3 := hlen (fun q => Nat.noConfusion (show 3 = 0 from q))
      subst hl9
      unfold actI at ha
      unfold lkA lkB at hlk
      unfold ckI at hck
      dsimp only at ha hlk hck
      split at ha
      next =>
        split at ha
        next =>
          split at ha <;> cases ha
        next => cases ha
      next hq =>
        rw [if_neg hq] at hck hlk
        have hb := ckC_b hck (by decide)
        exact cl_of (c := c) ha hck (by rw [if_neg hb]; exact hlk) (Or.inr (Or.inr ⟨rfl, hd⟩))
    case invokestatic i =>
      have hl9 : len = 3 := hlen (fun q => Nat.noConfusion (show 3 = 0 from q))
      subst hl9
      unfold actI at ha
      unfold lkA lkB at hlk
      unfold ckI at hck
      dsimp only at ha hlk hck
      split at ha
      next =>
        split at ha
        next =>
          split at ha <;> cases ha
        next => cases ha
      next hq1 =>
        split at ha
        next =>
          split at ha
          next =>
            split at ha <;> cases ha
          next => cases ha
        next hq2 =>
          split at ha
          next =>
            split at ha
            next =>
              split at ha <;> cases ha
            next => cases ha
          next hq3 =>
            rw [if_neg (by rintro (q | q | q) <;> contradiction)] at hck
            rw [if_neg hq1, if_neg hq2, if_neg hq3] at hlk
            exact cl_of (c := c) ha hck hlk (Or.inl ⟨rfl, hd⟩)
    case if_icmp q off =>
      unfold actI at ha
      dsimp only at ha
      split at ha
      next =>
        cases q <;> (unfold br at ha; dsimp only at ha; split at ha <;> cases ha)
      next => cases ha
    case ifCond q off =>
      unfold actI at ha
      dsimp only at ha
      split at ha
      next =>
        cases q <;> (unfold br at ha; dsimp only at ha; split at ha <;> cases ha)
      next => cases ha
    all_goals exact absurd ha (by simp only [actI, nx, ldI, ldL, ldR, soI, soL, soR, opI, opD, opL]; (try (split <;> (try (split <;> (try (split <;> (try (split <;> (try (split <;> simp)) <;> simp)) <;> simp)) <;> simp)) <;> simp)); (try simp))
theorem call_any {p : Program} {l : Launch} {e : Env} {R : Room} {s : State} {m : MethodId} {args : Array Value} {below : List Frame} {meth : Method} {c : Code} {H : Heap} {locs : List Loc} {cells slots mc ms pc : Nat} {Q : State → Prop} {ls : Array Slot} {st0 rest : List Value} {Qa : State → Outcome → State → Prop} {free : Addr → Prop} (hr : va_Run p l e R s m args below meth c H locs cells slots mc ms (F0 m pc ls st0) rest Qa free)
    (kk : ∀ (v : Option Value) (st₀ t : State) (L : List Loc), st₀.heap = H → Qa st₀ (.returned v) t → s.vm.Alike t.vm → (∀ q ∈ L, free q.base) → W p l e R s m args below meth c t.heap (locs ++ L) (cells + mc) (slots + ms) Q (F0 m (pc + 3) ls (v.toList ++ rest))) : W p l e R s m args below meth c H locs cells slots Q (F0 m pc ls st0) := by
  intro T hT X
  obtain ⟨v, st₀, t, T', L, h0, X', hL, e1, e2, hq, st⟩ := hr T hT X
  obtain ⟨t2, a1, b1⟩ := kk v st₀ t L h0 hq (by rw [← e2]; exact X'.warmed.alike) hL T' e1 X'
  exact ⟨t2, st t2 a1, b1⟩
/-- what a run of n steps says of the great machine -/
def Sm (n : Nat) : Prop := ∀ (mid pc : Nat) (z : MT) (loc stk : List Value) (h : HP) (r : Option Value) (hf : HP), nth mtab mid = some z → run n (mid, pc, loc, stk, h) = some (r, hf) → (hZ h ≤ hZ hf ∧ hU h ≤ hU hf) ∧
  ∀ (g : GP) (p : Program) (l : Launch) (e : Env) (R : Room) (s : State) (m : MethodId) (args : Array Value) (below : List Frame) (meth : Method) (c : Code) (Q : State → Prop) (C S : Nat), Cx g z p R s m args meth c C S hf →
    (∀ (pc' : Nat) (H' : Heap) (locs' : List Loc) (ls' : Array Slot), RI z pc' r → Cur g hf s H' locs' → W p l e R s m args below meth c H' locs' C S Q (F0 m pc' ls' (r.toList.map (cv g)))) → Gl g z p l e R s m args below meth c Q C S hf pc loc stk h
def wsM (y : MT) : List Cond := Cond.code (mY y) (mB y) (mX y) (mT y) :: gw
def rmM (y : MT) (a b : Nat) : Room := { frames := mF y, cells := a, slots := b, locals := mO y }
def QM (g : GP) (r : Option Value) (h : HP) : Array Value → State → Outcome → State → Prop := fun _ st o t => o = .returned (r.map (cv g)) ∧ Rl g h t ∧ va_F (gQ g) st t
theorem met_of {n : Nat} (ih : Sm n) {zi : Nat} {y : MT} {as : List Value} {h h' : HP} {r : Option Value} (hy : nth mtab zi = some y) (hlen : (sl as).length ≤ mX y) (hr : run n (zi, 0, ent (mX y) as, [], h) = some (r, h')) (g : GP) (l : Launch) :
    Met l (mY y) (wsM y) (rmM y (hZ h' - hZ h) (hU h' - hU h)) (va_Pc (as.map (cv g)) (Rl g h)) (QM g r h') (hZ h' - hZ h) (hU h' - hU h) (gQ g) := by
  obtain ⟨⟨m1, m2⟩, k⟩ := ih zi 0 y _ [] h r h' hy hr
  have hm := m_facts hy
  unfold ckM at hm
  simp only [Bool.and_eq_true] at hm
  refine Met.ofW (cc := mB y) (maxL := mX y) (ret := mT y) hm.1.1.1 rfl ?_
  intro p e s m args below meth c s₁ B hml hv
  obtain ⟨rfl, hRl⟩ := hv
  have hts := atoms_spec (ws := wsM y) B.pre
  have hb := B.bytes
  have hlk := B.notSynchronized
  have hret := B.returns
  have hx := B.exec
  obtain ⟨wf, hsz, hP, hK⟩ := hRl
  have h5 := wf.1
  have hsz2 : s.heap.size + (hZ h' - hZ h) = gB g + (hZ h' - 5) := by omega
  have hC : Cx g y p (rmM y (hZ h' - hZ h) (hU h' - hU h)) s m ((as.map (cv g)).toArray) meth c (hZ h' - hZ h) (hU h' - hU h) h' :=
    ⟨hx, hb, hml, hret, findClass_of_methodNamed B.named, fun w hw => hts w (List.mem_cons_of_mem _ hw), hlk, fun hs2 => by
      rw [(name_of_methodNamed B.named B.method).1]
      have h9 := hm.1.2
      rw [if_pos hs2] at h9
      simp only [Bool.and_eq_true, decide_eq_true_eq] at h9
      exact h9.1.1, hK, ⟨Nat.le_refl _, Nat.le_refl _⟩, ⟨Nat.le_refl _, Nat.le_refl _⟩, hsz2⟩
  rw [lg_entry_eq]
  refine k g p l e (rmM y (hZ h' - hZ h) (hU h' - hU h)) s m _ below meth c _ (hZ h' - hZ h) (hU h' - hU h) hC ?_ s.heap [] 0 0 _ ⟨wf, hP, va_S.rf⟩ (LR_ent hlen) (by omega) (by omega)
  intro pc' H' locs' ls' hri hc
  refine W_size fun hs1 => ?_
  have hz' := wo_size hc.1.1 hc.2.1 (Nat.le_trans hK.1 hc.2.2.1) (by omega)
  have post : ∀ (t : State), t.heap = H' → s.WarmedH t.vm → QM g r h' ((as.map (cv g)).toArray) s (.returned (r.map (cv g))) t := fun t ht hW => ⟨rfl, hc.rl hK hz' ht hW, hc.2.2.F ht⟩
  rcases hri with ⟨rfl, hd, ht⟩ | ⟨v, ty, rfl, hd, ht, hn⟩ | ⟨v, rfl, hd, ht⟩
  · exact W.vret hx hb (by rw [hret]; exact ht) post hc.2.2.2.2 hd
  · exact W.zret hx hb (by rw [hret]; exact ht) hn.1 post hc.2.2.2.2 hd
  · exact W.lret hx hb (by rw [hret]; exact ht) post hc.2.2.2.2 hd
