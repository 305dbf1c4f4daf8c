/-! what is allowed, in both -/
theorem and1023 (x : Int32) : ∃ b, b < 1024 ∧ x &&& 1023 = nI b := by
  refine ⟨x.toBitVec.toNat % 1024, Nat.mod_lt _ (by decide), ?_⟩
  apply Int32.toBitVec_inj.mp
  apply BitVec.eq_of_toNat_eq
  show (x.toBitVec &&& 1023#32).toNat = (BitVec.ofNat 32 (x.toBitVec.toNat % 1024)).toNat
  have e : x.toBitVec.toNat &&& 1023 = x.toBitVec.toNat % 1024 := Nat.and_two_pow_sub_one_eq_mod _ 10
  have e2 : (1023#32).toNat = 1023 := by decide
  rw [BitVec.toNat_and, e2, e, BitVec.toNat_ofNat]
  exact (Nat.mod_eq_of_lt (Nat.lt_of_lt_of_le (Nat.mod_lt _ (by decide)) (by decide))).symm
theorem bit10 : ∀ a, a < 1024 → ∀ t, t < 10 → ((nI a >>> (nI t &&& 31)) &&& 1) = aI (a.testBit t) := by decide +kernel
def AL (h : HP) (W H : Nat) (al : Nat → Nat) : Prop := ∀ c, c < W * H → hI h 7 c = nI (al c) ∧ al c < 1024
def AM (h : HP) (W H : Nat) (al : Nat → Nat) : Prop := ∀ c, c < W * H → hI h 27 c = nI (al c) ∧ al c < 1024
section Al
variable {W H : Nat} {ar : Bool} {h : HP} {al : Nat → Nat}
theorem s15 (hb : BD h W H ar) (hs : SH h) {c : Nat} (hc : c < W * H) : X (15, 0, [.ref 6, .int (nI c)], [], h) = some (some (.int (hI h 7 c)), h) := by
  have hk := okS_1 hb.1
  rw [g15_0 _ h hs, s7c hb hs hc, bI_s, if_neg (by decide), if_pos (inB_nI (by omega) (by decide)), nI_clamp (by omega)]
theorem s16 (hb : BD h W H ar) (hs : SH h) (ha : AL h W H al) {c t : Nat} (hc : c < W * H) (ht : t < 10) : X (16, 0, [.ref 6, .int (nI c), .int (nI t)], [], h) = some (some (.int (aI ((al c).testBit t))), h) := by
  rw [g16_0 _ _ h hs, s103 t ht h hs, bI_s, if_neg (by decide), s15 hb hs hc, bI_s, (ha c hc).1, bit10 _ (ha c hc).2 t ht]
  cases (al c).testBit t
  · rw [if_neg (by decide)]; rfl
  · rw [if_pos (by decide)]; rfl
theorem s14 (hb : BD h W H ar) (hs : SH h) {c : Nat} (hc : c < W * H) (a : Int32) (w3 : Value) : X (14, 0, [.ref 6, .int (nI c), .int a, w3], [], h) = if hI h 7 c = a &&& 1023 then some (some (.int 0), h) else some (some (.int 1), sI h 7 c (a &&& 1023)) := by
  have hk := okS_1 hb.1
  rw [g14_0 _ _ _ h hs, s7c hb hs hc, bI_s, if_neg (by decide), if_pos (inB_nI (by omega) (by decide)), nI_clamp (by omega), if_pos (inB_nI (by omega) (by decide))]
/-- what permit leaves: masks, and from where the ways hold -/
def PM (h h' : HP) (s s' : Nat) : Prop := Fr [7, 15] [] h h' ∧ (∀ j, j ≠ 7 → hI h' 15 j = hI h 15 j) ∧ hI h' 15 7 = nI s' ∧ s ≤ s' ∧ ∀ c, s' ≤ c → hI h' 7 c = hI h 7 c
theorem PM.tr {h1 h2 h3 : HP} {a b c : Nat} (p : PM h1 h2 a b) (q : PM h2 h3 b c) : PM h1 h3 a c := by
  obtain ⟨p1, p2, p3, p4, p5⟩ := p
  obtain ⟨q1, q2, q3, q4, q5⟩ := q
  exact ⟨p1.tr q1, fun j hj => (q2 j hj).trans (p2 j hj), q3, by omega, fun c hc => (q5 c hc).trans (p5 c (by omega))⟩
theorem s88 (hb : BD h W H ar) (hs : SH h) {c s : Nat} (hc : c < W * H) (a : Int32) (h7 : hI h 15 7 = nI s) (hs21 : s ≤ 21) : ∃ h' s', X (88, 0, [.ref 5, .int (nI c), .int a], [], h) = some (none, h') ∧ PM h h' s s' ∧ (s' = s ∨ s' = c + 1) ∧ hI h' 7 = upd (hI h 7) c (a &&& 1023) := by
  have hk := okS_1 hb.1
  rw [g88_0 _ _ h hs, s14 hb hs hc]
  by_cases q : hI h 7 c = a &&& 1023
  · rw [if_pos q, bI_s, if_pos rfl]
    refine ⟨h, s, rfl, ⟨Fr.rf, fun _ _ => rfl, h7, by omega, fun _ _ => rfl⟩, Or.inl rfl, ?_⟩
    rw [← q, upd_self]
  · rw [if_neg q, bI_s, if_neg (by decide), g69_0 _ _ (hs.sIs 7 rfl), bV_s, hI_sI_o _ _ _ (by decide), h7, nI_1]
    have f : ∀ v, Fr [7, 15] [] h (sI (sI h 7 c (a &&& 1023)) 15 7 v) := fun v => (Fr.sI (by decide)).tr (Fr.sI (by decide))
    by_cases u : s < c + 1
    · rw [if_pos (nI_lt u (by omega))]
      refine ⟨_, c + 1, rfl, ⟨f _, fun j hj => ?_, hI_sI_same _ _ _ _, by omega, fun d hd => ?_⟩, Or.inr rfl, ?_⟩
      · rw [hI_sI_ne _ _ hj, hI_sI_o _ _ _ (by decide)]
      · rw [hI_sI_o _ _ _ (by decide), hI_sI_ne _ _ (by omega)]
      · rw [hI_sI_o _ _ _ (by decide), hI_sI, if_pos rfl]
    · rw [if_neg (nI_nlt (by omega) (by omega))]
      refine ⟨_, s, rfl, ⟨f _, fun j hj => ?_, hI_sI_same _ _ _ _, by omega, fun d hd => ?_⟩, Or.inl rfl, ?_⟩
      · rw [hI_sI_ne _ _ hj, hI_sI_o _ _ _ (by decide)]
      · rw [hI_sI_o _ _ _ (by decide), hI_sI_ne _ _ (by omega)]
      · rw [hI_sI_o _ _ _ (by decide), hI_sI, if_pos rfl]
/-- which cells an allow speaks of -/
def seA (W H : Nat) (x y : Int32) (c : Nat) : Bool := decide (x = -1) || decide (cAt W H x y = some c)
theorem s87 (hb : BD h W H ar) (hs : SH h) {s : Nat} (x y a : Int32) (h7 : hI h 15 7 = nI s) (hs21 : s ≤ 21) (w4 w5 : Value) : (x ≠ -1 ∧ cAt W H x y = none ∧ X (87, 0, [.ref 5, .int x, .int y, .int a, w4, w5], [], h) = some (some (.int 0), h)) ∨ ((x = -1 ∨ cAt W H x y ≠ none) ∧ ∃ h' s', X (87, 0, [.ref 5, .int x, .int y, .int a, w4, w5], [], h) = some (some (.int 1), h') ∧ PM h h' s s' ∧ (s' = s ∨ s' ≤ W * H) ∧ ∀ c, c < W * H → hI h' 7 c = if seA W H x y c = true then a &&& 1023 else hI h 7 c) := by
  have hk := okS_1 hb.1
  by_cases q : x = -1
  · right
    refine ⟨Or.inl q, ?_⟩
    rw [g87_0 _ _ _ _ _ h hs, if_pos q, s6 hb hs, bI_s]
    have key : ∀ (n j : Nat), j + n = W * H → ∀ (h : HP) (s : Nat), BD h W H ar → SH h → hI h 15 7 = nI s → s ≤ 21 → ∃ h' s', X (87, 17, [.ref 5, .int x, .int y, .int a, .int (nI (W * H)), .int (nI j)], [], h) = some (some (.int 1), h') ∧ PM h h' s s' ∧ (s' = s ∨ s' ≤ W * H) ∧ ∀ c, c < W * H → hI h' 7 c = if j ≤ c then a &&& 1023 else hI h 7 c := by
      intro n
      induction n with
      | zero =>
        intro j hj h s hb hs h7 hs21
        refine ⟨h, s, ?_, ⟨Fr.rf, fun _ _ => rfl, h7, by omega, fun _ _ => rfl⟩, Or.inl rfl, fun c hc => ?_⟩
        · rw [g87_17 _ _ _ _ _ h hs, if_pos (nI_le (by omega) (by omega))]
        · rw [if_neg (by omega)]
      | succ n ih =>
        intro j hj h s hb hs h7 hs21
        obtain ⟨h1, s1, x1, x2, x3, x4⟩ := s88 hb hs (show j < W * H by omega) a h7 hs21
        obtain ⟨h2, s2, y1, y2, y3, y4⟩ := ih (j + 1) (by omega) h1 s1 (hb.fr x2.1 (by decide) (by decide) (by decide)) (x2.1.sh hs (by decide)) x2.2.2.1 (by omega)
        refine ⟨h2, s2, ?_, x2.tr y2, by omega, fun c hc => ?_⟩
        · rw [g87_17 _ _ _ _ _ h hs, if_neg (nI_ge (by omega) (by omega)), x1, bV_s, nI_1]
          exact y1
        · rw [y4 c hc, x4]
          unfold upd
          by_cases u : c = j
          · rw [if_neg (by omega), if_pos u, if_pos (by omega)]
          · rw [if_neg u]
            by_cases v : j ≤ c
            · rw [if_pos (by omega), if_pos v]
            · rw [if_neg (by omega), if_neg v]
    obtain ⟨h', s', x1, x2, x3, x4⟩ := key (W * H) 0 (by omega) h s hb hs h7 hs21
    refine ⟨h', s', x1, x2, x3, fun c hc => ?_⟩
    have e : seA W H x y c = true := by simp [seA, q]
    rw [x4 c hc, if_pos (by omega), if_pos e]
  · rw [g87_0 _ _ _ _ _ h hs, if_neg q, s11 hb hs, bI_s]
    cases hc : cAt W H x y with
    | none => left; exact ⟨q, rfl, by rw [if_pos (by rfl)]⟩
    | some c =>
      right
      have hlt := cAt_lt (by omega) (by omega) hc
      refine ⟨Or.inr (by simp), ?_⟩
      obtain ⟨h1, s1, x1, x2, x3, x4⟩ := s88 hb hs hlt a h7 hs21
      have ne : ¬ oI (some c) = -1 := by
        intro e
        have := nI_pos (n := c) (by omega)
        rw [show nI c = -1 from e] at this
        exact this (by decide)
      rw [if_neg ne]
      show ∃ h' s', bV (X (88, 0, [.ref 5, .int (nI c), .int a], [], h)) _ = _ ∧ _
      rw [x1, bV_s]
      refine ⟨h1, s1, rfl, x2, by omega, fun d hd => ?_⟩
      rw [x4]
      unfold upd seA
      rw [hc]
      by_cases u : d = c
      · subst u; simp
      · have u2 : ¬ c = d := fun e => u e.symm
        simp [q, u, u2]
theorem s89 (hb : BD h W H ar) (hs : SH h) (x y : Int32) (w3 : Value) : X (89, 0, [.ref 5, .int x, .int y, w3], [], h) = some (some (.int (match cAt W H x y with
    | none => -1
    | some c => hI h 7 c)), h) := by
  have hk := okS_1 hb.1
  rw [g89_0 _ _ _ h hs, s11 hb hs, bI_s]
  cases hc : cAt W H x y with
  | none => rw [if_pos (by rfl)]
  | some c =>
    have hlt := cAt_lt (by omega) (by omega) hc
    have ne : ¬ oI (some c) = -1 := by
      intro e
      have := nI_pos (n := c) (by omega)
      rw [show nI c = -1 from e] at this
      exact this (by decide)
    rw [if_neg ne]
    show bI (X (15, 0, [.ref 6, .int (nI c)], [], h)) _ = _
    rw [s15 hb hs hlt, bI_s]
/-! the reference -/
theorem s106 (hm : MD h W H ar) (hs : SH h) : X (106, 0, [.ref 26], [], h) = some (some (.int (nI (W * H))), h) := by
  rw [g106_0 h hs, hm.2.1, hm.2.2.1, pk_mul]
theorem s107 (hm : MD h W H ar) (hs : SH h) (x y : Int32) : X (107, 0, [.ref 26, .int x, .int y], [], h) = some (some (.int (if (cAt W H x y).isSome = true then 1 else 0)), h) := by
  have hk := okS_1 hm.1
  rw [g107_0 _ _ h hs, hm.2.1, hm.2.2.1]
  unfold cAt
  rcases inB_cases x W (by omega) with ⟨hx, j, hj, rfl⟩ | ⟨hx, q⟩
  · rw [if_neg (nI_pos (by omega)), if_neg (nI_ge hj (by omega))]
    rcases inB_cases y H (by omega) with ⟨hy, i, hi, rfl⟩ | ⟨hy, q⟩
    · rw [if_neg (nI_pos (by omega)), if_neg (nI_ge hi (by omega))]
      have hyes : inB (nI j) W = true ∧ inB (nI i) H = true := ⟨hx, hy⟩
      rw [if_pos hyes]
      rfl
    · have hno : ¬ (inB (nI j) W = true ∧ inB y H = true) := fun u => hy u.2
      rw [if_neg hno]
      rcases q with q | ⟨q1, q2⟩
      · rw [if_pos q]; rfl
      · rw [if_neg q1, if_pos q2]; rfl
  · have hno : ¬ (inB x W = true ∧ inB y H = true) := fun u => hx u.1
    rw [if_neg hno]
    rcases q with q | ⟨q1, q2⟩
    · rw [if_pos q]; rfl
    · rw [if_neg q1, if_pos q2]; rfl
theorem cAt_ix (hW : W < 2 ^ 31) (hH : H < 2 ^ 31) {x y : Int32} {c : Nat} (h : cAt W H x y = some c) : (y * nI W) + x = nI c := by
  unfold cAt at h
  split at h
  next q =>
    cases h
    obtain ⟨j, hj, rfl⟩ := vp_in_of (inB_in q.1) hW
    obtain ⟨i, hi, rfl⟩ := vp_in_of (inB_in q.2) hH
    rw [nI_clamp (by omega), nI_clamp (by omega), pk_mul, nI_add, Nat.mul_comm i W, Nat.add_comm]
  next => cases h
theorem s109 (hm : MD h W H ar) (hs : SH h) (x y : Int32) : X (109, 0, [.ref 26, .int x, .int y], [], h) = some (some (.int (match cAt W H x y with
    | none => -1
    | some c => hI h 27 c)), h) := by
  have hk := okS_1 hm.1
  rw [g109_0 _ _ h hs, s107 hm hs, bI_s, hm.2.1]
  cases hc : cAt W H x y with
  | none => rfl
  | some c =>
    have hlt := cAt_lt (by omega) (by omega) hc
    rw [if_pos (show (some c).isSome = true from rfl), if_neg (show ¬ (1 : Int32) = 0 by decide), cAt_ix (by omega) (by omega) hc, if_pos (inB_nI (by omega) (by decide)), nI_clamp (by omega)]
/-- a change of the reference that leaves its size and its tables -/
theorem MD.fr {S T : List Nat} {h' : HP} (hm : MD h W H ar) (a : Fr S T h h') (h0 : hI h' 26 0 = hI h 26 0) (h1 : hI h' 26 1 = hI h 26 1) (h2 : hI h' 26 2 = hI h 26 2) (h29 : 29 ∉ S) (h30 : 30 ∉ S) (h31 : 31 ∉ S) : MD h' W H ar := by
  obtain ⟨m0, m1, m2, m3, m4, m5, m6⟩ := hm
  have e29 := a.2.2.2.2.2.1 29 h29
  have e30 := a.2.2.2.2.2.1 30 h30
  have e31 := a.2.2.2.2.2.1 31 h31
  exact ⟨m0, h0.trans m1, h1.trans m2, h2.trans m3, fun t ht => by rw [e29]; exact m4 t ht, fun k hk => by rw [e30]; exact m5 k hk, fun k hk => by rw [e31]; exact m6 k hk⟩
theorem s108 (hm : MD h W H ar) (hs : SH h) (x y a : Int32) (w4 : Value) : (x ≠ -1 ∧ cAt W H x y = none ∧ X (108, 0, [.ref 26, .int x, .int y, .int a, w4], [], h) = some (some (.int 0), h)) ∨ ((x = -1 ∨ cAt W H x y ≠ none) ∧ ∃ h', X (108, 0, [.ref 26, .int x, .int y, .int a, w4], [], h) = some (some (.int 1), h') ∧ Fr [26, 27] [] h h' ∧ hI h' 26 5 = 0 ∧ (∀ j, j ≠ 5 → hI h' 26 j = hI h 26 j) ∧ ∀ c, c < W * H → hI h' 27 c = if seA W H x y c = true then a &&& 1023 else hI h 27 c) := by
  have hk := okS_1 hm.1
  have key : (x = -1 ∨ cAt W H x y ≠ none) → ∀ (n j : Nat), j + n = W * H → ∀ (h : HP), MD h W H ar → SH h → ∃ h', X (108, 19, [.ref 26, .int x, .int y, .int a, .int (nI j)], [], h) = some (some (.int 1), h') ∧ Fr [26, 27] [] h h' ∧ hI h' 26 5 = 0 ∧ (∀ j, j ≠ 5 → hI h' 26 j = hI h 26 j) ∧ ∀ c, c < W * H → hI h' 27 c = if j ≤ c ∧ seA W H x y c = true then a &&& 1023 else hI h 27 c := by
    intro hx n
    induction n with
    | zero =>
      intro j hj h hm hs
      refine ⟨sI h 26 5 0, ?_, Fr.sI (by decide), hI_sI_same _ _ _ _, fun i hi => hI_sI_ne _ _ hi, fun c hc => ?_⟩
      · rw [g108_19 _ _ _ _ h hs, s106 hm hs, bI_s, if_pos (nI_le (by omega) (by omega))]
      · rw [if_neg (by omega), hI_sI_o _ _ _ (by decide)]
    | succ n ih =>
      intro j hj h hm hs
      have sel : ((x = -1) ∨ ¬ x = -1 ∧ nI j = (y * nI W) + x) ↔ seA W H x y j = true := by
        unfold seA
        simp only [Bool.or_eq_true, decide_eq_true_eq]
        by_cases q : x = -1
        · simp [q]
        · cases hc : cAt W H x y with
          | none => rcases hx with u | u
                    · exact absurd u q
                    · exact absurd hc u
          | some d =>
            have hd := cAt_lt (by omega) (by omega) hc
            rw [cAt_ix (by omega) (by omega) hc, nI_eq (by omega) (by omega)]
            simp [q]
            exact eq_comm
      by_cases u : seA W H x y j = true
      · have hs1 : SH (sI h 27 j (a &&& 1023)) := hs.sIs 27 rfl
        have hf : Fr [26, 27] [] h (sI h 27 j (a &&& 1023)) := Fr.sI (by decide)
        have e26 : hI (sI h 27 j (a &&& 1023)) 26 = hI h 26 := hI_sI_o _ _ _ (by decide)
        obtain ⟨h2, y1, y2, y3, y4, y5⟩ := ih (j + 1) (by omega) _ (hm.fr hf (by rw [e26]) (by rw [e26]) (by rw [e26]) (by decide) (by decide) (by decide)) hs1
        refine ⟨h2, ?_, hf.tr y2, y3, fun i hi => (y4 i hi).trans (by rw [e26]), fun c hc => ?_⟩
        · rw [g108_19 _ _ _ _ h hs, s106 hm hs, bI_s, if_neg (nI_ge (by omega) (by omega)), hm.2.1]
          have go : X (108, 46, [.ref 26, .int x, .int y, .int a, .int (nI j)], [], h) = some (some (.int 1), h2) := by
            rw [g108_46 _ _ _ _ h hs, if_pos (inB_nI (by omega) (by decide)), nI_clamp (by omega), g108_58 _ _ _ _ _ hs1, nI_1]
            exact y1
          by_cases q : x = -1
          · rw [if_pos q]; exact go
          · rcases sel.mpr u with v | ⟨-, v⟩
            · exact absurd v q
            · rw [if_neg q, if_pos v]; exact go
        · rw [y5 c hc]
          by_cases v : c = j
          · subst v
            rw [if_neg (by omega), if_pos ⟨by omega, u⟩, hI_sI_same]
          · rw [hI_sI_ne _ _ v]
            by_cases w : j ≤ c ∧ seA W H x y c = true
            · rw [if_pos w, if_pos ⟨by omega, w.2⟩]
            · rw [if_neg w, if_neg (fun z => w ⟨by omega, z.2⟩)]
      · obtain ⟨h2, y1, y2, y3, y4, y5⟩ := ih (j + 1) (by omega) h hm hs
        refine ⟨h2, ?_, y2, y3, y4, fun c hc => ?_⟩
        · rw [g108_19 _ _ _ _ h hs, s106 hm hs, bI_s, if_neg (nI_ge (by omega) (by omega)), hm.2.1, if_neg (fun v => u (sel.mp (Or.inl v)))]
          have nx : ¬ x = -1 := fun v => u (sel.mp (Or.inl v))
          rw [if_neg (fun v => u (sel.mp (Or.inr ⟨nx, v⟩))), g108_58 _ _ _ _ _ hs, nI_1]
          exact y1
        · rw [y5 c hc]
          by_cases w : j ≤ c ∧ seA W H x y c = true
          · have : c ≠ j := fun e => u (e ▸ w.2)
            rw [if_pos w, if_pos ⟨by omega, w.2⟩]
          · rw [if_neg w, if_neg (fun z => w ⟨by omega, z.2⟩)]
  have fin : (x = -1 ∨ cAt W H x y ≠ none) → ∃ h', X (108, 16, [.ref 26, .int x, .int y, .int a, w4], [], h) = some (some (.int 1), h') ∧ Fr [26, 27] [] h h' ∧ hI h' 26 5 = 0 ∧ (∀ j, j ≠ 5 → hI h' 26 j = hI h 26 j) ∧ ∀ c, c < W * H → hI h' 27 c = if seA W H x y c = true then a &&& 1023 else hI h 27 c := by
    intro hx
    obtain ⟨h', x1, x2, x3, x4, x5⟩ := key hx (W * H) 0 (by omega) h hm hs
    refine ⟨h', by rw [g108_16 _ _ _ _ h hs]; exact x1, x2, x3, x4, fun c hc => ?_⟩
    rw [x5 c hc]
    by_cases w : seA W H x y c = true
    · rw [if_pos w, if_pos ⟨by omega, w⟩]
    · rw [if_neg w, if_neg (fun z => w z.2)]
  by_cases q : x = -1
  · right
    refine ⟨Or.inl q, ?_⟩
    rw [g108_0 _ _ _ _ h hs, if_pos q]
    exact fin (Or.inl q)
  · rw [g108_0 _ _ _ _ h hs, if_neg q, s107 hm hs, bI_s]
    cases hc : cAt W H x y with
    | none => left; exact ⟨q, rfl, rfl⟩
    | some c =>
      right
      rw [if_pos (show (some c).isSome = true from rfl), if_neg (show ¬ (1 : Int32) = 0 by decide)]
      exact ⟨Or.inr (by simp), fin (Or.inr (by rw [hc]; simp))⟩
end Al
