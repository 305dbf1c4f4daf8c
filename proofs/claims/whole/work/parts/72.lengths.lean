/-! length, longest, same in the component -/
section Ln
variable {W H : Nat} {ar : Bool} {al sh : Nat → Nat} {h : HP}
theorem Lk_ok (f : FlH W H ar sh) {d : Nat} (hd : Pd W H sh d) : (Lk W H ar sh d).Nodup ∧ pcD sh d ∈ Lk W H ar sh d ∧ (∀ n ∈ Lk W H ar sh d, ∃ e, Pd W H sh e ∧ pcD sh e = n) ∧ (∀ e, Pd W H sh e → pcD sh e ∈ Lk W H ar sh d → pcD sh (aD W H ar e) ∈ Lk W H ar sh d) ∧ ∀ lab : Nat → Int32, (∀ e, Pd W H sh e → lab (pcD sh e) = lab (pcD sh (aD W H ar e))) → ∀ n ∈ Lk W H ar sh d, lab n = lab (pcD sh d) := wk_all (orbF f) (pcF f) hd
theorem Lk_iff (f : FlH W H ar sh) {d e : Nat} (hd : Pd W H sh d) (he : Pd W H sh e) : pcD sh e ∈ Lk W H ar sh d ↔ pcD sh (aD W H ar e) ∈ Lk W H ar sh d := by
  refine ⟨(Lk_ok f hd).2.2.2.1 e he, fun h => ?_⟩
  have o := (orbF f).1 e he
  have := (Lk_ok f hd).2.2.2.1 _ o.1 h
  rwa [o.2.1] at this
theorem Lk_lab (f : FlH W H ar sh) {d d' n : Nat} (hd : Pd W H sh d) (hd' : Pd W H sh d') (hn : n ∈ Lk W H ar sh d') : n ∈ Lk W H ar sh d ↔ pcD sh d' ∈ Lk W H ar sh d := by
  have := (Lk_ok f hd').2.2.2.2 (fun n => if n ∈ Lk W H ar sh d then 1 else 0) (fun e he => by
    show (if pcD sh e ∈ Lk W H ar sh d then (1 : Int32) else 0) = if pcD sh (aD W H ar e) ∈ Lk W H ar sh d then 1 else 0
    by_cases q : pcD sh e ∈ Lk W H ar sh d
    · rw [if_pos q, if_pos ((Lk_iff f hd he).mp q)]
    · rw [if_neg q, if_neg (fun u => q ((Lk_iff f hd he).mpr u))]) n hn
  have this : (if n ∈ Lk W H ar sh d then (1 : Int32) else 0) = if pcD sh d' ∈ Lk W H ar sh d then 1 else 0 := this
  by_cases q : n ∈ Lk W H ar sh d
  · rw [if_pos q] at this
    refine ⟨fun _ => ?_, fun _ => q⟩
    by_cases u : pcD sh d' ∈ Lk W H ar sh d
    · exact u
    · rw [if_neg u] at this; exact absurd this (by decide)
  · rw [if_neg q] at this
    refine ⟨fun u => absurd u q, fun u => ?_⟩
    rw [if_pos u] at this; exact absurd this (by decide)
theorem Lk_lt (f : FlH W H ar sh) {d n : Nat} (hd : Pd W H sh d) (hn : n ∈ Lk W H ar sh d) : n < 40 := by
  obtain ⟨e, he, rfl⟩ := (Lk_ok f hd).2.2.1 n hn
  exact (pcF f).1 e he
theorem Lk_sum (f : FlH W H ar sh) {d : Nat} (hd : Pd W H sh d) : (Lk W H ar sh d).length = sT (fun x => if x ∈ Lk W H ar sh d then 1 else 0) 40 0 := by
  have e : ∀ l : List Nat, lS (fun _ => 1) l = l.length := by
    intro l
    induction l with
    | nil => rfl
    | cons n l ih => rw [lS, ih, List.length_cons]; omega
  rw [← e, lS_T (N := 40) _ (Lk_ok f hd).1 (fun n hn => Lk_lt f hd hn)]
theorem Lk_eq (f : FlH W H ar sh) {d d' : Nat} (hd : Pd W H sh d) (hd' : Pd W H sh d') (hm : pcD sh d' ∈ Lk W H ar sh d) : (∀ n, n ∈ Lk W H ar sh d' ↔ n ∈ Lk W H ar sh d) ∧ (Lk W H ar sh d').length = (Lk W H ar sh d).length := by
  have a : ∀ n, n ∈ Lk W H ar sh d' ↔ n ∈ Lk W H ar sh d := by
    intro n
    refine ⟨fun hn => (Lk_lab f hd hd' hn).mpr hm, fun hn => ?_⟩
    have h1 := (Lk_lab f hd' hd hm).mp (Lk_ok f hd').2.1
    exact (Lk_lab f hd' hd hn).mpr h1
  refine ⟨a, ?_⟩
  rw [Lk_sum f hd, Lk_sum f hd']
  refine sT_c 40 0 (fun x _ _ => ?_)
  by_cases q : x ∈ Lk W H ar sh d
  · rw [if_pos q, if_pos ((a x).mpr q)]
  · rw [if_neg q, if_neg (fun u => q ((a x).mp u))]
theorem fl_H (hk : okS W H ar = true) (hsh : ∀ c, c < W * H → sh c < 10) {y : Nat} (h : lpF W H ar al sh (W * H) 0 0 = some y) : FlH W H ar sh := ⟨hk, hsh, fun _ hc _ hs => mt_all hk hsh h hc hs⟩
def pcW (sh : Nat → Nat) (c : Nat) (a : Int32) : Option Nat := if inB a 2 = true ∧ a.toNatClampNeg < pcs (sh c) then some a.toNatClampNeg else none
theorem pcW_in {c k : Nat} {a : Int32} (h : pcW sh c a = some k) : k < 2 ∧ k < pcs (sh c) ∧ a = nI k := by
  unfold pcW at h
  by_cases q : inB a 2 = true ∧ a.toNatClampNeg < pcs (sh c)
  · rw [if_pos q] at h
    obtain ⟨j, hj, rfl⟩ := vp_in_of (inB_in q.1) (by decide)
    rw [nI_clamp (by omega)] at h q
    rw [← Option.some.inj h]
    exact ⟨hj, q.2, rfl⟩
  · rw [if_neg q] at h; cases h
def piI (o : Option Nat) (c : Nat) : Int32 := match o with
  | none => -1
  | some k => nI (2 * c + k)
theorem s58 (hb : BD h W H ar) (hs : SH h) (sc : SC h W H sh) {c : Nat} (hc : c < W * H) (a : Int32) (w3 : Value) : X (58, 0, [.ref 12, .int (nI c), .int a, w3], [], h) = some (some (.int (piI (pcW sh c a) c)), h) := by
  obtain ⟨s1, s2⟩ := sc c hc
  rw [g58_0 _ _ _ h hs, s53 hb hs hc, bI_s, s1]
  unfold pcW
  rcases inB_cases a 2 (by decide) with ⟨ha, j, hj, rfl⟩ | ⟨ha, q⟩
  · have e3 : 2 * nI (sh c) + nI j = nI (2 * sh c + j) := by rw [show (2 : Int32) = nI 2 from rfl, pk_mul, nI_add]
    have e4 : 2 * nI c + nI j = nI (2 * c + j) := by rw [show (2 : Int32) = nI 2 from rfl, pk_mul, nI_add]
    rw [if_neg (nI_pos (by omega)), if_neg (show ¬ (1 : Int32) < nI j from nI_nlt (show j ≤ 1 by omega) (by decide)), s103 _ s2 h hs, bI_s, if_neg (by decide), e3, if_pos (inB_nI (by omega) (by decide)), nI_clamp (show 2 * sh c + j < 2 ^ 31 by omega), hs.2.2.2.2 2 (by decide), nI_clamp (show j < 2 ^ 31 by omega), e4]
    by_cases u : j < pcs (sh c)
    · obtain ⟨l1, l2, l3, l4⟩ := TF2 _ s2 j hj u
      rw [l3, if_neg (neg1_nI (by omega)), if_pos ⟨ha, u⟩]
      rfl
    · rw [TF3 _ s2 j hj u, if_pos rfl, if_neg (fun v => u v.2)]
      rfl
  · have nh : ¬ (inB a 2 = true ∧ a.toNatClampNeg < pcs (sh c)) := fun v => ha v.1
    rw [if_neg nh]
    rcases q with q | ⟨q1, q2⟩
    · rw [if_pos q]; rfl
    · have : (1 : Int32) < a := by
        have q2 : (2 : Int32) ≤ a := q2
        exact Int32.lt_of_lt_of_le (by decide) q2
      rw [if_neg q1, if_pos this]; rfl
theorem s58n (hb : BD h W H ar) (hs : SH h) (a : Int32) (w3 : Value) : X (58, 0, [.ref 12, .int (-1), .int a, w3], [], h) = some (some (.int (-1)), h) := by
  have e : ¬ inB (-1) 10 = true := fun u => (of_decide_eq_true u) (Or.inl (by decide))
  rw [g58_0 _ _ _ h hs, s53n hb hs, bI_s, s103x _ h hs, bI_s, if_neg e, if_pos rfl]
  split
  · rfl
  · split <;> rfl
theorem s59 (hs : SH h) (w1 : Value) : ∃ h', X (59, 0, [.ref 12, w1], [], h) = some (none, h') ∧ Fr [14] [] h h' ∧ ∀ p, p < 40 → hI h' 14 p = 0 := by
  have key : ∀ (n j : Nat), j + n = 40 → ∀ (h : HP), SH h → (∀ i, i < j → hI h 14 i = 0) → ∃ h', X (59, 2, [.ref 12, .int (nI j)], [], h) = some (none, h') ∧ Fr [14] [] h h' ∧ ∀ p, p < 40 → hI h' 14 p = 0 := by
    intro n
    induction n with
    | zero =>
      intro j hj h hs hd
      have : j = 40 := by omega
      subst this
      refine ⟨h, ?_, Fr.rf, hd⟩
      rw [g59_2 _ h hs, if_pos (by decide)]
    | succ n ih =>
      intro j hj h hs hd
      obtain ⟨h', x1, x2, x3⟩ := ih (j + 1) (by omega) (sI h 14 j (0 &&& 1)) (hs.sIs 14 rfl) (fun i hi => by
        by_cases u : i = j
        · rw [u, hI_sI_same]; rfl
        · rw [hI_sI_ne _ _ u]; exact hd i (by omega))
      refine ⟨h', ?_, (Fr.sI (by simp)).tr x2, x3⟩
      have n40 : ¬ (40 : Int32) ≤ nI j := nI_ge (show j < 40 by omega) (by decide)
      rw [g59_2 _ h hs, if_neg n40, if_pos (inB_nI (by omega) (by decide)), nI_clamp (by omega), nI_1]
      exact x1
  obtain ⟨h', x1, x2, x3⟩ := key 40 0 (by omega) h hs (fun i hi => absurd hi (Nat.not_lt_zero _))
  exact ⟨h', by rw [g59_0 _ h hs]; exact x1, x2, x3⟩
theorem s60 (hs : SH h) {p : Nat} (hp : p < 40) : X (60, 0, [.ref 12, .int (nI p)], [], h) = some (some (.int (if hI h 14 p = 0 then 0 else 1)), h) := by
  have n40 : ¬ (40 : Int32) ≤ nI p := nI_ge (show p < 40 by omega) (by decide)
  rw [g60_0 _ h hs, if_neg (nI_pos (by omega)), if_neg n40, if_pos (inB_nI hp (by decide)), nI_clamp (by omega)]
  by_cases q : hI h 14 p = 0
  · rw [if_pos q, if_pos q]
  · rw [if_neg q, if_neg q]
/-- what length answers -/
def lnA (W H : Nat) (ar : Bool) (al sh : Nat → Nat) (x y p : Int32) : Int32 := match cAt W H x y with
  | none => -1
  | some c => if inB p 2 = true then (if flB W H ar al sh = true then (match pcW sh c p with
    | none => 0
    | some k => nI (Lk W H ar sh (dsP sh c k)).length) else -1) else -1
theorem s100 {u : Nat} {qm qw s : Nat} (cs : CSx u W H ar al h qm qw s) (sc : SC h W H sh) (x y p : Int32) (w4 w5 : Value) : ∃ h', X (100, 0, [.ref 5, .int x, .int y, .int p, w4, w5], [], h) = some (some (.int (lnA W H ar al sh x y p)), h') ∧ Fr [11, 12, 14] [] h h' ∧ JK h' := by
  have hs := cs.1
  have hb := cs.2.1
  have hk := okS_1 hb.1
  have hj := cs.2.2.2.1
  rw [g100_0 _ _ _ _ _ h hs, s11 hb hs, bI_s]
  unfold lnA
  cases hc : cAt W H x y with
  | none => rw [if_pos (by rfl)]; exact ⟨h, rfl, Fr.rf, hj⟩
  | some c =>
    have hlt := cAt_lt (by omega) (by omega) hc
    rw [if_neg (oI_ne (by omega))]
    rcases inB_cases p 2 (by decide) with ⟨hp, j, hj2, rfl⟩ | ⟨hp, q⟩
    · obtain ⟨g, x1, x2, x3, x4⟩ := s56 hb hs cs.2.2.1 sc hj
      have gs := x2.sh hs (by simp; omega)
      have gb := hb.fr x2 (by simp) (by simp) (by simp)
      have gc : SC g W H sh := fun c hc => by rw [x2.2.2.2.2.2.1 13 (by decide)]; exact sc c hc
      rw [if_neg (nI_pos (by omega)), if_neg (show ¬ (1 : Int32) < nI j from nI_nlt (show j ≤ 1 by omega) (by decide)), x1, bI_s]
      show ∃ h', _ = some (some (Value.int (if inB (nI j) 2 = true then _ else -1)), h') ∧ _
      rw [if_pos hp]
      unfold flB
      cases e : lpF W H ar al sh (W * H) 0 0 with
      | none => rw [if_pos (by rfl)]; exact ⟨g, rfl, x2.mono (by simp) (by simp), x3⟩
      | some y' =>
        have f := fl_H hb.1 (fun c hc => (sc c hc).2) e
        rw [if_neg sm1]
        show ∃ h', bI (X (58, 0, [.ref 12, .int (nI c), .int (nI j), .null], [], g)) _ = some (some (Value.int (match pcW sh c (nI j) with | none => 0 | some k => nI (Lk W H ar sh (dsP sh c k)).length)), h') ∧ _
        rw [s58 gb gs gc hlt, bI_s]
        cases e2 : pcW sh c (nI j) with
        | none => rw [if_pos (by rfl)]; exact ⟨g, rfl, x2.mono (by simp) (by simp), x3⟩
        | some k =>
          obtain ⟨k1, k2, -⟩ := pcW_in e2
          obtain ⟨h', y1, y2, y3⟩ := s61 f gb gs gc hlt k1 k2 .null .null .null .null .null .null
          have nn : ¬ piI (some k) c = -1 := neg1_nI (by omega)
          rw [if_neg nn]
          show ∃ h', bI (X (61, 0, [.ref 12, .int (nI (2 * c + k)), .null, .null, .null, .null, .null, .null], [], g)) _ = _ ∧ _
          rw [y1, bI_s]
          exact ⟨h', rfl, (x2.mono (by simp) (by simp)).tr (y2.mono (by simp) (by simp)), fun k hk => by rw [y2.2.2.2.2.2.1 11 (by decide)]; exact x3 k hk⟩
    · show ∃ h', _ = some (some (Value.int (if inB p 2 = true then _ else -1)), h') ∧ _
      rw [if_neg hp]
      rcases q with q | ⟨q1, q2⟩
      · rw [if_pos q]; exact ⟨h, rfl, Fr.rf, hj⟩
      · have : (1 : Int32) < p := by
          have q2 : (2 : Int32) ≤ p := q2
          exact Int32.lt_of_lt_of_le (by decide) q2
        rw [if_neg q1, if_pos this]; exact ⟨h, rfl, Fr.rf, hj⟩
/-- a piece, if there is one -/
def pcX (W H : Nat) (sh : Nat → Nat) (x y p : Int32) : Option (Nat × Nat) := match cAt W H x y with
  | none => none
  | some c => match pcW sh c p with
    | none => none
    | some k => some (c, k)
theorem pcX_in (hk : okS W H ar = true) {x y p : Int32} {q : Nat × Nat} (h : pcX W H sh x y p = some q) : cAt W H x y = some q.1 ∧ q.1 < W * H ∧ pcW sh q.1 p = some q.2 ∧ q.2 < 2 ∧ q.2 < pcs (sh q.1) := by
  have hk := okS_1 hk
  unfold pcX at h
  cases hc : cAt W H x y with
  | none => rw [hc] at h; cases h
  | some c =>
    rw [hc] at h
    have h : (match pcW sh c p with | none => none | some k => some (c, k)) = some q := h
    cases e : pcW sh c p with
    | none => rw [e] at h; cases h
    | some k =>
      rw [e] at h
      have h : (c, k) = q := Option.some.inj h
      subst h
      obtain ⟨k1, k2, -⟩ := pcW_in e
      exact ⟨rfl, cAt_lt (by omega) (by omega) hc, e, k1, k2⟩
theorem s58x (hb : BD h W H ar) (hs : SH h) (sc : SC h W H sh) (x y p : Int32) (w3 : Value) : X (58, 0, [.ref 12, .int (oI (cAt W H x y)), .int p, w3], [], h) = some (some (.int (match pcX W H sh x y p with
    | none => -1
    | some q => nI (2 * q.1 + q.2))), h) := by
  have hk := okS_1 hb.1
  unfold pcX
  cases hc : cAt W H x y with
  | none => exact s58n hb hs p w3
  | some c =>
    have hlt := cAt_lt (by omega) (by omega) hc
    show X (58, 0, [.ref 12, .int (nI c), .int p, w3], [], h) = _
    rw [s58 hb hs sc hlt]
    show _ = some (some (Value.int (match (match pcW sh c p with | none => none | some k => some (c, k)) with | none => -1 | some q => nI (2 * q.1 + q.2))), h)
    cases pcW sh c p <;> rfl
/-- what same answers -/
def smA (W H : Nat) (ar : Bool) (al sh : Nat → Nat) (x y p u v o : Int32) : Int32 := match pcX W H sh x y p, pcX W H sh u v o with
  | some a, some b => if flB W H ar al sh = true then (if 2 * b.1 + b.2 ∈ Lk W H ar sh (dsP sh a.1 a.2) then 1 else 0) else -1
  | _, _ => -1
theorem s102 {w : Nat} {qm qw s : Nat} (cs : CSx w W H ar al h qm qw s) (sc : SC h W H sh) (x y p u v o : Int32) (w7 w8 : Value) : ∃ h', X (102, 0, [.ref 5, .int x, .int y, .int p, .int u, .int v, .int o, w7, w8], [], h) = some (some (.int (smA W H ar al sh x y p u v o)), h') ∧ Fr [11, 12, 14] [] h h' ∧ JK h' := by
  have hs := cs.1
  have hb := cs.2.1
  have h20 := (okS_1 hb.1).2.2.1
  have hj := cs.2.2.2.1
  rw [g102_0 _ _ _ _ _ _ _ _ h hs, s11 hb hs, bI_s, s58x hb hs sc, bI_s, s11 hb hs, bI_s, s58x hb hs sc, bI_s]
  unfold smA
  cases e1 : pcX W H sh x y p with
  | none => rw [if_pos (by rfl)]; exact ⟨h, rfl, Fr.rf, hj⟩
  | some a =>
    obtain ⟨-, a1, -, a2, a3⟩ := pcX_in hb.1 e1
    have na : ¬ nI (2 * a.1 + a.2) = -1 := neg1_nI (by omega)
    cases e2 : pcX W H sh u v o with
    | none =>
      show ∃ h', (if nI (2 * a.1 + a.2) = -1 then _ else if (-1 : Int32) = -1 then _ else _) = _ ∧ _
      rw [if_neg na, if_pos rfl]; exact ⟨h, rfl, Fr.rf, hj⟩
    | some b =>
      obtain ⟨-, b1, -, b2, b3⟩ := pcX_in hb.1 e2
      have nb : ¬ nI (2 * b.1 + b.2) = -1 := neg1_nI (by omega)
      obtain ⟨g, x1, x2, x3, x4⟩ := s56 hb hs cs.2.2.1 sc hj
      have gs := x2.sh hs (by simp; omega)
      have gb := hb.fr x2 (by simp) (by simp) (by simp)
      have gc : SC g W H sh := fun c hc => by rw [x2.2.2.2.2.2.1 13 (by decide)]; exact sc c hc
      show ∃ h', (if nI (2 * a.1 + a.2) = -1 then _ else if nI (2 * b.1 + b.2) = -1 then _ else _) = some (some (Value.int (if flB W H ar al sh = true then _ else -1)), h') ∧ _
      rw [if_neg na, if_neg nb, x1, bI_s]
      unfold flB
      cases e : lpF W H ar al sh (W * H) 0 0 with
      | none => rw [if_pos (by rfl)]; exact ⟨g, rfl, x2.mono (by simp) (by simp), x3⟩
      | some y' =>
        have f := fl_H hb.1 (fun c hc => (sc c hc).2) e
        obtain ⟨k, y1, y2, y3⟩ := s59 gs .null
        have ks := y2.sh gs (by simp; omega)
        have kb := gb.fr y2 (by simp) (by simp) (by simp)
        have kc : SC k W H sh := fun c hc => by rw [y2.2.2.2.2.2.1 13 (by decide)]; exact gc c hc
        obtain ⟨h', z1, z2, z3⟩ := s61 f kb ks kc a1 a2 a3 .null .null .null .null .null .null
        have hs' := z2.sh ks (by simp; omega)
        rw [if_neg sm1, y1, bV_s, z1, bI_s, s60 hs' (show 2 * b.1 + b.2 < 40 by omega), bI_s, z3, y3 _ (by omega)]
        have F : Fr [11, 12, 14] [] h h' := ((x2.mono (by simp) (by simp)).tr (y2.mono (by simp) (by simp))).tr (z2.mono (by simp) (by simp))
        have J : JK h' := fun k' hk => by rw [z2.2.2.2.2.2.1 11 (by decide), y2.2.2.2.2.2.1 11 (by decide)]; exact x3 k' hk
        show ∃ h'', _ = some (some (Value.int (if (some y').isSome = true then (if 2 * b.1 + b.2 ∈ Lk W H ar sh (dsP sh a.1 a.2) then 1 else 0) else -1)), h'') ∧ _
        rw [if_pos (show (some y').isSome = true from rfl)]
        by_cases q : 2 * b.1 + b.2 ∈ Lk W H ar sh (dsP sh a.1 a.2)
        · rw [if_pos q, if_neg (show ¬ (1 : Int32) = 0 by decide), if_neg (by decide)]
          exact ⟨h', rfl, F, J⟩
        · rw [if_neg q, if_pos rfl, if_pos rfl]
          exact ⟨h', rfl, F, J⟩
/-- the greatest length -/
def IsMx (W H : Nat) (ar : Bool) (sh : Nat → Nat) (G : Nat) : Prop := (∀ c, c < W * H → ∀ k, k < 2 → k < pcs (sh c) → (Lk W H ar sh (dsP sh c k)).length ≤ G) ∧ (G = 0 ∨ ∃ c k, c < W * H ∧ k < 2 ∧ k < pcs (sh c) ∧ (Lk W H ar sh (dsP sh c k)).length = G)
theorem IsMx.uq {G G' : Nat} (a : IsMx W H ar sh G) (b : IsMx W H ar sh G') : G = G' := by
  obtain ⟨a1, a2⟩ := a
  obtain ⟨b1, b2⟩ := b
  have h1 : G ≤ G' := by
    rcases a2 with u | ⟨c, k, hc, hk, hp, e⟩
    · omega
    · have := b1 c hc k hk hp; omega
  have h2 : G' ≤ G := by
    rcases b2 with u | ⟨c, k, hc, hk, hp, e⟩
    · omega
    · have := a1 c hc k hk hp; omega
  omega
def MxI (W H : Nat) (ar : Bool) (sh : Nat → Nat) (h : HP) (c k G : Nat) : Prop := (∀ c' k', c' < W * H → k' < 2 → k' < pcs (sh c') → (hI h 14 (2 * c' + k') ≠ 0 ∨ 2 * c' + k' < 2 * c + k) → (Lk W H ar sh (dsP sh c' k')).length ≤ G) ∧ (G = 0 ∨ ∃ c k, c < W * H ∧ k < 2 ∧ k < pcs (sh c) ∧ (Lk W H ar sh (dsP sh c k)).length = G) ∧ G ≤ 40
theorem Lk_40 (f : FlH W H ar sh) {d : Nat} (hd : Pd W H sh d) : (Lk W H ar sh d).length ≤ 40 := nd_len (Lk_ok f hd).1 (fun n hn => Lk_lt f hd hn)
theorem s66p (f : FlH W H ar sh) {c : Nat} (hc : c < W * H) (a1 : Int32) : ∀ (n k : Nat), k + n = 2 → ∀ (h : HP) (G : Nat) (w5 : Value), BD h W H ar → SH h → SC h W H sh → MxI W H ar sh h c k G → ∃ h' G' v5, X (66, 24, [.ref 12, .int a1, .int (nI G), .int (nI c), .int (nI k), w5], [], h) = X (66, 16, [.ref 12, .int a1, .int (nI G'), .int (nI (c + 1)), .int (nI 2), v5], [], h') ∧ Fr [14] [] h h' ∧ MxI W H ar sh h' (c + 1) 0 G' := by
  have h20 := (okS_1 f.1).2.2.1
  intro n
  induction n with
  | zero =>
    intro k hk h G w5 hb hs sc mx
    have : k = 2 := by omega
    subst this
    refine ⟨h, G, w5, ?_, Fr.rf, ⟨fun c' k' h1 h2 h3 h4 => mx.1 c' k' h1 h2 h3 (by omega), mx.2.1, mx.2.2⟩⟩
    rw [g66_24 _ _ _ _ _ h hs, if_pos (by decide), nI_1]
  | succ n ih =>
    intro k hk h G w5 hb hs sc mx
    have n2 : ¬ (2 : Int32) ≤ nI k := nI_ge (show k < 2 by omega) (by decide)
    rw [g66_24 _ _ _ _ _ h hs, if_neg n2, s58 hb hs sc hc, bI_s]
    by_cases q : k < pcs (sh c)
    · have ep : pcW sh c (nI k) = some k := by
        unfold pcW
        rw [nI_clamp (by omega), if_pos ⟨inB_nI (by omega) (by decide), q⟩]
      have nn : ¬ piI (some k) c = -1 := neg1_nI (by omega)
      obtain ⟨p1, p2, p3⟩ := dsP_ok f hc (show k < 2 by omega) q
      rw [ep, if_neg nn]
      show ∃ h' G' v5, bI (X (60, 0, [.ref 12, .int (nI (2 * c + k))], [], h)) _ = _ ∧ _
      rw [s60 hs (show 2 * c + k < 40 by omega), bI_s]
      by_cases m : hI h 14 (2 * c + k) = 0
      · obtain ⟨g, x1, x2, x3⟩ := s61 f hb hs sc hc (show k < 2 by omega) q .null .null .null .null .null .null
        have gs := x2.sh hs (by simp; omega)
        have l40 := Lk_40 f p1
        rw [if_pos m, if_pos rfl]
        show ∃ h' G' v5, bI (X (61, 0, [.ref 12, .int (nI (2 * c + k)), .null, .null, .null, .null, .null, .null], [], h)) _ = _ ∧ _
        have G40 := mx.2.2
        have em : (if nI G < nI (Lk W H ar sh (dsP sh c k)).length then nI (Lk W H ar sh (dsP sh c k)).length else nI G) = nI (max G (Lk W H ar sh (dsP sh c k)).length) := by
          by_cases u : G < (Lk W H ar sh (dsP sh c k)).length
          · rw [if_pos (nI_lt u (by omega)), Nat.max_eq_right (by omega)]
          · rw [if_neg (nI_nlt (by omega) (by omega)), Nat.max_eq_left (by omega)]
        have mg : max G (Lk W H ar sh (dsP sh c k)).length = 0 ∨ ∃ c' k', c' < W * H ∧ k' < 2 ∧ k' < pcs (sh c') ∧ (Lk W H ar sh (dsP sh c' k')).length = max G (Lk W H ar sh (dsP sh c k)).length := by
          rcases Nat.lt_or_ge G (Lk W H ar sh (dsP sh c k)).length with u | u
          · right; exact ⟨c, k, hc, by omega, q, by omega⟩
          · rw [Nat.max_eq_left u]; exact mx.2.1
        rw [x1, bI_s, em, g66_65 _ _ _ _ _ g gs, nI_1]
        obtain ⟨h', G', v5, y1, y2, y3⟩ := ih (k + 1) (by omega) g (max G (Lk W H ar sh (dsP sh c k)).length) (.int (piI (some k) c)) (hb.fr x2 (by decide) (by decide) (by decide)) gs (fun c hc => by rw [x2.2.2.2.2.2.1 13 (by decide)]; exact sc c hc) ⟨fun c' k' h1 h2 h3 h4 => by
          obtain ⟨r1, r2, r3⟩ := dsP_ok f h1 h2 h3
          by_cases w : 2 * c' + k' ∈ Lk W H ar sh (dsP sh c k)
          · rw [(Lk_eq f p1 r1 (by rw [r2]; exact w)).2]; omega
          · rw [x3, if_neg w] at h4
            by_cases e : 2 * c' + k' = 2 * c + k
            · exact absurd (by rw [e, ← p2]; exact (Lk_ok f p1).2.1) w
            · have := mx.1 c' k' h1 h2 h3 (h4.imp id (fun w => by omega))
              omega, mg, by omega⟩
        exact ⟨h', G', v5, y1, x2.tr y2, y3⟩
      · rw [if_neg m, if_neg (by decide), g66_65 _ _ _ _ _ h hs, nI_1]
        exact ih (k + 1) (by omega) h G _ hb hs sc ⟨fun c' k' h1 h2 h3 h4 => by
          by_cases e : 2 * c' + k' = 2 * c + k
          · exact mx.1 c' k' h1 h2 h3 (Or.inl (by rw [e]; exact m))
          · exact mx.1 c' k' h1 h2 h3 (h4.imp id (fun w => by omega)), mx.2⟩
    · have ep : pcW sh c (nI k) = none := by
        unfold pcW
        rw [nI_clamp (by omega), if_neg (fun w => q w.2)]
      rw [ep, if_pos (by rfl), g66_65 _ _ _ _ _ h hs, nI_1]
      exact ih (k + 1) (by omega) h G _ hb hs sc ⟨fun c' k' h1 h2 h3 h4 => by
        by_cases e : 2 * c' + k' = 2 * c + k
        · have e1 : c' = c := by omega
          have e2 : k' = k := by omega
          rw [e1, e2] at h3
          exact absurd h3 q
        · exact mx.1 c' k' h1 h2 h3 (h4.imp id (fun w => by omega)), mx.2⟩
theorem s66 (f : FlH W H ar sh) (hb : BD h W H ar) (hs : SH h) (sc : SC h W H sh) (w1 w2 w3 w4 w5 : Value) : ∃ h' G, X (66, 0, [.ref 12, w1, w2, w3, w4, w5], [], h) = some (some (.int (nI G)), h') ∧ Fr [14] [] h h' ∧ IsMx W H ar sh G := by
  have h20 := (okS_1 f.1).2.2.1
  have key : ∀ (n c : Nat), c + n = W * H → ∀ (h : HP) (G : Nat) (w4 w5 : Value), BD h W H ar → SH h → SC h W H sh → MxI W H ar sh h c 0 G → ∃ h' G', X (66, 16, [.ref 12, .int (nI (W * H)), .int (nI G), .int (nI c), w4, w5], [], h) = some (some (.int (nI G')), h') ∧ Fr [14] [] h h' ∧ IsMx W H ar sh G' := by
    intro n
    induction n with
    | zero =>
      intro c hc h G w4 w5 hb hs sc mx
      refine ⟨h, G, ?_, Fr.rf, ⟨fun c' h1 k' h2 h3 => mx.1 c' k' h1 h2 h3 (Or.inr (by omega)), mx.2.1⟩⟩
      rw [g66_16 _ _ _ _ _ h hs, if_pos (nI_le (by omega) (by omega))]
    | succ n ih =>
      intro c hc h G w4 w5 hb hs sc mx
      obtain ⟨g, G', v5, x1, x2, x3⟩ := s66p f (show c < W * H by omega) (nI (W * H)) 2 0 (by omega) h G w5 hb hs sc mx
      obtain ⟨h', G2, y1, y2, y3⟩ := ih (c + 1) (by omega) g G' (.int (nI 2)) v5 (hb.fr x2 (by decide) (by decide) (by decide)) (x2.sh hs (by simp; omega)) (fun c hc => by rw [x2.2.2.2.2.2.1 13 (by decide)]; exact sc c hc) x3
      refine ⟨h', G2, ?_, x2.tr y2, y3⟩
      rw [g66_16 _ _ _ _ _ h hs, if_neg (nI_ge (by omega) (by omega)), show (0 : Int32) = nI 0 from rfl, x1]
      exact y1
  obtain ⟨g, x1, x2, x3⟩ := s59 hs .null
  obtain ⟨h', G, y1, y2, y3⟩ := key (W * H) 0 (by omega) g 0 w4 w5 (hb.fr x2 (by decide) (by decide) (by decide)) (x2.sh hs (by simp; omega)) (fun c hc => by rw [x2.2.2.2.2.2.1 13 (by decide)]; exact sc c hc) ⟨fun c' k' h1 h2 h3 h4 => by
    rcases h4 with h4 | h4
    · exact absurd (x3 _ (by omega)) h4
    · omega, Or.inl rfl, by omega⟩
  exact ⟨h', G, by rw [g66_0 _ _ _ _ _ h hs, s6 hb hs, bI_s, x1, bV_s]; exact y1, x2.tr y2, y3⟩
theorem s101 {u : Nat} {qm qw s : Nat} (cs : CSx u W H ar al h qm qw s) (sc : SC h W H sh) : ∃ h' a, X (101, 0, [.ref 5], [], h) = some (some (.int a), h') ∧ Fr [11, 12, 14] [] h h' ∧ JK h' ∧ ((flB W H ar al sh = false ∧ a = -1) ∨ (flB W H ar al sh = true ∧ ∃ G, a = nI G ∧ IsMx W H ar sh G)) := by
  have hs := cs.1
  have hb := cs.2.1
  obtain ⟨g, x1, x2, x3, x4⟩ := s56 hb hs cs.2.2.1 sc cs.2.2.2.1
  have gs := x2.sh hs (by simp; omega)
  have gb := hb.fr x2 (by simp) (by simp) (by simp)
  have gc : SC g W H sh := fun c hc => by rw [x2.2.2.2.2.2.1 13 (by decide)]; exact sc c hc
  rw [g101_0 h hs, x1, bI_s]
  unfold flB
  cases e : lpF W H ar al sh (W * H) 0 0 with
  | none => rw [if_pos (by rfl)]; exact ⟨g, -1, rfl, x2.mono (by simp) (by simp), x3, Or.inl ⟨rfl, rfl⟩⟩
  | some y =>
    have f := fl_H hb.1 (fun c hc => (sc c hc).2) e
    obtain ⟨h', G, y1, y2, y3⟩ := s66 f gb gs gc .null .null .null .null .null
    rw [if_neg sm1, y1, bI_s]
    exact ⟨h', nI G, rfl, (x2.mono (by simp) (by simp)).tr (y2.mono (by simp) (by simp)), fun k hk => by rw [y2.2.2.2.2.2.1 11 (by decide)]; exact x3 k hk, Or.inr ⟨rfl, G, rfl, y3⟩⟩
end Ln
