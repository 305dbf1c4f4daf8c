/-! rank in the reference; the rest of counting in the component -/
section Rk
variable {W H : Nat} {ar : Bool} {al sh : Nat → Nat} {h : HP}
theorem lp_mx (hk : okS W H ar = true) : ∀ (r c : Nat), c + r = W * H → ∀ n y, n < 76 → inL W H ar c n = true → (∀ c, c < W * H → sh c < 10) → lpF W H ar al sh r c n = some y → y ≤ mxB W H ar c n := by
  intro r
  induction r with
  | zero => intro c hc n y hn hl hsh h; rw [← Option.some.inj h]; exact Nat.zero_le _
  | succ r ih =>
    intro c hc n y hn hl hsh h
    obtain ⟨q, z, e1, e2, e3, e4⟩ := lp_st h
    obtain ⟨-, t2, t3, t4, -⟩ := T_some hk (show c < W * H by omega) hn hl (hsh c (by omega)) (n' := q.1) (k := q.2) e2
    have := ih (c + 1) (by omega) q.1 z t2 t3 hsh e3
    omega
theorem lp_12 (hk : okS W H ar = true) (hsh : ∀ c, c < W * H → sh c < 10) {y : Nat} (h : lpF W H ar al sh (W * H) 0 0 = some y) : y ≤ 12 := by
  obtain ⟨⟨a1, -⟩, ⟨a2, -⟩, -⟩ := okS_1 hk
  have h0 : 0 < W * H := Nat.mul_pos a1 a2
  exact Nat.le_trans (lp_mx hk (W * H) 0 (by omega) 0 y (by decide) (T_0 hk) hsh h) (T_12 hk h0 (by decide) (T_0 hk))
/-- is it a filling -/
def flB (W H : Nat) (ar : Bool) (al sh : Nat → Nat) : Bool := (lpF W H ar al sh (W * H) 0 0).isSome
theorem s56 (hb : BD h W H ar) (hs : SH h) (ha : AL h W H al) (hc : SC h W H sh) (hj : JK h) : ∃ h', X (56, 0, [.ref 12], [], h) = some (some (.int (aI (flB W H ar al sh))), h') ∧ Fr [11, 12] [] h h' ∧ JK h' ∧ ∀ y, lpF W H ar al sh (W * H) 0 0 = some y → hI h' 12 4 = nI y := by
  have h20 := (okS_1 hb.1).2.2.1
  obtain ⟨h', x1, x2, x3, x4⟩ := s55 hb hs ha hc hj .null .null .null
  have hs' := x2.sh hs (by simp; omega)
  have hb' := hb.fr x2 (by simp) (by simp) (by simp)
  obtain ⟨p1, p2⟩ := lp_rn (W := W) (H := H) (ar := ar) (al := al) (sh := sh) (W * H) 0 0 0
  refine ⟨h', ?_, x2, x4, fun y hy => ?_⟩
  · rw [g56_0 h hs, x1, bI_s, s6 hb' hs', bI_s]
    unfold flB
    cases e : lpF W H ar al sh (W * H) 0 0 with
    | none =>
      have := p2 e
      rw [Nat.zero_add] at this
      have ne : ¬ nI (rn W H ar al sh (W * H) 0 0 0).1 = nI (W * H) := fun u => by
        have := (nI_eq (by omega) (by omega)).mp u
        omega
      rw [if_neg ne]; rfl
    | some y =>
      rw [p1 y e, Nat.zero_add, if_pos rfl]; rfl
  · rw [x3, p1 y hy]
    show nI (0 + y) = nI y
    rw [Nat.zero_add]
theorem s130 (hm : MD h W H ar) (hs : SH h) (ha : AM h W H al) (hc : SM h W H sh) (hj : ∀ k, 10 ≤ k → hI h 32 k = 0) : ∃ h', X (130, 0, [.ref 26], [], h) = some (some (.int (aI (flB W H ar al sh))), h') ∧ Fr [26, 32] [] h h' ∧ (∀ j, j ≠ 10 → j ≠ 18 → hI h' 26 j = hI h 26 j) ∧ (∀ k, 10 ≤ k → hI h' 32 k = 0) ∧ ∀ y, lpF W H ar al sh (W * H) 0 0 = some y → hI h' 26 18 = nI y := by
  have h20 := (okS_1 hm.1).2.2.1
  obtain ⟨h', x1, x2, x3, x4, x5⟩ := s129 hm hs ha hc hj .null
  have hs' := x2.sh hs (by simp; omega)
  have hm' : MD h' W H ar := hm.fr x2 (x3 0 (by decide) (by decide)) (x3 1 (by decide) (by decide)) (x3 2 (by decide) (by decide)) (by decide) (by decide) (by decide)
  obtain ⟨p1, p2⟩ := lp_rn (W := W) (H := H) (ar := ar) (al := al) (sh := sh) (W * H) 0 0 0
  refine ⟨h', ?_, x2, x3, x5, fun y hy => ?_⟩
  · rw [g130_0 h hs, x1, bI_s, s106 hm' hs', bI_s]
    unfold flB
    cases e : lpF W H ar al sh (W * H) 0 0 with
    | none =>
      have := p2 e
      rw [Nat.zero_add] at this
      have ne : ¬ nI (rn W H ar al sh (W * H) 0 0 0).1 = nI (W * H) := fun u => by
        have := (nI_eq (by omega) (by omega)).mp u
        omega
      rw [if_neg ne]; rfl
    | some y =>
      rw [p1 y e, Nat.zero_add, if_pos rfl]; rfl
  · rw [x4, p1 y hy]
    show nI (0 + y) = nI y
    rw [Nat.zero_add]
/-- what loops answers -/
def lpA (W H : Nat) (ar : Bool) (al sh : Nat → Nat) : Int32 := match lpF W H ar al sh (W * H) 0 0 with
  | none => -1
  | some y => nI y
theorem sm1 {y : Nat} : ¬ aI (some y).isSome = 0 := by
  show ¬ (1 : Int32) = 0
  decide
theorem s96 (hb : BD h W H ar) (hs : SH h) (ha : AL h W H al) (hc : SC h W H sh) (hj : JK h) : ∃ h', X (96, 0, [.ref 5], [], h) = some (some (.int (lpA W H ar al sh)), h') ∧ Fr [11, 12] [] h h' ∧ JK h' := by
  obtain ⟨h', x1, x2, x3, x4⟩ := s56 hb hs ha hc hj
  have hs' := x2.sh hs (by simp; omega)
  refine ⟨h', ?_, x2, x3⟩
  rw [g96_0 h hs, x1, bI_s]
  unfold flB lpA
  cases e : lpF W H ar al sh (W * H) 0 0 with
  | none => rw [if_pos (by rfl)]
  | some y => rw [if_neg sm1, g57_0 h' hs', bI_s, x4 y e]
theorem s131 (hm : MD h W H ar) (hs : SH h) (ha : AM h W H al) (hc : SM h W H sh) (hj : ∀ k, 10 ≤ k → hI h 32 k = 0) : ∃ h', X (131, 0, [.ref 26], [], h) = some (some (.int (lpA W H ar al sh)), h') ∧ Fr [26, 32] [] h h' ∧ (∀ j, j ≠ 10 → j ≠ 18 → hI h' 26 j = hI h 26 j) ∧ ∀ k, 10 ≤ k → hI h' 32 k = 0 := by
  obtain ⟨h', x1, x2, x3, x4, x5⟩ := s130 hm hs ha hc hj
  refine ⟨h', ?_, x2, x3, x4⟩
  rw [g131_0 h hs, x1, bI_s]
  unfold flB lpA
  cases e : lpF W H ar al sh (W * H) 0 0 with
  | none => rw [if_pos (by rfl)]
  | some y => rw [if_neg sm1, x5 y e]
theorem s97 (hb : BD h W H ar) (hs : SH h) (ha : AL h W H al) (hc : SC h W H sh) (hj : JK h) : ∃ h', X (97, 0, [.ref 5], [], h) = some (some (.int (nI (rn W H ar al sh (W * H) 0 0 0).1)), h') ∧ Fr [11, 12] [] h h' ∧ JK h' := by
  obtain ⟨h', x1, x2, x3, x4⟩ := s55 hb hs ha hc hj .null .null .null
  exact ⟨h', by rw [g97_0 h hs, x1, bI_s], x2, x4⟩
theorem s93 {u : Nat} {qm qw s : Nat} (cs : CSx u W H ar al h qm qw s) (x y t : Int32) (w4 : Value) : ∃ h' qm' qw' s', X (93, 0, [.ref 5, .int x, .int y, .int t, w4], [], h) = some (some (.long (hvA W H ar al x y t)), h') ∧ CSx u W H ar al h' qm' qw' s' ∧ UF slS h h' := by
  have hs := cs.1
  have hb := cs.2.1
  have hk := okS_1 hb.1
  unfold hvA ptA
  rw [g93_0 _ _ _ _ h hs, s11 hb hs, bI_s]
  cases hc : cAt W H x y with
  | none =>
    rw [if_pos (by rfl)]
    refine ⟨h, qm, qw, s, ?_, cs, UF.rf⟩
    by_cases q : inB t 10 = true
    · rw [if_pos q]
    · rw [if_neg q]
  | some c =>
    have hlt := cAt_lt (by omega) (by omega) hc
    rw [if_neg (oI_ne (by omega)), s103x _ h hs, bI_s]
    by_cases q : inB t 10 = true
    · obtain ⟨j, hj, rfl⟩ := vp_in_of (inB_in q) (by decide)
      obtain ⟨g, qm', qw', x1, x2, x3⟩ := s71 cs .null
      obtain ⟨h', y1, y2, y3⟩ := s80 x2 hlt hj .null .null .null .null .null
      refine ⟨h', qm', qw', 0, ?_, y3, x3.tr (UF.rq y2)⟩
      rw [if_pos q, if_neg (by decide), x1, bV_s, if_pos q, nI_clamp (by omega)]
      show bL (X (80, 0, [.ref 15, .int (nI c), .int (nI j), .null, .null, .null, .null, .null], [], g)) _ = _
      rw [y1, bL_s]
    · rw [if_neg q, if_pos rfl, if_neg q]
      exact ⟨h, qm, qw, s, rfl, cs, UF.rf⟩
theorem s83 {u : Nat} {qm qw : Nat} (cs : CSx u W H ar al h qm qw 0) {a : Int32} {r : Nat} (hr : r < cntI W H ar al 0 0 a) (w4 w5 w6 w7 w8 w9 w10 w11 w12 w13 w14 w15 w16 : Value) : ∃ h', X (83, 0, [.ref 15, .ref 12, .int a, .long (lN r), w4, w5, w6, w7, w8, w9, w10, w11, w12, w13, w14, w15, w16], [], h) = some (none, h') ∧ Fr [13] [] h h' ∧ ∀ c, c < W * H → hI h' 13 c = nI ((chs W H ar al (decide (a = -1)) (W * H) 0 0 a.toNatClampNeg r).getD c 0) ∧ (chs W H ar al (decide (a = -1)) (W * H) 0 0 a.toNatClampNeg r).getD c 0 < 10 := by
  have hs := cs.1
  have hb := cs.2.1
  obtain ⟨-, f2, f3, -⟩ := fd_in hb.1 hr
  obtain ⟨h', x1, x2, x3, x4, x5⟩ := s83c (al := al) (any := decide (a = -1)) (.int a) (.long (lN r)) (nl w4) (W * H) 0 (by omega) h 0 a.toNatClampNeg r a .null w12 w13 w14 w15 w16 hb hs cs.2.2.1 cs.mo (fun c hc => cs.wr hc) rfl f3 f2
  refine ⟨h', ?_, x2, fun c hc => ⟨?_, x5 c⟩⟩
  · rw [g83_0 _ _ _ _ _ _ _ _ _ _ _ _ _ _ _ h hs, s6 hb hs, bI_s]
    by_cases q : a = -1
    · rw [if_pos q]
      have : aI (decide (a = -1)) = 1 := by rw [decide_eq_true q]; rfl
      rw [this] at x1
      exact x1
    · rw [if_neg q]
      have : aI (decide (a = -1)) = 0 := by rw [decide_eq_false q]; rfl
      rw [this] at x1
      exact x1
  · have := x3 c hc
    rwa [Nat.zero_add] at this
theorem s98 {u : Nat} {qm qw s : Nat} (cs : CSx u W H ar al h qm qw s) (a : Int32) (b : Int64) (w3 : Value) : ∃ h' qm' qw', X (98, 0, [.ref 5, .int a, .long b, w3], [], h) = some (some (.int (if (fdO W H ar al a b).isSome = true then 1 else 0)), h') ∧ CSx u W H ar al h' qm' qw' 0 ∧ UF (13 :: slS) h h' ∧ (fdO W H ar al a b = none → hI h' 13 = hI h 13) ∧ ∀ l, fdO W H ar al a b = some l → ∀ c, c < W * H → hI h' 13 c = nI (l.getD c 0) ∧ l.getD c 0 < 10 := by
  obtain ⟨g, qm', qw', x1, x2, x3⟩ := s71 cs .null
  have hk := cs.2.1.1
  have gs := x2.1
  rw [g98_0 _ _ _ h cs.1, x1, bV_s]
  have no : fdO W H ar al a b = none → ∃ h' qm' qw', some (some (Value.int 0), g) = some (some (.int (if (fdO W H ar al a b).isSome = true then 1 else 0)), h') ∧ CSx u W H ar al h' qm' qw' 0 ∧ UF (13 :: slS) h h' ∧ (fdO W H ar al a b = none → hI h' 13 = hI h 13) ∧ ∀ l, fdO W H ar al a b = some l → ∀ c, c < W * H → hI h' 13 c = nI (l.getD c 0) ∧ l.getD c 0 < 10 := by
    intro e
    refine ⟨g, qm', qw', by rw [e]; rfl, x2, x3.mono (fun q hq => List.mem_cons_of_mem _ hq), fun _ => x3.1 13 (by decide) (by decide), fun l hl => ?_⟩
    rw [e] at hl; cases hl
  by_cases q2 : b < 0
  · have nc : lg_cmp b 0 < 0 := (lg_cmp_lt b 0).mpr q2
    rw [if_pos nc]
    refine no ?_
    unfold fdO
    rw [if_pos q2]
  · have nc : ¬ lg_cmp b 0 < 0 := fun u => q2 ((lg_cmp_lt b 0).mp u)
    obtain ⟨r, hr, rfl⟩ := pk_lOf q2
    have c63 := cntI_63 (al := al) hk a
    have er : (lN r).toInt.toNat = r := by rw [pk_lT hr]; rfl
    rw [if_neg nc, s70 (x2.wr (Nat.zero_le _)), bL_s]
    by_cases q3 : r < cntI W H ar al 0 0 a
    · have nc2 : lg_cmp (lN r) (lN (cntI W H ar al 0 0 a)) < 0 := by
        rw [lg_cmp_lt, pk_lLT hr (by omega)]; exact q3
      have ef : fdO W H ar al a (lN r) = some (chs W H ar al (decide (a = -1)) (W * H) 0 0 a.toNatClampNeg r) := by
        unfold fdO
        rw [if_neg q2, er, if_pos q3]
      obtain ⟨h', y1, y2, y3⟩ := s83 x2 q3 .null .null .null .null .null .null .null .null .null .null .null .null .null
      rw [if_pos nc2, y1, bV_s]
      have hj' : JK h' := fun k hk => by rw [y2.2.2.2.2.2.1 11 (by decide)]; exact x2.2.2.2.1 k hk
      refine ⟨h', qm', qw', by rw [ef]; rfl, x2.fr y2 (by simp) (by simp) hj', (x3.mono (fun q hq => List.mem_cons_of_mem _ hq)).tr (UF.of y2 (by simp) (by simp)), fun e => ?_, fun l hl c hc => ?_⟩
      · rw [ef] at e; cases e
      · rw [ef] at hl
        rw [← Option.some.inj hl]
        exact y3 c hc
    · have nc2 : ¬ lg_cmp (lN r) (lN (cntI W H ar al 0 0 a)) < 0 := by
        rw [lg_cmp_lt, pk_lLT hr (by omega)]; exact q3
      rw [if_neg nc2]
      refine no ?_
      unfold fdO
      rw [if_neg q2, er, if_neg q3]
/-- what rank answers -/
def rkA (W H : Nat) (ar : Bool) (al sh : Nat → Nat) (any : Bool) : Int64 := match lpF W H ar al sh (W * H) 0 0 with
  | none => -1
  | some y => lN (ahd W H ar al any sh (W * H) 0 0 y 0)
theorem s99 {u : Nat} {qm qw s : Nat} (cs : CSx u W H ar al h qm qw s) (hc : SC h W H sh) (a : Int32) : ∃ h' qm' qw' s', X (99, 0, [.ref 5, .int a], [], h) = some (some (.long (rkA W H ar al sh (decide (a = 0)))), h') ∧ CSx u W H ar al h' qm' qw' s' ∧ UF (12 :: slS) h h' := by
  have hs := cs.1
  have hb := cs.2.1
  have hk := hb.1
  obtain ⟨g, x1, x2, x3, x4⟩ := s56 hb hs cs.2.2.1 hc cs.2.2.2.1
  have gc := cs.fr x2 (by simp) (by simp) x3
  have gU : UF (12 :: slS) h g := UF.of x2 (by decide) (by simp)
  rw [g99_0 _ h hs, x1, bI_s]
  unfold flB rkA
  cases e : lpF W H ar al sh (W * H) 0 0 with
  | none => rw [if_pos (by rfl)]; exact ⟨g, qm, qw, s, rfl, gc, gU⟩
  | some y =>
    obtain ⟨k, qm', qw', y1, y2, y3⟩ := s71 gc .null
    have ks := y2.1
    have kb := y2.2.1
    have kU : UF (12 :: slS) h k := gU.tr (y3.mono (fun q hq => List.mem_cons_of_mem _ hq))
    have kc : SC k W H sh := fun c hc2 => by
      rw [y3.1 13 (by decide) (by decide), x2.2.2.2.2.2.1 13 (by decide)]; exact hc c hc2
    have y12 := lp_12 hk (fun c hc2 => (hc c hc2).2) e
    rw [if_neg sm1, y1, bV_s]
    have go := fun (any : Bool) (av : Int32) (hd : DU any y av) => s84c (al := al) (any := any) (sh := sh) kb ks y2.2.2.1 y2.mo (fun c hc => y2.wr hc) kc (.int av) (W * H) 0 (by omega) 0 y 0 y av .null .null .null .null .null .null rfl e hd (Or.inr rfl)
    by_cases q : a = 0
    · rw [if_pos q, decide_eq_true q, g84_0 _ _ _ _ _ _ _ _ _ _ _ _ _ k ks, s6 kb ks, bI_s, if_pos rfl]
      have := go true (-1) (Or.inl rfl)
      refine ⟨k, qm', qw', 0, ?_, y2, kU⟩
      show bL (X (84, 32, [.ref 15, .ref 12, .int (-1), .int (nI (W * H)), .int (aI true), .long (lN 0), .null, .int (-1), .int (nI 0), .int (nI 0), .null, .null, .null, .null, .null], [], k)) _ = _
      rw [this, bL_s]
    · have l4 : hI k 12 4 = nI y := by
        rw [y3.1 12 (by decide) (by decide)]; exact x4 y e
      rw [if_neg q, decide_eq_false q, g57_0 k ks, bI_s, l4, g84_0 _ _ _ _ _ _ _ _ _ _ _ _ _ k ks, s6 kb ks, bI_s, if_neg (neg1_nI (by omega))]
      have := go false (nI y) (Or.inr ⟨rfl, rfl, y12⟩)
      refine ⟨k, qm', qw', 0, ?_, y2, kU⟩
      show bL (X (84, 32, [.ref 15, .ref 12, .int (nI y), .int (nI (W * H)), .int (aI false), .long (lN 0), .null, .int (nI y), .int (nI 0), .int (nI 0), .null, .null, .null, .null, .null], [], k)) _ = _
      rw [this, bL_s]
/-- a step of the scan for a rank, in the reference's words -/
theorem ah_step {any : Bool} {d c n f t s laid : Nat} {m : Mv} {s' : Nat} (hl : t < laid) (e : scan (ahF W H ar al any d c n laid) (mvT W H ar c n (f + 1) t) s = .inl (m, s')) : scan (ahF W H ar al any d c n laid) (mvT W H ar c n f (t + 1)) (s + thO W H ar al any d c n t) = .inl (m, s') := by
  rw [mvT, scan_app] at e
  unfold thO mvQ
  cases htr : tr W H ar c n t with
  | none =>
    rw [htr] at e
    have e : scan (ahF W H ar al any d c n laid) (mvT W H ar c n f (t + 1)) s = .inl (m, s') := e
    by_cases u : (al c).testBit t = true
    · rw [if_pos u]; exact e
    · rw [if_neg u]; exact e
  | some q =>
    rw [htr] at e
    have e : sb (sb (ahF W H ar al any d c n laid s (n, t, q.1, q.2)) (fun s => .inr s)) (scan (ahF W H ar al any d c n laid) (mvT W H ar c n f (t + 1))) = .inl (m, s') := e
    by_cases u : (al c).testBit t = true
    · have : ahF W H ar al any d c n laid s (n, t, q.1, q.2) = .inr (s + wy W H ar al any d (c + 1) q.1 q.2) := by
        unfold ahF
        rw [if_pos ⟨rfl, Nat.le_of_lt hl, u⟩, if_neg (by show ¬ t = laid; omega)]
      rw [this] at e
      rw [if_pos u]; exact e
    · have : ahF W H ar al any d c n laid s (n, t, q.1, q.2) = .inr s := by
        unfold ahF
        rw [if_neg (fun z => u z.2.2)]
      rw [this] at e
      rw [if_neg u]; exact e
theorem ah_last {any : Bool} {d c n f t s : Nat} {m : Mv} {s' : Nat} {q : Nat × Nat} (hq : tr W H ar c n t = some q) (hv : (al c).testBit t = true) (e : scan (ahF W H ar al any d c n t) (mvT W H ar c n (f + 1) t) s = .inl (m, s')) : m = (n, t, q.1, q.2) ∧ s' = s := by
  rw [mvT, scan_app, hq] at e
  have e : sb (sb (ahF W H ar al any d c n t s (n, t, q.1, q.2)) (fun s => .inr s)) (scan (ahF W H ar al any d c n t) (mvT W H ar c n f (t + 1))) = .inl (m, s') := e
  have : ahF W H ar al any d c n t s (n, t, q.1, q.2) = .inl ((n, t, q.1, q.2), s) := by
    unfold ahF
    rw [if_pos ⟨rfl, Nat.le_refl _, hv⟩, if_pos rfl]
  rw [this] at e
  have e2 := Prod.mk.inj (Sum.inl.inj e)
  exact ⟨e2.1.symm, e2.2.symm⟩
theorem s134l (hs : SH h) (hk : okS W H ar = true) (rn : RNn W H ar al h) (hm28 : SM h W H sh) {c z n d : Nat} {any : Bool} {a : Int32} (hc : c < W * H) (hsn : (Ls W H ar al c)[z]? = some n) (hd : DV any d a) {q : Nat × Nat} (hq : tr W H ar c n (sh c) = some q) (hv : (al c).testBit (sh c) = true) (hkd : any = true ∨ q.2 ≤ d) {m : Mv} {s' : Nat} : ∀ (f t : Nat), t + f = 10 → t ≤ sh c → ∀ (s : Nat), scan (ahF W H ar al any d c n (sh c)) (mvT W H ar c n f t) s = .inl (m, s') → ∀ (w1 w4 : Value), ∃ v1 v4 v7 z', (Ls W H ar al (c + 1))[z']? = some q.1 ∧ X (134, 48, [.ref 26, w1, .int a, .long (lN s), w4, .int (nI z), .int (nI c), .int (nI t)], [], h) = X (134, 36, [.ref 26, v1, .int (nxV any d q.2), .long (lN s'), v4, .int (nI z'), .int (nI (c + 1)), v7], [], h) := by
  have h20 := (okS_1 hk).2.2.1
  have hs76 := Nat.lt_of_lt_of_le (get_mem hsn).2 (Ls_len (al := al) hk (by omega))
  obtain ⟨i1, i2⟩ := hm28 c hc
  intro f
  induction f with
  | zero => intro t ht hle s e; cases e
  | succ f ih =>
    intro t ht hle s e w1 w4
    have cb : inB (nI c) 20 = true := inB_nI (by omega) (by decide)
    rw [g134_48 _ _ _ _ _ _ _ h hs, if_pos cb, nI_clamp (show c < 2 ^ 31 by omega), i1]
    rcases Nat.lt_or_ge t (sh c) with u | u
    · rw [if_neg (nI_ge u (by omega)), s133 hs hk rn hc hsn (show t < 10 by omega) hd, bL_s, lN_add, nI_1]
      exact ih (t + 1) (by omega) u _ (ah_step u e) _ _
    · have et : t = sh c := by omega
      subst et
      obtain ⟨rfl, rfl⟩ := ah_last hq hv e
      have x800 : 800 * nI c + nI z = nI (800 * c + z) := by rw [show (800 : Int32) = nI 800 from rfl, pk_mul, nI_add]
      have xi : nI (800 * c + z) * 10 + nI (sh c) = nI (ixN c z (sh c)) := by rw [show (10 : Int32) = nI 10 from rfl, pk_mul, nI_add]; rfl
      have ixl : ixN c z (sh c) < 168000 := by unfold ixN; omega
      have ixb : inB (nI (ixN c z (sh c))) 168000 = true := inB_nI ixl (by decide)
      have le := rn.2.1 c hc _ _ hsn (sh c) i2
      have hmq : mvQ W H ar al c n (sh c) = some q := by unfold mvQ; rw [if_pos hv]; exact hq
      unfold LEn at le
      rw [hmq] at le
      obtain ⟨y, l1, l2, l3⟩ := le
      rw [if_pos (nI_le (Nat.le_refl _) (by omega)), if_pos cb, x800, xi]
      rcases hd with ⟨rfl, rfl⟩ | ⟨rfl, rfl, hd⟩
      · rw [if_pos rfl, g134_117 _ _ _ _ _ _ _ h hs, if_pos ixb, nI_clamp (show ixN c z (sh c) < 2 ^ 31 by omega), l2, nI_1]
        exact ⟨_, _, _, y, l1, rfl⟩
      · have kd : q.2 ≤ d := by
          rcases hkd with u | u
          · cases u
          · exact u
        rw [if_neg (neg1_nI (by omega)), if_pos ixb, nI_clamp (show ixN c z (sh c) < 2 ^ 31 by omega), l3, pk_sub kd, g134_117 _ _ _ _ _ _ _ h hs, if_pos ixb, nI_clamp (show ixN c z (sh c) < 2 ^ 31 by omega), l2, nI_1]
        exact ⟨_, _, _, y, l1, rfl⟩
theorem s134c (hs : SH h) (hm : MD h W H ar) (rn : RNn W H ar al h) (hm28 : SM h W H sh) {any : Bool} : ∀ (r c : Nat), c + r = W * H → ∀ (z n d s y : Nat) (a : Int32) (w1 w4 w7 : Value), (Ls W H ar al c)[z]? = some n → lpF W H ar al sh r c n = some y → DV any d a → (any = true ∨ d = y) → X (134, 36, [.ref 26, w1, .int a, .long (lN s), w4, .int (nI z), .int (nI c), w7], [], h) = some (some (.long (lN (ahd W H ar al any sh r c n d s))), h) := by
  have hk := hm.1
  have h20 := (okS_1 hk).2.2.1
  intro r
  induction r with
  | zero =>
    intro c hc z n d s y a w1 w4 w7 hsn hl hd hdy
    rw [g134_36 _ _ _ _ _ _ _ h hs, s106 hm hs, bI_s, if_pos (nI_le (by omega) (by omega)), ahd]
  | succ r ih =>
    intro c hc z n d s y a w1 w4 w7 hsn hl hd hdy
    have hcl : c < W * H := by omega
    obtain ⟨q, z2, e1, e2, e3, e4⟩ := lp_st hl
    obtain ⟨s1, s2⟩ := hm28 c hcl
    obtain ⟨s', x⟩ := ah_ex (any := any) (d := d) e2 e1 10 0 s (by omega) (by omega)
    have dk : any = true ∨ q.2 ≤ d := hdy.imp id (fun u => by omega)
    obtain ⟨v1, v4, v7, z', l1, y1⟩ := s134l hs hk rn hm28 hcl hsn hd e2 e1 dk 10 0 (by omega) (Nat.zero_le _) s x w1 w4
    rw [g134_36 _ _ _ _ _ _ _ h hs, s106 hm hs, bI_s, if_neg (nI_ge (by omega) (by omega))]
    show X (134, 48, [.ref 26, w1, .int a, .long (lN s), w4, .int (nI z), .int (nI c), .int (nI 0)], [], h) = _
    rw [y1, ih (c + 1) (by omega) z' q.1 (d - q.2) s' z2 (nxV any d q.2) v1 v4 v7 l1 e3 hd.nx (hdy.imp id (fun u => by omega)), ahd, x]
theorem s134 (rs : RSt W H ar al h) (hc : SM h W H sh) (a : Int32) (w2 w3 w4 w5 w6 w7 : Value) : ∃ h', X (134, 0, [.ref 26, .int a, w2, w3, w4, w5, w6, w7], [], h) = some (some (.long (rkA W H ar al sh (decide (a = 0)))), h') ∧ Fr [26, 32, 33, 34, 35, 36, 37] [38, 39] h h' ∧ RSt W H ar al h' := by
  obtain ⟨⟨hs, hm, ha, hj⟩, no⟩ := rs
  have hk := hm.1
  obtain ⟨g, x1, x2, x3, x4, x5⟩ := s130 hm hs ha hc hj
  have gs := x2.sh hs (by simp; omega)
  have gI : ∀ q, q ≠ 26 → q ≠ 32 → hI g q = hI h q := fun q h1 h2 => x2.2.2.2.2.2.1 q (by simp; omega)
  have gm : MD g W H ar := hm.fr x2 (x3 0 (by decide) (by decide)) (x3 1 (by decide) (by decide)) (x3 2 (by decide) (by decide)) (by decide) (by decide) (by decide)
  have gr : RSt W H ar al g := by
    refine ⟨⟨gs, gm, fun c hc2 => by rw [gI 27 (by decide) (by decide)]; exact ha c hc2, x4⟩, ?_⟩
    rcases no with no | ⟨n1, n2⟩
    · left; rw [x3 5 (by decide) (by decide)]; exact no
    · right; exact ⟨by rw [x3 5 (by decide) (by decide)]; exact n1, n2.kp (gI 33 (by decide) (by decide)) (gI 34 (by decide) (by decide)) (gI 36 (by decide) (by decide)) (gI 37 (by decide) (by decide)) (x2.2.2.2.2.2.2 38 (by simp)) (x2.2.2.2.2.2.2 39 (by simp))⟩
  rw [g134_0 _ _ _ _ _ _ _ h hs, x1, bI_s]
  unfold flB rkA
  cases e : lpF W H ar al sh (W * H) 0 0 with
  | none => rw [if_pos (by rfl)]; exact ⟨g, rfl, x2.mono (by simp) (by simp), gr⟩
  | some y =>
    obtain ⟨k, y1, y2, y3, y4, y5⟩ := s120 gr .null .null .null .null .null
    have ks := y4.1.1
    have km := y4.1.2.1
    have kc : SM k W H sh := fun c hc2 => by
      rw [y2.2.2.2.2.2.1 28 (by decide), gI 28 (by decide) (by decide)]; exact hc c hc2
    have y12 := lp_12 hk (fun c hc2 => (hc c hc2).2) e
    have go := fun (any : Bool) (av : Int32) (w7 : Value) (hd : DV any y av) => s134c (al := al) (any := any) (sh := sh) ks km y5 kc (W * H) 0 (by omega) 0 0 y 0 y av (.int a) .null w7 L0 e hd (Or.inr rfl)
    refine ⟨k, ?_, (x2.mono (by simp) (by simp)).tr y2, y4⟩
    rw [if_neg sm1]
    by_cases q : a = 0
    · rw [if_pos q, decide_eq_true q, y1, bV_s]
      exact go true (-1) w7 (Or.inl ⟨rfl, rfl⟩)
    · rw [if_neg q, decide_eq_false q, y1, bV_s, x5 y e]
      exact go false (nI y) w7 (Or.inr ⟨rfl, rfl, y12⟩)
end Rk
