/-! the reference finds and ranks -/
section Rf
variable {W H : Nat} {ar : Bool} {al sh : Nat → Nat} {h : HP}
theorem RNn.kp {h h' : HP} (r : RNn W H ar al h) (e33 : hI h' 33 = hI h 33) (e34 : hI h' 34 = hI h 34) (e36 : hI h' 36 = hI h 36) (e37 : hI h' 37 = hI h 37) (l38 : hL h' 38 = hL h 38) (l39 : hL h' 39 = hL h 39) : RNn W H ar al h' := by
  obtain ⟨r1, r2, r3⟩ := r
  exact ⟨fun c' hc' => (r1 c' hc').keep (by rw [e33]) (fun p _ => ⟨by rw [e34], by rw [l39]⟩), fun c' hc' s n hsn t ht => LEn.keep (r2 c' hc' s n hsn t ht) (by rw [e36]) (by rw [e37]) (fun z n hz => hz), r3.keep (fun p _ => by rw [l38])⟩
theorem RSt.kp {h h' : HP} (r : RSt W H ar al h) (hs' : SH h') (e : ∀ q, 26 ≤ q → q < 40 → q ≠ 28 → hI h' q = hI h q) (l38 : hL h' 38 = hL h 38) (l39 : hL h' 39 = hL h 39) : RSt W H ar al h' := by
  obtain ⟨⟨hs, ⟨m0, m1, m2, m3, m4, m5, m6⟩, ha, hj⟩, no⟩ := r
  have e26 := e 26 (by decide) (by decide) (by decide)
  refine ⟨⟨hs', ⟨m0, by rw [e26]; exact m1, by rw [e26]; exact m2, by rw [e26]; exact m3, by rw [e 29 (by decide) (by decide) (by decide)]; exact m4, by rw [e 30 (by decide) (by decide) (by decide)]; exact m5, by rw [e 31 (by decide) (by decide) (by decide)]; exact m6⟩, fun c hc => by rw [e 27 (by decide) (by decide) (by decide)]; exact ha c hc, fun k hk => by rw [e 32 (by decide) (by decide) (by decide)]; exact hj k hk⟩, ?_⟩
  rcases no with no | ⟨n1, n2⟩
  · left; rw [e26]; exact no
  · right; exact ⟨by rw [e26]; exact n1, n2.kp (e 33 (by decide) (by decide) (by decide)) (e 34 (by decide) (by decide) (by decide)) (e 36 (by decide) (by decide) (by decide)) (e 37 (by decide) (by decide) (by decide)) l38 l39⟩
/-- how the reference holds a number of loops -/
def DV (any : Bool) (d : Nat) (a : Int32) : Prop := (any = true ∧ a = -1) ∨ (any = false ∧ a = nI d ∧ d ≤ 12)
def thO (W H : Nat) (ar : Bool) (al : Nat → Nat) (any : Bool) (d c n t : Nat) : Nat := match mvQ W H ar al c n t with
  | none => 0
  | some q => wy W H ar al any d (c + 1) q.1 q.2
theorem s133 (hs : SH h) (hk : okS W H ar = true) (rn : RNn W H ar al h) {c z n t d : Nat} {any : Bool} {a : Int32} (hc : c < W * H) (hsn : (Ls W H ar al c)[z]? = some n) (ht : t < 10) (hd : DV any d a) (w5 : Value) : X (133, 0, [.ref 26, .int (nI c), .int (nI z), .int (nI t), .int a, w5], [], h) = some (some (.long (lN (thO W H ar al any d c n t))), h) := by
  have h20 := (okS_1 hk).2.2.1
  have hs76 := Nat.lt_of_lt_of_le (get_mem hsn).2 (Ls_len (al := al) hk (by omega))
  have hn := Ls_rch (al := al) hk c (by omega) n (get_mem hsn).1
  have x800 : 800 * nI c + nI z = nI (800 * c + z) := by rw [show (800 : Int32) = nI 800 from rfl, pk_mul, nI_add]
  have xi : nI (800 * c + z) * 10 + nI t = nI (ixN c z t) := by rw [show (10 : Int32) = nI 10 from rfl, pk_mul, nI_add]; rfl
  have ixl : ixN c z t < 168000 := by unfold ixN; omega
  have ixb : inB (nI (ixN c z t)) 168000 = true := inB_nI ixl (by decide)
  have le := rn.2.1 c hc _ _ hsn t ht
  rw [g133_0 _ _ _ _ _ h hs, x800, xi, if_pos ixb, nI_clamp (show ixN c z t < 2 ^ 31 by omega)]
  unfold LEn at le
  unfold thO
  cases e : mvQ W H ar al c n t with
  | none =>
    rw [e] at le
    have le : hI h 36 (ixN c z t) = -1 := le
    rw [if_pos le]; rfl
  | some q =>
    rw [e] at le
    obtain ⟨y, l1, l2, l3⟩ := le
    have hz := (get_mem l1).2
    have len := Ls_len (al := al) hk (show c + 1 ≤ W * H by omega)
    have hm := rch_st hk hc hn ht (mvO_some e).2
    have k12 : q.2 ≤ 12 := (mvs_ok hk hc hm).1.2.2.2
    rw [if_neg (by rw [l2]; exact neg1_nI (by omega))]
    unfold wy
    rcases hd with ⟨rfl, rfl⟩ | ⟨rfl, rfl, hd⟩
    · have ec : cntI W H ar al (c + 1) q.1 (-1) = tot W H ar al (c + 1) q.1 := by unfold cntI; rw [if_pos rfl]
      rw [if_pos rfl, g133_45 _ _ _ _ _ h hs, if_pos ixb, if_pos rfl, nI_clamp (show ixN c z t < 2 ^ 31 by omega), l2, nI_1, s122 hs hk rn (by omega) l1, bL_s, ec]
      rfl
    · rw [if_neg (neg1_nI (by omega)), if_pos ixb, l3]
      by_cases u : q.2 ≤ d
      · have ec : cntI W H ar al (c + 1) q.1 (nI (d - q.2)) = cnt W H ar al (W * H - (c + 1)) (c + 1) q.1 (d - q.2) := by
          unfold cntI
          rw [if_neg (neg1_nI (by omega)), if_neg (nI_pos (by omega)), nI_clamp (by omega)]
        rw [if_pos (nI_le u (by omega)), g133_45 _ _ _ _ _ h hs, if_pos ixb, if_neg (neg1_nI (by omega)), if_pos ixb, nI_clamp (show ixN c z t < 2 ^ 31 by omega), l2, l3, pk_sub u, nI_1, s122 hs hk rn (by omega) l1, bL_s, ec]
        show _ = some (some (Value.long (lN (if false = true then _ else if q.2 ≤ d then _ else 0))), h)
        rw [if_neg (by decide), if_pos u]
      · rw [if_neg (nI_ge (by omega) (by omega))]
        show _ = some (some (Value.long (lN (if false = true then _ else if q.2 ≤ d then _ else 0))), h)
        rw [if_neg (by decide), if_neg u]; rfl
theorem thO_lt (hk : okS W H ar = true) (any : Bool) {d c n t : Nat} (hc : c < W * H) : thO W H ar al any d c n t < 2 ^ 62 := by
  unfold thO
  cases mvQ W H ar al c n t with
  | none => exact (show 0 < 2 ^ 62 by decide)
  | some q => exact wy_63 hk any (by omega)
/-- a step of the scan for a tile, in the reference's words -/
theorem pk_step {any : Bool} {d c n f t s : Nat} {m : Mv} {s' : Nat} (e : scan (pkF W H ar al any d c n) (mvT W H ar c n (f + 1) t) s = .inl (m, s')) : (s < thO W H ar al any d c n t ∧ ∃ q, mvQ W H ar al c n t = some q ∧ m = (n, t, q.1, q.2) ∧ s' = s) ∨ (thO W H ar al any d c n t ≤ s ∧ scan (pkF W H ar al any d c n) (mvT W H ar c n f (t + 1)) (s - thO W H ar al any d c n t) = .inl (m, s')) := by
  rw [mvT, scan_app] at e
  unfold thO mvQ
  cases htr : tr W H ar c n t with
  | none =>
    rw [htr] at e
    right
    have e : scan (pkF W H ar al any d c n) (mvT W H ar c n f (t + 1)) s = .inl (m, s') := e
    by_cases u : (al c).testBit t = true
    · rw [if_pos u]; exact ⟨Nat.zero_le _, e⟩
    · rw [if_neg u]; exact ⟨Nat.zero_le _, e⟩
  | some q =>
    rw [htr] at e
    have e : sb (sb (pkF W H ar al any d c n s (n, t, q.1, q.2)) (fun s => .inr s)) (scan (pkF W H ar al any d c n) (mvT W H ar c n f (t + 1))) = .inl (m, s') := e
    by_cases u : (al c).testBit t = true
    · rw [if_pos u]
      by_cases v : s < wy W H ar al any d (c + 1) q.1 q.2
      · left
        have : pkF W H ar al any d c n s (n, t, q.1, q.2) = .inl ((n, t, q.1, q.2), s) := by
          unfold pkF
          rw [if_pos ⟨rfl, u⟩, if_pos v]
        rw [this] at e
        have e2 := Prod.mk.inj (Sum.inl.inj e)
        exact ⟨v, q, rfl, e2.1.symm, e2.2.symm⟩
      · right
        have : pkF W H ar al any d c n s (n, t, q.1, q.2) = .inr (s - wy W H ar al any d (c + 1) q.1 q.2) := by
          unfold pkF
          rw [if_pos ⟨rfl, u⟩, if_neg v]
        rw [this] at e
        exact ⟨Nat.le_of_not_lt v, e⟩
    · rw [if_neg u]
      right
      have : pkF W H ar al any d c n s (n, t, q.1, q.2) = .inr s := by
        unfold pkF
        rw [if_neg (fun z => u z.2)]
      rw [this] at e
      exact ⟨Nat.zero_le _, e⟩
def nxV (any : Bool) (d k : Nat) : Int32 := if any = true then -1 else nI (d - k)
theorem s132l (hs : SH h) (hk : okS W H ar = true) (rn : RNn W H ar al h) {c z n d : Nat} {any : Bool} {a : Int32} (hc : c < W * H) (hsn : (Ls W H ar al c)[z]? = some n) (hd : DV any d a) {m : Mv} {s' : Nat} (hkd : any = true ∨ m.2.2.2 ≤ d) (w1 w2 : Value) : ∀ (f t : Nat), t + f = 10 → ∀ (s : Nat), s < 2 ^ 62 → scan (pkF W H ar al any d c n) (mvT W H ar c n f t) s = .inl (m, s') → ∀ (w3 w5 w10 w11 : Value), ∃ v3 v5 v9 v10 v11 z', (Ls W H ar al (c + 1))[z']? = some m.2.2.1 ∧ X (132, 53, [.ref 26, w1, w2, w3, .long (lN s), w5, .int (nI z), .int a, .int (nI c), .int (nI t), w10, w11], [], h) = X (132, 41, [.ref 26, w1, w2, v3, .long (lN s'), v5, .int (nI z'), .int (nxV any d m.2.2.2), .int (nI (c + 1)), v9, v10, v11], [], sI h 40 c (nI m.2.1)) := by
  have h20 := (okS_1 hk).2.2.1
  have hs76 := Nat.lt_of_lt_of_le (get_mem hsn).2 (Ls_len (al := al) hk (by omega))
  intro f
  induction f with
  | zero => intro t ht s hs62 e; cases e
  | succ f ih =>
    intro t ht s hs62 e w3 w5 w10 w11
    have t62 := thO_lt (al := al) (n := n) (t := t) (d := d) hk any hc
    rw [g132_53 _ _ _ _ _ _ _ _ _ _ _ h hs, s133 hs hk rn hc hsn (show t < 10 by omega) hd, bL_s]
    rcases pk_step e with ⟨v, q, hq, rfl, rfl⟩ | ⟨v, e'⟩
    · have nc : ¬ 0 ≤ lg_cmp (lN s') (lN (thO W H ar al any d c n t)) := by
        rw [lg_cmp_ge, pk_lLE (by omega) (by omega)]
        omega
      have x800 : 800 * nI c + nI z = nI (800 * c + z) := by rw [show (800 : Int32) = nI 800 from rfl, pk_mul, nI_add]
      have xi : nI (800 * c + z) * 10 + nI t = nI (ixN c z t) := by rw [show (10 : Int32) = nI 10 from rfl, pk_mul, nI_add]; rfl
      have ixl : ixN c z t < 168000 := by unfold ixN; omega
      have ixb : inB (nI (ixN c z t)) 168000 = true := inB_nI ixl (by decide)
      have le := rn.2.1 c hc _ _ hsn t (by omega)
      unfold LEn at le
      rw [hq] at le
      obtain ⟨y, l1, l2, l3⟩ := le
      have gs : SH (sI h 40 c (nI t)) := hs.sIs 40 rfl
      have g36 : ∀ p, hI (sI h 40 c (nI t)) 36 p = hI h 36 p := fun p => by rw [hI_sI_o _ _ _ (by decide)]
      have g37 : ∀ p, hI (sI h 40 c (nI t)) 37 p = hI h 37 p := fun p => by rw [hI_sI_o _ _ _ (by decide)]
      rw [if_neg nc, if_pos (inB_nI (by omega) (by decide)), nI_clamp (show c < 2 ^ 31 by omega), x800, xi]
      rcases hd with ⟨rfl, rfl⟩ | ⟨rfl, rfl, hd⟩
      · rw [if_pos rfl, g132_135 _ _ _ _ _ _ _ _ _ _ _ _ gs, if_pos ixb, nI_clamp (show ixN c z t < 2 ^ 31 by omega), g36, l2, nI_1]
        exact ⟨_, _, _, _, _, y, l1, rfl⟩
      · have kd : q.2 ≤ d := by
          rcases hkd with u | u
          · cases u
          · exact u
        rw [if_neg (neg1_nI (by omega)), if_pos ixb, nI_clamp (show ixN c z t < 2 ^ 31 by omega), g37, l3, pk_sub kd, g132_135 _ _ _ _ _ _ _ _ _ _ _ _ gs, if_pos ixb, nI_clamp (show ixN c z t < 2 ^ 31 by omega), g36, l2, nI_1]
        exact ⟨_, _, _, _, _, y, l1, rfl⟩
    · have nc : 0 ≤ lg_cmp (lN s) (lN (thO W H ar al any d c n t)) := by
        rw [lg_cmp_ge, pk_lLE (by omega) (by omega)]
        exact v
      rw [if_pos nc, lN_sub v, nI_1]
      exact ih (t + 1) (by omega) _ (by omega) e' _ _ _ _
theorem DV.nx {any : Bool} {d k : Nat} {a : Int32} (hd : DV any d a) : DV any (d - k) (nxV any d k) := by
  unfold nxV
  rcases hd with ⟨rfl, -⟩ | ⟨rfl, -, hd⟩
  · left; exact ⟨rfl, by rw [if_pos rfl]⟩
  · right; exact ⟨rfl, by rw [if_neg (by decide)], by omega⟩
theorem s132c {any : Bool} (w1 w2 : Value) : ∀ (r c : Nat), c + r = W * H → ∀ (h : HP) (z n d s : Nat) (a : Int32) (w3 w5 w9 w10 w11 : Value), SH h → MD h W H ar → RNn W H ar al h → (Ls W H ar al c)[z]? = some n → DV any d a → s < wy W H ar al any d c n 0 → ∃ h' v3 v4 v5 v6 v7 v9 v10 v11, X (132, 41, [.ref 26, w1, w2, w3, .long (lN s), w5, .int (nI z), .int a, .int (nI c), w9, w10, w11], [], h) = X (132, 153, [.ref 26, w1, w2, v3, v4, v5, v6, v7, .int 0, v9, v10, v11], [], h') ∧ Fr [40] [] h h' ∧ SH h' ∧ (∀ i, i < r → hI h' 40 (c + i) = nI ((chs W H ar al any r c n d s).getD i 0)) ∧ (∀ j, j < c → hI h' 40 j = hI h 40 j) := by
  intro r
  induction r with
  | zero =>
    intro c hc h z n d s a w3 w5 w9 w10 w11 hs hm rn hsn hd hsl
    have h20 := (okS_1 hm.1).2.2.1
    refine ⟨h, w3, .long (lN s), w5, .int (nI z), .int a, w9, w10, w11, ?_, Fr.rf, hs, fun i hi => absurd hi (Nat.not_lt_zero _), fun _ _ => rfl⟩
    rw [g132_41 _ _ _ _ _ _ _ _ _ _ _ h hs, s106 hm hs, bI_s, if_pos (nI_le (by omega) (by omega))]
  | succ r ih =>
    intro c hc h z n d s a w3 w5 w9 w10 w11 hs hm rn hsn hd hsl
    have hk := hm.1
    have h20 := (okS_1 hk).2.2.1
    have hn := Ls_rch (al := al) hk c (by omega) n (get_mem hsn).1
    obtain ⟨m, s', e1, e2, e3, e4, e5, e6, e7⟩ := pk_ok (al := al) hk (show c < W * H by omega) hn hsl
    have w63 := wy_63 (al := al) (W := W) (H := H) (ar := ar) hk any (d := d) (c := c) (n := n) (k := 0) (by omega)
    obtain ⟨v3, v5, v9, v10, v11, z', x0, x1⟩ := s132l hs hk rn (show c < W * H by omega) hsn hd e5 w1 w2 10 0 (by omega) s (by omega) e1 w3 w5 w10 w11
    generalize hG : sI h 40 c (nI m.2.1) = g at x1
    have gF : Fr [40] [] h g := by rw [← hG]; exact Fr.sI (by simp)
    have gs : SH g := by rw [← hG]; exact hs.sIs 40 rfl
    have gI : ∀ q, q ≠ 40 → hI g q = hI h q := fun q hq => gF.2.2.2.2.2.1 q (by simp; exact hq)
    have gn : RNn W H ar al g := rn.kp (gI 33 (by decide)) (gI 34 (by decide)) (gI 36 (by decide)) (gI 37 (by decide)) (gF.2.2.2.2.2.2 38 (by simp)) (gF.2.2.2.2.2.2 39 (by simp))
    obtain ⟨h', u3, u4, u5, u6, u7, u9, u10, u11, y1, y2, y3, y4, y5⟩ := ih (c + 1) (by omega) g z' m.2.2.1 (d - m.2.2.2) s' (nxV any d m.2.2.2) v3 v5 v9 v10 v11 gs (hm.fr gF (by rw [gI 26 (by decide)]) (by rw [gI 26 (by decide)]) (by rw [gI 26 (by decide)]) (by decide) (by decide) (by decide)) gn x0 hd.nx e6
    have ec : chs W H ar al any (r + 1) c n d s = m.2.1 :: chs W H ar al any r (c + 1) m.2.2.1 (d - m.2.2.2) s' := by
      rw [chs, e1]
    refine ⟨h', u3, u4, u5, u6, u7, u9, u10, u11, ?_, gF.tr y2, y3, fun i hi => ?_, fun j hj => ?_⟩
    · rw [g132_41 _ _ _ _ _ _ _ _ _ _ _ h hs, s106 hm hs, bI_s, if_neg (nI_ge (by omega) (by omega)), show (0 : Int32) = nI 0 from rfl, x1]
      exact y1
    · rw [ec]
      cases i with
      | zero =>
        rw [Nat.add_zero, y5 c (by omega), ← hG, hI_sI_same]
        rfl
      | succ i =>
        rw [show c + (i + 1) = c + 1 + i by omega, y4 i (by omega)]
        rfl
    · rw [y5 j (by omega), ← hG, hI_sI_ne _ _ (by omega)]
theorem s132p (w1 w2 w3 w4 w5 w6 w9 w10 w11 : Value) : ∀ (f c : Nat), c + f = W * H → ∀ (h : HP) (w7 : Value), SH h → MD h W H ar → ∃ h', X (132, 153, [.ref 26, w1, w2, w3, w4, w5, w6, w7, .int (nI c), w9, w10, w11], [], h) = some (some (.int 1), h') ∧ Fr [28] [] h h' ∧ (∀ i, c ≤ i → i < W * H → hI h' 28 i = hI h 40 i) ∧ ∀ i, i < c → hI h' 28 i = hI h 28 i := by
  intro f
  induction f with
  | zero =>
    intro c hc h w7 hs hm
    have h20 := (okS_1 hm.1).2.2.1
    refine ⟨h, ?_, Fr.rf, fun i h1 h2 => by omega, fun _ _ => rfl⟩
    rw [g132_153 _ _ _ _ _ _ _ _ _ _ _ h hs, s106 hm hs, bI_s, if_pos (nI_le (by omega) (by omega))]
  | succ f ih =>
    intro c hc h w7 hs hm
    have h20 := (okS_1 hm.1).2.2.1
    have gF : Fr [28] [] h (sI h 28 c (hI h 40 c)) := Fr.sI (by simp)
    have gs : SH (sI h 28 c (hI h 40 c)) := hs.sIs 28 rfl
    have gI : ∀ q, q ≠ 28 → hI (sI h 28 c (hI h 40 c)) q = hI h q := fun q hq => hI_sI_o _ _ _ hq
    obtain ⟨h', x1, x2, x3, x4⟩ := ih (c + 1) (by omega) (sI h 28 c (hI h 40 c)) (nl w7) gs (hm.fr gF (by rw [gI 26 (by decide)]) (by rw [gI 26 (by decide)]) (by rw [gI 26 (by decide)]) (by decide) (by decide) (by decide))
    refine ⟨h', ?_, gF.tr x2, fun i h1 h2 => ?_, fun i hi => ?_⟩
    · rw [g132_153 _ _ _ _ _ _ _ _ _ _ _ h hs, s106 hm hs, bI_s, if_neg (nI_ge (by omega) (by omega)), if_pos (inB_nI (by omega) (by decide)), if_pos (inB_nI (by omega) (by decide)), nI_clamp (by omega), nI_1]
      exact x1
    · rcases Nat.lt_or_ge c i with u | u
      · rw [x3 i u h2, gI 40 (by decide)]
      · have : i = c := by omega
        subst this
        rw [x4 i (by omega), hI_sI_same]
    · rw [x4 i (by omega), hI_sI_ne _ _ (by omega)]
/-- what find finds -/
def fdO (W H : Nat) (ar : Bool) (al : Nat → Nat) (a : Int32) (b : Int64) : Option (List Nat) := if b < 0 then none else if b.toInt.toNat < cntI W H ar al 0 0 a then some (chs W H ar al (decide (a = -1)) (W * H) 0 0 a.toNatClampNeg b.toInt.toNat) else none
theorem cntI_63 (hk : okS W H ar = true) (a : Int32) : cntI W H ar al 0 0 a < 2 ^ 62 := by
  unfold cntI
  split
  · exact Nat.lt_of_le_of_lt (tot_63 hk (Nat.zero_le _)) (by decide)
  · split
    · decide
    · exact Nat.lt_of_le_of_lt (cnt_63 hk (Nat.zero_le _)) (by decide)
/-- a rank that there is: the loops in Nat -/
theorem fd_in (hk : okS W H ar = true) {a : Int32} {r : Nat} (h : r < cntI W H ar al 0 0 a) : ¬ a < -1 ∧ r < wy W H ar al (decide (a = -1)) a.toNatClampNeg 0 0 0 ∧ DU (decide (a = -1)) a.toNatClampNeg a ∧ DV (decide (a = -1)) a.toNatClampNeg a := by
  unfold cntI at h
  by_cases q : a = -1
  · rw [if_pos q] at h
    subst q
    refine ⟨by decide, ?_, Or.inl (by decide), Or.inl ⟨by decide, rfl⟩⟩
    unfold wy
    rw [if_pos (by decide)]
    exact h
  · rw [if_neg q] at h
    by_cases u : a < 0
    · rw [if_pos u] at h; omega
    · rw [if_neg u] at h
      obtain ⟨j, hj, rfl⟩ := nI_of u
      rw [nI_clamp hj] at h ⊢
      have d1 : decide (nI j = -1) = false := decide_eq_false q
      have j12 : j ≤ 12 := by
        rcases Nat.lt_or_ge 12 j with z | z
        · rw [cnt_12 hk (Nat.zero_le _) rfl z] at h; omega
        · exact z
      refine ⟨fun z => u (Int32.lt_trans z (by decide)), ?_, Or.inr ⟨d1, rfl, j12⟩, Or.inr ⟨d1, rfl, j12⟩⟩
      unfold wy
      rw [d1, if_neg (by decide), if_pos (Nat.zero_le _), Nat.sub_zero]
      exact h
theorem s132 (rs : RSt W H ar al h) (a : Int32) (b : Int64) (w3 w4 w5 w6 w7 w8 w9 w10 w11 : Value) : ∃ h', X (132, 0, [.ref 26, .int a, .long b, w3, w4, w5, w6, w7, w8, w9, w10, w11], [], h) = some (some (.int (if (fdO W H ar al a b).isSome = true then 1 else 0)), h') ∧ Fr [26, 28, 32, 33, 34, 35, 36, 37, 40] [38, 39] h h' ∧ RSt W H ar al h' ∧ (∀ j, j ≠ 5 → j ≠ 10 → hI h' 26 j = hI h 26 j) ∧ (fdO W H ar al a b = none → hI h' 28 = hI h 28) ∧ ∀ l, fdO W H ar al a b = some l → ∀ c, c < W * H → hI h' 28 c = nI (l.getD c 0) := by
  obtain ⟨g, x1, x2, x3, x4, x5⟩ := s120 rs .null .null .null .null .null
  have hs := x4.1.1
  have hm := x4.1.2.1
  have hk := hm.1
  rw [g132_0 _ _ _ _ _ _ _ _ _ _ _ h rs.1.1, x1, bV_s]
  have no : fdO W H ar al a b = none → ∃ h', some (some (Value.int 0), g) = some (some (.int (if (fdO W H ar al a b).isSome = true then 1 else 0)), h') ∧ Fr [26, 28, 32, 33, 34, 35, 36, 37, 40] [38, 39] h h' ∧ RSt W H ar al h' ∧ (∀ j, j ≠ 5 → j ≠ 10 → hI h' 26 j = hI h 26 j) ∧ (fdO W H ar al a b = none → hI h' 28 = hI h 28) ∧ ∀ l, fdO W H ar al a b = some l → ∀ c, c < W * H → hI h' 28 c = nI (l.getD c 0) := by
    intro e
    refine ⟨g, by rw [e]; rfl, x2.mono (by simp) (by simp), x4, x3, fun _ => x2.2.2.2.2.2.1 28 (by decide), fun l hl => ?_⟩
    rw [e] at hl; cases hl
  by_cases q1 : a < -1
  · rw [if_pos q1]
    refine no ?_
    unfold fdO
    by_cases u : b < 0
    · rw [if_pos u]
    · rw [if_neg u]
      by_cases v : b.toInt.toNat < cntI W H ar al 0 0 a
      · exact absurd q1 (fd_in hk v).1
      · rw [if_neg v]
  · rw [if_neg q1]
    by_cases q2 : b < 0
    · have nc : lg_cmp b 0 < 0 := (lg_cmp_lt b 0).mpr q2
      rw [if_pos nc]
      refine no ?_
      unfold fdO
      rw [if_pos q2]
    · have nc : ¬ lg_cmp b 0 < 0 := fun u => q2 ((lg_cmp_lt b 0).mp u)
      obtain ⟨r, hr, rfl⟩ := pk_lOf q2
      have c63 := cntI_63 (al := al) hk a
      have er : (lN r).toInt.toNat = r := by rw [pk_lT hr]; rfl
      rw [if_neg nc]
      show ∃ h', bL (X (122, 0, [.ref 26, .int (nI 0), .int (nI 0), .int a, .null, .null, .null, .null], [], g)) _ = _ ∧ _
      rw [s122 hs hk x5 (Nat.zero_le _) L0, bL_s]
      by_cases q3 : r < cntI W H ar al 0 0 a
      · have nc2 : lg_cmp (lN r) (lN (cntI W H ar al 0 0 a)) < 0 := by
          rw [lg_cmp_lt, pk_lLT hr (by omega)]; exact q3
        obtain ⟨-, f2, f3, f4⟩ := fd_in hk q3
        have ef : fdO W H ar al a (lN r) = some (chs W H ar al (decide (a = -1)) (W * H) 0 0 a.toNatClampNeg r) := by
          unfold fdO
          rw [if_neg q2, er, if_pos q3]
        rw [if_pos nc2]
        obtain ⟨k, v3, v4, v5, v6, v7, v9, v10, v11, y1, y2, y3, y4, y5⟩ := s132c (al := al) (any := decide (a = -1)) (.int a) (.long (lN r)) (W * H) 0 (by omega) g 0 0 a.toNatClampNeg r a (nl w3) .null w9 w10 w11 hs hm x5 L0 f4 f2
        have kI : ∀ q, q ≠ 40 → hI k q = hI g q := fun q hq => y2.2.2.2.2.2.1 q (by simp; exact hq)
        obtain ⟨h', z1, z2, z3, z4⟩ := s132p (.int a) (.long (lN r)) v3 v4 v5 v6 v9 v10 v11 (W * H) 0 (by omega) k v7 y3 (hm.fr y2 (by rw [kI 26 (by decide)]) (by rw [kI 26 (by decide)]) (by rw [kI 26 (by decide)]) (by decide) (by decide) (by decide))
        have F2 : Fr [28, 40] [] g h' := (y2.mono (by simp) (by simp)).tr (z2.mono (by simp) (by simp))
        have hs' : SH h' := F2.sh hs (by simp; omega)
        refine ⟨h', ?_, (x2.mono (by simp) (by simp)).tr (F2.mono (by simp) (by simp)), x4.kp hs' (fun q h1 h2 h3 => F2.2.2.2.2.2.1 q (by simp; omega)) (F2.2.2.2.2.2.2 38 (by simp)) (F2.2.2.2.2.2.2 39 (by simp)), fun j h5 h10 => by rw [F2.2.2.2.2.2.1 26 (by decide)]; exact x3 j h5 h10, fun e => ?_, fun l hl c hc => ?_⟩
        · show X (132, 41, [.ref 26, .int a, .long (lN r), nl w3, .long (lN r), .null, .int (nI 0), .int a, .int (nI 0), w9, w10, w11], [], g) = _
          rw [y1]
          show X (132, 153, [.ref 26, .int a, .long (lN r), v3, v4, v5, v6, v7, .int (nI 0), v9, v10, v11], [], k) = _
          rw [z1, ef]; rfl
        · rw [ef] at e; cases e
        · rw [ef] at hl
          rw [← Option.some.inj hl, z3 c (by omega) hc]
          have := y4 c hc
          rwa [Nat.zero_add] at this
      · have nc2 : ¬ lg_cmp (lN r) (lN (cntI W H ar al 0 0 a)) < 0 := by
          rw [lg_cmp_lt, pk_lLT hr (by omega)]; exact q3
        rw [if_neg nc2]
        refine no ?_
        unfold fdO
        rw [if_neg q2, er, if_neg q3]
end Rf
