/-! notes: ways, from the last cell back; on -/
section Nz
variable {W H : Nat} {ar : Bool} {al : Nat → Nat}
theorem s121l {A B ix k : Nat} (hA : A + 24 ≤ B) (hB : B + 24 ≤ 403200) (hix : ix < 168000) (hk12 : k ≤ 24) (w1 w2 w3 : Value) : ∀ (f l : Nat), l + f = 24 → k ≤ l → ∀ (h : HP), SH h → hI h 37 ix = nI k → ∃ h', X (121, 67, [.ref 26, w1, w2, w3, .int (nI ix), .int (nI B), .int (nI A), .int (nI l)], [], h) = some (none, h') ∧ Fr [] [38] h h' ∧ SH h' ∧ ∀ p, hL h' 38 p = if A + l ≤ p ∧ p < A + 24 then hL h 38 p + hL h 38 (B + (p - A) - k) else hL h 38 p := by
  intro f
  induction f with
  | zero =>
    intro l hl hkl h hs h37
    have : l = 24 := by omega
    subst this
    refine ⟨h, ?_, Fr.rf, hs, fun p => by rw [if_neg (by omega)]⟩
    rw [g121_67 _ _ _ _ _ _ _ h hs, if_pos (by decide)]
  | succ f ih =>
    intro l hl hkl h hs h37
    have n24 : ¬ (24 : Int32) ≤ nI l := nI_ge (show l < 24 by omega) (by decide)
    have e1 : nI (B + l) - nI k = nI (B + l - k) := pk_sub (by omega)
    obtain ⟨h', x1, x2, x3, x4⟩ := ih (l + 1) (by omega) (by omega) (sL h 38 (A + l) (hL h 38 (A + l) + hL h 38 (B + l - k))) (shL hs) h37
    refine ⟨h', ?_, (Fr.sL (by simp)).tr x2, x3, fun p => ?_⟩
    · rw [g121_67 _ _ _ _ _ _ _ h hs, if_neg n24, nI_add, if_pos (inB_nI (by omega) (by decide)), if_pos (inB_nI hix (by decide)), nI_add, nI_clamp (show ix < 2 ^ 31 by omega), h37, e1, if_pos (inB_nI (by omega) (by decide)), if_pos (inB_nI (by omega) (by decide)), nI_clamp (show A + l < 2 ^ 31 by omega), nI_clamp (show B + l - k < 2 ^ 31 by omega), nI_1]
      exact x1
    · rw [x4]
      by_cases u : p = A + l
      · subst u
        rw [if_neg (by omega), if_pos (by omega), hL_sL_same, show B + (A + l - A) - k = B + l - k by omega]
      · rw [hL_sL_ne _ _ u]
        by_cases v : A + l ≤ p ∧ p < A + 24
        · rw [if_pos v, if_pos (by omega), hL_sL_ne _ _ (by omega)]
        · rw [if_neg v, if_neg (by omega)]
theorem s121 {h : HP} {c s n t : Nat} (hs : SH h) (hk : okS W H ar = true) (hc : c < W * H) (hs76 : s < 76) (ht : t < 10) (hn : rch W H ar c n = true) (le : LEn W H ar al h c n s t (Ls W H ar al (c + 1))) (r3 : RN3 W H ar al h (c + 1)) (w4 w5 w6 w7 : Value) : ∃ h', X (121, 0, [.ref 26, .int (nI c), .int (nI s), .int (nI t), w4, w5, w6, w7], [], h) = some (none, h') ∧ Fr [] [38] h h' ∧ SH h' ∧ ∀ p, hL h' 38 p = if (800 * c + s) * 24 ≤ p ∧ p < (800 * c + s) * 24 + 24 then hL h 38 p + lN (ctb W H ar al c n t (p - (800 * c + s) * 24)) else hL h 38 p := by
  have h20 := (okS_1 hk).2.2.1
  obtain ⟨n76, nL⟩ := rch_in hk c (by omega) n hn
  have x800 : 800 * nI c + nI s = nI (800 * c + s) := by rw [show (800 : Int32) = nI 800 from rfl, pk_mul, nI_add]
  have xi : nI (800 * c + s) * 10 + nI t = nI (ixN c s t) := by rw [show (10 : Int32) = nI 10 from rfl, pk_mul, nI_add]; rfl
  have ixl : ixN c s t < 168000 := by unfold ixN; omega
  have ixb : inB (nI (ixN c s t)) 168000 = true := inB_nI ixl (by decide)
  rw [g121_0 _ _ _ _ _ _ _ h hs, x800, xi, if_pos ixb, nI_clamp (show ixN c s t < 2 ^ 31 by omega)]
  unfold LEn at le
  unfold ctb
  cases e : mvQ W H ar al c n t with
  | none =>
    rw [e] at le
    have le : hI h 36 (ixN c s t) = -1 := le
    rw [if_pos le]
    refine ⟨h, rfl, Fr.rf, hs, fun p => ?_⟩
    show hL h 38 p = if _ then hL h 38 p + lN 0 else hL h 38 p
    split
    · rw [show lN 0 = 0 from rfl, Int64.add_zero]
    · rfl
  | some q =>
    rw [e] at le
    obtain ⟨z, l1, l2, l3⟩ := le
    obtain ⟨u1, u2⟩ := mvO_some e
    have hm := rch_st hk hc hn ht u2
    have k12 := (mvs_ok hk hc hm).1.2.2.2
    have k12 : q.2 ≤ 12 := k12
    have hz := (get_mem l1).2
    have len := Ls_len (al := al) hk (show c + 1 ≤ W * H by omega)
    have e2 : (800 * nI (c + 1) + nI z) * 24 = nI ((800 * (c + 1) + z) * 24) := by rw [show (800 : Int32) = nI 800 from rfl, show (24 : Int32) = nI 24 from rfl, pk_mul, nI_add, pk_mul]
    have e3 : nI (800 * c + s) * 24 = nI ((800 * c + s) * 24) := by rw [show (24 : Int32) = nI 24 from rfl, pk_mul]
    rw [if_neg (by rw [l2]; exact neg1_nI (by omega)), if_pos ixb, if_pos ixb, l2, l3, nI_1, e2, e3]
    obtain ⟨h', x1, x2, x3, x4⟩ := s121l (A := (800 * c + s) * 24) (B := (800 * (c + 1) + z) * 24) (ix := ixN c s t) (k := q.2) (by omega) (by omega) ixl (by omega) (.int (nI c)) (.int (nI s)) (.int (nI t)) (24 - q.2) q.2 (by omega) (Nat.le_refl _) h hs l3
    refine ⟨h', x1, x2, x3, fun p => ?_⟩
    rw [x4]
    show _ = if _ then hL h 38 p + lN (if q.2 ≤ p - (800 * c + s) * 24 then cnt W H ar al (W * H - (c + 1)) (c + 1) q.1 (p - (800 * c + s) * 24 - q.2) else 0) else hL h 38 p
    by_cases v : (800 * c + s) * 24 ≤ p ∧ p < (800 * c + s) * 24 + 24
    · rw [if_pos v]
      by_cases w : q.2 ≤ p - (800 * c + s) * 24
      · rw [if_pos (by omega), if_pos w, show (800 * (c + 1) + z) * 24 + (p - (800 * c + s) * 24) - q.2 = (800 * (c + 1) + z) * 24 + (p - (800 * c + s) * 24 - q.2) by omega, r3 (c + 1) (Nat.le_refl _) (by omega) z q.1 l1 _ (by omega)]
      · rw [if_neg (by omega), if_neg w, show lN 0 = 0 from rfl, Int64.add_zero]
    · rw [if_neg v, if_neg (by omega)]
theorem RN3.keep {h h' : HP} {c : Nat} (r : RN3 W H ar al h c) (hl : ∀ p, (800 * c) * 24 ≤ p → hL h' 38 p = hL h 38 p) : RN3 W H ar al h' c := fun c' h1 h2 s n hsn l hl2 => by
  rw [hl _ (by
    have : 800 * c ≤ 800 * c' := Nat.mul_le_mul_left _ h1
    omega)]
  exact r c' h1 h2 s n hsn l hl2
theorem s120zt {c s n : Nat} (hk : okS W H ar = true) (hc : c < W * H) (hs76 : s < 76) (hn : rch W H ar c n = true) (w1 w5 : Value) : ∀ (f t : Nat), t + f = 10 → ∀ (h : HP), SH h → (∀ t, t < 10 → LEn W H ar al h c n s t (Ls W H ar al (c + 1))) → RN3 W H ar al h (c + 1) → ∃ h' v4, X (120, 364, [.ref 26, w1, .int (nI c), .int (nI s), .int (nI t), w5], [], h) = X (120, 316, [.ref 26, w1, .int (nI c), .int (nI (s + 1)), v4, w5], [], h') ∧ Fr [] [38] h h' ∧ SH h' ∧ ∀ p, hL h' 38 p = if (800 * c + s) * 24 ≤ p ∧ p < (800 * c + s) * 24 + 24 then hL h 38 p + lN (sT (fun t => ctb W H ar al c n t (p - (800 * c + s) * 24)) f t) else hL h 38 p := by
  intro f
  induction f with
  | zero =>
    intro t ht h hs le r3
    have : t = 10 := by omega
    subst this
    refine ⟨h, .int (nI 10), ?_, Fr.rf, hs, fun p => ?_⟩
    · rw [g120_364 _ _ _ _ _ h hs, if_pos (by decide), nI_1]
    · rw [sT]
      split
      · rw [show lN 0 = 0 from rfl, Int64.add_zero]
      · rfl
  | succ f ih =>
    intro t ht h hs le r3
    obtain ⟨g, x1, x2, x3, x4⟩ := s121 hs hk hc hs76 (show t < 10 by omega) hn (le t (by omega)) r3 .null .null .null .null
    obtain ⟨h', v4, y1, y2, y3, y4⟩ := ih (t + 1) (by omega) g x3 (fun t ht => LEn.keep (le t ht) (by rw [x2.2.2.2.2.2.1 36 (by simp)]) (by rw [x2.2.2.2.2.2.1 37 (by simp)]) (fun z n hz => hz)) (r3.keep (fun p hp => by rw [x4, if_neg (by omega)]))
    refine ⟨h', v4, ?_, x2.tr y2, y3, fun p => ?_⟩
    · have n10 : ¬ (10 : Int32) ≤ nI t := nI_ge (show t < 10 by omega) (by decide)
      rw [g120_364 _ _ _ _ _ h hs, if_neg n10, x1, bV_s, nI_1]
      exact y1
    · rw [y4, x4, sT]
      split
      · rw [Int64.add_assoc, lN_add]
      · rfl
theorem s120z0 {c s : Nat} (hc : c < 20) (hs76 : s < 76) (w1 w5 : Value) : ∀ (f l : Nat), l + f = 24 → ∀ (h : HP), SH h → ∃ h', X (120, 329, [.ref 26, w1, .int (nI c), .int (nI s), .int (nI l), w5], [], h) = X (120, 364, [.ref 26, w1, .int (nI c), .int (nI s), .int 0, w5], [], h') ∧ Fr [] [38] h h' ∧ SH h' ∧ ∀ p, hL h' 38 p = if (800 * c + s) * 24 + l ≤ p ∧ p < (800 * c + s) * 24 + 24 then 0 else hL h 38 p := by
  intro f
  induction f with
  | zero =>
    intro l hl h hs
    have : l = 24 := by omega
    subst this
    refine ⟨h, ?_, Fr.rf, hs, fun p => by rw [if_neg (by omega)]⟩
    rw [g120_329 _ _ _ _ _ h hs, if_pos (by decide)]
  | succ f ih =>
    intro l hl h hs
    have e1 : (800 * nI c + nI s) * 24 + nI l = nI ((800 * c + s) * 24 + l) := by rw [show (800 : Int32) = nI 800 from rfl, show (24 : Int32) = nI 24 from rfl, pk_mul, nI_add, pk_mul, nI_add]
    have n24 : ¬ (24 : Int32) ≤ nI l := nI_ge (show l < 24 by omega) (by decide)
    obtain ⟨h', x1, x2, x3, x4⟩ := ih (l + 1) (by omega) (sL h 38 ((800 * c + s) * 24 + l) 0) (shL hs)
    refine ⟨h', ?_, (Fr.sL (by simp)).tr x2, x3, fun p => ?_⟩
    · rw [g120_329 _ _ _ _ _ h hs, if_neg n24, e1, if_pos (inB_nI (by omega) (by decide)), nI_clamp (by omega), nI_1]
      exact x1
    · rw [x4]
      by_cases u : p = (800 * c + s) * 24 + l
      · rw [if_neg (by omega), if_pos (by omega), u, hL_sL_same]
      · rw [hL_sL_ne _ _ u]
        by_cases z : (800 * c + s) * 24 + l ≤ p ∧ p < (800 * c + s) * 24 + 24
        · rw [if_pos z, if_pos (by omega)]
        · rw [if_neg z, if_neg (by omega)]
theorem ctb_sum {c n l : Nat} (hc : c < W * H) : sT (fun t => ctb W H ar al c n t l) 10 0 = cnt W H ar al (W * H - c) c n l := by
  rw [show W * H - c = (W * H - (c + 1)) + 1 by omega, cnt]
  refine sT_c 10 0 (fun t _ _ => ?_)
  unfold ctb mvQ
  by_cases u : (al c).testBit t = true
  · rw [if_pos u, if_pos u]
    cases tr W H ar c n t <;> rfl
  · rw [if_neg u, if_neg u]
/-- a row of ways of one cell, for some of its states -/
def RW (W H : Nat) (ar : Bool) (al : Nat → Nat) (h : HP) (c : Nat) (P : List Nat) : Prop := ∀ s n, P[s]? = some n → ∀ l, l < 24 → hL h 38 ((800 * c + s) * 24 + l) = lN (cnt W H ar al (W * H - c) c n l)
theorem s120zs {c : Nat} (hk : okS W H ar = true) (hc : c < W * H) (w1 w5 : Value) : ∀ (R P : List Nat), Ls W H ar al c = P ++ R → ∀ (h : HP) (w4 : Value), SH h → CEn W H ar al h c (Ls W H ar al c) → (∀ s n, (Ls W H ar al c)[s]? = some n → ∀ t, t < 10 → LEn W H ar al h c n s t (Ls W H ar al (c + 1))) → RN3 W H ar al h (c + 1) → RW W H ar al h c P → ∃ h' v3 v4, X (120, 316, [.ref 26, w1, .int (nI c), .int (nI P.length), w4, w5], [], h) = X (120, 310, [.ref 26, (nl w1), .int (nI c + (-1)), v3, v4, w5], [], h') ∧ Fr [] [38] h h' ∧ SH h' ∧ RN3 W H ar al h' (c + 1) ∧ RW W H ar al h' c (Ls W H ar al c) := by
  have h20 := (okS_1 hk).2.2.1
  intro R
  induction R with
  | nil =>
    intro P hP h w4 hs ce le r3 rw'
    have eP : Ls W H ar al c = P := by rw [hP, List.append_nil]
    obtain ⟨c1, c2, c3⟩ := ce
    refine ⟨h, .int (nI P.length), w4, ?_, Fr.rf, hs, r3, by rw [eP]; exact rw'⟩
    rw [g120_316 _ _ _ _ _ h hs, if_pos (inB_nI (by omega) (by decide)), nI_clamp (by omega), c1, eP, if_pos (nI_le (Nat.le_refl _) (by rw [eP] at c2; omega))]
  | cons n R ih =>
    intro P hP h w4 hs ce le r3 rw'
    have ce0 := ce
    obtain ⟨c1, c2, c3⟩ := ce
    have ll : (Ls W H ar al c).length = P.length + (R.length + 1) := by rw [hP, List.length_append]; rfl
    have hsn : (Ls W H ar al c)[P.length]? = some n := by rw [hP, List.getElem?_append_right (Nat.le_refl _), Nat.sub_self]; rfl
    have hP2 : Ls W H ar al c = (P ++ [n]) ++ R := by rw [hP]; simp
    obtain ⟨a1, -, -⟩ := c3 _ _ hsn
    obtain ⟨g, x1, x2, x3, x4⟩ := s120z0 (c := c) (s := P.length) (by omega) (by omega) w1 w5 24 0 (by omega) h hs
    have g3 : RN3 W H ar al g (c + 1) := r3.keep (fun p hp => by rw [x4, if_neg (by omega)])
    have gl : ∀ s n, (Ls W H ar al c)[s]? = some n → ∀ t, t < 10 → LEn W H ar al g c n s t (Ls W H ar al (c + 1)) := fun s n hsn t ht => LEn.keep (le s n hsn t ht) (by rw [x2.2.2.2.2.2.1 36 (by simp)]) (by rw [x2.2.2.2.2.2.1 37 (by simp)]) (fun z n hz => hz)
    obtain ⟨k, v4, y1, y2, y3, y4⟩ := s120zt hk hc (show P.length < 76 by omega) a1 w1 w5 10 0 (by omega) g x3 (gl _ _ hsn) g3
    have F := x2.tr y2
    have l1 : P.length + 1 = (P ++ [n]).length := by rw [List.length_append]; rfl
    obtain ⟨h', v3, v4', z1, z2, z3, z4, z5⟩ := ih (P ++ [n]) hP2 k v4 y3 (ce0.keep (by rw [F.2.2.2.2.2.1 33 (by simp)]) (fun p _ => ⟨by rw [F.2.2.2.2.2.1 34 (by simp)], by rw [F.2.2.2.2.2.2 39 (by decide)]⟩)) (fun s n hsn t ht => LEn.keep (le s n hsn t ht) (by rw [F.2.2.2.2.2.1 36 (by simp)]) (by rw [F.2.2.2.2.2.1 37 (by simp)]) (fun z n hz => hz)) (g3.keep (fun p hp => by rw [y4, if_neg (by omega)])) (fun s m hm l hl => by
      rcases Nat.lt_or_ge s P.length with w | w
      · rw [List.getElem?_append_left w] at hm
        rw [y4, if_neg (by omega), x4, if_neg (by omega)]
        exact rw' s m hm l hl
      · rw [List.getElem?_append_right w] at hm
        have hl2 : s - P.length < 1 := (get_mem hm).2
        have e0 : s = P.length := by omega
        subst e0
        rw [Nat.sub_self] at hm
        have : n = m := Option.some.inj hm
        subst this
        rw [y4, if_pos (by omega), x4, if_pos (by omega), show (800 * c + P.length) * 24 + l - (800 * c + P.length) * 24 = l by omega, ctb_sum hc, Int64.zero_add])
    refine ⟨h', v3, v4', ?_, F.tr z2, z3, z4, z5⟩
    rw [g120_316 _ _ _ _ _ h hs, if_pos (inB_nI (by omega) (by decide)), nI_clamp (by omega), c1, if_neg (nI_ge (by omega) (by omega)), show (0 : Int32) = nI 0 from rfl, x1]
    show X (120, 364, [.ref 26, w1, .int (nI c), .int (nI P.length), .int (nI 0), w5], [], g) = _
    rw [y1, l1]
    exact z1
theorem s120zc (hk : okS W H ar = true) : ∀ (c : Nat), c ≤ W * H → ∀ (h : HP) (w1 w3 w4 w5 : Value), SH h → RN1 W H ar al h (W * H) → RN2 W H ar al h (W * H) → RN3 W H ar al h c → ∃ h', X (120, 310, [.ref 26, w1, .int (nI c - 1), w3, w4, w5], [], h) = some (none, h') ∧ Fr [] [38] h h' ∧ SH h' ∧ RN3 W H ar al h' 0 := by
  have h20 := (okS_1 hk).2.2.1
  intro c
  induction c with
  | zero =>
    intro hc h w1 w3 w4 w5 hs r1 r2 r3
    exact ⟨h, by rw [g120_310 _ _ _ _ _ h hs, if_pos (by decide)], Fr.rf, hs, r3⟩
  | succ c ih =>
    intro hc h w1 w3 w4 w5 hs r1 r2 r3
    obtain ⟨g, v3, v4, x1, x2, x3, x4, x5⟩ := s120zs hk (show c < W * H by omega) w1 w5 (Ls W H ar al c) [] rfl h w4 hs (r1 c (by omega)) (r2 c (by omega)) r3 (fun s n hsn => by simp at hsn)
    have x1 : X (120, 316, [.ref 26, w1, .int (nI c), .int 0, w4, w5], [], h) = _ := x1
    obtain ⟨h', y1, y2, y3, y4⟩ := ih (by omega) g (nl w1) v3 v4 w5 x3 (fun c' hc' => (r1 c' hc').keep (by rw [x2.2.2.2.2.2.1 33 (by simp)]) (fun p _ => ⟨by rw [x2.2.2.2.2.2.1 34 (by simp)], by rw [x2.2.2.2.2.2.2 39 (by decide)]⟩)) (fun c' hc' s n hsn t ht => LEn.keep (r2 c' hc' s n hsn t ht) (by rw [x2.2.2.2.2.2.1 36 (by simp)]) (by rw [x2.2.2.2.2.2.1 37 (by simp)]) (fun z n hz => hz)) (fun c' h1 h2 s n hsn l hl => by
      rcases Nat.lt_or_ge c c' with u | u
      · exact x4 c' u h2 s n hsn l hl
      · have : c' = c := by omega
        subst this
        exact x5 s n hsn l hl)
    refine ⟨h', ?_, x2.tr y2, y3, y4⟩
    rw [nI_pred, g120_310 _ _ _ _ _ h hs, if_neg (nI_pos (by omega)), x1, show nI c + (-1) = nI c - 1 from (Int32.sub_eq_add_neg _ _).symm]
    exact y1
/-- the reference has noted -/
def RNn (W H : Nat) (ar : Bool) (al : Nat → Nat) (h : HP) : Prop := RN1 W H ar al h (W * H) ∧ RN2 W H ar al h (W * H) ∧ RN3 W H ar al h 0
/-- the state of the reference but for its sheet -/
def RSt (W H : Nat) (ar : Bool) (al : Nat → Nat) (h : HP) : Prop := RK W H ar al h ∧ ((hI h 26 5 = 0) ∨ (hI h 26 5 = 1 ∧ RNn W H ar al h))
theorem s120 {h : HP} (rs : RSt W H ar al h) (w1 w2 w3 w4 w5 : Value) : ∃ h', X (120, 0, [.ref 26, w1, w2, w3, w4, w5], [], h) = some (none, h') ∧ Fr [26, 32, 33, 34, 35, 36, 37] [38, 39] h h' ∧ (∀ j, j ≠ 5 → j ≠ 10 → hI h' 26 j = hI h 26 j) ∧ RSt W H ar al h' ∧ RNn W H ar al h' := by
  obtain ⟨⟨hs, hm, ha, hj⟩, no⟩ := rs
  have hk := hm.1
  have h20 := (okS_1 hk).2.2.1
  rw [g120_0 _ _ _ _ _ h hs]
  rcases no with no | ⟨n1, n2⟩
  · have gF : Fr [26] [] h (sI h 26 5 1) := Fr.sI (by decide)
    have g26 : ∀ j, j ≠ 5 → hI (sI h 26 5 1) 26 j = hI h 26 j := fun j hj => hI_sI_ne _ _ hj
    have gm : MD (sI h 26 5 1) W H ar := hm.fr gF (g26 0 (by decide)) (g26 1 (by decide)) (g26 2 (by decide)) (by decide) (by decide) (by decide)
    have gs : SH (sI h 26 5 1) := hs.sIs 26 rfl
    have c0 : (0 : Int32).toNatClampNeg = 0 := by decide
    rw [if_pos no, s106 gm gs, bI_s, if_pos (by decide), if_pos (by decide), if_pos (by decide), c0]
    generalize hG : sL (sI (sI (sI h 26 5 1) 33 0 1) 34 0 0) 39 0 1 = g
    have F : Fr [26, 33, 34] [39] h g := by
      rw [← hG]
      exact (((gF.mono (by simp) (by simp)).tr (Fr.sI (by simp))).tr (Fr.sI (by simp))).tr (Fr.sL (by simp))
    have G26 : ∀ j, hI g 26 j = if j = 5 then 1 else hI h 26 j := fun j => by
      rw [← hG, hI_sL, hI_sI_o _ _ _ (by decide), hI_sI_o _ _ _ (by decide)]
      by_cases u : j = 5
      · rw [u, if_pos rfl, hI_sI_same]
      · rw [if_neg u, g26 j u]
    have Gs : SH g := F.sh hs (by simp; omega)
    have Gk : RK W H ar al g := ⟨Gs, hm.fr F (by rw [G26, if_neg (by decide)]) (by rw [G26, if_neg (by decide)]) (by rw [G26, if_neg (by decide)]) (by decide) (by decide) (by decide), fun c hc => by rw [F.2.2.2.2.2.1 27 (by decide)]; exact ha c hc, fun k hk => by rw [F.2.2.2.2.2.1 32 (by decide)]; exact hj k hk⟩
    have G1 : RN1 W H ar al g 0 := by
      intro c' hc'
      have : c' = 0 := by omega
      subst this
      refine ⟨?_, (show 1 ≤ 76 by decide), fun s n hsn => ?_⟩
      · rw [← hG, hI_sL, hI_sI_o _ _ _ (by decide), hI_sI_same]; rfl
      · have hl : s < 1 := (get_mem hsn).2
        have : s = 0 := by omega
        subst this
        have : 0 = n := Option.some.inj hsn
        subst this
        refine ⟨rfl, ?_, ?_⟩
        · rw [← hG, hI_sL]
          show hI (sI _ 34 0 0) 34 0 = _
          rw [hI_sI_same, phi_0]; rfl
        · rw [← hG]
          show hL (sL _ 39 0 1) 39 0 = _
          rw [hL_sL_same, fwd, if_pos rfl]; rfl
    obtain ⟨k, v3, v4, v5, x1, x2, x3, x4, x5⟩ := s120c hk (W * H) 0 (by omega) g w3 w4 w5 Gk G1 (fun c' hc' => absurd hc' (Nat.not_lt_zero _))
    obtain ⟨e, v3', y1, y2, y3, y4⟩ := s120e (al := al) hk (Ls W H ar al (W * H)) [] rfl k v3 v4 v5 x3.1 (x4 (W * H) (Nat.le_refl _)) (fun s n hsn => by simp at hsn)
    obtain ⟨h', z1, z2, z3, z4⟩ := s120zc (al := al) hk (W * H) (Nat.le_refl _) e (.int (nI (W * H))) v3' v4 v5 y3 (fun c' hc' => (x4 c' hc').keep (by rw [y2.2.2.2.2.2.1 33 (by simp)]) (fun p _ => ⟨by rw [y2.2.2.2.2.2.1 34 (by simp)], by rw [y2.2.2.2.2.2.2 39 (by decide)]⟩)) (fun c' hc' s n hsn t ht => LEn.keep (x5 c' hc' s n hsn t ht) (by rw [y2.2.2.2.2.2.1 36 (by simp)]) (by rw [y2.2.2.2.2.2.1 37 (by simp)]) (fun z n hz => hz)) y4
    have F2 := y2.tr z2
    obtain ⟨ks, km, ka, kj⟩ := x3
    have H26 : ∀ j, hI h' 26 j = hI k 26 j := fun j => by rw [F2.2.2.2.2.2.1 26 (by simp)]
    have hn' : RNn W H ar al h' := ⟨fun c' hc' => (x4 c' hc').keep (by rw [F2.2.2.2.2.2.1 33 (by simp)]) (fun p _ => ⟨by rw [F2.2.2.2.2.2.1 34 (by simp)], by rw [F2.2.2.2.2.2.2 39 (by decide)]⟩), fun c' hc' s n hsn t ht => LEn.keep (x5 c' hc' s n hsn t ht) (by rw [F2.2.2.2.2.2.1 36 (by simp)]) (by rw [F2.2.2.2.2.2.1 37 (by simp)]) (fun z n hz => hz), z4⟩
    refine ⟨h', ?_, ((F.mono (by simp) (by simp)).tr (x2.1.mono (by simp) (by simp))).tr (F2.mono (by simp) (by simp)), fun j h5 h10 => by rw [H26, x2.2 j h10, G26, if_neg h5], ⟨⟨z3, km.fr F2 (H26 0) (H26 1) (H26 2) (by simp) (by simp) (by simp), fun c hc => by rw [F2.2.2.2.2.2.1 27 (by simp)]; exact ka c hc, fun k' hk' => by rw [F2.2.2.2.2.2.1 32 (by simp)]; exact kj k' hk'⟩, Or.inr ⟨by rw [H26, x2.2 5 (by decide), G26, if_pos rfl], hn'⟩⟩, hn'⟩
    show X (120, 41, [.ref 26, .int (nI (W * H)), .int (nI 0), w3, w4, w5], [], g) = _
    rw [x1]
    show X (120, 235, [.ref 26, .int (nI (W * H)), .int (nI ([] : List Nat).length), v3, v4, v5], [], k) = _
    rw [y1]
    exact z1
  · have nz : ¬ hI h 26 5 = 0 := by rw [n1]; decide
    rw [if_neg nz]
    exact ⟨h, rfl, Fr.rf, fun _ _ _ => rfl, ⟨⟨hs, hm, ha, hj⟩, Or.inr ⟨n1, n2⟩⟩, n2⟩
end Nz
