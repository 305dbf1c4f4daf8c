/-! the reference counts -/
section Rt
variable {W H : Nat} {ar : Bool} {al : Nat → Nat} {h : HP}
theorem s122 (hs : SH h) (hk : okS W H ar = true) (rn : RNn W H ar al h) {c s n : Nat} (hc : c ≤ W * H) (hsn : (Ls W H ar al c)[s]? = some n) (a : Int32) (w4 w5 w6 w7 : Value) : X (122, 0, [.ref 26, .int (nI c), .int (nI s), .int a, w4, w5, w6, w7], [], h) = some (some (.long (lN (cntI W H ar al c n a))), h) := by
  have h20 := (okS_1 hk).2.2.1
  have hs76 := Nat.lt_of_lt_of_le (get_mem hsn).2 (Ls_len (al := al) hk hc)
  have hr := Ls_rch (al := al) hk c hc n (get_mem hsn).1
  have r3 := rn.2.2 c (Nat.zero_le _) hc s n hsn
  have e1 : (800 * nI c + nI s) * 24 = nI ((800 * c + s) * 24) := by rw [show (800 : Int32) = nI 800 from rfl, show (24 : Int32) = nI 24 from rfl, pk_mul, nI_add, pk_mul]
  rw [g122_0 _ _ _ _ _ _ _ h hs, e1]
  unfold cntI
  by_cases q : a = -1
  · rw [if_pos q, if_pos q]
    have key : ∀ (f l : Nat), l + f = 24 → ∀ (v : Nat) (w1 w2 w3 w6 : Value), X (122, 47, [.ref 26, w1, w2, w3, .int (nI ((800 * c + s) * 24)), .long (lN v), w6, .int (nI l)], [], h) = some (some (.long (lN (v + sT (fun l => cnt W H ar al (W * H - c) c n l) f l))), h) := by
      intro f
      induction f with
      | zero =>
        intro l hl v w1 w2 w3 w6
        have : l = 24 := by omega
        subst this
        rw [g122_47 _ _ _ _ _ _ _ h hs, if_pos (by decide)]
        rfl
      | succ f ih =>
        intro l hl v w1 w2 w3 w6
        have n24 : ¬ (24 : Int32) ≤ nI l := nI_ge (show l < 24 by omega) (by decide)
        rw [g122_47 _ _ _ _ _ _ _ h hs, if_neg n24, nI_add, if_pos (inB_nI (by omega) (by decide)), nI_clamp (by omega), r3 l (by omega), lN_add, nI_1, ih (l + 1) (by omega), sT, Nat.add_assoc]
    have e : tot W H ar al c n = 0 + sT (fun l => cnt W H ar al (W * H - c) c n l) 24 0 := by
      unfold tot
      rw [show 24 = 13 + 11 from rfl, sT_app, sT_0 11 (0 + 13) (fun j h1 _ => cnt_12 hk hc hr (by omega)), Nat.add_zero, Nat.zero_add]
    rw [e]
    exact key 24 0 (by omega) 0 _ _ _ _
  · rw [if_neg q, if_neg q]
    by_cases u : a < 0
    · rw [if_pos u, if_pos u]; rfl
    · rw [if_neg u, if_neg u]
      obtain ⟨j, hj, rfl⟩ := nI_of u
      rw [nI_clamp hj]
      rcases Nat.lt_or_ge j 24 with v | v
      · rw [if_pos (show nI j < 24 from nI_lt v (by decide)), nI_add, if_pos (inB_nI (by omega) (by decide)), nI_clamp (by omega), r3 j v]
      · rw [if_neg (show ¬ nI j < 24 from nI_nlt v hj), cnt_12 hk hc hr (by omega)]; rfl
theorem L0 : (Ls W H ar al 0)[0]? = some 0 := rfl
theorem s123 (rs : RSt W H ar al h) (a : Int32) : ∃ h', X (123, 0, [.ref 26, .int a], [], h) = some (some (.long (lN (cntI W H ar al 0 0 a))), h') ∧ Fr [26, 32, 33, 34, 35, 36, 37] [38, 39] h h' ∧ (∀ j, j ≠ 5 → j ≠ 10 → hI h' 26 j = hI h 26 j) ∧ RSt W H ar al h' := by
  obtain ⟨h', x1, x2, x3, x4, x5⟩ := s120 rs .null .null .null .null .null
  refine ⟨h', ?_, x2, x3, x4⟩
  rw [g123_0 _ h rs.1.1, x1, bV_s]
  show bL (X (122, 0, [.ref 26, .int (nI 0), .int (nI 0), .int a, .null, .null, .null, .null], [], h')) _ = _
  rw [s122 x4.1.1 x4.1.2.1.1 x5 (Nat.zero_le _) L0, bL_s]
theorem wgh_0 {b : Int64} (hz : ∀ l, 12 < l → cnt W H ar al (W * H) 0 0 l = 0) : ∀ (f l : Nat), 12 < l → ∀ v p, wgh W H ar al b f l v p = v := by
  intro f
  induction f with
  | zero => intros; rfl
  | succ f ih =>
    intro l hl v p
    rw [wgh, hz l hl, ih (l + 1) (by omega), show lN 0 = 0 from rfl, Int64.mul_zero, Int64.add_zero]
theorem wgh_24 {b : Int64} (hz : ∀ l, 12 < l → cnt W H ar al (W * H) 0 0 l = 0) : ∀ (f l : Nat), l + f = 13 → ∀ v p, wgh W H ar al b (f + 11) l v p = wgh W H ar al b f l v p := by
  intro f
  induction f with
  | zero => intro l hl v p; exact wgh_0 hz 11 l (by omega) v p
  | succ f ih =>
    intro l hl v p
    rw [show f + 1 + 11 = (f + 11) + 1 by omega]
    show wgh W H ar al b (f + 11) (l + 1) _ _ = wgh W H ar al b f (l + 1) _ _
    rw [ih (l + 1) (by omega)]
theorem c00 (hk : okS W H ar = true) : ∀ l, 12 < l → cnt W H ar al (W * H) 0 0 l = 0 := fun l hl => by
  have := cnt_12 (al := al) (c := 0) (n := 0) hk (Nat.zero_le _) rfl hl
  rwa [Nat.sub_zero] at this
theorem s124 (rs : RSt W H ar al h) (a : Int32) (w2 w3 w4 w5 w6 : Value) : ∃ h', X (124, 0, [.ref 26, .int a, w2, w3, w4, w5, w6], [], h) = some (some (.long (wgh W H ar al a.toInt64 13 0 0 1)), h') ∧ Fr [26, 32, 33, 34, 35, 36, 37] [38, 39] h h' ∧ (∀ j, j ≠ 5 → j ≠ 10 → hI h' 26 j = hI h 26 j) ∧ RSt W H ar al h' := by
  obtain ⟨h', x1, x2, x3, x4, x5⟩ := s120 rs .null .null .null .null .null
  refine ⟨h', ?_, x2, x3, x4⟩
  have hs := x4.1.1
  have hk := x4.1.2.1.1
  rw [g124_0 _ _ _ _ _ _ h rs.1.1, x1, bV_s, ← wgh_24 (c00 hk) 13 0 (by omega)]
  have key : ∀ (f l : Nat), l + f = 24 → ∀ (v p : Int64) (w3 w5 : Value), X (124, 12, [.ref 26, .int a, .long v, w3, .long p, w5, .int (nI l)], [], h') = some (some (.long (wgh W H ar al a.toInt64 f l v p)), h') := by
    intro f
    induction f with
    | zero =>
      intro l hl v p w3 w5
      have : l = 24 := by omega
      subst this
      rw [g124_12 _ _ _ _ _ _ h' hs, if_pos (by decide)]
      rfl
    | succ f ih =>
      intro l hl v p w3 w5
      have n24 : ¬ (24 : Int32) ≤ nI l := nI_ge (show l < 24 by omega) (by decide)
      rw [g124_12 _ _ _ _ _ _ h' hs, if_neg n24]
      show bL (X (122, 0, [.ref 26, .int (nI 0), .int (nI 0), .int (nI l), .null, .null, .null, .null], [], h')) _ = _
      rw [s122 hs hk x5 (Nat.zero_le _) L0, bL_s, cntI_n (by omega), nI_1, ih (l + 1) (by omega), wgh]
  exact key 24 0 (by omega) 0 1 .null .null
theorem lpo_0 {w : Bool} (hz : ∀ l, 12 < l → cnt W H ar al (W * H) 0 0 l = 0) : ∀ (f l : Nat), 12 < l → ∀ v, lpo W H ar al w f l v = v := by
  intro f
  induction f with
  | zero => intros; rfl
  | succ f ih =>
    intro l hl v
    rw [lpo, hz l hl, ih (l + 1) (by omega), if_neg (fun u => u.1 rfl)]
theorem lpo_24 {w : Bool} (hz : ∀ l, 12 < l → cnt W H ar al (W * H) 0 0 l = 0) : ∀ (f l : Nat), l + f = 13 → ∀ v, lpo W H ar al w (f + 11) l v = lpo W H ar al w f l v := by
  intro f
  induction f with
  | zero => intro l hl v; exact lpo_0 hz 11 l (by omega) v
  | succ f ih =>
    intro l hl v
    rw [show f + 1 + 11 = (f + 11) + 1 by omega]
    show lpo W H ar al w (f + 11) (l + 1) _ = lpo W H ar al w f (l + 1) _
    rw [ih (l + 1) (by omega)]
theorem s125 (rs : RSt W H ar al h) (w : Bool) (w2 w3 : Value) : ∃ h', X (125, 0, [.ref 26, .int (aI w), w2, w3], [], h) = some (some (.int (lpo W H ar al w 13 0 (-1))), h') ∧ Fr [26, 32, 33, 34, 35, 36, 37] [38, 39] h h' ∧ (∀ j, j ≠ 5 → j ≠ 10 → hI h' 26 j = hI h 26 j) ∧ RSt W H ar al h' := by
  obtain ⟨h', x1, x2, x3, x4, x5⟩ := s120 rs .null .null .null .null .null
  refine ⟨h', ?_, x2, x3, x4⟩
  have hs := x4.1.1
  have hk := x4.1.2.1.1
  have st : X (125, 0, [.ref 26, .int (aI w), w2, w3], [], h) = X (125, 11, [.ref 26, .int (aI w), w2, w3], [], h) := by
    rw [g125_0 _ _ _ h rs.1.1]
    cases w
    · rw [if_pos (by decide)]
    · rw [if_neg (by decide), if_pos (by decide)]
  rw [st, g125_11 _ _ _ h rs.1.1, x1, bV_s, ← lpo_24 (c00 hk) 13 0 (by omega)]
  have key : ∀ (f l : Nat), l + f = 24 → ∀ (v : Int32), X (125, 19, [.ref 26, .int (aI w), .int v, .int (nI l)], [], h') = some (some (.int (lpo W H ar al w f l v)), h') := by
    intro f
    induction f with
    | zero =>
      intro l hl v
      have : l = 24 := by omega
      subst this
      rw [g125_19 _ _ _ h' hs, if_pos (by decide)]
      rfl
    | succ f ih =>
      intro l hl v
      have n24 : ¬ (24 : Int32) ≤ nI l := nI_ge (show l < 24 by omega) (by decide)
      have c63 := cnt_63 (al := al) (n := 0) (l := l) hk (Nat.zero_le (W * H))
      rw [Nat.sub_zero] at c63
      have lt : cnt W H ar al (W * H) 0 0 l < 2 ^ 63 := Nat.lt_of_le_of_lt c63 (by decide)
      have j49 : ∀ v', X (125, 49, [.ref 26, .int (aI w), .int v', .int (nI l)], [], h') = some (some (.int (lpo W H ar al w f (l + 1) v')), h') := fun v' => by
        rw [g125_49 _ _ _ h' hs, nI_1, ih (l + 1) (by omega)]
      rw [g125_19 _ _ _ h' hs, if_neg n24]
      show bL (X (122, 0, [.ref 26, .int (nI 0), .int (nI 0), .int (nI l), .null, .null, .null, .null], [], h')) _ = _
      rw [s122 hs hk x5 (Nat.zero_le _) L0, bL_s, cntI_n (by omega), lpo]
      by_cases q : cnt W H ar al (W * H) 0 0 l = 0
      · have nc : lg_cmp (lN (cnt W H ar al (W * H) 0 0 l)) 0 = 0 := by
          rw [lg_cmp_eq, q]; rfl
        rw [if_pos nc, j49, if_neg (fun u => u.1 q)]
      · have nc : ¬ lg_cmp (lN (cnt W H ar al (W * H) 0 0 l)) 0 = 0 := by
          rw [lg_cmp_eq, show (0 : Int64) = lN 0 from rfl, pk_lEQ lt (by decide)]
          exact q
        rw [if_neg nc]
        cases w with
        | true =>
          rw [if_pos (by decide), g125_47 _ _ _ h' hs, j49, if_pos ⟨q, Or.inl rfl⟩]
        | false =>
          rw [if_neg (by decide)]
          by_cases z : v = -1
          · rw [if_pos z, g125_47 _ _ _ h' hs, j49, if_pos ⟨q, Or.inr z⟩]
          · have nn : ¬ (cnt W H ar al (W * H) 0 0 l ≠ 0 ∧ (false = true ∨ v = -1)) := by
              intro u
              rcases u.2 with u | u
              · cases u
              · exact z u
            rw [if_neg z, j49, if_neg nn]
  exact key 24 0 (by omega) (-1)
/-- the fillings through a tile, over states -/
def hvO (W H : Nat) (ar : Bool) (al : Nat → Nat) (c t n : Nat) : Nat := match mvQ W H ar al c n t with
  | none => 0
  | some q => fwd W H ar al c n * tot W H ar al (c + 1) q.1
theorem hvO_T {c t n : Nat} : ∀ (f t0 : Nat), t0 ≤ t → t < t0 + f → sL' (fun m => if m.2.1 = t then fwd W H ar al c m.1 * tot W H ar al (c + 1) m.2.2.1 else 0) (amT W H ar al c n f t0) = hvO W H ar al c t n := by
  intro f
  induction f with
  | zero => intro t0 h1 h2; omega
  | succ f ih =>
    intro t0 h1 h2
    rw [amT, sL'_app]
    by_cases u : t0 = t
    · subst u
      have z : sL' (fun m => if m.2.1 = t0 then fwd W H ar al c m.1 * tot W H ar al (c + 1) m.2.2.1 else 0) (amT W H ar al c n f (t0 + 1)) = 0 := sL'_0 (fun m hm => by
        have := (amT_mem _ _ hm).2.1
        have ne : ¬ m.2.1 = t0 := by omega
        exact if_neg ne)
      rw [z]
      unfold am1 hvO
      cases mvQ W H ar al c n t0 with
      | none => rfl
      | some q =>
        show (if t0 = t0 then _ else 0) + 0 + 0 = _
        rw [if_pos rfl]
        rfl
    · have z : sL' (fun m => if m.2.1 = t then fwd W H ar al c m.1 * tot W H ar al (c + 1) m.2.2.1 else 0) (am1 W H ar al c n t0) = 0 := sL'_0 (fun m hm => by
        have := (am1_mem hm).2.1
        have ne : ¬ m.2.1 = t := by omega
        exact if_neg ne)
      rw [z, Nat.zero_add, ih (t0 + 1) (by omega) (by omega)]
theorem hav_L (hk : okS W H ar = true) {c t : Nat} (hc : c ≤ W * H) (ht : t < 10) : lS (hvO W H ar al c t) (Ls W H ar al c) = hav W H ar al c t := by
  have e := Ls_sum (al := al) hk hc (fun m => if m.2.1 = t then fwd W H ar al c m.1 * tot W H ar al (c + 1) m.2.2.1 else 0) (fun m hm => by
    show (if m.2.1 = t then _ else 0) = 0
    rw [Ls_out hk c hc _ hm, Nat.zero_mul]
    split <;> rfl)
  rw [sL'_amN] at e
  have e2 : (fun n => sL' (fun m => if m.2.1 = t then fwd W H ar al c m.1 * tot W H ar al (c + 1) m.2.2.1 else 0) (amT W H ar al c n 10 0)) = hvO W H ar al c t := by
    funext n
    exact hvO_T 10 0 (by omega) (by omega)
  rw [e2] at e
  rw [e]
  unfold hav hvS
  by_cases u : (al c).testBit t = true
  · rw [if_pos u]
    refine sL'_c (fun m _ => ?_)
    by_cases v : m.2.1 = t
    · rw [v, if_pos u]
    · simp only [if_neg v]
      split <;> rfl
  · rw [if_neg u]
    refine sL'_0 (fun m _ => ?_)
    by_cases v : m.2.1 = t
    · rw [v, if_neg u]
    · simp only [if_neg v]
      split <;> rfl
theorem lS_app (G : Nat → Nat) : ∀ (a b : List Nat), lS G (a ++ b) = lS G a + lS G b := by
  intro a
  induction a with
  | nil => intro b; exact (Nat.zero_add _).symm
  | cons n a ih => intro b; rw [List.cons_append, lS, lS, ih, Nat.add_assoc]
theorem s126l (hs : SH h) (hk : okS W H ar = true) (rn : RNn W H ar al h) {c t : Nat} (hc : c < W * H) (ht : t < 10) (w1 w2 : Value) : ∀ (R P : List Nat), Ls W H ar al c = P ++ R → ∀ (w6 w8 : Value), X (126, 43, [.ref 26, w1, w2, .int (nI t), .int (nI c), .long (lN (lS (hvO W H ar al c t) P)), w6, .int (nI P.length), w8], [], h) = some (some (.long (lN (hav W H ar al c t))), h) := by
  have h20 := (okS_1 hk).2.2.1
  obtain ⟨c1, c2, c3⟩ := rn.1 c (by omega)
  intro R
  induction R with
  | nil =>
    intro P hP w6 w8
    have eP : Ls W H ar al c = P := by rw [hP, List.append_nil]
    rw [g126_43 _ _ _ _ _ _ _ _ h hs, if_pos (inB_nI (by omega) (by decide)), nI_clamp (by omega), c1, eP, if_pos (nI_le (Nat.le_refl _) (by rw [eP] at c2; omega)), ← hav_L hk (by omega) ht, eP]
  | cons n R ih =>
    intro P hP w6 w8
    have ll : (Ls W H ar al c).length = P.length + (R.length + 1) := by rw [hP, List.length_append]; rfl
    have hsn : (Ls W H ar al c)[P.length]? = some n := by rw [hP, List.getElem?_append_right (Nat.le_refl _), Nat.sub_self]; rfl
    have hP2 : Ls W H ar al c = (P ++ [n]) ++ R := by rw [hP]; simp
    have l1 : P.length + 1 = (P ++ [n]).length := by rw [List.length_append]; rfl
    have x800 : 800 * nI c + nI P.length = nI (800 * c + P.length) := by rw [show (800 : Int32) = nI 800 from rfl, pk_mul, nI_add]
    have xi : nI (800 * c + P.length) * 10 + nI t = nI (ixN c P.length t) := by rw [show (10 : Int32) = nI 10 from rfl, pk_mul, nI_add]; rfl
    have ixl : ixN c P.length t < 168000 := by unfold ixN; omega
    have ixb : inB (nI (ixN c P.length t)) 168000 = true := inB_nI ixl (by decide)
    have le := rn.2.1 c hc _ _ hsn t ht
    have e1 : lS (hvO W H ar al c t) (P ++ [n]) = lS (hvO W H ar al c t) P + hvO W H ar al c t n := by rw [lS_app]; rfl
    rw [g126_43 _ _ _ _ _ _ _ _ h hs, if_pos (inB_nI (by omega) (by decide)), nI_clamp (by omega), c1, if_neg (nI_ge (by omega) (by omega)), x800, xi, if_pos ixb, nI_clamp (show ixN c P.length t < 2 ^ 31 by omega)]
    unfold LEn at le
    unfold hvO at e1
    cases e : mvQ W H ar al c n t with
    | none =>
      rw [e] at le e1
      have le : hI h 36 (ixN c P.length t) = -1 := le
      rw [if_pos le, g126_113 _ _ _ _ _ _ _ _ h hs, nI_1, l1]
      have := ih (P ++ [n]) hP2 (nl w6) (.int (hI h 36 (ixN c P.length t)))
      have e1 : lS (hvO W H ar al c t) (P ++ [n]) = lS (hvO W H ar al c t) P + 0 := e1
      rw [e1, Nat.add_zero] at this
      exact this
    | some q =>
      rw [e] at le e1
      obtain ⟨z, l1', l2, l3⟩ := le
      have hz := (get_mem l1').2
      have len := Ls_len (al := al) hk (show c + 1 ≤ W * H by omega)
      obtain ⟨-, -, rd⟩ := c3 _ _ hsn
      rw [if_neg (by rw [l2]; exact neg1_nI (by omega)), if_pos (inB_nI (by omega) (by decide)), l2, nI_1, s122 hs hk rn (by omega) l1', bL_s, nI_clamp (show 800 * c + P.length < 2 ^ 31 by omega), rd]
      have ec : cntI W H ar al (c + 1) q.1 (-1) = tot W H ar al (c + 1) q.1 := by unfold cntI; rw [if_pos rfl]
      rw [ec, lN_mul, lN_add, g126_113 _ _ _ _ _ _ _ _ h hs, nI_1, l1]
      have := ih (P ++ [n]) hP2 (nl .null) (.int (nI z))
      have e1 : lS (hvO W H ar al c t) (P ++ [n]) = lS (hvO W H ar al c t) P + fwd W H ar al c n * tot W H ar al (c + 1) q.1 := e1
      rw [e1] at this
      exact this
/-- what having answers -/
def hvA (W H : Nat) (ar : Bool) (al : Nat → Nat) (x y t : Int32) : Int64 := match ptA W H x y t with
  | none => -1
  | some c => lN (hav W H ar al c t.toNatClampNeg)
theorem s126 (rs : RSt W H ar al h) (x y t : Int32) (w4 w5 w6 w7 w8 : Value) : ∃ h', X (126, 0, [.ref 26, .int x, .int y, .int t, w4, w5, w6, w7, w8], [], h) = some (some (.long (hvA W H ar al x y t)), h') ∧ Fr [26, 32, 33, 34, 35, 36, 37] [38, 39] h h' ∧ (∀ j, j ≠ 5 → j ≠ 10 → hI h' 26 j = hI h 26 j) ∧ RSt W H ar al h' := by
  have hs := rs.1.1
  have hm := rs.1.2.1
  have hk := okS_1 hm.1
  unfold hvA ptA
  rw [g126_0 _ _ _ _ _ _ _ _ h hs, s107 hm hs, bI_s]
  cases hc : cAt W H x y with
  | none =>
    rw [if_neg (show ¬ (none : Option Nat).isSome = true by decide), if_pos rfl]
    refine ⟨h, ?_, Fr.rf, fun _ _ _ => rfl, rs⟩
    by_cases q : inB t 10 = true
    · rw [if_pos q]
    · rw [if_neg q]
  | some c =>
    have hlt := cAt_lt (by omega) (by omega) hc
    rw [if_pos (show (some c).isSome = true from rfl), if_neg (by decide)]
    rcases inB_cases t 10 (by omega) with ⟨ht, j, hj, rfl⟩ | ⟨ht, q⟩
    · obtain ⟨h', x1, x2, x3, x4, x5⟩ := s120 rs .null .null .null .null .null
      refine ⟨h', ?_, x2, x3, x4⟩
      have m0 : hI h' 26 0 = nI W := by rw [x3 0 (by decide) (by decide)]; exact hm.2.1
      rw [if_neg (nI_pos (by omega)), if_pos (show nI j < 10 from nI_lt hj (by decide)), x1, bV_s, m0, cAt_ix (by omega) (by omega) hc, if_pos ht, nI_clamp (by omega)]
      exact s126l x4.1.1 hm.1 x5 hlt hj _ _ (Ls W H ar al c) [] rfl .null w8
    · refine ⟨h, ?_, Fr.rf, fun _ _ _ => rfl, rs⟩
      rw [if_neg ht]
      rcases q with q | ⟨q1, q2⟩
      · rw [if_pos q]
      · have : ¬ t < 10 := fun u => by
          have q2 : (10 : Int32) ≤ t := q2
          exact absurd (Int32.lt_of_lt_of_le u q2) (Int32.lt_irrefl)
        rw [if_neg q1, if_neg this]
end Rt
