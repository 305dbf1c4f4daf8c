/-! from the empty heap to the state at the beginning -/
def CO (L : Nat) (xs : Nat → Int32) (m : Nat) (S : List (Nat × Nat × Nat)) (D : List Nat) (U : Nat) (h : HP) : Prop := hZ h = m ∧ (∀ i, i < m → hK h i = kt i) ∧ (∀ i, i < m → i ≠ 4 → hN h i = nt i) ∧ (∀ i, i < 4 → hI h i = xv i) ∧ hN h 4 = L ∧ hI h 4 = xs ∧ (∀ p ∈ S, hR h p.1 p.2.1 = some p.2.2) ∧ (∀ p ∈ S, p.1 < m) ∧ (∀ i, 5 ≤ i → i < m → i ∉ D → ∀ j, hI h i j = 0) ∧ hU h = U
section Co
variable {L : Nat} {xs : Nat → Int32} {m : Nat} {S : List (Nat × Nat × Nat)} {D : List Nat} {U : Nat} {h : HP}
theorem CO.nwc {k n w : Nat} (c : CO L xs m S D U h) (hm : 5 ≤ m) (ek : kt m = k) (en : nt m = n) : CO L xs (m + 1) S D (U + w) (nw h k n w) := by
  obtain ⟨c0, c1, c2, c3, c4, c5, c6, c7, c8, c9⟩ := c
  refine ⟨by rw [hZ_nw, c0], fun i hi => ?_, fun i hi h4 => ?_, fun i hi => ?_, ?_, ?_, fun p hp => ?_, fun p hp => by have := c7 p hp; omega, fun i h5 hi hD j => ?_, by rw [hU_nw, c9]⟩
  · rw [hK_nw, c0]
    by_cases q : i = m
    · rw [if_pos q, q, ek]
    · rw [if_neg q]; exact c1 i (by omega)
  · rw [hN_nw, c0]
    by_cases q : i = m
    · rw [if_pos q, q, en]
    · rw [if_neg q]; exact c2 i (by omega) h4
  · rw [hI_nw, c0, if_neg (by omega)]; exact c3 i hi
  · rw [hN_nw, c0, if_neg (by omega)]; exact c4
  · rw [hI_nw, c0, if_neg (by omega)]; exact c5
  · have := c7 p hp
    rw [hR_nw, c0, if_neg (by omega)]; exact c6 p hp
  · rw [hI_nw, c0]
    by_cases q : i = m
    · rw [if_pos q]
    · rw [if_neg q]; exact c8 i h5 (by omega) hD j
theorem CO.sRc {o b q : Nat} (c : CO L xs m S D U h) (ho : o < m) (hf : S.all (fun p => !(Nat.beq p.1 o && Nat.beq p.2.1 b)) = true) : CO L xs m ((o, b, q) :: S) D U (sR h o b (some q)) := by
  obtain ⟨c0, c1, c2, c3, c4, c5, c6, c7, c8, c9⟩ := c
  refine ⟨c0, c1, c2, c3, c4, c5, fun p hp => ?_, fun p hp => ?_, c8, c9⟩
  · rw [hR_sRr]
    rcases List.mem_cons.mp hp with e | e
    · subst e
      rw [if_pos rfl]
      show (if b = b then some q else hR h o b) = some q
      rw [if_pos rfl]
    · have hh := List.all_eq_true.mp hf p e
      by_cases u : p.1 = o
      · rw [if_pos u]
        show (if p.2.1 = b then some q else hR h o p.2.1) = some p.2.2
        have ne : p.2.1 ≠ b := fun v => by
          rw [beq_t.mpr u, beq_t.mpr v] at hh; cases hh
        rw [if_neg ne, ← u]; exact c6 p e
      · rw [if_neg u]; exact c6 p e
  · rcases List.mem_cons.mp hp with e | e
    · subst e; exact ho
    · exact c7 p e
theorem CO.frc {T : List Nat} {h' : HP} (c : CO L xs m S D U h) (f : Fr T [] h h') (hT : ∀ q ∈ T, 5 ≤ q) : CO L xs m S (T ++ D) U h' := by
  obtain ⟨c0, c1, c2, c3, c4, c5, c6, c7, c8, c9⟩ := c
  obtain ⟨a1, a2, a3, a4, a5, a6, a7⟩ := f
  have n5 : ∀ q, q < 5 → q ∉ T := fun q hq hn => by have := hT q hn; omega
  exact ⟨by rw [a4]; exact c0, by rw [a1]; exact c1, by rw [a2]; exact c2, fun i hi => by rw [a6 i (n5 i (by omega))]; exact c3 i hi, by rw [a2]; exact c4, by rw [a6 4 (n5 4 (by decide))]; exact c5, by rw [a3]; exact c6, c7, fun i h5 hi hD j => by rw [a6 i (fun u => hD (List.mem_append_left _ u))]; exact c8 i h5 hi (fun u => hD (List.mem_append_right _ u)) j, by rw [a5]; exact c9⟩
theorem x4P {g : HP} (k6 : hK g 6 = 0) (i0 : hI g 6 0 = 1) (i1 : hI g 6 1 = 1) {j : Nat} (hj : j < 20) : X (4, 0, [.ref 6, .int (nI 0), .int (nI j), .null], [], g) = some (some (.int (nI (edg 1 1 j))), g) := by
  rw [r4_0]
  by_cases q : j = 0
  · subst q
    rw [if_pos (by rfl), r4_10, if_pos k6, i0, if_pos (by decide), r4_24, if_pos k6, i1, if_pos (by decide), r4_38, if_pos (by rfl)]
    rfl
  · have n0 : ¬ nI j = 0 := nI_ne0 (by omega) (by omega)
    have n1 : ¬ nI j = 1 - 1 := n0
    have e : edg 1 1 j = 10 := by
      have : ∀ j, j < 20 → j ≠ 0 → edg 1 1 j = 10 := by decide
      exact this j hj q
    rw [if_neg n0, r4_10, if_pos k6, i0, if_pos (by decide), r4_24, if_pos k6, i1, if_neg n1, r4_38, if_pos (by rfl), e]
    rfl
theorem s3P (k6 : hK h 6 = 0) (r3 : hR h 6 3 = some 7) (r4 : hR h 6 4 = some 8) (r5 : hR h 6 5 = some 9) (k7 : hK h 7 = 10) (n7 : hN h 7 = 20) (k8 : hK h 8 = 10) (n8 : hN h 8 = 20) (k9 : hK h 9 = 10) (n9 : hN h 9 = 20) : ∃ h', X (3, 0, [.ref 6, .int 1, .int 1, .int 0, .null], [], h) = some (none, h') ∧ Fr [6, 7, 8, 9] [] h h' ∧ hI h' 6 0 = 1 ∧ hI h' 6 1 = 1 ∧ hI h' 6 2 = 0 ∧ ∀ c, c < 20 → hI h' 7 c = 1023 ∧ hI h' 8 c = nI (edg 1 1 c) ∧ hI h' 9 c = 0 := by
  have key : ∀ (n j : Nat), j + n = 20 → ∀ (h : HP) (w1 w2 w3 : Value), hK h 6 = 0 → hR h 6 3 = some 7 → hR h 6 4 = some 8 → hR h 6 5 = some 9 → hK h 7 = 10 → hN h 7 = 20 → hK h 8 = 10 → hN h 8 = 20 → hK h 9 = 10 → hN h 9 = 20 → hI h 6 0 = 1 → hI h 6 1 = 1 → hI h 6 2 = 0 → (∀ c, c < j → hI h 7 c = 1023 ∧ hI h 8 c = nI (edg 1 1 c) ∧ hI h 9 c = 0) → ∃ h', X (3, 18, [.ref 6, w1, w2, w3, .int (nI j)], [], h) = some (none, h') ∧ Fr [7, 8, 9] [] h h' ∧ ∀ c, c < 20 → hI h' 7 c = 1023 ∧ hI h' 8 c = nI (edg 1 1 c) ∧ hI h' 9 c = 0 := by
    intro n
    induction n with
    | zero =>
      intro j hj h w1 w2 w3 k6 r3 r4 r5 k7 n7 k8 n8 k9 n9 i0 i1 i2 hd
      have : j = 20 := by omega
      subst this
      exact ⟨h, by rw [r3_18, if_pos (by decide)], Fr.rf, hd⟩
    | succ n ih =>
      intro j hj h w1 w2 w3 k6 r3 r4 r5 k7 n7 k8 n8 k9 n9 i0 i1 i2 hd
      have n20 : ¬ (20 : Int32) ≤ nI j := nI_ge (show j < 20 by omega) (by decide)
      have jb : inB (nI j) 20 = true := inB_nI (by omega) (by decide)
      have c7 : hK h 7 = 10 ∧ inB (nI j) (hN h 7) = true := ⟨k7, by rw [n7]; exact jb⟩
      rw [r3_18, if_neg n20, if_pos k6, r3]
      show ∃ h', (if hK h 7 = 10 ∧ inB (nI j) (hN h 7) = true then _ else none) = _ ∧ _
      rw [if_pos c7, nI_clamp (show j < 2 ^ 31 by omega)]
      have F1 : Fr [7, 8, 9] [] h (sI h 7 j 1023) := Fr.sI (by decide)
      generalize hG : sI h 7 j 1023 = g at F1 ⊢
      have gI : ∀ r, r ≠ 7 → hI g r = hI h r := fun r hr => by rw [← hG]; exact hI_sI_o _ _ _ hr
      have gk : hK g = hK h := F1.1
      have gn : hN g = hN h := F1.2.1
      have gr : hR g = hR h := F1.2.2.1
      have gk6 : hK g 6 = 0 := by rw [gk]; exact k6
      rw [if_pos gk6, gr, r4]
      show ∃ h', (if hK g 6 = 0 then bI (X (12, 0, [.ref 6, .int (nI j)], [], g)) _ else none) = _ ∧ _
      have g0 : hI g 6 0 = 1 := by rw [gI 6 (by decide)]; exact i0
      have g1 : hI g 6 1 = 1 := by rw [gI 6 (by decide)]; exact i1
      have rem : nI j - nI j / 1 * 1 = nI 0 := by
        have := pk_rem (a := j) (d := 1) (by omega) (by decide) (by decide)
        rw [Nat.mod_one] at this
        exact this
      have dv : nI j / 1 = nI j := by
        have := pk_div (a := j) (d := 1) (by omega) (by decide) (by decide)
        rw [Nat.div_one] at this
        exact this
      rw [if_pos gk6, r12_0, if_pos gk6, g0, if_neg (by decide), if_pos gk6, if_neg (by decide), bI_s, if_pos gk6, r13_0, if_pos gk6, g0, if_neg (by decide), if_pos gk6, if_neg (by decide), bI_s, if_pos gk6, rem, dv, x4P gk6 g0 g1 (show j < 20 by omega), bI_s]
      have c8 : hK g 8 = 10 ∧ inB (nI j) (hN g 8) = true := ⟨by rw [gk]; exact k8, by rw [gn, n8]; exact jb⟩
      rw [if_pos c8]
      have F2 : Fr [7, 8, 9] [] g (sI g 8 j (nI (edg 1 1 j))) := Fr.sI (by decide)
      generalize hE : sI g 8 j (nI (edg 1 1 j)) = e at F2 ⊢
      have eI : ∀ r, r ≠ 8 → hI e r = hI g r := fun r hr => by rw [← hE]; exact hI_sI_o _ _ _ hr
      have ek : hK e = hK h := F2.1.trans gk
      have en : hN e = hN h := F2.2.1.trans gn
      have er : hR e = hR h := F2.2.2.1.trans gr
      have ek6 : hK e 6 = 0 := by rw [ek]; exact k6
      have e2 : hI e 6 2 = 0 := by rw [eI 6 (by decide), gI 6 (by decide)]; exact i2
      rw [if_pos ek6, er, r5]
      show ∃ h', (if hK e 6 = 0 then (if hI e 6 2 = 0 then (if hK e 9 = 10 ∧ inB (nI j) (hN e 9) = true then _ else none) else _) else none) = _ ∧ _
      have c9 : hK e 9 = 10 ∧ inB (nI j) (hN e 9) = true := ⟨by rw [ek]; exact k9, by rw [en, n9]; exact jb⟩
      rw [if_pos ek6, if_pos e2, if_pos c9, nI_1]
      have F3 : Fr [7, 8, 9] [] e (sI e 9 j 0) := Fr.sI (by decide)
      generalize hD : sI e 9 j 0 = d at F3 ⊢
      have dI : ∀ r, r ≠ 9 → hI d r = hI e r := fun r hr => by rw [← hD]; exact hI_sI_o _ _ _ hr
      have dk : hK d = hK h := F3.1.trans ek
      have dn : hN d = hN h := F3.2.1.trans en
      have dr : hR d = hR h := F3.2.2.1.trans er
      have d6 : hI d 6 = hI h 6 := by rw [dI 6 (by decide), eI 6 (by decide), gI 6 (by decide)]
      obtain ⟨h', x1, x2, x3⟩ := ih (j + 1) (by omega) d w1 w2 (nl w3) (by rw [dk]; exact k6) (by rw [dr]; exact r3) (by rw [dr]; exact r4) (by rw [dr]; exact r5) (by rw [dk]; exact k7) (by rw [dn]; exact n7) (by rw [dk]; exact k8) (by rw [dn]; exact n8) (by rw [dk]; exact k9) (by rw [dn]; exact n9) (by rw [d6]; exact i0) (by rw [d6]; exact i1) (by rw [d6]; exact i2) (fun c hc => by
        refine ⟨?_, ?_, ?_⟩
        · rw [dI 7 (by decide), eI 7 (by decide), ← hG]
          by_cases u : c = j
          · rw [u, hI_sI_same]
          · rw [hI_sI_ne _ _ u]; exact (hd c (by omega)).1
        · rw [dI 8 (by decide), ← hE]
          by_cases u : c = j
          · rw [u, hI_sI_same]
          · rw [hI_sI_ne _ _ u, gI 8 (by decide)]; exact (hd c (by omega)).2.1
        · rw [← hD]
          by_cases u : c = j
          · rw [u, hI_sI_same]
          · rw [hI_sI_ne _ _ u, eI 9 (by decide), gI 9 (by decide)]; exact (hd c (by omega)).2.2)
      exact ⟨h', x1, ((F1.tr F2).tr F3).tr x2, x3⟩
  have F : Fr [6, 7, 8, 9] [] h (sI (sI (sI h 6 0 1) 6 1 1) 6 2 0) := ((Fr.sI (by decide)).tr (Fr.sI (by decide))).tr (Fr.sI (by decide))
  have e1 : hK (sI h 6 0 1) 6 = 0 := k6
  have e2 : hK (sI (sI h 6 0 1) 6 1 1) 6 = 0 := k6
  rw [r3_0, if_pos k6, if_pos e1, if_pos e2, if_pos (Or.inl rfl)]
  have j0 : hI (sI (sI (sI h 6 0 1) 6 1 1) 6 2 0) 6 0 = 1 := by rw [hI_sI_ne _ _ (by decide), hI_sI_ne _ _ (by decide), hI_sI_same]
  have j1 : hI (sI (sI (sI h 6 0 1) 6 1 1) 6 2 0) 6 1 = 1 := by rw [hI_sI_ne _ _ (by decide), hI_sI_same]
  have j2 : hI (sI (sI (sI h 6 0 1) 6 1 1) 6 2 0) 6 2 = 0 := hI_sI_same _ _ _ _
  generalize sI (sI (sI h 6 0 1) 6 1 1) 6 2 0 = g at F j0 j1 j2 ⊢
  obtain ⟨h', x1, x2, x3⟩ := key 20 0 (by omega) g (.int 1) (.int 1) (.int 0) (by rw [F.1]; exact k6) (by rw [F.2.2.1]; exact r3) (by rw [F.2.2.1]; exact r4) (by rw [F.2.2.1]; exact r5) (by rw [F.1]; exact k7) (by rw [F.2.1]; exact n7) (by rw [F.1]; exact k8) (by rw [F.2.1]; exact n8) (by rw [F.1]; exact k9) (by rw [F.2.1]; exact n9) j0 j1 j2 (fun c hc => absurd hc (Nat.not_lt_zero _))
  have h6 : hI h' 6 = hI g 6 := x2.2.2.2.2.2.1 6 (by decide)
  exact ⟨h', x1, F.tr (x2.mono (by simp) (by simp)), by rw [h6]; exact j0, by rw [h6]; exact j1, by rw [h6]; exact j2, x3⟩
theorem s21P (k10 : hK h 10 = 1) (r1 : hR h 10 1 = some 11) (k11 : hK h 11 = 10) (n11 : hN h 11 = 6) : ∃ h', X (21, 0, [.ref 10], [], h) = some (none, h') ∧ Fr [11] [] h h' ∧ ∀ k, 6 ≤ k → hI h' 11 k = hI h 11 k := by
  have key : ∀ (n j : Nat), j + n = 6 → ∀ (h : HP), hK h 10 = 1 → hR h 10 1 = some 11 → hK h 11 = 10 → hN h 11 = 6 → ∃ h', X (23, 2, [.ref 10, .int 0, .int (nI j)], [], h) = some (none, h') ∧ Fr [11] [] h h' ∧ ∀ k, 6 ≤ k → hI h' 11 k = hI h 11 k := by
    intro n
    induction n with
    | zero =>
      intro j hj h k10 r1 k11 n11
      have : j = 6 := by omega
      subst this
      exact ⟨h, by rw [r23_2, if_pos (by decide)], Fr.rf, fun _ _ => rfl⟩
    | succ n ih =>
      intro j hj h k10 r1 k11 n11
      have n6 : ¬ (6 : Int32) ≤ nI j := nI_ge (show j < 6 by omega) (by decide)
      have c : hK h 11 = 10 ∧ inB (nI j) (hN h 11) = true := ⟨k11, by rw [n11]; exact inB_nI (by omega) (by decide)⟩
      rw [r23_2, if_neg n6, if_pos k10, r1]
      show ∃ h', (if hK h 11 = 10 ∧ inB (nI j) (hN h 11) = true then _ else none) = _ ∧ _
      rw [if_pos c, nI_clamp (by omega), nI_1]
      generalize ((0 >>> ((3 * nI j) &&& 31)) &&& 7) - 1 = v
      obtain ⟨h', x1, x2, x3⟩ := ih (j + 1) (by omega) (sI h 11 j v) k10 r1 k11 n11
      exact ⟨h', x1, (Fr.sI (by simp)).tr x2, fun k hk => by rw [x3 k hk, hI_sI_ne _ _ (by omega)]⟩
  obtain ⟨h', x1, x2, x3⟩ := key 6 0 (by omega) h k10 r1 k11 n11
  exact ⟨h', by rw [r21_0, if_pos k10, r23_0]; exact (show bV (X (23, 2, [.ref 10, .int 0, .int (nI 0)], [], h)) _ = _ by rw [x1, bV_s]), x2, x3⟩
end Co
