/-! the constructors, one after the other -/
section Cp
variable {L : Nat} {xs : Nat → Int32} {m : Nat} {S : List (Nat × Nat × Nat)} {D : List Nat} {U : Nat} {h : HP}
theorem CO.kz (c : CO L xs m S D U h) (i : Nat) (hi : Nat.ble (i + 1) m = true) {k : Nat} (e : kt i = k) : hK h i = k := (c.2.1 i (Nat.le_of_ble_eq_true hi)).trans e
theorem CO.nz (c : CO L xs m S D U h) (i : Nat) (hi : (Nat.ble (i + 1) m && !Nat.beq i 4) = true) {k : Nat} (e : nt i = k) : hN h i = k := by
  simp only [Bool.and_eq_true, Bool.not_eq_true'] at hi
  refine (c.2.2.1 i (Nat.le_of_ble_eq_true hi.1) (fun q => ?_)).trans e
  have h2 := hi.2
  rw [q] at h2
  cases h2
theorem CO.rz (c : CO L xs m S D U h) {p : Nat × Nat × Nat} (hp : p ∈ S) : hR h p.1 p.2.1 = some p.2.2 := c.2.2.2.2.2.2.1 p hp
theorem CO.nwd {k n w : Nat} (c : CO L xs m S D U h) (m' : Nat) (hm : 5 ≤ m) (ek : kt m = k) (en : nt m = n) (em : m + 1 = m') : CO L xs m' S D (U + w) (nw h k n w) := by
  subst em
  exact c.nwc hm ek en
theorem K0 (c : CO L xs 7 [] D U h) : ∃ h', X (0, 0, [.ref 6], [], h) = some (none, h') ∧ CO L xs 10 [(6, 5, 9), (6, 4, 8), (6, 3, 7)] ([6, 7, 8, 9] ++ D) (U + 20 + 20 + 20) h' ∧ hI h' 6 0 = 1 ∧ hI h' 6 1 = 1 ∧ hI h' 6 2 = 0 ∧ ∀ c, c < 20 → hI h' 7 c = 1023 ∧ hI h' 8 c = nI (edg 1 1 c) ∧ hI h' 9 c = 0 := by
  have z := c.1
  have c1 := c.nwd 8 (k := 10) (n := 20) (w := 20) (by decide) rfl rfl rfl
  have c2 := c1.sRc (o := 6) (b := 3) (q := 7) (by decide) rfl
  have c3 := c2.nwd 9 (k := 10) (n := 20) (w := 20) (by decide) rfl rfl rfl
  have c4 := c3.sRc (o := 6) (b := 4) (q := 8) (by decide) rfl
  have c5 := c4.nwd 10 (k := 10) (n := 20) (w := 20) (by decide) rfl rfl rfl
  have c6 := c5.sRc (o := 6) (b := 5) (q := 9) (by decide) rfl
  rw [r0_0, z, c2.1, c4.1, if_pos (c1.kz 6 rfl (k := 0) rfl), if_pos (c3.kz 6 rfl (k := 0) rfl), if_pos (c5.kz 6 rfl (k := 0) rfl), if_pos (c6.kz 6 rfl (k := 0) rfl)]
  obtain ⟨h', x1, x2, x3, x4, x5, x6⟩ := s3P (c6.kz 6 rfl rfl) (c6.rz (p := (6, 3, 7)) (by decide)) (c6.rz (p := (6, 4, 8)) (by decide)) (c6.rz (p := (6, 5, 9)) (by decide)) (c6.kz 7 rfl rfl) (c6.nz 7 rfl rfl) (c6.kz 8 rfl rfl) (c6.nz 8 rfl rfl) (c6.kz 9 rfl rfl) (c6.nz 9 rfl rfl)
  rw [x1, bV_s]
  exact ⟨h', rfl, c6.frc x2 (by decide), x3, x4, x5, x6⟩
theorem K19 (c : CO L xs 11 [(6, 5, 9), (6, 4, 8), (6, 3, 7)] D U h) (hD : 11 ∉ D) : ∃ h', X (19, 0, [.ref 10, .ref 6], [], h) = some (none, h') ∧ CO L xs 12 [(10, 0, 6), (10, 1, 11), (6, 5, 9), (6, 4, 8), (6, 3, 7)] ([11] ++ D) (U + 6) h' ∧ (∀ q, q < 11 → hI h' q = hI h q) ∧ ∀ k, 6 ≤ k → hI h' 11 k = 0 := by
  have z := c.1
  have c1 := c.nwd 12 (k := 10) (n := 6) (w := 6) (by decide) rfl rfl rfl
  have c2 := c1.sRc (o := 10) (b := 1) (q := 11) (by decide) rfl
  have c3 := c2.sRc (o := 10) (b := 0) (q := 6) (by decide) rfl
  rw [r19_0, z, if_pos (c1.kz 10 rfl (k := 1) rfl), if_pos (c2.kz 10 rfl (k := 1) rfl), if_pos (c3.kz 10 rfl (k := 1) rfl)]
  obtain ⟨h', x1, x2, x3⟩ := s21P (c3.kz 10 rfl rfl) (c3.rz (p := (10, 1, 11)) (by decide)) (c3.kz 11 rfl rfl) (c3.nz 11 rfl rfl)
  rw [x1, bV_s]
  refine ⟨h', rfl, c3.frc x2 (by decide), fun q hq => ?_, fun k hk => ?_⟩
  · rw [x2.2.2.2.2.2.1 q (by simp; omega), hI_sR, hI_sR, hI_nw, z, if_neg (by omega)]
  · rw [x3 k hk]; exact c3.2.2.2.2.2.2.2.2.1 11 (by decide) (by decide) hD k
theorem K51 (c : CO L xs 13 [(5, 0, 6), (10, 0, 6), (10, 1, 11), (6, 5, 9), (6, 4, 8), (6, 3, 7)] D U h) : ∃ h', X (51, 0, [.ref 12, .ref 6, .ref 10], [], h) = some (none, h') ∧ CO L xs 15 [(12, 1, 10), (12, 0, 6), (12, 3, 14), (12, 2, 13), (5, 0, 6), (10, 0, 6), (10, 1, 11), (6, 5, 9), (6, 4, 8), (6, 3, 7)] D (U + 20 + 40) h' ∧ ∀ q, q < 13 → hI h' q = hI h q := by
  have z := c.1
  have c1 := c.nwd 14 (k := 10) (n := 20) (w := 20) (by decide) rfl rfl rfl
  have c2 := c1.sRc (o := 12) (b := 2) (q := 13) (by decide) rfl
  have c3 := c2.nwd 15 (k := 12) (n := 40) (w := 40) (by decide) rfl rfl rfl
  have c4 := c3.sRc (o := 12) (b := 3) (q := 14) (by decide) rfl
  have c5 := c4.sRc (o := 12) (b := 0) (q := 6) (by decide) rfl
  have c6 := c5.sRc (o := 12) (b := 1) (q := 10) (by decide) rfl
  rw [r51_0, z, c2.1, if_pos (c1.kz 12 rfl (k := 3) rfl), if_pos (c3.kz 12 rfl (k := 3) rfl), if_pos (c4.kz 12 rfl (k := 3) rfl), if_pos (c5.kz 12 rfl (k := 3) rfl)]
  refine ⟨_, rfl, c6, fun q hq => ?_⟩
  rw [hI_sR, hI_sR, hI_sR, hI_nw, c2.1, if_neg (by omega), hI_sR, hI_nw, z, if_neg (by omega)]
theorem K39 (c : CO L xs 17 [(5, 1, 12), (12, 1, 10), (12, 0, 6), (12, 3, 14), (12, 2, 13), (5, 0, 6), (10, 0, 6), (10, 1, 11), (6, 5, 9), (6, 4, 8), (6, 3, 7)] D U h) : ∃ h', X (39, 0, [.ref 16, .ref 6, .ref 10], [], h) = some (none, h') ∧ CO L xs 22 [(16, 1, 10), (16, 0, 6), (16, 6, 21), (16, 5, 20), (16, 4, 19), (16, 3, 18), (16, 2, 17), (5, 1, 12), (12, 1, 10), (12, 0, 6), (12, 3, 14), (12, 2, 13), (5, 0, 6), (10, 0, 6), (10, 1, 11), (6, 5, 9), (6, 4, 8), (6, 3, 7)] D (U + 21 + 76 + 76 + 76 + 64) h' ∧ ∀ q, q < 17 → hI h' q = hI h q := by
  have z := c.1
  have c1 := c.nwd 18 (k := 10) (n := 21) (w := 21) (by decide) rfl rfl rfl
  have c2 := c1.sRc (o := 16) (b := 2) (q := 17) (by decide) rfl
  have c3 := c2.nwd 19 (k := 10) (n := 76) (w := 76) (by decide) rfl rfl rfl
  have c4 := c3.sRc (o := 16) (b := 3) (q := 18) (by decide) rfl
  have c5 := c4.nwd 20 (k := 12) (n := 76) (w := 76) (by decide) rfl rfl rfl
  have c6 := c5.sRc (o := 16) (b := 4) (q := 19) (by decide) rfl
  have c7 := c6.nwd 21 (k := 12) (n := 76) (w := 76) (by decide) rfl rfl rfl
  have c8 := c7.sRc (o := 16) (b := 5) (q := 20) (by decide) rfl
  have c9 := c8.nwd 22 (k := 10) (n := 64) (w := 64) (by decide) rfl rfl rfl
  have d1 := c9.sRc (o := 16) (b := 6) (q := 21) (by decide) rfl
  have d2 := d1.sRc (o := 16) (b := 0) (q := 6) (by decide) rfl
  have d3 := d2.sRc (o := 16) (b := 1) (q := 10) (by decide) rfl
  rw [r39_0, z, c2.1, c4.1, c6.1, c8.1, if_pos (c1.kz 16 rfl (k := 2) rfl), if_pos (c3.kz 16 rfl (k := 2) rfl), if_pos (c5.kz 16 rfl (k := 2) rfl), if_pos (c7.kz 16 rfl (k := 2) rfl), if_pos (c9.kz 16 rfl (k := 2) rfl), if_pos (d1.kz 16 rfl (k := 2) rfl), if_pos (d2.kz 16 rfl (k := 2) rfl)]
  refine ⟨_, rfl, d3, fun q hq => ?_⟩
  rw [hI_sR, hI_sR, hI_sR, hI_nw, c8.1, if_neg (by omega), hI_sR, hI_nw, c6.1, if_neg (by omega), hI_sR, hI_nw, c4.1, if_neg (by omega), hI_sR, hI_nw, c2.1, if_neg (by omega), hI_sR, hI_nw, z, if_neg (by omega)]
theorem K67 (c : CO L xs 22 [(16, 1, 10), (16, 0, 6), (16, 6, 21), (16, 5, 20), (16, 4, 19), (16, 3, 18), (16, 2, 17), (5, 1, 12), (12, 1, 10), (12, 0, 6), (12, 3, 14), (12, 2, 13), (5, 0, 6), (10, 0, 6), (10, 1, 11), (6, 5, 9), (6, 4, 8), (6, 3, 7)] D U h) : ∃ h', X (67, 0, [.ref 15, .ref 6, .ref 16], [], h) = some (none, h') ∧ CO L xs 26 [(15, 1, 16), (15, 0, 6), (15, 5, 25), (15, 4, 24), (15, 3, 23), (15, 2, 22), (16, 1, 10), (16, 0, 6), (16, 6, 21), (16, 5, 20), (16, 4, 19), (16, 3, 18), (16, 2, 17), (5, 1, 12), (12, 1, 10), (12, 0, 6), (12, 3, 14), (12, 2, 13), (5, 0, 6), (10, 0, 6), (10, 1, 11), (6, 5, 9), (6, 4, 8), (6, 3, 7)] ([15] ++ D) (U + 21 + 0 + 76 + 76) h' ∧ (∀ q, q < 22 → q ≠ 15 → hI h' q = hI h q) ∧ hI h' 15 7 = 21 := by
  have z := c.1
  have c1 := c.nwd 23 (k := 10) (n := 21) (w := 21) (by decide) rfl rfl rfl
  have c2 := c1.sRc (o := 15) (b := 2) (q := 22) (by decide) rfl
  have c3 := c2.nwd 24 (k := 11) (n := 0) (w := 0) (by decide) rfl rfl rfl
  have c4 := c3.sRc (o := 15) (b := 3) (q := 23) (by decide) rfl
  have c5 := c4.nwd 25 (k := 11) (n := 76) (w := 76) (by decide) rfl rfl rfl
  have c6 := c5.sRc (o := 15) (b := 4) (q := 24) (by decide) rfl
  have c7 := c6.nwd 26 (k := 11) (n := 76) (w := 76) (by decide) rfl rfl rfl
  have c8 := c7.sRc (o := 15) (b := 5) (q := 25) (by decide) rfl
  have d2 := c8.sRc (o := 15) (b := 0) (q := 6) (by decide) rfl
  have d3 := d2.sRc (o := 15) (b := 1) (q := 16) (by decide) rfl
  rw [r67_0, z, c2.1, c4.1, c6.1, if_pos (c1.kz 15 rfl (k := 4) rfl), if_pos (c3.kz 15 rfl (k := 4) rfl), if_pos (c5.kz 15 rfl (k := 4) rfl), if_pos (c7.kz 15 rfl (k := 4) rfl), if_pos (c8.kz 15 rfl (k := 4) rfl), if_pos (d2.kz 15 rfl (k := 4) rfl), if_pos (d3.kz 15 rfl (k := 4) rfl), r68_0, if_pos (d3.kz 15 rfl (k := 4) rfl), bV_s]
  refine ⟨_, rfl, d3.frc (Fr.sI (by decide)) (by decide), fun q hq h15 => ?_, hI_sI_same _ _ _ _⟩
  rw [hI_sI_o _ _ _ h15, hI_sR, hI_sR, hI_sR, hI_nw, c6.1, if_neg (by omega), hI_sR, hI_nw, c4.1, if_neg (by omega), hI_sR, hI_nw, c2.1, if_neg (by omega), hI_sR, hI_nw, z, if_neg (by omega)]
theorem Nst {k n w f : Nat} (m' : Nat) (em : m + 1 = m') (c : CO L xs m S D U h) (hm : 27 ≤ m) (ek : kt m = k) (en : nt m = n) (hf : S.all (fun p => !(Nat.beq p.1 26 && Nat.beq p.2.1 f)) = true) : CO L xs m' ((26, f, m) :: S) D (U + w) (sR (nw h k n w) 26 f (some m)) ∧ ∀ q, q < m → hI (sR (nw h k n w) 26 f (some m)) q = hI h q := by
  refine ⟨(c.nwd m' (by omega) ek en em).sRc (by omega) hf, fun q hq => ?_⟩
  rw [hI_sR, hI_nw, c.1, if_neg (by omega)]
theorem Ast {k n w f : Nat} {l : List Int32} (m' : Nat) (em : m + 1 = m') (c : CO L xs m S D U h) (hm : 27 ≤ m) (ek : kt m = k) (en : nt m = n) (hf : S.all (fun p => !(Nat.beq p.1 26 && Nat.beq p.2.1 f)) = true) : CO L xs m' ((26, f, m) :: S) ([m] ++ D) (U + w) (sR (wrs (nw h k n w) m 0 l) 26 f (some m)) ∧ (∀ q, q < m → hI (sR (wrs (nw h k n w) m 0 l) 26 f (some m)) q = hI h q) ∧ ∀ j, j < l.length → hI (sR (wrs (nw h k n w) m 0 l) 26 f (some m)) m j = l.getD j 0 := by
  have F := wrs_fr l (nw h k n w) m 0
  refine ⟨((c.nwd m' (by omega) ek en em).frc F (by simp; omega)).sRc (by omega) hf, fun q hq => ?_, fun j hj => ?_⟩
  · rw [hI_sR, F.2.2.2.2.2.1 q (by simp; omega), hI_nw, c.1, if_neg (by omega)]
  · rw [hI_sR, wrs_at, if_pos (by omega), Nat.sub_zero]
theorem K104 (c0 : CO L xs 27 [(5, 2, 15), (15, 1, 16), (15, 0, 6), (15, 5, 25), (15, 4, 24), (15, 3, 23), (15, 2, 22), (16, 1, 10), (16, 0, 6), (16, 6, 21), (16, 5, 20), (16, 4, 19), (16, 3, 18), (16, 2, 17), (5, 1, 12), (12, 1, 10), (12, 0, 6), (12, 3, 14), (12, 2, 13), (5, 0, 6), (10, 0, 6), (10, 1, 11), (6, 5, 9), (6, 4, 8), (6, 3, 7)] D U h) (hD : ∀ q ∈ D, q < 26) : ∃ h', X (104, 0, [.ref 26], [], h) = some (none, h') ∧ CO L xs 42 [(26, 20, 41), (26, 19, 40), (26, 17, 39), (26, 16, 38), (26, 15, 37), (26, 14, 36), (26, 13, 35), (26, 12, 34), (26, 11, 33), (26, 9, 32), (26, 8, 31), (26, 7, 30), (26, 6, 29), (26, 4, 28), (26, 3, 27), (5, 2, 15), (15, 1, 16), (15, 0, 6), (15, 5, 25), (15, 4, 24), (15, 3, 23), (15, 2, 22), (16, 1, 10), (16, 0, 6), (16, 6, 21), (16, 5, 20), (16, 4, 19), (16, 3, 18), (16, 2, 17), (5, 1, 12), (12, 1, 10), (12, 0, 6), (12, 3, 14), (12, 2, 13), (5, 0, 6), (10, 0, 6), (10, 1, 11), (6, 5, 9), (6, 4, 8), (6, 3, 7)] ([27] ++ ([31] ++ ([30] ++ ([29] ++ ([26] ++ D))))) (U + 20 + 20 + 10 + 20 + 20 + 10 + 21 + 16800 + 2048 + 168000 + 168000 + 403200 + 16800 + 20 + 40) h' ∧ (∀ q, q < 26 → hI h' q = hI h q) ∧ hI h' 26 0 = 1 ∧ hI h' 26 1 = 1 ∧ (∀ j, 2 ≤ j → hI h' 26 j = 0) ∧ (∀ j, j < 10 → hI h' 29 j = pcT j) ∧ (∀ j, j < 20 → hI h' 30 j = saT j) ∧ (∀ j, j < 20 → hI h' 31 j = sbT j) ∧ hI h' 27 0 = 1023 := by
  have F : Fr [26] [] h (sI (sI h 26 0 1) 26 1 1) := (Fr.sI (by simp)).tr (Fr.sI (by simp))
  have k26 : hK h 26 = 6 := c0.kz 26 rfl rfl
  have k26' : hK (sI h 26 0 1) 26 = 6 := k26
  rw [e104_0, e104_1, m104_4 k26, m104_9 k26']
  have c1 := c0.frc F (by decide)
  have r0 : hI (sI (sI h 26 0 1) 26 1 1) 26 0 = 1 := by rw [hI_sI_ne _ _ (by decide), hI_sI_same]
  have r1 : hI (sI (sI h 26 0 1) 26 1 1) 26 1 = 1 := hI_sI_same _ _ _ _
  have r2 : ∀ j, 2 ≤ j → hI (sI (sI h 26 0 1) 26 1 1) 26 j = 0 := fun j hj => by
    rw [hI_sI_ne _ _ (by omega), hI_sI_ne _ _ (by omega)]
    exact c0.2.2.2.2.2.2.2.2.1 26 (by decide) (by decide) (fun u => by have := hD 26 u; omega) j
  have ro : ∀ q, q < 26 → hI (sI (sI h 26 0 1) 26 1 1) q = hI h q := fun q hq => by rw [hI_sI_o _ _ _ (by omega), hI_sI_o _ _ _ (by omega)]
  generalize sI (sI h 26 0 1) 26 1 1 = g1 at c1 r0 r1 r2 ro ⊢
  obtain ⟨c2, s2⟩ := Nst (k := 10) (n := 20) (w := 20) (f := 3) 28 rfl c1 (by decide) rfl rfl rfl
  rw [m104_14 c1.1 (c1.kz 26 rfl (k := 6) rfl)]
  generalize sR (nw g1 10 20 20) 26 3 (some 27) = g2 at c2 s2 ⊢
  obtain ⟨c3, s3⟩ := Nst (k := 10) (n := 20) (w := 20) (f := 4) 29 rfl c2 (by decide) rfl rfl rfl
  rw [m104_22 c2.1 (c2.kz 26 rfl (k := 6) rfl)]
  generalize sR (nw g2 10 20 20) 26 4 (some 28) = g3 at c3 s3 ⊢
  obtain ⟨c4, s4, v4⟩ := Ast (k := 10) (n := 10) (w := 10) (f := 6) (l := [0, 1, 1, 1, 1, 1, 1, 2, 2, 2]) 30 rfl c3 (by decide) rfl rfl rfl
  rw [m104_30 c3.1 (c3.kz 26 rfl (k := 6) rfl)]
  generalize sR (wrs (nw g3 10 10 10) 29 0 [0, 1, 1, 1, 1, 1, 1, 2, 2, 2]) 26 6 (some 29) = g4 at c4 s4 v4 ⊢
  obtain ⟨c5, s5, v5⟩ := Ast (k := 10) (n := 20) (w := 20) (f := 7) (l := [-1, -1, 0, -1, 3, -1, 0, -1, 1, -1, 2, -1, 3, -1, 0, 2, 0, 2, 0, 3]) 31 rfl c4 (by decide) rfl rfl rfl
  rw [m104_82 c4.1 (c4.kz 26 rfl (k := 6) rfl)]
  generalize sR (wrs (nw g4 10 20 20) 30 0 [-1, -1, 0, -1, 3, -1, 0, -1, 1, -1, 2, -1, 3, -1, 0, 2, 0, 2, 0, 3]) 26 7 (some 30) = g5 at c5 s5 v5 ⊢
  obtain ⟨c6, s6, v6⟩ := Ast (k := 10) (n := 20) (w := 20) (f := 8) (l := [-1, -1, 2, -1, 1, -1, 1, -1, 2, -1, 3, -1, 0, -1, 3, 1, 1, 3, 2, 1]) 32 rfl c5 (by decide) rfl rfl rfl
  rw [m104_184 c5.1 (c5.kz 26 rfl (k := 6) rfl)]
  generalize sR (wrs (nw g5 10 20 20) 31 0 [-1, -1, 2, -1, 1, -1, 1, -1, 2, -1, 3, -1, 0, -1, 3, 1, 1, 3, 2, 1]) 26 8 (some 31) = g6 at c6 s6 v6 ⊢
  obtain ⟨c7, s7⟩ := Nst (k := 10) (n := 10) (w := 10) (f := 9) 33 rfl c6 (by decide) rfl rfl rfl
  rw [m104_286 c6.1 (c6.kz 26 rfl (k := 6) rfl)]
  generalize sR (nw g6 10 10 10) 26 9 (some 32) = g7 at c7 s7 ⊢
  obtain ⟨c8, s8⟩ := Nst (k := 10) (n := 21) (w := 21) (f := 11) 34 rfl c7 (by decide) rfl rfl rfl
  rw [m104_294 c7.1 (c7.kz 26 rfl (k := 6) rfl)]
  generalize sR (nw g7 10 21 21) 26 11 (some 33) = g8 at c8 s8 ⊢
  obtain ⟨c9, s9⟩ := Nst (k := 10) (n := 16800) (w := 16800) (f := 12) 35 rfl c8 (by decide) rfl rfl rfl
  rw [m104_302 c8.1 (c8.kz 26 rfl (k := 6) rfl)]
  generalize sR (nw g8 10 16800 16800) 26 12 (some 34) = g9 at c9 s9 ⊢
  obtain ⟨c10, s10⟩ := Nst (k := 10) (n := 2048) (w := 2048) (f := 13) 36 rfl c9 (by decide) rfl rfl rfl
  rw [m104_311 c9.1 (c9.kz 26 rfl (k := 6) rfl)]
  generalize sR (nw g9 10 2048 2048) 26 13 (some 35) = g10 at c10 s10 ⊢
  obtain ⟨c11, s11⟩ := Nst (k := 10) (n := 168000) (w := 168000) (f := 14) 37 rfl c10 (by decide) rfl rfl rfl
  rw [m104_320 c10.1 (c10.kz 26 rfl (k := 6) rfl)]
  generalize sR (nw g10 10 168000 168000) 26 14 (some 36) = g11 at c11 s11 ⊢
  obtain ⟨c12, s12⟩ := Nst (k := 10) (n := 168000) (w := 168000) (f := 15) 38 rfl c11 (by decide) rfl rfl rfl
  rw [m104_328 c11.1 (c11.kz 26 rfl (k := 6) rfl)]
  generalize sR (nw g11 10 168000 168000) 26 15 (some 37) = g12 at c12 s12 ⊢
  obtain ⟨c13, s13⟩ := Nst (k := 11) (n := 403200) (w := 403200) (f := 16) 39 rfl c12 (by decide) rfl rfl rfl
  rw [m104_336 c12.1 (c12.kz 26 rfl (k := 6) rfl)]
  generalize sR (nw g12 11 403200 403200) 26 16 (some 38) = g13 at c13 s13 ⊢
  obtain ⟨c14, s14⟩ := Nst (k := 11) (n := 16800) (w := 16800) (f := 17) 40 rfl c13 (by decide) rfl rfl rfl
  rw [m104_344 c13.1 (c13.kz 26 rfl (k := 6) rfl)]
  generalize sR (nw g13 11 16800 16800) 26 17 (some 39) = g14 at c14 s14 ⊢
  obtain ⟨c15, s15⟩ := Nst (k := 10) (n := 20) (w := 20) (f := 19) 41 rfl c14 (by decide) rfl rfl rfl
  rw [m104_353 c14.1 (c14.kz 26 rfl (k := 6) rfl)]
  generalize sR (nw g14 10 20 20) 26 19 (some 40) = g15 at c15 s15 ⊢
  obtain ⟨c16, s16⟩ := Nst (k := 10) (n := 40) (w := 40) (f := 20) 42 rfl c15 (by decide) rfl rfl rfl
  rw [m104_361 c15.1 (c15.kz 26 rfl (k := 6) rfl)]
  generalize sR (nw g15 10 40 40) 26 20 (some 41) = g16 at c16 s16 ⊢
  have kk : hK g16 26 = 6 := c16.kz 26 rfl rfl
  have kb : hK g16 27 = 10 ∧ inB 0 (hN g16 27) = true := ⟨c16.kz 27 rfl rfl, by rw [c16.nz 27 rfl rfl]; decide⟩
  have r3 : hR g16 26 3 = some 27 := c16.rz (p := (26, 3, 27)) (by decide)
  rw [e104_369, e104_370, if_pos kk, r3]
  show ∃ h', X (104, 373, [.ref 26], [.ref 27], g16) = _ ∧ _
  rw [e104_373, e104_374, e104_377, if_pos kb, e104_378]
  have z0 : (0 : Int32).toNatClampNeg = 0 := by decide
  rw [z0]
  have G : Fr [27] [] g16 (sI g16 27 0 1023) := Fr.sI (by simp)
  have hr : ∀ q, q ≠ 27 → hI (sI g16 27 0 1023) q = hI g16 q := fun q hq => hI_sI_o _ _ _ hq
  have h26 : hI g16 26 = hI g1 26 := by rw [s16 26 (by decide), s15 26 (by decide), s14 26 (by decide), s13 26 (by decide), s12 26 (by decide), s11 26 (by decide), s10 26 (by decide), s9 26 (by decide), s8 26 (by decide), s7 26 (by decide), s6 26 (by decide), s5 26 (by decide), s4 26 (by decide), s3 26 (by decide), s2 26 (by decide)]
  refine ⟨_, rfl, c16.frc G (by decide), fun q hq => ?_, ?_, ?_, fun j hj => ?_, fun j hj => ?_, fun j hj => ?_, fun j hj => ?_, hI_sI_same _ _ _ _⟩
  · rw [hr q (by omega), s16 q (by omega), s15 q (by omega), s14 q (by omega), s13 q (by omega), s12 q (by omega), s11 q (by omega), s10 q (by omega), s9 q (by omega), s8 q (by omega), s7 q (by omega), s6 q (by omega), s5 q (by omega), s4 q (by omega), s3 q (by omega), s2 q (by omega)]
    exact ro q hq
  · rw [hr 26 (by decide), h26]; exact r0
  · rw [hr 26 (by decide), h26]; exact r1
  · rw [hr 26 (by decide), h26]; exact r2 j hj
  · rw [hr 29 (by decide), s16 29 (by decide), s15 29 (by decide), s14 29 (by decide), s13 29 (by decide), s12 29 (by decide), s11 29 (by decide), s10 29 (by decide), s9 29 (by decide), s8 29 (by decide), s7 29 (by decide), s6 29 (by decide), s5 29 (by decide), v4 j hj]
    rfl
  · rw [hr 30 (by decide), s16 30 (by decide), s15 30 (by decide), s14 30 (by decide), s13 30 (by decide), s12 30 (by decide), s11 30 (by decide), s10 30 (by decide), s9 30 (by decide), s8 30 (by decide), s7 30 (by decide), s6 30 (by decide), v5 j hj]
    rfl
  · rw [hr 31 (by decide), s16 31 (by decide), s15 31 (by decide), s14 31 (by decide), s13 31 (by decide), s12 31 (by decide), s11 31 (by decide), s10 31 (by decide), s9 31 (by decide), s8 31 (by decide), s7 31 (by decide), v6 j hj]
    rfl
end Cp
