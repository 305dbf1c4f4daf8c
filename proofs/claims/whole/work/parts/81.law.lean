/-! the law answers 1 -/
section Lw
variable {L : Nat} {xs : Nat → Int32}
theorem CO_0 : CO L xs 5 [] [] 0 (h0 L xs) := by
  refine ⟨rfl, fun i hi => ?_, fun i hi h4 => ?_, fun i hi => ?_, rfl, rfl, fun p hp => (by cases hp), fun p hp => (by cases hp), fun i h5 hi => absurd hi (by omega), rfl⟩
  · have hi' : i = 0 ∨ i = 1 ∨ i = 2 ∨ i = 3 ∨ i = 4 := by omega
    rcases hi' with rfl | rfl | rfl | rfl | rfl <;> rfl
  · have hi' : i = 0 ∨ i = 1 ∨ i = 2 ∨ i = 3 := by omega
    rcases hi' with rfl | rfl | rfl | rfl <;> rfl
  · have hi' : i = 0 ∨ i = 1 ∨ i = 2 ∨ i = 3 := by omega
    rcases hi' with rfl | rfl | rfl | rfl <;> rfl
theorem K85 {h : HP} (c : CO L xs 6 [] [] 3 h) : ∃ h', X (85, 0, [.ref 5, .null, .null], [], h) = some (none, h') ∧ CO L xs 26 [(5, 2, 15), (15, 1, 16), (15, 0, 6), (15, 5, 25), (15, 4, 24), (15, 3, 23), (15, 2, 22), (16, 1, 10), (16, 0, 6), (16, 6, 21), (16, 5, 20), (16, 4, 19), (16, 3, 18), (16, 2, 17), (5, 1, 12), (12, 1, 10), (12, 0, 6), (12, 3, 14), (12, 2, 13), (5, 0, 6), (10, 0, 6), (10, 1, 11), (6, 5, 9), (6, 4, 8), (6, 3, 7)] ([15] ++ ([11] ++ ([6, 7, 8, 9] ++ []))) (3 + 6 + 20 + 20 + 20 + 2 + 6 + 5 + 20 + 40 + 8 + 11 + 21 + 76 + 76 + 76 + 64 + 21 + 0 + 76 + 76) h' ∧ hI h' 6 0 = 1 ∧ hI h' 6 1 = 1 ∧ hI h' 6 2 = 0 ∧ (∀ c, c < 20 → hI h' 7 c = 1023 ∧ hI h' 8 c = nI (edg 1 1 c) ∧ hI h' 9 c = 0) ∧ (∀ k, 6 ≤ k → hI h' 11 k = 0) ∧ hI h' 15 7 = 21 := by
  have z := c.1
  have c1 := c.nwd 7 (k := 0) (n := 0) (w := 6) (by decide) rfl rfl rfl
  obtain ⟨h1, x1, x2, x3, x4, x5, x6⟩ := K0 c1
  have c2 := x2.nwd 11 (k := 1) (n := 0) (w := 2) (by decide) rfl rfl rfl
  obtain ⟨h2, y1, y2, y3, y4⟩ := K19 c2 (by decide)
  have c3 := y2.sRc (o := 5) (b := 0) (q := 6) (by decide) rfl
  have c4 := c3.nwd 13 (k := 3) (n := 0) (w := 5) (by decide) rfl rfl rfl
  obtain ⟨h3, u1, u2, u3⟩ := K51 c4
  have c5 := u2.sRc (o := 5) (b := 1) (q := 12) (by decide) rfl
  have c6 := c5.nwd 16 (k := 4) (n := 0) (w := 8) (by decide) rfl rfl rfl
  have c7 := c6.nwd 17 (k := 2) (n := 0) (w := 11) (by decide) rfl rfl rfl
  obtain ⟨h4, v1, v2, v3⟩ := K39 c7
  obtain ⟨h5, w1, w2, w3, w4⟩ := K67 v2
  have c8 := w2.sRc (o := 5) (b := 2) (q := 15) (by decide) rfl
  have e3 : ∀ q, q < 12 → hI (nw (sR h2 5 0 (some 6)) 3 0 5) q = hI h2 q := fun q hq => by rw [hI_nw, c3.1, if_neg (by omega), hI_sR]
  have e2 : ∀ q, q < 10 → hI (nw h1 1 0 2) q = hI h1 q := fun q hq => by rw [hI_nw, x2.1, if_neg (by omega)]
  have e4 : ∀ q, q < 15 → hI (nw (nw (sR h3 5 1 (some 12)) 4 0 8) 2 0 11) q = hI h3 q := fun q hq => by rw [hI_nw, c6.1, if_neg (by omega), hI_nw, c5.1, if_neg (by omega), hI_sR]
  have r : ∀ q, q < 12 → hI (sR h5 5 2 (some 15)) q = hI h2 q := fun q hq => by rw [hI_sR, w3 q (by omega) (by omega), v3 q (by omega), e4 q (by omega), u3 q (by omega), e3 q hq]
  have r1 : ∀ q, q < 10 → hI (sR h5 5 2 (some 15)) q = hI h1 q := fun q hq => by rw [r q (by omega), y3 q (by omega), e2 q hq]
  refine ⟨sR h5 5 2 (some 15), ?_, c8, by rw [r1 6 (by decide)]; exact x3, by rw [r1 6 (by decide)]; exact x4, by rw [r1 6 (by decide)]; exact x5, fun d hd => by rw [r1 7 (by decide), r1 8 (by decide), r1 9 (by decide)]; exact x6 d hd, fun k hk => by rw [r 11 (by decide)]; exact y4 k hk, w4⟩
  rw [r85_0, z, x1, bV_s, x2.1, y1, bV_s, if_pos (y2.kz 5 rfl (k := 5) rfl), c3.1, u1, bV_s, if_pos (u2.kz 5 rfl (k := 5) rfl), c5.1, c6.1, v1, bV_s, w1, bV_s, if_pos (w2.kz 5 rfl (k := 5) rfl)]
theorem rst_le : rst 0 szL ≤ 600000 := by decide +kernel
theorem st_INV : ∃ h', X (144, 0, [.ref 4, .null, .null, .null], [], h0 L xs) = X (144, 18, [.ref 4, .ref 5, .ref 26, .int (nI 0)], [], h') ∧ INV L xs (776000 + rst 0 szL) h' := by
  have c1 := (CO_0 (L := L) (xs := xs)).nwd 6 (k := 5) (n := 0) (w := 3) (by decide) rfl rfl rfl
  obtain ⟨h1, x1, x2, x3, x4, x5, x6, x7, x8⟩ := K85 c1
  have c2 := x2.nwd 27 (k := 6) (n := 0) (w := 21) (by decide) rfl rfl rfl
  obtain ⟨h', y1, y2, y3, y4, y5, y6, y7, y8, y9, y10⟩ := K104 c2 (by decide)
  have e : ∀ q, q < 26 → hI h' q = hI h1 q := fun q hq => by rw [y3 q hq, hI_nw, x2.1, if_neg (by omega)]
  obtain ⟨d0, d1, d2, d3, d4, d5, d6, d7, d8, d9⟩ := y2
  have hs : SH h' := ⟨by omega, d1, d2, fun p hp => d6 p (by
    have all : ∀ p ∈ rtL, p ∈ ([(26, 20, 41), (26, 19, 40), (26, 17, 39), (26, 16, 38), (26, 15, 37), (26, 14, 36), (26, 13, 35), (26, 12, 34), (26, 11, 33), (26, 9, 32), (26, 8, 31), (26, 7, 30), (26, 6, 29), (26, 4, 28), (26, 3, 27), (5, 2, 15), (15, 1, 16), (15, 0, 6), (15, 5, 25), (15, 4, 24), (15, 3, 23), (15, 2, 22), (16, 1, 10), (16, 0, 6), (16, 6, 21), (16, 5, 20), (16, 4, 19), (16, 3, 18), (16, 2, 17), (5, 1, 12), (12, 1, 10), (12, 0, 6), (12, 3, 14), (12, 2, 13), (5, 0, 6), (10, 0, 6), (10, 1, 11), (6, 5, 9), (6, 4, 8), (6, 3, 7)] : List (Nat × Nat × Nat)) := by decide
    exact all p hp), d3⟩
  have zr : ∀ i, 5 ≤ i → i < 42 → i ∉ ([27, 31, 30, 29, 26, 15, 11, 6, 7, 8, 9] : List Nat) → ∀ j, hI h' i j = 0 := d8
  have rr : ∀ p ∈ ([(26, 20, 41), (26, 19, 40), (26, 17, 39), (26, 16, 38), (26, 15, 37), (26, 14, 36), (26, 13, 35), (26, 12, 34), (26, 11, 33), (26, 9, 32), (26, 8, 31), (26, 7, 30), (26, 6, 29), (26, 4, 28), (26, 3, 27), (5, 2, 15), (15, 1, 16), (15, 0, 6), (15, 5, 25), (15, 4, 24), (15, 3, 23), (15, 2, 22), (16, 1, 10), (16, 0, 6), (16, 6, 21), (16, 5, 20), (16, 4, 19), (16, 3, 18), (16, 2, 17), (5, 1, 12), (12, 1, 10), (12, 0, 6), (12, 3, 14), (12, 2, 13), (5, 0, 6), (10, 0, 6), (10, 1, 11), (6, 5, 9), (6, 4, 8), (6, 3, 7)] : List (Nat × Nat × Nat)), hR h' p.1 p.2.1 = some p.2.2 := d6
  have hb : BD h' 1 1 false := ⟨by decide, by rw [e 6 (by decide)]; exact x3, by rw [e 6 (by decide)]; exact x4, by rw [e 6 (by decide)]; exact x5, fun c hc => by
    rw [e 8 (by decide), e 9 (by decide)]
    exact ⟨(x6 c hc).2.1, (x6 c hc).2.2⟩⟩
  refine ⟨h', ?_, d4, d5, 1, 1, false, fun _ => 1023, fun _ => 0, 21, 23, 21, ?_, ?_, ?_, ?_⟩
  · rw [r144_0]
    show bV (X (85, 0, [.ref 5, .null, .null], [], nw (h0 L xs) 5 0 3)) _ = _
    rw [x1, bV_s, x2.1, y1, bV_s]
    rfl
  · refine ⟨hs, hb, fun c hc => ⟨by rw [e 7 (by decide)]; exact (x6 c (by omega)).1, (show 1023 < 1024 by decide)⟩, fun k hk => by rw [e 11 (by decide)]; exact x7 k hk, ?_, ?_, ⟨19, 20, rr (16, 4, 19) (by decide), rr (16, 5, 20) (by decide), Or.inl ⟨rfl, rfl⟩⟩, Or.inl ⟨rr (15, 4, 24) (by decide), rr (15, 5, 25) (by decide)⟩, ⟨[], rr (16, 6, 21) (by decide), Or.inl rfl, by omega, hs.k 21 rfl, by rw [hs.n 21 rfl]; decide, ?_, Nat.zero_le _, fun i m hi => by simp at hi⟩, ⟨rr (15, 3, 23) (by decide), Or.inl rfl, by omega, hs.k 23 rfl, by rw [hs.n 23 rfl]; decide⟩, by omega, ?_, Or.inl ?_, by rw [e 15 (by decide)]; exact x8, by omega, fun u => absurd u (by decide)⟩
    · rw [zr 18 (by decide) (by decide) (by decide), fr0]
    · exact zr 17 (by decide) (by decide) (by decide) 0
    · exact zr 16 (by decide) (by decide) (by decide) 7
    · have n23 : hN h' 23 = 0 := hs.n 23 rfl
      rw [n23]
      omega
    · exact zr 16 (by decide) (by decide) (by decide) 8
  · exact fun c hc => ⟨zr 13 (by decide) (by decide) (by decide) c, (show 0 < 10 by decide)⟩
  · refine ⟨⟨hs, ⟨by decide, y4, y5, y6 2 (by decide), y7, y8, y9⟩, fun c hc => ⟨?_, (show 1023 < 1024 by decide)⟩, fun k hk => zr 32 (by decide) (by decide) (by decide) k⟩, Or.inl (y6 5 (by decide))⟩
    have : c = 0 := by omega
    subst this
    exact y10
  · exact fun c hc => ⟨zr 28 (by decide) (by decide) (by decide) c, (show 0 < 10 by decide)⟩
theorem law_1 (hL : L ≤ 3584) : ∃ hf, X (144, 0, [.ref 4, .null, .null, .null], [], h0 L xs) = some (some (.int 1), hf) ∧ hZ hf ≤ 600005 ∧ hU hf ≤ 7302250 := by
  obtain ⟨g, x1, x2⟩ := st_INV (L := L) (xs := xs)
  obtain ⟨hf, y1, y2⟩ := lwL hL L 0 (by omega) (by omega) g x2
  obtain ⟨z1, z2⟩ := y2.room
  have := rst_le
  exact ⟨hf, x1.trans y1, by omega, by omega⟩
end Lw
