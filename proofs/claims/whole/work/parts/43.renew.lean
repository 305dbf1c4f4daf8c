/-! the board made anew, in both -/
theorem s12d {W : Nat} {h : HP} (w1 : 1 ≤ W) (w2 : W ≤ 5) (e : hI h 6 0 = nI W) (hs : SH h) {c : Nat} (hc : c < 2 ^ 31) : X (12, 0, [.ref 6, .int (nI c)], [], h) = some (some (.int (nI (c % W))), h) := by
  rw [g12_0 _ h hs, e, if_neg (nI_nle (by omega) (by omega)), if_neg (nI_ne0 (by omega) (by omega)), pk_rem hc (by omega) (by omega)]
theorem s13d {W : Nat} {h : HP} (w1 : 1 ≤ W) (w2 : W ≤ 5) (e : hI h 6 0 = nI W) (hs : SH h) {c : Nat} (hc : c < 2 ^ 31) : X (13, 0, [.ref 6, .int (nI c)], [], h) = some (some (.int (nI (c / W))), h) := by
  rw [g13_0 _ h hs, e, if_neg (nI_nle (by omega) (by omega)), if_neg (nI_ne0 (by omega) (by omega)), pk_div hc (by omega) (by omega)]
def edx (W H x y : Nat) : Nat := (if y = 0 then 1 else 0) + (if x = W - 1 then 2 else 0) + (if y = H - 1 then 4 else 0) + (if x = 0 then 8 else 0)
theorem s4 {W H x y : Nat} {h : HP} (w1 : 1 ≤ W) (w2 : W ≤ 5) (h1 : 1 ≤ H) (h2 : H ≤ 5) (e0 : hI h 6 0 = nI W) (e1 : hI h 6 1 = nI H) (hs : SH h) (hx : x < 30) (hy : y < 30) (w3 : Value) : X (4, 0, [.ref 6, .int (nI x), .int (nI y), w3], [], h) = some (some (.int (nI (edx W H x y))), h) := by
  have e38 : ∀ (w0 w2 : Value) (v : Nat), v < 8 → X (4, 38, [w0, .int (nI x), w2, .int (nI v)], [], h) = some (some (.int (nI (v + (if x = 0 then 8 else 0)))), h) := by
    intro w0 w2 v hv
    rw [g4_38 _ _ _ _ h hs, if_iff (nI_e0 (show x < 2 ^ 31 by omega))]
    have d : ∀ v, v < 8 → nI v ||| 8 = nI (v + 8) := by decide +kernel
    by_cases q : x = 0
    · rw [if_pos q, if_pos q, d v hv]
    · rw [if_neg q, if_neg q]; rfl
  have e24 : ∀ (v : Nat), v < 4 → X (4, 24, [.ref 6, .int (nI x), .int (nI y), .int (nI v)], [], h) = some (some (.int (nI (v + (if y = H - 1 then 4 else 0) + (if x = 0 then 8 else 0)))), h) := by
    intro v hv
    rw [g4_24 _ _ _ h hs, e1, if_iff (eqM1 (show y < 2 ^ 31 by omega) (by omega) h1)]
    have d : ∀ v, v < 4 → nI v ||| 4 = nI (v + 4) := by decide +kernel
    by_cases q : y = H - 1
    · rw [if_pos q, if_pos q, d v hv, e38 _ _ _ (by omega)]
    · rw [if_neg q, if_neg q, e38 _ _ _ (by omega)]; rfl
  have e10 : ∀ (v : Nat), v < 2 → X (4, 10, [.ref 6, .int (nI x), .int (nI y), .int (nI v)], [], h) = some (some (.int (nI (v + (if x = W - 1 then 2 else 0) + (if y = H - 1 then 4 else 0) + (if x = 0 then 8 else 0)))), h) := by
    intro v hv
    rw [g4_10 _ _ _ h hs, e0, if_iff (eqM1 (show x < 2 ^ 31 by omega) (by omega) w1)]
    have d : ∀ v, v < 2 → nI v ||| 2 = nI (v + 2) := by decide +kernel
    by_cases q : x = W - 1
    · rw [if_pos q, if_pos q, d v hv, e24 _ (by omega)]
    · rw [if_neg q, if_neg q, e24 _ (by omega)]; rfl
  rw [g4_0 _ _ _ h hs, if_iff (nI_e0 (show y < 2 ^ 31 by omega))]
  unfold edx
  by_cases q : y = 0
  · rw [if_pos q, if_pos q, show ((0 : Int32) ||| 1) = nI 1 from by decide]
    exact e10 1 (by decide)
  · rw [if_neg q, if_neg q]
    exact e10 0 (by decide)
theorem s5 {x y : Nat} {h : HP} (hs : SH h) (hx : x < 30) (hy : y < 30) : X (5, 0, [.int (nI x), .int (nI y)], [], h) = some (some (.int (nI (f2o x y))), h) := by
  rw [g5_0 _ _ h hs, s2 x (by omega) h hs, bI_s]
  unfold f2o
  by_cases p : x % 2 = 0
  · rw [if_pos p, if_pos p, if_neg (by decide), s2 y (by omega) h hs, bI_s]
    by_cases q : y % 2 = 0
    · rw [if_pos q, if_pos q, if_neg (by decide)]; rfl
    · rw [if_neg q, if_neg q, if_pos rfl]; rfl
  · rw [if_neg p, if_neg p, if_pos rfl, s2 y (by omega) h hs, bI_s]
    by_cases q : y % 2 = 0
    · rw [if_pos q, if_pos q, if_neg (by decide)]; rfl
    · rw [if_neg q, if_neg q, if_pos rfl]; rfl
theorem hI_sI_same (h : HP) (o k : Nat) (v : Int32) : hI (sI h o k v) o k = v := by
  rw [hI_sI, if_pos rfl]; simp [upd]
theorem hI_sI_ne (h : HP) {o k j : Nat} (v : Int32) (hj : j ≠ k) : hI (sI h o k v) o j = hI h o j := by
  rw [hI_sI, if_pos rfl]; simp [upd, hj]
theorem hI_sI_o (h : HP) {o q : Nat} (k : Nat) (v : Int32) (hq : q ≠ o) : hI (sI h o k v) q = hI h q := by
  rw [hI_sI, if_neg hq]
section Rn
variable {W H : Nat} {ar : Bool}
theorem s3 (hk : okS W H ar = true) (w4 : Value) (h : HP) (hs : SH h) : ∃ h', X (3, 0, [.ref 6, .int (nI W), .int (nI H), .int (aI ar), w4], [], h) = some (none, h') ∧ Fr [6, 7, 8, 9] [] h h' ∧ BD h' W H ar ∧ ∀ c, c < 20 → hI h' 7 c = 1023 := by
  obtain ⟨⟨w1, w2⟩, ⟨h1, h2⟩, h3, h4⟩ := okS_1 hk
  have key : ∀ (n j : Nat), j + n = 20 → ∀ (w1 w2 w3 : Value) (h : HP), SH h → hI h 6 0 = nI W → hI h 6 1 = nI H → hI h 6 2 = aI ar → (∀ c, c < j → hI h 7 c = 1023 ∧ hI h 8 c = nI (edg W H c) ∧ hI h 9 c = nI (fsd W H ar c)) → ∃ h', X (3, 18, [.ref 6, w1, w2, w3, .int (nI j)], [], h) = some (none, h') ∧ Fr [6, 7, 8, 9] [] h h' ∧ BD h' W H ar ∧ ∀ c, c < 20 → hI h' 7 c = 1023 := by
    intro n
    induction n with
    | zero =>
      intro j hj u1 u2 u3 h hs e0 e1 e2 hd
      have : j = 20 := by omega
      subst this
      refine ⟨h, ?_, Fr.rf, ⟨hk, e0, e1, e2, fun c hc => (hd c hc).2⟩, fun c hc => (hd c hc).1⟩
      rw [g3_18 _ _ _ _ h hs, if_pos (show (20 : Int32) ≤ nI 20 from by decide)]
    | succ n ih =>
      intro j hj u1 u2 u3 h hs e0 e1 e2 hd
      have n20 : ¬ (20 : Int32) ≤ nI j := nI_ge (show j < 20 by omega) (by decide)
      have ib : inB (nI j) 20 = true := inB_nI (by omega) (by decide)
      have hx : j % W < 30 := by have := Nat.mod_le j W; omega
      have hy : j / W < 30 := by have := Nat.div_le_self j W; omega
      have hs1 : SH (sI h 7 j 1023) := hs.sIs 7 rfl
      have f0 : hI (sI h 7 j 1023) 6 = hI h 6 := hI_sI_o _ _ _ (by decide)
      have E : edx W H (j % W) (j / W) = edg W H j := rfl
      rw [g3_18 _ _ _ _ h hs, if_neg n20, if_pos ib, nI_clamp (by omega), s12d w1 w2 (by rw [f0]; exact e0) hs1 (by omega), bI_s, s13d w1 w2 (by rw [f0]; exact e0) hs1 (by omega), bI_s, s4 w1 w2 h1 h2 (by rw [f0]; exact e0) (by rw [f0]; exact e1) hs1 hx hy, bI_s, E, if_pos ib]
      have hs2 : SH (sI (sI h 7 j 1023) 8 j (nI (edg W H j))) := hs1.sIs 8 rfl
      have f2 : hI (sI (sI h 7 j 1023) 8 j (nI (edg W H j))) 6 = hI h 6 := by rw [hI_sI_o _ _ _ (by decide)]; exact f0
      rw [f2, e2]
      have fin : ∀ (v : Int32), v = nI (fsd W H ar j) → ∃ h', X (3, 18, [.ref 6, u1, u2, nl u3, .int (nI j + 1)], [], sI (sI (sI h 7 j 1023) 8 j (nI (edg W H j))) 9 j v) = some (none, h') ∧ Fr [6, 7, 8, 9] [] h h' ∧ BD h' W H ar ∧ ∀ c, c < 20 → hI h' 7 c = 1023 := by
        intro v hv
        have g6 : hI (sI (sI (sI h 7 j 1023) 8 j (nI (edg W H j))) 9 j v) 6 = hI h 6 := by rw [hI_sI_o _ _ _ (by decide)]; exact f2
        obtain ⟨h', x1, x2, x3, x4⟩ := ih (j + 1) (by omega) u1 u2 (nl u3) (sI (sI (sI h 7 j 1023) 8 j (nI (edg W H j))) 9 j v) (hs2.sIs 9 rfl) (by rw [g6]; exact e0) (by rw [g6]; exact e1) (by rw [g6]; exact e2) (by
          intro c hc
          rw [hI_sI_o _ (o := 9) _ _ (show (7 : Nat) ≠ 9 by decide), hI_sI_o _ (o := 8) _ _ (show (7 : Nat) ≠ 8 by decide), hI_sI_o _ (o := 9) _ _ (show (8 : Nat) ≠ 9 by decide)]
          by_cases q : c = j
          · subst q
            rw [hI_sI_same, hI_sI_same, hI_sI_same]
            exact ⟨rfl, rfl, hv⟩
          · rw [hI_sI_ne _ _ q, hI_sI_ne _ _ q, hI_sI_ne _ _ q, hI_sI_o _ _ _ (show (8 : Nat) ≠ 7 by decide), hI_sI_o _ (o := 8) _ _ (show (9 : Nat) ≠ 8 by decide), hI_sI_o _ (o := 7) _ _ (show (9 : Nat) ≠ 7 by decide)]
            exact hd c (by omega))
        refine ⟨h', by rw [nI_1]; exact x1, ?_, x3, x4⟩
        exact (((Fr.sI (by decide)).tr (Fr.sI (by decide))).tr (Fr.sI (by decide))).tr x2
      cases ar with
      | false =>
        rw [if_pos (by decide), if_pos ib]
        exact fin 0 rfl
      | true =>
        rw [if_neg (by decide), if_pos ib, s12d w1 w2 (by rw [f2]; exact e0) hs2 (by omega), bI_s, s13d w1 w2 (by rw [f2]; exact e0) hs2 (by omega), bI_s, s5 hs2 hx hy, bI_s, if_pos ib, hI_sI_same, nI_and16 _ (edg_lt W H j) _ (f2o_lt _ _)]
        exact fin _ rfl
  have hs3 : SH (sI (sI (sI h 6 0 (nI W)) 6 1 (nI H)) 6 2 (aI ar)) := ((hs.sIs 6 rfl).sIs 6 rfl).sIs 6 rfl
  have a01 : aI ar = 0 ∨ aI ar = 1 := by cases ar <;> decide
  rw [g3_0 _ _ _ _ h hs, if_pos a01]
  obtain ⟨h', x1, x2, x3, x4⟩ := key 20 0 (by omega) (.int (nI W)) (.int (nI H)) (.int (aI ar)) _ hs3 (by rw [hI_sI_ne _ _ (by decide), hI_sI_ne _ _ (by decide), hI_sI_same]) (by rw [hI_sI_ne _ _ (by decide), hI_sI_same]) (by rw [hI_sI_same]) (fun c hc => absurd hc (by omega))
  exact ⟨h', x1, (((Fr.sI (by decide)).tr (Fr.sI (by decide))).tr (Fr.sI (by decide))).tr x2, x3, x4⟩
/-- blank -/
theorem s52 (w1 : Value) (h : HP) (hs : SH h) : ∃ h', X (52, 0, [.ref 12, w1], [], h) = some (none, h') ∧ Fr [13] [] h h' ∧ ∀ c, c < 20 → hI h' 13 c = 0 := by
  have key : ∀ (n j : Nat), j + n = 20 → ∀ (h : HP), SH h → (∀ c, c < j → hI h 13 c = 0) → ∃ h', X (52, 2, [.ref 12, .int (nI j)], [], h) = some (none, h') ∧ Fr [13] [] h h' ∧ ∀ c, c < 20 → hI h' 13 c = 0 := by
    intro n
    induction n with
    | zero =>
      intro j hj h hs hd
      have : j = 20 := by omega
      subst this
      refine ⟨h, ?_, Fr.rf, hd⟩
      rw [g52_2 _ h hs, if_pos (show (20 : Int32) ≤ nI 20 from by decide)]
    | succ n ih =>
      intro j hj h hs hd
      have n20 : ¬ (20 : Int32) ≤ nI j := nI_ge (show j < 20 by omega) (by decide)
      obtain ⟨h', x1, x2, x3⟩ := ih (j + 1) (by omega) (sI h 13 j 0) (hs.sIs 13 rfl) (by
        intro c hc
        by_cases q : c = j
        · subst q; rw [hI_sI_same]
        · rw [hI_sI_ne _ _ q]; exact hd c (by omega))
      refine ⟨h', ?_, (Fr.sI (by decide)).tr x2, x3⟩
      rw [g52_2 _ h hs, if_neg n20, if_pos (inB_nI (by omega) (by decide)), nI_clamp (by omega), nI_1]
      exact x1
  obtain ⟨h', x1, x2, x3⟩ := key 20 0 (by omega) h hs (fun c hc => absurd hc (by omega))
  exact ⟨h', by rw [g52_0 _ h hs]; exact x1, x2, x3⟩
end Rn
/-! may a board be so -/
def okI (w v : Int32) (ar : Bool) : Bool := inB w 6 && (inB v 6 && okS w.toNatClampNeg v.toNatClampNeg ar)
def cbI (a0 a1 a2 : Int32) : Int32 := if a0 < 1 then 0 else if 5 < a0 then 0 else if a1 < 1 then 0 else if 5 < a1 then 0 else if (a0 * a1) ≤ 20 then (if a2 = 0 then 1 else if (a0 &&& 1) = 0 then (if (a1 &&& 1) = 0 then 1 else 0) else 0) else 0
theorem out6 {w : Int32} (h : w < 0 ∨ (¬ w < 0 ∧ nI 6 ≤ w)) : w < 1 ∨ 5 < w := by
  rcases h with h | ⟨-, h⟩
  · left
    rw [Int32.lt_iff_toInt_lt] at h ⊢
    have e0 : (0 : Int32).toInt = 0 := by decide
    have e1 : (1 : Int32).toInt = 1 := by decide
    omega
  · right
    rw [Int32.le_iff_toInt_le] at h
    rw [Int32.lt_iff_toInt_lt]
    have e0 : (5 : Int32).toInt = 5 := by decide
    have e1 : (nI 6).toInt = 6 := by decide
    omega
theorem cbI_ok (w v : Int32) (ar : Bool) : cbI w v (aI ar) = aI (okI w v ar) := by
  unfold okI
  rcases inB_cases w 6 (by decide) with ⟨hw, j, hj, rfl⟩ | ⟨hw, q⟩
  · rcases inB_cases v 6 (by decide) with ⟨hv, i, hi, rfl⟩ | ⟨hv, q⟩
    · rw [hw, hv, nI_clamp (by omega), nI_clamp (by omega)]
      have d : ∀ j, j < 6 → ∀ i, i < 6 → ∀ ar, cbI (nI j) (nI i) (aI ar) = aI (true && (true && okS j i ar)) := by decide +kernel
      exact d j hj i hi ar
    · have e : inB v 6 = false := by simpa using hv
      rw [hw, e]
      show _ = (0 : Int32)
      unfold cbI
      by_cases c1 : nI j < 1
      · rw [if_pos c1]
      rw [if_neg c1]
      by_cases c2 : 5 < nI j
      · rw [if_pos c2]
      rw [if_neg c2]
      rcases out6 q with q | q
      · rw [if_pos q]
      · by_cases c3 : v < 1
        · rw [if_pos c3]
        · rw [if_neg c3, if_pos q]
  · have e : inB w 6 = false := by simpa using hw
    rw [e]
    show _ = (0 : Int32)
    unfold cbI
    rcases out6 q with q | q
    · rw [if_pos q]
    · by_cases c3 : w < 1
      · rw [if_pos c3]
      · rw [if_neg c3, if_pos q]
theorem okI_t {w v : Int32} {ar : Bool} (h : okI w v ar = true) : ∃ W H, w = nI W ∧ v = nI H ∧ okS W H ar = true := by
  unfold okI at h
  simp only [Bool.and_eq_true] at h
  obtain ⟨a, b, c⟩ := h
  obtain ⟨j, hj, rfl⟩ := vp_in_of (inB_in a) (by decide)
  obtain ⟨i, hi, rfl⟩ := vp_in_of (inB_in b) (by decide)
  rw [nI_clamp (by omega), nI_clamp (by omega)] at c
  exact ⟨j, i, rfl, rfl, c⟩
theorem s1 (a0 a1 a2 : Int32) (h : HP) (hs : SH h) : X (1, 0, [.int a0, .int a1, .int a2], [], h) = some (some (.int (cbI a0 a1 a2)), h) := by
  rw [g1_0 _ _ _ h hs, g2_0 _ h hs]
  unfold cbI
  by_cases c1 : a0 < 1
  · rw [if_pos c1, if_pos c1]
  rw [if_neg c1, if_neg c1]
  by_cases c2 : 5 < a0
  · rw [if_pos c2, if_pos c2]
  rw [if_neg c2, if_neg c2]
  by_cases c3 : a1 < 1
  · rw [if_pos c3, if_pos c3]
  rw [if_neg c3, if_neg c3]
  by_cases c4 : 5 < a1
  · rw [if_pos c4, if_pos c4]
  rw [if_neg c4, if_neg c4]
  by_cases c5 : a0 * a1 ≤ 20
  · rw [if_pos c5, if_pos c5]
    by_cases c6 : a2 = 0
    · rw [if_pos c6, if_pos c6]
    rw [if_neg c6, if_neg c6]
    by_cases c7 : a0 &&& 1 = 0
    · rw [if_pos c7, if_pos c7, bI_s, if_neg (by decide), g2_0 _ h hs]
      by_cases c8 : a1 &&& 1 = 0
      · rw [if_pos c8, if_pos c8, bI_s, if_neg (by decide)]
      · rw [if_neg c8, if_neg c8, bI_s, if_pos rfl]
    · rw [if_neg c7, if_neg c7, bI_s, if_pos rfl]
  · rw [if_neg c5, if_neg c5]
