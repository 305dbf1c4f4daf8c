/-! comes, walked -/
theorem bV_oB {h : HP} {o : Option M2} {F : M2 → Option (Bool × M2)} {k : HP → RS} (hk : ∀ r, k (wM h r) = oB h (F r)) : bV (oV h o) k = oB h (gO o F) := by
  cases o with
  | none => rfl
  | some r => exact hk r
theorem eqM1 {x W : Nat} (hx : x < 2 ^ 31) (hW : W < 2 ^ 31) (h1 : 1 ≤ W) : nI x = nI W - 1 ↔ x = W - 1 := by
  rw [show (1 : Int32) = nI 1 from rfl, pk_sub h1]
  exact nI_eq hx (by omega)
theorem mod2I {y : Nat} (hy : y < 2 ^ 31) : nI y - nI y / 2 * 2 = nI (y % 2) := by
  rw [show (2 : Int32) = nI 2 from rfl, pk_rem hy (by decide) (by decide)]
theorem nI_e0 {y : Nat} (hy : y < 2 ^ 31) : nI y = 0 ↔ y = 0 := by
  rw [show (0 : Int32) = nI 0 from rfl]; exact nI_eq hy (by decide)
theorem nI_e1 {y : Nat} (hy : y < 2 ^ 31) : nI y = 1 ↔ y = 1 := by
  rw [show (1 : Int32) = nI 1 from rfl]; exact nI_eq hy (by decide)
theorem aI_f : aI false = 0 := rfl
theorem aI_t : aI true = 1 := rfl
theorem if_iff {P Q : Prop} [Decidable P] [Decidable Q] {α : Type} {a b : α} (h : P ↔ Q) : (if P then a else b) = if Q then a else b := by
  by_cases q : P
  · rw [if_pos q, if_pos (h.mp q)]
  · rw [if_neg q, if_neg (fun u => q (h.mpr u))]
section Mw
variable {W H x y t : Nat} {ar rg dn : Bool} {h : HP}
theorem c497 (hx : x < 5) (h : HP) (hs : SH h) (w1 w2 w4 w5 w6 w7 w8 w9 w11 w12 : Value) : X (117, 497, [.ref 26, w1, w2, .int (nI x), w4, w5, w6, w7, w8, w9, .int (aI dn), w11, w12], [], h) = oB h (f497 x dn (mq h)) := by
  rw [g117_497 _ _ _ _ _ _ _ _ _ _ _ _ h hs]
  unfold f497
  cases dn with
  | false =>
    rw [if_pos aI_f, if_neg (by decide)]
    exact congrArg (fun q => some (some (Value.int 1), q)) (wM_mq h).symm
  | true =>
    rw [if_neg (by decide), if_pos rfl, s114 _ _ _ h hs]
    exact bV_oB (fun r => rfl)
theorem c462 (hk : okS W H ar = true) (hx : x < 5) (hy : y < 5) (h : HP) (hs : SH h) (hm : MD h W H ar) (w1 w2 w5 w6 w7 w8 w9 w11 w12 : Value) : X (117, 462, [.ref 26, w1, w2, .int (nI x), .int (nI y), w5, w6, w7, w8, w9, .int (aI dn), w11, w12], [], h) = oB h (f462 H x y dn (mq h)) := by
  obtain ⟨⟨w1', w2'⟩, ⟨h1', h2'⟩, -, -⟩ := okS_1 hk
  rw [g117_462 _ _ _ _ _ _ _ _ _ _ _ _ h hs, hm.2.2.1, mod2I (by omega), if_iff (eqM1 (show y < 2 ^ 31 by omega) (by omega) h1'), if_iff (nI_e1 (show x % 2 < 2 ^ 31 by omega))]
  unfold f462
  cases dn with
  | false =>
    rw [if_pos aI_f, if_neg (by simp)]
    exact c497 hx h hs _ _ _ _ _ _ _ _ _ _
  | true =>
    rw [if_neg (by decide)]
    by_cases q1 : y = H - 1
    · rw [if_pos q1]
      by_cases q2 : x % 2 = 1
      · have q3 : (true = true ∧ y = H - 1 ∧ x % 2 = 1) := ⟨rfl, q1, q2⟩
        rw [if_pos q2, if_pos q3, s113 _ _ _ _ h hs]
        exact bV_oB (fun r => rfl)
      · have q3 : ¬ (true = true ∧ y = H - 1 ∧ x % 2 = 1) := fun u => q2 u.2.2
        rw [if_neg q2, if_neg q3]
        exact c497 hx h hs _ _ _ _ _ _ _ _ _ _
    · have q3 : ¬ (true = true ∧ y = H - 1 ∧ x % 2 = 1) := fun u => q1 u.2.1
      rw [if_neg q1, if_neg q3]
      exact c497 hx h hs _ _ _ _ _ _ _ _ _ _
theorem c462' (hk : okS W H ar = true) (hx : x < 5) (hy : y < 5) (h : HP) (hs : SH h) (hm : MD h W H ar) (w1 w2 w5 w6 w7 w8 w9 w11 w12 : Value) (r : M2) : X (117, 462, [.ref 26, w1, w2, .int (nI x), .int (nI y), w5, w6, w7, w8, w9, .int (aI dn), w11, w12], [], wM h r) = oB h (f462 H x y dn r) := by
  rw [c462 hk hx hy _ (hs.wM r) (hm.wM r), mq_wM, oB_wM]
theorem c449 (hk : okS W H ar = true) (hx : x < 5) (hy : y < 5) (h : HP) (hs : SH h) (hm : MD h W H ar) (w1 w2 w6 w7 w8 w11 w12 : Value) : X (117, 449, [.ref 26, w1, w2, .int (nI x), .int (nI y), .int (nI W), w6, w7, w8, .int (aI rg), .int (aI dn), w11, w12], [], h) = oB h (f449 W H x y rg dn (mq h)) := by
  rw [g117_449 _ _ _ _ _ _ _ _ _ _ _ _ h hs]
  unfold f449
  cases rg with
  | false =>
    rw [if_pos aI_f, if_neg (by decide)]
    exact c462 hk hx hy h hs hm _ _ _ _ _ _ _ _ _
  | true =>
    rw [if_neg (by decide), if_pos rfl, s114 _ _ _ h hs]
    exact bV_oB (fun r => c462' hk hx hy h hs hm _ _ _ _ _ _ _ _ _ r)
theorem c405 (hk : okS W H ar = true) (hx : x < 5) (hy : y < 5) (h : HP) (hs : SH h) (hm : MD h W H ar) (w1 w2 w6 w8 w11 w12 : Value) : X (117, 405, [.ref 26, w1, w2, .int (nI x), .int (nI y), .int (nI W), w6, .int (nI W + 2), w8, .int (aI rg), .int (aI dn), w11, w12], [], h) = oB h (f405 W H x y rg dn (mq h)) := by
  obtain ⟨⟨w1', w2'⟩, ⟨h1', h2'⟩, -, -⟩ := okS_1 hk
  rw [g117_405 _ _ _ _ _ _ _ _ _ _ _ _ h hs, hm.2.1, mod2I (by omega), if_iff (eqM1 (show x < 2 ^ 31 by omega) (by omega) w1'), if_iff (nI_e0 (show y % 2 < 2 ^ 31 by omega))]
  unfold f405
  cases rg with
  | false =>
    rw [if_pos aI_f, if_neg (by simp)]
    exact c449 hk hx hy h hs hm _ _ _ _ _ _ _
  | true =>
    rw [if_neg (by decide)]
    by_cases q1 : x = W - 1
    · have q3 : (true = true ∧ x = W - 1) := ⟨rfl, q1⟩
      rw [if_pos q1, if_pos q3]
      by_cases q2 : y % 2 = 0
      · rw [if_pos q2, if_pos q2, s114 _ _ _ h hs]
        exact bV_oB (fun r => c462' hk hx hy h hs hm _ _ _ _ _ _ _ _ _ r)
      · rw [if_neg q2, if_neg q2, s113 _ _ _ _ h hs]
        exact bV_oB (fun r => c462' hk hx hy h hs hm _ _ _ _ _ _ _ _ _ r)
    · have q3 : ¬ (true = true ∧ x = W - 1) := fun u => q1 u.2
      rw [if_neg q1, if_neg q3]
      exact c449 hk hx hy h hs hm _ _ _ _ _ _ _
theorem oB_false (h : HP) : some (some (Value.int 0), h) = oB h (some (false, mq h)) := congrArg (fun q => some (some (Value.int 0), q)) (wM_mq h).symm
theorem c356 (hk : okS W H ar = true) (hx : x < 5) (hy : y < 5) (h : HP) (hs : SH h) (hm : MD h W H ar) (w1 w2 w6 w8 w11 w12 : Value) : X (117, 356, [.ref 26, w1, w2, .int (nI x), .int (nI y), .int (nI W), w6, .int (nI W + 2), w8, .int (aI rg), .int (aI dn), w11, w12], [], h) = oB h (f356 W H ar x y rg dn (mq h)) := by
  obtain ⟨⟨w1', w2'⟩, ⟨h1', h2'⟩, -, -⟩ := okS_1 hk
  have go := c405 (rg := rg) (dn := dn) hk hx hy h hs hm w1 w2 w6 w8 w11 w12
  rw [g117_356 _ _ _ _ _ _ _ _ _ _ _ _ h hs, hm.2.2.1, hm.2.2.2.1, mod2I (by omega), if_iff (eqM1 (show y < 2 ^ 31 by omega) (by omega) h1'), if_iff (nI_e1 (show x % 2 < 2 ^ 31 by omega)), go]
  unfold f356
  by_cases q1 : y = H - 1
  · rw [if_pos q1]
    cases ar with
    | false => rw [if_pos aI_f, if_neg (by simp)]
    | true =>
      rw [if_neg (by decide)]
      by_cases q2 : x % 2 = 1
      · have hx1 : nI x - 1 = nI (x - 1) := by rw [show (1 : Int32) = nI 1 from rfl, pk_sub (by omega)]
        rw [if_pos q2, hx1, if_pos (inB_nI (by omega) (by decide)), nI_clamp (by omega)]
        show (if hI h 32 (x - 1) = -1 then _ else _) = oB h (if y = H - 1 ∧ true = true ∧ x % 2 = 1 ∧ dn = decide (hI h 32 (x - 1) = -1) then some (false, mq h) else _)
        by_cases q4 : hI h 32 (x - 1) = -1
        · rw [if_pos q4]
          cases dn with
          | false => rw [if_pos aI_f, if_neg (by simp [q4])]
          | true => rw [if_neg (by decide), if_pos ⟨q1, rfl, q2, by simp [q4]⟩, oB_false]
        · rw [if_neg q4]
          cases dn with
          | false => rw [if_neg (by decide), if_pos ⟨q1, rfl, q2, by simp [q4]⟩, oB_false]
          | true => rw [if_pos aI_t, if_neg (by simp [q4])]
      · rw [if_neg q2, if_neg (fun u => q2 u.2.2.1)]
  · rw [if_neg q1, if_neg (fun u => q1 u.1)]
theorem c308 (hk : okS W H ar = true) (hx : x < 5) (hy : y < 5) (h : HP) (hs : SH h) (hm : MD h W H ar) (w1 w2 w6 w8 w11 w12 : Value) : X (117, 308, [.ref 26, w1, w2, .int (nI x), .int (nI y), .int (nI W), w6, .int (nI W + 2), w8, .int (aI rg), .int (aI dn), w11, w12], [], h) = oB h (f308 W H ar x y rg dn (mq h)) := by
  obtain ⟨⟨w1', w2'⟩, ⟨h1', h2'⟩, -, -⟩ := okS_1 hk
  have go := c356 (rg := rg) (dn := dn) hk hx hy h hs hm w1 w2 w6 w8 w11 w12
  have hW2 : nI W + 2 = nI (W + 2) := by rw [show (2 : Int32) = nI 2 from rfl, nI_add]
  rw [g117_308 _ _ _ _ _ _ _ _ _ _ _ _ h hs, hm.2.1, hm.2.2.2.1, mod2I (by omega), if_iff (eqM1 (show x < 2 ^ 31 by omega) (by omega) w1'), if_iff (nI_e1 (show y % 2 < 2 ^ 31 by omega)), go, hW2, if_pos (inB_nI (show W + 2 < 10 by omega) (by decide)), nI_clamp (by omega)]
  unfold f308
  show (if x = W - 1 then (if aI ar = 0 then _ else (if y % 2 = 1 then (if hI h 32 (W + 2) = -1 then _ else _) else _)) else _) = oB h (if x = W - 1 ∧ ar = true ∧ y % 2 = 1 ∧ rg = decide (hI h 32 (W + 2) = -1) then some (false, mq h) else _)
  by_cases q1 : x = W - 1
  · rw [if_pos q1]
    cases ar with
    | false => rw [if_pos aI_f, if_neg (by simp)]
    | true =>
      rw [if_neg (by decide)]
      by_cases q2 : y % 2 = 1
      · rw [if_pos q2]
        by_cases q4 : hI h 32 (W + 2) = -1
        · rw [if_pos q4]
          cases rg with
          | false => rw [if_pos aI_f, if_neg (by simp [q4])]
          | true => rw [if_neg (by decide), if_pos ⟨q1, rfl, q2, by simp [q4]⟩, oB_false]
        · rw [if_neg q4]
          cases rg with
          | false => rw [if_neg (by decide), if_pos ⟨q1, rfl, q2, by simp [q4]⟩, oB_false]
          | true => rw [if_pos aI_t, if_neg (by simp [q4])]
      · rw [if_neg q2, if_neg (fun u => q2 u.2.2.1)]
  · rw [if_neg q1, if_neg (fun u => q1 u.1)]
theorem c283 (hk : okS W H ar = true) (hx : x < 5) (hy : y < 5) (h : HP) (hs : SH h) (hm : MD h W H ar) (w1 w2 w6 w8 w11 w12 : Value) : X (117, 283, [.ref 26, w1, w2, .int (nI x), .int (nI y), .int (nI W), w6, .int (nI W + 2), w8, .int (aI rg), .int (aI dn), w11, w12], [], h) = oB h (f283 W H ar x y rg dn (mq h)) := by
  obtain ⟨⟨w1', w2'⟩, ⟨h1', h2'⟩, -, -⟩ := okS_1 hk
  have go := c308 (rg := rg) (dn := dn) hk hx hy h hs hm w1 w2 w6 w8 w11 w12
  rw [g117_283 _ _ _ _ _ _ _ _ _ _ _ _ h hs, hm.2.2.1, hm.2.2.2.1, if_iff (eqM1 (show y < 2 ^ 31 by omega) (by omega) h1'), go]
  unfold f283
  by_cases q1 : y = H - 1
  · rw [if_pos q1]
    cases dn with
    | false => rw [if_pos aI_f, if_neg (by simp)]
    | true =>
      rw [if_neg (by decide)]
      cases ar with
      | false => rw [if_pos aI_f, if_pos ⟨q1, rfl, rfl⟩, oB_false]
      | true => rw [if_neg (by decide), if_neg (by simp)]
  · rw [if_neg q1, if_neg (fun u => q1 u.1)]
theorem c215e (hk : okS W H ar = true) (hx : x < 5) (hy : y < 5) (h : HP) (hs : SH h) (hm : MD h W H ar) (w1 w2 w6 w8 w11 w12 : Value) : (if x = W - 1 then (if aI rg = 0 then X (117, 283, [.ref 26, w1, w2, .int (nI x), .int (nI y), .int (nI W), w6, .int (nI W + 2), w8, .int (aI rg), .int (aI dn), w11, w12], [], h) else (if aI ar = 0 then some (some (.int 0), h) else X (117, 283, [.ref 26, w1, w2, .int (nI x), .int (nI y), .int (nI W), w6, .int (nI W + 2), w8, .int (aI rg), .int (aI dn), w11, w12], [], h))) else X (117, 283, [.ref 26, w1, w2, .int (nI x), .int (nI y), .int (nI W), w6, .int (nI W + 2), w8, .int (aI rg), .int (aI dn), w11, w12], [], h)) = oB h (f215e W H ar x y rg dn (mq h)) := by
  rw [c283 hk hx hy h hs hm]
  unfold f215e
  by_cases q1 : x = W - 1
  · rw [if_pos q1]
    cases rg with
    | false => rw [if_pos aI_f, if_neg (by simp)]
    | true =>
      rw [if_neg (by decide)]
      cases ar with
      | false => rw [if_pos aI_f, if_pos ⟨q1, rfl, rfl⟩, oB_false]
      | true => rw [if_neg (by decide), if_neg (by simp)]
  · rw [if_neg q1, if_neg (fun u => q1 u.1)]
theorem pc_le2 : ∀ t, t < 10 → pcT t ≤ nI 2 := by decide +kernel
theorem c215 (hk : okS W H ar = true) (hx : x < 5) (hy : y < 5) (ht : t < 10) : ∀ (f k : Nat), k + f = 3 → ∀ (h : HP), SH h → MD h W H ar → ∀ (w1 w6 w8 w11 : Value), X (117, 215, [.ref 26, w1, .int (nI t), .int (nI x), .int (nI y), .int (nI W), w6, .int (nI W + 2), w8, .int (aI rg), .int (aI dn), w11, .int (nI k)], [], h) = oB h (f215 W H ar x y t rg dn f k (mq h)) ∨ f = 0 := by
  obtain ⟨⟨w1', w2'⟩, ⟨h1', h2'⟩, -, -⟩ := okS_1 hk
  intro f
  induction f with
  | zero => intro k _ h _ _ w1 w6 w8 w11; exact Or.inr rfl
  | succ f ih =>
    intro k hkf h hs hm w1 w6 w8 w11
    left
    have e : (2 * nI t) + nI k = nI (2 * t + k) := by
      rw [show (2 : Int32) = nI 2 from rfl, pk_mul, nI_add]
    rw [g117_215 _ _ _ _ _ _ _ _ _ _ _ _ h hs, if_pos (inB_nI ht (by decide)), nI_clamp (by omega), hm.2.2.2.2.1 t ht, hm.2.1, hm.2.2.2.1, if_iff (eqM1 (show x < 2 ^ 31 by omega) (by omega) w1'), c215e hk hx hy h hs hm, e, f215]
    by_cases q1 : pcT t ≤ nI k
    · rw [if_pos q1, if_pos q1]
    · have hk2 : k < 2 := by
        rcases Nat.lt_or_ge k 2 with u | u
        · exact u
        · exact absurd (Int32.le_trans (pc_le2 t ht) (nI_le u (by omega))) q1
      rw [if_neg q1, if_neg q1, if_pos (inB_nI (by omega) (by decide)), if_pos (inB_nI (by omega) (by decide)), nI_clamp (by omega), hm.2.2.2.2.2.1 _ (by omega), hm.2.2.2.2.2.2 _ (by omega), s118 _ _ _ _ _ _ h hs]
      refine bV_oB (fun r => ?_)
      rw [nI_1]
      rcases ih (k + 1) (by omega) (wM h r) (hs.wM r) (hm.wM r) w1 w6 w8 (nl w11) with q | q
      · rw [q, mq_wM, oB_wM]
      · omega
theorem c189 (hk : okS W H ar = true) (hx : x < W) (hy : y < 5) (ht : t < 10) (h : HP) (hs : SH h) (hm : MD h W H ar) (w1 w6 w12 : Value) : X (117, 189, [.ref 26, w1, .int (nI t), .int (nI x), .int (nI y), .int (nI W), w6, .int (nI W + 2), .int (aI ((sid t).testBit 0)), .int (aI ((sid t).testBit 1)), .int (aI ((sid t).testBit 2)), .int (aI ((sid t).testBit 3)), w12], [], h) = oB h (f189 W H ar x y t (mq h)) := by
  obtain ⟨⟨w1', w2'⟩, ⟨h1', h2'⟩, -, -⟩ := okS_1 hk
  rw [g117_189 _ _ _ _ _ _ _ _ _ _ _ _ h hs, s116 hs _ (show x < 10 by omega), bI_s, s116 hs _ (show W < 10 by omega), bI_s]
  unfold f189
  show (if aI ((sid t).testBit 0 == !decide (hI h 32 x = -1)) = 0 then _ else (if aI ((sid t).testBit 3 == !decide (hI h 32 W = -1)) = 0 then _ else _)) = oB h (if ((sid t).testBit 0 == !decide (hI h 32 x = -1)) = true ∧ ((sid t).testBit 3 == !decide (hI h 32 W = -1)) = true then _ else some (false, mq h))
  cases q1 : ((sid t).testBit 0 == !decide (hI h 32 x = -1)) with
  | false => rw [if_pos aI_f, if_neg (by simp), oB_false]
  | true =>
    rw [if_neg (by decide)]
    cases q2 : ((sid t).testBit 3 == !decide (hI h 32 W = -1)) with
    | false => rw [if_pos aI_f, if_neg (by simp), oB_false]
    | true =>
      rw [if_neg (by decide), if_pos ⟨rfl, rfl⟩]
      rcases c215 (rg := (sid t).testBit 1) (dn := (sid t).testBit 2) hk (show x < 5 by omega) hy ht 3 0 rfl h hs hm w1 w6 _ _ with q | q
      · exact q
      · cases q
theorem c151 (hk : okS W H ar = true) (hx : x < W) (hy : y < 5) (ht : t < 10) (h : HP) (hs : SH h) (hm : MD h W H ar) (w1 w12 : Value) : X (117, 151, [.ref 26, w1, .int (nI t), .int (nI x), .int (nI y), .int (nI W), .int (nI W + 1), .int (nI W + 2), .int (aI ((sid t).testBit 0)), .int (aI ((sid t).testBit 1)), .int (aI ((sid t).testBit 2)), .int (aI ((sid t).testBit 3)), w12], [], h) = oB h (f151 W H ar x y t (mq h)) := by
  obtain ⟨⟨w1', w2'⟩, ⟨h1', h2'⟩, -, -⟩ := okS_1 hk
  have go := fun h hs hm => c189 hk hx hy ht h hs hm w1 (.int (nI W + 1)) w12
  rw [g117_151 _ _ _ _ _ _ _ _ _ _ _ _ h hs, hm.2.2.2.1, mod2I (by omega), if_iff (nI_e0 (show x < 2 ^ 31 by omega)), if_iff (nI_e1 (show y % 2 < 2 ^ 31 by omega)), go h hs hm, nI_1, if_pos (inB_nI (show W + 1 < 10 by omega) (by decide)), nI_clamp (by omega)]
  unfold f151
  show (if aI ar = 0 then _ else (if x = 0 then (if y % 2 = 1 then (if hI h 32 (W + 1) = -1 then _ else _) else _) else _)) = oB h (if ar = true ∧ x = 0 ∧ y % 2 = 1 ∧ ¬ hI h 32 (W + 1) = -1 then _ else _)
  cases ar with
  | false => rw [if_pos aI_f, if_neg (by simp)]
  | true =>
    rw [if_neg (by decide)]
    by_cases q1 : x = 0
    · rw [if_pos q1]
      by_cases q2 : y % 2 = 1
      · rw [if_pos q2]
        by_cases q3 : hI h 32 (W + 1) = -1
        · rw [if_pos q3, if_neg (fun u => u.2.2.2 q3)]
        · rw [if_neg q3, if_pos ⟨rfl, q1, q2, q3⟩, s114 _ _ _ h hs, ← nI_1]
          exact bV_oB (fun r => by rw [go _ (hs.wM r) (hm.wM r), mq_wM, oB_wM])
      · rw [if_neg q2, if_neg (fun u => q2 u.2.2.1)]
    · rw [if_neg q1, if_neg (fun u => q1 u.2.1)]
theorem c120 (hk : okS W H ar = true) (hx : x < W) (hy : y < 5) (ht : t < 10) (h : HP) (hs : SH h) (hm : MD h W H ar) (w1 w12 : Value) : X (117, 120, [.ref 26, w1, .int (nI t), .int (nI x), .int (nI y), .int (nI W), .int (nI W + 1), .int (nI W + 2), .int (aI ((sid t).testBit 0)), .int (aI ((sid t).testBit 1)), .int (aI ((sid t).testBit 2)), .int (aI ((sid t).testBit 3)), w12], [], h) = oB h (f120 W H ar x y t (mq h)) := by
  obtain ⟨⟨w1', w2'⟩, ⟨h1', h2'⟩, -, -⟩ := okS_1 hk
  have go := fun h hs hm => c151 hk hx hy ht h hs hm w1 w12
  rw [g117_120 _ _ _ _ _ _ _ _ _ _ _ _ h hs, hm.2.2.2.1, mod2I (by omega), if_iff (nI_e0 (show x < 2 ^ 31 by omega)), if_iff (nI_e0 (show y % 2 < 2 ^ 31 by omega)), go h hs hm]
  unfold f120
  cases ar with
  | false => rw [if_pos aI_f, if_neg (by simp)]
  | true =>
    rw [if_neg (by decide)]
    by_cases q1 : x = 0
    · rw [if_pos q1]
      by_cases q2 : y % 2 = 0
      · rw [if_pos q2]
        cases q3 : (sid t).testBit 3 with
        | false => rw [if_pos aI_f, if_neg (by simp)]
        | true =>
          rw [if_neg (by decide), if_pos ⟨rfl, q1, q2, rfl⟩, s115 _ _ h hs]
          refine bV_oB (fun r => ?_)
          have := go _ (hs.wM r) (hm.wM r)
          rw [q3] at this
          rw [this, mq_wM, oB_wM]
      · rw [if_neg q2, if_neg (fun u => q2 u.2.2.1)]
    · rw [if_neg q1, if_neg (fun u => q1 u.2.1)]
theorem sI_wM (h : HP) (v : Int32) : sI h 26 10 v = wM h (hI h 32, v) := by
  unfold wM
  have e : hI (sA h 26 (upd (hI h 26) 10 v)) 32 = hI h 32 := hI_sA_ne _ _ (by decide)
  have := sA_id (sA h 26 (upd (hI h 26) 10 v)) 32
  rw [e] at this
  exact this.symm
theorem s117 (hm : MD h W H ar) (hs : SH h) {c : Nat} (hc : c < W * H) (ht : t < 10) (w3 w4 w5 w6 w7 w8 w9 w10 w11 w12 : Value) : X (117, 0, [.ref 26, .int (nI c), .int (nI t), w3, w4, w5, w6, w7, w8, w9, w10, w11, w12], [], h) = if ((hI h 27 c) >>> (nI t &&& 31)) &&& 1 = 0 then some (some (.int 0), wM h (hI h 32, 0)) else oB h (cmO W H ar c t (hI h 32)) := by
  have hk := hm.1
  obtain ⟨⟨w1', w2'⟩, ⟨h1', h2'⟩, h3', -⟩ := okS_1 hk
  have hdv : c / W < H := div_lt' hc
  have hmd : c % W < W := Nat.mod_lt _ (by omega)
  have hs1 := hs.wM (hI h 32, 0)
  have hm1 := hm.wM (hI h 32, 0)
  have hs2 := hs.wM (hI h 32, nI 0)
  have hm2 := hm.wM (hI h 32, nI 0)
  have go := c120 hk hmd (show c / W < 5 by omega) ht _ hs1 hm1 (.int (nI c)) w12
  have e1 : nI c - nI c / nI W * nI W = nI (c % W) := pk_rem (by omega) (by omega) (by omega)
  have e2 : nI c / nI W = nI (c / W) := pk_div (by omega) (by omega) (by omega)
  rw [g117_0 _ _ _ _ _ _ _ _ _ _ _ _ h hs, hm.2.1, if_neg (nI_ne0 (by omega) (by omega)), if_neg (nI_ne0 (by omega) (by omega)), if_pos (inB_nI (by omega) (by decide)), e1, e2, nI_clamp (by omega), sI_wM, hI_wM _ _ (by decide) (by decide)]
  by_cases q0 : ((hI h 27 c) >>> (nI t &&& 31)) &&& 1 = 0
  · rw [if_pos q0, if_pos q0]
  · rw [if_neg q0, if_neg q0, show (0 : Int32) = nI 0 from rfl, show (1 : Int32) = nI 1 from rfl, show (2 : Int32) = nI 2 from rfl, show (3 : Int32) = nI 3 from rfl, s110 (s := 0) hm2 hs2 ht (by decide), bI_s, s110 (s := 1) hm2 hs2 ht (by decide), bI_s, s110 (s := 2) hm2 hs2 ht (by decide), bI_s, s110 (s := 3) hm2 hs2 ht (by decide), bI_s]
    have hmod : nI (c % W) - nI (c % W) / nI 2 * nI 2 = nI (c % W % 2) := pk_rem (by omega) (by decide) (by decide)
    have go' : X (117, 120, [.ref 26, .int (nI c), .int (nI t), .int (nI (c % W)), .int (nI (c / W)), .int (nI W), .int (nI W + nI 1), .int (nI W + nI 2), .int (aI ((sid t).testBit 0)), .int (aI ((sid t).testBit 1)), .int (aI ((sid t).testBit 2)), .int (aI ((sid t).testBit 3)), w12], [], wM h (hI h 32, nI 0)) = oB h (f120 W H ar (c % W) (c / W) t (hI h 32, 0)) := by
      have := go
      rw [mq_wM, oB_wM] at this
      exact this
    rw [go', hmod, (hm.wM (hI h 32, nI 0)).2.2.2.1, if_iff (nI_eq (a := c / W) (b := 0) (by omega) (by decide)), if_iff (nI_eq (a := c % W % 2) (b := 0) (by omega) (by decide))]
    unfold cmO f0
    cases ar with
    | false => rw [if_pos (show aI false = nI 0 from rfl), if_neg (by simp)]
    | true =>
      rw [if_neg (show ¬ aI true = nI 0 by decide)]
      by_cases q1 : c / W = 0
      · rw [if_pos q1]
        by_cases q2 : c % W % 2 = 0
        · rw [if_pos q2]
          cases q3 : (sid t).testBit 0 with
          | false => rw [if_pos (show aI false = nI 0 from rfl), if_neg (by simp)]
          | true =>
            rw [if_neg (show ¬ aI true = nI 0 by decide), if_pos ⟨rfl, q1, q2, rfl⟩, s115 _ _ _ (hs.wM (hI h 32, nI 0)), mq_wM]
            cases ho : prO (hI h 32, nI 0) (nI (c % W)) (nI (c % W) + nI 1) with
            | none =>
              have ho2 : prO (hI h 32, 0) (nI (c % W)) (nI (c % W) + 1) = none := ho
              rw [ho2]; rfl
            | some r =>
              have ho2 : prO (hI h 32, 0) (nI (c % W)) (nI (c % W) + 1) = some r := ho
              rw [ho2]
              have g2 := c120 hk hmd (show c / W < 5 by omega) ht _ (hs.wM r) (hm.wM r) (.int (nI c)) w12
              rw [mq_wM, oB_wM, q3] at g2
              show X (117, 120, _, [], wM (wM h (hI h 32, nI 0)) r) = oB h (f120 W H true (c % W) (c / W) t r)
              rw [wM_wM]
              exact g2
        · rw [if_neg q2, if_neg (fun u => q2 u.2.2.1)]
      · rw [if_neg q1, if_neg (fun u => q1 u.2.1)]
end Mw
