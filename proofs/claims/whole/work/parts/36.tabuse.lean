/-! what the table says -/
theorem ckW_all {W H : Nat} {ar : Bool} (hk : okS W H ar = true) : ckW W H ar = true := by
  obtain ⟨⟨w1, w2⟩, ⟨h1, h2⟩, h3, h4⟩ := okS_1 hk
  have hW : W = 1 ∨ W = 2 ∨ W = 3 ∨ W = 4 ∨ W = 5 := by omega
  have hH : H = 1 ∨ H = 2 ∨ H = 3 ∨ H = 4 ∨ H = 5 := by omega
  rcases hW with rfl | rfl | rfl | rfl | rfl <;> rcases hH with rfl | rfl | rfl | rfl | rfl <;> cases ar
  · exact ckW_110
  · exact absurd hk (by decide)
  · exact ckW_120
  · exact absurd hk (by decide)
  · exact ckW_130
  · exact absurd hk (by decide)
  · exact ckW_140
  · exact absurd hk (by decide)
  · exact ckW_150
  · exact absurd hk (by decide)
  · exact ckW_210
  · exact absurd hk (by decide)
  · exact ckW_220
  · exact ckW_221
  · exact ckW_230
  · exact absurd hk (by decide)
  · exact ckW_240
  · exact ckW_241
  · exact ckW_250
  · exact absurd hk (by decide)
  · exact ckW_310
  · exact absurd hk (by decide)
  · exact ckW_320
  · exact absurd hk (by decide)
  · exact ckW_330
  · exact absurd hk (by decide)
  · exact ckW_340
  · exact absurd hk (by decide)
  · exact ckW_350
  · exact absurd hk (by decide)
  · exact ckW_410
  · exact absurd hk (by decide)
  · exact ckW_420
  · exact ckW_421
  · exact ckW_430
  · exact absurd hk (by decide)
  · exact ckW_440
  · exact ckW_441
  · exact ckW_450
  · exact absurd hk (by decide)
  · exact ckW_510
  · exact absurd hk (by decide)
  · exact ckW_520
  · exact absurd hk (by decide)
  · exact ckW_530
  · exact absurd hk (by decide)
  · exact ckW_540
  · exact absurd hk (by decide)
  · exact absurd hk (by decide)
  · exact absurd hk (by decide)
section Tab
variable {W H : Nat} {ar : Bool}
theorem T_0 (hk : okS W H ar = true) : inL W H ar 0 0 = true := by
  have h := ckW_all hk
  unfold ckW at h
  rw [hk] at h
  simp only [Bool.not_true, Bool.false_or, Bool.and_eq_true] at h
  exact h.1.1.1
theorem T_N (hk : okS W H ar = true) {c n : Nat} (hc : c < W * H) (hn : n < 76) (hl : inL W H ar c n = true) : ckN W H ar c n = true := by
  have h := ckW_all hk
  unfold ckW at h
  rw [hk] at h
  simp only [Bool.not_true, Bool.false_or, Bool.and_eq_true] at h
  have h2 := List.all_eq_true.mp h.2 c (List.mem_range.mpr hc)
  unfold ckC1 at h2
  have h3 := List.all_eq_true.mp h2 n (List.mem_range.mpr hn)
  rw [hl] at h3
  simpa using h3
theorem T_lt (hk : okS W H ar = true) {c n : Nat} (hc : c ≤ W * H) (hn : n < 76) (hl : inL W H ar c n = true) : n < frN W ar := by
  rcases Nat.lt_or_ge c (W * H) with q | q
  · have h := T_N hk q hn hl
    unfold ckN at h
    simp only [Bool.and_eq_true] at h
    exact Nat.le_of_ble_eq_true h.1.1
  · have : c = W * H := by omega
    subst this
    have h := ckW_all hk
    unfold ckW at h
    rw [hk] at h
    simp only [Bool.not_true, Bool.false_or, Bool.and_eq_true] at h
    have h3 := List.all_eq_true.mp h.1.2 n (List.mem_range.mpr hn)
    rw [hl] at h3
    simp only [Bool.not_true, Bool.false_or] at h3
    exact Nat.le_of_ble_eq_true h3
theorem T_12 (hk : okS W H ar = true) {c n : Nat} (hc : c < W * H) (hn : n < 76) (hl : inL W H ar c n = true) : mxB W H ar c n ≤ 12 := by
  have h := T_N hk hc hn hl
  unfold ckN at h
  simp only [Bool.and_eq_true] at h
  exact Nat.le_of_ble_eq_true h.1.2
theorem T_tr (hk : okS W H ar = true) {c n t : Nat} (hc : c < W * H) (hn : n < 76) (hl : inL W H ar c n = true) (ht : t < 10) : (match tr W H ar c n t with
  | none => !decide (xv 0 t &&& nI (setl W H ar c) = wnt W H ar c (mts n))
  | some q => decide (xv 0 t &&& nI (setl W H ar c) = wnt W H ar c (mts n)) && Nat.blt q.1 76 && inL W H ar (c + 1) q.1 && Nat.ble (q.2 + mxB W H ar (c + 1) q.1) (mxB W H ar c n) && decide (tkK W H ar c (mts n) t = nI q.2) && (List.range 6).all (fun j => decide (tkM W H ar c (mts n) t j = mts q.1 j))) = true := by
  have h := T_N hk hc hn hl
  unfold ckN at h
  simp only [Bool.and_eq_true] at h
  exact List.all_eq_true.mp h.2 t (List.mem_range.mpr ht)
theorem T_none (hk : okS W H ar = true) {c n t : Nat} (hc : c < W * H) (hn : n < 76) (hl : inL W H ar c n = true) (ht : t < 10) (h : tr W H ar c n t = none) : ¬ xv 0 t &&& nI (setl W H ar c) = wnt W H ar c (mts n) := by
  have h1 := T_tr hk hc hn hl ht
  rw [h] at h1
  simpa using h1
theorem T_some (hk : okS W H ar = true) {c n t n' k : Nat} (hc : c < W * H) (hn : n < 76) (hl : inL W H ar c n = true) (ht : t < 10) (h : tr W H ar c n t = some (n', k)) :
    xv 0 t &&& nI (setl W H ar c) = wnt W H ar c (mts n) ∧ n' < 76 ∧ inL W H ar (c + 1) n' = true ∧ k + mxB W H ar (c + 1) n' ≤ mxB W H ar c n ∧ tkK W H ar c (mts n) t = nI k ∧ ∀ j, j < 6 → tkM W H ar c (mts n) t j = mts n' j := by
  have h1 := T_tr hk hc hn hl ht
  rw [h] at h1
  simp only [Bool.and_eq_true, decide_eq_true_eq] at h1
  obtain ⟨⟨⟨⟨⟨a1, a2⟩, a3⟩, a4⟩, a5⟩, a6⟩ := h1
  refine ⟨a1, Nat.le_of_ble_eq_true a2, a3, Nat.le_of_ble_eq_true a4, a5, fun j hj => ?_⟩
  exact of_decide_eq_true (List.all_eq_true.mp a6 j (List.mem_range.mpr hj))
end Tab
/-! what lies behind the six slots stays -/
theorem upd_hi {m : Nat → Int32} {a v : Int32} {k : Nat} (h0 : ¬ a < 0) (h1 : ¬ 6 ≤ a) (hk : 6 ≤ k) : upd m a.toNatClampNeg v k = m k := by
  obtain ⟨j, hj, rfl⟩ := nI_of h0
  have hlt : j < 6 := by
    rcases Nat.lt_or_ge j 6 with q | q
    · exact q
    · exact absurd (nI_le q hj) h1
  rw [nI_clamp hj]
  unfold upd
  rw [if_neg (by omega)]
theorem pairI_hi {m : Nat → Int32} {a b : Int32} {k : Nat} (hk : 6 ≤ k) : pairI m a b k = m k := by
  unfold pairI
  split
  · rfl
  split
  · rfl
  split
  · rfl
  split
  · rfl
  rw [upd_hi (by assumption) (by assumption) hk, upd_hi (by assumption) (by assumption) hk]
theorem empI_hi {m : Nat → Int32} {a : Int32} {k : Nat} (hk : 6 ≤ k) : empI m a k = m k := by
  unfold empI
  split
  · rfl
  split
  · rfl
  rw [upd_hi (by assumption) (by assumption) hk]
theorem movI_hi {m : Nat → Int32} {a b : Int32} {k : Nat} (hk : 6 ≤ k) : movI m a b k = m k := by
  unfold movI
  split
  · exact empI_hi hk
  · exact pairI_hi hk
theorem joinM_hi {m : Nat → Int32} {a b : Int32} {k : Nat} (hk : 6 ≤ k) : joinM m a b k = m k := by
  unfold joinM
  split
  · rw [empI_hi hk, empI_hi hk]
  · rw [pairI_hi hk, empI_hi hk, empI_hi hk]
theorem swapM_hi {m : Nat → Int32} {a b : Int32} {k : Nat} (hk : 6 ≤ k) : swapM m a b k = m k := by
  unfold swapM
  split
  · rfl
  · rw [movI_hi hk, movI_hi hk]
theorem tkM_hi (W H : Nat) (ar : Bool) (c : Nat) (m : Nat → Int32) (t : Nat) {k : Nat} (hk : 6 ≤ k) : tkM W H ar c m t k = m k := by
  have h1 : tk1 W H ar c m t k = m k := by
    unfold tk1 opM
    split
    · split
      · rfl
      · exact pairI_hi hk
    · rw [pairI_hi hk]
      split
      · rfl
      · exact pairI_hi hk
  have h2 : tk2 W H ar c m t k = m k := by
    unfold tk2 t2M
    split
    · rw [swapM_hi hk, h1]
    · rw [swapM_hi hk, h1]
    · rw [swapM_hi hk, h1]
    · rw [pairI_hi hk, h1]
    · rw [joinM_hi hk, h1]
    · rw [pairI_hi hk, joinM_hi hk, h1]
    · exact h1
  unfold tkM clM
  split
  · split
    · exact h2
    · rw [joinM_hi hk, h2]
  · rw [joinM_hi hk]
    split
    · exact h2
    · rw [joinM_hi hk, h2]
theorem mts_hi (n : Nat) {k : Nat} (hk : 6 ≤ k) : mts n k = 0 := by
  unfold mts
  rw [if_neg (by omega)]
theorem T_M {W H : Nat} {ar : Bool} (hk : okS W H ar = true) {c n t n' k : Nat} (hc : c < W * H) (hn : n < 76) (hl : inL W H ar c n = true) (ht : t < 10) (h : tr W H ar c n t = some (n', k)) : tkM W H ar c (mts n) t = mts n' := by
  funext j
  rcases Nat.lt_or_ge j 6 with q | q
  · exact (T_some hk hc hn hl ht h).2.2.2.2.2 j q
  · rw [tkM_hi W H ar c _ t q, mts_hi n q, mts_hi n' q]
theorem F_num {n : Nat} (hn : n < 76) : nuGo (mts n) 6 0 0 6 = nI n ∧ pkGo (mts n) 6 0 = nI (fr n) ∧ (∀ m : Nat → Int32, (∀ k, 6 ≤ k → m k = 0) → unpM m (nI (fr n)) = mts n) ∧ fr n < 262144 := by
  have h := List.all_eq_true.mp ckF_ok n (List.mem_range.mpr hn)
  simp only [Bool.and_eq_true, decide_eq_true_eq] at h
  obtain ⟨⟨⟨⟨a1, a2⟩, a3⟩, a4⟩, a5⟩ := h
  refine ⟨a1, a2, fun m hm => ?_, Nat.le_of_ble_eq_true a5⟩
  funext k
  unfold unpM
  by_cases hk : k < 6
  · rw [if_pos hk]
    exact of_decide_eq_true (List.all_eq_true.mp a3 k (List.mem_range.mpr hk))
  · rw [if_neg hk, hm k (by omega), mts_hi n (by omega)]
theorem fr_inj {n m : Nat} (hn : n < 76) (hm : m < 76) (h : fr n = fr m) : n = m := by
  have h1 := List.all_eq_true.mp ckF_ok n (List.mem_range.mpr hn)
  have h2 := List.all_eq_true.mp ckF_ok m (List.mem_range.mpr hm)
  simp only [Bool.and_eq_true] at h1 h2
  have e1 := Nat.eq_of_beq_eq_true h1.1.2
  have e2 := Nat.eq_of_beq_eq_true h2.1.2
  rw [← e1, ← e2, h]
