/-! fronts packed and numbered -/
def upD (a : Int32) (k : Nat) : Int32 := ((a >>> ((3 * nI k) &&& 31)) &&& 7) - 1
def unpM (m : Nat → Int32) (a : Int32) : Nat → Int32 := fun k => if k < 6 then upD a k else m k
theorem s23 (a : Int32) (w2 : Value) (h : HP) (hs : SH h) : X (23, 0, [.ref 10, .int a, w2], [], h) = some (none, sA h 11 (unpM (hI h 11) a)) := by
  have key : ∀ (n j : Nat), j + n = 6 → ∀ (h : HP), SH h → X (23, 2, [.ref 10, .int a, .int (nI j)], [], h) = some (none, sA h 11 (fun k => if j ≤ k ∧ k < 6 then upD a k else hI h 11 k)) := by
    intro n
    induction n with
    | zero =>
      intro j hj h hs
      have : j = 6 := by omega
      subst this
      rw [g23_2 _ _ h hs, if_pos (show (6 : Int32) ≤ nI 6 from by decide)]
      have e : (fun k => if 6 ≤ k ∧ k < 6 then upD a k else hI h 11 k) = hI h 11 := by
        funext k
        rw [if_neg (by omega)]
      rw [e, sA_id]
    | succ n ih =>
      intro j hj h hs
      have h6 : ¬ (6 : Int32) ≤ nI j := nI_ge (show j < 6 by omega) (by decide)
      rw [g23_2 _ _ h hs, if_neg h6, if_pos (inB_nI (by omega) (by decide)), nI_clamp (by omega), nI_1, ih (j + 1) (by omega) _ (hs.sIs 11 rfl), sI_sA, sA_sA, hI_sA_same]
      congr 3
      funext k
      by_cases hk : k = j
      · subst hk
        rw [if_neg (by omega), if_pos (by omega)]
        simp [upd, upD]
      · have : (j + 1 ≤ k ∧ k < 6) ↔ (j ≤ k ∧ k < 6) := by omega
        by_cases q : j ≤ k ∧ k < 6
        · rw [if_pos (this.mpr q), if_pos q]
        · rw [if_neg (fun u => q (this.mp u)), if_neg q]
          simp [upd, hk]
  rw [g23_0 _ _ h hs, show (0 : Int32) = nI 0 from rfl, key 6 0 (by omega) h hs]
  congr 3
  funext k
  unfold unpM
  by_cases q : k < 6
  · rw [if_pos ⟨Nat.zero_le k, q⟩, if_pos q]
  · rw [if_neg (fun u => q u.2), if_neg q]
theorem s21 (h : HP) (hs : SH h) : X (21, 0, [.ref 10], [], h) = some (none, sA h 11 (unpM (hI h 11) 0)) := by
  rw [g21_0 h hs, s23 _ _ h hs, bV_s]
def pkGo (m : Nat → Int32) : Nat → Int32 → Int32
  | 0, a => a
  | k + 1, a => pkGo m k ((a <<< (3 &&& 31)) ||| (m k + 1))
theorem s22 (w1 w2 : Value) (h : HP) (hs : SH h) : X (22, 0, [.ref 10, w1, w2], [], h) = some (some (.int (pkGo (hI h 11) 6 0)), h) := by
  have key : ∀ (j : Nat), j ≤ 6 → ∀ a, X (22, 4, [.ref 10, .int a, .int (nI j + (-1))], [], h) = some (some (.int (pkGo (hI h 11) j a)), h) := by
    intro j
    induction j with
    | zero =>
      intro _ a
      rw [g22_4 _ _ h hs, if_pos (by decide)]
      rfl
    | succ j ih =>
      intro hj a
      rw [pk_m1, g22_4 _ _ h hs, if_neg (nI_pos (by omega)), if_pos (inB_nI (by omega) (by decide)), nI_clamp (by omega), ih (by omega)]
      rfl
  rw [g22_0 _ _ h hs]
  exact key 6 (by omega) 0
def jnI (a : Int32) : Int32 := if a < 0 then 76 else if a ≤ 6 then xv 3 a.toNatClampNeg else 76
theorem s20 (a : Int32) (h : HP) (hs : SH h) : X (20, 0, [.int a], [], h) = some (some (.int (jnI a)), h) := by
  rw [g20_0 _ h hs]
  unfold jnI
  by_cases h0 : a < 0
  · rw [if_pos h0, if_pos h0]
  · rw [if_neg h0, if_neg h0]
    by_cases h1 : a ≤ 6
    · obtain ⟨j, hj, rfl⟩ := nI_of h0
      have h7 : j < 7 := by
        rcases Nat.lt_or_ge j 7 with q | q
        · exact q
        · exact absurd h1 (nI_ge q (by omega))
      rw [if_pos h1, if_pos h1, if_pos (inB_nI h7 (by decide)), hs.t 3 rfl]
    · rw [if_neg h1, if_neg h1]
def bcI (a0 : Int32) : Int32 :=
  let us (x k : Int32) : Int32 := (x.toUInt32 >>> (k.toUInt32 &&& Int32.toUInt32 31)).toInt32
  let a1 := a0 - (us a0 1 &&& 1431655765)
  let a2 := (a1 &&& 858993459) + (us a1 2 &&& 858993459)
  let a3 := (a2 + us a2 4) &&& 252645135
  let a4 := a3 + us a3 8
  let a5 := a4 + us a4 16
  a5 &&& 63
theorem s143 (a : Int32) (h : HP) (hs : SH h) : X (143, 0, [.int a], [], h) = some (some (.int (bcI a)), h) := g143_0 a h hs
def nuGo (m : Nat → Int32) : Nat → Int32 → Int32 → Int32 → Int32
  | 0, num, _, _ => num
  | k + 1, num, done, left => if (done >>> (nI k &&& 31)) &&& 1 = 1 then nuGo m k num done left else
      if mateI m (nI k) = -1 then nuGo m k num done (left + (-1)) else
        nuGo m k (num + (jnI (left + (-1)) + ((mateI m (nI k) - bcI (done &&& ((1 <<< (mateI m (nI k) &&& 31)) - 1))) * jnI ((left + (-1)) - 1)))) (done ||| (1 <<< (mateI m (nI k) &&& 31))) ((left + (-1)) + (-1))
theorem s24 (w1 w2 w3 w4 w5 w6 : Value) (h : HP) (hs : SH h) : X (24, 0, [.ref 10, w1, w2, w3, w4, w5, w6], [], h) = some (some (.int (nuGo (hI h 11) 6 0 0 6)), h) := by
  have key : ∀ (j : Nat), j ≤ 6 → ∀ (a1 a2 a3 : Int32) (v w : Value), X (24, 10, [.ref 10, .int a1, .int a2, .int a3, .int (nI j + (-1)), v, w], [], h) = some (some (.int (nuGo (hI h 11) j a1 a2 a3)), h) := by
    intro j
    induction j with
    | zero =>
      intro _ a1 a2 a3 v w
      rw [g24_10 _ _ _ _ _ _ h hs, if_pos (by decide)]
      rfl
    | succ j ih =>
      intro hj a1 a2 a3 v w
      rw [pk_m1, g24_10 _ _ _ _ _ _ h hs, if_neg (nI_pos (by omega)), s25 _ h hs, bI_s, s143 _ h hs, bI_s, s20 _ h hs, bI_s, s20 _ h hs, bI_s, g24_88 _ _ _ _ _ _ h hs, g24_88 _ _ _ _ _ _ h hs, g24_88 _ _ _ _ _ _ h hs, ih (by omega), ih (by omega), ih (by omega), nuGo]
      by_cases q : (a2 >>> (nI j &&& 31)) &&& 1 = 1
      · rw [if_pos q, if_pos q]
      · rw [if_neg q, if_neg q]
        by_cases u : mateI (hI h 11) (nI j) = -1
        · rw [if_pos u, if_pos u]
        · rw [if_neg u, if_neg u]
  rw [g24_0 _ _ _ _ _ _ h hs]
  exact key 6 (by omega) 0 0 6 _ _
