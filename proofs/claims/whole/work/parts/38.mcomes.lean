/-! the reference's comes: a tile at a cell -/
def pcT (t : Nat) : Int32 := [0, 1, 1, 1, 1, 1, 1, 2, 2, 2].getD t 0
def saT (k : Nat) : Int32 := [-1, -1, 0, -1, 3, -1, 0, -1, 1, -1, 2, -1, 3, -1, 0, 2, 0, 2, 0, 3].getD k 0
def sbT (k : Nat) : Int32 := [-1, -1, 2, -1, 1, -1, 1, -1, 2, -1, 3, -1, 0, -1, 3, 1, 1, 3, 2, 1].getD k 0
/-- the reference's size and its tables -/
def MD (h : HP) (W H : Nat) (ar : Bool) : Prop := okS W H ar = true ∧ hI h 26 0 = nI W ∧ hI h 26 1 = nI H ∧ hI h 26 2 = aI ar ∧ (∀ t, t < 10 → hI h 29 t = pcT t) ∧ (∀ k, k < 20 → hI h 30 k = saT k) ∧ ∀ k, k < 20 → hI h 31 k = sbT k
theorem MD.wM {h : HP} {W H : Nat} {ar : Bool} (hm : MD h W H ar) (q : M2) : MD (wM h q) W H ar := by
  obtain ⟨m0, m1, m2, m3, m4, m5, m6⟩ := hm
  exact ⟨m0, by rw [hI_wM26 _ _ (by decide)]; exact m1, by rw [hI_wM26 _ _ (by decide)]; exact m2, by rw [hI_wM26 _ _ (by decide)]; exact m3, fun t ht => by rw [hI_wM _ _ (by decide) (by decide)]; exact m4 t ht, fun k hk => by rw [hI_wM _ _ (by decide) (by decide)]; exact m5 k hk, fun k hk => by rw [hI_wM _ _ (by decide) (by decide)]; exact m6 k hk⟩
def hsGo (t s : Nat) : Nat → Nat → Option Bool
  | 0, _ => none
  | f + 1, k => if pcT t ≤ nI k then some false else if saT (2 * t + k) = nI s then some true else if sbT (2 * t + k) = nI s then some true else hsGo t s f (k + 1)
theorem hs_ok : ∀ t, t < 10 → ∀ s, s < 4 → hsGo t s 3 0 = some ((sid t).testBit s) := by decide +kernel
section Mc
variable {W H : Nat} {ar : Bool} {h : HP}
theorem s110 (hm : MD h W H ar) (hs : SH h) {t s : Nat} (ht : t < 10) (h4 : s < 4) (w3 : Value) : X (110, 0, [.ref 26, .int (nI t), .int (nI s), w3], [], h) = some (some (.int (aI ((sid t).testBit s))), h) := by
  have key : ∀ (f k : Nat) (b : Bool), k + f ≤ 3 → hsGo t s f k = some b → X (110, 2, [.ref 26, .int (nI t), .int (nI s), .int (nI k)], [], h) = some (some (.int (aI b)), h) := by
    intro f
    induction f with
    | zero => intro k b _ h; cases h
    | succ f ih =>
      intro k b hk hg
      have e : (2 * nI t) + nI k = nI (2 * t + k) := by
        rw [show (2 : Int32) = nI 2 from rfl, pk_mul, nI_add]
      rw [hsGo] at hg
      rw [g110_2 _ _ _ h hs, if_pos (inB_nI ht (by decide)), nI_clamp (by omega), hm.2.2.2.2.1 t ht, e]
      by_cases q1 : pcT t ≤ nI k
      · rw [if_pos q1] at hg ⊢
        cases hg; rfl
      · have hk2 : k < 2 := by
          rcases Nat.lt_or_ge k 2 with u | u
          · exact u
          · exfalso
            apply q1
            have : ∀ t, t < 10 → pcT t ≤ nI 2 := by decide +kernel
            exact Int32.le_trans (this t ht) (nI_le u (by omega))
        rw [if_neg q1] at hg ⊢
        rw [if_pos (inB_nI (by omega) (by decide)), nI_clamp (by omega), hm.2.2.2.2.2.1 _ (by omega)]
        by_cases q2 : saT (2 * t + k) = nI s
        · rw [if_pos q2] at hg ⊢
          cases hg; rfl
        · rw [if_neg q2] at hg ⊢
          rw [if_pos (inB_nI (by omega) (by decide)), hm.2.2.2.2.2.2 _ (by omega)]
          by_cases q3 : sbT (2 * t + k) = nI s
          · rw [if_pos q3] at hg ⊢
            cases hg; rfl
          · rw [if_neg q3] at hg ⊢
            rw [nI_1]
            exact ih (k + 1) b (by omega) hg
  rw [g110_0 _ _ _ h hs]
  exact key 3 0 _ (by omega) (hs_ok t ht s h4)
/-- agrees -/
theorem s116 (hs : SH h) (b : Bool) {e : Nat} (he : e < 10) : X (116, 0, [.ref 26, .int (aI b), .int (nI e)], [], h) = some (some (.int (aI (b == !decide (hI h 32 e = -1)))), h) := by
  rw [g116_0 _ _ h hs, if_pos (inB_nI he (by decide)), nI_clamp (by omega)]
  by_cases q : hI h 32 e = -1
  · rw [if_pos q]
    cases b <;> simp [q, aI]
  · rw [if_neg q]
    cases b <;> simp [q, aI]
end Mc
def gO {α : Type} (o : Option M2) (k : M2 → Option α) : Option α := o.bind k
/-- down at last -/
def f497 (x : Nat) (dn : Bool) (q : M2) : Option (Bool × M2) := if dn = true then gO (mvO q 8 (nI x)) (fun r => some (true, r)) else some (true, q)
def f462 (H x y : Nat) (dn : Bool) (q : M2) : Option (Bool × M2) := if dn = true ∧ y = H - 1 ∧ x % 2 = 1 then gO (jnO q 8 (nI x - 1)) (fun r => some (true, r)) else f497 x dn q
def f449 (W H x y : Nat) (rg dn : Bool) (q : M2) : Option (Bool × M2) := if rg = true then gO (mvO q 9 (nI W)) (f462 H x y dn) else f462 H x y dn q
def f405 (W H x y : Nat) (rg dn : Bool) (q : M2) : Option (Bool × M2) := if rg = true ∧ x = W - 1 then (if y % 2 = 0 then gO (mvO q 9 (nI W + 2)) (f462 H x y dn) else gO (jnO q 9 (nI W + 2)) (f462 H x y dn)) else f449 W H x y rg dn q
def f356 (W H : Nat) (ar : Bool) (x y : Nat) (rg dn : Bool) (q : M2) : Option (Bool × M2) := if y = H - 1 ∧ ar = true ∧ x % 2 = 1 ∧ dn = decide (q.1 (x - 1) = -1) then some (false, q) else f405 W H x y rg dn q
def f308 (W H : Nat) (ar : Bool) (x y : Nat) (rg dn : Bool) (q : M2) : Option (Bool × M2) := if x = W - 1 ∧ ar = true ∧ y % 2 = 1 ∧ rg = decide (q.1 (W + 2) = -1) then some (false, q) else f356 W H ar x y rg dn q
def f283 (W H : Nat) (ar : Bool) (x y : Nat) (rg dn : Bool) (q : M2) : Option (Bool × M2) := if y = H - 1 ∧ dn = true ∧ ar = false then some (false, q) else f308 W H ar x y rg dn q
def f215e (W H : Nat) (ar : Bool) (x y : Nat) (rg dn : Bool) (q : M2) : Option (Bool × M2) := if x = W - 1 ∧ rg = true ∧ ar = false then some (false, q) else f283 W H ar x y rg dn q
def f215 (W H : Nat) (ar : Bool) (x y t : Nat) (rg dn : Bool) : Nat → Nat → M2 → Option (Bool × M2)
  | 0, _, _ => none
  | f + 1, k, q => if pcT t ≤ nI k then f215e W H ar x y rg dn q else gO (pcO q (nI x) (nI W) (saT (2 * t + k)) (sbT (2 * t + k))) (f215 W H ar x y t rg dn f (k + 1))
def f189 (W H : Nat) (ar : Bool) (x y t : Nat) (q : M2) : Option (Bool × M2) := if ((sid t).testBit 0 == !decide (q.1 x = -1)) = true ∧ ((sid t).testBit 3 == !decide (q.1 W = -1)) = true then f215 W H ar x y t ((sid t).testBit 1) ((sid t).testBit 2) 3 0 q else some (false, q)
def f151 (W H : Nat) (ar : Bool) (x y t : Nat) (q : M2) : Option (Bool × M2) := if ar = true ∧ x = 0 ∧ y % 2 = 1 ∧ ¬ q.1 (W + 1) = -1 then gO (mvO q (nI W + 1) (nI W)) (f189 W H ar x y t) else f189 W H ar x y t q
def f120 (W H : Nat) (ar : Bool) (x y t : Nat) (q : M2) : Option (Bool × M2) := if ar = true ∧ x = 0 ∧ y % 2 = 0 ∧ (sid t).testBit 3 = true then gO (prO q (nI W) (nI W + 1)) (f151 W H ar x y t) else f151 W H ar x y t q
def f0 (W H : Nat) (ar : Bool) (x y t : Nat) (q : M2) : Option (Bool × M2) := if ar = true ∧ y = 0 ∧ x % 2 = 0 ∧ (sid t).testBit 0 = true then gO (prO q (nI x) (nI x + 1)) (f120 W H ar x y t) else f120 W H ar x y t q
def cmO (W H : Nat) (ar : Bool) (c t : Nat) (m : Nat → Int32) : Option (Bool × M2) := f0 W H ar (c % W) (c / W) t (m, 0)
