/-! the reference's fronts: its mate row (32) and its count of closed loops (field 10 of 26) -/
abbrev M2 : Type := (Nat → Int32) × Int32
def mq (h : HP) : M2 := (hI h 32, hI h 26 10)
def wM (h : HP) (q : M2) : HP := sA (sA h 26 (upd (hI h 26) 10 q.2)) 32 q.1
theorem sA_comm (h : HP) {o p : Nat} (f g : Nat → Int32) (hop : o ≠ p) : sA (sA h o f) p g = sA (sA h p g) o f := by
  unfold sA
  simp only [hK, hN, hI, hL, hR, hZ, hU]
  congr 3
  funext q
  unfold va_up
  by_cases h1 : q = p
  · have h2 : q ≠ o := fun e => hop (e.symm.trans h1)
    rw [if_pos h1, if_neg h2, if_pos h1]
  · rw [if_neg h1, if_neg h1]
theorem upd_upd (f : Nat → Int32) (k : Nat) (a b : Int32) : upd (upd f k a) k b = upd f k b := by
  funext j
  unfold upd
  by_cases hj : j = k
  · rw [if_pos hj, if_pos hj]
  · rw [if_neg hj, if_neg hj, if_neg hj]
theorem upd_self (f : Nat → Int32) (k : Nat) : upd f k (f k) = f := by
  funext j
  unfold upd
  by_cases hj : j = k
  · rw [if_pos hj, hj]
  · rw [if_neg hj]
theorem mq_wM (h : HP) (q : M2) : mq (wM h q) = q := by
  unfold mq wM
  rw [hI_sA_same, hI_sA_ne _ _ (by decide), hI_sA_same]
  simp [upd]
theorem wM_wM (h : HP) (q r : M2) : wM (wM h q) r = wM h r := by
  unfold wM
  rw [hI_sA_ne _ _ (by decide : (26 : Nat) ≠ 32), hI_sA_same, upd_upd, sA_comm _ _ _ (by decide : (32 : Nat) ≠ 26), sA_sA, sA_sA]
theorem wM_mq (h : HP) : wM h (mq h) = h := by
  unfold wM mq
  rw [upd_self, sA_id, sA_id]
theorem hI_wM (h : HP) (q : M2) {o : Nat} (h1 : o ≠ 26) (h2 : o ≠ 32) : hI (wM h q) o = hI h o := by
  unfold wM
  rw [hI_sA_ne _ _ h2, hI_sA_ne _ _ h1]
theorem hI_wM26 (h : HP) (q : M2) {j : Nat} (hj : j ≠ 10) : hI (wM h q) 26 j = hI h 26 j := by
  unfold wM
  rw [hI_sA_ne _ _ (by decide), hI_sA_same]
  simp [upd, hj]
theorem hI_wM32 (h : HP) (q : M2) : hI (wM h q) 32 = q.1 := by
  unfold wM
  rw [hI_sA_same]
theorem SH.wM {h : HP} (hs : SH h) (q : M2) : SH (wM h q) := (hs.sAs 26 rfl).sAs 32 rfl
theorem wM_32 (h : HP) (m : Nat → Int32) : sA h 32 m = wM h (m, (mq h).2) := by
  unfold wM mq
  rw [upd_self, sA_id]
def oV (h : HP) (o : Option M2) : RS := match o with
  | some q => some (none, wM h q)
  | none => none
def oB (h : HP) (o : Option (Bool × M2)) : RS := match o with
  | some q => some (some (.int (aI q.1)), wM h q.2)
  | none => none
theorem oB_wM (h : HP) (q : M2) (o : Option (Bool × M2)) : oB (wM h q) o = oB h o := by
  cases o with
  | none => rfl
  | some r => exact congrArg (fun x => some (some (Value.int (aI r.1)), x)) (wM_wM h q r.2)
def prO (q : M2) (a b : Int32) : Option M2 := if inB a 10 = true then (if inB b 10 = true then some (upd (upd q.1 a.toNatClampNeg b) b.toNatClampNeg a, q.2) else none) else none
def mvO (q : M2) (a b : Int32) : Option M2 := if inB a 10 = true then (if inB b 10 = true then (if inB (q.1 a.toNatClampNeg) 10 = true then some (upd (upd (upd q.1 a.toNatClampNeg (-1)) b.toNatClampNeg (q.1 a.toNatClampNeg)) (q.1 a.toNatClampNeg).toNatClampNeg b, q.2) else none) else none) else none
def jnO (q : M2) (a b : Int32) : Option M2 := if inB a 10 = true then (if inB b 10 = true then (if q.1 a.toNatClampNeg = b then some (upd (upd q.1 a.toNatClampNeg (-1)) b.toNatClampNeg (-1), q.2 + 1) else (if inB (q.1 a.toNatClampNeg) 10 = true then (if inB (q.1 b.toNatClampNeg) 10 = true then some (upd (upd (upd (upd q.1 a.toNatClampNeg (-1)) b.toNatClampNeg (-1)) (q.1 a.toNatClampNeg).toNatClampNeg (q.1 b.toNatClampNeg)) (q.1 b.toNatClampNeg).toNatClampNeg (q.1 a.toNatClampNeg), q.2) else none) else none)) else none) else none
theorem s115 (a b : Int32) (h : HP) (hs : SH h) : X (115, 0, [.ref 26, .int a, .int b], [], h) = oV h (prO (mq h) a b) := by
  rw [g115_0 _ _ h hs]
  unfold prO
  by_cases q1 : inB a 10 = true
  · rw [if_pos q1, if_pos q1]
    by_cases q2 : inB b 10 = true
    · rw [if_pos q2, if_pos q2, sI_sA, sI_sA, hI_sA_same, sA_sA, wM_32]
      rfl
    · rw [if_neg q2, if_neg q2]; rfl
  · rw [if_neg q1, if_neg q1]; rfl
theorem s114 (a b : Int32) (w3 : Value) (h : HP) (hs : SH h) : X (114, 0, [.ref 26, .int a, .int b, w3], [], h) = oV h (mvO (mq h) a b) := by
  rw [g114_0 _ _ _ h hs]
  unfold mvO
  by_cases q1 : inB a 10 = true
  · rw [if_pos q1, if_pos q1, if_pos q1]
    by_cases q2 : inB b 10 = true
    · rw [if_pos q2, if_pos q2]
      show (if inB (hI h 32 a.toNatClampNeg) 10 = true then _ else none) = oV h (if inB (hI h 32 a.toNatClampNeg) 10 = true then _ else none)
      by_cases q3 : inB (hI h 32 a.toNatClampNeg) 10 = true
      · rw [if_pos q3, if_pos q3, sI_sA, sI_sA, sI_sA, hI_sA_same, sA_sA, hI_sA_same, sA_sA, wM_32]
        rfl
      · rw [if_neg q3, if_neg q3]; rfl
    · rw [if_neg q2, if_neg q2]; rfl
  · rw [if_neg q1, if_neg q1]; rfl
theorem s113 (a b : Int32) (w3 w4 : Value) (h : HP) (hs : SH h) : X (113, 0, [.ref 26, .int a, .int b, w3, w4], [], h) = oV h (jnO (mq h) a b) := by
  rw [g113_0 _ _ _ _ h hs]
  unfold jnO
  by_cases q1 : inB a 10 = true
  · rw [if_pos q1, if_pos q1, if_pos q1]
    by_cases q2 : inB b 10 = true
    · rw [if_pos q2, if_pos q2, if_pos q2]
      show (if hI h 32 a.toNatClampNeg = b then _ else _) = oV h (if hI h 32 a.toNatClampNeg = b then _ else _)
      by_cases q4 : hI h 32 a.toNatClampNeg = b
      · rw [if_pos q4, if_pos q4]
        simp only [sI_sA, hI_sA_same, sA_sA]
        rw [hI_sA_ne _ _ (by decide : (26 : Nat) ≠ 32), sA_comm _ _ _ (by decide : (32 : Nat) ≠ 26)]
        rfl
      · rw [if_neg q4, if_neg q4]
        show (if inB (hI h 32 a.toNatClampNeg) 10 = true then _ else none) = oV h (if inB (hI h 32 a.toNatClampNeg) 10 = true then _ else none)
        by_cases q3 : inB (hI h 32 a.toNatClampNeg) 10 = true
        · rw [if_pos q3, if_pos q3]
          show (if inB (hI h 32 b.toNatClampNeg) 10 = true then _ else none) = oV h (if inB (hI h 32 b.toNatClampNeg) 10 = true then _ else none)
          by_cases q5 : inB (hI h 32 b.toNatClampNeg) 10 = true
          · rw [if_pos q5, if_pos q5]
            simp only [sI_sA, hI_sA_same, sA_sA]
            rw [wM_32]
            rfl
          · rw [if_neg q5, if_neg q5]; rfl
        · rw [if_neg q3, if_neg q3]; rfl
    · rw [if_neg q2, if_neg q2]; rfl
  · rw [if_neg q1, if_neg q1]; rfl
theorem bV_oV (h : HP) (o : Option M2) (k : HP → RS) : bV (oV h o) k = o.elim none (fun q => k (wM h q)) := by
  cases o <;> rfl
def slO (x left a : Int32) : Int32 := if a = 0 then x else if a = 3 then left else if a = 2 then 8 else 9
def pcO (q : M2) (x left a b : Int32) : Option M2 := if 8 ≤ slO x left a then (if 8 ≤ slO x left b then prO q (slO x left a) (slO x left b) else mvO q (slO x left b) (slO x left a)) else if 8 ≤ slO x left b then mvO q (slO x left a) (slO x left b) else jnO q (slO x left a) (slO x left b)
theorem s118 (x left a b : Int32) (w5 w6 : Value) (h : HP) (hs : SH h) : X (118, 0, [.ref 26, .int x, .int left, .int a, .int b, w5, w6], [], h) = oV h (pcO (mq h) x left a b) := by
  have k90 : ∀ (w1 w2 w3 w4 : Value) (p q : Int32), X (118, 90, [.ref 26, w1, w2, w3, w4, .int p, .int q], [], h) = oV h (if 8 ≤ p then (if 8 ≤ q then prO (mq h) p q else mvO (mq h) q p) else mvO (mq h) p q) := by
    intro w1 w2 w3 w4 p q
    rw [g118_90 _ _ _ _ _ _ h hs, s115 _ _ h hs, s114 _ _ _ h hs, s114 _ _ _ h hs]
    have e : ∀ o, bV (oV h o) (fun h1 => some (none, h1)) = oV h o := by intro o; cases o <;> rfl
    rw [e, e, e]
    by_cases h1 : 8 ≤ p
    · rw [if_pos h1, if_pos h1]
      by_cases h2 : 8 ≤ q
      · rw [if_pos h2, if_pos h2]
      · rw [if_neg h2, if_neg h2]
    · rw [if_neg h1, if_neg h1]
  have e : ∀ o, bV (oV h o) (fun h1 => some (none, h1)) = oV h o := by intro o; cases o <;> rfl
  have d8 : (8 : Int32) ≤ 8 := by decide
  have d9 : (8 : Int32) ≤ 9 := by decide
  rw [g118_0 _ _ _ _ _ _ h hs]
  simp only [k90, s113 _ _ _ _ h hs, e]
  unfold pcO slO
  by_cases a0 : a = 0
  · by_cases b0 : b = 0
    · simp only [if_pos a0, if_pos b0]
      by_cases h1 : 8 ≤ x <;> simp [h1]
    · by_cases b3 : b = 3
      · simp only [if_pos a0, if_neg b0, if_pos b3]
        by_cases h1 : 8 ≤ x <;> by_cases h2 : 8 ≤ left <;> simp [h1, h2]
      · by_cases b2 : b = 2
        · simp only [if_pos a0, if_neg b0, if_neg b3, if_pos b2, if_pos d8]
          by_cases h1 : 8 ≤ x <;> simp [h1, d8]
        · simp only [if_pos a0, if_neg b0, if_neg b3, if_neg b2, if_pos d9]
          by_cases h1 : 8 ≤ x <;> simp [h1, d9]
  · by_cases a3 : a = 3
    · by_cases b0 : b = 0
      · simp only [if_neg a0, if_pos a3, if_pos b0]
        by_cases h1 : 8 ≤ x <;> by_cases h2 : 8 ≤ left <;> simp [h1, h2]
      · by_cases b3 : b = 3
        · simp only [if_neg a0, if_pos a3, if_neg b0, if_pos b3]
          by_cases h2 : 8 ≤ left <;> simp [h2]
        · by_cases b2 : b = 2
          · simp only [if_neg a0, if_pos a3, if_neg b0, if_neg b3, if_pos b2, if_pos d8]
            by_cases h2 : 8 ≤ left <;> simp [h2, d8]
          · simp only [if_neg a0, if_pos a3, if_neg b0, if_neg b3, if_neg b2, if_pos d9]
            by_cases h2 : 8 ≤ left <;> simp [h2, d9]
    · by_cases a2 : a = 2
      · by_cases b0 : b = 0
        · simp only [if_neg a0, if_neg a3, if_pos a2, if_pos b0, if_pos d8]
        · by_cases b3 : b = 3
          · simp only [if_neg a0, if_neg a3, if_pos a2, if_neg b0, if_pos b3, if_pos d8]
          · by_cases b2 : b = 2
            · simp only [if_neg a0, if_neg a3, if_pos a2, if_neg b0, if_neg b3, if_pos b2, if_pos d8]
            · simp only [if_neg a0, if_neg a3, if_pos a2, if_neg b0, if_neg b3, if_neg b2, if_pos d8, if_pos d9]
      · by_cases b0 : b = 0
        · simp only [if_neg a0, if_neg a3, if_neg a2, if_pos b0, if_pos d9]
        · by_cases b3 : b = 3
          · simp only [if_neg a0, if_neg a3, if_neg a2, if_neg b0, if_pos b3, if_pos d9]
          · by_cases b2 : b = 2
            · simp only [if_neg a0, if_neg a3, if_neg a2, if_neg b0, if_neg b3, if_pos b2, if_pos d8, if_pos d9]
            · simp only [if_neg a0, if_neg a3, if_neg a2, if_neg b0, if_neg b3, if_neg b2, if_pos d9]
