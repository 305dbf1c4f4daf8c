/-! the component's fronts and board: what their methods answer -/
theorem sA_sA (h : HP) (o : Nat) (f g : Nat → Int32) : sA (sA h o f) o g = sA h o g := by
  unfold sA
  simp only [hK, hN, hI, hL, hR, hZ, hU]
  congr 3
  funext q
  unfold va_up
  by_cases hq : q = o
  · rw [if_pos hq, if_pos hq]
  · rw [if_neg hq, if_neg hq, if_neg hq]
theorem sA_id (h : HP) (o : Nat) : sA h o (hI h o) = h := by
  obtain ⟨a, b, c, d, e, f, g⟩ := h
  unfold sA
  simp only [hK, hN, hI, hL, hR, hZ, hU]
  congr 3
  funext q
  unfold va_up
  by_cases hq : q = o
  · rw [if_pos hq, hq]
  · rw [if_neg hq]
theorem hI_sA_same (h : HP) (o : Nat) (f : Nat → Int32) : hI (sA h o f) o = f := by rw [hI_sA, if_pos rfl]
theorem hI_sA_ne (h : HP) {o q : Nat} (f : Nat → Int32) (hq : q ≠ o) : hI (sA h o f) q = hI h q := by rw [hI_sA, if_neg hq]
theorem sI_sA (h : HP) (o k : Nat) (v : Int32) : sI h o k v = sA h o (upd (hI h o) k v) := rfl
theorem inB_lt {a c : Int32} (n : Nat) (hc : c = nI n) (hn : n < 2 ^ 31) (h0 : ¬ a < 0) (h1 : ¬ c ≤ a) : inB a n = true := by
  subst hc
  obtain ⟨j, hj, rfl⟩ := nI_of h0
  have : j < n := by
    rcases Nat.lt_or_ge j n with q | q
    · exact q
    · exact absurd (nI_le q hj) h1
  exact decide_eq_true (vp_in_nI this hn)
theorem inB_nI {c n : Nat} (h : c < n) (hn : n < 2 ^ 31) : inB (nI c) n = true := decide_eq_true (vp_in_nI h hn)
def mateI (m : Nat → Int32) (a : Int32) : Int32 := if a < 0 then -1 else if 6 ≤ a then -1 else m a.toNatClampNeg
def pairI (m : Nat → Int32) (a b : Int32) : Nat → Int32 := if a < 0 then m else if 6 ≤ a then m else if b < 0 then m else if 6 ≤ b then m else upd (upd m a.toNatClampNeg b) b.toNatClampNeg a
def empI (m : Nat → Int32) (a : Int32) : Nat → Int32 := if a < 0 then m else if 6 ≤ a then m else upd m a.toNatClampNeg (-1)
def movI (m : Nat → Int32) (a b : Int32) : Nat → Int32 := if a = -1 then empI m b else pairI m a b
def joinM (m : Nat → Int32) (a b : Int32) : Nat → Int32 := if mateI m a = b then empI (empI m a) b else pairI (empI (empI m a) b) (mateI m a) (mateI m b)
def joinK (m : Nat → Int32) (a b : Int32) : Int32 := if mateI m a = b then 1 else 0
def swapM (m : Nat → Int32) (a b : Int32) : Nat → Int32 := if mateI m a = b then m else movI (movI m (mateI m a) b) (mateI m b) a
theorem s25 (a : Int32) (h : HP) (hs : SH h) : X (25, 0, [.ref 10, .int a], [], h) = some (some (.int (mateI (hI h 11) a)), h) := by
  rw [g25_0 a h hs]
  unfold mateI
  by_cases h0 : a < 0
  · rw [if_pos h0, if_pos h0]
  · rw [if_neg h0, if_neg h0]
    by_cases h1 : 6 ≤ a
    · rw [if_pos h1, if_pos h1]
    · rw [if_neg h1, if_neg h1, if_pos (inB_lt 6 rfl (by decide) h0 h1)]
theorem s26 (a : Int32) (h : HP) (hs : SH h) : X (26, 0, [.ref 10, .int a], [], h) = some (some (.int (if mateI (hI h 11) a = -1 then 0 else 1)), h) := by
  rw [g26_0 a h hs, s25 a h hs, bI_s]
  by_cases h0 : mateI (hI h 11) a = -1
  · rw [if_pos h0, if_pos h0]
  · rw [if_neg h0, if_neg h0]
theorem s27 (a b : Int32) (h : HP) (hs : SH h) : X (27, 0, [.ref 10, .int a, .int b], [], h) = some (none, sA h 11 (pairI (hI h 11) a b)) := by
  rw [g27_0 a b h hs]
  unfold pairI
  by_cases h0 : a < 0
  · rw [if_pos h0, if_pos h0, sA_id]
  rw [if_neg h0, if_neg h0]
  by_cases h1 : 6 ≤ a
  · rw [if_pos h1, if_pos h1, sA_id]
  rw [if_neg h1, if_neg h1]
  by_cases h2 : b < 0
  · rw [if_pos h2, if_pos h2, sA_id]
  rw [if_neg h2, if_neg h2]
  by_cases h3 : 6 ≤ b
  · rw [if_pos h3, if_pos h3, sA_id]
  rw [if_neg h3, if_neg h3, if_pos (inB_lt 6 rfl (by decide) h0 h1), if_pos (inB_lt 6 rfl (by decide) h2 h3), sI_sA, sI_sA, hI_sA_same, sA_sA]
theorem s28 (a : Int32) (h : HP) (hs : SH h) : X (28, 0, [.ref 10, .int a], [], h) = some (none, sA h 11 (empI (hI h 11) a)) := by
  rw [g28_0 a h hs]
  unfold empI
  by_cases h0 : a < 0
  · rw [if_pos h0, if_pos h0, sA_id]
  rw [if_neg h0, if_neg h0]
  by_cases h1 : 6 ≤ a
  · rw [if_pos h1, if_pos h1, sA_id]
  rw [if_neg h1, if_neg h1, if_pos (inB_lt 6 rfl (by decide) h0 h1), sI_sA]
theorem s38 (a b : Int32) (h : HP) (hs : SH h) : X (38, 0, [.ref 10, .int a, .int b], [], h) = some (none, sA h 11 (movI (hI h 11) a b)) := by
  rw [g38_0 a b h hs, s28 b h hs, s27 a b h hs, bV_s, bV_s]
  unfold movI
  by_cases h0 : a = -1
  · rw [if_pos h0, if_pos h0]
  · rw [if_neg h0, if_neg h0]
theorem s36 (a b : Int32) (w3 w4 : Value) (h : HP) (hs : SH h) : X (36, 0, [.ref 10, .int a, .int b, w3, w4], [], h) = some (some (.int (joinK (hI h 11) a b)), sA h 11 (joinM (hI h 11) a b)) := by
  rw [g36_0 a b w3 w4 h hs, s25 a h hs, bI_s, s25 b h hs, bI_s, s28 a h hs, bV_s, s28 b _ (hs.sAs 11 rfl), bV_s, s27 _ _ _ ((hs.sAs 11 rfl).sAs 11 rfl), bV_s]
  simp only [hI_sA_same, sA_sA]
  unfold joinK joinM
  by_cases h0 : mateI (hI h 11) a = b
  · rw [if_pos h0, if_pos h0, if_pos h0]
  · rw [if_neg h0, if_neg h0, if_neg h0]
theorem s37 (a b : Int32) (w3 w4 : Value) (h : HP) (hs : SH h) : X (37, 0, [.ref 10, .int a, .int b, w3, w4], [], h) = some (none, sA h 11 (swapM (hI h 11) a b)) := by
  rw [g37_0 a b w3 w4 h hs, s25 a h hs, bI_s, s25 b h hs, bI_s, s38 _ _ h hs, bV_s, s38 _ _ _ (hs.sAs 11 rfl), bV_s]
  simp only [hI_sA_same, sA_sA]
  unfold swapM
  by_cases h0 : mateI (hI h 11) a = b
  · rw [if_pos h0, if_pos h0, sA_id]
  · rw [if_neg h0, if_neg h0]
def opM (w : Int32) (m : Nat → Int32) (x s : Int32) : Nat → Int32 := if s &&& 8 = 0 then (if s &&& 1 = 0 then m else pairI m x (x + 1)) else pairI (if s &&& 1 = 0 then m else pairI m x (x + 1)) w (w + 1)
theorem s34 (x s : Int32) (h : HP) (hs : SH h) : X (34, 0, [.ref 10, .int x, .int s], [], h) = some (none, sA h 11 (opM (hI h 6 0) (hI h 11) x s)) := by
  have key : ∀ (h : HP), SH h → X (34, 14, [.ref 10, .int x, .int s], [], h) = some (none, sA h 11 (if s &&& 8 = 0 then hI h 11 else pairI (hI h 11) (hI h 6 0) (hI h 6 0 + 1))) := by
    intro h hs
    rw [g34_14 _ s h hs, s27 _ _ h hs, bV_s]
    by_cases h0 : s &&& 8 = 0
    · rw [if_pos h0, if_pos h0, sA_id]
    · rw [if_neg h0, if_neg h0]
  rw [g34_0 x s h hs, s27 _ _ h hs, bV_s, key h hs, key _ (hs.sAs 11 rfl)]
  simp only [hI_sA_same, sA_sA]
  rw [hI_sA_ne h _ (by decide)]
  unfold opM
  by_cases h0 : s &&& 8 = 0
  · by_cases h1 : s &&& 1 = 0
    · simp only [if_pos h0, if_pos h1]
    · simp only [if_pos h0, if_neg h1]
  · by_cases h1 : s &&& 1 = 0
    · simp only [if_neg h0, if_pos h1]
    · simp only [if_neg h0, if_neg h1]
def clM (w : Int32) (m : Nat → Int32) (x s : Int32) : Nat → Int32 := if s &&& 4 = 0 then (if s &&& 2 = 0 then m else joinM m w (w + 1)) else joinM (if s &&& 2 = 0 then m else joinM m w (w + 1)) (x - 1) x
def clK (w : Int32) (m : Nat → Int32) (x s : Int32) : Int32 := if s &&& 4 = 0 then (if s &&& 2 = 0 then 0 else 0 + joinK m w (w + 1)) else (if s &&& 2 = 0 then 0 else 0 + joinK m w (w + 1)) + joinK (if s &&& 2 = 0 then m else joinM m w (w + 1)) (x - 1) x
theorem s35 (x s : Int32) (w3 : Value) (h : HP) (hs : SH h) : X (35, 0, [.ref 10, .int x, .int s, w3], [], h) = some (some (.int (clK (hI h 6 0) (hI h 11) x s)), sA h 11 (clM (hI h 6 0) (hI h 11) x s)) := by
  have key : ∀ (k : Int32) (h : HP), SH h → X (35, 31, [.ref 10, .int x, .int s, .int k], [], h) = some (some (.int (if s &&& 4 = 0 then k else k + joinK (hI h 11) (x - 1) x)), sA h 11 (if s &&& 4 = 0 then hI h 11 else joinM (hI h 11) (x - 1) x)) := by
    intro k h hs
    rw [g35_31 x s k h hs, s36 _ _ _ _ h hs, bI_s]
    by_cases h0 : s &&& 4 = 0
    · rw [if_pos h0, if_pos h0, if_pos h0, sA_id]
    · rw [if_neg h0, if_neg h0, if_neg h0]
  rw [g35_0 x s w3 h hs, s36 _ _ _ _ h hs, bI_s, key _ h hs, key _ _ (hs.sAs 11 rfl)]
  simp only [hI_sA_same, sA_sA]
  unfold clK clM
  by_cases h0 : s &&& 4 = 0
  · by_cases h1 : s &&& 2 = 0
    · simp only [if_pos h0, if_pos h1]
    · simp only [if_pos h0, if_neg h1]
  · by_cases h1 : s &&& 2 = 0
    · simp only [if_neg h0, if_pos h1]
    · simp only [if_neg h0, if_neg h1]
