/-! the board -/
def okS (W H : Nat) (ar : Bool) : Bool := Nat.ble 1 W && Nat.ble W 5 && Nat.ble 1 H && Nat.ble H 5 && Nat.ble (W * H) 20 && (!ar || (Nat.beq (W % 2) 0 && Nat.beq (H % 2) 0))
theorem okS_1 {W H : Nat} {ar : Bool} (h : okS W H ar = true) : (1 ≤ W ∧ W ≤ 5) ∧ (1 ≤ H ∧ H ≤ 5) ∧ W * H ≤ 20 ∧ (ar = true → W % 2 = 0 ∧ H % 2 = 0) := by
  unfold okS at h
  simp only [Bool.and_eq_true, Bool.or_eq_true, Bool.not_eq_true'] at h
  obtain ⟨⟨⟨⟨⟨h1, h2⟩, h3⟩, h4⟩, h5⟩, h6⟩ := h
  refine ⟨⟨Nat.le_of_ble_eq_true h1, Nat.le_of_ble_eq_true h2⟩, ⟨Nat.le_of_ble_eq_true h3, Nat.le_of_ble_eq_true h4⟩, Nat.le_of_ble_eq_true h5, fun ha => ?_⟩
  rcases h6 with q | q
  · rw [ha] at q; cases q
  · exact ⟨Nat.eq_of_beq_eq_true q.1, Nat.eq_of_beq_eq_true q.2⟩
def edg (W H c : Nat) : Nat := (if c / W = 0 then 1 else 0) + (if c % W = W - 1 then 2 else 0) + (if c / W = H - 1 then 4 else 0) + (if c % W = 0 then 8 else 0)
def f2o (x y : Nat) : Nat := (if x % 2 = 0 then 5 else 0) + (if y % 2 = 0 then 10 else 0)
def fsd (W H : Nat) (ar : Bool) (c : Nat) : Nat := if ar = true then edg W H c &&& f2o (c % W) (c / W) else 0
def snd' (W H : Nat) (ar : Bool) (c : Nat) : Nat := if ar = true then edg W H c &&& (15 - fsd W H ar c) else 0
def aI (ar : Bool) : Int32 := if ar = true then 1 else 0
theorem edg_lt (W H c : Nat) : edg W H c < 16 := by
  unfold edg
  split <;> split <;> split <;> split <;> decide
theorem f2o_lt (x y : Nat) : f2o x y < 16 := by
  unfold f2o
  split <;> split <;> decide
theorem and_lt16 : ∀ a, a < 16 → ∀ b, b < 16 → a &&& b < 16 := by decide
theorem fsd_lt (W H : Nat) (ar : Bool) (c : Nat) : fsd W H ar c < 16 := by
  unfold fsd
  split
  · exact and_lt16 _ (edg_lt W H c) _ (f2o_lt _ _)
  · decide
theorem snd_lt (W H : Nat) (ar : Bool) (c : Nat) : snd' W H ar c < 16 := by
  unfold snd'
  split
  · exact and_lt16 _ (edg_lt W H c) _ (by omega)
  · decide
theorem nI_and16 : ∀ a, a < 16 → ∀ b, b < 16 → nI a &&& nI b = nI (a &&& b) := by decide +kernel
theorem nI_not16 : ∀ a, a < 16 → ∀ b, b < 16 → nI a &&& (nI b ^^^ (-1)) = nI (a &&& (15 - b)) := by decide +kernel
theorem nI_set16 : ∀ a, a < 16 → ∀ b, b < 16 → (9 ||| nI a) &&& (nI b ^^^ (-1)) = nI ((9 ||| a) &&& (15 - b)) := by decide +kernel
/-- at most the int rows S and the long rows T are other ones -/
def Fr (S T : List Nat) (h h' : HP) : Prop := hK h' = hK h ∧ hN h' = hN h ∧ hR h' = hR h ∧ hZ h' = hZ h ∧ hU h' = hU h ∧ (∀ q, q ∉ S → hI h' q = hI h q) ∧ ∀ q, q ∉ T → hL h' q = hL h q
theorem Fr.rf {S T : List Nat} {h : HP} : Fr S T h h := ⟨rfl, rfl, rfl, rfl, rfl, fun _ _ => rfl, fun _ _ => rfl⟩
theorem Fr.tr {S T : List Nat} {h1 h2 h3 : HP} (a : Fr S T h1 h2) (b : Fr S T h2 h3) : Fr S T h1 h3 := by
  obtain ⟨a1, a2, a3, a4, a5, a6, a7⟩ := a
  obtain ⟨b1, b2, b3, b4, b5, b6, b7⟩ := b
  exact ⟨b1.trans a1, b2.trans a2, b3.trans a3, b4.trans a4, b5.trans a5, fun q hq => (b6 q hq).trans (a6 q hq), fun q hq => (b7 q hq).trans (a7 q hq)⟩
theorem Fr.mono {S T S' T' : List Nat} {h1 h2 : HP} (a : Fr S T h1 h2) (hS : ∀ q ∈ S, q ∈ S') (hT : ∀ q ∈ T, q ∈ T') : Fr S' T' h1 h2 := by
  obtain ⟨a1, a2, a3, a4, a5, a6, a7⟩ := a
  exact ⟨a1, a2, a3, a4, a5, fun q hq => a6 q (fun u => hq (hS q u)), fun q hq => a7 q (fun u => hq (hT q u))⟩
theorem Fr.sA {S T : List Nat} {h : HP} {o : Nat} {f : Nat → Int32} (ho : o ∈ S) : Fr S T h (sA h o f) := ⟨rfl, rfl, rfl, rfl, rfl, fun q hq => by
  have hne : q ≠ o := fun e => hq (by rw [e]; exact ho)
  rw [hI_sA, if_neg hne], fun _ _ => rfl⟩
theorem Fr.sI {S T : List Nat} {h : HP} {o k : Nat} {v : Int32} (ho : o ∈ S) : Fr S T h (sI h o k v) := Fr.sA ho
theorem Fr.sB {S T : List Nat} {h : HP} {o : Nat} {f : Nat → Int64} (ho : o ∈ T) : Fr S T h (sB h o f) := ⟨rfl, rfl, rfl, rfl, rfl, fun _ _ => rfl, fun q hq => by
  have hne : q ≠ o := fun e => hq (by rw [e]; exact ho)
  rw [hL_sB, if_neg hne]⟩
theorem Fr.sL {S T : List Nat} {h : HP} {o k : Nat} {v : Int64} (ho : o ∈ T) : Fr S T h (sL h o k v) := Fr.sB ho
theorem Fr.sh {S T : List Nat} {h h' : HP} (a : Fr S T h h') (hs : SH h) (hS : ∀ i, i < 4 → i ∉ S) : SH h' := by
  obtain ⟨a1, a2, a3, a4, a5, a6, a7⟩ := a
  obtain ⟨s0, s1, s2, s3, s4⟩ := hs
  exact ⟨by rw [a4]; exact s0, by rw [a1]; exact s1, by rw [a2]; exact s2, by rw [a3]; exact s3, fun i hi => by rw [a6 i (hS i hi)]; exact s4 i hi⟩
def BD (h : HP) (W H : Nat) (ar : Bool) : Prop := okS W H ar = true ∧ hI h 6 0 = nI W ∧ hI h 6 1 = nI H ∧ hI h 6 2 = aI ar ∧ ∀ c, c < 20 → hI h 8 c = nI (edg W H c) ∧ hI h 9 c = nI (fsd W H ar c)
theorem BD.fr {S T : List Nat} {h h' : HP} {W H : Nat} {ar : Bool} (hb : BD h W H ar) (a : Fr S T h h') (h6 : 6 ∉ S) (h8 : 8 ∉ S) (h9 : 9 ∉ S) : BD h' W H ar := by
  obtain ⟨b0, b1, b2, b3, b4⟩ := hb
  have e6 := a.2.2.2.2.2.1 6 h6
  have e8 := a.2.2.2.2.2.1 8 h8
  have e9 := a.2.2.2.2.2.1 9 h9
  exact ⟨b0, by rw [e6]; exact b1, by rw [e6]; exact b2, by rw [e6]; exact b3, fun c hc => by rw [e8, e9]; exact b4 c hc⟩
theorem aI_0 (ar : Bool) : aI ar = 0 ↔ ar = false := by cases ar <;> decide
theorem div_lt' {c W H : Nat} (hc : c < W * H) : c / W < H := by
  rcases Nat.eq_zero_or_pos W with h | h
  · subst h; simp at hc
  · exact (Nat.div_lt_iff_lt_mul h).mpr (by rw [Nat.mul_comm]; exact hc)
section Bo
variable {W H : Nat} {ar : Bool} {h : HP}
theorem s2 (n : Nat) (hn : n < 2 ^ 31) (h : HP) (hs : SH h) : X (2, 0, [.int (nI n)], [], h) = some (some (.int (if n % 2 = 0 then 1 else 0)), h) := by
  rw [g2_0 _ h hs]
  have e : nI n &&& 1 = nI (n % 2) := by
    have := pk_andN (n := n) (by omega) (m := 1) 1 (by decide)
    simpa using this
  rw [e]
  rcases Nat.mod_two_eq_zero_or_one n with q | q
  · rw [q]; rfl
  · rw [q]; rfl
theorem s6 (hb : BD h W H ar) (hs : SH h) : X (6, 0, [.ref 6], [], h) = some (some (.int (nI (W * H))), h) := by
  rw [g6_0 h hs, hb.2.1, hb.2.2.1, pk_mul]
theorem s12 (hb : BD h W H ar) (hs : SH h) {c : Nat} (hc : c < 2 ^ 31) : X (12, 0, [.ref 6, .int (nI c)], [], h) = some (some (.int (nI (c % W))), h) := by
  have hk := okS_1 hb.1
  rw [g12_0 _ h hs, hb.2.1, if_neg (nI_nle (by omega) (by omega)), if_neg (nI_ne0 (by omega) (by omega)), pk_rem hc (by omega) (by omega)]
theorem s13 (hb : BD h W H ar) (hs : SH h) {c : Nat} (hc : c < 2 ^ 31) : X (13, 0, [.ref 6, .int (nI c)], [], h) = some (some (.int (nI (c / W))), h) := by
  have hk := okS_1 hb.1
  rw [g13_0 _ h hs, hb.2.1, if_neg (nI_nle (by omega) (by omega)), if_neg (nI_ne0 (by omega) (by omega)), pk_div hc (by omega) (by omega)]
theorem s7 (hb : BD h W H ar) (hs : SH h) (a : Int32) : X (7, 0, [.ref 6, .int a], [], h) = some (some (.int (if inB a (W * H) = true then 1 else 0)), h) := by
  have hk := okS_1 hb.1
  rw [g7_0 _ h hs, hb.2.1, hb.2.2.1, pk_mul]
  by_cases h0 : a < 0
  · rw [if_pos h0, if_neg]
    intro q
    exact (of_decide_eq_true q) (Or.inl h0)
  · rw [if_neg h0]
    by_cases h1 : nI (W * H) ≤ a
    · rw [if_pos h1, if_neg]
      intro q
      obtain ⟨j, hj, rfl⟩ := nI_of h0
      have := of_decide_eq_true q
      refine this (Or.inr ?_)
      rw [nI_clamp hj]
      rcases Nat.lt_or_ge j (W * H) with u | u
      · exact absurd h1 (nI_ge u (by omega))
      · exact u
    · have e1 := inB_lt (W * H) rfl (by omega) h0 h1
      rw [if_neg h1, if_pos e1, if_neg]
      intro q
      apply h1
      obtain ⟨j, hj, rfl⟩ := nI_of h0
      have e2 : (20 : Int32) = nI 20 := rfl
      rw [e2] at q
      have : 20 ≤ j := by
        rcases Nat.lt_or_ge j 20 with u | u
        · exact absurd q (nI_ge u (by omega))
        · exact u
      exact nI_le (by omega) hj
theorem s7c (hb : BD h W H ar) (hs : SH h) {c : Nat} (hc : c < W * H) : X (7, 0, [.ref 6, .int (nI c)], [], h) = some (some (.int 1), h) := by
  have hk := okS_1 hb.1
  rw [s7 hb hs, if_pos (inB_nI hc (by omega))]
theorem s8 (hb : BD h W H ar) (hs : SH h) {c : Nat} (hc : c < W * H) : X (8, 0, [.ref 6, .int (nI c)], [], h) = some (some (.int (nI (edg W H c))), h) := by
  have hk := okS_1 hb.1
  rw [g8_0 _ h hs, s7c hb hs hc, bI_s, if_neg (by decide), if_pos (inB_nI (by omega) (by decide)), nI_clamp (by omega), (hb.2.2.2.2 c (by omega)).1]
theorem s9 (hb : BD h W H ar) (hs : SH h) {c : Nat} (hc : c < W * H) : X (9, 0, [.ref 6, .int (nI c)], [], h) = some (some (.int (nI (fsd W H ar c))), h) := by
  have hk := okS_1 hb.1
  rw [g9_0 _ h hs, s7c hb hs hc, bI_s, if_neg (by decide), if_pos (inB_nI (by omega) (by decide)), nI_clamp (by omega), (hb.2.2.2.2 c (by omega)).2]
theorem s10 (hb : BD h W H ar) (hs : SH h) {c : Nat} (hc : c < W * H) : X (10, 0, [.ref 6, .int (nI c)], [], h) = some (some (.int (nI (snd' W H ar c))), h) := by
  have hk := okS_1 hb.1
  rw [g10_0 _ h hs, hb.2.2.2.1, s7c hb hs hc, bI_s]
  unfold snd'
  cases ar with
  | false => rw [if_pos (by decide), if_neg (by decide)]; rfl
  | true => rw [if_neg (by decide), if_neg (by decide), if_pos (inB_nI (by omega) (by decide)), if_pos (inB_nI (by omega) (by decide)), nI_clamp (by omega), (hb.2.2.2.2 c (by omega)).1, (hb.2.2.2.2 c (by omega)).2, nI_not16 _ (edg_lt W H c) _ (fsd_lt W H true c), if_pos rfl]
/-- where a place lies: none, or a cell -/
def cAt (W H : Nat) (x y : Int32) : Option Nat := if inB x W = true ∧ inB y H = true then some (x.toNatClampNeg + W * y.toNatClampNeg) else none
def oI (o : Option Nat) : Int32 := match o with
  | none => -1
  | some c => nI c
theorem inB_cases (x : Int32) (n : Nat) (hn : n < 2 ^ 31) : (inB x n = true ∧ ∃ j, j < n ∧ x = nI j) ∨ (inB x n ≠ true ∧ (x < 0 ∨ (¬ x < 0 ∧ nI n ≤ x))) := by
  by_cases h : inB x n = true
  · left
    obtain ⟨j, hj, e⟩ := vp_in_of (inB_in h) hn
    exact ⟨h, j, hj, e⟩
  · right
    refine ⟨h, ?_⟩
    by_cases h0 : x < 0
    · exact Or.inl h0
    · right
      refine ⟨h0, ?_⟩
      by_cases h1 : nI n ≤ x
      · exact h1
      · exact absurd (inB_lt n rfl hn h0 h1) h
theorem s11 (hb : BD h W H ar) (hs : SH h) (x y : Int32) : X (11, 0, [.ref 6, .int x, .int y], [], h) = some (some (.int (oI (cAt W H x y))), h) := by
  have hk := okS_1 hb.1
  rw [g11_0 _ _ h hs, hb.2.1, hb.2.2.1]
  unfold cAt
  rcases inB_cases x W (by omega) with ⟨hx, j, hj, rfl⟩ | ⟨hx, q⟩
  · rw [if_neg (nI_pos (by omega)), if_neg (nI_ge hj (by omega))]
    rcases inB_cases y H (by omega) with ⟨hy, i, hi, rfl⟩ | ⟨hy, q⟩
    · rw [if_neg (nI_pos (by omega)), if_pos (nI_lt hi (by omega)), if_pos ⟨hx, hy⟩, nI_clamp (by omega), nI_clamp (by omega), pk_mul, nI_add]
      rfl
    · have hno : ¬ (inB (nI j) W = true ∧ inB y H = true) := fun u => hy u.2
      rw [if_neg hno]
      rcases q with q | ⟨q1, q2⟩
      · rw [if_pos q]; rfl
      · have q3 : ¬ y < nI H := Int32.not_lt.mpr q2
        rw [if_neg q1, if_neg q3]; rfl
  · have hno : ¬ (inB x W = true ∧ inB y H = true) := fun u => hx u.1
    rw [if_neg hno]
    rcases q with q | ⟨q1, q2⟩
    · rw [if_pos q]; rfl
    · rw [if_neg q1, if_pos q2]; rfl
theorem cAt_lt {x y : Int32} {c : Nat} (hW : W < 2 ^ 31) (hH : H < 2 ^ 31) (h : cAt W H x y = some c) : c < W * H := by
  unfold cAt at h
  split at h
  next q =>
    cases h
    obtain ⟨j, hj, rfl⟩ := vp_in_of (inB_in q.1) hW
    obtain ⟨i, hi, rfl⟩ := vp_in_of (inB_in q.2) hH
    rw [nI_clamp (by omega), nI_clamp (by omega)]
    calc j + W * i < W + W * i := by omega
      _ = W * (i + 1) := by rw [Nat.mul_add, Nat.mul_one, Nat.add_comm]
      _ ≤ W * H := Nat.mul_le_mul_left W hi
  next => cases h
end Bo
