/-! a tile that is taken into a front -/
def lnI (W : Nat) (ar : Bool) (r : Nat) : Int32 := if ar = true ∧ r % 2 = 1 then nI W + 1 else nI W
def setl (W H : Nat) (ar : Bool) (c : Nat) : Nat := (9 ||| edg W H c) &&& (15 - fsd W H ar c)
def wn1 (m : Nat → Int32) (x : Int32) : Int32 := if mateI m x = -1 then 0 else 0 ||| 1
def wn2 (m : Nat → Int32) (x ln : Int32) : Int32 := if mateI m ln = -1 then wn1 m x else wn1 m x ||| 8
def wn3 (m : Nat → Int32) (w x ln s : Int32) : Int32 := if s &&& 2 = 0 then wn2 m x ln else if mateI m w = -1 then wn2 m x ln else wn2 m x ln ||| 2
def wn4 (m : Nat → Int32) (w x ln s : Int32) : Int32 := if s &&& 4 = 0 then wn3 m w x ln s else if mateI m (x - 1) = -1 then wn3 m w x ln s else wn3 m w x ln s ||| 4
def wnt (W H : Nat) (ar : Bool) (c : Nat) (m : Nat → Int32) : Int32 := wn4 m (nI W) (nI (c % W)) (lnI W ar (c / W)) (nI (snd' W H ar c))
def t2M (t : Nat) (m : Nat → Int32) (x ln : Int32) : Nat → Int32 := match t with
  | 3 => swapM m x ln
  | 5 => swapM m x ln
  | 8 => swapM m x ln
  | 4 => pairI m x ln
  | 6 => joinM m x ln
  | 7 => pairI (joinM m x ln) x ln
  | _ => m
def t2K (t : Nat) (m : Nat → Int32) (x ln : Int32) : Int32 := match t with
  | 6 => joinK m x ln
  | 7 => joinK m x ln
  | _ => 0
def tk1 (W H : Nat) (ar : Bool) (c : Nat) (m : Nat → Int32) (t : Nat) : Nat → Int32 := opM (nI W) m (nI (c % W)) (xv 0 t &&& nI (fsd W H ar c))
def tk2 (W H : Nat) (ar : Bool) (c : Nat) (m : Nat → Int32) (t : Nat) : Nat → Int32 := t2M t (tk1 W H ar c m t) (nI (c % W)) (lnI W ar (c / W))
def tkM (W H : Nat) (ar : Bool) (c : Nat) (m : Nat → Int32) (t : Nat) : Nat → Int32 := clM (nI W) (tk2 W H ar c m t) (nI (c % W)) (xv 0 t &&& nI (snd' W H ar c))
def tkK (W H : Nat) (ar : Bool) (c : Nat) (m : Nat → Int32) (t : Nat) : Int32 := t2K t (tk1 W H ar c m t) (nI (c % W)) (lnI W ar (c / W)) + clK (nI W) (tk2 W H ar c m t) (nI (c % W)) (xv 0 t &&& nI (snd' W H ar c))
section Tk
variable {W H : Nat} {ar : Bool} {h : HP}
theorem s29 (hb : BD h W H ar) (hs : SH h) {r : Nat} (hr : r < 2 ^ 31) : X (29, 0, [.ref 10, .int (nI r)], [], h) = some (some (.int (lnI W ar r)), h) := by
  rw [g29_0 _ h hs, hb.2.2.2.1, s2 r hr h hs, bI_s, hb.2.1]
  unfold lnI
  cases ar with
  | false => rw [if_pos (by decide), if_neg (by simp)]
  | true =>
    rw [if_neg (by decide)]
    rcases Nat.mod_two_eq_zero_or_one r with q | q
    · have n1 : ¬ (true = true ∧ r % 2 = 1) := by omega
      rw [if_neg n1, q, if_neg (by decide)]
    · have n1 : (true = true ∧ r % 2 = 1) := ⟨rfl, q⟩
      rw [if_pos n1, q, if_pos (by decide)]
theorem s31 (hb : BD h W H ar) (hs : SH h) {c : Nat} (hc : c < W * H) : X (31, 0, [.ref 10, .int (nI c)], [], h) = some (some (.int (nI (setl W H ar c))), h) := by
  rw [g31_0 _ h hs, s8 hb hs hc, bI_s, s9 hb hs hc, bI_s, nI_set16 _ (edg_lt W H c) _ (fsd_lt W H ar c)]
  rfl
theorem s32 (hb : BD h W H ar) (hs : SH h) {c : Nat} (hc : c < W * H) (w2 w3 w4 : Value) : X (32, 0, [.ref 10, .int (nI c), w2, w3, w4], [], h) = some (some (.int (wnt W H ar c (hI h 11))), h) := by
  have hk := okS_1 hb.1
  have k4 : ∀ (v : Value) (x s a : Int32), X (32, 87, [.ref 10, v, .int x, .int s, .int a], [], h) = some (some (.int (if s &&& 4 = 0 then a else if mateI (hI h 11) (x - 1) = -1 then a else a ||| 4)), h) := by
    intro v x s a
    rw [g32_87 _ _ _ _ h hs, s26 _ h hs, bI_s]
    by_cases q : s &&& 4 = 0
    · rw [if_pos q, if_pos q]
    · rw [if_neg q, if_neg q]
      by_cases u : mateI (hI h 11) (x - 1) = -1
      · rw [if_pos u, if_pos u, if_pos rfl]
      · rw [if_neg u, if_neg u, if_neg (by decide)]
  have k3 : ∀ (v : Value) (x s a : Int32), X (32, 61, [.ref 10, v, .int x, .int s, .int a], [], h) = X (32, 87, [.ref 10, v, .int x, .int s, .int (if s &&& 2 = 0 then a else if mateI (hI h 11) (nI W) = -1 then a else a ||| 2)], [], h) := by
    intro v x s a
    rw [g32_61 _ _ _ _ h hs, hb.2.1, s26 _ h hs, bI_s]
    by_cases q : s &&& 2 = 0
    · rw [if_pos q, if_pos q]
    · rw [if_neg q, if_neg q]
      by_cases u : mateI (hI h 11) (nI W) = -1
      · rw [if_pos u, if_pos u, if_pos rfl]
      · rw [if_neg u, if_neg u, if_neg (by decide)]
  have k2 : ∀ (x s a : Int32), X (32, 35, [.ref 10, .int (nI c), .int x, .int s, .int a], [], h) = X (32, 61, [.ref 10, .int (nI c), .int x, .int s, .int (if mateI (hI h 11) (lnI W ar (c / W)) = -1 then a else a ||| 8)], [], h) := by
    intro x s a
    have hd : c / W ≤ c := Nat.div_le_self c W
    rw [g32_35 _ _ _ _ h hs, s13 hb hs (by omega), bI_s, s29 hb hs (by omega), bI_s, s26 _ h hs, bI_s]
    by_cases u : mateI (hI h 11) (lnI W ar (c / W)) = -1
    · rw [if_pos u, if_pos u, if_pos rfl]
    · rw [if_neg u, if_neg u, if_neg (by decide)]
  rw [g32_0 _ _ _ _ h hs, s12 hb hs (by omega), bI_s, s10 hb hs hc, bI_s, s26 _ h hs, bI_s, k2, k2, k3, k3, k4, k4]
  unfold wnt wn4 wn3 wn2 wn1
  by_cases u : mateI (hI h 11) (nI (c % W)) = -1
  · simp only [if_pos u, if_pos]
  · rw [if_neg u, if_neg (by decide : ¬ (1 : Int32) = 0)]
    simp only [if_neg u]
theorem xT0_lt : ∀ t, t < 10 → ∃ a, a < 16 ∧ xv 0 t = nI a := by
  intro t ht
  have : ∀ t, t < 10 → xv 0 t = nI ([0, 5, 10, 3, 6, 12, 9, 15, 15, 15].getD t 0) ∧ [0, 5, 10, 3, 6, 12, 9, 15, 15, 15].getD t 0 < 16 := by decide +kernel
  exact ⟨_, (this t ht).2, (this t ht).1⟩
theorem s103 (t : Nat) (ht : t < 10) (h : HP) (hs : SH h) : X (103, 0, [.int (nI t)], [], h) = some (some (.int 1), h) := by
  rw [g103_0 _ h hs, if_neg (nI_pos (by omega)), if_neg]
  exact nI_ge ht (by decide)
theorem s103x (a : Int32) (h : HP) (hs : SH h) : X (103, 0, [.int a], [], h) = some (some (.int (if inB a 10 = true then 1 else 0)), h) := by
  rcases inB_cases a 10 (by decide) with ⟨hx, j, hj, rfl⟩ | ⟨hx, q⟩
  · rw [s103 j hj h hs, if_pos hx]
  · rw [g103_0 _ h hs, if_neg hx]
    rcases q with q | ⟨q1, q2⟩
    · rw [if_pos q]
    · have q3 : (10 : Int32) ≤ a := q2
      rw [if_neg q1, if_pos q3]
set_option maxHeartbeats 2000000 in
theorem s33 (hb : BD h W H ar) (hs : SH h) {c t : Nat} (hc : c < W * H) (ht : t < 10) (w3 w4 w5 w6 : Value) : X (33, 0, [.ref 10, .int (nI c), .int (nI t), w3, w4, w5, w6], [], h) = some (some (.int (tkK W H ar c (hI h 11) t)), sA h 11 (tkM W H ar c (hI h 11) t)) := by
  have hk := okS_1 hb.1
  have hd : c / W ≤ c := Nat.div_le_self c W
  have hS : xv 0 t = hI h 0 t := by rw [hs.t 0 rfl]
  have fin : ∀ (h' : HP) (v w : Value) (ln sd k : Int32), SH h' → BD h' W H ar → X (33, 151, [.ref 10, .int (nI c), v, .int (nI (c % W)), w, .int sd, .int k], [], h') = some (some (.int (k + clK (nI W) (hI h' 11) (nI (c % W)) (sd &&& nI (snd' W H ar c)))), sA h' 11 (clM (nI W) (hI h' 11) (nI (c % W)) (sd &&& nI (snd' W H ar c)))) := by
    intro h' v w ln sd k hs' hb'
    rw [g33_151 _ _ _ _ _ _ h' hs', s10 hb' hs' hc, bI_s, s35 _ _ _ h' hs', bI_s, hb'.2.1]
  have hbA : ∀ f, BD (sA h 11 f) W H ar := fun f => hb.fr (Fr.sA (S := [11]) (T := []) (by simp)) (by decide) (by decide) (by decide)
  rw [g33_0 _ _ _ _ _ _ h hs, s12 hb hs (by omega), bI_s, s13 hb hs (by omega), bI_s, s29 hb hs (by omega), bI_s, s103 t ht h hs, bI_s, if_neg (by decide), if_pos (inB_nI ht (by decide)), s9 hb hs hc, bI_s, nI_clamp (by omega), ← hS, s34 _ _ h hs, bV_s, hb.2.1]
  show X (33, 61, [.ref 10, .int (nI c), .int (nI t), .int (nI (c % W)), .int (lnI W ar (c / W)), .int (xv 0 t), .int 0], [.int (nI t)], sA h 11 (tk1 W H ar c (hI h 11) t)) = _
  have hs1 : SH (sA h 11 (tk1 W H ar c (hI h 11) t)) := hs.sAs 11 rfl
  have e0 : ∀ f g : Nat → Int32, sA (sA h 11 f) 11 g = sA h 11 g := fun f g => sA_sA h 11 f g
  have d0 : ∀ (k : Int32) (v w : Value), X (33, 151, [.ref 10, .int (nI c), v, .int (nI (c % W)), w, .int (xv 0 t), .int k], [], sA h 11 (tk2 W H ar c (hI h 11) t)) = some (some (.int (k + clK (nI W) (tk2 W H ar c (hI h 11) t) (nI (c % W)) (xv 0 t &&& nI (snd' W H ar c)))), sA h 11 (tkM W H ar c (hI h 11) t)) := by
    intro k v w
    rw [fin _ _ _ 0 _ _ (hs.sAs 11 rfl) (hbA _), hI_sA_same, sA_sA]
    rfl
  match t, ht with
  | 0, _ => exact (e33_61_0 _ _ _ _ _ _ _ _).trans (d0 0 _ _)
  | 1, _ => exact (e33_61_1 _ _ _ _ _ _ _ _).trans (d0 0 _ _)
  | 2, _ => exact (e33_61_2 _ _ _ _ _ _ _ _).trans (d0 0 _ _)
  | 9, _ => exact (e33_61_9 _ _ _ _ _ _ _ _).trans (d0 0 _ _)
  | 3, _ =>
    refine (e33_61_3 _ _ _ _ _ _ _ _).trans ?_
    rw [g33_100 _ _ _ _ _ _ _ hs1, s37 _ _ _ _ _ hs1, bV_s, hI_sA_same, sA_sA]
    exact d0 0 _ _
  | 5, _ =>
    refine (e33_61_5 _ _ _ _ _ _ _ _).trans ?_
    rw [g33_100 _ _ _ _ _ _ _ hs1, s37 _ _ _ _ _ hs1, bV_s, hI_sA_same, sA_sA]
    exact d0 0 _ _
  | 8, _ =>
    refine (e33_61_8 _ _ _ _ _ _ _ _).trans ?_
    rw [g33_100 _ _ _ _ _ _ _ hs1, s37 _ _ _ _ _ hs1, bV_s, hI_sA_same, sA_sA]
    exact d0 0 _ _
  | 4, _ =>
    refine (e33_61_4 _ _ _ _ _ _ _ _).trans ?_
    rw [g33_110 _ _ _ _ _ _ _ hs1, s27 _ _ _ hs1, bV_s, hI_sA_same, sA_sA]
    exact d0 0 _ _
  | 6, _ =>
    refine (e33_61_6 _ _ _ _ _ _ _ _).trans ?_
    rw [g33_120 _ _ _ _ _ _ _ hs1, s36 _ _ _ _ _ hs1, bI_s, hI_sA_same, sA_sA]
    exact d0 _ _ _
  | 7, _ =>
    refine (e33_61_7 _ _ _ _ _ _ _ _).trans ?_
    rw [g33_132 _ _ _ _ _ _ _ hs1, s36 _ _ _ _ _ hs1, bI_s, hI_sA_same, sA_sA, s27 _ _ _ (hs.sAs 11 rfl), bV_s, hI_sA_same, sA_sA]
    exact d0 _ _ _
theorem s30 (hb : BD h W H ar) (hs : SH h) {c t : Nat} (hc : c < W * H) (ht : t < 10) : X (30, 0, [.ref 10, .int (nI c), .int (nI t)], [], h) = some (some (.int (if xv 0 t &&& nI (setl W H ar c) = wnt W H ar c (hI h 11) then 1 else 0)), h) := by
  rw [g30_0 _ _ h hs, s103 t ht h hs, bI_s, if_neg (by decide), if_pos (inB_nI ht (by decide)), s31 hb hs hc, bI_s, s32 hb hs hc, bI_s, nI_clamp (by omega), hs.t 0 rfl]
  by_cases q : xv 0 t &&& nI (setl W H ar c) = wnt W H ar c (hI h 11)
  · rw [if_pos q, if_pos q]
  · rw [if_neg q, if_neg q]
end Tk
