/-! ways of a cell -/
section Sv
variable {W H : Nat} {ar : Bool} {al : Nat → Nat}
theorem sT_0 {g : Nat → Nat} : ∀ (f t : Nat), (∀ j, t ≤ j → j < t + f → g j = 0) → sT g f t = 0 := by
  intro f
  induction f with
  | zero => intros; rfl
  | succ f ih =>
    intro t h
    rw [sT, h t (by omega) (by omega), ih (t + 1) (fun j a b => h j (by omega) (by omega))]
theorem cnt_mx (hk : okS W H ar = true) : ∀ (r c : Nat), c + r = W * H → ∀ n, n < 76 → inL W H ar c n = true → ∀ l, mxB W H ar c n < l → cnt W H ar al r c n l = 0 := by
  intro r
  induction r with
  | zero => intro c hc n hn hl l h; rw [cnt, if_neg (by omega)]
  | succ r ih =>
    intro c hc n hn hl l h
    rw [cnt]
    refine sT_0 10 0 (fun t _ ht => ?_)
    show (if (al c).testBit t = true then _ else 0) = 0
    by_cases q : (al c).testBit t = true
    · rw [if_pos q]
      cases htr : tr W H ar c n t with
      | none => rfl
      | some p =>
        obtain ⟨n', k⟩ := p
        obtain ⟨t1, t2, t3, t4, -⟩ := T_some hk (by omega) hn hl (by omega) htr
        show (if k ≤ l then cnt W H ar al r (c + 1) n' (l - k) else 0) = 0
        by_cases u : k ≤ l
        · rw [if_pos u]; exact ih (c + 1) (by omega) n' t2 t3 (l - k) (by omega)
        · rw [if_neg u]
    · rw [if_neg q]
theorem cnt_12 (hk : okS W H ar = true) {c n l : Nat} (hc : c ≤ W * H) (hn : rch W H ar c n = true) (h : 12 < l) : cnt W H ar al (W * H - c) c n l = 0 := by
  obtain ⟨n1, n2⟩ := rch_in hk c hc n hn
  rcases Nat.lt_or_ge c (W * H) with q | q
  · have := T_12 hk q n1 n2
    exact cnt_mx hk _ c (by omega) n n1 n2 l (by omega)
  · have : W * H - c = 0 := by omega
    rw [this, cnt, if_neg (by omega)]
def ct (W H : Nat) (ar : Bool) (al : Nat → Nat) (c l : Nat) (t n' k : Nat) : Nat := if (al c).testBit t = true then (if k ≤ l then cnt W H ar al (W * H - (c + 1)) (c + 1) n' (l - k) else 0) else 0
def cS (W H : Nat) (ar : Bool) (al : Nat → Nat) (c n l : Nat) (D : List Mv) : Nat := sL' (fun m => if m.1 = n then ct W H ar al c l m.2.1 m.2.2.1 m.2.2.2 else 0) D
theorem cnt_L {c n l : Nat} (hc : c < W * H) (hn76 : n < 76) (hn : rch W H ar c n = true) : cnt W H ar al (W * H - c) c n l = cS W H ar al c n l (mvs W H ar c) := by
  have e : W * H - c = (W * H - (c + 1)) + 1 := by omega
  unfold cS mvs
  rw [e, cnt, sL'_one (g := fun t n' k => ct W H ar al c l t n' k) hn 76 0 (by omega) (by omega)]
  refine sT_c 10 0 (fun t _ _ => ?_)
  cases tr W H ar c n t with
  | none => show (if (al c).testBit t = true then 0 else 0) = 0; by_cases q : (al c).testBit t = true <;> simp
  | some p => rfl
/-- the ways from a cell on hold -/
def WC (W H : Nat) (ar : Bool) (al : Nat → Nat) (h : HP) (qw c : Nat) : Prop := ∃ T, hI h 22 c = nI T ∧ T ≤ 12 ∧ (∀ n, rch W H ar c n = true → ∀ l, T < l → cnt W H ar al (W * H - c) c n l = 0) ∧ ∀ n, rch W H ar c n = true → ∀ l, l ≤ 12 → hL h qw (px (frN W ar) c n l) = lN (cnt W H ar al (W * H - c) c n l)
theorem px_lt {F c n l : Nat} (hn : n < F) (hl : l ≤ 12) : px F c n l < px F (c + 1) 0 0 := by
  unfold px
  have e : (c + 1) * F = c * F + F := Nat.succ_mul c F
  omega
theorem px_inj {F c n n' l l' : Nat} (hl : l ≤ 12) (hl' : l' ≤ 12) (h : px F c n l = px F c n' l') : n = n' ∧ l = l' := by
  unfold px at h
  omega
theorem px_ge {F c n l : Nat} : px F c 0 0 ≤ px F c n l := by
  unfold px; omega
theorem px_mono {F c d : Nat} (h : c ≤ d) : px F c 0 0 ≤ px F d 0 0 := by
  unfold px
  have := Nat.mul_le_mul_right F h
  omega
theorem s74 {h : HP} (hs : SH h) {qm qw c p T : Nat} {m : Mv} (hk : okS W H ar = true) (hc : c < W * H) (hF : hI h 15 6 = nI (frN W ar)) (w : WV h qw) (hr : px (frN W ar) (W * H + 1) 0 0 ≤ hN h qw) (mo : MOK h qm W H ar) (hm : m ∈ mvs W H ar c) (hp : (mvA W H ar (W * H))[p]? = some m) (hT : hI h 22 (c + 1) = nI T) (hT12 : T ≤ 12) (w3 w4 w5 w6 w7 : Value) : ∃ h', X (74, 0, [.ref 15, .int (nI c), .int (nI p), w3, w4, w5, w6, w7], [], h) = some (none, h') ∧ Fr [] [qw] h h' ∧ SH h' ∧ (∀ q, px (frN W ar) (c + 1) 0 0 ≤ q → hL h' qw q = hL h qw q) ∧ ∀ n l, n < frN W ar → l ≤ 12 → hL h' qw (px (frN W ar) c n l) = if n = m.1 ∧ m.2.2.2 ≤ l ∧ l - m.2.2.2 ≤ T then hL h qw (px (frN W ar) c n l) + hL h qw (px (frN W ar) (c + 1) m.2.2.1 (l - m.2.2.2)) else hL h qw (px (frN W ar) c n l) := by
  have h20 := (okS_1 hk).2.2.1
  obtain ⟨ok, k1, k2, k3⟩ := mvs_ok hk hc hm
  have mv := mo.2.2.2.1
  obtain ⟨n76, nL⟩ := rch_in hk c (by omega) _ k1
  obtain ⟨m76, mL⟩ := rch_in hk (c + 1) (by omega) _ k3
  have nF := T_lt hk (by omega) n76 nL
  have mF := T_lt hk (by omega) m76 mL
  have w' := w
  obtain ⟨a1, a2, a3, a4, a5⟩ := w
  obtain ⟨o1, o2, o3, o4⟩ := ok
  have ok : okM m := ⟨o1, o2, o3, o4⟩
  have e12 : (12 : Int32) - nI m.2.2.2 = nI (12 - m.2.2.2) := by
    rw [show (12 : Int32) = nI 12 from rfl, pk_sub o4]
  have eL : (if nI (12 - m.2.2.2) < nI T then nI (12 - m.2.2.2) else nI T) = nI (min T (12 - m.2.2.2)) := by
    by_cases u : 12 - m.2.2.2 < T
    · rw [if_pos (nI_lt u (by omega)), Nat.min_eq_right (by omega)]
    · rw [if_neg (nI_nlt (by omega) (by omega)), Nat.min_eq_left (by omega)]
  have lt1 : px (frN W ar) c m.1 m.2.2.2 + min T (12 - m.2.2.2) < px (frN W ar) (c + 1) 0 0 := by
    have := px_lt (c := c) (l := 12) nF (by omega)
    unfold px at this ⊢
    omega
  have lt2 : px (frN W ar) (c + 1) m.2.2.1 0 + min T (12 - m.2.2.2) < px (frN W ar) (c + 1 + 1) 0 0 := by
    have := px_lt (c := c + 1) (l := 12) mF (by omega)
    unfold px at this ⊢
    omega
  have le3 : px (frN W ar) (c + 1 + 1) 0 0 ≤ px (frN W ar) (W * H + 1) 0 0 := px_mono (by omega)
  have le4 : px (frN W ar) (c + 1) 0 0 ≤ px (frN W ar) (c + 1) m.2.2.1 0 := px_ge
  obtain ⟨h', x1, x2, x3, x4⟩ := s74l hs w' (A := px (frN W ar) c m.1 m.2.2.2) (B := px (frN W ar) (c + 1) m.2.2.1 0) (L := min T (12 - m.2.2.2)) (by omega) (by omega) (.int (nI c)) (.int (nI p)) (.int (nI m.2.2.2))
  refine ⟨h', ?_, x2, x3, fun q hq => ?_, fun n l hn hl => ?_⟩
  · rw [g74_0 _ _ _ _ _ _ _ h hs, s50 hs mv hp ok, bI_s, s47 hs mv hp ok, bI_s, s76 hs hF, bI_s, s48 hs mv hp ok, bI_s, nI_1]
    show bI (X (76, 0, [.ref 15, .int (nI (c + 1)), .int (nI m.2.2.1), .int (nI 0)], [], h)) _ = _
    rw [s76 hs hF, bI_s, s77 hs (by omega), bI_s, hT, e12, eL, if_neg (nI_pos (by omega)), a1, nI_add, nI_add]
    show (if hK h qw = 10 ∨ hK h qw = 11 ∨ hK h qw = 12 ∨ hK h qw = 13 then (if nI (hN h qw) ≤ _ then _ else (if _ < (0 : Int32) then _ else (if hK h qw = 10 ∨ hK h qw = 11 ∨ hK h qw = 12 ∨ hK h qw = 13 then (if _ < nI (hN h qw) then _ else _) else none))) else none) = _
    rw [if_pos (Or.inr (Or.inl a4)), if_neg (nI_ge (by omega) (by omega)), if_neg (nI_pos (by omega)), if_pos (Or.inr (Or.inl a4)), if_pos (nI_lt (by omega) (by omega))]
    exact x1
  · rw [x4, if_neg (by omega)]
  · rw [x4]
    by_cases u : n = m.1 ∧ m.2.2.2 ≤ l ∧ l - m.2.2.2 ≤ T
    · obtain ⟨u1, u2, u3⟩ := u
      subst u1
      have c1 : px (frN W ar) c m.1 m.2.2.2 ≤ px (frN W ar) c m.1 l ∧ px (frN W ar) c m.1 l ≤ px (frN W ar) c m.1 m.2.2.2 + min T (12 - m.2.2.2) := by
        unfold px
        omega
      have c2 : px (frN W ar) (c + 1) m.2.2.1 0 + (px (frN W ar) c m.1 l - px (frN W ar) c m.1 m.2.2.2) = px (frN W ar) (c + 1) m.2.2.1 (l - m.2.2.2) := by
        unfold px
        omega
      rw [if_pos c1, if_pos ⟨rfl, u2, u3⟩, c2]
    · rw [if_neg u, if_neg]
      intro v
      apply u
      unfold px at v
      have e : n = m.1 := by omega
      subst e
      omega
end Sv
