/-! the end of the ways; ways read -/
section We
variable {W H : Nat} {ar : Bool} {al : Nat → Nat} {h : HP}
theorem s72e (hb : BD h W H ar) (hs : SH h) {qw : Nat} (wv : WV h qw) (hF : hI h 15 6 = nI (frN W ar)) (hr : px (frN W ar) (W * H + 1) 0 0 ≤ hN h qw) (w2 w3 : Value) : ∃ h', X (72, 77, [.ref 15, .int (nI (W * H)), w2, w3], [], h) = some (none, h') ∧ Fr [15, 22] [qw] h h' ∧ SH h' ∧ WC W H ar al h' qw (W * H) ∧ hI h' 15 7 = nI (W * H) ∧ ∀ j, j ≠ 7 → hI h' 15 j = hI h 15 j := by
  have hk := hb.1
  have h20 := (okS_1 hk).2.2.1
  have wv' := wv
  obtain ⟨a1, a2, a3, a4, a5⟩ := wv
  obtain ⟨g, x1, x2, x3, x4⟩ := s75 (c := W * H) hs hF wv' hr .null .null
  have gI : hI g = hI h := by funext r; exact x2.2.2.2.2.2.1 r (by simp)
  have gR : hR g = hR h := x2.2.2.1
  have F0 : 0 < frN W ar := by
    have := T_lt hk (c := 0) (by omega) (by decide : 0 < 76) (T_0 hk)
    exact this
  have lt := px_lt (c := W * H) (l := 0) F0 (by omega)
  have gs2 : SH (sI g 22 (W * H) 0) := x3.sIs 22 rfl
  rw [g72_77 _ _ _ h hs, x1, bV_s, if_pos (inB_nI (by omega) (by decide)), nI_clamp (by omega)]
  show ∃ h', bI (X (76, 0, [.ref 15, .int (nI (W * H)), .int (nI 0), .int (nI 0)], [], sI g 22 (W * H) 0)) _ = _ ∧ _
  rw [s76 gs2 (by rw [hI_sI_o _ _ _ (by decide), gI]; exact hF), bI_s, if_neg (nI_pos (by omega))]
  have e3 : hR (sI g 22 (W * H) 0) 15 3 = some qw := by
    show hR g 15 3 = some qw
    rw [gR]; exact a1
  have k11 : hK (sI g 22 (W * H) 0) qw = 11 := by
    show hK g qw = 11
    rw [x2.1]; exact a4
  have nq : hN (sI g 22 (W * H) 0) qw = hN h qw := by
    show hN g qw = hN h qw
    rw [x2.2.1]
  rw [e3]
  show ∃ h', (if hK (sI g 22 (W * H) 0) qw = 10 ∨ hK (sI g 22 (W * H) 0) qw = 11 ∨ hK (sI g 22 (W * H) 0) qw = 12 ∨ hK (sI g 22 (W * H) 0) qw = 13 then (if nI (hN (sI g 22 (W * H) 0) qw) ≤ nI (px (frN W ar) (W * H) 0 0) then _ else (if hK (sI g 22 (W * H) 0) qw = 11 ∧ inB (nI (px (frN W ar) (W * H) 0 0)) (hN (sI g 22 (W * H) 0) qw) = true then _ else none)) else none) = _ ∧ _
  rw [if_pos (Or.inr (Or.inl k11)), if_neg (by rw [nq]; exact nI_ge (by omega) (by omega))]
  have cc : hK (sI g 22 (W * H) 0) qw = 11 ∧ inB (nI (px (frN W ar) (W * H) 0 0)) (hN (sI g 22 (W * H) 0) qw) = true := by
    refine ⟨k11, ?_⟩
    rw [nq]
    exact inB_nI (by omega) (by omega)
  rw [if_pos cc, nI_clamp (by omega)]
  refine ⟨_, rfl, ?_, (shL gs2).sIs 15 rfl, ⟨0, ?_, by omega, fun n hn l hl => ?_, fun n hn l hl => ?_⟩, hI_sI_same _ _ _ _, fun j hj => ?_⟩
  · exact (((x2.mono (by simp) (by simp)).tr (Fr.sI (by simp))).tr (Fr.sL (by simp))).tr (Fr.sI (by simp))
  · rw [hI_sI_o _ _ _ (by decide), hI_sL, hI_sI_same]; rfl
  · rw [Nat.sub_self, cnt, if_neg (by omega)]
  · obtain ⟨n76, nL⟩ := rch_in hk (W * H) (by omega) n hn
    have n0 := V_end hk n76 nL
    subst n0
    rw [Nat.sub_self, cnt]
    show hL (sL (sI g 22 (W * H) 0) qw (px (frN W ar) (W * H) 0 0) 1) qw (px (frN W ar) (W * H) 0 l) = _
    by_cases u : l = 0
    · subst u
      rw [hL_sL_same, if_pos rfl]; rfl
    · have ne : px (frN W ar) (W * H) 0 l ≠ px (frN W ar) (W * H) 0 0 := fun e => u (px_inj (by omega) (by omega) e).2
      rw [hL_sL_ne _ _ ne, if_neg u]
      show hL g qw _ = _
      rw [x4, if_pos ⟨px_ge, px_lt F0 hl⟩]
      rfl
  · rw [hI_sI_ne _ _ hj, hI_sL, hI_sI_o _ _ _ (by decide), gI]
theorem s78 (hs : SH h) {qw p : Nat} (wv : WV h qw) (hp : p < hN h qw) : X (78, 0, [.ref 15, .int (nI p)], [], h) = some (some (.long (hL h qw p)), h) := by
  obtain ⟨a1, a2, a3, a4, a5⟩ := wv
  rw [g78_0 _ h hs, if_neg (nI_pos (by omega)), a1]
  show (if hK h qw = 10 ∨ hK h qw = 11 ∨ hK h qw = 12 ∨ hK h qw = 13 then (if nI p < nI (hN h qw) then (if hK h qw = 11 ∧ inB (nI p) (hN h qw) = true then some (some (Value.long (hL h qw (nI p).toNatClampNeg)), h) else none) else _) else none) = _
  have c : hK h qw = 11 ∧ inB (nI p) (hN h qw) = true := ⟨a4, inB_nI (by omega) (by omega)⟩
  rw [if_pos (Or.inr (Or.inl a4)), if_pos (nI_lt (by omega) (by omega)), if_pos c, nI_clamp (by omega)]
/-- all ways from a front at a cell on -/
def tot (W H : Nat) (ar : Bool) (al : Nat → Nat) (c n : Nat) : Nat := sT (fun l => cnt W H ar al (W * H - c) c n l) 13 0
theorem sT_app {g : Nat → Nat} : ∀ (a b t : Nat), sT g (a + b) t = sT g a t + sT g b (t + a) := by
  intro a
  induction a with
  | zero => intro b t; rw [Nat.zero_add]; exact (Nat.zero_add _).symm
  | succ a ih =>
    intro b t
    rw [show a + 1 + b = (a + b) + 1 by omega, sT, sT, ih b (t + 1), show t + 1 + a = t + (a + 1) by omega]
    omega
/-- what reading ways needs -/
def WR (W H : Nat) (ar : Bool) (al : Nat → Nat) (h : HP) (qw c : Nat) : Prop := SH h ∧ okS W H ar = true ∧ WV h qw ∧ hI h 15 6 = nI (frN W ar) ∧ px (frN W ar) (W * H + 1) 0 0 ≤ hN h qw ∧ WC W H ar al h qw c
theorem WR.at {qw c n l : Nat} (w : WR W H ar al h qw c) (hc : c ≤ W * H) (hn : rch W H ar c n = true) (hl : l ≤ 12) : X (78, 0, [.ref 15, .int (nI (px (frN W ar) c n l))], [], h) = some (some (.long (lN (cnt W H ar al (W * H - c) c n l))), h) := by
  obtain ⟨hs, hk, wv, hF, hr, T, t1, t2, t3, t4⟩ := w
  obtain ⟨n76, nL⟩ := rch_in hk c hc n hn
  have nF := T_lt hk hc n76 nL
  have := px_lt (c := c) nF hl
  have := px_mono (F := frN W ar) (show c + 1 ≤ W * H + 1 by omega)
  rw [s78 hs wv (by omega), t4 n hn l hl]
theorem s79n {qw c n : Nat} (w : WR W H ar al h qw c) (hc : c ≤ W * H) (hn : rch W H ar c n = true) (l : Nat) (hl : l < 2 ^ 31) (w5 w6 w7 w8 : Value) : X (79, 0, [.ref 15, .int (nI c), .int (nI n), .int 0, .int (nI l), w5, w6, w7, w8], [], h) = some (some (.long (lN (cnt W H ar al (W * H - c) c n l))), h) := by
  have w' := w
  obtain ⟨hs, hk, wv, hF, hr, T, t1, t2, t3, t4⟩ := w
  have h20 := (okS_1 hk).2.2.1
  rw [g79_0 _ _ _ _ _ _ _ _ h hs, s77 hs (by omega), bI_s, if_pos rfl, if_neg (nI_pos hl), t1]
  rcases Nat.lt_or_ge T l with u | u
  · rw [if_neg (nI_ge u hl), t3 n hn l u]; rfl
  · rw [if_pos (nI_le u (by omega)), s76 hs hF, bI_s, w'.at hc hn (by omega), bL_s]
theorem s79m {qw c n : Nat} (w : WR W H ar al h qw c) (hc : c ≤ W * H) (a : Int32) (ha : a < 0) (w5 w6 w7 w8 : Value) : X (79, 0, [.ref 15, .int (nI c), .int (nI n), .int 0, .int a, w5, w6, w7, w8], [], h) = some (some (.long 0), h) := by
  obtain ⟨hs, hk, wv, hF, hr, T, t1, t2, t3, t4⟩ := w
  have h20 := (okS_1 hk).2.2.1
  rw [g79_0 _ _ _ _ _ _ _ _ h hs, s77 hs (by omega), bI_s, if_pos rfl, if_pos ha]
theorem s79a {qw c n : Nat} (w : WR W H ar al h qw c) (hc : c ≤ W * H) (hn : rch W H ar c n = true) (a : Int32) (w5 w6 w7 w8 : Value) : X (79, 0, [.ref 15, .int (nI c), .int (nI n), .int 1, .int a, w5, w6, w7, w8], [], h) = some (some (.long (lN (tot W H ar al c n))), h) := by
  have w' := w
  obtain ⟨hs, hk, wv, hF, hr, T, t1, t2, t3, t4⟩ := w
  have h20 := (okS_1 hk).2.2.1
  have key : ∀ (r j : Nat), j + r = T + 1 → ∀ (v : Nat) (u3 u4 u7 : Value), X (79, 46, [.ref 15, .int (nI c), .int (nI n), u3, u4, .int (nI T), .long (lN v), u7, .int (nI j)], [], h) = some (some (.long (lN (v + sT (fun l => cnt W H ar al (W * H - c) c n l) r j))), h) := by
    intro r
    induction r with
    | zero =>
      intro j hj v u3 u4 u7
      rw [g79_46 _ _ _ _ _ _ _ _ h hs, if_pos (nI_lt (by omega) (by omega))]
      rfl
    | succ r ih =>
      intro j hj v u3 u4 u7
      rw [g79_46 _ _ _ _ _ _ _ _ h hs, if_neg (nI_nlt (by omega) (by omega)), s76 hs hF, bI_s, w'.at hc hn (by omega), bL_s, lN_add, nI_1, ih (j + 1) (by omega), sT, Nat.add_assoc]
  have e : tot W H ar al c n = 0 + sT (fun l => cnt W H ar al (W * H - c) c n l) (T + 1) 0 := by
    unfold tot
    rw [show 13 = (T + 1) + (12 - T) by omega, sT_app, sT_0 (12 - T) (0 + (T + 1)) (fun j h1 _ => t3 n hn j (by omega)), Nat.zero_add, Nat.add_zero]
  rw [g79_0 _ _ _ _ _ _ _ _ h hs, s77 hs (by omega), bI_s, if_neg (by decide), t1, e]
  exact key (T + 1) 0 (by omega) 0 _ _ _
/-- fillings, by a number of loops or by all -/
def cntI (W H : Nat) (ar : Bool) (al : Nat → Nat) (c n : Nat) (a : Int32) : Nat := if a = -1 then tot W H ar al c n else if a < 0 then 0 else cnt W H ar al (W * H - c) c n a.toNatClampNeg
theorem s70 {qw : Nat} (w : WR W H ar al h qw 0) (a : Int32) : X (70, 0, [.ref 15, .int a], [], h) = some (some (.long (lN (cntI W H ar al 0 0 a))), h) := by
  have hs := w.1
  have r0 : rch W H ar 0 0 = true := rfl
  rw [g70_0 _ h hs]
  unfold cntI
  by_cases q : a = -1
  · rw [if_pos q, if_pos q]
    show bL (X (79, 0, [.ref 15, .int (nI 0), .int (nI 0), .int 1, .int a, .null, .null, .null, .null], [], h)) _ = _
    rw [s79a w (by omega) r0, bL_s]
  · rw [if_neg q, if_neg q]
    by_cases u : a < 0
    · rw [if_pos u]
      show bL (X (79, 0, [.ref 15, .int (nI 0), .int (nI 0), .int 0, .int a, .null, .null, .null, .null], [], h)) _ = _
      rw [s79m w (by omega) a u, bL_s]; rfl
    · rw [if_neg u]
      obtain ⟨j, hj, rfl⟩ := nI_of u
      rw [nI_clamp hj]
      show bL (X (79, 0, [.ref 15, .int (nI 0), .int (nI 0), .int 0, .int (nI j), .null, .null, .null, .null], [], h)) _ = _
      rw [s79n w (by omega) r0 j hj, bL_s]
end We
