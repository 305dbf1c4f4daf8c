/-! the array of ways made larger -/
def wsz (W H : Nat) (ar : Bool) : Nat := px (frN W ar) (W * H + 1) 0 0
def szL : List Nat := (List.range 6).flatMap fun W => (List.range 6).flatMap fun H => [false, true].flatMap fun ar => if okS W H ar = true then [wsz W H ar] else []
theorem sz_mem {W H : Nat} {ar : Bool} (hk : okS W H ar = true) : wsz W H ar ∈ szL := by
  obtain ⟨⟨w1, w2⟩, ⟨h1, h2⟩, -, -⟩ := okS_1 hk
  refine List.mem_flatMap.mpr ⟨W, List.mem_range.mpr (by omega), List.mem_flatMap.mpr ⟨H, List.mem_range.mpr (by omega), List.mem_flatMap.mpr ⟨ar, by cases ar <;> simp, ?_⟩⟩⟩
  rw [if_pos hk]
  exact List.mem_singleton.mpr rfl
theorem sz_le {W H : Nat} {ar : Bool} (hk : okS W H ar = true) : wsz W H ar ≤ 20748 := by
  have d : ∀ s ∈ szL, s ≤ 20748 := by decide +kernel
  exact d _ (sz_mem hk)
def rst (L : Nat) : List Nat → Nat
  | [] => 0
  | s :: l => (if L < s then s else 0) + rst L l
theorem rst_mono {L r : Nat} (h : L ≤ r) : ∀ l, rst r l ≤ rst L l := by
  intro l
  induction l with
  | nil => exact Nat.le_refl _
  | cons s l ih =>
    rw [rst, rst]
    by_cases q : r < s
    · rw [if_pos q, if_pos (by omega)]; omega
    · rw [if_neg q]; omega
theorem rst_drop {L r : Nat} (h : L < r) : ∀ l, r ∈ l → r + rst r l ≤ rst L l := by
  intro l
  induction l with
  | nil => intro h; cases h
  | cons s l ih =>
    intro hm
    rw [rst, rst]
    rcases List.mem_cons.mp hm with e | e
    · subst e
      have := rst_mono (Nat.le_of_lt h) l
      rw [if_neg (by omega), if_pos h]; omega
    · have := ih e
      by_cases q : r < s
      · rw [if_pos q, if_pos (by omega)]; omega
      · rw [if_neg q]; omega
def WQf (h h' : HP) (a b : Nat) : Prop := (b = a ∨ hZ h ≤ b) ∧ hZ h ≤ hZ h' ∧ hZ h' + hN h a ≤ hZ h + hN h' b ∧ hU h' + rst (hN h' b) szL ≤ hU h + rst (hN h a) szL ∧ (∀ q, q < hZ h → hK h' q = hK h q ∧ hN h' q = hN h q) ∧ (∀ q, q < hZ h → q ∉ [15, 22] → hI h' q = hI h q) ∧ (∀ q, q < hZ h → q ≠ a → hL h' q = hL h q) ∧ (∀ q, q < hZ h → q ≠ 15 → hR h' q = hR h q) ∧ (∀ j, j ≠ 3 → hR h' 15 j = hR h 15 j)
theorem WQf.trn {h1 h2 h3 : HP} {a b c : Nat} (p : WQf h1 h2 a b) (q : WQf h2 h3 b c) : WQf h1 h3 a c := by
  obtain ⟨p1, p2, p3, p4, p5, p6, p7, p8, p9⟩ := p
  obtain ⟨q1, q2, q3, q4, q5, q6, q7, q8, q9⟩ := q
  refine ⟨by omega, by omega, by omega, by omega, fun r hr => ?_, fun r hr hS => ?_, fun r hr ha => ?_, fun r hr h16 => ?_, fun j hj => (q9 j hj).trans (p9 j hj)⟩
  · exact ⟨(q5 r (by omega)).1.trans (p5 r hr).1, (q5 r (by omega)).2.trans (p5 r hr).2⟩
  · exact (q6 r (by omega) hS).trans (p6 r hr hS)
  · exact (q7 r (by omega) (by omega)).trans (p7 r hr ha)
  · exact (q8 r (by omega) h16).trans (p8 r hr h16)
theorem WQf.ofr {S : List Nat} {h h' : HP} {a : Nat} (f : Fr S [a] h h') (hS : ∀ q ∈ S, q ∈ [15, 22]) : WQf h h' a a := by
  obtain ⟨a1, a2, a3, a4, a5, a6, a7⟩ := f
  exact ⟨Or.inl rfl, by rw [a4]; exact Nat.le_refl _, by rw [a4, a2]; exact Nat.le_refl _, by rw [a5, a2]; exact Nat.le_refl _, fun q _ => ⟨by rw [a1], by rw [a2]⟩, fun q _ hn => a6 q (fun u => hn (hS q u)), fun q _ hq => a7 q (by simp; exact hq), fun q _ _ => by rw [a3], fun j _ => by rw [a3]⟩
section Se
variable {W H : Nat} {ar : Bool} {al : Nat → Nat}
/-- what solveEnd leaves -/
def SE (W H : Nat) (ar : Bool) (al : Nat → Nat) (h h' : HP) (qw qw' : Nat) : Prop := WQf h h' qw qw' ∧ SH h' ∧ WV h' qw' ∧ hI h' 15 6 = nI (frN W ar) ∧ wsz W H ar ≤ hN h' qw' ∧ WC W H ar al h' qw' (W * H) ∧ hI h' 15 7 = nI (W * H)
theorem t72 {h : HP} (hb : BD h W H ar) (hs : SH h) {qw : Nat} (wv : WV h qw) (hF : hI h 15 6 = nI (frN W ar)) (w3 : Value) : ∃ h' qw', (bI (X (6, 0, [.ref 6], [], h)) (fun r5 h5 => bI (X (76, 0, [.ref 15, .int ((if 20 < r5 then 20 else r5) + 1), .int 0, .int 0], [], h5)) (fun r6 h6 => (hR h6 15 3).bind (fun q7 => if hK h6 q7 = 10 ∨ hK h6 q7 = 11 ∨ hK h6 q7 = 12 ∨ hK h6 q7 = 13 then (if r6 ≤ (nI (hN h6 q7)) then (X (72, 77, [.ref 15, .int (if 20 < r5 then 20 else r5), .int r6, w3], [], h6)) else (if ¬ r6 < 0 ∧ r6.toNatClampNeg ≤ 67108864 then (X (72, 77, [.ref 15, .int (if 20 < r5 then 20 else r5), .int r6, w3], [], sR (nw h6 11 r6.toNatClampNeg r6.toNatClampNeg) 15 3 (some (hZ h6)))) else none)) else none)))) = some (none, h') ∧ SE W H ar al h h' qw qw' := by
  have hk := hb.1
  have h20 := (okS_1 hk).2.2.1
  have z42 : 42 ≤ hZ h := hs.1
  have c20 : ¬ (20 : Int32) < nI (W * H) := by
    rw [show (20 : Int32) = nI 20 from rfl]
    exact nI_nlt h20 (by decide)
  have wv' := wv
  obtain ⟨a1, a2, a3, a4, a5⟩ := wv
  have sl := sz_le hk
  rw [s6 hb hs, bI_s, if_neg c20, nI_1]
  show ∃ h' qw', bI (X (76, 0, [.ref 15, .int (nI (W * H + 1)), .int (nI 0), .int (nI 0)], [], h)) _ = _ ∧ _
  rw [s76 hs hF, bI_s, a1]
  show ∃ h' qw', (if hK h qw = 10 ∨ hK h qw = 11 ∨ hK h qw = 12 ∨ hK h qw = 13 then (if nI (wsz W H ar) ≤ nI (hN h qw) then (X (72, 77, [.ref 15, .int (nI (W * H)), .int (nI (wsz W H ar)), w3], [], h)) else (if ¬ nI (wsz W H ar) < 0 ∧ (nI (wsz W H ar)).toNatClampNeg ≤ 67108864 then (X (72, 77, [.ref 15, .int (nI (W * H)), .int (nI (wsz W H ar)), w3], [], sR (nw h 11 (nI (wsz W H ar)).toNatClampNeg (nI (wsz W H ar)).toNatClampNeg) 15 3 (some (hZ h)))) else none)) else none) = _ ∧ _
  rw [if_pos (Or.inr (Or.inl a4)), nI_clamp (by omega)]
  by_cases q : wsz W H ar ≤ hN h qw
  · rw [if_pos (nI_le q (by omega))]
    obtain ⟨h', x1, x2, x3, x4, x5, x6⟩ := s72e (al := al) hb hs wv' hF q (.int (nI (wsz W H ar))) w3
    exact ⟨h', qw, x1, WQf.ofr x2 (by simp), x3, wv'.fr x2, by rw [x6 6 (by decide)]; exact hF, by rw [x2.2.1]; exact q, x4, x5⟩
  · have cc : ¬ nI (wsz W H ar) < 0 ∧ wsz W H ar ≤ 67108864 := ⟨nI_pos (by omega), by omega⟩
    rw [if_neg (nI_ge (by omega) (by omega)), if_pos cc]
    generalize hG : sR (nw h 11 (wsz W H ar) (wsz W H ar)) 15 3 (some (hZ h)) = g
    have gs : SH g := by rw [← hG]; exact hs.nw.sRs 15 3 rfl
    have gI : ∀ r, r ≠ hZ h → hI g r = hI h r := fun r hr => by rw [← hG, hI_sR, hI_nw, if_neg hr]
    have gL : ∀ r, r ≠ hZ h → hL g r = hL h r := fun r hr => by rw [← hG, hL_sR, hL_nw, if_neg hr]
    have gK : ∀ r, hK g r = if r = hZ h then 11 else hK h r := fun r => by rw [← hG, hK_sR, hK_nw]
    have gN : ∀ r, hN g r = if r = hZ h then wsz W H ar else hN h r := fun r => by rw [← hG, hN_sR, hN_nw]
    have gZ : hZ g = hZ h + 1 := by rw [← hG, hZ_sR, hZ_nw]
    have gU : hU g = hU h + wsz W H ar := by rw [← hG, hU_sR, hU_nw]
    have gR : ∀ r, r ≠ 15 → r ≠ hZ h → hR g r = hR h r := fun r h1 h2 => by rw [← hG, hR_sRr, if_neg h1, hR_nw, if_neg h2]
    have gR15 : ∀ j, hR g 15 j = if j = 3 then some (hZ h) else hR h 15 j := fun j => by
      rw [← hG, hR_sRr, if_pos rfl, hR_nw, if_neg (by omega)]
      rfl
    have gW : WV g (hZ h) := ⟨by rw [gR15, if_pos rfl], by omega, by omega, by rw [gK, if_pos rfl], by rw [gN, if_pos rfl]; exact sl⟩
    have rd := rst_drop (show hN h qw < wsz W H ar by omega) szL (sz_mem hk)
    have gF : WQf h g qw (hZ h) := ⟨Or.inr (Nat.le_refl _), by omega, by rw [gZ, gN, if_pos rfl]; omega, by rw [gU, gN, if_pos rfl]; omega, fun r hr => ⟨by rw [gK, if_neg (by omega)], by rw [gN, if_neg (by omega)]⟩, fun r hr _ => gI r (by omega), fun r hr _ => gL r (by omega), fun r hr h15 => gR r h15 (by omega), fun j hj => by rw [gR15, if_neg hj]⟩
    have gB : BD g W H ar := by
      obtain ⟨b0, b1, b2, b3, b4⟩ := hb
      exact ⟨b0, by rw [gI 6 (by omega)]; exact b1, by rw [gI 6 (by omega)]; exact b2, by rw [gI 6 (by omega)]; exact b3, fun c hc => by rw [gI 8 (by omega), gI 9 (by omega)]; exact b4 c hc⟩
    have gF6 : hI g 15 6 = nI (frN W ar) := by rw [gI 15 (by omega)]; exact hF
    have gN1 : hN g (hZ h) = wsz W H ar := by rw [gN, if_pos rfl]
    obtain ⟨h', x1, x2, x3, x4, x5, x6⟩ := s72e (al := al) gB gs gW gF6 (by rw [gN1]; exact Nat.le_refl _) (.int (nI (wsz W H ar))) w3
    exact ⟨h', hZ h, x1, gF.trn (WQf.ofr x2 (by simp)), x3, gW.fr x2, by rw [x6 6 (by decide)]; exact gF6, by rw [x2.2.1, gN1]; exact Nat.le_refl _, x4, x5⟩
theorem jn1 : ∀ W, W < 6 → jnI (nI W + 1) = nI (frN W false) := by decide +kernel
theorem jn2 : ∀ W, W < 6 → 0 < W → W % 2 = 0 → jnI (nI W + 2) = nI (frN W true) := by decide +kernel
theorem s72 {h : HP} (hb : BD h W H ar) (hs : SH h) {qw : Nat} (wv : WV h qw) (w1 w2 w3 : Value) : ∃ h' qw', X (72, 0, [.ref 15, w1, w2, w3], [], h) = some (none, h') ∧ SE W H ar al h h' qw qw' := by
  have hk := hb.1
  obtain ⟨⟨k1, k2⟩, -, -, k4⟩ := okS_1 hk
  have hf : Fr [15] [qw] h (sI h 15 6 (nI (frN W ar))) := Fr.sI (by simp)
  obtain ⟨h', qw', x1, x2, x3⟩ := t72 (al := al) (hb.fr hf (by decide) (by decide) (by decide)) (hf.sh hs (by decide)) (wv.fr hf) (hI_sI_same _ _ _ _) w3
  refine ⟨h', qw', ?_, (WQf.ofr hf (by simp)).trn x2, x3⟩
  rw [g72_0 _ _ _ h hs, hb.2.2.2.1, hb.2.1, s20 _ h hs, bI_s, s20 _ h hs, bI_s]
  cases ar with
  | false => rw [if_pos (by decide), jn1 W (by omega)]; exact x1
  | true => rw [if_neg (by decide), jn2 W (by omega) (by omega) (k4 rfl).1]; exact x1
end Se
