/-! the state of both, and each call of the law -/
def INV (L : Nat) (xs : Nat → Int32) (u : Nat) (h : HP) : Prop := hN h 4 = L ∧ hI h 4 = xs ∧ ∃ W H ar al sh qm qw s, CSx u W H ar al h qm qw s ∧ SC h W H sh ∧ RSt W H ar al h ∧ SM h W H sh
section Cl
variable {W H : Nat} {ar : Bool} {al sh : Nat → Nat} {L : Nat} {xs : Nat → Int32} {u : Nat} {h : HP}
/-- after a call of the component -/
theorem stCo {S : List Nat} {h1 : HP} (f : UF S h h1) (hs1 : SH h1) (hS : ∀ q ∈ S, 5 ≤ q ∧ q < 26) (n4 : hN h 4 = L) (i4 : hI h 4 = xs) (rs : RSt W H ar al h) (sm : SM h W H sh) : hN h1 4 = L ∧ hI h1 4 = xs ∧ RSt W H ar al h1 ∧ SM h1 W H sh := by
  have nS : ∀ q, q < 5 ∨ 26 ≤ q → q ∉ S := fun q hq hn => by have := hS q hn; omega
  refine ⟨f.2.2.2.trans n4, (f.1 4 (by decide) (nS 4 (by omega))).trans i4, rs.kp hs1 (fun q h1 h2 _ => f.1 q (by omega) (nS q (by omega))) (f.2.1 38 (by decide) (by decide)) (f.2.1 39 (by decide) (by decide)), fun c hc => ?_⟩
  rw [f.1 28 (by decide) (nS 28 (by omega))]
  exact sm c hc
/-- after a call of the reference -/
theorem stR {S T : List Nat} {h1 h2 : HP} {qm qw s : Nat} (f : Fr S T h1 h2) (hS : ∀ q ∈ S, 26 ≤ q ∧ q < 42) (hT : ∀ q ∈ T, 38 ≤ q ∧ q < 40) (n4 : hN h1 4 = L) (i4 : hI h1 4 = xs) (cs : CSx u W H ar al h1 qm qw s) (sc : SC h1 W H sh) : hN h2 4 = L ∧ hI h2 4 = xs ∧ CSx u W H ar al h2 qm qw s ∧ SC h2 W H sh := by
  have nS : ∀ q, q < 26 → q ∉ S := fun q hq hn => by have := hS q hn; omega
  refine ⟨by rw [f.2.1]; exact n4, by rw [f.2.2.2.2.2.1 4 (nS 4 (by decide))]; exact i4, cs.fr f (fun q hq => by have := hS q hq; omega) (fun q hq => by have := hT q hq; omega) (fun k hk => by rw [f.2.2.2.2.2.1 11 (nS 11 (by decide))]; exact cs.2.2.2.1 k hk), fun c hc => ?_⟩
  rw [f.2.2.2.2.2.1 13 (nS 13 (by decide))]
  exact sc c hc
theorem cnd {g : HP} (hs : SH g) (n4 : hN g 4 = L) (hL : L ≤ 3584) {i : Nat} (hi : i + 7 ≤ L) (j : Nat) (hj : j ≤ 6) : (hK g 4 = 10 ∨ hK g 4 = 13) ∧ inB (nI i + nI j) (hN g 4) = true := ⟨Or.inr (by rw [hs.k 4 rfl]; rfl), by rw [n4, nI_add]; exact inB_nI (by omega) (by omega)⟩
theorem k5 {g : HP} (hs : SH g) : hK g 5 = 5 := by rw [hs.k 5 rfl]; rfl
theorem k26 {g : HP} (hs : SH g) : hK g 26 = 6 := by rw [hs.k 26 rfl]; rfl
theorem lg0 (a : Int64) : lg_cmp a a = 0 := (lg_cmp_eq a a).mpr rfl
theorem slS_in : ∀ q ∈ slS, 5 ≤ q ∧ q < 26 := by decide
theorem lw3 (hL : L ≤ 3584) {i : Nat} (hi : i + 7 ≤ L) (v : INV L xs u h) : ∃ h', X (144, 247, [.ref 4, .ref 5, .ref 26, .int (nI i)], [], h) = X (144, 698, [.ref 4, .ref 5, .ref 26, .int (nI i)], [], h') ∧ INV L xs u h' := by
  obtain ⟨n4, i4, W, H, ar, al, sh, qm, qw, s, cs, sc, rs, sm⟩ := v
  have c1 : (hK h 4 = 10 ∨ hK h 4 = 13) ∧ inB (nI i + 1) (hN h 4) = true := cnd cs.1 n4 hL hi 1 (by decide)
  obtain ⟨h1, qm', qw', x1, x2, x3⟩ := s90 cs (hI h 4 (nI i + 1).toNatClampNeg)
  obtain ⟨m4, j4, rs1, sm1⟩ := stCo x3 x2.1 slS_in n4 i4 rs sm
  have sc1 : SC h1 W H sh := fun c hc => by rw [x3.1 13 (by decide) (by decide)]; exact sc c hc
  have d1 : (hK h1 4 = 10 ∨ hK h1 4 = 13) ∧ inB (nI i + 1) (hN h1 4) = true := cnd x2.1 m4 hL hi 1 (by decide)
  obtain ⟨h2, y1, y2, y3, y4⟩ := s123 rs1 (hI h 4 (nI i + 1).toNatClampNeg)
  obtain ⟨p4, q4, cs2, sc2⟩ := stR y2 (by simp) (by simp) m4 j4 x2 sc1
  refine ⟨h2, ?_, p4, q4, W, H, ar, al, sh, qm', qw', 0, cs2, sc2, y4, fun c hc => by rw [y2.2.2.2.2.2.1 28 (by decide)]; exact sm1 c hc⟩
  rw [r144_247, if_pos c1, if_pos (k5 cs.1), x1, bL_s, if_pos d1, if_pos (k26 x2.1), j4, ← i4, y1, bL_s, if_pos (lg0 _)]
theorem lw4 (hL : L ≤ 3584) {i : Nat} (hi : i + 7 ≤ L) (v : INV L xs u h) : ∃ h', X (144, 271, [.ref 4, .ref 5, .ref 26, .int (nI i)], [], h) = X (144, 698, [.ref 4, .ref 5, .ref 26, .int (nI i)], [], h') ∧ INV L xs u h' := by
  obtain ⟨n4, i4, W, H, ar, al, sh, qm, qw, s, cs, sc, rs, sm⟩ := v
  have c1 : (hK h 4 = 10 ∨ hK h 4 = 13) ∧ inB (nI i + 1) (hN h 4) = true := cnd cs.1 n4 hL hi 1 (by decide)
  obtain ⟨h1, qm', qw', x1, x2, x3⟩ := s91 cs (hI h 4 (nI i + 1).toNatClampNeg) .null .null .null .null .null
  obtain ⟨m4, j4, rs1, sm1⟩ := stCo x3 x2.1 slS_in n4 i4 rs sm
  have sc1 : SC h1 W H sh := fun c hc => by rw [x3.1 13 (by decide) (by decide)]; exact sc c hc
  have d1 : (hK h1 4 = 10 ∨ hK h1 4 = 13) ∧ inB (nI i + 1) (hN h1 4) = true := cnd x2.1 m4 hL hi 1 (by decide)
  obtain ⟨h2, y1, y2, y3, y4⟩ := s124 rs1 (hI h 4 (nI i + 1).toNatClampNeg) .null .null .null .null .null
  obtain ⟨p4, q4, cs2, sc2⟩ := stR y2 (by simp) (by simp) m4 j4 x2 sc1
  refine ⟨h2, ?_, p4, q4, W, H, ar, al, sh, qm', qw', 0, cs2, sc2, y4, fun c hc => by rw [y2.2.2.2.2.2.1 28 (by decide)]; exact sm1 c hc⟩
  rw [r144_271, if_pos c1, if_pos (k5 cs.1), x1, bL_s, if_pos d1, if_pos (k26 x2.1), j4, ← i4, y1, bL_s, if_pos (lg0 _)]
theorem lw5 (hL : L ≤ 3584) {i : Nat} (hi : i + 7 ≤ L) (v : INV L xs u h) : ∃ h', X (144, 295, [.ref 4, .ref 5, .ref 26, .int (nI i)], [], h) = X (144, 698, [.ref 4, .ref 5, .ref 26, .int (nI i)], [], h') ∧ INV L xs u h' := by
  have v0 := v
  obtain ⟨n4, i4, W, H, ar, al, sh, qm, qw, s, cs, sc, rs, sm⟩ := v
  have c1 : (hK h 4 = 10 ∨ hK h 4 = 13) ∧ inB (nI i + 1) (hN h 4) = true := cnd cs.1 n4 hL hi 1 (by decide)
  have yes : ∀ w : Bool, hI h 4 (nI i + 1).toNatClampNeg = aI w → ∃ h', X (144, 295, [.ref 4, .ref 5, .ref 26, .int (nI i)], [], h) = X (144, 698, [.ref 4, .ref 5, .ref 26, .int (nI i)], [], h') ∧ INV L xs u h' := by
    intro w e
    obtain ⟨h1, qm', qw', x1, x2, x3⟩ := s92 cs w .null .null .null
    obtain ⟨m4, j4, rs1, sm1⟩ := stCo x3 x2.1 slS_in n4 i4 rs sm
    have sc1 : SC h1 W H sh := fun c hc => by rw [x3.1 13 (by decide) (by decide)]; exact sc c hc
    have d1 : (hK h1 4 = 10 ∨ hK h1 4 = 13) ∧ inB (nI i + 1) (hN h1 4) = true := cnd x2.1 m4 hL hi 1 (by decide)
    obtain ⟨h2, y1, y2, y3, y4⟩ := s125 rs1 w .null .null
    obtain ⟨p4, q4, cs2, sc2⟩ := stR y2 (by simp) (by simp) m4 j4 x2 sc1
    refine ⟨h2, ?_, p4, q4, W, H, ar, al, sh, qm', qw', 0, cs2, sc2, y4, fun c hc => by rw [y2.2.2.2.2.2.1 28 (by decide)]; exact sm1 c hc⟩
    rw [r144_295, if_pos c1, if_pos (k5 cs.1), e, x1, bI_s, if_pos d1, if_pos (k26 x2.1), j4, ← i4, e, y1, bI_s, if_pos rfl]
  by_cases q0 : hI h 4 (nI i + 1).toNatClampNeg = 0
  · exact yes false q0
  · by_cases q1 : hI h 4 (nI i + 1).toNatClampNeg = 1
    · exact yes true q1
    · refine ⟨h, ?_, v0⟩
      rw [r144_295, if_pos c1, if_pos (k5 cs.1), g92_0 _ _ _ _ h cs.1, if_neg q0, if_neg q1, bI_s, if_pos c1, if_pos (k26 cs.1), g125_0 _ _ _ h cs.1, if_neg q0, if_neg q1, bI_s, if_pos rfl]
theorem lw6 (hL : L ≤ 3584) {i : Nat} (hi : i + 7 ≤ L) (v : INV L xs u h) : ∃ h', X (144, 318, [.ref 4, .ref 5, .ref 26, .int (nI i)], [], h) = X (144, 698, [.ref 4, .ref 5, .ref 26, .int (nI i)], [], h') ∧ INV L xs u h' := by
  obtain ⟨n4, i4, W, H, ar, al, sh, qm, qw, s, cs, sc, rs, sm⟩ := v
  have c1 : (hK h 4 = 10 ∨ hK h 4 = 13) ∧ inB (nI i + 1) (hN h 4) = true := cnd cs.1 n4 hL hi 1 (by decide)
  have c2 : (hK h 4 = 10 ∨ hK h 4 = 13) ∧ inB (nI i + 2) (hN h 4) = true := cnd cs.1 n4 hL hi 2 (by decide)
  have c3 : (hK h 4 = 10 ∨ hK h 4 = 13) ∧ inB (nI i + 3) (hN h 4) = true := cnd cs.1 n4 hL hi 3 (by decide)
  obtain ⟨h1, qm', qw', s', x1, x2, x3⟩ := s93 cs (hI h 4 (nI i + 1).toNatClampNeg) (hI h 4 (nI i + 2).toNatClampNeg) (hI h 4 (nI i + 3).toNatClampNeg) .null
  obtain ⟨m4, j4, rs1, sm1⟩ := stCo x3 x2.1 slS_in n4 i4 rs sm
  have sc1 : SC h1 W H sh := fun c hc => by rw [x3.1 13 (by decide) (by decide)]; exact sc c hc
  have d1 : (hK h1 4 = 10 ∨ hK h1 4 = 13) ∧ inB (nI i + 1) (hN h1 4) = true := cnd x2.1 m4 hL hi 1 (by decide)
  have d2 : (hK h1 4 = 10 ∨ hK h1 4 = 13) ∧ inB (nI i + 2) (hN h1 4) = true := cnd x2.1 m4 hL hi 2 (by decide)
  have d3 : (hK h1 4 = 10 ∨ hK h1 4 = 13) ∧ inB (nI i + 3) (hN h1 4) = true := cnd x2.1 m4 hL hi 3 (by decide)
  obtain ⟨h2, y1, y2, y3, y4⟩ := s126 rs1 (hI h 4 (nI i + 1).toNatClampNeg) (hI h 4 (nI i + 2).toNatClampNeg) (hI h 4 (nI i + 3).toNatClampNeg) .null .null .null .null .null
  obtain ⟨p4, q4, cs2, sc2⟩ := stR y2 (by simp) (by simp) m4 j4 x2 sc1
  refine ⟨h2, ?_, p4, q4, W, H, ar, al, sh, qm', qw', s', cs2, sc2, y4, fun c hc => by rw [y2.2.2.2.2.2.1 28 (by decide)]; exact sm1 c hc⟩
  rw [r144_318, if_pos c1, if_pos c2, if_pos c3, if_pos (k5 cs.1), x1, bL_s, if_pos d1, if_pos d2, if_pos d3, if_pos (k26 x2.1), j4, ← i4, y1, bL_s, if_pos (lg0 _)]
theorem lw2 (hL : L ≤ 3584) {i : Nat} (hi : i + 7 ≤ L) (v : INV L xs u h) : ∃ h', X (144, 214, [.ref 4, .ref 5, .ref 26, .int (nI i)], [], h) = X (144, 698, [.ref 4, .ref 5, .ref 26, .int (nI i)], [], h') ∧ INV L xs u h' := by
  have v0 := v
  obtain ⟨n4, i4, W, H, ar, al, sh, qm, qw, s, cs, sc, rs, sm⟩ := v
  have hk := okS_1 cs.2.1.1
  have c1 : (hK h 4 = 10 ∨ hK h 4 = 13) ∧ inB (nI i + 1) (hN h 4) = true := cnd cs.1 n4 hL hi 1 (by decide)
  have c2 : (hK h 4 = 10 ∨ hK h 4 = 13) ∧ inB (nI i + 2) (hN h 4) = true := cnd cs.1 n4 hL hi 2 (by decide)
  refine ⟨h, ?_, v0⟩
  rw [r144_214, if_pos c1, if_pos c2, if_pos (k5 cs.1), s89 cs.2.1 cs.1, bI_s, if_pos c1, if_pos c2, if_pos (k26 cs.1), s109 rs.1.2.1 cs.1, bI_s]
  refine if_pos ?_
  cases hc : cAt W H (hI h 4 (nI i + 1).toNatClampNeg) (hI h 4 (nI i + 2).toNatClampNeg) with
  | none => rfl
  | some c =>
    have hlt := cAt_lt (by omega) (by omega) hc
    show hI h 7 c = hI h 27 c
    rw [(cs.2.2.1 c hlt).1, (rs.1.2.2.1 c hlt).1]
theorem lw8 (hL : L ≤ 3584) {i : Nat} (hi : i + 7 ≤ L) (v : INV L xs u h) : ∃ h', X (144, 405, [.ref 4, .ref 5, .ref 26, .int (nI i)], [], h) = X (144, 698, [.ref 4, .ref 5, .ref 26, .int (nI i)], [], h') ∧ INV L xs u h' := by
  have v0 := v
  obtain ⟨n4, i4, W, H, ar, al, sh, qm, qw, s, cs, sc, rs, sm⟩ := v
  have hk := okS_1 cs.2.1.1
  have c1 : (hK h 4 = 10 ∨ hK h 4 = 13) ∧ inB (nI i + 1) (hN h 4) = true := cnd cs.1 n4 hL hi 1 (by decide)
  have c2 : (hK h 4 = 10 ∨ hK h 4 = 13) ∧ inB (nI i + 2) (hN h 4) = true := cnd cs.1 n4 hL hi 2 (by decide)
  refine ⟨h, ?_, v0⟩
  rw [r144_405, if_pos c1, if_pos c2, if_pos (k5 cs.1), s95 cs.2.1 cs.1, bI_s, if_pos c1, if_pos c2, if_pos (k26 cs.1), s128 rs.1.2.1 cs.1, bI_s]
  refine if_pos ?_
  cases hc : cAt W H (hI h 4 (nI i + 1).toNatClampNeg) (hI h 4 (nI i + 2).toNatClampNeg) with
  | none => rfl
  | some c =>
    have hlt := cAt_lt (by omega) (by omega) hc
    show hI h 13 c = hI h 28 c
    rw [(sc c hlt).1, (sm c hlt).1]
theorem lw9 (hL : L ≤ 3584) {i : Nat} (hi : i + 7 ≤ L) (v : INV L xs u h) : ∃ h', X (144, 438, [.ref 4, .ref 5, .ref 26, .int (nI i)], [], h) = X (144, 698, [.ref 4, .ref 5, .ref 26, .int (nI i)], [], h') ∧ INV L xs u h' := by
  obtain ⟨n4, i4, W, H, ar, al, sh, qm, qw, s, cs, sc, rs, sm⟩ := v
  obtain ⟨h1, x1, x2, x3⟩ := s96 cs.2.1 cs.1 cs.2.2.1 sc cs.2.2.2.1
  have cs1 := cs.fr x2 (by simp) (by simp) x3
  have sc1 : SC h1 W H sh := fun c hc => by rw [x2.2.2.2.2.2.1 13 (by decide)]; exact sc c hc
  obtain ⟨m4, j4, rs1, sm1⟩ := stCo (UF.of (S' := [11, 12]) x2 (by simp) (by simp)) cs1.1 (by simp) n4 i4 rs sm
  obtain ⟨⟨hs1, hm1, ha1, hj1⟩, no1⟩ := rs1
  obtain ⟨h2, y1, y2, y3, y4⟩ := s131 hm1 hs1 ha1 sm1 hj1
  obtain ⟨g, z1, z2, z3, z4⟩ := s130r ⟨⟨hs1, hm1, ha1, hj1⟩, no1⟩ sm1
  have eg : g = h2 := by
    rw [g131_0 h1 hs1, z1, bI_s] at y1
    by_cases q : aI (flB W H ar al sh) = 0
    · rw [if_pos q] at y1; exact (Prod.mk.inj (Option.some.inj y1)).2
    · rw [if_neg q] at y1; exact (Prod.mk.inj (Option.some.inj y1)).2
  obtain ⟨p4, q4, cs2, sc2⟩ := stR y2 (by simp) (by simp) m4 j4 cs1 sc1
  refine ⟨h2, ?_, p4, q4, W, H, ar, al, sh, qm, qw, s, cs2, sc2, by rw [← eg]; exact z3, by rw [← eg]; exact z4⟩
  rw [r144_438, if_pos (k5 cs.1), x1, bI_s, if_pos (k26 cs1.1), y1, bI_s, if_pos rfl]
theorem lw10 (hL : L ≤ 3584) {i : Nat} (hi : i + 7 ≤ L) (v : INV L xs u h) : ∃ h', X (144, 451, [.ref 4, .ref 5, .ref 26, .int (nI i)], [], h) = X (144, 698, [.ref 4, .ref 5, .ref 26, .int (nI i)], [], h') ∧ INV L xs u h' := by
  obtain ⟨n4, i4, W, H, ar, al, sh, qm, qw, s, cs, sc, rs, sm⟩ := v
  obtain ⟨h1, x1, x2, x3⟩ := s97 cs.2.1 cs.1 cs.2.2.1 sc cs.2.2.2.1
  have cs1 := cs.fr x2 (by simp) (by simp) x3
  have sc1 : SC h1 W H sh := fun c hc => by rw [x2.2.2.2.2.2.1 13 (by decide)]; exact sc c hc
  obtain ⟨m4, j4, rs1, sm1⟩ := stCo (UF.of (S' := [11, 12]) x2 (by simp) (by simp)) cs1.1 (by simp) n4 i4 rs sm
  obtain ⟨⟨hs1, hm1, ha1, hj1⟩, no1⟩ := rs1
  obtain ⟨h2, y1, y2, y3, y4, y5⟩ := s129 hm1 hs1 ha1 sm1 hj1 .null
  obtain ⟨g, z1, z2, z3, z4⟩ := s130r ⟨⟨hs1, hm1, ha1, hj1⟩, no1⟩ sm1
  have hm2 : MD h2 W H ar := hm1.fr y2 (y3 0 (by decide) (by decide)) (y3 1 (by decide) (by decide)) (y3 2 (by decide) (by decide)) (by decide) (by decide) (by decide)
  have hs2 := y2.sh hs1 (by simp; omega)
  have eg : g = h2 := by
    rw [g130_0 h1 hs1, y1, bI_s, s106 hm2 hs2, bI_s] at z1
    by_cases q : nI (rn W H ar al sh (W * H) 0 0 0).1 = nI (W * H)
    · rw [if_pos q] at z1; exact (Prod.mk.inj (Option.some.inj z1)).2.symm
    · rw [if_neg q] at z1; exact (Prod.mk.inj (Option.some.inj z1)).2.symm
  obtain ⟨p4, q4, cs2, sc2⟩ := stR y2 (by simp) (by simp) m4 j4 cs1 sc1
  refine ⟨h2, ?_, p4, q4, W, H, ar, al, sh, qm, qw, s, cs2, sc2, by rw [← eg]; exact z3, by rw [← eg]; exact z4⟩
  rw [r144_451, if_pos (k5 cs.1), x1, bI_s, if_pos (k26 cs1.1), y1, bI_s, if_pos rfl]
theorem lw12 (hL : L ≤ 3584) {i : Nat} (hi : i + 7 ≤ L) (v : INV L xs u h) : ∃ h', X (144, 527, [.ref 4, .ref 5, .ref 26, .int (nI i)], [], h) = X (144, 698, [.ref 4, .ref 5, .ref 26, .int (nI i)], [], h') ∧ INV L xs u h' := by
  obtain ⟨n4, i4, W, H, ar, al, sh, qm, qw, s, cs, sc, rs, sm⟩ := v
  have c1 : (hK h 4 = 10 ∨ hK h 4 = 13) ∧ inB (nI i + 1) (hN h 4) = true := cnd cs.1 n4 hL hi 1 (by decide)
  have go : ∀ a : Int32, ∃ h1 h2, X (99, 0, [.ref 5, .int a], [], h) = some (some (.long (rkA W H ar al sh (decide (a = 0)))), h1) ∧ X (134, 0, [.ref 26, .int a, .null, .null, .null, .null, .null, .null], [], h1) = some (some (.long (rkA W H ar al sh (decide (a = 0)))), h2) ∧ SH h1 ∧ hN h1 4 = L ∧ hI h1 4 = xs ∧ INV L xs u h2 := by
    intro a
    obtain ⟨h1, qm', qw', s', x1, x2, x3⟩ := s99 cs sc a
    have sc1 : SC h1 W H sh := fun c hc => by rw [x3.1 13 (by decide) (by decide)]; exact sc c hc
    obtain ⟨m4, j4, rs1, sm1⟩ := stCo x3 x2.1 (by decide) n4 i4 rs sm
    obtain ⟨h2, y1, y2, y3⟩ := s134 rs1 sm1 a .null .null .null .null .null .null
    obtain ⟨p4, q4, cs2, sc2⟩ := stR y2 (by simp) (by simp) m4 j4 x2 sc1
    exact ⟨h1, h2, x1, y1, x2.1, m4, j4, p4, q4, W, H, ar, al, sh, qm', qw', s', cs2, sc2, y3, fun c hc => by rw [y2.2.2.2.2.2.1 28 (by decide)]; exact sm1 c hc⟩
  by_cases q : hI h 4 (nI i + 1).toNatClampNeg = 0
  · obtain ⟨h1, h2, x1, y1, s1, m4, j4, iv⟩ := go 0
    have d1 : (hK h1 4 = 10 ∨ hK h1 4 = 13) ∧ inB (nI i + 1) (hN h1 4) = true := cnd s1 m4 hL hi 1 (by decide)
    refine ⟨h2, ?_, iv⟩
    rw [r144_527, if_pos c1, if_pos q, if_pos (k5 cs.1), x1, bL_s, if_pos d1, j4, ← i4, if_pos q, if_pos (k26 s1), y1, bL_s, if_pos (lg0 _)]
  · obtain ⟨h1, h2, x1, y1, s1, m4, j4, iv⟩ := go 1
    have d1 : (hK h1 4 = 10 ∨ hK h1 4 = 13) ∧ inB (nI i + 1) (hN h1 4) = true := cnd s1 m4 hL hi 1 (by decide)
    refine ⟨h2, ?_, iv⟩
    rw [r144_527, if_pos c1, if_neg q, if_pos (k5 cs.1), x1, bL_s, if_pos d1, j4, ← i4, if_neg q, if_pos (k26 s1), y1, bL_s, if_pos (lg0 _)]
theorem lw13 (hL : L ≤ 3584) {i : Nat} (hi : i + 7 ≤ L) (v : INV L xs u h) : ∃ h', X (144, 567, [.ref 4, .ref 5, .ref 26, .int (nI i)], [], h) = X (144, 698, [.ref 4, .ref 5, .ref 26, .int (nI i)], [], h') ∧ INV L xs u h' := by
  obtain ⟨n4, i4, W, H, ar, al, sh, qm, qw, s, cs, sc, rs, sm⟩ := v
  have c1 : (hK h 4 = 10 ∨ hK h 4 = 13) ∧ inB (nI i + 1) (hN h 4) = true := cnd cs.1 n4 hL hi 1 (by decide)
  have c2 : (hK h 4 = 10 ∨ hK h 4 = 13) ∧ inB (nI i + 2) (hN h 4) = true := cnd cs.1 n4 hL hi 2 (by decide)
  have c3 : (hK h 4 = 10 ∨ hK h 4 = 13) ∧ inB (nI i + 3) (hN h 4) = true := cnd cs.1 n4 hL hi 3 (by decide)
  obtain ⟨h1, x1, x2, x3⟩ := s100 cs sc (hI h 4 (nI i + 1).toNatClampNeg) (hI h 4 (nI i + 2).toNatClampNeg) (hI h 4 (nI i + 3).toNatClampNeg) .null .null
  have cs1 := cs.fr x2 (by simp) (by simp) x3
  have sc1 : SC h1 W H sh := fun c hc => by rw [x2.2.2.2.2.2.1 13 (by decide)]; exact sc c hc
  obtain ⟨m4, j4, rs1, sm1⟩ := stCo (UF.of (S' := [11, 12, 14]) x2 (by simp) (by simp)) cs1.1 (by simp) n4 i4 rs sm
  have d1 : (hK h1 4 = 10 ∨ hK h1 4 = 13) ∧ inB (nI i + 1) (hN h1 4) = true := cnd cs1.1 m4 hL hi 1 (by decide)
  have d2 : (hK h1 4 = 10 ∨ hK h1 4 = 13) ∧ inB (nI i + 2) (hN h1 4) = true := cnd cs1.1 m4 hL hi 2 (by decide)
  have d3 : (hK h1 4 = 10 ∨ hK h1 4 = 13) ∧ inB (nI i + 3) (hN h1 4) = true := cnd cs1.1 m4 hL hi 3 (by decide)
  obtain ⟨h2, y1, y2, y3⟩ := s140 rs1 sm1 (hI h 4 (nI i + 1).toNatClampNeg) (hI h 4 (nI i + 2).toNatClampNeg) (hI h 4 (nI i + 3).toNatClampNeg) .null
  obtain ⟨p4, q4, cs2, sc2⟩ := stR y2 (by simp) (by simp) m4 j4 cs1 sc1
  refine ⟨h2, ?_, p4, q4, W, H, ar, al, sh, qm, qw, s, cs2, sc2, y3, fun c hc => by rw [y2.2.2.2.2.2.1 28 (by decide)]; exact sm1 c hc⟩
  rw [r144_567, if_pos c1, if_pos c2, if_pos c3, if_pos (k5 cs.1), x1, bI_s, if_pos d1, if_pos d2, if_pos d3, if_pos (k26 cs1.1), j4, ← i4, y1, bI_s, if_pos rfl]
theorem lw14 (hL : L ≤ 3584) {i : Nat} (hi : i + 7 ≤ L) (v : INV L xs u h) : ∃ h', X (144, 610, [.ref 4, .ref 5, .ref 26, .int (nI i)], [], h) = X (144, 698, [.ref 4, .ref 5, .ref 26, .int (nI i)], [], h') ∧ INV L xs u h' := by
  obtain ⟨n4, i4, W, H, ar, al, sh, qm, qw, s, cs, sc, rs, sm⟩ := v
  obtain ⟨h1, a, x1, x2, x3, x4⟩ := s101 cs sc
  have cs1 := cs.fr x2 (by simp) (by simp) x3
  have sc1 : SC h1 W H sh := fun c hc => by rw [x2.2.2.2.2.2.1 13 (by decide)]; exact sc c hc
  obtain ⟨m4, j4, rs1, sm1⟩ := stCo (UF.of (S' := [11, 12, 14]) x2 (by simp) (by simp)) cs1.1 (by simp) n4 i4 rs sm
  obtain ⟨h2, b, y1, y2, y3, y4⟩ := s141 rs1 sm1 .null .null
  obtain ⟨p4, q4, cs2, sc2⟩ := stR y2 (by simp) (by simp) m4 j4 cs1 sc1
  have e : a = b := by
    rcases x4 with ⟨f1, rfl⟩ | ⟨f1, G, rfl, g1⟩
    · rcases y4 with ⟨f2, rfl⟩ | ⟨f2, -⟩
      · rfl
      · rw [f1] at f2; cases f2
    · rcases y4 with ⟨f2, -⟩ | ⟨f2, G', rfl, g2⟩
      · rw [f1] at f2; cases f2
      · rw [g1.uq g2]
  refine ⟨h2, ?_, p4, q4, W, H, ar, al, sh, qm, qw, s, cs2, sc2, y3, fun c hc => by rw [y2.2.2.2.2.2.1 28 (by decide)]; exact sm1 c hc⟩
  rw [r144_610, if_pos (k5 cs.1), x1, bI_s, if_pos (k26 cs1.1), y1, bI_s, if_pos e]
theorem lw15 (hL : L ≤ 3584) {i : Nat} (hi : i + 7 ≤ L) (v : INV L xs u h) : ∃ h', X (144, 623, [.ref 4, .ref 5, .ref 26, .int (nI i)], [], h) = X (144, 698, [.ref 4, .ref 5, .ref 26, .int (nI i)], [], h') ∧ INV L xs u h' := by
  obtain ⟨n4, i4, W, H, ar, al, sh, qm, qw, s, cs, sc, rs, sm⟩ := v
  have c1 : (hK h 4 = 10 ∨ hK h 4 = 13) ∧ inB (nI i + 1) (hN h 4) = true := cnd cs.1 n4 hL hi 1 (by decide)
  have c2 : (hK h 4 = 10 ∨ hK h 4 = 13) ∧ inB (nI i + 2) (hN h 4) = true := cnd cs.1 n4 hL hi 2 (by decide)
  have c3 : (hK h 4 = 10 ∨ hK h 4 = 13) ∧ inB (nI i + 3) (hN h 4) = true := cnd cs.1 n4 hL hi 3 (by decide)
  have c4 : (hK h 4 = 10 ∨ hK h 4 = 13) ∧ inB (nI i + 4) (hN h 4) = true := cnd cs.1 n4 hL hi 4 (by decide)
  have c5 : (hK h 4 = 10 ∨ hK h 4 = 13) ∧ inB (nI i + 5) (hN h 4) = true := cnd cs.1 n4 hL hi 5 (by decide)
  have c6 : (hK h 4 = 10 ∨ hK h 4 = 13) ∧ inB (nI i + 6) (hN h 4) = true := cnd cs.1 n4 hL hi 6 (by decide)
  obtain ⟨h1, x1, x2, x3⟩ := s102 cs sc (hI h 4 (nI i + 1).toNatClampNeg) (hI h 4 (nI i + 2).toNatClampNeg) (hI h 4 (nI i + 3).toNatClampNeg) (hI h 4 (nI i + 4).toNatClampNeg) (hI h 4 (nI i + 5).toNatClampNeg) (hI h 4 (nI i + 6).toNatClampNeg) .null .null
  have cs1 := cs.fr x2 (by simp) (by simp) x3
  have sc1 : SC h1 W H sh := fun c hc => by rw [x2.2.2.2.2.2.1 13 (by decide)]; exact sc c hc
  obtain ⟨m4, j4, rs1, sm1⟩ := stCo (UF.of (S' := [11, 12, 14]) x2 (by simp) (by simp)) cs1.1 (by simp) n4 i4 rs sm
  have d1 : (hK h1 4 = 10 ∨ hK h1 4 = 13) ∧ inB (nI i + 1) (hN h1 4) = true := cnd cs1.1 m4 hL hi 1 (by decide)
  have d2 : (hK h1 4 = 10 ∨ hK h1 4 = 13) ∧ inB (nI i + 2) (hN h1 4) = true := cnd cs1.1 m4 hL hi 2 (by decide)
  have d3 : (hK h1 4 = 10 ∨ hK h1 4 = 13) ∧ inB (nI i + 3) (hN h1 4) = true := cnd cs1.1 m4 hL hi 3 (by decide)
  have d4 : (hK h1 4 = 10 ∨ hK h1 4 = 13) ∧ inB (nI i + 4) (hN h1 4) = true := cnd cs1.1 m4 hL hi 4 (by decide)
  have d5 : (hK h1 4 = 10 ∨ hK h1 4 = 13) ∧ inB (nI i + 5) (hN h1 4) = true := cnd cs1.1 m4 hL hi 5 (by decide)
  have d6 : (hK h1 4 = 10 ∨ hK h1 4 = 13) ∧ inB (nI i + 6) (hN h1 4) = true := cnd cs1.1 m4 hL hi 6 (by decide)
  obtain ⟨h2, y1, y2, y3⟩ := s142 rs1 sm1 (hI h 4 (nI i + 1).toNatClampNeg) (hI h 4 (nI i + 2).toNatClampNeg) (hI h 4 (nI i + 3).toNatClampNeg) (hI h 4 (nI i + 4).toNatClampNeg) (hI h 4 (nI i + 5).toNatClampNeg) (hI h 4 (nI i + 6).toNatClampNeg) .null .null
  obtain ⟨p4, q4, cs2, sc2⟩ := stR y2 (by simp) (by simp) m4 j4 cs1 sc1
  refine ⟨h2, ?_, p4, q4, W, H, ar, al, sh, qm, qw, s, cs2, sc2, y3, fun c hc => by rw [y2.2.2.2.2.2.1 28 (by decide)]; exact sm1 c hc⟩
  rw [r144_623, if_pos c1, if_pos c2, if_pos c3, if_pos c4, if_pos c5, if_pos c6, if_pos (k5 cs.1), x1, bI_s, if_pos d1, if_pos d2, if_pos d3, if_pos d4, if_pos d5, if_pos d6, if_pos (k26 cs1.1), j4, ← i4, y1, bI_s, if_pos rfl]
theorem lw11 (hL : L ≤ 3584) {i : Nat} (hi : i + 7 ≤ L) (v : INV L xs u h) : ∃ h', X (144, 464, [.ref 4, .ref 5, .ref 26, .int (nI i)], [], h) = X (144, 698, [.ref 4, .ref 5, .ref 26, .int (nI i)], [], h') ∧ INV L xs u h' := by
  obtain ⟨n4, i4, W, H, ar, al, sh, qm, qw, s, cs, sc, rs, sm⟩ := v
  have c1 : (hK h 4 = 10 ∨ hK h 4 = 13) ∧ inB (nI i + 1) (hN h 4) = true := cnd cs.1 n4 hL hi 1 (by decide)
  have c2 : (hK h 4 = 10 ∨ hK h 4 = 13) ∧ inB (nI i + 2) (hN h 4) = true := cnd cs.1 n4 hL hi 2 (by decide)
  have c3 : (hK h 4 = 10 ∨ hK h 4 = 13) ∧ inB (nI i + 3) (hN h 4) = true := cnd cs.1 n4 hL hi 3 (by decide)
  generalize hB : (((hI h 4 (nI i + 2).toNatClampNeg).toInt64) <<< ((32 : Int32).toInt64 &&& 63)) ||| (((hI h 4 (nI i + 3).toNatClampNeg).toInt64) &&& 4294967295) = B
  obtain ⟨h1, qm', qw', x1, x2, x3, x4, x5⟩ := s98 cs (hI h 4 (nI i + 1).toNatClampNeg) B .null
  obtain ⟨m4, j4, rs1, sm1⟩ := stCo x3 x2.1 (by decide) n4 i4 rs sm
  have d1 : (hK h1 4 = 10 ∨ hK h1 4 = 13) ∧ inB (nI i + 1) (hN h1 4) = true := cnd x2.1 m4 hL hi 1 (by decide)
  have d2 : (hK h1 4 = 10 ∨ hK h1 4 = 13) ∧ inB (nI i + 2) (hN h1 4) = true := cnd x2.1 m4 hL hi 2 (by decide)
  have d3 : (hK h1 4 = 10 ∨ hK h1 4 = 13) ∧ inB (nI i + 3) (hN h1 4) = true := cnd x2.1 m4 hL hi 3 (by decide)
  obtain ⟨h2, y1, y2, y3, y4, y5, y6⟩ := s132 rs1 (hI h 4 (nI i + 1).toNatClampNeg) B .null .null .null .null .null .null .null .null .null
  have e : X (144, 464, [.ref 4, .ref 5, .ref 26, .int (nI i)], [], h) = X (144, 698, [.ref 4, .ref 5, .ref 26, .int (nI i)], [], h2) := by
    rw [r144_464, if_pos c1, if_pos c2, if_pos c3, if_pos (k5 cs.1), hB, x1, bI_s, if_pos d1, if_pos d2, if_pos d3, if_pos (k26 x2.1), j4, ← i4, hB, y1, bI_s, if_pos rfl]
  have nS : ∀ q, q < 26 → q ∉ ([26, 28, 32, 33, 34, 35, 36, 37, 40] : List Nat) := fun q hq hn => by
    have : ∀ q ∈ ([26, 28, 32, 33, 34, 35, 36, 37, 40] : List Nat), 26 ≤ q := by decide
    have := this q hn
    omega
  have e13 : hI h2 13 = hI h1 13 := y2.2.2.2.2.2.1 13 (nS 13 (by decide))
  cases ef : fdO W H ar al (hI h 4 (nI i + 1).toNatClampNeg) B with
  | none =>
    have sc1 : SC h1 W H sh := fun c hc => by rw [x4 ef]; exact sc c hc
    obtain ⟨p4, q4, cs2, sc2⟩ := stR y2 (by simp) (by simp) m4 j4 x2 sc1
    exact ⟨h2, e, p4, q4, W, H, ar, al, sh, qm', qw', 0, cs2, sc2, y3, fun c hc => by rw [y5 ef]; exact sm1 c hc⟩
  | some l =>
    have sc1 : SC h1 W H (fun c => l.getD c 0) := fun c hc => x5 l ef c hc
    obtain ⟨p4, q4, cs2, sc2⟩ := stR y2 (by simp) (by simp) m4 j4 x2 sc1
    exact ⟨h2, e, p4, q4, W, H, ar, al, fun c => l.getD c 0, qm', qw', 0, cs2, sc2, y3, fun c hc => ⟨y6 l ef c hc, (x5 l ef c hc).2⟩⟩
theorem lw7 (hL : L ≤ 3584) {i : Nat} (hi : i + 7 ≤ L) (v : INV L xs u h) : ∃ h', X (144, 362, [.ref 4, .ref 5, .ref 26, .int (nI i)], [], h) = X (144, 698, [.ref 4, .ref 5, .ref 26, .int (nI i)], [], h') ∧ INV L xs u h' := by
  have v0 := v
  obtain ⟨n4, i4, W, H, ar, al, sh, qm, qw, s, cs, sc, rs, sm⟩ := v
  have hk := okS_1 cs.2.1.1
  have c1 : (hK h 4 = 10 ∨ hK h 4 = 13) ∧ inB (nI i + 1) (hN h 4) = true := cnd cs.1 n4 hL hi 1 (by decide)
  have c2 : (hK h 4 = 10 ∨ hK h 4 = 13) ∧ inB (nI i + 2) (hN h 4) = true := cnd cs.1 n4 hL hi 2 (by decide)
  have c3 : (hK h 4 = 10 ∨ hK h 4 = 13) ∧ inB (nI i + 3) (hN h 4) = true := cnd cs.1 n4 hL hi 3 (by decide)
  have m := s94 cs.2.1 cs.1 (hI h 4 (nI i + 1).toNatClampNeg) (hI h 4 (nI i + 2).toNatClampNeg) (hI h 4 (nI i + 3).toNatClampNeg) .null .null
  have r := fun g hm hs => s127 (h := g) (W := W) (H := H) (ar := ar) hm hs (hI h 4 (nI i + 1).toNatClampNeg) (hI h 4 (nI i + 2).toNatClampNeg) (hI h 4 (nI i + 3).toNatClampNeg) .null
  cases ep : ptA W H (hI h 4 (nI i + 1).toNatClampNeg) (hI h 4 (nI i + 2).toNatClampNeg) (hI h 4 (nI i + 3).toNatClampNeg) with
  | none =>
    rw [ep] at m
    have r := r h rs.1.2.1 cs.1
    rw [ep] at r
    refine ⟨h, ?_, v0⟩
    rw [r144_362, if_pos c1, if_pos c2, if_pos c3, if_pos (k5 cs.1), m, bI_s, if_pos c1, if_pos c2, if_pos c3, if_pos (k26 cs.1), r, bI_s, if_pos rfl]
  | some c =>
    rw [ep] at m
    have hin : inB (hI h 4 (nI i + 3).toNatClampNeg) 10 = true ∧ cAt W H (hI h 4 (nI i + 1).toNatClampNeg) (hI h 4 (nI i + 2).toNatClampNeg) = some c := by
      unfold ptA at ep
      by_cases q : inB (hI h 4 (nI i + 3).toNatClampNeg) 10 = true
      · rw [if_pos q] at ep; exact ⟨q, ep⟩
      · rw [if_neg q] at ep; cases ep
    obtain ⟨t, ht, et⟩ := vp_in_of (inB_in hin.1) (by decide)
    have hlt := cAt_lt (by omega) (by omega) hin.2
    have m : X (94, 0, [.ref 5, .int (hI h 4 (nI i + 1).toNatClampNeg), .int (hI h 4 (nI i + 2).toNatClampNeg), .int (hI h 4 (nI i + 3).toNatClampNeg), .null, .null], [], h) = some (some (.int (hI h 13 c)), sI h 13 c (hI h 4 (nI i + 3).toNatClampNeg)) := m
    generalize hG : sI h 13 c (hI h 4 (nI i + 3).toNatClampNeg) = g at m
    have gF : Fr [13] [] h g := by rw [← hG]; exact Fr.sI (by simp)
    have gj : JK g := fun k hk => by rw [gF.2.2.2.2.2.1 11 (by decide)]; exact cs.2.2.2.1 k hk
    have gc := cs.fr gF (by simp) (by simp) gj
    have g4 : hI g 4 = hI h 4 := gF.2.2.2.2.2.1 4 (by decide)
    obtain ⟨m4, j4, rs1, sm1⟩ := stCo (UF.of (S' := [13]) gF (by simp) (by simp)) gc.1 (by simp) n4 i4 rs sm
    have r := r g rs1.1.2.1 gc.1
    rw [ep] at r
    have d1 : (hK g 4 = 10 ∨ hK g 4 = 13) ∧ inB (nI i + 1) (hN g 4) = true := cnd gc.1 m4 hL hi 1 (by decide)
    have d2 : (hK g 4 = 10 ∨ hK g 4 = 13) ∧ inB (nI i + 2) (hN g 4) = true := cnd gc.1 m4 hL hi 2 (by decide)
    have d3 : (hK g 4 = 10 ∨ hK g 4 = 13) ∧ inB (nI i + 3) (hN g 4) = true := cnd gc.1 m4 hL hi 3 (by decide)
    have r : X (127, 0, [.ref 26, .int (hI h 4 (nI i + 1).toNatClampNeg), .int (hI h 4 (nI i + 2).toNatClampNeg), .int (hI h 4 (nI i + 3).toNatClampNeg), .null], [], g) = some (some (.int (hI g 28 c)), sI g 28 c (hI h 4 (nI i + 3).toNatClampNeg)) := r
    generalize hE : sI g 28 c (hI h 4 (nI i + 3).toNatClampNeg) = e at r
    have eF : Fr [28] [] g e := by rw [← hE]; exact Fr.sI (by simp)
    have sc1 : SC g W H (fun d => if d = c then t else sh d) := fun d hd => by
      rw [← hG]
      show hI (sI h 13 c _) 13 d = nI (if d = c then t else sh d) ∧ (if d = c then t else sh d) < 10
      by_cases q : d = c
      · rw [q, if_pos rfl, hI_sI_same]; exact ⟨et, ht⟩
      · rw [if_neg q, hI_sI_ne _ _ q]; exact sc d hd
    obtain ⟨p4, q4, cs2, sc2⟩ := stR eF (by simp) (by simp) m4 j4 gc sc1
    have er : hI h 13 c = hI g 28 c := by rw [(sc c hlt).1, (sm1 c hlt).1]
    refine ⟨e, ?_, p4, q4, W, H, ar, al, fun d => if d = c then t else sh d, qm, qw, s, cs2, sc2, rs1.kp cs2.1 (fun q h1 h2 h3 => eF.2.2.2.2.2.1 q (by simp; exact h3)) (eF.2.2.2.2.2.2 38 (by simp)) (eF.2.2.2.2.2.2 39 (by simp)), fun d hd => ?_⟩
    · rw [r144_362, if_pos c1, if_pos c2, if_pos c3, if_pos (k5 cs.1), m, bI_s, if_pos d1, if_pos d2, if_pos d3, if_pos (k26 gc.1), g4, r, bI_s, if_pos er]
    · rw [← hE]
      show hI (sI g 28 c _) 28 d = nI (if d = c then t else sh d) ∧ (if d = c then t else sh d) < 10
      by_cases q : d = c
      · rw [q, if_pos rfl, hI_sI_same]; exact ⟨et, ht⟩
      · rw [if_neg q, hI_sI_ne _ _ q]; exact sm1 d hd
end Cl
