/-! board, allow; the law's loop -/
section Lo
variable {W H : Nat} {ar : Bool} {al sh : Nat → Nat} {L : Nat} {xs : Nat → Int32} {u : Nat} {h : HP}
theorem CSx.bd {W' H' : Nat} {ar' : Bool} {h' : HP} {qm qw s : Nat} (cs : CSx u W H ar al h qm qw s) (f : Fr [6, 7, 8, 9, 13, 15] [] h h') (hb' : BD h' W' H' ar') (r7 : ∀ c, c < 20 → hI h' 7 c = 1023) (h7 : hI h' 15 7 = nI 21) : CSx u W' H' ar' (fun _ => 1023) h' qm qw 21 := by
  obtain ⟨hs, hb, ha, hj, h180, h170, ⟨qa, qb, rf⟩, rl, ⟨acc, mv⟩, wv, pZ, pU, bt, -, hs21, hv⟩ := cs
  have h20 := (okS_1 hb'.1).2.2.1
  have m21 := mv.2.1
  have f' := f
  obtain ⟨a1, a2, a3, a4, a5, a6, a7⟩ := f
  refine ⟨f'.sh hs (by decide), hb', fun c hc => ⟨r7 c (by omega), (show 1023 < 1024 by decide)⟩, fun k hk => by rw [a6 11 (by decide)]; exact hj k hk, by rw [a6 18 (by decide)]; exact h180, by rw [a6 17 (by decide)]; exact h170, ⟨qa, qb, by rw [a3]; exact rf.1, by rw [a3]; exact rf.2.1, rf.2.2⟩, by unfold RLg; rw [a3]; exact rl, ⟨acc, mv.fr (by rw [a3]) (by rw [a4]; exact Nat.le_refl _) (by rw [a1]) (by rw [a2]) (a6 qm (by simp; omega)) (by rw [a6 16 (by decide)])⟩, wv.fr f', by rw [a4, a2]; exact pZ, by rw [a5, a2]; exact pU, ?_, h7, by omega, fun q => by omega⟩
  rcases bt with bt | ⟨W', H', ar', o, mo⟩
  · left; rw [a6 16 (by decide)]; exact bt
  · right; exact ⟨W', H', ar', o, mo.fr f' (by decide) (by decide) (by simp; omega)⟩
theorem lw0 (hL : L ≤ 3584) {i : Nat} (hi : i + 7 ≤ L) (v : INV L xs u h) : ∃ h', X (144, 112, [.ref 4, .ref 5, .ref 26, .int (nI i)], [], h) = X (144, 698, [.ref 4, .ref 5, .ref 26, .int (nI i)], [], h') ∧ INV L xs u h' := by
  have v0 := v
  obtain ⟨n4, i4, W, H, ar, al, sh, qm, qw, s, cs, sc, rs, sm⟩ := v
  have c1 : (hK h 4 = 10 ∨ hK h 4 = 13) ∧ inB (nI i + 1) (hN h 4) = true := cnd cs.1 n4 hL hi 1 (by decide)
  have c2 : (hK h 4 = 10 ∨ hK h 4 = 13) ∧ inB (nI i + 2) (hN h 4) = true := cnd cs.1 n4 hL hi 2 (by decide)
  have c3 : (hK h 4 = 10 ∨ hK h 4 = 13) ∧ inB (nI i + 3) (hN h 4) = true := cnd cs.1 n4 hL hi 3 (by decide)
  have go : ∀ (w v : Int32) (b : Bool), ∃ r h1 h2, X (86, 0, [.ref 5, .int w, .int v, .int (aI b)], [], h) = some (some (.int r), h1) ∧ X (105, 0, [.ref 26, .int w, .int v, .int (aI b), .null], [], h1) = some (some (.int r), h2) ∧ SH h1 ∧ hN h1 4 = L ∧ hI h1 4 = xs ∧ INV L xs u h2 := by
    intro w v b
    cases ok : okI w v b with
    | false => exact ⟨0, h, h, s86n ok h cs.1, s105n ok .null h cs.1, cs.1, n4, i4, v0⟩
    | true =>
      obtain ⟨W', H', rfl, rfl, hk'⟩ := okI_t ok
      have h20 := (okS_1 hk').2.2.1
      obtain ⟨h1, x1, x2, x3, x4, x5, x6⟩ := s86 hk' h cs.1
      have cs1 := cs.bd x2 x3 (fun c hc => (x4 c hc).1) x5
      obtain ⟨m4, j4, rs1, sm1⟩ := stCo (UF.of (S' := [6, 7, 8, 9, 13, 15]) x2 (by simp) (by simp)) cs1.1 (by decide) n4 i4 rs sm
      obtain ⟨⟨hs1, hm1, ha1, hj1⟩, no1⟩ := rs1
      obtain ⟨h2, y1, y2, y3, y4, y5⟩ := s105 hk' .null h1 cs1.1 ⟨hm1.2.2.2.2.1, hm1.2.2.2.2.2.1, hm1.2.2.2.2.2.2⟩
      have sc1 : SC h1 W' H' (fun _ => 0) := fun c hc => ⟨(x4 c (by omega)).2, (show 0 < 10 by decide)⟩
      obtain ⟨p4, q4, cs2, sc2⟩ := stR y2 (by simp) (by simp) m4 j4 cs1 sc1
      refine ⟨1, h1, h2, x1, y1, cs1.1, m4, j4, p4, q4, W', H', b, fun _ => 1023, fun _ => 0, qm, qw, 21, cs2, sc2, ⟨⟨cs2.1, y3, fun c hc => ⟨(y5 c (by omega)).1, (show 1023 < 1024 by decide)⟩, fun k hk => by rw [y2.2.2.2.2.2.1 32 (by decide)]; exact hj1 k hk⟩, Or.inl y4⟩, fun c hc => ⟨(y5 c (by omega)).2, (show 0 < 10 by decide)⟩⟩
  by_cases q : hI h 4 (nI i + 3).toNatClampNeg = 0
  · obtain ⟨r, h1, h2, x1, y1, s1, m4, j4, iv⟩ := go (hI h 4 (nI i + 1).toNatClampNeg) (hI h 4 (nI i + 2).toNatClampNeg) false
    have d1 : (hK h1 4 = 10 ∨ hK h1 4 = 13) ∧ inB (nI i + 1) (hN h1 4) = true := cnd s1 m4 hL hi 1 (by decide)
    have d2 : (hK h1 4 = 10 ∨ hK h1 4 = 13) ∧ inB (nI i + 2) (hN h1 4) = true := cnd s1 m4 hL hi 2 (by decide)
    have d3 : (hK h1 4 = 10 ∨ hK h1 4 = 13) ∧ inB (nI i + 3) (hN h1 4) = true := cnd s1 m4 hL hi 3 (by decide)
    have x1 : X (86, 0, [.ref 5, .int (hI h 4 (nI i + 1).toNatClampNeg), .int (hI h 4 (nI i + 2).toNatClampNeg), .int 0], [], h) = _ := x1
    have y1 : X (105, 0, [.ref 26, .int (hI h 4 (nI i + 1).toNatClampNeg), .int (hI h 4 (nI i + 2).toNatClampNeg), .int 0, .null], [], h1) = _ := y1
    refine ⟨h2, ?_, iv⟩
    rw [r144_112, if_pos c1, if_pos c2, if_pos c3, if_pos q, if_pos (k5 cs.1), x1, bI_s, if_pos d1, if_pos d2, if_pos d3, j4, ← i4, if_pos q, if_pos (k26 s1), y1, bI_s, if_pos rfl]
  · obtain ⟨r, h1, h2, x1, y1, s1, m4, j4, iv⟩ := go (hI h 4 (nI i + 1).toNatClampNeg) (hI h 4 (nI i + 2).toNatClampNeg) true
    have d1 : (hK h1 4 = 10 ∨ hK h1 4 = 13) ∧ inB (nI i + 1) (hN h1 4) = true := cnd s1 m4 hL hi 1 (by decide)
    have d2 : (hK h1 4 = 10 ∨ hK h1 4 = 13) ∧ inB (nI i + 2) (hN h1 4) = true := cnd s1 m4 hL hi 2 (by decide)
    have d3 : (hK h1 4 = 10 ∨ hK h1 4 = 13) ∧ inB (nI i + 3) (hN h1 4) = true := cnd s1 m4 hL hi 3 (by decide)
    have x1 : X (86, 0, [.ref 5, .int (hI h 4 (nI i + 1).toNatClampNeg), .int (hI h 4 (nI i + 2).toNatClampNeg), .int 1], [], h) = _ := x1
    have y1 : X (105, 0, [.ref 26, .int (hI h 4 (nI i + 1).toNatClampNeg), .int (hI h 4 (nI i + 2).toNatClampNeg), .int 1, .null], [], h1) = _ := y1
    refine ⟨h2, ?_, iv⟩
    rw [r144_112, if_pos c1, if_pos c2, if_pos c3, if_neg q, if_pos (k5 cs.1), x1, bI_s, if_pos d1, if_pos d2, if_pos d3, j4, ← i4, if_neg q, if_pos (k26 s1), y1, bI_s, if_pos rfl]
theorem lw1 (hL : L ≤ 3584) {i : Nat} (hi : i + 7 ≤ L) (v : INV L xs u h) : ∃ h', X (144, 171, [.ref 4, .ref 5, .ref 26, .int (nI i)], [], h) = X (144, 698, [.ref 4, .ref 5, .ref 26, .int (nI i)], [], h') ∧ INV L xs u h' := by
  have v0 := v
  obtain ⟨n4, i4, W, H, ar, al, sh, qm, qw, s, cs, sc, rs, sm⟩ := v
  have h20 := (okS_1 cs.2.1.1).2.2.1
  have c1 : (hK h 4 = 10 ∨ hK h 4 = 13) ∧ inB (nI i + 1) (hN h 4) = true := cnd cs.1 n4 hL hi 1 (by decide)
  have c2 : (hK h 4 = 10 ∨ hK h 4 = 13) ∧ inB (nI i + 2) (hN h 4) = true := cnd cs.1 n4 hL hi 2 (by decide)
  have c3 : (hK h 4 = 10 ∨ hK h 4 = 13) ∧ inB (nI i + 3) (hN h 4) = true := cnd cs.1 n4 hL hi 3 (by decide)
  obtain ⟨hs, hb, ha, hj, h180, h170, ⟨qa, qb, rf⟩, rl, ⟨acc, mv⟩, wv, pZ, pU, bt, h7, hs21, hv⟩ := cs
  have m21 := mv.2.1
  have w23 := wv.2.1
  rcases s87 hb hs (hI h 4 (nI i + 1).toNatClampNeg) (hI h 4 (nI i + 2).toNatClampNeg) (hI h 4 (nI i + 3).toNatClampNeg) h7 hs21 .null .null with ⟨n1, n2, x1⟩ | ⟨q, h1, s', x1, pm, ps, x7⟩
  · rcases s108 rs.1.2.1 hs (hI h 4 (nI i + 1).toNatClampNeg) (hI h 4 (nI i + 2).toNatClampNeg) (hI h 4 (nI i + 3).toNatClampNeg) .null with ⟨-, -, y1⟩ | ⟨q, -⟩
    · refine ⟨h, ?_, v0⟩
      rw [r144_171, if_pos c1, if_pos c2, if_pos c3, if_pos (k5 hs), x1, bI_s, if_pos c1, if_pos c2, if_pos c3, if_pos (k26 hs), y1, bI_s, if_pos rfl]
    · exfalso
      rcases q with q | q
      · exact n1 q
      · exact q n2
  · obtain ⟨f, p2, p3, p4, p5⟩ := pm
    obtain ⟨b, hb1024, eb⟩ := and1023 (hI h 4 (nI i + 3).toNatClampNeg)
    have f' := f
    obtain ⟨a1, a2, a3, a4, a5, a6, a7⟩ := f
    generalize hal : (fun c => if seA W H (hI h 4 (nI i + 1).toNatClampNeg) (hI h 4 (nI i + 2).toNatClampNeg) c = true then b else al c) = al'
    have al_ok : ∀ c, c < W * H → al' c < 1024 := fun c hc => by
      rw [← hal]
      show (if _ then b else al c) < 1024
      split
      · exact hb1024
      · exact (ha c hc).2
    have ha1 : AL h1 W H al' := fun c hc => by
      refine ⟨?_, al_ok c hc⟩
      rw [x7 c hc, ← hal]
      show _ = nI (if _ then b else al c)
      by_cases z : seA W H (hI h 4 (nI i + 1).toNatClampNeg) (hI h 4 (nI i + 2).toNatClampNeg) c = true
      · rw [if_pos z, if_pos z]; exact eb
      · rw [if_neg z, if_neg z]; exact (ha c hc).1
    have same : ∀ c, s' ≤ c → c < W * H → al c = al' c := fun c h1c h2c => by
      have e1 := (ha1 c h2c).1
      rw [p5 c h1c, (ha c h2c).1] at e1
      have l1 := (ha c h2c).2
      have l2 := al_ok c h2c
      exact (nI_eq (by omega) (by omega)).mp e1
    have hs1 : SH h1 := f'.sh hs (by decide)
    have cs1 : CSx u W H ar al' h1 qm qw s' := by
      refine ⟨hs1, hb.fr f' (by decide) (by decide) (by decide), ha1, fun k hk => by rw [a6 11 (by decide)]; exact hj k hk, by rw [a6 18 (by decide)]; exact h180, by rw [a6 17 (by decide)]; exact h170, ⟨qa, qb, by rw [a3]; exact rf.1, by rw [a3]; exact rf.2.1, rf.2.2⟩, by unfold RLg; rw [a3]; exact rl, ⟨acc, mv.fr (by rw [a3]) (by rw [a4]; exact Nat.le_refl _) (by rw [a1]) (by rw [a2]) (a6 qm (by simp; omega)) (by rw [a6 16 (by decide)])⟩, wv.fr f', by rw [a4, a2]; exact pZ, by rw [a5, a2]; exact pU, ?_, p3, by omega, fun w => ?_⟩
      · rcases bt with bt | ⟨W', H', ar', o, mo⟩
        · left; rw [a6 16 (by decide)]; exact bt
        · right; exact ⟨W', H', ar', o, mo.fr f' (by decide) (by decide) (by simp; omega)⟩
      · obtain ⟨mo, e1, e2, e3⟩ := hv (by omega)
        exact ⟨mo.fr f' (by decide) (by decide) (by simp; omega), by rw [p2 6 (by decide)]; exact e1, by rw [a2]; exact e2, fun c h1c h2c => ((e3 c (by omega) h2c).of (a6 22 (by decide)) (a7 qw (by simp))).alc h2c (fun d h1d h2d => same d (by omega) h2d)⟩
    obtain ⟨m4, j4, rs1, sm1⟩ := stCo (UF.of (S' := [7, 15]) f' (by simp) (by simp)) hs1 (by decide) n4 i4 rs sm
    have sc1 : SC h1 W H sh := fun c hc => by rw [a6 13 (by decide)]; exact sc c hc
    have d1 : (hK h1 4 = 10 ∨ hK h1 4 = 13) ∧ inB (nI i + 1) (hN h1 4) = true := cnd hs1 m4 hL hi 1 (by decide)
    have d2 : (hK h1 4 = 10 ∨ hK h1 4 = 13) ∧ inB (nI i + 2) (hN h1 4) = true := cnd hs1 m4 hL hi 2 (by decide)
    have d3 : (hK h1 4 = 10 ∨ hK h1 4 = 13) ∧ inB (nI i + 3) (hN h1 4) = true := cnd hs1 m4 hL hi 3 (by decide)
    obtain ⟨⟨-, hm1, hA1, hj1⟩, no1⟩ := rs1
    rcases s108 hm1 hs1 (hI h 4 (nI i + 1).toNatClampNeg) (hI h 4 (nI i + 2).toNatClampNeg) (hI h 4 (nI i + 3).toNatClampNeg) .null with ⟨z1, z2, -⟩ | ⟨-, h2, y1, y2, y3, y4, y5⟩
    · exfalso
      rcases q with q | q
      · exact z1 q
      · exact q z2
    · obtain ⟨q4, r4, cs2, sc2⟩ := stR y2 (by simp) (by simp) m4 j4 cs1 sc1
      refine ⟨h2, ?_, q4, r4, W, H, ar, al', sh, qm, qw, s', cs2, sc2, ⟨⟨cs2.1, hm1.fr y2 (y4 0 (by decide)) (y4 1 (by decide)) (y4 2 (by decide)) (by decide) (by decide) (by decide), fun c hc => ⟨?_, al_ok c hc⟩, fun k hk => by rw [y2.2.2.2.2.2.1 32 (by decide)]; exact hj1 k hk⟩, Or.inl y3⟩, fun c hc => by rw [y2.2.2.2.2.2.1 28 (by decide)]; exact sm1 c hc⟩
      · rw [r144_171, if_pos c1, if_pos c2, if_pos c3, if_pos (k5 hs), x1, bI_s, if_pos d1, if_pos d2, if_pos d3, if_pos (k26 hs1), j4, ← i4, y1, bI_s, if_pos rfl]
      · rw [y5 c hc, ← hal]
        show _ = nI (if _ then b else al c)
        by_cases z : seA W H (hI h 4 (nI i + 1).toNatClampNeg) (hI h 4 (nI i + 2).toNatClampNeg) c = true
        · rw [if_pos z, if_pos z]; exact eb
        · rw [if_neg z, if_neg z]; exact (hA1 c hc).1
theorem lwL (hL : L ≤ 3584) : ∀ (k i : Nat), L - i ≤ k → i ≤ L → ∀ (h : HP), INV L xs u h → ∃ hf, X (144, 18, [.ref 4, .ref 5, .ref 26, .int (nI i)], [], h) = some (some (.int 1), hf) ∧ INV L xs u hf := by
  intro k
  induction k with
  | zero =>
    intro i hk hi h v
    have hs : SH h := by
      obtain ⟨-, -, W, H, ar, al, sh, qm, qw, s, cs, -⟩ := v
      exact cs.1
    refine ⟨h, ?_, v⟩
    have k4 : hK h 4 = 10 ∨ hK h 4 = 11 ∨ hK h 4 = 12 ∨ hK h 4 = 13 := Or.inr (Or.inr (Or.inr (by rw [hs.k 4 rfl]; rfl)))
    have lt : nI L - 7 < nI i := by
      rcases Nat.lt_or_ge L 7 with q | q
      · exact Int32.lt_of_lt_of_le (show nI L - nI 7 < 0 from pk_sneg (by decide) q) (nI_pos' (by omega))
      · rw [show (7 : Int32) = nI 7 from rfl, pk_sub q]
        exact nI_lt (by omega) (by omega)
    rw [r144_18, if_pos k4, v.1, if_pos lt]
  | succ k ih =>
    intro i hk hi h v
    have hs : SH h := by
      obtain ⟨-, -, W, H, ar, al, sh, qm, qw, s, cs, -⟩ := v
      exact cs.1
    have k4 : hK h 4 = 10 ∨ hK h 4 = 11 ∨ hK h 4 = 12 ∨ hK h 4 = 13 := Or.inr (Or.inr (Or.inr (by rw [hs.k 4 rfl]; rfl)))
    rcases Nat.lt_or_ge L (i + 7) with q | q
    · refine ⟨h, ?_, v⟩
      have lt : nI L - 7 < nI i := by
        rcases Nat.lt_or_ge L 7 with q2 | q2
        · exact Int32.lt_of_lt_of_le (show nI L - nI 7 < 0 from pk_sneg (by decide) q2) (nI_pos' (by omega))
        · rw [show (7 : Int32) = nI 7 from rfl, pk_sub q2]
          exact nI_lt (by omega) (by omega)
      rw [r144_18, if_pos k4, v.1, if_pos lt]
    · have nlt : ¬ nI L - 7 < nI i := by
        rw [show (7 : Int32) = nI 7 from rfl, pk_sub (by omega)]
        exact nI_nlt (by omega) (by omega)
      have c0 : (hK h 4 = 10 ∨ hK h 4 = 13) ∧ inB (nI i) (hN h 4) = true := ⟨Or.inr (by rw [hs.k 4 rfl]; rfl), by rw [v.1]; exact inB_nI (by omega) (by omega)⟩
      obtain ⟨j, hj, ej⟩ := pk_andE (hI h 4 (nI i).toNatClampNeg) (m := 15) 4 (by decide)
      have step : ∃ h', X (144, 33, [.ref 4, .ref 5, .ref 26, .int (nI i)], [.int (nI j)], h) = X (144, 698, [.ref 4, .ref 5, .ref 26, .int (nI i)], [], h') ∧ INV L xs u h' := by
        have hj' : j = 0 ∨ j = 1 ∨ j = 2 ∨ j = 3 ∨ j = 4 ∨ j = 5 ∨ j = 6 ∨ j = 7 ∨ j = 8 ∨ j = 9 ∨ j = 10 ∨ j = 11 ∨ j = 12 ∨ j = 13 ∨ j = 14 ∨ j = 15 := by omega
        rcases hj' with rfl | rfl | rfl | rfl | rfl | rfl | rfl | rfl | rfl | rfl | rfl | rfl | rfl | rfl | rfl | rfl
        · obtain ⟨h', a, b⟩ := lw0 hL q v; exact ⟨h', (e144_33_0 4 5 26 (nI i) h).trans a, b⟩
        · obtain ⟨h', a, b⟩ := lw1 hL q v; exact ⟨h', (e144_33_1 4 5 26 (nI i) h).trans a, b⟩
        · obtain ⟨h', a, b⟩ := lw2 hL q v; exact ⟨h', (e144_33_2 4 5 26 (nI i) h).trans a, b⟩
        · obtain ⟨h', a, b⟩ := lw3 hL q v; exact ⟨h', (e144_33_3 4 5 26 (nI i) h).trans a, b⟩
        · obtain ⟨h', a, b⟩ := lw4 hL q v; exact ⟨h', (e144_33_4 4 5 26 (nI i) h).trans a, b⟩
        · obtain ⟨h', a, b⟩ := lw5 hL q v; exact ⟨h', (e144_33_5 4 5 26 (nI i) h).trans a, b⟩
        · obtain ⟨h', a, b⟩ := lw6 hL q v; exact ⟨h', (e144_33_6 4 5 26 (nI i) h).trans a, b⟩
        · obtain ⟨h', a, b⟩ := lw7 hL q v; exact ⟨h', (e144_33_7 4 5 26 (nI i) h).trans a, b⟩
        · obtain ⟨h', a, b⟩ := lw8 hL q v; exact ⟨h', (e144_33_8 4 5 26 (nI i) h).trans a, b⟩
        · obtain ⟨h', a, b⟩ := lw9 hL q v; exact ⟨h', (e144_33_9 4 5 26 (nI i) h).trans a, b⟩
        · obtain ⟨h', a, b⟩ := lw10 hL q v; exact ⟨h', (e144_33_10 4 5 26 (nI i) h).trans a, b⟩
        · obtain ⟨h', a, b⟩ := lw11 hL q v; exact ⟨h', (e144_33_11 4 5 26 (nI i) h).trans a, b⟩
        · obtain ⟨h', a, b⟩ := lw12 hL q v; exact ⟨h', (e144_33_12 4 5 26 (nI i) h).trans a, b⟩
        · obtain ⟨h', a, b⟩ := lw13 hL q v; exact ⟨h', (e144_33_13 4 5 26 (nI i) h).trans a, b⟩
        · obtain ⟨h', a, b⟩ := lw14 hL q v; exact ⟨h', (e144_33_14 4 5 26 (nI i) h).trans a, b⟩
        · obtain ⟨h', a, b⟩ := lw15 hL q v; exact ⟨h', (e144_33_15 4 5 26 (nI i) h).trans a, b⟩
      obtain ⟨g, x1, x2⟩ := step
      obtain ⟨hf, y1, y2⟩ := ih (i + 7) (by omega) q g x2
      refine ⟨hf, ?_, y2⟩
      rw [r144_18, if_pos k4, v.1, if_neg nlt]
      have c0' := c0
      rw [v.1] at c0'
      rw [if_pos c0', ej, x1, r144_698, show nI i + 7 = nI (i + 7) from nI_add i 7]
      exact y1
/-- room at the end -/
theorem INV.room (v : INV L xs u h) : hZ h ≤ 60790 ∧ hU h ≤ u + 80000 := by
  obtain ⟨-, -, W, H, ar, al, sh, qm, qw, s, cs, -⟩ := v
  obtain ⟨hs, hb, ha, hj, h180, h170, rf, rl, ⟨acc, mv⟩, wv, pZ, pU, -⟩ := cs
  have m5 := mv.2.2.2.2.1
  have w5 := wv.2.2.2.2
  omega
end Lo
