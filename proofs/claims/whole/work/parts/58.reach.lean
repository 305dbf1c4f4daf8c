/-! forward counts in the component -/
theorem kn24 {h : HP} (hs : SH h) {q : Nat} (hq : q = 24 ∨ q = 25) : hK h q = 11 ∧ hN h q = 76 := by
  rcases hq with rfl | rfl
  · exact ⟨by rw [hs.k 24 rfl]; rfl, by rw [hs.n 24 rfl]; rfl⟩
  · exact ⟨by rw [hs.k 25 rfl]; rfl, by rw [hs.n 25 rfl]; rfl⟩
theorem s82 {h : HP} {q : Nat} (hs : SH h) (hq : q = 24 ∨ q = 25) (w1 : Value) : ∃ h', X (82, 0, [.ref q, w1], [], h) = some (none, h') ∧ Fr [] [q] h h' ∧ SH h' ∧ ∀ j, j < 76 → hL h' q j = 0 := by
  have key : ∀ (n j : Nat), j + n = 76 → ∀ (h : HP), SH h → (∀ i, i < j → hL h q i = 0) → ∃ h', X (82, 2, [.ref q, .int (nI j)], [], h) = some (none, h') ∧ Fr [] [q] h h' ∧ SH h' ∧ ∀ j, j < 76 → hL h' q j = 0 := by
    intro n
    induction n with
    | zero =>
      intro j hj h hs hd
      obtain ⟨kq, nq⟩ := kn24 hs hq
      have : j = 76 := by omega
      subst this
      refine ⟨h, ?_, Fr.rf, hs, hd⟩
      rw [g82_2 _ _ h hs, if_pos (Or.inr (Or.inl kq)), nq, if_pos (nI_le (Nat.le_refl _) (by decide))]
    | succ n ih =>
      intro j hj h hs hd
      obtain ⟨kq, nq⟩ := kn24 hs hq
      obtain ⟨h', x1, x2, x3, x4⟩ := ih (j + 1) (by omega) (sL h q j 0) (shL hs) (by
        intro i hi
        by_cases u : i = j
        · subst u; exact hL_sL_same _ _ _ _
        · rw [hL_sL_ne _ _ u]; exact hd i (by omega))
      refine ⟨h', ?_, (Fr.sL (by simp)).tr x2, x3, x4⟩
      have c : hK h q = 11 ∧ inB (nI j) 76 = true := ⟨kq, inB_nI (by omega) (by decide)⟩
      rw [g82_2 _ _ h hs, if_pos (Or.inr (Or.inl kq)), nq, if_neg (nI_ge (by omega) (by decide)), if_pos c, nI_clamp (by omega), nI_1]
      exact x1
  obtain ⟨h', x1, x2, x3, x4⟩ := key 76 0 (by omega) h hs (fun i hi => absurd hi (by omega))
  exact ⟨h', by rw [g82_0 _ _ h hs]; exact x1, x2, x3, x4⟩
def RP (h : HP) (qa qb : Nat) : Prop := hR h 15 4 = some qa ∧ hR h 15 5 = some qb ∧ ((qa = 24 ∧ qb = 25) ∨ (qa = 25 ∧ qb = 24))
def RQ (h h' : HP) : Prop := hK h' = hK h ∧ hN h' = hN h ∧ hZ h' = hZ h ∧ hU h' = hU h ∧ hI h' = hI h ∧ (∀ q, q ≠ 24 → q ≠ 25 → hL h' q = hL h q) ∧ (∀ q, q ≠ 15 → hR h' q = hR h q) ∧ ∀ j, j ≠ 4 → j ≠ 5 → hR h' 15 j = hR h 15 j
theorem RQ.rf {h : HP} : RQ h h := ⟨rfl, rfl, rfl, rfl, rfl, fun _ _ _ => rfl, fun _ _ => rfl, fun _ _ _ => rfl⟩
theorem RQ.tr {h1 h2 h3 : HP} (a : RQ h1 h2) (b : RQ h2 h3) : RQ h1 h3 := by
  obtain ⟨a1, a2, a3, a4, a5, a6, a7, a8⟩ := a
  obtain ⟨b1, b2, b3, b4, b5, b6, b7, b8⟩ := b
  exact ⟨b1.trans a1, b2.trans a2, b3.trans a3, b4.trans a4, b5.trans a5, fun q h n => (b6 q h n).trans (a6 q h n), fun q h => (b7 q h).trans (a7 q h), fun j h n => (b8 j h n).trans (a8 j h n)⟩
theorem RQ.of {h h' : HP} {q : Nat} (f : Fr [] [q] h h') (hq : q = 24 ∨ q = 25) : RQ h h' := by
  obtain ⟨a1, a2, a3, a4, a5, a6, a7⟩ := f
  exact ⟨a1, a2, a4, a5, by funext r; exact a6 r (by simp), fun r h1 h2 => a7 r (by simp; omega), fun r _ => by rw [a3], fun j _ _ => by rw [a3]⟩
theorem RQ.sR {h : HP} {j : Nat} {v : Option Nat} (hj : j = 4 ∨ j = 5) : RQ h (sR h 15 j v) := by
  refine ⟨rfl, rfl, rfl, rfl, rfl, fun _ _ _ => rfl, fun q hq => ?_, fun i h1 h2 => ?_⟩
  · rw [hR_sRr, if_neg hq]
  · rw [hR_sRr, if_pos rfl]
    show (if i = j then v else hR h 15 i) = _
    rw [if_neg (by omega)]
section Rc
variable {W H : Nat} {ar : Bool} {al : Nat → Nat}
theorem BD.ri {h h' : HP} (hb : BD h W H ar) (i : hI h' = hI h) : BD h' W H ar := by
  obtain ⟨b0, b1, b2, b3, b4⟩ := hb
  exact ⟨b0, by rw [i]; exact b1, by rw [i]; exact b2, by rw [i]; exact b3, by rw [i]; exact b4⟩
theorem MOK.rq {h h' : HP} {qm : Nat} (m : MOK h qm W H ar) (f : RQ h h') : MOK h' qm W H ar := by
  obtain ⟨b1, b2, b3, b4, b5, b6, b7, b8⟩ := f
  exact m.of (by rw [b7 16 (by decide)]) (by rw [b3]; exact Nat.le_refl _) (by rw [b1]) (by rw [b2]) (by rw [b5]) (by rw [b5]) (by rw [b5])
theorem CSx.rq {u : Nat} {h h' : HP} {qm qw s : Nat} (cs : CSx u W H ar al h qm qw s) (f : RQ h h') (hs' : SH h') (rl' : RLg h') : CSx u W H ar al h' qm qw s := by
  obtain ⟨hs, hb, ha, hj, h180, h170, ⟨qa, qb, rf⟩, rl, ⟨acc, mv⟩, wv, pZ, pU, bt, h7, hs21, hv⟩ := cs
  have f' := f
  obtain ⟨b1, b2, b3, b4, b5, b6, b7, b8⟩ := f
  obtain ⟨v1, v2, v3, v4, v5⟩ := wv
  refine ⟨hs', hb.ri b5, fun c hc => by rw [b5]; exact ha c hc, fun k hk => by rw [b5]; exact hj k hk, by rw [b5]; exact h180, by rw [b5]; exact h170, ⟨qa, qb, by rw [b7 16 (by decide)]; exact rf.1, by rw [b7 16 (by decide)]; exact rf.2.1, rf.2.2⟩, rl', ⟨acc, mv.fr (by rw [b7 16 (by decide)]) (by rw [b3]; exact Nat.le_refl _) (by rw [b1]) (by rw [b2]) (by rw [b5]) (by rw [b5])⟩, ⟨by rw [b8 3 (by decide) (by decide)]; exact v1, v2, by rw [b3]; exact v3, by rw [b1]; exact v4, by rw [b2]; exact v5⟩, by rw [b3, b2]; exact pZ, by rw [b4, b2]; exact pU, ?_, by rw [b5]; exact h7, hs21, fun q => ?_⟩
  · rcases bt with bt | ⟨W', H', ar', o, mo⟩
    · left; rw [b5]; exact bt
    · right; exact ⟨W', H', ar', o, mo.rq f'⟩
  · obtain ⟨mo, e1, e2, e3⟩ := hv q
    exact ⟨mo.rq f', by rw [b5]; exact e1, by rw [b2]; exact e2, fun c h1 h2 => (e3 c h1 h2).of (by rw [b5]) (b6 qw (by omega) (by omega))⟩
def fwS (W H : Nat) (ar : Bool) (al : Nat → Nat) (c n' : Nat) (D : List Mv) : Nat := sL' (fun m => if m.2.2.1 = n' ∧ (al c).testBit m.2.1 = true then fwd W H ar al c m.1 else 0) D
theorem fwS_1 (c n' : Nat) (D : List Mv) (m : Mv) : fwS W H ar al c n' (D ++ [m]) = fwS W H ar al c n' D + (if m.2.2.1 = n' ∧ (al c).testBit m.2.1 = true then fwd W H ar al c m.1 else 0) := by
  unfold fwS
  rw [sL'_app]
  rfl
theorem s81l {c qa qb qm : Nat} {a1 : Int32} (hc : c < W * H) : ∀ (R D : List Mv), mvs W H ar c = D ++ R → ∀ (h : HP) (w5 w6 : Value), BD h W H ar → SH h → AL h W H al → MOK h qm W H ar → RP h qa qb → (∀ n, n < 76 → hL h qa n = lN (fwd W H ar al c n)) → (∀ n, n < 76 → hL h qb n = lN (fwS W H ar al c n D)) → ∃ h' v5 v6, X (81, 49, [.ref 15, .int a1, .int (nI c), .int (nI (mvA W H ar (c + 1)).length), .int (nI ((mvA W H ar c).length + D.length)), w5, w6], [], h) = X (81, 16, [.ref 15, .int a1, .int (nI (c + 1)), .int (nI (mvA W H ar (c + 1)).length), .ref qa, v5, v6], [], sR (sR h' 15 4 (some qb)) 15 5 (some qa)) ∧ Fr [] [qb] h h' ∧ SH h' ∧ ∀ n, n < 76 → hL h' qb n = lN (fwd W H ar al (c + 1) n) := by
  intro R
  induction R with
  | nil =>
    intro D hD h w5 w6 hb hs ha mo rp hA hB
    have ls := mvA_succ (W := W) (H := H) (ar := ar) c
    have la := mvA_len (W := W) (H := H) (ar := ar) (c + 1)
    have h20 := (okS_1 hb.1).2.2.1
    have lD : (mvs W H ar c).length = D.length := by rw [hD, List.append_nil]
    refine ⟨h, w5, w6, ?_, Fr.rf, hs, fun n hn => ?_⟩
    · rw [g81_49 _ _ _ _ _ _ h hs, if_pos (nI_le (by omega) (by omega)), rp.1, rp.2.1, nI_1]
      rfl
    · rw [hB n hn, fwd]
      unfold fwS
      rw [hD, List.append_nil]
  | cons m R ih =>
    intro D hD h w5 w6 hb hs ha mo rp hA hB
    have hk := hb.1
    have h20 := (okS_1 hk).2.2.1
    have la := mvA_len (W := W) (H := H) (ar := ar) (c + 1)
    have ls := mvA_succ (W := W) (H := H) (ar := ar) c
    have hm : m ∈ mvs W H ar c := by rw [hD]; simp
    have hD2 : mvs W H ar c = (D ++ [m]) ++ R := by rw [hD]; simp
    have lD : (mvs W H ar c).length = D.length + (R.length + 1) := by rw [hD, List.length_append]; rfl
    have hat : (mvs W H ar c)[D.length]? = some m := by rw [hD, List.getElem?_append_right (Nat.le_refl _), Nat.sub_self]; rfl
    have hp := mvA_at (N := W * H) hc hat
    obtain ⟨ok, k1, k2, k3⟩ := mvs_ok hk hc hm
    have mv := mo.2.2.2.1
    have l1 : (mvA W H ar c).length + (D ++ [m]).length = (mvA W H ar c).length + D.length + 1 := by rw [List.length_append]; rfl
    have o1 := ok.1
    have o3 := ok.2.2.1
    have rp' := rp
    obtain ⟨r1, r2, r3⟩ := rp
    have n1 : ¬ (76 : Int32) ≤ nI m.1 := nI_ge (show m.1 < 76 from o1) (by decide)
    have n2 : ¬ (76 : Int32) ≤ nI m.2.2.1 := nI_ge (show m.2.2.1 < 76 from o3) (by decide)
    rw [g81_49 _ _ _ _ _ _ h hs, if_neg (nI_ge (by omega) (by omega)), s47 hs mv hp ok, bI_s, s48 hs mv hp ok, bI_s, if_neg n1, if_neg n2, s49 hs mv hp ok, bI_s, s16 hb hs ha hc ok.2.1, bI_s]
    by_cases q : (al c).testBit m.2.1 = true
    · rw [q, if_neg (by decide), r2]
      show ∃ h' v5 v6, (if hK h qb = 11 ∧ inB (nI m.2.2.1) (hN h qb) = true then ((hR h 15 4).bind _) else none) = _ ∧ _
      obtain ⟨ka, na⟩ := kn24 hs (show qa = 24 ∨ qa = 25 by omega)
      obtain ⟨kb, nb⟩ := kn24 hs (show qb = 24 ∨ qb = 25 by omega)
      have c1 : hK h qb = 11 ∧ inB (nI m.2.2.1) (hN h qb) = true := ⟨kb, by rw [nb]; exact inB_nI o3 (by decide)⟩
      have c2 : hK h qa = 11 ∧ inB (nI m.1) (hN h qa) = true := ⟨ka, by rw [na]; exact inB_nI o1 (by decide)⟩
      rw [if_pos c1, r1]
      show ∃ h' v5 v6, (if hK h qa = 11 ∧ inB (nI m.1) (hN h qa) = true then (if hK h qb = 11 ∧ inB (nI m.2.2.1) (hN h qb) = true then _ else none) else none) = _ ∧ _
      rw [if_pos c2, if_pos c1, nI_clamp (by omega), nI_clamp (by omega), hA _ o1, hB _ o3, lN_add]
      generalize hG : sL h qb m.2.2.1 (lN (fwS W H ar al c m.2.2.1 D + fwd W H ar al c m.1)) = g
      have gF : Fr [] [qb] h g := by rw [← hG]; exact Fr.sL (by simp)
      have gs : SH g := by rw [← hG]; exact shL hs
      rw [g81_128 _ _ _ _ _ _ g gs, nI_1, ← l1]
      obtain ⟨h', v5, v6, x1, x2, x3, x4⟩ := ih (D ++ [m]) hD2 g _ _ (hb.fr gF (by simp) (by simp) (by simp)) gs (ha.fr gF (by simp)) (mo.fr gF (by simp) (by simp) (by simp)) ⟨by rw [gF.2.2.1]; exact r1, by rw [gF.2.2.1]; exact r2, r3⟩ (fun n hn => by rw [gF.2.2.2.2.2.2 qa (by simp; omega)]; exact hA n hn) (fun n hn => by
        rw [fwS_1, ← hG]
        by_cases u : n = m.2.2.1
        · subst u
          rw [hL_sL_same, if_pos ⟨rfl, q⟩]
        · rw [hL_sL_ne _ _ u, if_neg (fun v => u v.1.symm), Nat.add_zero]
          exact hB n hn)
      exact ⟨h', v5, v6, x1, gF.tr x2, x3, x4⟩
    · have q' : (al c).testBit m.2.1 = false := by simpa using q
      rw [q', if_pos (by decide), g81_128 _ _ _ _ _ _ h hs, nI_1, ← l1]
      exact ih (D ++ [m]) hD2 h _ _ hb hs ha mo rp' hA (fun n hn => by
        rw [fwS_1, if_neg (fun v => q v.2), Nat.add_zero]
        exact hB n hn)
theorem s81c {qm N : Nat} (hNle : N ≤ W * H) : ∀ (f c : Nat), c + f = N → ∀ (h : HP) (qa qb : Nat) (w3 w4 w5 w6 : Value), BD h W H ar → SH h → AL h W H al → MOK h qm W H ar → RP h qa qb → (∀ n, n < 76 → hL h qa n = lN (fwd W H ar al c n)) → ∃ h' qa' qb', X (81, 16, [.ref 15, .int (nI N), .int (nI c), w3, w4, w5, w6], [], h) = some (none, h') ∧ RQ h h' ∧ SH h' ∧ RP h' qa' qb' ∧ ∀ n, n < 76 → hL h' qa' n = lN (fwd W H ar al N n) := by
  intro f
  induction f with
  | zero =>
    intro c hc h qa qb w3 w4 w5 w6 hb hs ha mo rp hA
    have h20 := (okS_1 hb.1).2.2.1
    have : c = N := by omega
    subst this
    refine ⟨h, qa, qb, ?_, RQ.rf, hs, rp, hA⟩
    rw [g81_16 _ _ _ _ _ _ h hs, if_pos (nI_le (Nat.le_refl _) (by omega))]
  | succ f ih =>
    intro c hc h qa qb w3 w4 w5 w6 hb hs ha mo rp hA
    have hk := hb.1
    have h20 := (okS_1 hk).2.2.1
    obtain ⟨r1, r2, r3⟩ := rp
    obtain ⟨g, x1, x2, x3, x4⟩ := s82 hs (show qb = 24 ∨ qb = 25 by omega) .null
    have gm := mo.fr x2 (by simp) (by simp) (by simp)
    have gb := hb.fr x2 (by simp) (by simp) (by simp)
    have ga := ha.fr x2 (by simp)
    rw [g81_16 _ _ _ _ _ _ h hs, if_neg (nI_ge (by omega) (by omega)), r2]
    show ∃ h' qa' qb', bV (X (82, 0, [.ref qb, .null], [], h)) _ = _ ∧ _
    rw [x1, bV_s, nI_1, s45 x3 hk gm (by omega), bI_s, s45 x3 hk gm (by omega), bI_s]
    obtain ⟨k, v5, v6, y1, y2, y3, y4⟩ := s81l (al := al) (qa := qa) (qb := qb) (qm := qm) (a1 := nI N) (show c < W * H by omega) (mvs W H ar c) [] rfl g w5 w6 gb x3 ga gm ⟨by rw [x2.2.2.1]; exact r1, by rw [x2.2.2.1]; exact r2, r3⟩ (fun n hn => by rw [x2.2.2.2.2.2.2 qa (by simp; omega)]; exact hA n hn) (fun n hn => x4 n hn)
    have e0 : nI ((mvA W H ar c).length + ([] : List Mv).length) = nI (mvA W H ar c).length := rfl
    rw [← e0, y1]
    generalize hD : sR (sR k 15 4 (some qb)) 15 5 (some qa) = d
    have dq : RQ k d := by rw [← hD]; exact (RQ.sR (Or.inl rfl)).tr (RQ.sR (Or.inr rfl))
    have ds : SH d := by rw [← hD]; exact (y3.sRs 15 4 rfl).sRs 15 5 rfl
    have dR : ∀ j, hR d 15 j = if j = 5 then some qa else if j = 4 then some qb else hR k 15 j := by
      intro j
      rw [← hD, hR_sRr, if_pos rfl, hR_sRr, if_pos rfl]
      rfl
    have F : Fr [] [qb] h k := x2.tr y2
    have Q : RQ h d := (RQ.of F (by omega)).tr dq
    obtain ⟨h', qa', qb', z1, z2, z3, z4, z5⟩ := ih (c + 1) (by omega) d qb qa (.int (nI (mvA W H ar (c + 1)).length)) (.ref qa) v5 v6 (hb.ri Q.2.2.2.2.1) ds (fun c hc => by rw [Q.2.2.2.2.1]; exact ha c hc) (mo.rq Q) ⟨by rw [dR, if_neg (by decide), if_pos rfl], by rw [dR, if_pos rfl], by omega⟩ (fun n hn => by
      have : hL d qb = hL k qb := by rw [← hD]; rfl
      rw [this]; exact y4 n hn)
    exact ⟨h', qa', qb', z1, Q.tr z2, z3, z4, z5⟩
theorem s81 {qm N : Nat} (hNle : N ≤ W * H) {h : HP} {qa qb : Nat} (hb : BD h W H ar) (hs : SH h) (ha : AL h W H al) (mo : MOK h qm W H ar) (rp : RP h qa qb) (w2 w3 w4 w5 w6 : Value) : ∃ h' qa' qb', X (81, 0, [.ref 15, .int (nI N), w2, w3, w4, w5, w6], [], h) = some (none, h') ∧ RQ h h' ∧ SH h' ∧ RP h' qa' qb' ∧ ∀ n, n < 76 → hL h' qa' n = lN (fwd W H ar al N n) := by
  obtain ⟨r1, r2, r3⟩ := rp
  obtain ⟨g, x1, x2, x3, x4⟩ := s82 hs (show qa = 24 ∨ qa = 25 by omega) .null
  obtain ⟨ka, na⟩ := kn24 x3 (show qa = 24 ∨ qa = 25 by omega)
  have c1 : hK g qa = 11 ∧ inB 0 (hN g qa) = true := ⟨ka, by rw [na]; decide⟩
  rw [g81_0 _ _ _ _ _ _ h hs, r1]
  show ∃ h' qa' qb', bV (X (82, 0, [.ref qa, .null], [], h)) _ = _ ∧ _
  rw [x1, bV_s, x2.2.2.1, r1]
  show ∃ h' qa' qb', (if hK g qa = 11 ∧ inB 0 (hN g qa) = true then _ else none) = _ ∧ _
  rw [if_pos c1]
  have c0 : (0 : Int32).toNatClampNeg = 0 := by decide
  rw [c0]
  generalize hG : sL g qa 0 1 = k
  have kF : Fr [] [qa] g k := by rw [← hG]; exact Fr.sL (by simp)
  have ks : SH k := by rw [← hG]; exact shL x3
  have F := x2.tr kF
  obtain ⟨h', qa', qb', z1, z2, z3, z4, z5⟩ := s81c (al := al) (qm := qm) hNle N 0 (by omega) k qa qb w3 w4 w5 w6 (hb.fr F (by simp) (by simp) (by simp)) ks (ha.fr F (by simp)) (mo.fr F (by simp) (by simp) (by simp)) ⟨by rw [F.2.2.1]; exact r1, by rw [F.2.2.1]; exact r2, r3⟩ (fun n hn => by
    rw [← hG, fwd]
    by_cases u : n = 0
    · subst u; rw [hL_sL_same, if_pos rfl]; rfl
    · rw [hL_sL_ne _ _ u, if_neg u]; exact x4 n hn)
  exact ⟨h', qa', qb', z1, (RQ.of F (by omega)).tr z2, z3, z4, z5⟩
/-- fillings through a tile at a cell -/
def hvS (W H : Nat) (ar : Bool) (al : Nat → Nat) (c t : Nat) (D : List Mv) : Nat := sL' (fun m => if m.2.1 = t then fwd W H ar al c m.1 * tot W H ar al (c + 1) m.2.2.1 else 0) D
def hav (W H : Nat) (ar : Bool) (al : Nat → Nat) (c t : Nat) : Nat := if (al c).testBit t = true then hvS W H ar al c t (mvs W H ar c) else 0
theorem s80l {c t qa qw qm : Nat} {h : HP} (hc : c < W * H) (ht : t < 10) (hb : BD h W H ar) (hs : SH h) (mo : MOK h qm W H ar) (r1 : hR h 15 4 = some qa) (hqa : qa = 24 ∨ qa = 25) (hA : ∀ n, n < 76 → hL h qa n = lN (fwd W H ar al c n)) (wr : WR W H ar al h qw (c + 1)) : ∀ (R D : List Mv), mvs W H ar c = D ++ R → ∀ (w4 w7 : Value), X (80, 43, [.ref 15, .int (nI c), .int (nI t), .long (lN (hvS W H ar al c t D)), w4, .int (nI (mvA W H ar (c + 1)).length), .int (nI ((mvA W H ar c).length + D.length)), w7], [], h) = some (some (.long (lN (hvS W H ar al c t (mvs W H ar c)))), h) := by
  intro R
  have hk := hb.1
  have h20 := (okS_1 hk).2.2.1
  have la := mvA_len (W := W) (H := H) (ar := ar) (c + 1)
  have ls := mvA_succ (W := W) (H := H) (ar := ar) c
  induction R with
  | nil =>
    intro D hD w4 w7
    have lD : (mvs W H ar c).length = D.length := by rw [hD, List.append_nil]
    rw [g80_43 _ _ _ _ _ _ _ h hs, if_pos (nI_le (by omega) (by omega)), hD, List.append_nil]
  | cons m R ih =>
    intro D hD w4 w7
    have hm : m ∈ mvs W H ar c := by rw [hD]; simp
    have hD2 : mvs W H ar c = (D ++ [m]) ++ R := by rw [hD]; simp
    have lD : (mvs W H ar c).length = D.length + (R.length + 1) := by rw [hD, List.length_append]; rfl
    have hat : (mvs W H ar c)[D.length]? = some m := by rw [hD, List.getElem?_append_right (Nat.le_refl _), Nat.sub_self]; rfl
    have hp := mvA_at (N := W * H) hc hat
    obtain ⟨ok, k1, k2, k3⟩ := mvs_ok hk hc hm
    have mv := mo.2.2.2.1
    have l1 : (mvA W H ar c).length + (D ++ [m]).length = (mvA W H ar c).length + D.length + 1 := by rw [List.length_append]; rfl
    have o1 := ok.1
    have o2 := ok.2.1
    have e1 : hvS W H ar al c t (D ++ [m]) = hvS W H ar al c t D + (if m.2.1 = t then fwd W H ar al c m.1 * tot W H ar al (c + 1) m.2.2.1 else 0) := by
      unfold hvS
      rw [sL'_app]
      rfl
    rw [g80_43 _ _ _ _ _ _ _ h hs, if_neg (nI_ge (by omega) (by omega)), s47 hs mv hp ok, bI_s, s49 hs mv hp ok, bI_s]
    by_cases q : m.2.1 = t
    · obtain ⟨ka, na⟩ := kn24 hs hqa
      have n1 : ¬ (76 : Int32) ≤ nI m.1 := nI_ge (show m.1 < 76 from o1) (by decide)
      have c1 : hK h qa = 11 ∧ inB (nI m.1) (hN h qa) = true := ⟨ka, by rw [na]; exact inB_nI o1 (by decide)⟩
      rw [q, if_pos rfl, if_neg n1, r1]
      show (if hK h qa = 11 ∧ inB (nI m.1) (hN h qa) = true then _ else none) = _
      rw [if_pos c1, s48 hs mv hp ok, bI_s, nI_1, s79a wr (by omega) k3, bL_s, nI_clamp (by omega), hA _ o1, lN_mul, lN_add, g80_110 _ _ _ _ _ _ _ h hs, nI_1, ← l1]
      have := ih (D ++ [m]) hD2 .null (.int (nI m.1))
      rw [e1, if_pos q] at this
      exact this
    · have nq : ¬ nI m.2.1 = nI t := fun e => q ((nI_eq (by omega) (by omega)).mp e)
      rw [if_neg nq, g80_110 _ _ _ _ _ _ _ h hs, nI_1, ← l1]
      have := ih (D ++ [m]) hD2 w4 (.int (nI m.1))
      rw [e1, if_neg q, Nat.add_zero] at this
      exact this
theorem CSx.wr {u : Nat} {h : HP} {qm qw c : Nat} (cs : CSx u W H ar al h qm qw 0) (hc : c ≤ W * H) : WR W H ar al h qw c := by
  obtain ⟨hs, hb, ha, hj, h180, h170, rf, rl, mv, wv, pZ, pU, bt, h7, hs21, hv⟩ := cs
  obtain ⟨mo, v1, v2, v3⟩ := hv (by omega)
  exact ⟨hs, hb.1, wv, v1, v2, v3 c (by omega) hc⟩
theorem CSx.rp {u : Nat} {h : HP} {qm qw s : Nat} (cs : CSx u W H ar al h qm qw s) : ∃ qa qb, RP h qa qb := by
  rcases cs.2.2.2.2.2.2.2.1 with ⟨a, b⟩ | ⟨a, b⟩
  · exact ⟨24, 25, a, b, Or.inl ⟨rfl, rfl⟩⟩
  · exact ⟨25, 24, a, b, Or.inr ⟨rfl, rfl⟩⟩
theorem CSx.mo {u : Nat} {h : HP} {qm qw : Nat} (cs : CSx u W H ar al h qm qw 0) : MOK h qm W H ar := (cs.2.2.2.2.2.2.2.2.2.2.2.2.2.2.2 (by omega)).1
theorem RP.rl {h : HP} {qa qb : Nat} (r : RP h qa qb) : RLg h := by
  obtain ⟨r1, r2, r3⟩ := r
  rcases r3 with ⟨rfl, rfl⟩ | ⟨rfl, rfl⟩
  · exact Or.inl ⟨r1, r2⟩
  · exact Or.inr ⟨r1, r2⟩
theorem s80 {u c t : Nat} {h : HP} {qm qw : Nat} (cs : CSx u W H ar al h qm qw 0) (hc : c < W * H) (ht : t < 10) (w3 w4 w5 w6 w7 : Value) : ∃ h', X (80, 0, [.ref 15, .int (nI c), .int (nI t), w3, w4, w5, w6, w7], [], h) = some (some (.long (lN (hav W H ar al c t))), h') ∧ RQ h h' ∧ CSx u W H ar al h' qm qw 0 := by
  have hs := cs.1
  have hb := cs.2.1
  have ha := cs.2.2.1
  have hk := hb.1
  rw [g80_0 _ _ _ _ _ _ _ h hs, s16 hb hs ha hc ht, bI_s]
  unfold hav
  by_cases q : (al c).testBit t = true
  · rw [q, if_neg (by decide), if_pos rfl]
    obtain ⟨qa, qb, rp⟩ := cs.rp
    obtain ⟨g, qa', qb', x1, x2, x3, x4, x5⟩ := s81 (al := al) (qm := qm) (show c ≤ W * H by omega) hb hs ha cs.mo rp .null .null .null .null .null
    have gc := cs.rq x2 x3 x4.rl
    have gb := gc.2.1
    refine ⟨g, ?_, x2, gc⟩
    have r3 := x4.2.2
    rw [x1, bV_s, nI_1, s45 x3 hk gc.mo (by omega), bI_s, s45 x3 hk gc.mo (by omega), bI_s]
    exact s80l (al := al) (qa := qa') hc ht gb x3 gc.mo x4.1 (by omega) x5 (gc.wr (by omega)) (mvs W H ar c) [] rfl .null w7
  · have q' : (al c).testBit t = false := by simpa using q
    rw [q', if_pos (by decide), if_neg (by decide)]
    exact ⟨h, rfl, RQ.rf, cs⟩
end Rc
