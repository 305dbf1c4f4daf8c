/-! a move is added -/
def MV (h : HP) (qm : Nat) (acc : List Mv) : Prop := hR h 16 6 = some qm ∧ (qm = 21 ∨ 42 ≤ qm) ∧ qm < hZ h ∧ hK h qm = 10 ∧ hN h qm ≤ 40000 ∧ hI h 16 7 = nI acc.length ∧ acc.length ≤ hN h qm ∧ ∀ i m, acc[i]? = some m → hI h qm i = nI (enc m)
def BF (S : List Nat) (h h' : HP) (a b : Nat) : Prop := (b = a ∨ hZ h ≤ b) ∧ hZ h ≤ hZ h' ∧ (hZ h' + hN h a ≤ hZ h + hN h' b) ∧ (hU h' + 2 * hN h a ≤ hU h + 2 * hN h' b) ∧ (∀ q, q < hZ h → hK h' q = hK h q ∧ hN h' q = hN h q) ∧ (∀ q, q < hZ h → q ∉ S → q ≠ a → hI h' q = hI h q) ∧ (∀ q, q < hZ h → hL h' q = hL h q) ∧ (∀ q, q < hZ h → q ≠ 16 → hR h' q = hR h q)
theorem BF.rf {S : List Nat} {h : HP} {a : Nat} : BF S h h a a := ⟨Or.inl rfl, Nat.le_refl _, Nat.le_refl _, Nat.le_refl _, fun _ _ => ⟨rfl, rfl⟩, fun _ _ _ _ => rfl, fun _ _ => rfl, fun _ _ _ => rfl⟩
theorem BF.tr {S : List Nat} {h1 h2 h3 : HP} {a b c : Nat} (p : BF S h1 h2 a b) (q : BF S h2 h3 b c) : BF S h1 h3 a c := by
  obtain ⟨p1, p2, p3, p4, p5, p6, p7, p8⟩ := p
  obtain ⟨q1, q2, q3, q4, q5, q6, q7, q8⟩ := q
  refine ⟨by omega, by omega, by omega, by omega, fun r hr => ?_, fun r hr hS ha => ?_, fun r hr => ?_, fun r hr h16 => ?_⟩
  · exact ⟨(q5 r (by omega)).1.trans (p5 r hr).1, (q5 r (by omega)).2.trans (p5 r hr).2⟩
  · exact (q6 r (by omega) hS (by omega)).trans (p6 r hr hS ha)
  · exact (q7 r (by omega)).trans (p7 r hr)
  · exact (q8 r (by omega) h16).trans (p8 r hr h16)
theorem BF.mono {S S' : List Nat} {h h' : HP} {a b : Nat} (p : BF S h h' a b) (hS : ∀ q ∈ S, q ∈ S') : BF S' h h' a b := by
  obtain ⟨p1, p2, p3, p4, p5, p6, p7, p8⟩ := p
  exact ⟨p1, p2, p3, p4, p5, fun q hq hn => p6 q hq (fun u => hn (hS q u)), p7, p8⟩
theorem BF.sI {S : List Nat} {h : HP} {a o k : Nat} {v : Int32} (ho : o ∈ S ∨ o = a) : BF S h (sI h o k v) a a := ⟨Or.inl rfl, Nat.le_refl _, Nat.le_refl _, Nat.le_refl _, fun _ _ => ⟨rfl, rfl⟩, fun q _ hn ha => by
  have : q ≠ o := by
    intro e
    rcases ho with u | u
    · exact hn (e ▸ u)
    · exact ha (e.trans u)
  exact hI_sI_o _ _ _ this, fun _ _ => rfl, fun _ _ _ => rfl⟩
theorem BF.sA {S : List Nat} {h : HP} {a o : Nat} {f : Nat → Int32} (ho : o ∈ S) : BF S h (sA h o f) a a := ⟨Or.inl rfl, Nat.le_refl _, Nat.le_refl _, Nat.le_refl _, fun _ _ => ⟨rfl, rfl⟩, fun q _ hn _ => by
  have : q ≠ o := fun e => hn (e ▸ ho)
  exact hI_sA_ne _ _ this, fun _ _ => rfl, fun _ _ _ => rfl⟩
theorem MV.fr {h h' : HP} {qm : Nat} {acc : List Mv} (m : MV h qm acc) (r : hR h' 16 6 = hR h 16 6) (z : hZ h ≤ hZ h') (k : hK h' qm = hK h qm) (n : hN h' qm = hN h qm) (i : hI h' qm = hI h qm) (e : hI h' 16 7 = hI h 16 7) : MV h' qm acc := by
  obtain ⟨m1, m2, m3, m4, m5, m6, m7, m8⟩ := m
  exact ⟨by rw [r]; exact m1, m2, by omega, by rw [k]; exact m4, by rw [n]; exact m5, by rw [e]; exact m6, by rw [n]; exact m7, by rw [i]; exact m8⟩
theorem s44 {h : HP} {qm : Nat} {acc : List Mv} (hs : SH h) (m : MV h qm acc) (hl : acc.length < 15200) (w1 : Value) : ∃ h' qm', X (44, 0, [.ref 16, w1], [], h) = some (none, h') ∧ BF [] h h' qm qm' ∧ MV h' qm' acc ∧ acc.length < hN h' qm' ∧ hR h' 16 4 = hR h 16 4 ∧ hR h' 16 5 = hR h 16 5 ∧ SH h' := by
  have m0 := m
  obtain ⟨m1, m2, m3, m4, m5, m6, m7, m8⟩ := m
  have h42 : 42 ≤ hZ h := hs.1
  have k10 : hK h qm = 10 ∨ hK h qm = 11 ∨ hK h qm = 12 ∨ hK h qm = 13 := Or.inl m4
  rw [g44_0 _ h hs, m1]
  show ∃ h' qm', (if hK h qm = 10 ∨ hK h qm = 11 ∨ hK h qm = 12 ∨ hK h qm = 13 then _ else none) = _ ∧ _
  rw [if_pos k10, m6]
  by_cases q : acc.length < hN h qm
  · rw [if_neg (nI_ge q (by omega))]
    exact ⟨h, qm, rfl, BF.rf, m0, q, rfl, rfl, hs⟩
  · have e : hN h qm = acc.length := by omega
    have e2 : (2 * nI acc.length) + 1 = nI (2 * acc.length + 1) := by
      rw [show (2 : Int32) = nI 2 from rfl, pk_mul, nI_1]
    rw [if_pos (nI_le (by omega) (by omega)), e2, nI_clamp (by omega)]
    have c1 : ¬ nI (2 * acc.length + 1) < 0 ∧ 2 * acc.length + 1 ≤ 67108864 := ⟨nI_pos (by omega), by omega⟩
    rw [if_pos c1]
    have n16 : (16 : Nat) ≠ hZ h := by omega
    have nqm : qm ≠ hZ h := by omega
    generalize hg : nw h 10 (2 * acc.length + 1) (2 * acc.length + 1) = g
    have gR : ∀ r, r ≠ hZ h → hR g r = hR h r := fun r hr => by rw [← hg, hR_nw, if_neg hr]
    have gK : ∀ r, hK g r = if r = hZ h then 10 else hK h r := fun r => by rw [← hg, hK_nw]
    have gN : ∀ r, hN g r = if r = hZ h then 2 * acc.length + 1 else hN h r := fun r => by rw [← hg, hN_nw]
    have gI : ∀ r, hI g r = if r = hZ h then (fun _ => 0) else hI h r := fun r => by rw [← hg, hI_nw]
    have gL : ∀ r, r ≠ hZ h → hL g r = hL h r := fun r hr => by rw [← hg, hL_nw, if_neg hr]
    have gZ : hZ g = hZ h + 1 := by rw [← hg, hZ_nw]
    have gU : hU g = hU h + (2 * acc.length + 1) := by rw [← hg, hU_nw]
    have gs : SH g := by rw [← hg]; exact hs.nw
    rw [gR 16 n16, m1, gI 16, if_neg n16, m6, nI_clamp (by omega), gN (hZ h), if_pos rfl, gK (hZ h), if_pos rfl]
    show ∃ h' qm', (if (hK g qm = 10 ∧ 10 = 10 ∧ ¬ (0 : Int32) < 0 ∧ ¬ (0 : Int32) < 0 ∧ ¬ nI acc.length < 0) ∧ 0 + acc.length ≤ hN g qm ∧ 0 + acc.length ≤ 2 * acc.length + 1 ∧ rmB [] = true then some (none, sR (sA g (hZ h) (va_cpy (hI g qm) (hI g (hZ h)) 0 0 acc.length)) 16 6 (some (hZ h))) else none) = _ ∧ _
    have kq : hK g qm = 10 := by rw [gK, if_neg nqm]; exact m4
    have nq : hN g qm = hN h qm := by rw [gN, if_neg nqm]
    have c2 : (hK g qm = 10 ∧ 10 = 10 ∧ ¬ (0 : Int32) < 0 ∧ ¬ (0 : Int32) < 0 ∧ ¬ nI acc.length < 0) ∧ 0 + acc.length ≤ hN g qm ∧ 0 + acc.length ≤ 2 * acc.length + 1 ∧ rmB [] = true := ⟨⟨kq, rfl, by decide, by decide, nI_pos (by omega)⟩, by omega, by omega, rfl⟩
    rw [if_pos c2]
    have k13 : hK g (hZ h) ≠ 13 := by rw [gK, if_pos rfl]; decide
    have hs3 : SH (sR (sA g (hZ h) (va_cpy (hI g qm) (hI g (hZ h)) 0 0 acc.length)) 16 6 (some (hZ h))) := (gs.sAd k13).sRs 16 6 rfl
    have hI3 : ∀ r, r ≠ hZ h → hI (sR (sA g (hZ h) (va_cpy (hI g qm) (hI g (hZ h)) 0 0 acc.length)) 16 6 (some (hZ h))) r = hI h r := by
      intro r hr
      rw [hI_sR, hI_sA_ne _ _ hr, gI, if_neg hr]
    have hR3 : ∀ j, hR (sR (sA g (hZ h) (va_cpy (hI g qm) (hI g (hZ h)) 0 0 acc.length)) 16 6 (some (hZ h))) 16 j = if j = 6 then some (hZ h) else hR h 16 j := by
      intro j
      rw [hR_sRr, if_pos rfl, hR_sA, gR 16 n16]
      rfl
    refine ⟨_, hZ h, rfl, ⟨Or.inr (Nat.le_refl _), ?_, ?_, ?_, fun r hr => ⟨?_, ?_⟩, fun r hr _ _ => hI3 r (by omega), fun r hr => ?_, fun r hr h16 => ?_⟩, ⟨?_, ?_, ?_, ?_, ?_, ?_, ?_, ?_⟩, ?_, ?_, ?_, hs3⟩
    · rw [hZ_sR, hZ_sA]; omega
    · rw [hZ_sR, hZ_sA, hN_sR, hN_sA, gN (hZ h), if_pos rfl]; omega
    · rw [hU_sR, hU_sA, hN_sR, hN_sA, gN (hZ h), if_pos rfl]; omega
    · rw [hK_sR, hK_sA, gK, if_neg (by omega)]
    · rw [hN_sR, hN_sA, gN, if_neg (by omega)]
    · rw [hL_sR, hL_sA, gL _ (by omega)]
    · rw [hR_sRr, if_neg h16, hR_sA, gR _ (by omega)]
    · rw [hR3, if_pos rfl]
    · omega
    · rw [hZ_sR, hZ_sA]; omega
    · rw [hK_sR, hK_sA, gK, if_pos rfl]
    · rw [hN_sR, hN_sA, gN, if_pos rfl]; omega
    · rw [hI3 16 n16]; exact m6
    · rw [hN_sR, hN_sA, gN, if_pos rfl]; omega
    · intro i mm hi
      have il : i < acc.length := by
        rcases Nat.lt_or_ge i acc.length with u | u
        · exact u
        · rw [List.getElem?_eq_none u] at hi; cases hi
      rw [hI_sR, hI_sA_same, pk_cpy_in (by omega) (by omega), gI, if_neg nqm, Nat.sub_zero, Nat.zero_add]
      exact m8 i mm hi
    · rw [hN_sR, hN_sA, gN, if_pos rfl]; omega
    · rw [hR3, if_neg (by decide)]
    · rw [hR3, if_neg (by decide)]
theorem s43 {h : HP} {qm q5 : Nat} {acc : List Mv} {n t n' k : Nat} (hs : SH h) (m : MV h qm acc) (hl : acc.length < 15200) (ok : okM (n, t, n', k)) (h11 : hI h 11 = mts n') (r5 : hR h 16 5 = some q5) (hq : q5 = 19 ∨ q5 = 20) : ∃ h' qm', X (43, 0, [.ref 16, .int ((nI n ||| (nI t <<< (14 &&& 31))) ||| (nI k <<< (18 &&& 31))), .int (nI n')], [], h) = some (none, h') ∧ BF [16, 18, q5] h h' qm qm' ∧ MV h' qm' (acc ++ [(n, t, n', k)]) ∧ hI h' 18 = upd (hI h 18) n' (nI (fr n')) ∧ hI h' q5 = upd (hI h q5) n' 1 ∧ (∀ j, j ≠ 7 → hI h' 16 j = hI h 16 j) ∧ hR h' 16 4 = hR h 16 4 ∧ hR h' 16 5 = hR h 16 5 ∧ SH h' := by
  have h42 : 42 ≤ hZ h := hs.1
  have eo := enc_or ok
  obtain ⟨o1, o2, o3, o4⟩ := ok
  simp only at o1 o2 o3 o4
  have ib : inB (nI n') 76 = true := inB_nI o3 (by decide)
  have kq : hK h q5 = 12 := by
    rcases hq with rfl | rfl
    · rw [hs.k 19 rfl]; rfl
    · rw [hs.k 20 rfl]; rfl
  have nq : hN h q5 = 76 := by
    rcases hq with rfl | rfl
    · rw [hs.n 19 rfl]; rfl
    · rw [hs.n 20 rfl]; rfl
  have q16 : q5 ≠ 16 := by omega
  have q18 : q5 ≠ 18 := by omega
  have qmq : qm ≠ q5 := by have := m.2.1; omega
  have qm18 : qm ≠ 18 := by have := m.2.1; omega
  have qm16 : qm ≠ 16 := by have := m.2.1; omega
  rw [g43_0 _ _ h hs, if_neg (nI_pos (by omega)), if_pos (show nI n' < 76 from nI_lt o3 (by decide)), s22 _ _ h hs, bI_s, if_pos ib, nI_clamp (by omega), h11, (F_num o3).2.1]
  generalize hg : sI h 18 n' (nI (fr n')) = g
  have gs : SH g := by rw [← hg]; exact hs.sIs 18 rfl
  have gR : hR g = hR h := by rw [← hg]; rfl
  have gK : hK g = hK h := by rw [← hg]; rfl
  have gN : hN g = hN h := by rw [← hg]; rfl
  have gI : ∀ r, r ≠ 18 → hI g r = hI h r := fun r hr => by rw [← hg]; exact hI_sI_o _ _ _ hr
  have g18 : hI g 18 = upd (hI h 18) n' (nI (fr n')) := by rw [← hg, hI_sI, if_pos rfl]
  have gF : BF [16, 18, q5] h g qm qm := by rw [← hg]; exact BF.sI (Or.inl (by simp))
  have gM : MV g qm acc := m.fr (by rw [gR]) gF.2.1 (by rw [gK]) (by rw [gN]) (gI qm qm18) (by rw [gI 16 (by decide)])
  rw [gR, r5]
  show ∃ h' qm', (if hK g q5 = 12 ∧ inB (nI n') (hN g q5) = true then _ else none) = _ ∧ _
  have c1 : hK g q5 = 12 ∧ inB (nI n') (hN g q5) = true := ⟨by rw [gK]; exact kq, by rw [gN, nq]; exact ib⟩
  rw [if_pos c1]
  generalize hf : sI g q5 n' (1 &&& 1) = f
  have fs : SH f := by rw [← hf]; exact gs.sId (by rw [gK, kq]; decide)
  have fR : hR f = hR h := by rw [← hf]; exact gR
  have fK : hK f = hK h := by rw [← hf]; exact gK
  have fN : hN f = hN h := by rw [← hf]; exact gN
  have fI : ∀ r, r ≠ q5 → hI f r = hI g r := fun r hr => by rw [← hf]; exact hI_sI_o _ _ _ hr
  have f5 : hI f q5 = upd (hI h q5) n' 1 := by rw [← hf, hI_sI, if_pos rfl, gI q5 q18]; rfl
  have fF : BF [16, 18, q5] g f qm qm := by rw [← hf]; exact BF.sI (Or.inl (by simp))
  have fM : MV f qm acc := gM.fr (by rw [fR, gR]) fF.2.1 (by rw [fK, gK]) (by rw [fN, gN]) (fI qm qmq) (by rw [fI 16 (fun u => q16 u.symm)])
  obtain ⟨h3, qm', x1, x2, x3, x4, x5, x6, x7⟩ := s44 fs fM hl .null
  rw [x1, bV_s]
  have x3' := x3
  obtain ⟨y1, y2, y3, y4, y5, y6, y7, y8⟩ := x3
  have zf : hZ f = hZ h := by rw [← hf, ← hg]; rfl
  have e3 : ∀ r, r < 42 → r ≠ qm → hI h3 r = hI f r := fun r hr hq => x2.2.2.2.2.2.1 r (by omega) (by simp) hq
  rw [y1]
  show ∃ h' pp, (if hK h3 qm' = 10 ∧ inB (hI h3 16 7) (hN h3 qm') = true then _ else none) = _ ∧ _
  have c2 : hK h3 qm' = 10 ∧ inB (hI h3 16 7) (hN h3 qm') = true := ⟨y4, by rw [y6]; exact inB_nI x4 (by omega)⟩
  rw [if_pos c2, y6, nI_clamp (by omega), eo]
  have pm16 : (16 : Nat) ≠ qm' := by omega
  rw [hI_sI_o _ _ _ pm16, y6, nI_1]
  have hs4 : SH (sI h3 qm' acc.length (nI (enc (n, t, n', k)))) := x7.sId (by rw [y4]; decide)
  have I' : ∀ r, r ≠ 16 → r ≠ qm' → hI (sI (sI h3 qm' acc.length (nI (enc (n, t, n', k)))) 16 7 (nI (acc.length + 1))) r = hI h3 r := by
    intro r h1 h2
    rw [hI_sI_o _ _ _ h1, hI_sI_o _ _ _ h2]
  have n18 : (18 : Nat) ≠ qm' := by omega
  have n5 : q5 ≠ qm' := by omega
  refine ⟨_, qm', rfl, ?_, ⟨y1, y2, y3, y4, y5, ?_, ?_, ?_⟩, ?_, ?_, ?_, ?_, ?_, hs4.sIs 16 rfl⟩
  · have b1 : BF [16, 18, q5] f h3 qm qm' := x2.mono (by simp)
    have b2 : BF [16, 18, q5] h3 (sI h3 qm' acc.length (nI (enc (n, t, n', k)))) qm' qm' := BF.sI (Or.inr rfl)
    exact (((gF.tr fF).tr b1).tr b2).tr (BF.sI (Or.inl (by simp)))
  · rw [hI_sI_same, List.length_append]; rfl
  · rw [List.length_append]
    show acc.length + 1 ≤ hN h3 qm'
    omega
  · intro i mm hi
    rw [hI_sI_o _ _ _ (fun u => pm16 u.symm)]
    by_cases u : i = acc.length
    · subst u
      rw [List.getElem?_append_right (Nat.le_refl _), Nat.sub_self] at hi
      cases hi
      exact hI_sI_same _ _ _ _
    · rw [hI_sI_ne _ _ u]
      apply y8 i mm
      rcases Nat.lt_or_ge i acc.length with v | v
      · rw [List.getElem?_append_left v] at hi; exact hi
      · rw [List.getElem?_append_right v] at hi
        have : [(n, t, n', k)][i - acc.length]? = none := List.getElem?_eq_none (by simp; omega)
        rw [this] at hi; cases hi
  · rw [I' 18 (by decide) n18, e3 18 (by decide) (fun u => qm18 u.symm), fI 18 (fun u => q18 u.symm), g18]
  · rw [I' q5 q16 n5, e3 q5 (by omega) (fun u => qmq u.symm), f5]
  · intro j hj
    rw [hI_sI_ne _ _ hj, hI_sI_o _ _ _ pm16, e3 16 (by decide) (fun u => qm16 u.symm), fI 16 (fun u => q16 u.symm), gI 16 (by decide)]
  · show hR h3 16 4 = _
    rw [x5, fR]
  · show hR h3 16 5 = _
    rw [x6, fR]
    exact r5
