/-! the moves of a front at a cell -/
theorem s41 {h : HP} {q : Nat} (hs : SH h) (hq : q = 19 ∨ q = 20) (w1 : Value) : ∃ h', X (41, 0, [.ref q, w1], [], h) = some (none, h') ∧ Fr [q] [] h h' ∧ ∀ j, j < 76 → hI h' q j = 0 := by
  have key : ∀ (n j : Nat), j + n = 76 → ∀ (h : HP), SH h → (∀ i, i < j → hI h q i = 0) → ∃ h', X (41, 2, [.ref q, .int (nI j)], [], h) = some (none, h') ∧ Fr [q] [] h h' ∧ ∀ j, j < 76 → hI h' q j = 0 := by
    intro n
    induction n with
    | zero =>
      intro j hj h hs hd
      have kq : hK h q = 12 := by
        rcases hq with rfl | rfl
        · rw [hs.k 19 rfl]; rfl
        · rw [hs.k 20 rfl]; rfl
      have nq : hN h q = 76 := by
        rcases hq with rfl | rfl
        · rw [hs.n 19 rfl]; rfl
        · rw [hs.n 20 rfl]; rfl
      have : j = 76 := by omega
      subst this
      refine ⟨h, ?_, Fr.rf, hd⟩
      rw [g41_2 _ _ h hs, if_pos (Or.inr (Or.inr (Or.inl kq))), nq, if_pos (nI_le (Nat.le_refl _) (by decide))]
    | succ n ih =>
      intro j hj h hs hd
      have kq : hK h q = 12 := by
        rcases hq with rfl | rfl
        · rw [hs.k 19 rfl]; rfl
        · rw [hs.k 20 rfl]; rfl
      have nq : hN h q = 76 := by
        rcases hq with rfl | rfl
        · rw [hs.n 19 rfl]; rfl
        · rw [hs.n 20 rfl]; rfl
      obtain ⟨h', x1, x2, x3⟩ := ih (j + 1) (by omega) (sI h q j 0) (hs.sId (by rw [kq]; decide)) (by
        intro i hi
        by_cases u : i = j
        · subst u; exact hI_sI_same _ _ _ _
        · rw [hI_sI_ne _ _ u]; exact hd i (by omega))
      refine ⟨h', ?_, (Fr.sI (by simp)).tr x2, x3⟩
      have c : hK h q = 12 ∧ inB (nI j) 76 = true := ⟨kq, inB_nI (by omega) (by decide)⟩
      rw [g41_2 _ _ h hs, if_pos (Or.inr (Or.inr (Or.inl kq))), nq, if_neg (nI_ge (by omega) (by decide)), if_pos c, nI_clamp (by omega), nI_1]
      exact x1
  obtain ⟨h', x1, x2, x3⟩ := key 76 0 (by omega) h hs (fun i hi => absurd hi (by omega))
  exact ⟨h', by rw [g41_0 _ _ h hs]; exact x1, x2, x3⟩
def anyT (L : List Mv) (j : Nat) : Bool := L.any (fun m => Nat.beq m.2.2.1 j)
def flL (L : List Mv) (r : Nat → Int32) : Nat → Int32 := fun j => if anyT L j = true then 1 else r j
def cdL (L : List Mv) (r : Nat → Int32) : Nat → Int32 := fun j => if anyT L j = true then nI (fr j) else r j
theorem anyT_app (a b : List Mv) (j : Nat) : anyT (a ++ b) j = (anyT a j || anyT b j) := List.any_append
theorem flL_app (a b : List Mv) (r : Nat → Int32) : flL b (flL a r) = flL (a ++ b) r := by
  funext j
  unfold flL
  rw [anyT_app]
  cases anyT a j <;> cases anyT b j <;> rfl
theorem cdL_app (a b : List Mv) (r : Nat → Int32) : cdL b (cdL a r) = cdL (a ++ b) r := by
  funext j
  unfold cdL
  rw [anyT_app]
  cases anyT a j <;> cases anyT b j <;> rfl
theorem flL_1 (m : Mv) (r : Nat → Int32) : upd r m.2.2.1 1 = flL [m] r := by
  funext j
  unfold flL upd anyT
  by_cases q : j = m.2.2.1
  · rw [if_pos q, if_pos (by rw [q]; simp)]
  · rw [if_neg q, if_neg]
    intro u
    simp only [List.any_cons, List.any_nil, Bool.or_false] at u
    exact q (Nat.eq_of_beq_eq_true u).symm
theorem cdL_1 (m : Mv) (r : Nat → Int32) : upd r m.2.2.1 (nI (fr m.2.2.1)) = cdL [m] r := by
  funext j
  unfold cdL upd anyT
  by_cases q : j = m.2.2.1
  · rw [if_pos q, if_pos (by rw [q]; simp), q]
  · rw [if_neg q, if_neg]
    intro u
    simp only [List.any_cons, List.any_nil, Bool.or_false] at u
    exact q (Nat.eq_of_beq_eq_true u).symm
theorem flL_0 (r : Nat → Int32) : flL [] r = r := rfl
theorem cdL_0 (r : Nat → Int32) : cdL [] r = r := rfl
theorem cdL_ok {L : List Mv} {r : Nat → Int32} {n : Nat} (h : r n = nI (fr n)) : cdL L r n = nI (fr n) := by
  unfold cdL
  split
  · rfl
  · exact h
section Am
variable {W H : Nat} {ar : Bool}
theorem BD.bf {S : List Nat} {h h' : HP} {a b : Nat} (hb : BD h W H ar) (hs : SH h) (p : BF S h h' a b) (h6 : 6 ∉ S) (h8 : 8 ∉ S) (h9 : 9 ∉ S) (ha : a = 21 ∨ 42 ≤ a) : BD h' W H ar := by
  have h42 : 42 ≤ hZ h := hs.1
  obtain ⟨b0, b1, b2, b3, b4⟩ := hb
  have e6 := p.2.2.2.2.2.1 6 (by omega) h6 (by omega)
  have e8 := p.2.2.2.2.2.1 8 (by omega) h8 (by omega)
  have e9 := p.2.2.2.2.2.1 9 (by omega) h9 (by omega)
  exact ⟨b0, by rw [e6]; exact b1, by rw [e6]; exact b2, by rw [e6]; exact b3, fun c hc => by rw [e8, e9]; exact b4 c hc⟩
def JK (h : HP) : Prop := ∀ k, 6 ≤ k → hI h 11 k = 0
/-- what addMoves leaves -/
def AMp (q5 : Nat) (L : List Mv) (h h' : HP) (qm qm' : Nat) (acc : List Mv) : Prop := BF [11, 16, 18, q5] h h' qm qm' ∧ MV h' qm' (acc ++ L) ∧ hI h' 18 = cdL L (hI h 18) ∧ hI h' q5 = flL L (hI h q5) ∧ (∀ j, j ≠ 7 → hI h' 16 j = hI h 16 j) ∧ hR h' 16 4 = hR h 16 4 ∧ hR h' 16 5 = hR h 16 5 ∧ SH h' ∧ JK h'
theorem AMp.tr {q5 : Nat} {L L' : List Mv} {h1 h2 h3 : HP} {a b c : Nat} {acc : List Mv} (p : AMp q5 L h1 h2 a b acc) (q : AMp q5 L' h2 h3 b c (acc ++ L)) : AMp q5 (L ++ L') h1 h3 a c acc := by
  obtain ⟨p1, p2, p3, p4, p5, p6, p7, p8, p9⟩ := p
  obtain ⟨q1, q2, q3, q4, q5, q6, q7, q8, q9⟩ := q
  exact ⟨p1.tr q1, by rw [← List.append_assoc]; exact q2, by rw [q3, p3, cdL_app], by rw [q4, p4, flL_app], fun j hj => (q5 j hj).trans (p5 j hj), q6.trans p6, q7.trans p7, q8, q9⟩
theorem s42l {c n q5 : Nat} (hc : c < W * H) (hn : n < 76) (hl : inL W H ar c n = true) (hq : q5 = 19 ∨ q5 = 20) : ∀ (f t : Nat), t + f = 10 → ∀ (h : HP) (qm : Nat) (acc : List Mv) (w6 : Value), BD h W H ar → SH h → MV h qm acc → acc.length + f ≤ 15200 → JK h → hI h 18 n = nI (fr n) → hR h 16 5 = some q5 → ∃ h' qm', X (42, 35, [.ref 16, .int (nI c), .int (nI n), .int (nI (setl W H ar c)), .int (wnt W H ar c (mts n)), .int (nI t), w6], [], h) = some (none, h') ∧ AMp q5 (mvT W H ar c n f t) h h' qm qm' acc := by
  intro f
  induction f with
  | zero =>
    intro t ht h qm acc w6 hb hs m hlen hj h18 r5
    have : t = 10 := by omega
    subst this
    refine ⟨h, qm, ?_, BF.rf, by rw [mvT, List.append_nil]; exact m, rfl, rfl, fun _ _ => rfl, rfl, rfl, hs, hj⟩
    rw [g42_35 _ _ _ _ _ _ h hs, if_pos (show (10 : Int32) ≤ nI 10 from by decide)]
  | succ f ih =>
    intro t ht h qm acc w6 hb hs m hlen hj h18 r5
    have hk := hb.1
    have ht10 : t < 10 := by omega
    have n10 : ¬ (10 : Int32) ≤ nI t := nI_ge (show t < 10 by omega) (by decide)
    rw [g42_35 _ _ _ _ _ _ h hs, if_neg n10, if_pos (inB_nI ht10 (by decide)), nI_clamp (by omega), hs.t 0 rfl, mvT]
    cases htr : tr W H ar c n t with
    | none =>
      rw [if_neg (T_none hk hc hn hl ht10 htr), g42_104 _ _ _ _ _ _ h hs, nI_1]
      exact ih (t + 1) (by omega) h qm acc w6 hb hs m (by omega) hj h18 r5
    | some p =>
      obtain ⟨n', k⟩ := p
      obtain ⟨t1, t2, t3, t4, t5, t6⟩ := T_some hk hc hn hl ht10 htr
      have t7 := T_M hk hc hn hl ht10 htr
      have t12 := T_12 hk hc hn hl
      have u1 : unpM (hI h 11) (hI h 18 n) = mts n := by rw [h18]; exact (F_num hn).2.2.1 _ hj
      have F1 : Fr [11] [] h (sA h 11 (mts n)) := Fr.sA (by simp)
      have hs1 : SH (sA h 11 (mts n)) := hs.sAs 11 rfl
      have hb1 : BD (sA h 11 (mts n)) W H ar := hb.fr F1 (by decide) (by decide) (by decide)
      rw [if_pos t1, if_pos (inB_nI hn (by decide)), nI_clamp (by omega), s23 _ _ h hs, bV_s, u1, s33 hb1 hs1 hc ht10, bI_s, hI_sA_same, t5, t7, sA_sA]
      have hs2 : SH (sA h 11 (mts n')) := hs.sAs 11 rfl
      rw [s24 _ _ _ _ _ _ _ hs2, bI_s, hI_sA_same, (F_num t2).1]
      have qm11 : qm ≠ 11 := by have := m.2.1; omega
      have m2 : MV (sA h 11 (mts n')) qm acc := m.fr rfl (Nat.le_refl _) rfl rfl (hI_sA_ne _ _ qm11) (by rw [hI_sA_ne _ _ (by decide)])
      obtain ⟨h3, qm3, x1, x2, x3, x4, x5, x6, x7, x8, x9⟩ := s43 (n := n) (t := t) (n' := n') (k := k) hs2 m2 (by omega) ⟨hn, ht10, t2, by show k ≤ 12; omega⟩ (hI_sA_same _ _ _) r5 hq
      have q11 : q5 ≠ 11 := by omega
      have B0 : BF [11, 16, 18, q5] h (sA h 11 (mts n')) qm qm := BF.sA (by simp)
      have B1 : BF [11, 16, 18, q5] (sA h 11 (mts n')) h3 qm qm3 := x2.mono (by
        intro q hq
        exact List.mem_cons_of_mem _ hq)
      have z42 : 42 ≤ hZ h := hs.1
      have e11 : hI h3 11 = mts n' := by
        rw [x2.2.2.2.2.2.1 11 (by show 11 < hZ h; omega) (by simp; omega) (fun u => qm11 u.symm), hI_sA_same]
      have P : AMp q5 [(n, t, n', k)] h h3 qm qm3 acc := by
        refine ⟨B0.tr B1, x3, ?_, ?_, fun j hj => ?_, x7, x8, x9, fun j hj => by rw [e11]; exact mts_hi _ hj⟩
        · rw [x4, hI_sA_ne _ _ (by decide)]; exact cdL_1 (n, t, n', k) _
        · rw [x5, hI_sA_ne _ _ q11]; exact flL_1 (n, t, n', k) _
        · rw [x6 j hj, hI_sA_ne _ _ (by decide)]
      rw [x1, bV_s, g42_104 _ _ _ _ _ _ h3 x9, nI_1]
      obtain ⟨h4, qm4, y1, y2⟩ := ih (t + 1) (by omega) h3 qm3 (acc ++ [(n, t, n', k)]) (.int (nI k)) (hb.bf hs P.1 (by simp; omega) (by simp; omega) (by simp; omega) m.2.1) x9 x3 (by rw [List.length_append]; show acc.length + 1 + f ≤ 15200; omega) P.2.2.2.2.2.2.2.2 (by rw [P.2.2.1]; exact cdL_ok h18) (by rw [x8]; exact r5)
      exact ⟨h4, qm4, y1, P.tr y2⟩
theorem s42 {c n q5 : Nat} (hc : c < W * H) (hn : n < 76) (hl : inL W H ar c n = true) (hq : q5 = 19 ∨ q5 = 20) {h : HP} {qm : Nat} {acc : List Mv} (w3 w4 w5 w6 : Value) (hb : BD h W H ar) (hs : SH h) (m : MV h qm acc) (hlen : acc.length + 10 ≤ 15200) (hj : JK h) (h18 : hI h 18 n = nI (fr n)) (r5 : hR h 16 5 = some q5) : ∃ h' qm', X (42, 0, [.ref 16, .int (nI c), .int (nI n), w3, w4, w5, w6], [], h) = some (none, h') ∧ AMp q5 (mvT W H ar c n 10 0) h h' qm qm' acc := by
  have u1 : unpM (hI h 11) (hI h 18 n) = mts n := by rw [h18]; exact (F_num hn).2.2.1 _ hj
  have F1 : Fr [11] [] h (sA h 11 (mts n)) := Fr.sA (by simp)
  have hs1 : SH (sA h 11 (mts n)) := hs.sAs 11 rfl
  have hb1 : BD (sA h 11 (mts n)) W H ar := hb.fr F1 (by decide) (by decide) (by decide)
  have qm11 : qm ≠ 11 := by have := m.2.1; omega
  have q11 : q5 ≠ 11 := by omega
  have m2 : MV (sA h 11 (mts n)) qm acc := m.fr rfl (Nat.le_refl _) rfl rfl (hI_sA_ne _ _ qm11) (by rw [hI_sA_ne _ _ (by decide)])
  have P : AMp q5 [] h (sA h 11 (mts n)) qm qm acc := ⟨BF.sA (by simp), by rw [List.append_nil]; exact m2, by rw [hI_sA_ne _ _ (by decide)]; rfl, by rw [hI_sA_ne _ _ q11]; rfl, fun j _ => by rw [hI_sA_ne _ _ (by decide)], rfl, rfl, hs1, fun k hk => by rw [hI_sA_same]; exact mts_hi _ hk⟩
  obtain ⟨h4, qm4, y1, y2⟩ := s42l hc hn hl hq 10 0 (by omega) _ qm acc w6 hb1 hs1 m2 hlen P.2.2.2.2.2.2.2.2 (by rw [hI_sA_ne _ _ (by decide)]; exact h18) r5
  refine ⟨h4, qm4, ?_, ?_⟩
  · rw [g42_0 _ _ _ _ _ _ h hs, if_pos (inB_nI hn (by decide)), nI_clamp (by omega), s23 _ _ h hs, bV_s, u1, s31 hb1 hs1 hc, bI_s, s32 hb1 hs1 hc, bI_s, hI_sA_same]
    exact y1
  · rw [← List.append_nil acc] at y2
    have := P.tr y2
    exact this
end Am
