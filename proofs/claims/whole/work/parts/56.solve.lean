/-! the state of the component; solve -/
section So
variable {W H : Nat} {ar : Bool} {al : Nat → Nat}
theorem cnt_al {al al' : Nat → Nat} : ∀ (r c : Nat), (∀ d, c ≤ d → d < c + r → al d = al' d) → ∀ n l, cnt W H ar al r c n l = cnt W H ar al' r c n l := by
  intro r
  induction r with
  | zero => intros; rfl
  | succ r ih =>
    intro c h n l
    rw [cnt, cnt]
    refine sT_c 10 0 (fun t _ _ => ?_)
    show (if (al c).testBit t = true then _ else 0) = (if (al' c).testBit t = true then _ else 0)
    rw [h c (by omega) (by omega)]
    by_cases q : (al' c).testBit t = true
    · rw [if_pos q, if_pos q]
      cases tr W H ar c n t with
      | none => rfl
      | some p =>
        show (if p.2 ≤ l then _ else 0) = (if p.2 ≤ l then _ else 0)
        rw [ih (c + 1) (fun d a b => h d (by omega) (by omega))]
    · rw [if_neg q, if_neg q]
theorem WC.alc {al al' : Nat → Nat} {h : HP} {qw c : Nat} (w : WC W H ar al h qw c) (hc : c ≤ W * H) (e : ∀ d, c ≤ d → d < W * H → al d = al' d) : WC W H ar al' h qw c := by
  have k : ∀ n l, cnt W H ar al (W * H - c) c n l = cnt W H ar al' (W * H - c) c n l := cnt_al _ _ (fun d a b => e d a (by omega))
  obtain ⟨T, t1, t2, t3, t4⟩ := w
  exact ⟨T, t1, t2, fun n hn l hl => by rw [← k]; exact t3 n hn l hl, fun n hn l hl => by rw [← k]; exact t4 n hn l hl⟩
theorem WC.of {h h' : HP} {qw c : Nat} (w : WC W H ar al h qw c) (i : hI h' 22 = hI h 22) (l : hL h' qw = hL h qw) : WC W H ar al h' qw c := by
  obtain ⟨T, t1, t2, t3, t4⟩ := w
  exact ⟨T, by rw [i]; exact t1, t2, t3, fun n hn l' hl => by rw [l]; exact t4 n hn l' hl⟩
theorem MOK.of {h h' : HP} {qm : Nat} (m : MOK h qm W H ar) (r : hR h' 16 6 = hR h 16 6) (z : hZ h ≤ hZ h') (k : hK h' qm = hK h qm) (n : hN h' qm = hN h qm) (i : hI h' qm = hI h qm) (e : hI h' 16 = hI h 16) (e2 : hI h' 17 = hI h 17) : MOK h' qm W H ar := by
  obtain ⟨m1, m2, m3, m4, m5⟩ := m
  exact ⟨by rw [e]; exact m1, by rw [e]; exact m2, by rw [e]; exact m3, m4.fr r z k n i (by rw [e]), by rw [e2]; exact m5⟩
def RLg (h : HP) : Prop := (hR h 15 4 = some 24 ∧ hR h 15 5 = some 25) ∨ (hR h 15 4 = some 25 ∧ hR h 15 5 = some 24)
def BT (h : HP) (qm : Nat) : Prop := hI h 16 8 = 0 ∨ ∃ W H ar, okS W H ar = true ∧ MOK h qm W H ar
theorem s40 {h : HP} (hb : BD h W H ar) (hs : SH h) {qm qa qb : Nat} {acc : List Mv} (m : MV h qm acc) (bt : BT h qm) (hj : JK h) (h180 : hI h 18 0 = nI (fr 0)) (h170 : hI h 17 0 = 0) (hr : RF4 h qa qb) (w1 w2 w3 : Value) : ∃ h' qm', X (40, 0, [.ref 16, w1, w2, w3], [], h) = some (none, h') ∧ BF stS h h' qm qm' ∧ MOK h' qm' W H ar ∧ (∃ a b, RF4 h' a b) ∧ SH h' ∧ JK h' ∧ hI h' 18 0 = nI (fr 0) ∧ hI h' 17 0 = 0 := by
  obtain ⟨⟨k1, k2⟩, ⟨k3, k4⟩, -⟩ := okS_1 hb.1
  have B := s40b hb hs m hj h180 h170 hr w1 w2 w3
  rw [g40_0 _ _ _ h hs]
  by_cases q1 : hI h 16 8 = hI h 6 0
  · rw [if_pos q1]
    by_cases q2 : hI h 16 9 = hI h 6 1
    · rw [if_pos q2]
      by_cases q3 : hI h 16 10 = hI h 6 2
      · rw [if_pos q3]
        rcases bt with bt | ⟨W', H', ar', o, mo⟩
        · exfalso
          rw [q1, hb.2.1] at bt
          exact nI_ne0 (by omega) (by omega) bt
        · obtain ⟨⟨j1, j2⟩, ⟨j3, j4⟩, -⟩ := okS_1 o
          have e1 : W' = W := by
            rw [mo.1, hb.2.1] at q1
            exact (nI_eq (by omega) (by omega)).mp q1
          have e2 : H' = H := by
            rw [mo.2.1, hb.2.2.1] at q2
            exact (nI_eq (by omega) (by omega)).mp q2
          have e3 : ar' = ar := by
            rw [mo.2.2.1, hb.2.2.2.1] at q3
            revert q3
            cases ar' <;> cases ar <;> decide
          subst e1; subst e2; subst e3
          exact ⟨h, qm, rfl, BF.rf, mo, ⟨qa, qb, hr⟩, hs, hj, h180, h170⟩
      · rw [if_neg q3]; exact B
    · rw [if_neg q2]; exact B
  · rw [if_neg q1]; exact B
def SVd (W H : Nat) (ar : Bool) (al : Nat → Nat) (h : HP) (qw s : Nat) : Prop := hI h 15 6 = nI (frN W ar) ∧ wsz W H ar ≤ hN h qw ∧ ∀ c, s ≤ c → c ≤ W * H → WC W H ar al h qw c
theorem mn_20 {n : Nat} (h : n ≤ 20) : (if (20 : Int32) < nI n then 20 else nI n) = nI n := if_neg (by
  rw [show (20 : Int32) = nI 20 from rfl]
  exact nI_nlt h (by decide))
theorem s71l {qm qw : Nat} : ∀ j, j ≤ W * H → ∀ h, BD h W H ar → SH h → AL h W H al → MOK h qm W H ar → WV h qw → SVd W H ar al h qw j → ∃ h', X (71, 37, [.ref 15, .int (nI j - 1)], [], h) = some (none, h') ∧ Fr [15, 22] [qw] h h' ∧ SVd W H ar al h' qw 0 ∧ hI h' 15 7 = nI 0 := by
  intro j
  induction j with
  | zero =>
    intro hj h hb hs ha mo wv sv
    obtain ⟨v1, v2, v3⟩ := sv
    refine ⟨sI h 15 7 0, ?_, Fr.sI (by simp), ⟨?_, v2, fun c h1 h2 => (v3 c h1 h2).of (hI_sI_o _ _ _ (by decide)) rfl⟩, hI_sI_same _ _ _ _⟩
    · rw [g71_37 _ h hs, if_pos (by decide)]
    · rw [hI_sI_ne _ _ (by decide)]; exact v1
  | succ j ih =>
    intro hj h hb hs ha mo wv sv
    have h20 := (okS_1 hb.1).2.2.1
    obtain ⟨v1, v2, v3⟩ := sv
    obtain ⟨g, x1, x2, x3, x4, x5⟩ := s73 (c := j) (by omega) hb hs ha mo wv v1 v2 (v3 (j + 1) (by omega) hj) .null .null .null
    have qm21 := mo.2.2.2.1.2.1
    obtain ⟨h', y1, y2, y3, y4⟩ := ih (by omega) g (hb.fr x2 (by decide) (by decide) (by decide)) x3 (ha.fr x2 (by decide)) (mo.fr x2 (by decide) (by decide) (by simp; omega)) (wv.fr x2) ⟨by rw [x2.2.2.2.2.2.1 15 (by decide)]; exact v1, by rw [x2.2.1]; exact v2, fun c h1 h2 => by
      rcases Nat.lt_or_ge j c with u | u
      · exact x5 c u (v3 c (by omega) h2)
      · have : c = j := by omega
        subst this
        exact x4⟩
    refine ⟨h', ?_, (x2.mono (by simp) (by simp)).tr y2, y3, y4⟩
    rw [nI_pred, g71_37 _ h hs, if_neg (nI_pos (by omega)), x1, bV_s, show nI j + (-1) = nI j - 1 from (Int32.sub_eq_add_neg _ _).symm]
    exact y1
/-- the state of the component but for its sheet: board, allowed tiles; moves, ways, what of them holds; room -/
def CSx (u W H : Nat) (ar : Bool) (al : Nat → Nat) (h : HP) (qm qw s : Nat) : Prop := SH h ∧ BD h W H ar ∧ AL h W H al ∧ JK h ∧ hI h 18 0 = nI (fr 0) ∧ hI h 17 0 = 0 ∧ (∃ a b, RF4 h a b) ∧ RLg h ∧ (∃ acc, MV h qm acc) ∧ WV h qw ∧ hZ h ≤ 42 + hN h qm + hN h qw ∧ hU h + rst (hN h qw) szL ≤ u + 2 * hN h qm ∧ BT h qm ∧ hI h 15 7 = nI s ∧ s ≤ 21 ∧ (s ≤ W * H → MOK h qm W H ar ∧ SVd W H ar al h qw s)
/-- a frame for the objects that stay where they are -/
def UF (S : List Nat) (h h' : HP) : Prop := (∀ q, q < 42 → q ∉ S → hI h' q = hI h q) ∧ (∀ q, q < 42 → q ∉ [23, 24, 25] → hL h' q = hL h q) ∧ (∀ q, q < 42 → q ≠ 15 → q ≠ 16 → hR h' q = hR h q) ∧ hN h' 4 = hN h 4
theorem UF.rf {S : List Nat} {h : HP} : UF S h h := ⟨fun _ _ _ => rfl, fun _ _ _ => rfl, fun _ _ _ _ => rfl, rfl⟩
theorem UF.tr {S : List Nat} {h1 h2 h3 : HP} (a : UF S h1 h2) (b : UF S h2 h3) : UF S h1 h3 := ⟨fun q h n => (b.1 q h n).trans (a.1 q h n), fun q h n => (b.2.1 q h n).trans (a.2.1 q h n), fun q h n m => (b.2.2.1 q h n m).trans (a.2.2.1 q h n m), b.2.2.2.trans a.2.2.2⟩
theorem UF.mono {S S' : List Nat} {h1 h2 : HP} (a : UF S h1 h2) (hS : ∀ q ∈ S, q ∈ S') : UF S' h1 h2 := ⟨fun q h n => a.1 q h (fun u => n (hS q u)), a.2.1, a.2.2⟩
theorem UF.of {S S' T : List Nat} {h1 h2 : HP} (a : Fr S T h1 h2) (hS : ∀ q ∈ S, q ∈ S') (hT : ∀ q ∈ T, q < 42 → q ∈ [23, 24, 25]) : UF S' h1 h2 := by
  obtain ⟨a1, a2, a3, a4, a5, a6, a7⟩ := a
  exact ⟨fun q _ n => a6 q (fun u => n (hS q u)), fun q h n => a7 q (fun u => n (hT q u h)), fun q _ _ _ => by rw [a3], by rw [a2]⟩
def slS : List Nat := [11, 15, 16, 17, 18, 19, 20, 21, 22]
theorem s71 {u : Nat} {h : HP} {qm qw s : Nat} (cs : CSx u W H ar al h qm qw s) (w1 : Value) : ∃ h' qm' qw', X (71, 0, [.ref 15, w1], [], h) = some (none, h') ∧ CSx u W H ar al h' qm' qw' 0 ∧ UF slS h h' := by
  obtain ⟨hs, hb, ha, hj, h180, h170, ⟨qa, qb, rf⟩, rl, ⟨acc, mv⟩, wv, pZ, pU, bt, h7, hs21, hv⟩ := cs
  have h20 := (okS_1 hb.1).2.2.1
  have z42 := hs.1
  have m21 := mv.2.1
  have w23 := wv.2.1
  have mw : qm ≠ qw := by
    intro e
    have a := mv.2.2.2.1
    rw [e, wv.2.2.2.1] at a
    exact absurd a (by decide)
  rw [g71_0 _ h hs, s6 hb hs, bI_s, h7]
  rcases Nat.lt_or_ge (W * H) s with q | q
  · rw [if_neg (nI_ge q (by omega))]
    obtain ⟨g, qm1, x1, x2, x3, x4, x5, x6, x7, x8⟩ := s40 hb hs mv bt hj h180 h170 rf .null .null .null
    have p := x2
    obtain ⟨p1, p2, p3, p4, p5, p6, p7, p8⟩ := p
    have mv1 := x3.2.2.2.1
    have m21' := mv1.2.1
    have gb : BD g W H ar := hb.bf hs x2 (by decide) (by decide) (by decide) m21
    have gw : WV g qw := ⟨by rw [p8 15 (by omega) (by decide)]; exact wv.1, wv.2.1, by have := wv.2.2.1; omega, by rw [(p5 qw wv.2.2.1).1]; exact wv.2.2.2.1, by rw [(p5 qw wv.2.2.1).2]; exact wv.2.2.2.2⟩
    obtain ⟨k, qw1, y1, y2, ys, yw, y6, ysz, yc, y7⟩ := s72 (al := al) gb x5 gw .null .null .null
    have r := y2
    obtain ⟨r1, r2, r3, r4, r5, r6, r7, r8, r9⟩ := r
    have z43 := x5.1
    have gw2 := gw.2.2.1
    have mz := mv1.2.2.1
    have wN : hN g qw = hN h qw := (p5 qw wv.2.2.1).2
    have mN : hN k qm1 = hN g qm1 := (r5 qm1 mz).2
    have r4' := r4
    rw [wN] at r4'
    have km : MOK k qm1 W H ar := x3.of (by rw [r8 16 (by omega) (by decide)]) r2 (r5 qm1 mz).1 mN (r6 qm1 mz (by simp; omega)) (r6 16 (by omega) (by decide)) (r6 17 (by omega) (by decide))
    have ka : AL k W H al := fun c hc => by rw [r6 7 (by omega) (by decide), p6 7 (by omega) (by decide) (by omega)]; exact ha c hc
    have kb : BD k W H ar := by
      obtain ⟨b0, b1, b2, b3, b4⟩ := gb
      exact ⟨b0, by rw [r6 6 (by omega) (by decide)]; exact b1, by rw [r6 6 (by omega) (by decide)]; exact b2, by rw [r6 6 (by omega) (by decide)]; exact b3, fun c hc => by rw [r6 8 (by omega) (by decide), r6 9 (by omega) (by decide)]; exact b4 c hc⟩
    have w23' := yw.2.1
    obtain ⟨h', f1, f2, f3, f4⟩ := s71l (al := al) (qm := qm1) (qw := qw1) (W * H) (Nat.le_refl _) k kb ys ka km yw ⟨y6, ysz, fun c a b => by
      have : c = W * H := by omega
      subst this
      exact yc⟩
    refine ⟨h', qm1, qw1, ?_, ?_, ?_⟩
    · rw [x1, bV_s, y1, bV_s, g71_25 _ k ys, y7, mn_20 h20]
      exact f1
    · have hm' := km.fr f2 (by decide) (by decide) (by simp; omega)
      refine ⟨f2.sh ys (by simp; omega), kb.fr f2 (by decide) (by decide) (by decide), ka.fr f2 (by decide), fun j hj => ?_, ?_, ?_, ?_, ?_, ⟨_, hm'.2.2.2.1⟩, yw.fr f2, ?_, ?_, Or.inr ⟨W, H, ar, hb.1, hm'⟩, f4, by omega, fun _ => ⟨hm', f3⟩⟩
      · rw [f2.2.2.2.2.2.1 11 (by decide), r6 11 (by omega) (by decide)]; exact x6 j hj
      · rw [f2.2.2.2.2.2.1 18 (by decide), r6 18 (by omega) (by decide)]; exact x7
      · rw [f2.2.2.2.2.2.1 17 (by decide), r6 17 (by omega) (by decide)]; exact x8
      · obtain ⟨a, b, c1, c2, c3⟩ := x4
        exact ⟨a, b, by rw [f2.2.2.1, r8 16 (by omega) (by decide)]; exact c1, by rw [f2.2.2.1, r8 16 (by omega) (by decide)]; exact c2, c3⟩
      · unfold RLg
        rw [f2.2.2.1, r9 4 (by decide), r9 5 (by decide), p8 15 (by omega) (by decide)]
        exact rl
      · rw [f2.2.2.2.1, f2.2.1]; omega
      · rw [f2.2.2.2.2.1, f2.2.1]; omega
    · refine ⟨fun q hq hn => ?_, fun q hq hn => ?_, fun q hq h15 h16 => ?_, by rw [f2.2.1, (r5 4 (by omega)).2, (p5 4 (by omega)).2]⟩
      · have hn' : ¬ (q = 11 ∨ q = 15 ∨ q = 16 ∨ q = 17 ∨ q = 18 ∨ q = 19 ∨ q = 20 ∨ q = 21 ∨ q = 22) := by
          intro e
          apply hn
          rcases e with rfl | rfl | rfl | rfl | rfl | rfl | rfl | rfl | rfl <;> decide
        rw [f2.2.2.2.2.2.1 q (by simp; omega), r6 q (by omega) (by simp; omega), p6 q (by omega) (by simp [stS]; omega) (by omega)]
      · have hn' : ¬ q = 23 := fun e => hn (by rw [e]; decide)
        rw [f2.2.2.2.2.2.2 q (by simp; omega), r7 q (by omega) (by omega), p7 q (by omega)]
      · rw [f2.2.2.1, r8 q (by omega) h15, p8 q (by omega) h16]
  · rw [if_pos (nI_le q (by omega)), g71_25 _ h hs, h7, mn_20 (Nat.le_trans q h20)]
    obtain ⟨mo, sv⟩ := hv q
    obtain ⟨h', f1, f2, f3, f4⟩ := s71l (al := al) (qm := qm) (qw := qw) s q h hb hs ha mo wv sv
    have hm' := mo.fr f2 (by decide) (by decide) (by simp; omega)
    refine ⟨h', qm, qw, f1, ?_, UF.of f2 (by decide) (by simp; omega)⟩
    refine ⟨f2.sh hs (by simp; omega), hb.fr f2 (by decide) (by decide) (by decide), ha.fr f2 (by decide), fun j hj2 => ?_, ?_, ?_, ?_, ?_, ⟨_, hm'.2.2.2.1⟩, wv.fr f2, ?_, ?_, Or.inr ⟨W, H, ar, hb.1, hm'⟩, f4, by omega, fun _ => ⟨hm', f3⟩⟩
    · rw [f2.2.2.2.2.2.1 11 (by decide)]; exact hj j hj2
    · rw [f2.2.2.2.2.2.1 18 (by decide)]; exact h180
    · rw [f2.2.2.2.2.2.1 17 (by decide)]; exact h170
    · obtain ⟨c1, c2, c3⟩ := rf
      exact ⟨qa, qb, by rw [f2.2.2.1]; exact c1, by rw [f2.2.2.1]; exact c2, c3⟩
    · unfold RLg
      rw [f2.2.2.1]
      exact rl
    · rw [f2.2.2.2.1, f2.2.1]; omega
    · rw [f2.2.2.2.2.1, f2.2.1]; omega
/-- rows that are not the component's, but for its sheet and front -/
theorem CSx.fr {S T : List Nat} {u : Nat} {h h' : HP} {qm qw s : Nat} (cs : CSx u W H ar al h qm qw s) (f : Fr S T h h') (hS : ∀ q ∈ S, 11 ≤ q ∧ q < 42 ∧ (q ≤ 14 ∨ 26 ≤ q)) (hT : ∀ q ∈ T, 24 ≤ q ∧ q < 42) (hj' : JK h') : CSx u W H ar al h' qm qw s := by
  obtain ⟨hs, hb, ha, hj, h180, h170, ⟨qa, qb, rf⟩, rl, ⟨acc, mv⟩, wv, pZ, pU, bt, h7, hs21, hv⟩ := cs
  have m21 := mv.2.1
  have w23 := wv.2.1
  have nS : ∀ q, q < 11 ∨ (15 ≤ q ∧ q < 26) ∨ 42 ≤ q → q ∉ S := fun q hq hn => by have := hS q hn; omega
  have nT : ∀ q, q < 24 ∨ 42 ≤ q → q ∉ T := fun q hq hn => by have := hT q hn; omega
  have f' := f
  obtain ⟨a1, a2, a3, a4, a5, a6, a7⟩ := f
  refine ⟨f'.sh hs (fun i hi => nS i (by omega)), hb.fr f' (nS _ (by omega)) (nS _ (by omega)) (nS _ (by omega)), ha.fr f' (nS _ (by omega)), hj', ?_, ?_, ?_, ?_, ⟨acc, mv.fr (by rw [a3]) (by rw [a4]; exact Nat.le_refl _) (by rw [a1]) (by rw [a2]) (a6 qm (nS _ (by omega))) (by rw [a6 16 (nS _ (by omega))])⟩, wv.fr f', ?_, ?_, ?_, ?_, hs21, fun q => ?_⟩
  · rw [a6 18 (nS _ (by omega))]; exact h180
  · rw [a6 17 (nS _ (by omega))]; exact h170
  · exact ⟨qa, qb, by rw [a3]; exact rf.1, by rw [a3]; exact rf.2.1, rf.2.2⟩
  · unfold RLg; rw [a3]; exact rl
  · rw [a4, a2]; exact pZ
  · rw [a5, a2]; exact pU
  · rcases bt with bt | ⟨W', H', ar', o, mo⟩
    · left; rw [a6 16 (nS _ (by omega))]; exact bt
    · right; exact ⟨W', H', ar', o, mo.fr f' (nS _ (by omega)) (nS _ (by omega)) (nS _ (by omega))⟩
  · rw [a6 15 (nS _ (by omega))]; exact h7
  · obtain ⟨mo, v1, v2, v3⟩ := hv q
    exact ⟨mo.fr f' (nS _ (by omega)) (nS _ (by omega)) (nS _ (by omega)), by rw [a6 15 (nS _ (by omega))]; exact v1, by rw [a2]; exact v2, fun c h1 h2 => (v3 c h1 h2).of (a6 22 (nS _ (by omega))) (a7 qw (nT _ (by omega)))⟩
end So
