/-! all moves of a board -/
def RF4 (h : HP) (qa qb : Nat) : Prop := hR h 16 4 = some qa ∧ hR h 16 5 = some qb ∧ ((qa = 19 ∧ qb = 20) ∨ (qa = 20 ∧ qb = 19))
theorem BF.sR {S : List Nat} {h : HP} {a j : Nat} {v : Option Nat} : BF S h (sR h 16 j v) a a := ⟨Or.inl rfl, Nat.le_refl _, Nat.le_refl _, Nat.le_refl _, fun _ _ => ⟨rfl, rfl⟩, fun _ _ _ _ => rfl, fun _ _ => rfl, fun q _ h16 => by rw [hR_sRr, if_neg h16]⟩
theorem BF.of {S T : List Nat} {h h' : HP} {a : Nat} (f : Fr S [] h h') (hS : ∀ q ∈ S, q ∈ T) : BF T h h' a a := by
  obtain ⟨a1, a2, a3, a4, a5, a6, a7⟩ := f
  exact ⟨Or.inl rfl, by rw [a4]; exact Nat.le_refl _, by rw [a4, a2]; exact Nat.le_refl _, by rw [a5, a2]; exact Nat.le_refl _, fun q _ => ⟨by rw [a1], by rw [a2]⟩, fun q _ hn _ => a6 q (fun u => hn (hS q u)), fun q _ => a7 q (by simp), fun q _ _ => by rw [a3]⟩
section Bu
variable {W H : Nat} {ar : Bool}
def FLg (W H : Nat) (ar : Bool) (h : HP) (q c : Nat) : Prop := ∀ j, j < 76 → hI h q j = if rch W H ar c j = true then 1 else 0
theorem s40l {c qa qb : Nat} (hk : okS W H ar = true) (hc : c < W * H) : ∀ (f n : Nat), n + f = 76 → ∀ (h : HP) (qm : Nat) (acc : List Mv) (a1 : Int32), BD h W H ar → SH h → MV h qm acc → acc.length + 10 * f ≤ 15200 → JK h → (∀ j, rch W H ar c j = true → hI h 18 j = nI (fr j)) → RF4 h qa qb → FLg W H ar h qa c → ∃ h' qm', X (40, 124, [.ref 16, .int a1, .int (nI c), .int (nI n)], [], h) = X (40, 124, [.ref 16, .int a1, .int (nI c), .int (nI 76)], [], h') ∧ AMp qb (mvN W H ar c (rch W H ar c) f n) h h' qm qm' acc := by
  intro f
  induction f with
  | zero =>
    intro n hn h qm acc a1 hb hs m hlen hj h18 hr hf
    have : n = 76 := by omega
    subst this
    exact ⟨h, qm, rfl, BF.rf, by rw [mvN, List.append_nil]; exact m, rfl, rfl, fun _ _ => rfl, rfl, rfl, hs, hj⟩
  | succ f ih =>
    intro n hn h qm acc a1 hb hs m hlen hj h18 hr hf
    have n76 : n < 76 := by omega
    have z42 : 42 ≤ hZ h := hs.1
    obtain ⟨r4, r5, rq⟩ := hr
    have kq : hK h qa = 12 ∧ hN h qa = 76 := by
      rcases rq with ⟨rfl, -⟩ | ⟨rfl, -⟩
      · exact ⟨by rw [hs.k 19 rfl]; rfl, by rw [hs.n 19 rfl]; rfl⟩
      · exact ⟨by rw [hs.k 20 rfl]; rfl, by rw [hs.n 20 rfl]; rfl⟩
    have cg : hK h qa = 12 ∧ inB (nI n) (hN h qa) = true := ⟨kq.1, by rw [kq.2]; exact inB_nI n76 (by decide)⟩
    rw [g40_124 _ _ _ h hs, if_neg (show ¬ (76 : Int32) ≤ nI n from nI_ge (show n < 76 by omega) (by decide)), r4]
    show ∃ h' qm', (if hK h qa = 12 ∧ inB (nI n) (hN h qa) = true then _ else none) = _ ∧ _
    rw [if_pos cg, nI_clamp (by omega), hf n n76, mvN]
    by_cases q : rch W H ar c n = true
    · rw [if_pos q, if_pos q, if_neg (by decide)]
      obtain ⟨h3, qm3, x1, P⟩ := s42 hc n76 (rch_in hk c (by omega) n q).2 (by omega : qb = 19 ∨ qb = 20) (acc := acc) .null .null .null .null hb hs m (by omega) hj (h18 n q) r5
      have hs3 := P.2.2.2.2.2.2.2.1
      rw [x1, bV_s, g40_145 _ _ _ h3 hs3, nI_1]
      have m21 := m.2.1
      have len3 := mvT_len (W := W) (H := H) (ar := ar) (c := c) (n := n) 10 0
      obtain ⟨h4, qm4, y1, y2⟩ := ih (n + 1) (by omega) h3 qm3 (acc ++ mvT W H ar c n 10 0) a1 (hb.bf hs P.1 (by simp; omega) (by simp; omega) (by simp; omega) m21) hs3 P.2.1 (by rw [List.length_append]; omega) P.2.2.2.2.2.2.2.2 (fun j hj => by rw [P.2.2.1]; exact cdL_ok (h18 j hj)) ⟨P.2.2.2.2.2.1.trans r4, P.2.2.2.2.2.2.1.trans r5, rq⟩ (fun j hj => by
        rw [P.1.2.2.2.2.2.1 qa (by omega) (by simp; omega) (by omega)]
        exact hf j hj)
      exact ⟨h4, qm4, y1, P.tr y2⟩
    · rw [if_neg q, if_neg q, if_pos rfl, g40_145 _ _ _ h hs, nI_1, List.nil_append]
      exact ih (n + 1) (by omega) h qm acc a1 hb hs m (by omega) hj h18 ⟨r4, r5, rq⟩ hf
def stS : List Nat := [11, 16, 17, 18, 19, 20]
theorem s40c (hk : okS W H ar = true) : ∀ (f c : Nat), c + f = W * H → ∀ (h : HP) (qm qa qb : Nat) (w3 : Value), BD h W H ar → SH h → MV h qm (mvA W H ar c) → JK h → hI h 18 0 = nI (fr 0) → (∀ j, rch W H ar c j = true → hI h 18 j = nI (fr j)) → RF4 h qa qb → FLg W H ar h qa c → (∀ i, i ≤ c → hI h 17 i = nI (mvA W H ar i).length) → ∃ h' qm', X (40, 110, [.ref 16, .int (nI (W * H)), .int (nI c), w3], [], h) = some (none, h') ∧ BF stS h h' qm qm' ∧ MV h' qm' (mvA W H ar (W * H)) ∧ (∀ i, i ≤ W * H → hI h' 17 i = nI (mvA W H ar i).length) ∧ (∀ j, j ≠ 7 → hI h' 16 j = hI h 16 j) ∧ (∃ a b, RF4 h' a b) ∧ SH h' ∧ JK h' ∧ hI h' 18 0 = nI (fr 0) := by
  intro f
  obtain ⟨⟨w1, w2⟩, ⟨h1, h2⟩, h20, -⟩ := okS_1 hk
  induction f with
  | zero =>
    intro c hc h qm qa qb w3 hb hs m hj h180 h18 hr hf hst
    have : c = W * H := by omega
    subst this
    refine ⟨h, qm, ?_, BF.rf, m, hst, fun _ _ => rfl, ⟨qa, qb, hr⟩, hs, hj, h180⟩
    rw [g40_110 _ _ _ h hs, if_pos (nI_le (Nat.le_refl _) (by omega))]
  | succ f ih =>
    intro c hc h qm qa qb w3 hb hs m hj h180 h18 hr hf hst
    have hr0 := hr
    obtain ⟨r4, r5, rq⟩ := hr
    have z42 : 42 ≤ hZ h := hs.1
    have m21 := m.2.1
    obtain ⟨g, x1, x2, x3⟩ := s41 (q := qb) hs (by omega) .null
    have gs := x2.sh hs (by simp; omega)
    have gR : hR g = hR h := x2.2.2.1
    have gI : ∀ r, r ≠ qb → hI g r = hI h r := fun r hr => x2.2.2.2.2.2.1 r (by simp; exact hr)
    have gM : MV g qm (mvA W H ar c) := m.fr (by rw [gR]) (by rw [x2.2.2.2.1]; exact Nat.le_refl _) (by rw [x2.1]) (by rw [x2.2.1]) (gI qm (by omega)) (by rw [gI 16 (by omega)])
    have gb : BD g W H ar := hb.fr x2 (by simp; omega) (by simp; omega) (by simp; omega)
    have la := mvA_len (W := W) (H := H) (ar := ar) c
    obtain ⟨k, qm1, y1, P⟩ := s40l (qa := qa) (qb := qb) hk (show c < W * H by omega) 76 0 (by omega) g qm (mvA W H ar c) (nI (W * H)) gb gs gM (by omega) (fun j hj2 => by rw [gI 11 (by omega)]; exact hj j hj2) (fun j hj2 => by rw [gI 18 (by omega)]; exact h18 j hj2) ⟨by rw [gR]; exact r4, by rw [gR]; exact r5, rq⟩ (fun j hj2 => by rw [gI qa (by omega)]; exact hf j hj2)
    obtain ⟨p1, p2, p3, p4, p5, p6, p7, p8, p9⟩ := P
    have kZ : hZ h ≤ hZ k := by have := p1.2.1; rw [x2.2.2.2.1] at this; exact this
    rw [g40_110 _ _ _ h hs, if_neg (nI_ge (by omega) (by omega)), r5]
    show ∃ h' qm', bV (X (41, 0, [.ref qb, .null], [], h)) _ = _ ∧ _
    rw [x1, bV_s]
    show ∃ h' qm', X (40, 124, [.ref 16, .int (nI (W * H)), .int (nI c), .int (nI 0)], [], g) = _ ∧ _
    rw [y1, g40_124 _ _ _ k p8, if_pos (show (76 : Int32) ≤ nI 76 from by decide), nI_1, if_pos (inB_nI (by omega) (by decide)), nI_clamp (by omega)]
    have p2' := p2
    obtain ⟨v1, v2, v3, v4, v5, v6, v7, v8⟩ := p2
    have r4' : hR k 16 4 = some qa := by rw [p6, gR]; exact r4
    have r5' : hR k 16 5 = some qb := by rw [p7, gR]; exact r5
    rw [v6]
    generalize hE : sI k 17 (c + 1) (nI (mvA W H ar c ++ mvN W H ar c (rch W H ar c) 76 0).length) = e
    have eR : hR e = hR k := by rw [← hE]; rfl
    have eI : ∀ r, r ≠ 17 → hI e r = hI k r := fun r hr => by rw [← hE]; exact hI_sI_o _ _ _ hr
    have es : SH e := by rw [← hE]; exact p8.sIs 17 rfl
    rw [eR, r4', r5']
    show ∃ h' qm', X (40, 110, [.ref 16, .int (nI (W * H)), .int (nI (c + 1)), .ref qa], [], sR (sR e 16 4 (some qb)) 16 5 (some qa)) = _ ∧ _
    generalize hD : sR (sR e 16 4 (some qb)) 16 5 (some qa) = d
    have dI : hI d = hI e := by rw [← hD]; rfl
    have ds : SH d := by rw [← hD]; exact (es.sRs 16 4 rfl).sRs 16 5 rfl
    have dR : ∀ j, hR d 16 j = if j = 5 then some qa else if j = 4 then some qb else hR k 16 j := by
      intro j
      rw [← hD, hR_sRr, if_pos rfl, hR_sRr, if_pos rfl, eR]
      rfl
    have B1 : BF stS h g qm qm := BF.of x2 (by intro q hq; have := List.mem_singleton.mp hq; subst this; rcases rq with ⟨-, rfl⟩ | ⟨-, rfl⟩ <;> decide)
    have B2 : BF stS g k qm qm1 := p1.mono (by
      intro q hq
      simp only [List.mem_cons, List.mem_nil_iff, or_false] at hq
      rcases hq with rfl | rfl | rfl | rfl
      · decide
      · decide
      · decide
      · rcases rq with ⟨-, rfl⟩ | ⟨-, rfl⟩ <;> decide)
    have B3 : BF stS k e qm1 qm1 := by rw [← hE]; exact BF.sI (Or.inl (by decide))
    have B4 : BF stS e d qm1 qm1 := by rw [← hD]; exact BF.sR.tr BF.sR
    have BB := ((B1.tr B2).tr B3).tr B4
    have q17 : qm1 ≠ 17 := by omega
    have dM : MV d qm1 (mvA W H ar (c + 1)) := p2'.fr (by rw [dR, if_neg (by decide), if_neg (by decide)]) (by have := (B3.tr B4).2.1; exact this) (by rw [← hD, ← hE]; rfl) (by rw [← hD, ← hE]; rfl) (by rw [dI, eI _ q17]) (by rw [dI, eI 16 (by decide)])
    have dB : BD d W H ar := hb.bf hs BB (by decide) (by decide) (by decide) m21
    have rc : ∀ j, rch W H ar (c + 1) j = anyT (mvN W H ar c (rch W H ar c) 76 0) j := fun j => rfl
    have d18 : hI d 18 = cdL (mvN W H ar c (rch W H ar c) 76 0) (hI h 18) := by
      rw [dI, eI 18 (by decide), p3, gI 18 (by omega)]
    have qb17 : qb ≠ 17 := by omega
    have dqb : hI d qb = flL (mvN W H ar c (rch W H ar c) 76 0) (hI g qb) := by
      rw [dI, eI qb qb17, p4]
    have d17 : ∀ i, hI d 17 i = if i = c + 1 then nI (mvA W H ar (c + 1)).length else hI h 17 i := by
      intro i
      rw [dI, ← hE, hI_sI, if_pos rfl]
      unfold upd
      by_cases u : i = c + 1
      · rw [if_pos u, if_pos u]; rfl
      · rw [if_neg u, if_neg u, p1.2.2.2.2.2.1 17 (by rw [x2.2.2.2.1]; omega) (by simp; omega) (by omega), gI 17 (by omega)]
    have d16 : ∀ j, j ≠ 7 → hI d 16 j = hI h 16 j := by
      intro j hj2
      rw [dI, eI 16 (by decide), p5 j hj2, gI 16 (by omega)]
    obtain ⟨h', qm', z1, z2, z3, z4, z5, z6, z7, z8, z9⟩ := ih (c + 1) (by omega) d qm1 qb qa (.ref qa) dB ds dM (fun j hj2 => by rw [dI, eI 11 (by decide)]; exact p9 j hj2) (by rw [d18]; exact cdL_ok h180) (fun j hj2 => by rw [d18]; unfold cdL; rw [rc] at hj2; rw [if_pos hj2]) ⟨by rw [dR, if_neg (by decide), if_pos rfl], by rw [dR, if_pos rfl], by omega⟩ (fun j hj2 => by
      rw [dqb, rc]
      unfold flL
      by_cases u : anyT (mvN W H ar c (rch W H ar c) 76 0) j = true
      · rw [if_pos u, if_pos u]
      · rw [if_neg u, if_neg u]; exact x3 j hj2) (fun i hi => by
      rw [d17]
      by_cases u : i = c + 1
      · rw [if_pos u, u]
      · rw [if_neg u]; exact hst i (by omega))
    exact ⟨h', qm', z1, BB.tr z2, z3, z4, fun j hj2 => (z5 j hj2).trans (d16 j hj2), z6, z7, z8, z9⟩
/-- the moves of a board stand -/
def MOK (h : HP) (qm W H : Nat) (ar : Bool) : Prop := hI h 16 8 = nI W ∧ hI h 16 9 = nI H ∧ hI h 16 10 = aI ar ∧ MV h qm (mvA W H ar (W * H)) ∧ ∀ i, i ≤ W * H → hI h 17 i = nI (mvA W H ar i).length
theorem s40b {h : HP} (hb : BD h W H ar) (hs : SH h) {qm qa qb : Nat} {acc : List Mv} (m : MV h qm acc) (hj : JK h) (h180 : hI h 18 0 = nI (fr 0)) (h170 : hI h 17 0 = 0) (hr : RF4 h qa qb) (w1 w2 w3 : Value) : ∃ h' qm', X (40, 43, [.ref 16, w1, w2, w3], [], h) = some (none, h') ∧ BF stS h h' qm qm' ∧ MOK h' qm' W H ar ∧ (∃ a b, RF4 h' a b) ∧ SH h' ∧ JK h' ∧ hI h' 18 0 = nI (fr 0) ∧ hI h' 17 0 = 0 := by
  have hk := hb.1
  obtain ⟨b0, b1, b2, b3, b4⟩ := hb
  have hb : BD h W H ar := ⟨b0, b1, b2, b3, b4⟩
  obtain ⟨⟨w1', w2'⟩, ⟨h1', h2'⟩, h20, -⟩ := okS_1 hk
  have z42 : 42 ≤ hZ h := hs.1
  obtain ⟨r4, r5, rq⟩ := hr
  have e1 : ∀ v j, hI (sI h 16 8 v) 6 j = hI h 6 j := fun v j => by rw [hI_sI_o _ _ _ (by decide)]
  have e2 : ∀ v w j, hI (sI (sI h 16 8 v) 16 9 w) 6 j = hI h 6 j := fun v w j => by rw [hI_sI_o _ _ _ (by decide), hI_sI_o _ _ _ (by decide)]
  have a01 : aI ar = 0 ∨ aI ar = 1 := by cases ar <;> decide
  rw [g40_43 _ _ _ h hs]
  simp only [e1, e2, b1, b2, b3]
  rw [if_pos a01]
  generalize hG : sI (sI (sI (sI h 16 8 (nI W)) 16 9 (nI H)) 16 10 (aI ar)) 16 7 0 = G
  have GR : hR G = hR h := by rw [← hG]; rfl
  have GI : ∀ r, r ≠ 16 → hI G r = hI h r := by
    intro r hr
    rw [← hG, hI_sI_o _ _ _ hr, hI_sI_o _ _ _ hr, hI_sI_o _ _ _ hr, hI_sI_o _ _ _ hr]
  have Gs : SH G := by rw [← hG]; exact (((hs.sIs 16 rfl).sIs 16 rfl).sIs 16 rfl).sIs 16 rfl
  have G8 : hI G 16 8 = nI W ∧ hI G 16 9 = nI H ∧ hI G 16 10 = aI ar ∧ hI G 16 7 = 0 := by
    rw [← hG]
    refine ⟨?_, ?_, ?_, hI_sI_same _ _ _ _⟩
    · rw [hI_sI_ne _ _ (by decide), hI_sI_ne _ _ (by decide), hI_sI_ne _ _ (by decide), hI_sI_same]
    · rw [hI_sI_ne _ _ (by decide), hI_sI_ne _ _ (by decide), hI_sI_same]
    · rw [hI_sI_ne _ _ (by decide), hI_sI_same]
  have GF : Fr [16] [] h G := by
    rw [← hG]
    exact (((Fr.sI (by decide)).tr (Fr.sI (by decide))).tr (Fr.sI (by decide))).tr (Fr.sI (by decide))
  rw [GR, r4]
  show ∃ h' qm', bV (X (41, 0, [.ref qa, .null], [], G)) _ = _ ∧ _
  obtain ⟨g, x1, x2, x3⟩ := s41 (q := qa) Gs (by omega) .null
  have gs := x2.sh Gs (by simp; omega)
  have gR : hR g = hR h := by rw [x2.2.2.1, GR]
  have gI : ∀ r, r ≠ qa → hI g r = hI G r := fun r hr => x2.2.2.2.2.2.1 r (by simp; exact hr)
  rw [x1, bV_s, gR, r4]
  have kq : hK g qa = 12 ∧ hN g qa = 76 := by
    rcases rq with ⟨rfl, -⟩ | ⟨rfl, -⟩
    · exact ⟨by rw [gs.k 19 rfl]; rfl, by rw [gs.n 19 rfl]; rfl⟩
    · exact ⟨by rw [gs.k 20 rfl]; rfl, by rw [gs.n 20 rfl]; rfl⟩
  have cg : hK g qa = 12 ∧ inB 0 (hN g qa) = true := ⟨kq.1, by rw [kq.2]; decide⟩
  show ∃ h' qm', (if hK g qa = 12 ∧ inB 0 (hN g qa) = true then _ else none) = _ ∧ _
  rw [if_pos cg]
  have c0 : (0 : Int32).toNatClampNeg = 0 := by decide
  rw [c0]
  generalize hD : sI g qa 0 (1 &&& 1) = d
  have dF : Fr [qa] [] g d := by rw [← hD]; exact Fr.sI (by simp)
  have ds : SH d := dF.sh gs (by simp; omega)
  have dI : ∀ r, r ≠ qa → hI d r = hI G r := fun r hr => by rw [← hD, hI_sI_o _ _ _ hr]; exact gI r hr
  have dqa : ∀ j, j < 76 → hI d qa j = if rch W H ar 0 j = true then 1 else 0 := by
    intro j hj2
    rw [← hD, hI_sI, if_pos rfl]
    unfold upd
    by_cases u : j = 0
    · subst u; rfl
    · have nn : ¬ rch W H ar 0 j = true := fun v => u (Nat.eq_of_beq_eq_true v)
      rw [if_neg u, if_neg nn]
      exact x3 j hj2
  have qS : ∀ q ∈ [qa], q ∈ stS := by
    intro q hq
    have := List.mem_singleton.mp hq
    subst this
    rcases rq with ⟨rfl, -⟩ | ⟨rfl, -⟩ <;> decide
  have BB : BF stS h d qm qm := ((BF.of GF (by decide)).tr (BF.of x2 qS)).tr (BF.of dF qS)
  have dB : BD d W H ar := hb.bf hs BB (by decide) (by decide) (by decide) m.2.1
  have m21 := m.2.1
  have dM : MV d qm [] := by
    obtain ⟨m1, m2, m3, m4, m5, m6, m7, m8⟩ := m
    have dZ : hZ d = hZ h := by rw [dF.2.2.2.1, x2.2.2.2.1, GF.2.2.2.1]
    have dK : hK d = hK h := by rw [dF.1, x2.1, GF.1]
    have dN : hN d = hN h := by rw [dF.2.1, x2.2.1, GF.2.1]
    have dR : hR d = hR h := by rw [dF.2.2.1, gR]
    exact ⟨by rw [dR]; exact m1, m2, by rw [dZ]; exact m3, by rw [dK]; exact m4, by rw [dN]; exact m5, by rw [dI 16 (by omega)]; exact G8.2.2.2, Nat.zero_le _, fun i mm hi => by simp at hi⟩
  have dR : hR d = hR h := by rw [dF.2.2.1, gR]
  rw [s6 dB ds, bI_s]
  have c20 : ¬ (20 : Int32) < nI (W * H) := by
    rw [show (20 : Int32) = nI 20 from rfl]
    exact nI_nlt h20 (by decide)
  rw [if_neg c20]
  obtain ⟨h', qm', z1, z2, z3, z4, z5, z6, z7, z8, z9⟩ := s40c hk (W * H) 0 (by omega) d qm qa qb w3 dB ds dM (fun j hj2 => by rw [dI 11 (by omega), GI 11 (by decide)]; exact hj j hj2) (by rw [dI 18 (by omega), GI 18 (by decide)]; exact h180) (fun j hj2 => by
    have : j = 0 := Nat.eq_of_beq_eq_true hj2
    subst this
    rw [dI 18 (by omega), GI 18 (by decide)]; exact h180) ⟨by rw [dR]; exact r4, by rw [dR]; exact r5, rq⟩ dqa (fun i hi => by
    have : i = 0 := by omega
    subst this
    rw [dI 17 (by omega), GI 17 (by decide)]; exact h170)
  refine ⟨h', qm', z1, BB.tr z2, ⟨?_, ?_, ?_, z3, z4⟩, z6, z7, z8, z9, z4 0 (by omega)⟩
  · rw [z5 8 (by decide), dI 16 (by omega)]; exact G8.1
  · rw [z5 9 (by decide), dI 16 (by omega)]; exact G8.2.1
  · rw [z5 10 (by decide), dI 16 (by omega)]; exact G8.2.2.1
end Bu
