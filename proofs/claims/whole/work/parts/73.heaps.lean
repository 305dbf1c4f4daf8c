/-! the reference's heaps: labels of loops -/
def rpA (t s : Nat) : Option Nat := if pcs t ≤ 0 then none else if saT (2 * t) = nI s ∨ sbT (2 * t) = nI s then some 0 else if pcs t ≤ 1 then none else if saT (2 * t + 1) = nI s ∨ sbT (2 * t + 1) = nI s then some 1 else none
theorem rpA_eq : ∀ t, t < 10 → ∀ s, s < 4 → rpA t s = if (sid t).testBit s = true then some (pk2 t s) else none := by decide +kernel
def rpI (sh : Nat → Nat) (c s : Nat) : Int32 := if (sid (sh c)).testBit s = true then nI (2 * c + pk2 (sh c) s) else -1
section Hp
variable {W H : Nat} {ar : Bool} {al sh : Nat → Nat} {h : HP}
theorem s135 (hm : MD h W H ar) (hs : SH h) (sm : SM h W H sh) {c s : Nat} (hc : c < W * H) (h4 : s < 4) (w3 w4 : Value) : X (135, 0, [.ref 26, .int (nI c), .int (nI s), w3, w4], [], h) = some (some (.int (rpI sh c s)), h) := by
  have h20 := (okS_1 hm.1).2.2.1
  obtain ⟨s1, s2⟩ := sm c hc
  obtain ⟨p2, pe⟩ := TF4 _ s2
  have st : ∀ k, k < 3 → X (135, 10, [.ref 26, .int (nI c), .int (nI s), .int (nI (sh c)), .int (nI k)], [], h) = if pcs (sh c) ≤ k then some (some (.int (-1)), h) else if saT (2 * sh c + k) = nI s ∨ sbT (2 * sh c + k) = nI s then some (some (.int (nI (2 * c + k))), h) else X (135, 10, [.ref 26, .int (nI c), .int (nI s), .int (nI (sh c)), .int (nI (k + 1))], [], h) := by
    intro k hk
    rw [g135_10 _ _ _ _ h hs, if_pos (inB_nI s2 (by decide)), nI_clamp (by omega), hm.2.2.2.2.1 _ s2, pe]
    by_cases q : pcs (sh c) ≤ k
    · rw [if_pos (nI_le q (by omega)), if_pos q]
    · have e3 : 2 * nI (sh c) + nI k = nI (2 * sh c + k) := by rw [show (2 : Int32) = nI 2 from rfl, pk_mul, nI_add]
      have e4 : 2 * nI c + nI k = nI (2 * c + k) := by rw [show (2 : Int32) = nI 2 from rfl, pk_mul, nI_add]
      have ib : inB (nI (2 * sh c + k)) 20 = true := inB_nI (by omega) (by decide)
      rw [if_neg (nI_ge (by omega) (by omega)), if_neg q, e3, if_pos ib, nI_clamp (show 2 * sh c + k < 2 ^ 31 by omega), hm.2.2.2.2.2.1 _ (by omega), if_pos ib, hm.2.2.2.2.2.2 _ (by omega)]
      by_cases u : saT (2 * sh c + k) = nI s
      · rw [if_pos u, if_pos (Or.inl u), g135_51 _ _ _ _ _ h hs, e4]
      · rw [if_neg u]
        by_cases v : sbT (2 * sh c + k) = nI s
        · rw [if_pos v, if_pos (Or.inr v), g135_51 _ _ _ _ _ h hs, e4]
        · have nn : ¬ (saT (2 * sh c + k) = nI s ∨ sbT (2 * sh c + k) = nI s) := fun w => by
            rcases w with w | w
            · exact u w
            · exact v w
          rw [if_neg v, if_neg nn, nI_1]
  have go : X (135, 10, [.ref 26, .int (nI c), .int (nI s), .int (nI (sh c)), .int (nI 0)], [], h) = some (some (.int (piI (rpA (sh c) s) c)), h) := by
    unfold rpA
    rw [st 0 (by decide), Nat.add_zero]
    by_cases q0 : pcs (sh c) ≤ 0
    · rw [if_pos q0, if_pos q0]; rfl
    · rw [if_neg q0, if_neg q0]
      by_cases q1 : saT (2 * sh c) = nI s ∨ sbT (2 * sh c) = nI s
      · rw [if_pos q1, if_pos q1]; rfl
      · rw [if_neg q1, if_neg q1, st 1 (by decide)]
        by_cases q2 : pcs (sh c) ≤ 1
        · rw [if_pos q2, if_pos q2]; rfl
        · rw [if_neg q2, if_neg q2]
          by_cases q3 : saT (2 * sh c + 1) = nI s ∨ sbT (2 * sh c + 1) = nI s
          · rw [if_pos q3, if_pos q3]; rfl
          · rw [if_neg q3, if_neg q3, st 2 (by decide), if_pos p2]; rfl
  rw [g135_0 _ _ _ _ h hs, if_pos (inB_nI (by omega) (by decide)), nI_clamp (by omega), s1]
  refine Eq.trans go ?_
  rw [rpA_eq _ s2 s h4]
  unfold rpI
  by_cases q : (sid (sh c)).testBit s = true
  · rw [if_pos q, if_pos q]; rfl
  · rw [if_neg q, if_neg q]; rfl
theorem s136 (hs : SH h) {a b : Nat} (ha : a < 40) (hb : b < 40) (w3 w4 w5 : Value) : ∃ h', X (136, 0, [.ref 26, .int (nI a), .int (nI b), w3, w4, w5], [], h) = some (none, h') ∧ Fr [41] [] h h' ∧ ∀ k, k < 40 → hI h' 41 k = if hI h 41 k = hI h 41 a then hI h 41 b else hI h 41 k := by
  have key : ∀ (x y : Int32) (w1 w2 : Value) (n j : Nat), j + n = 40 → ∀ (h : HP), SH h → ∃ h', X (136, 29, [.ref 26, w1, w2, .int x, .int y, .int (nI j)], [], h) = some (none, h') ∧ Fr [41] [] h h' ∧ ∀ k, hI h' 41 k = if j ≤ k ∧ k < 40 ∧ hI h 41 k = x then y else hI h 41 k := by
    intro x y w1 w2 n
    induction n with
    | zero =>
      intro j hj h hs
      have : j = 40 := by omega
      subst this
      refine ⟨h, ?_, Fr.rf, fun k => ?_⟩
      · rw [g136_29 _ _ _ _ _ h hs, if_pos (by decide)]
      · rw [if_neg (by omega)]
    | succ n ih =>
      intro j hj h hs
      have n40 : ¬ (40 : Int32) ≤ nI j := nI_ge (show j < 40 by omega) (by decide)
      have jb : inB (nI j) 40 = true := inB_nI (by omega) (by decide)
      rw [g136_29 _ _ _ _ _ h hs, if_neg n40, if_pos jb, nI_clamp (by omega)]
      by_cases q : hI h 41 j = x
      · have gs : SH (sI h 41 j y) := hs.sIs 41 rfl
        obtain ⟨h', x1, x2, x3⟩ := ih (j + 1) (by omega) (sI h 41 j y) gs
        rw [if_pos q, if_pos jb, g136_56 _ _ _ _ _ _ gs, nI_1]
        refine ⟨h', x1, (Fr.sI (by simp)).tr x2, fun k => ?_⟩
        rw [x3]
        by_cases u : k = j
        · subst u
          have c2 : k ≤ k ∧ k < 40 ∧ hI h 41 k = x := ⟨Nat.le_refl _, by omega, q⟩
          rw [if_neg (by omega), hI_sI_same, if_pos c2]
        · rw [hI_sI_ne _ _ u]
          by_cases v : j ≤ k ∧ k < 40 ∧ hI h 41 k = x
          · have c2 : j + 1 ≤ k ∧ k < 40 ∧ hI h 41 k = x := ⟨by omega, v.2⟩
            rw [if_pos v, if_pos c2]
          · have c2 : ¬ (j + 1 ≤ k ∧ k < 40 ∧ hI h 41 k = x) := fun w => v ⟨by omega, w.2⟩
            rw [if_neg v, if_neg c2]
      · obtain ⟨h', x1, x2, x3⟩ := ih (j + 1) (by omega) h hs
        rw [if_neg q, g136_56 _ _ _ _ _ _ hs, nI_1]
        refine ⟨h', x1, x2, fun k => ?_⟩
        rw [x3]
        by_cases v : j ≤ k ∧ k < 40 ∧ hI h 41 k = x
        · have : k ≠ j := fun e => q (e ▸ v.2.2)
          have c2 : j + 1 ≤ k ∧ k < 40 ∧ hI h 41 k = x := ⟨by omega, v.2⟩
          rw [if_pos v, if_pos c2]
        · have c2 : ¬ (j + 1 ≤ k ∧ k < 40 ∧ hI h 41 k = x) := fun w => v ⟨by omega, w.2⟩
          rw [if_neg v, if_neg c2]
  obtain ⟨h', x1, x2, x3⟩ := key (hI h 41 a) (hI h 41 b) (.int (nI a)) (.int (nI b)) 40 0 (by omega) h hs
  refine ⟨h', ?_, x2, fun k hk => ?_⟩
  · rw [g136_0 _ _ _ _ _ h hs, if_neg (neg1_nI (by omega)), if_neg (neg1_nI (by omega)), if_pos (inB_nI ha (by decide)), if_pos (inB_nI hb (by decide)), nI_clamp (by omega), nI_clamp (by omega)]
    exact x1
  · rw [x3]
    by_cases q : hI h 41 k = hI h 41 a
    · have c2 : 0 ≤ k ∧ k < 40 ∧ hI h 41 k = hI h 41 a := ⟨Nat.zero_le _, hk, q⟩
      rw [if_pos q, if_pos c2]
    · have c2 : ¬ (0 ≤ k ∧ k < 40 ∧ hI h 41 k = hI h 41 a) := fun w => q w.2.2
      rw [if_neg q, if_neg c2]
def ClS (W H : Nat) (ar : Bool) (sh : Nat → Nat) (L : List Nat) : Prop := ∀ e, Pd W H sh e → (pcD sh e ∈ L ↔ pcD sh (aD W H ar e) ∈ L)
def Rb (h : HP) : Prop := ∀ p, p < 40 → ∃ q, q < 40 ∧ hI h 41 p = nI q
def Ob (L : List Nat) (h : HP) : Prop := ∀ u v, u < 40 → v < 40 → hI h 41 u = hI h 41 v → (u ∈ L ↔ v ∈ L)
def LBp (W H : Nat) (ar : Bool) (sh : Nat → Nat) (h h' : HP) : Prop := Fr [41] [] h h' ∧ (Rb h → Rb h') ∧ (∀ L, ClS W H ar sh L → Ob L h → Ob L h') ∧ ∀ u v, u < 40 → v < 40 → hI h 41 u = hI h 41 v → hI h' 41 u = hI h' 41 v
theorem LBp.rf : LBp W H ar sh h h := ⟨Fr.rf, id, fun _ _ => id, fun _ _ _ _ => id⟩
theorem LBp.trn {h1 h2 h3 : HP} (a : LBp W H ar sh h1 h2) (b : LBp W H ar sh h2 h3) : LBp W H ar sh h1 h3 := by
  obtain ⟨a1, a2, a3, a4⟩ := a
  obtain ⟨b1, b2, b3, b4⟩ := b
  exact ⟨a1.tr b1, fun x => b2 (a2 x), fun L c x => b3 L c (a3 L c x), fun u v h1 h2 x => b4 u v h1 h2 (a4 u v h1 h2 x)⟩
/-- two darts that face each other have one label -/
def EqD (W H : Nat) (ar : Bool) (sh : Nat → Nat) (h : HP) (d : Nat) : Prop := Pd W H sh d → hI h 41 (pcD sh d) = hI h 41 (pcD sh (aD W H ar d))
theorem EqD.up (f : FlH W H ar sh) {h h' : HP} {d : Nat} (e : EqD W H ar sh h d) (b : LBp W H ar sh h h') : EqD W H ar sh h' d := fun hd => b.2.2.2 _ _ ((pcF f).1 d hd) ((pcF f).1 _ ((orbF f).1 d hd).1) (e hd)
theorem s136d (f : FlH W H ar sh) (hs : SH h) {c s c' s' : Nat} (hc : c < W * H) (h4 : s < 4) (h4' : s' < 4) (hnb : nbN W H ar c s = 4 * c' + s' + 1) (w3 w4 w5 : Value) : ∃ h', X (136, 0, [.ref 26, .int (rpI sh c s), .int (rpI sh c' s'), w3, w4, w5], [], h) = some (none, h') ∧ LBp W H ar sh h h' ∧ EqD W H ar sh h' (4 * c + s) := by
  have h20 := (okS_1 f.1).2.2.1
  have e1 : (4 * c + s) / 4 = c := by omega
  have e2 : (4 * c + s) % 4 = s := by omega
  have ea : aD W H ar (4 * c + s) = 4 * c' + s' := by unfold aD; rw [e1, e2, hnb]; omega
  have m := f.2.2 c hc s h4
  have vl : vlN sh (4 * c' + s' + 1) = (sid (sh c')).testBit s' := by
    unfold vlN
    rw [if_neg (by omega), show (4 * c' + s' + 1 - 1) / 4 = c' by omega, show (4 * c' + s' + 1 - 1) % 4 = s' by omega]
  rw [hnb, vl] at m
  unfold rpI
  by_cases q : (sid (sh c)).testBit s = true
  · have q' : (sid (sh c')).testBit s' = true := by rw [← m]; exact q
    have hd : Pd W H sh (4 * c + s) := ⟨by omega, by rw [e1, e2]; exact q⟩
    have pd : pcD sh (4 * c + s) = 2 * c + pk2 (sh c) s := by unfold pcD; rw [e1, e2]
    have pa : pcD sh (aD W H ar (4 * c + s)) = 2 * c' + pk2 (sh c') s' := by
      rw [ea]; unfold pcD
      rw [show (4 * c' + s') / 4 = c' by omega, show (4 * c' + s') % 4 = s' by omega]
    have l1 := (pcF f).1 _ hd
    have l2 := (pcF f).1 _ ((orbF f).1 _ hd).1
    rw [if_pos q, if_pos q', ← pd, ← pa]
    obtain ⟨h', x1, x2, x3⟩ := s136 hs l1 l2 w3 w4 w5
    refine ⟨h', x1, ⟨x2, fun r p hp => ?_, fun L cl ob u v hu hv e => ?_, fun u v hu hv e => ?_⟩, fun _ => ?_⟩
    · rw [x3 p hp]
      by_cases w : hI h 41 p = hI h 41 (pcD sh (4 * c + s))
      · rw [if_pos w]; exact r _ l2
      · rw [if_neg w]; exact r p hp
    · have cx := cl _ hd
      rw [x3 u hu, x3 v hv] at e
      by_cases w1 : hI h 41 u = hI h 41 (pcD sh (4 * c + s))
      · have k1 := ob u _ hu l1 w1
        rw [if_pos w1] at e
        by_cases w2 : hI h 41 v = hI h 41 (pcD sh (4 * c + s))
        · exact k1.trans (ob v _ hv l1 w2).symm
        · rw [if_neg w2] at e
          exact (k1.trans cx).trans (ob _ v l2 hv e)
      · rw [if_neg w1] at e
        by_cases w2 : hI h 41 v = hI h 41 (pcD sh (4 * c + s))
        · rw [if_pos w2] at e
          exact (ob u _ hu l2 e).trans (cx.symm.trans (ob v _ hv l1 w2).symm)
        · rw [if_neg w2] at e
          exact ob u v hu hv e
    · rw [x3 u hu, x3 v hv, e]
    · rw [x3 _ l1, x3 _ l2, if_pos rfl]
      by_cases w : hI h 41 (pcD sh (aD W H ar (4 * c + s))) = hI h 41 (pcD sh (4 * c + s))
      · rw [if_pos w]
      · rw [if_neg w]
  · rw [if_neg q, g136_0 _ _ _ _ _ h hs, if_pos rfl]
    refine ⟨h, rfl, LBp.rf, fun hd => ?_⟩
    have := hd.2
    rw [e1, e2] at this
    exact absurd this q
/-- what a cell needs and keeps -/
def HCp (W H : Nat) (ar : Bool) (sh : Nat → Nat) (h : HP) : Prop := SH h ∧ MD h W H ar ∧ SM h W H sh
theorem HCp.up {h' : HP} (a : HCp W H ar sh h) (b : LBp W H ar sh h h') : HCp W H ar sh h' := by
  obtain ⟨hs, hm, sm⟩ := a
  have f := b.1
  have e : ∀ q, q ≠ 41 → hI h' q = hI h q := fun q hq => f.2.2.2.2.2.1 q (by simp; exact hq)
  exact ⟨f.sh hs (by simp; omega), hm.fr f (by rw [e 26 (by decide)]) (by rw [e 26 (by decide)]) (by rw [e 26 (by decide)]) (by decide) (by decide) (by decide), fun c hc => by rw [e 28 (by decide)]; exact sm c hc⟩
theorem hg (f : FlH W H ar sh) (hh : HCp W H ar sh h) {c s c' s' : Nat} (hc : c < W * H) (h4 : s < 4) (hc' : c' < W * H) (h4' : s' < 4) (hnb : nbN W H ar c s = 4 * c' + s' + 1) : ∃ h', (∀ k : HP → RS, bI (X (135, 0, [.ref 26, .int (nI c), .int (nI s), .null, .null], [], h)) (fun r1 h1 => bI (X (135, 0, [.ref 26, .int (nI c'), .int (nI s'), .null, .null], [], h1)) (fun r2 h2 => bV (X (136, 0, [.ref 26, .int r1, .int r2, .null, .null, .null], [], h2)) k)) = k h') ∧ LBp W H ar sh h h' ∧ EqD W H ar sh h' (4 * c + s) := by
  obtain ⟨hs, hm, sm⟩ := hh
  obtain ⟨h', x1, x2, x3⟩ := s136d f hs hc h4 h4' hnb .null .null .null
  refine ⟨h', fun k => ?_, x2, x3⟩
  rw [s135 hm hs sm hc h4, bI_s, s135 hm hs sm hc' h4', bI_s, x1, bV_s]
end Hp
