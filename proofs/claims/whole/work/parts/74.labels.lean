/-! heaps, sizes; length, longest, same in the reference -/
section Lb
variable {W H : Nat} {ar : Bool} {al sh : Nat → Nat} {h : HP}
theorem m2 {x : Nat} (hx : x < 2 ^ 31) : nI x - nI x / 2 * 2 = nI (x % 2) := pk_rem (d := 2) hx (by decide) (by decide)
theorem s137c (f : FlH W H ar sh) {c : Nat} (hc : c < W * H) (hh : HCp W H ar sh h) (w2 w3 : Value) : ∃ h' v2 v3, X (137, 23, [.ref 26, .int (nI c), w2, w3], [], h) = X (137, 23, [.ref 26, .int (nI (c + 1)), v2, v3], [], h') ∧ LBp W H ar sh h h' ∧ ∀ s, s < 4 → c < (nbN W H ar c s - 1) / 4 → EqD W H ar sh h' (4 * c + s) := by
  obtain ⟨⟨w1, w2'⟩, ⟨h1, h2⟩, h20, k4⟩ := okS_1 f.1
  have hy : c / W < H := div_lt' hc
  have hx : c % W < W := Nat.mod_lt _ (by omega)
  have hcx : c = W * (c / W) + c % W := (Nat.div_add_mod c W).symm
  have rem : nI c - nI c / nI W * nI W = nI (c % W) := pk_rem (by omega) (by omega) (by omega)
  have dv : nI c / nI W = nI (c / W) := pk_div (by omega) (by omega) (by omega)
  have below : c / W + 1 < H → c + W < W * H := by
    intro u
    have : W * (c / W + 2) ≤ W * H := Nat.mul_le_mul_left W u
    have e : W * (c / W + 2) = W * (c / W) + W + W := by rw [Nat.mul_add]; omega
    omega
  have nxt : c % W + 1 < W → c + 1 < W * H := by
    intro u
    have : W * (c / W + 1) ≤ W * H := Nat.mul_le_mul_left W hy
    have e : W * (c / W + 1) = W * (c / W) + W := by rw [Nat.mul_add, Nat.mul_one]
    omega
  -- A
  have A : ∃ h1, X (137, 23, [.ref 26, .int (nI c), w2, w3], [], h) = X (137, 73, [.ref 26, .int (nI c), .int (nI (c % W)), .int (nI (c / W))], [], h1) ∧ LBp W H ar sh h h1 ∧ (c % W + 1 < W → EqD W H ar sh h1 (4 * c + 1)) := by
    obtain ⟨hs, hm, sm⟩ := hh
    have m0 := hm.2.1
    rw [g137_23 _ _ _ h hs, s106 hm hs, bI_s, if_neg (nI_ge hc (by omega)), m0, if_neg (nI_ne0 (by omega) (by omega)), if_neg (nI_ne0 (by omega) (by omega)), rem, dv, nI_1]
    by_cases q : c % W + 1 < W
    · obtain ⟨g, x1, x2, x3⟩ := hg f ⟨hs, hm, sm⟩ hc (show 1 < 4 by decide) (nxt q) (show 3 < 4 by decide) (show nbN W H ar c 1 = 4 * (c + 1) + 3 + 1 by unfold nbN; rw [if_neg (by decide), if_pos rfl, if_pos q])
      rw [if_neg (nI_ge q (by omega)), nI_1]
      exact ⟨g, x1 _, x2, fun _ => x3⟩
    · rw [if_pos (nI_le (by omega) (by omega))]
      exact ⟨h, rfl, LBp.rf, fun u => absurd u q⟩
  obtain ⟨ha, a1, a2, a3⟩ := A
  have hh1 := hh.up a2
  have B : ∃ h1, X (137, 73, [.ref 26, .int (nI c), .int (nI (c % W)), .int (nI (c / W))], [], ha) = X (137, 104, [.ref 26, .int (nI c), .int (nI (c % W)), .int (nI (c / W))], [], h1) ∧ LBp W H ar sh ha h1 ∧ (c / W + 1 < H → EqD W H ar sh h1 (4 * c + 2)) := by
    obtain ⟨hs, hm, sm⟩ := hh1
    rw [g137_73 _ _ _ ha hs, hm.2.2.1, nI_1]
    by_cases q : c / W + 1 < H
    · obtain ⟨g, x1, x2, x3⟩ := hg f ⟨hs, hm, sm⟩ hc (show 2 < 4 by decide) (below q) (show 0 < 4 by decide) (show nbN W H ar c 2 = 4 * (c + W) + 0 + 1 by unfold nbN; rw [if_neg (by decide), if_neg (by decide), if_pos rfl, if_pos q])
      refine ⟨g, ?_, x2, fun _ => x3⟩
      rw [if_neg (nI_ge q (by omega))]
      refine Eq.trans ?_ (x1 (fun h3 => X (137, 104, [.ref 26, .int (nI c), .int (nI (c % W)), .int (nI (c / W))], [], h3)))
      rw [show (2 : Int32) = nI 2 from rfl, s135 hm hs sm hc (by decide), bI_s, bI_s, hm.2.1, nI_add]
      rfl
    · rw [if_pos (nI_le (by omega) (by omega))]
      exact ⟨ha, rfl, LBp.rf, fun u => absurd u q⟩
  obtain ⟨hb, b1, b2, b3⟩ := B
  have hh2 := hh1.up b2
  by_cases har : ar = true
  · subst har
    obtain ⟨kw, kh⟩ := k4 rfl
    have C : ∃ h1, X (137, 104, [.ref 26, .int (nI c), .int (nI (c % W)), .int (nI (c / W))], [], hb) = X (137, 142, [.ref 26, .int (nI c), .int (nI (c % W)), .int (nI (c / W))], [], h1) ∧ LBp W H true sh hb h1 ∧ (c / W = 0 → c % W % 2 = 0 → EqD W H true sh h1 (4 * c + 0)) := by
      obtain ⟨hs, hm, sm⟩ := hh2
      have n0 : ¬ aI true = 0 := by decide
      rw [g137_104 _ _ _ hb hs, hm.2.2.2.1, if_neg n0, m2 (by omega)]
      by_cases q : c / W = 0
      · rw [if_pos (by rw [q]; rfl)]
        by_cases r : c % W % 2 = 0
        · obtain ⟨g, x1, x2, x3⟩ := hg f ⟨hs, hm, sm⟩ hc (show 0 < 4 by decide) (nxt (by omega)) (show 0 < 4 by decide) (show nbN W H true c 0 = 4 * (c + 1) + 0 + 1 by unfold nbN; rw [if_pos rfl, if_neg (by omega), if_pos rfl, if_pos r])
          refine ⟨g, ?_, x2, fun _ _ => x3⟩
          rw [if_pos (by rw [r]; rfl), nI_1]
          exact x1 _
        · rw [if_neg (nI_ne0 (by omega) (by omega))]
          exact ⟨hb, rfl, LBp.rf, fun _ u => absurd u r⟩
      · rw [if_neg (nI_ne0 (Nat.pos_of_ne_zero q) (by omega))]
        exact ⟨hb, rfl, LBp.rf, fun u => absurd u q⟩
    obtain ⟨hcc, c1, c2, c3⟩ := C
    have hh3 := hh2.up c2
    have D : ∃ h1, X (137, 142, [.ref 26, .int (nI c), .int (nI (c % W)), .int (nI (c / W))], [], hcc) = X (137, 176, [.ref 26, .int (nI c), .int (nI (c % W)), .int (nI (c / W))], [], h1) ∧ LBp W H true sh hcc h1 ∧ (c / W = H - 1 → c % W % 2 = 0 → EqD W H true sh h1 (4 * c + 2)) := by
      obtain ⟨hs, hm, sm⟩ := hh3
      have e1 : nI H - 1 = nI (H - 1) := by rw [show (1 : Int32) = nI 1 from rfl, pk_sub h1]
      rw [g137_142 _ _ _ hcc hs, hm.2.2.1, e1, m2 (by omega)]
      by_cases q : c / W = H - 1
      · rw [if_pos (by rw [q])]
        by_cases r : c % W % 2 = 0
        · obtain ⟨g, x1, x2, x3⟩ := hg f ⟨hs, hm, sm⟩ hc (show 2 < 4 by decide) (nxt (by omega)) (show 2 < 4 by decide) (show nbN W H true c 2 = 4 * (c + 1) + 2 + 1 by unfold nbN; rw [if_neg (by decide), if_neg (by decide), if_pos rfl, if_neg (by omega), if_pos rfl, if_pos r])
          refine ⟨g, ?_, x2, fun _ _ => x3⟩
          rw [if_pos (by rw [r]; rfl), nI_1]
          exact x1 _
        · rw [if_neg (nI_ne0 (by omega) (by omega))]
          exact ⟨hcc, rfl, LBp.rf, fun _ u => absurd u r⟩
      · rw [if_neg (fun e => q ((nI_eq (by omega) (by omega)).mp e))]
        exact ⟨hcc, rfl, LBp.rf, fun u => absurd u q⟩
    obtain ⟨hd, d1, d2, d3⟩ := D
    have hh4 := hh3.up d2
    have E : ∃ h1, X (137, 176, [.ref 26, .int (nI c), .int (nI (c % W)), .int (nI (c / W))], [], hd) = X (137, 207, [.ref 26, .int (nI c), .int (nI (c % W)), .int (nI (c / W))], [], h1) ∧ LBp W H true sh hd h1 ∧ (c % W = 0 → c / W % 2 = 0 → EqD W H true sh h1 (4 * c + 3)) := by
      obtain ⟨hs, hm, sm⟩ := hh4
      rw [g137_176 _ _ _ hd hs, m2 (show c / W < 2 ^ 31 by omega)]
      by_cases q : c % W = 0
      · rw [if_pos (by rw [q]; rfl)]
        by_cases r : c / W % 2 = 0
        · obtain ⟨g, x1, x2, x3⟩ := hg f ⟨hs, hm, sm⟩ hc (show 3 < 4 by decide) (below (by omega)) (show 3 < 4 by decide) (show nbN W H true c 3 = 4 * (c + W) + 3 + 1 by unfold nbN; rw [if_neg (by decide), if_neg (by decide), if_neg (by decide), if_neg (by omega), if_pos rfl, if_pos r])
          refine ⟨g, ?_, x2, fun _ _ => x3⟩
          rw [if_pos (by rw [r]; rfl)]
          refine Eq.trans ?_ (x1 (fun h3 => X (137, 207, [.ref 26, .int (nI c), .int (nI (c % W)), .int (nI (c / W))], [], h3)))
          rw [show (3 : Int32) = nI 3 from rfl, s135 hm hs sm hc (by decide), bI_s, bI_s, hm.2.1, nI_add]
        · rw [if_neg (nI_ne0 (by omega) (by omega))]
          exact ⟨hd, rfl, LBp.rf, fun _ u => absurd u r⟩
      · rw [if_neg (nI_ne0 (by omega) (by omega))]
        exact ⟨hd, rfl, LBp.rf, fun u => absurd u q⟩
    obtain ⟨he, e1, e2, e3⟩ := E
    have hh5 := hh4.up e2
    have F : ∃ h1, X (137, 207, [.ref 26, .int (nI c), .int (nI (c % W)), .int (nI (c / W))], [], he) = X (137, 244, [.ref 26, .int (nI c), .int (nI (c % W)), .int (nI (c / W))], [], h1) ∧ LBp W H true sh he h1 ∧ (c % W = W - 1 → c / W % 2 = 0 → EqD W H true sh h1 (4 * c + 1)) := by
      obtain ⟨hs, hm, sm⟩ := hh5
      have e1 : nI W - 1 = nI (W - 1) := by rw [show (1 : Int32) = nI 1 from rfl, pk_sub w1]
      rw [g137_207 _ _ _ he hs, hm.2.1, e1, m2 (show c / W < 2 ^ 31 by omega)]
      by_cases q : c % W = W - 1
      · rw [if_pos (by rw [q])]
        by_cases r : c / W % 2 = 0
        · obtain ⟨g, x1, x2, x3⟩ := hg f ⟨hs, hm, sm⟩ hc (show 1 < 4 by decide) (below (by omega)) (show 1 < 4 by decide) (show nbN W H true c 1 = 4 * (c + W) + 1 + 1 by unfold nbN; rw [if_neg (by decide), if_pos rfl, if_neg (by omega), if_pos rfl, if_pos r])
          refine ⟨g, ?_, x2, fun _ _ => x3⟩
          rw [if_pos (by rw [r]; rfl)]
          refine Eq.trans ?_ (x1 (fun h3 => X (137, 244, [.ref 26, .int (nI c), .int (nI (c % W)), .int (nI (c / W))], [], h3)))
          rw [show (1 : Int32) = nI 1 from rfl, s135 hm hs sm hc (by decide), bI_s, bI_s, hm.2.1, nI_add]
        · rw [if_neg (nI_ne0 (by omega) (by omega))]
          exact ⟨he, rfl, LBp.rf, fun _ u => absurd u r⟩
      · rw [if_neg (fun e => q ((nI_eq (by omega) (by omega)).mp e))]
        exact ⟨he, rfl, LBp.rf, fun u => absurd u q⟩
    obtain ⟨hf, f1, f2, f3⟩ := F
    have hh6 := hh5.up f2
    refine ⟨hf, .int (nI (c % W)), .int (nI (c / W)), by rw [a1, b1, c1, d1, e1, f1, g137_244 _ _ _ hf hh6.1, nI_1], ((((a2.trn b2).trn c2).trn d2).trn e2).trn f2, fun s hs4 hlt => ?_⟩
    have hs : s = 0 ∨ s = 1 ∨ s = 2 ∨ s = 3 := by omega
    rcases hs with rfl | rfl | rfl | rfl
    · unfold nbN at hlt
      rw [if_pos rfl] at hlt
      by_cases q : 0 < c / W
      · rw [if_pos q] at hlt; omega
      · rw [if_neg q, if_pos rfl] at hlt
        by_cases r : c % W % 2 = 0
        · exact EqD.up f (EqD.up f (EqD.up f (c3 (Nat.eq_zero_of_not_pos q) r) d2) e2) f2
        · rw [if_neg r] at hlt; omega
    · unfold nbN at hlt
      rw [if_neg (by decide), if_pos rfl] at hlt
      by_cases q : c % W + 1 < W
      · exact EqD.up f (EqD.up f (EqD.up f (EqD.up f (EqD.up f (a3 q) b2) c2) d2) e2) f2
      · rw [if_neg q, if_pos rfl] at hlt
        by_cases r : c / W % 2 = 0
        · exact f3 (by omega) r
        · rw [if_neg r] at hlt; omega
    · unfold nbN at hlt
      rw [if_neg (by decide), if_neg (by decide), if_pos rfl] at hlt
      by_cases q : c / W + 1 < H
      · exact EqD.up f (EqD.up f (EqD.up f (EqD.up f (b3 q) c2) d2) e2) f2
      · rw [if_neg q, if_pos rfl] at hlt
        by_cases r : c % W % 2 = 0
        · exact EqD.up f (EqD.up f (d3 (by omega) r) e2) f2
        · rw [if_neg r] at hlt; omega
    · unfold nbN at hlt
      rw [if_neg (by decide), if_neg (by decide), if_neg (by decide)] at hlt
      by_cases q : 0 < c % W
      · rw [if_pos q] at hlt; omega
      · rw [if_neg q, if_pos rfl] at hlt
        by_cases r : c / W % 2 = 0
        · exact EqD.up f (e3 (by omega) r) f2
        · rw [if_neg r] at hlt; omega
  · have har' : ar = false := by simpa using har
    subst har'
    refine ⟨hb, .int (nI (c % W)), .int (nI (c / W)), ?_, a2.trn b2, fun s hs4 hlt => ?_⟩
    · obtain ⟨hs, hm, sm⟩ := hh2
      have z0 : aI false = 0 := rfl
      rw [a1, b1, g137_104 _ _ _ hb hs, hm.2.2.2.1, if_pos z0, g137_244 _ _ _ hb hs, nI_1]
    · have hs : s = 0 ∨ s = 1 ∨ s = 2 ∨ s = 3 := by omega
      rcases hs with rfl | rfl | rfl | rfl
      · unfold nbN at hlt
        rw [if_pos rfl] at hlt
        by_cases q : 0 < c / W
        · rw [if_pos q] at hlt; omega
        · rw [if_neg q, if_neg (by decide)] at hlt; omega
      · unfold nbN at hlt
        rw [if_neg (by decide), if_pos rfl] at hlt
        by_cases q : c % W + 1 < W
        · exact EqD.up f (a3 q) b2
        · rw [if_neg q, if_neg (by decide)] at hlt; omega
      · unfold nbN at hlt
        rw [if_neg (by decide), if_neg (by decide), if_pos rfl] at hlt
        by_cases q : c / W + 1 < H
        · exact b3 q
        · rw [if_neg q, if_neg (by decide)] at hlt; omega
      · unfold nbN at hlt
        rw [if_neg (by decide), if_neg (by decide), if_neg (by decide)] at hlt
        by_cases q : 0 < c % W
        · rw [if_pos q] at hlt; omega
        · rw [if_neg q, if_neg (by decide)] at hlt; omega
/-- the labels are right -/
def LabH (W H : Nat) (ar : Bool) (sh : Nat → Nat) (h : HP) : Prop := Rb h ∧ (∀ L, ClS W H ar sh L → Ob L h) ∧ ∀ d, EqD W H ar sh h d
theorem s137 (f : FlH W H ar sh) (hh : HCp W H ar sh h) (w1 w2 w3 : Value) : ∃ h', X (137, 0, [.ref 26, w1, w2, w3], [], h) = some (none, h') ∧ Fr [41] [] h h' ∧ LabH W H ar sh h' := by
  have h20 := (okS_1 f.1).2.2.1
  have k0 : ∀ (n j : Nat), j + n = 40 → ∀ (h : HP), SH h → (∀ i, i < j → hI h 41 i = nI i) → ∃ h', X (137, 2, [.ref 26, .int (nI j), w2, w3], [], h) = X (137, 23, [.ref 26, .int (nI 0), w2, w3], [], h') ∧ Fr [41] [] h h' ∧ ∀ i, i < 40 → hI h' 41 i = nI i := by
    intro n
    induction n with
    | zero =>
      intro j hj h hs hd
      have : j = 40 := by omega
      subst this
      refine ⟨h, ?_, Fr.rf, hd⟩
      rw [g137_2 _ _ _ h hs, if_pos (by decide)]
      rfl
    | succ n ih =>
      intro j hj h hs hd
      obtain ⟨h', x1, x2, x3⟩ := ih (j + 1) (by omega) (sI h 41 j (nI j)) (hs.sIs 41 rfl) (fun i hi => by
        by_cases u : i = j
        · rw [u, hI_sI_same]
        · rw [hI_sI_ne _ _ u]; exact hd i (by omega))
      refine ⟨h', ?_, (Fr.sI (by simp)).tr x2, x3⟩
      have n40 : ¬ (40 : Int32) ≤ nI j := nI_ge (show j < 40 by omega) (by decide)
      rw [g137_2 _ _ _ h hs, if_neg n40, if_pos (inB_nI (by omega) (by decide)), nI_clamp (by omega), nI_1]
      exact x1
  have k1 : ∀ (n c : Nat), c + n = W * H → ∀ (h : HP) (w2 w3 : Value), HCp W H ar sh h → (∀ c' s, c' < c → s < 4 → c' < (nbN W H ar c' s - 1) / 4 → EqD W H ar sh h (4 * c' + s)) → ∃ h', X (137, 23, [.ref 26, .int (nI c), w2, w3], [], h) = some (none, h') ∧ LBp W H ar sh h h' ∧ ∀ c' s, c' < W * H → s < 4 → c' < (nbN W H ar c' s - 1) / 4 → EqD W H ar sh h' (4 * c' + s) := by
    intro n
    induction n with
    | zero =>
      intro c hc h w2 w3 hh he
      have : c = W * H := by omega
      subst this
      refine ⟨h, ?_, LBp.rf, he⟩
      rw [g137_23 _ _ _ h hh.1, s106 hh.2.1 hh.1, bI_s, if_pos (nI_le (Nat.le_refl _) (by omega))]
    | succ n ih =>
      intro c hc h w2 w3 hh he
      obtain ⟨g, v2, v3, x1, x2, x3⟩ := s137c f (show c < W * H by omega) hh w2 w3
      obtain ⟨h', y1, y2, y3⟩ := ih (c + 1) (by omega) g v2 v3 (hh.up x2) (fun c' s h1 h2 h3 => by
        rcases Nat.lt_or_ge c' c with u | u
        · exact EqD.up f (he c' s u h2 h3) x2
        · have : c' = c := by omega
          subst this
          exact x3 s h2 h3)
      exact ⟨h', by rw [x1]; exact y1, x2.trn y2, y3⟩
  obtain ⟨g, x1, x2, x3⟩ := k0 40 0 (by omega) h hh.1 (fun i hi => absurd hi (Nat.not_lt_zero _))
  have gI : ∀ q, q ≠ 41 → hI g q = hI h q := fun q hq => x2.2.2.2.2.2.1 q (by simp; exact hq)
  obtain ⟨hs, hm, sm⟩ := hh
  have gh : HCp W H ar sh g := ⟨x2.sh hs (by simp; omega), hm.fr x2 (by rw [gI 26 (by decide)]) (by rw [gI 26 (by decide)]) (by rw [gI 26 (by decide)]) (by decide) (by decide) (by decide), fun c hc => by rw [gI 28 (by decide)]; exact sm c hc⟩
  obtain ⟨h', y1, y2, y3⟩ := k1 (W * H) 0 (by omega) g w2 w3 gh (fun c' s h1 => absurd h1 (Nat.not_lt_zero _))
  refine ⟨h', by rw [g137_0 _ _ _ h hs]; exact Eq.trans x1 y1, x2.tr y2.1, y2.2.1 (fun p hp => ⟨p, hp, x3 p hp⟩), fun L cl => y2.2.2.1 L cl (fun u v hu hv e => ?_), fun d hd => ?_⟩
  · rw [x3 u hu, x3 v hv] at e
    rw [(nI_eq (by omega) (by omega)).mp e]
  · obtain ⟨n0, n1, n2, n3, n4⟩ := Pd_nb f hd
    have hc : d / 4 < W * H := by have := hd.1; omega
    rcases Nat.lt_or_ge (d / 4) ((nbN W H ar (d / 4) (d % 4) - 1) / 4) with u | u
    · have := y3 (d / 4) (d % 4) hc (Nat.mod_lt _ (by decide)) u
      rw [show 4 * (d / 4) + d % 4 = d by omega] at this
      exact this hd
    · have o := (orbF f).1 d hd
      have ha : aD W H ar d = nbN W H ar (d / 4) (d % 4) - 1 := rfl
      have := y3 (aD W H ar d / 4) (aD W H ar d % 4) (by rw [ha]; exact n1) (Nat.mod_lt _ (by decide)) (by rw [ha, n2]; omega)
      rw [show 4 * (aD W H ar d / 4) + aD W H ar d % 4 = aD W H ar d by omega] at this
      have := this o.1
      rw [o.2.1] at this
      exact this.symm
/-- labels tell loops -/
theorem lab_iff (f : FlH W H ar sh) (l : LabH W H ar sh h) {d e : Nat} (hd : Pd W H sh d) (he : Pd W H sh e) : hI h 41 (pcD sh e) = hI h 41 (pcD sh d) ↔ pcD sh e ∈ Lk W H ar sh d := by
  refine ⟨fun q => ?_, fun q => ?_⟩
  · exact (l.2.1 _ (fun x hx => Lk_iff f hd hx) _ _ ((pcF f).1 e he) ((pcF f).1 d hd) q).mpr (Lk_ok f hd).2.1
  · exact (Lk_ok f hd).2.2.2.2 (hI h 41) (fun x hx => l.2.2 x hx) _ q
/-- how many pieces have a label -/
def szN (W H : Nat) (sh : Nat → Nat) (r : Nat → Int32) (a : Int32) : Nat := sT (fun c => sT (fun k => if k < pcs (sh c) ∧ r (2 * c + k) = a then 1 else 0) 2 0) (W * H) 0
theorem s139 (hm : MD h W H ar) (hs : SH h) (sm : SM h W H sh) (a : Int32) (w2 w3 w4 : Value) : X (139, 0, [.ref 26, .int a, w2, w3, w4], [], h) = some (some (.int (nI (szN W H sh (hI h 41) a))), h) := by
  have h20 := (okS_1 hm.1).2.2.1
  have inn : ∀ {c : Nat}, c < W * H → ∀ (n k : Nat), k + n = 2 → ∀ (v : Nat), X (139, 15, [.ref 26, .int a, .int (nI v), .int (nI c), .int (nI k)], [], h) = X (139, 4, [.ref 26, .int a, .int (nI (v + sT (fun k => if k < pcs (sh c) ∧ hI h 41 (2 * c + k) = a then 1 else 0) n k)), .int (nI (c + 1)), .int (nI (max k (pcs (sh c))))], [], h) := by
    intro c hc n
    obtain ⟨s1, s2⟩ := sm c hc
    obtain ⟨p2, pe⟩ := TF4 _ s2
    have base : ∀ k v, pcs (sh c) ≤ k → k ≤ 2 → X (139, 15, [.ref 26, .int a, .int (nI v), .int (nI c), .int (nI k)], [], h) = X (139, 4, [.ref 26, .int a, .int (nI v), .int (nI (c + 1)), .int (nI k)], [], h) := fun k v q hk => by
      rw [g139_15 _ _ _ _ h hs, if_pos (inB_nI (by omega) (by decide)), nI_clamp (by omega), s1, if_pos (inB_nI s2 (by decide)), nI_clamp (by omega), hm.2.2.2.2.1 _ s2, pe, if_pos (nI_le q (by omega)), nI_1]
    induction n with
    | zero =>
      intro k hk v
      rw [base k v (by omega) (by omega), Nat.max_eq_left (by omega)]
      rfl
    | succ n ih =>
      intro k hk v
      by_cases q : pcs (sh c) ≤ k
      · have z : sT (fun k => if k < pcs (sh c) ∧ hI h 41 (2 * c + k) = a then 1 else 0) (n + 1) k = 0 := sT_0 _ _ (fun j h1 _ => if_neg (fun w => by omega))
        have e : v + sT (fun k => if k < pcs (sh c) ∧ hI h 41 (2 * c + k) = a then 1 else 0) (n + 1) k = v := by rw [z]; rfl
        rw [base k v q (by omega), e, Nat.max_eq_left q]
      · have e4 : 2 * nI c + nI k = nI (2 * c + k) := by rw [show (2 : Int32) = nI 2 from rfl, pk_mul, nI_add]
        have mx : max (k + 1) (pcs (sh c)) = max k (pcs (sh c)) := by omega
        rw [g139_15 _ _ _ _ h hs, if_pos (inB_nI (by omega) (by decide)), nI_clamp (by omega), s1, if_pos (inB_nI s2 (by decide)), nI_clamp (by omega), hm.2.2.2.2.1 _ s2, pe, if_neg (nI_ge (by omega) (by omega)), e4, if_pos (inB_nI (by omega) (by decide)), nI_clamp (by omega), sT]
        by_cases u : hI h 41 (2 * c + k) = a
        · have c2 : k < pcs (sh c) ∧ hI h 41 (2 * c + k) = a := ⟨by omega, u⟩
          rw [if_pos u, g139_49 _ _ _ _ h hs, nI_1, nI_1, ih (k + 1) (by omega) (v + 1), if_pos c2, mx, Nat.add_assoc]
        · have c2 : ¬ (k < pcs (sh c) ∧ hI h 41 (2 * c + k) = a) := fun w => u w.2
          rw [if_neg u, g139_49 _ _ _ _ h hs, nI_1, ih (k + 1) (by omega) v, if_neg c2, mx, Nat.zero_add]
  have key : ∀ (n c : Nat), c + n = W * H → ∀ (v : Nat) (w4 : Value), X (139, 4, [.ref 26, .int a, .int (nI v), .int (nI c), w4], [], h) = some (some (.int (nI (v + sT (fun c => sT (fun k => if k < pcs (sh c) ∧ hI h 41 (2 * c + k) = a then 1 else 0) 2 0) n c))), h) := by
    intro n
    induction n with
    | zero =>
      intro c hc v w4
      rw [g139_4 _ _ _ _ h hs, s106 hm hs, bI_s, if_pos (nI_le (by omega) (by omega))]
      rfl
    | succ n ih =>
      intro c hc v w4
      rw [g139_4 _ _ _ _ h hs, s106 hm hs, bI_s, if_neg (nI_ge (by omega) (by omega)), show (0 : Int32) = nI 0 from rfl, inn (show c < W * H by omega) 2 0 (by omega) v, ih (c + 1) (by omega), Nat.add_assoc]
      rfl
  rw [g139_0 _ _ _ _ h hs]
  have := key (W * H) 0 (by omega) 0 w4
  rw [Nat.zero_add] at this
  exact this
theorem sT_two {g : Nat → Nat} : ∀ (n c : Nat), sT (fun c => sT (fun k => g (2 * c + k)) 2 0) n c = sT g (2 * n) (2 * c) := by
  intro n
  induction n with
  | zero => intro c; rfl
  | succ n ih =>
    intro c
    rw [sT, ih (c + 1), show 2 * (n + 1) = 2 + 2 * n by omega, sT_app, show 2 * c + 2 = 2 * (c + 1) by omega]
    rfl
theorem sz_len (f : FlH W H ar sh) (l : LabH W H ar sh h) {d : Nat} (hd : Pd W H sh d) : szN W H sh (hI h 41) (hI h 41 (pcD sh d)) = (Lk W H ar sh d).length := by
  have h20 := (okS_1 f.1).2.2.1
  unfold szN
  have e : sT (fun c => sT (fun k => if k < pcs (sh c) ∧ hI h 41 (2 * c + k) = hI h 41 (pcD sh d) then 1 else 0) 2 0) (W * H) 0 = sT (fun c => sT (fun k => if 2 * c + k ∈ Lk W H ar sh d then 1 else 0) 2 0) (W * H) 0 := by
    refine sT_c _ _ (fun c _ hc => ?_)
    refine sT_c _ _ (fun k _ hk => ?_)
    have inL : 2 * c + k ∈ Lk W H ar sh d → k < pcs (sh c) := fun hm => by
      obtain ⟨e, he, e2⟩ := (Lk_ok f hd).2.2.1 _ hm
      have hce : e / 4 < W * H := by have := he.1; omega
      obtain ⟨-, -, -, -, -, t6, -, t8, -⟩ := TF1 _ (f.2.1 _ hce) _ (Nat.mod_lt e (by decide)) he.2
      unfold pcD at e2
      have : e / 4 = c := by omega
      rw [this] at e2 t8
      omega
    by_cases q : k < pcs (sh c)
    · obtain ⟨p1, p2, -⟩ := dsP_ok f (show c < W * H by omega) (show k < 2 by omega) q
      have iff := lab_iff f l hd p1
      rw [p2] at iff
      by_cases u : 2 * c + k ∈ Lk W H ar sh d
      · rw [if_pos u, if_pos ⟨q, iff.mpr u⟩]
      · rw [if_neg u, if_neg (fun w => u (iff.mp w.2))]
    · rw [if_neg (fun w => q w.1), if_neg (fun w => q (inL w))]
  rw [e, sT_two (g := fun x => if x ∈ Lk W H ar sh d then 1 else 0), Lk_sum f hd, show 40 = 2 * (W * H) + (40 - 2 * (W * H)) by omega, sT_app]
  rw [sT_0 (40 - 2 * (W * H)) (0 + 2 * (W * H)) (fun j h1 h2 => if_neg (fun hm => by
    obtain ⟨e, he, e2⟩ := (Lk_ok f hd).2.2.1 _ hm
    have hce : e / 4 < W * H := by have := he.1; omega
    have := (TF1 _ (f.2.1 _ hce) _ (Nat.mod_lt e (by decide)) he.2).2.2.2.2.2.1
    unfold pcD at e2
    omega)), Nat.add_zero]
end Lb
