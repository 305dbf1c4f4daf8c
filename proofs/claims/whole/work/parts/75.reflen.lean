/-! length, longest, same in the reference -/
section Rl
variable {W H : Nat} {ar : Bool} {al sh : Nat → Nat} {h : HP}
theorem SM.fr {S T : List Nat} {h' : HP} (m : SM h W H sh) (f : Fr S T h h') (h28 : 28 ∉ S) : SM h' W H sh := fun c hc => by rw [f.2.2.2.2.2.1 28 h28]; exact m c hc
theorem s130r (rs : RSt W H ar al h) (hc : SM h W H sh) : ∃ g, X (130, 0, [.ref 26], [], h) = some (some (.int (aI (flB W H ar al sh))), g) ∧ Fr [26, 32] [] h g ∧ RSt W H ar al g ∧ SM g W H sh := by
  obtain ⟨⟨hs, hm, ha, hj⟩, no⟩ := rs
  obtain ⟨g, x1, x2, x3, x4, x5⟩ := s130 hm hs ha hc hj
  have gs := x2.sh hs (by simp; omega)
  have gI : ∀ q, q ≠ 26 → q ≠ 32 → hI g q = hI h q := fun q h1 h2 => x2.2.2.2.2.2.1 q (by simp; omega)
  have gm : MD g W H ar := hm.fr x2 (x3 0 (by decide) (by decide)) (x3 1 (by decide) (by decide)) (x3 2 (by decide) (by decide)) (by decide) (by decide) (by decide)
  refine ⟨g, x1, x2, ⟨⟨gs, gm, fun c hc2 => by rw [gI 27 (by decide) (by decide)]; exact ha c hc2, x4⟩, ?_⟩, hc.fr x2 (by decide)⟩
  rcases no with no | ⟨n1, n2⟩
  · left; rw [x3 5 (by decide) (by decide)]; exact no
  · right; exact ⟨by rw [x3 5 (by decide) (by decide)]; exact n1, n2.kp (gI 33 (by decide) (by decide)) (gI 34 (by decide) (by decide)) (gI 36 (by decide) (by decide)) (gI 37 (by decide) (by decide)) (x2.2.2.2.2.2.2 38 (by simp)) (x2.2.2.2.2.2.2 39 (by simp))⟩
theorem RSt.f41 {h' : HP} (rs : RSt W H ar al h) (f : Fr [41] [] h h') : RSt W H ar al h' := rs.kp (f.sh rs.1.1 (by simp; omega)) (fun q h1 h2 h3 => f.2.2.2.2.2.1 q (by simp; omega)) (f.2.2.2.2.2.2 38 (by simp)) (f.2.2.2.2.2.2 39 (by simp))
theorem s138 (hm : MD h W H ar) (hs : SH h) (sm : SM h W H sh) {c : Nat} (hc : c < W * H) (a : Int32) : X (138, 0, [.ref 26, .int (nI c), .int a], [], h) = some (some (.int (aI (pcW sh c a).isSome)), h) := by
  have h20 := (okS_1 hm.1).2.2.1
  obtain ⟨s1, s2⟩ := sm c hc
  obtain ⟨p2, pe⟩ := TF4 _ s2
  rw [g138_0 _ _ h hs]
  unfold pcW
  by_cases q : a < 0
  · have nh : ¬ (inB a 2 = true ∧ a.toNatClampNeg < pcs (sh c)) := fun v => (inB_in v.1) (Or.inl q)
    rw [if_pos q, if_neg nh]; rfl
  · obtain ⟨j, hj, rfl⟩ := nI_of q
    rw [if_neg q, if_pos (inB_nI (by omega) (by decide)), nI_clamp (show c < 2 ^ 31 by omega), s1, if_pos (inB_nI s2 (by decide)), nI_clamp (show sh c < 2 ^ 31 by omega), hm.2.2.2.2.1 _ s2, pe, nI_clamp hj]
    by_cases u : j < pcs (sh c)
    · have yh : inB (nI j) 2 = true ∧ j < pcs (sh c) := ⟨inB_nI (by omega) (by decide), u⟩
      rw [if_neg (nI_ge u (by omega)), if_pos yh]; rfl
    · have nh : ¬ (inB (nI j) 2 = true ∧ j < pcs (sh c)) := fun v => u v.2
      rw [if_pos (nI_le (by omega) hj), if_neg nh]; rfl
theorem in01 {p : Int32} : inB p 2 = true ↔ p = 0 ∨ p = 1 := by
  refine ⟨fun q => ?_, fun q => ?_⟩
  · obtain ⟨j, hj, rfl⟩ := vp_in_of (inB_in q) (by decide)
    have : j = 0 ∨ j = 1 := by omega
    rcases this with rfl | rfl
    · exact Or.inl rfl
    · exact Or.inr rfl
  · rcases q with rfl | rfl <;> decide
theorem sN1 : ¬ aI (none : Option Nat).isSome = 1 := by decide
theorem s140 (rs : RSt W H ar al h) (sm : SM h W H sh) (x y p : Int32) (w4 : Value) : ∃ h', X (140, 0, [.ref 26, .int x, .int y, .int p, w4], [], h) = some (some (.int (lnA W H ar al sh x y p)), h') ∧ Fr [26, 32, 41] [] h h' ∧ RSt W H ar al h' := by
  have hs := rs.1.1
  have hm := rs.1.2.1
  have hk := okS_1 hm.1
  rw [g140_0 _ _ _ _ h hs, s107 hm hs, bI_s]
  unfold lnA
  cases hc : cAt W H x y with
  | none => rw [if_neg (show ¬ (none : Option Nat).isSome = true by decide), if_pos rfl]; exact ⟨h, rfl, Fr.rf, rs⟩
  | some c =>
    have hlt := cAt_lt (by omega) (by omega) hc
    rw [if_pos (show (some c).isSome = true from rfl), if_neg (by decide)]
    have main : inB p 2 = true → ∃ h', X (140, 18, [.ref 26, .int x, .int y, .int p, w4], [], h) = some (some (.int (if flB W H ar al sh = true then (match pcW sh c p with
        | none => 0
        | some k => nI (Lk W H ar sh (dsP sh c k)).length) else -1)), h') ∧ Fr [26, 32, 41] [] h h' ∧ RSt W H ar al h' := by
      intro hp
      obtain ⟨g, x1, x2, x3, x4⟩ := s130r rs sm
      have gs := x3.1.1
      have gm := x3.1.2.1
      rw [g140_18 _ _ _ _ h hs, x1, bI_s]
      unfold flB
      cases e : lpF W H ar al sh (W * H) 0 0 with
      | none => rw [if_pos (by rfl)]; exact ⟨g, rfl, x2.mono (by simp) (by simp), x3⟩
      | some y' =>
        have f := fl_H hm.1 (fun c hc => (sm c hc).2) e
        rw [if_neg sm1, gm.2.1, cAt_ix (by omega) (by omega) hc, s138 gm gs x4 hlt, bI_s]
        show ∃ h', _ = some (some (Value.int (match pcW sh c p with | none => 0 | some k => nI (Lk W H ar sh (dsP sh c k)).length)), h') ∧ _
        cases e2 : pcW sh c p with
        | none => rw [if_pos (by rfl)]; exact ⟨g, rfl, x2.mono (by simp) (by simp), x3⟩
        | some k =>
          obtain ⟨k1, k2, k3⟩ := pcW_in e2
          obtain ⟨h', y1, y2, y3⟩ := s137 f ⟨gs, gm, x4⟩ .null .null .null
          have hr := x3.f41 y2
          have e4 : 2 * nI c + nI k = nI (2 * c + k) := by rw [show (2 : Int32) = nI 2 from rfl, pk_mul, nI_add]
          obtain ⟨p1, p2, -⟩ := dsP_ok f hlt k1 k2
          rw [if_neg sm1, y1, bV_s, k3, e4, if_pos (inB_nI (by omega) (by decide)), nI_clamp (by omega), s139 hr.1.2.1 hr.1.1 (x4.fr y2 (by decide)), bI_s, ← p2, sz_len f y3 p1]
          exact ⟨h', rfl, (x2.mono (by simp) (by simp)).tr (y2.mono (by simp) (by simp)), hr⟩
    show ∃ h', _ = some (some (Value.int (if inB p 2 = true then _ else -1)), h') ∧ _
    by_cases q : inB p 2 = true
    · rw [if_pos q]
      have m := main q
      rcases in01.mp q with z | z
      · rw [if_pos z]; exact m
      · rw [if_neg (by rw [z]; decide), if_pos z]; exact m
    · have n0 : ¬ p = 0 := fun e => q (in01.mpr (Or.inl e))
      have n1 : ¬ p = 1 := fun e => q (in01.mpr (Or.inr e))
      rw [if_neg q, if_neg n0, if_neg n1]
      exact ⟨h, rfl, Fr.rf, rs⟩
theorem s142 (rs : RSt W H ar al h) (sm : SM h W H sh) (x y p u v o : Int32) (w7 w8 : Value) : ∃ h', X (142, 0, [.ref 26, .int x, .int y, .int p, .int u, .int v, .int o, w7, w8], [], h) = some (some (.int (smA W H ar al sh x y p u v o)), h') ∧ Fr [26, 32, 41] [] h h' ∧ RSt W H ar al h' := by
  have hs := rs.1.1
  have hm := rs.1.2.1
  have hk := okS_1 hm.1
  have h20 := hk.2.2.1
  rw [g142_0 _ _ _ _ _ _ _ _ h hs, s107 hm hs, bI_s]
  cases hc : cAt W H x y with
  | none =>
    have e : smA W H ar al sh x y p u v o = -1 := by unfold smA pcX; rw [hc]
    rw [if_neg (show ¬ (none : Option Nat).isSome = true by decide), if_pos rfl, e]
    exact ⟨h, rfl, Fr.rf, rs⟩
  | some c =>
    have hlt := cAt_lt (by omega) (by omega) hc
    rw [if_pos (show (some c).isSome = true from rfl), if_neg (by decide), s107 hm hs, bI_s]
    cases hc2 : cAt W H u v with
    | none =>
      have e : smA W H ar al sh x y p u v o = -1 := by
        unfold smA pcX
        rw [hc, hc2]
        show (match (match pcW sh c p with | none => none | some k => some (c, k)), (none : Option (Nat × Nat)) with
          | some a, some b => if flB W H ar al sh = true then (if 2 * b.1 + b.2 ∈ Lk W H ar sh (dsP sh a.1 a.2) then (1 : Int32) else 0) else -1
          | _, _ => -1) = -1
        cases pcW sh c p <;> rfl
      rw [if_neg (show ¬ (none : Option Nat).isSome = true by decide), if_pos rfl, e]
      exact ⟨h, rfl, Fr.rf, rs⟩
    | some c' =>
      have hlt2 := cAt_lt (by omega) (by omega) hc2
      rw [if_pos (show (some c').isSome = true from rfl), if_neg (by decide)]
      obtain ⟨g, x1, x2, x3, x4⟩ := s130r rs sm
      have gs := x3.1.1
      have gm := x3.1.2.1
      have ea : smA W H ar al sh x y p u v o = (match (match pcW sh c p with | none => none | some k => some (c, k)), (match pcW sh c' o with | none => none | some k => some (c', k)) with
          | some a, some b => if flB W H ar al sh = true then (if 2 * b.1 + b.2 ∈ Lk W H ar sh (dsP sh a.1 a.2) then (1 : Int32) else 0) else -1
          | _, _ => -1) := by
        unfold smA pcX
        rw [hc, hc2]
        rfl
      rw [ea, x1, bI_s]
      cases e : lpF W H ar al sh (W * H) 0 0 with
      | none =>
        have ef : flB W H ar al sh = false := by unfold flB; rw [e]; rfl
        rw [ef, if_pos (by rfl)]
        refine ⟨g, ?_, x2.mono (by simp) (by simp), x3⟩
        cases pcW sh c p <;> cases pcW sh c' o <;> rfl
      | some y' =>
        have ef : flB W H ar al sh = true := by unfold flB; rw [e]; rfl
        have f := fl_H hm.1 (fun c hc => (sm c hc).2) e
        rw [ef, if_neg (by decide), gm.2.1, cAt_ix (by omega) (by omega) hc, s138 gm gs x4 hlt, bI_s]
        cases e2 : pcW sh c p with
        | none =>
          rw [if_pos (by rfl)]
          exact ⟨g, rfl, x2.mono (by simp) (by simp), x3⟩
        | some k =>
          rw [if_neg sm1, cAt_ix (by omega) (by omega) hc2, s138 gm gs x4 hlt2, bI_s]
          cases e3 : pcW sh c' o with
          | none =>
            rw [if_pos (by rfl)]
            exact ⟨g, rfl, x2.mono (by simp) (by simp), x3⟩
          | some k' =>
            obtain ⟨a1, a2, a3⟩ := pcW_in e2
            obtain ⟨b1, b2, b3⟩ := pcW_in e3
            obtain ⟨h', y1, y2, y3⟩ := s137 f ⟨gs, gm, x4⟩ .null .null .null
            have hr := x3.f41 y2
            have e4 : 2 * nI c + nI k = nI (2 * c + k) := by rw [show (2 : Int32) = nI 2 from rfl, pk_mul, nI_add]
            have e5 : 2 * nI c' + nI k' = nI (2 * c' + k') := by rw [show (2 : Int32) = nI 2 from rfl, pk_mul, nI_add]
            obtain ⟨p1, p2, -⟩ := dsP_ok f hlt a1 a2
            obtain ⟨r1, r2, -⟩ := dsP_ok f hlt2 b1 b2
            have iff := lab_iff f y3 p1 r1
            rw [p2, r2] at iff
            rw [if_neg sm1, y1, bV_s, a3, b3, e4, e5, if_pos (inB_nI (by omega) (by decide)), if_pos (inB_nI (by omega) (by decide)), nI_clamp (by omega), nI_clamp (by omega)]
            have F : Fr [26, 32, 41] [] h h' := (x2.mono (by simp) (by simp)).tr (y2.mono (by simp) (by simp))
            show ∃ h'', _ = some (some (Value.int (if 2 * c' + k' ∈ Lk W H ar sh (dsP sh c k) then 1 else 0)), h'') ∧ _
            by_cases q : 2 * c' + k' ∈ Lk W H ar sh (dsP sh c k)
            · rw [if_pos (iff.mpr q).symm, if_pos q]
              exact ⟨h', rfl, F, hr⟩
            · rw [if_neg (fun z => q (iff.mp z.symm)), if_neg q]
              exact ⟨h', rfl, F, hr⟩
theorem sz_40 (f : FlH W H ar sh) (r : Nat → Int32) (a : Int32) : szN W H sh r a ≤ 40 := by
  have h20 := (okS_1 f.1).2.2.1
  unfold szN
  have o : ∀ n t, sT (fun _ => 2) n t = 2 * n := by
    intro n
    induction n with
    | zero => intro t; rfl
    | succ n ih => intro t; rw [sT, ih]; omega
  refine Nat.le_trans (sT_le (g' := fun _ => 2) (W * H) 0 (fun c _ _ => ?_)) (by rw [o]; omega)
  show (if _ then 1 else 0) + ((if _ then 1 else 0) + 0) ≤ 2
  split <;> split <;> decide
theorem s141l (f : FlH W H ar sh) (hm : MD h W H ar) (hs : SH h) (sm : SM h W H sh) : ∀ (n j : Nat), j + n = 40 → ∀ (G : Nat), G ≤ 40 → (∀ i, i < j → szN W H sh (hI h 41) (nI i) ≤ G) → (G = 0 ∨ ∃ i, i < 40 ∧ szN W H sh (hI h 41) (nI i) = G) → ∃ G', X (141, 17, [.ref 26, .int (nI G), .int (nI j)], [], h) = some (some (.int (nI G')), h) ∧ (∀ i, i < 40 → szN W H sh (hI h 41) (nI i) ≤ G') ∧ (G' = 0 ∨ ∃ i, i < 40 ∧ szN W H sh (hI h 41) (nI i) = G') := by
  intro n
  induction n with
  | zero =>
    intro j hj G hG h1 h2
    have : j = 40 := by omega
    subst this
    refine ⟨G, ?_, h1, h2⟩
    rw [g141_17 _ _ h hs, if_pos (by decide)]
  | succ n ih =>
    intro j hj G hG h1 h2
    have n40 : ¬ (40 : Int32) ≤ nI j := nI_ge (show j < 40 by omega) (by decide)
    have z40 := sz_40 f (hI h 41) (nI j)
    rw [g141_17 _ _ h hs, if_neg n40, s139 hm hs sm, bI_s]
    by_cases q : szN W H sh (hI h 41) (nI j) ≤ G
    · rw [if_pos (nI_le q (by omega)), g141_38 _ _ h hs, nI_1]
      exact ih (j + 1) (by omega) G hG (fun i hi => by
        rcases Nat.lt_or_ge i j with u | u
        · exact h1 i u
        · have : i = j := by omega
          subst this
          exact q) h2
    · rw [if_neg (nI_ge (by omega) (by omega)), s139 hm hs sm, bI_s, g141_38 _ _ h hs, nI_1]
      exact ih (j + 1) (by omega) _ z40 (fun i hi => by
        rcases Nat.lt_or_ge i j with u | u
        · have := h1 i u; omega
        · have : i = j := by omega
          subst this
          exact Nat.le_refl _) (Or.inr ⟨j, by omega, rfl⟩)
theorem s141 (rs : RSt W H ar al h) (sm : SM h W H sh) (w1 w2 : Value) : ∃ h' a, X (141, 0, [.ref 26, w1, w2], [], h) = some (some (.int a), h') ∧ Fr [26, 32, 41] [] h h' ∧ RSt W H ar al h' ∧ ((flB W H ar al sh = false ∧ a = -1) ∨ (flB W H ar al sh = true ∧ ∃ G, a = nI G ∧ IsMx W H ar sh G)) := by
  have hs := rs.1.1
  have hm := rs.1.2.1
  have h20 := (okS_1 hm.1).2.2.1
  obtain ⟨g, x1, x2, x3, x4⟩ := s130r rs sm
  have gs := x3.1.1
  have gm := x3.1.2.1
  rw [g141_0 _ _ h hs, x1, bI_s]
  unfold flB
  cases e : lpF W H ar al sh (W * H) 0 0 with
  | none => rw [if_pos (by rfl)]; exact ⟨g, -1, rfl, x2.mono (by simp) (by simp), x3, Or.inl ⟨rfl, rfl⟩⟩
  | some y =>
    have f := fl_H hm.1 (fun c hc => (sm c hc).2) e
    obtain ⟨h', y1, y2, y3⟩ := s137 f ⟨gs, gm, x4⟩ .null .null .null
    have hr := x3.f41 y2
    obtain ⟨G, z1, z2, z3⟩ := s141l f hr.1.2.1 hr.1.1 (x4.fr y2 (by decide)) 40 0 (by omega) 0 (by omega) (fun i hi => absurd hi (Nat.not_lt_zero _)) (Or.inl rfl)
    rw [if_neg sm1, y1, bV_s]
    refine ⟨h', nI G, z1, (x2.mono (by simp) (by simp)).tr (y2.mono (by simp) (by simp)), hr, Or.inr ⟨rfl, G, rfl, fun c hc k hk hp => ?_, ?_⟩⟩
    · obtain ⟨p1, p2, -⟩ := dsP_ok f hc hk hp
      rw [← sz_len f y3 p1]
      obtain ⟨q, hq, e2⟩ := y3.1 _ ((pcF f).1 _ p1)
      rw [e2]
      exact z2 q hq
    · rcases z3 with z3 | ⟨i, hi, z3⟩
      · exact Or.inl z3
      · by_cases q : ∃ c k, c < W * H ∧ k < 2 ∧ k < pcs (sh c) ∧ hI h' 41 (2 * c + k) = nI i
        · obtain ⟨c, k, hc, hk, hp, e2⟩ := q
          obtain ⟨p1, p2, -⟩ := dsP_ok f hc hk hp
          right
          refine ⟨c, k, hc, hk, hp, ?_⟩
          rw [← sz_len f y3 p1, p2, e2, z3]
        · left
          rw [← z3]
          refine sT_0 _ _ (fun c _ hc => ?_)
          refine sT_0 _ _ (fun k _ hk => ?_)
          exact if_neg (fun w => q ⟨c, k, by omega, by omega, w.1, w.2⟩)
end Rl
