/-! the sheet in both; which cell is wrong -/
def SC (h : HP) (W H : Nat) (sh : Nat → Nat) : Prop := ∀ c, c < W * H → hI h 13 c = nI (sh c) ∧ sh c < 10
def SM (h : HP) (W H : Nat) (sh : Nat → Nat) : Prop := ∀ c, c < W * H → hI h 28 c = nI (sh c) ∧ sh c < 10
def rn (W H : Nat) (ar : Bool) (al sh : Nat → Nat) : Nat → Nat → Nat → Nat → Nat × Nat
  | 0, c, _, k => (c, k)
  | r + 1, c, n, k => if (al c).testBit (sh c) = true then (match tr W H ar c n (sh c) with
    | none => (c, k)
    | some q => rn W H ar al sh r (c + 1) q.1 (k + q.2)) else (c, k)
theorem rn_le {W H : Nat} {ar : Bool} {al sh : Nat → Nat} : ∀ (r c n k : Nat), (rn W H ar al sh r c n k).1 ≤ c + r := by
  intro r
  induction r with
  | zero => intro c n k; exact Nat.le_refl _
  | succ r ih =>
    intro c n k
    rw [rn]
    by_cases q : (al c).testBit (sh c) = true
    · rw [if_pos q]
      cases tr W H ar c n (sh c) with
      | none => exact Nat.le_add_right _ _
      | some p => have := ih (c + 1) p.1 (k + p.2); show (rn W H ar al sh r (c + 1) p.1 (k + p.2)).1 ≤ _; omega
    · rw [if_neg q]; exact Nat.le_add_right _ _
section Sh
variable {W H : Nat} {ar : Bool} {h : HP} {al sh : Nat → Nat}
theorem oI_ne {c : Nat} (hc : c < 2 ^ 31) : ¬ oI (some c) = -1 := by
  intro e
  have := nI_pos (n := c) hc
  rw [show nI c = -1 from e] at this
  exact this (by decide)
theorem s53 (hb : BD h W H ar) (hs : SH h) {c : Nat} (hc : c < W * H) : X (53, 0, [.ref 12, .int (nI c)], [], h) = some (some (.int (hI h 13 c)), h) := by
  have hk := okS_1 hb.1
  rw [g53_0 _ h hs, s7c hb hs hc, bI_s, if_neg (by decide), if_pos (inB_nI (by omega) (by decide)), nI_clamp (by omega)]
theorem s53n (hb : BD h W H ar) (hs : SH h) : X (53, 0, [.ref 12, .int (-1)], [], h) = some (some (.int (-1)), h) := by
  have e : ¬ inB (-1) (W * H) = true := fun u => (of_decide_eq_true u) (Or.inl (by decide))
  rw [g53_0 _ h hs, s7 hb hs, bI_s, if_neg e, if_pos rfl]
theorem s54 (hb : BD h W H ar) (hs : SH h) {c t : Nat} (hc : c < W * H) (ht : t < 10) : X (54, 0, [.ref 12, .int (nI c), .int (nI t)], [], h) = some (none, sI h 13 c (nI t)) := by
  have hk := okS_1 hb.1
  rw [g54_0 _ _ h hs, s7c hb hs hc, bI_s, if_neg (by decide), s103 t ht h hs, bI_s, if_neg (by decide), if_pos (inB_nI (by omega) (by decide)), nI_clamp (by omega)]
theorem s95 (hb : BD h W H ar) (hs : SH h) (x y : Int32) (w3 : Value) : X (95, 0, [.ref 5, .int x, .int y, w3], [], h) = some (some (.int (match cAt W H x y with
    | none => -1
    | some c => hI h 13 c)), h) := by
  have hk := okS_1 hb.1
  rw [g95_0 _ _ _ h hs, s11 hb hs, bI_s]
  cases hc : cAt W H x y with
  | none => rw [if_pos (by rfl)]
  | some c =>
    have hlt := cAt_lt (by omega) (by omega) hc
    rw [if_neg (oI_ne (by omega))]
    show bI (X (53, 0, [.ref 12, .int (nI c)], [], h)) _ = _
    rw [s53 hb hs hlt, bI_s]
theorem s128 (hm : MD h W H ar) (hs : SH h) (x y : Int32) : X (128, 0, [.ref 26, .int x, .int y], [], h) = some (some (.int (match cAt W H x y with
    | none => -1
    | some c => hI h 28 c)), h) := by
  have hk := okS_1 hm.1
  rw [g128_0 _ _ h hs, s107 hm hs, bI_s, hm.2.1]
  cases hc : cAt W H x y with
  | none => rfl
  | some c =>
    have hlt := cAt_lt (by omega) (by omega) hc
    rw [if_pos (show (some c).isSome = true from rfl), if_neg (show ¬ (1 : Int32) = 0 by decide), cAt_ix (by omega) (by omega) hc, if_pos (inB_nI (by omega) (by decide)), nI_clamp (by omega)]
/-- put: which cell, if it is one and the tile is one -/
def ptA (W H : Nat) (x y t : Int32) : Option Nat := if inB t 10 = true then cAt W H x y else none
theorem s94 (hb : BD h W H ar) (hs : SH h) (x y t : Int32) (w4 w5 : Value) : X (94, 0, [.ref 5, .int x, .int y, .int t, w4, w5], [], h) = match ptA W H x y t with
    | none => some (some (.int (-1)), h)
    | some c => some (some (.int (hI h 13 c)), sI h 13 c t) := by
  have hk := okS_1 hb.1
  rw [g94_0 _ _ _ _ _ h hs, s11 hb hs, bI_s, s103x _ h hs, bI_s]
  unfold ptA
  cases hc : cAt W H x y with
  | none =>
    rw [if_pos (by rfl)]
    by_cases q : inB t 10 = true
    · rw [if_pos q]
    · rw [if_neg q]
  | some c =>
    have hlt := cAt_lt (by omega) (by omega) hc
    rw [if_neg (oI_ne (by omega))]
    by_cases q : inB t 10 = true
    · rw [if_pos q, if_pos q, if_neg (by decide)]
      obtain ⟨j, hj, rfl⟩ := vp_in_of (inB_in q) (by decide)
      show bI (X (53, 0, [.ref 12, .int (nI c)], [], h)) (fun r3 h3 => bV (X (54, 0, [.ref 12, .int (nI c), .int (nI j)], [], h3)) _) = _
      rw [s53 hb hs hlt, bI_s, s54 hb hs hlt hj, bV_s]
    · rw [if_neg q, if_neg q, if_pos rfl]
theorem s127 (hm : MD h W H ar) (hs : SH h) (x y t : Int32) (w4 : Value) : X (127, 0, [.ref 26, .int x, .int y, .int t, w4], [], h) = match ptA W H x y t with
    | none => some (some (.int (-1)), h)
    | some c => some (some (.int (hI h 28 c)), sI h 28 c t) := by
  have hk := okS_1 hm.1
  rw [g127_0 _ _ _ _ h hs, s107 hm hs, bI_s, hm.2.1]
  unfold ptA
  cases hc : cAt W H x y with
  | none =>
    show some (some (Value.int (-1)), h) = _
    by_cases q : inB t 10 = true
    · rw [if_pos q]
    · rw [if_neg q]
  | some c =>
    have hlt := cAt_lt (by omega) (by omega) hc
    rw [if_pos (show (some c).isSome = true from rfl), if_neg (show ¬ (1 : Int32) = 0 by decide), cAt_ix (by omega) (by omega) hc]
    rcases inB_cases t 10 (by decide) with ⟨q, j, hj, rfl⟩ | ⟨q, u⟩
    · rw [if_pos q, if_neg (nI_pos (by omega)), if_pos (show nI j < 10 from nI_lt hj (by decide)), if_pos (inB_nI (by omega) (by decide)), if_pos (inB_nI (by omega) (by decide)), nI_clamp (by omega)]
    · rw [if_neg q]
      rcases u with u | ⟨u, v⟩
      · rw [if_pos u]
      · rw [if_neg u, if_neg (show ¬ t < 10 from Int32.not_lt.mpr v)]
/-! where the sheet first goes wrong -/
theorem fr0 : nI (fr 0) = 0 := by decide
theorem unp0 {m : Nat → Int32} (hm : ∀ k, 6 ≤ k → m k = 0) : unpM m 0 = mts 0 := by
  have := (F_num (n := 0) (by decide)).2.2.1 m hm
  rw [fr0] at this
  exact this
theorem s55 (hb : BD h W H ar) (hs : SH h) (ha : AL h W H al) (hc : SC h W H sh) (hj : ∀ k, 6 ≤ k → hI h 11 k = 0) (w1 w2 w3 : Value) : ∃ h', X (55, 0, [.ref 12, w1, w2, w3], [], h) = some (some (.int (nI (rn W H ar al sh (W * H) 0 0 0).1)), h') ∧ Fr [11, 12] [] h h' ∧ hI h' 12 4 = nI (rn W H ar al sh (W * H) 0 0 0).2 ∧ ∀ k, 6 ≤ k → hI h' 11 k = 0 := by
  have hk := okS_1 hb.1
  have key : ∀ (r c : Nat), c + r = W * H → ∀ (n k : Nat) (h : HP) (w3 : Value), BD h W H ar → SH h → AL h W H al → SC h W H sh → hI h 11 = mts n → n < 76 → inL W H ar c n = true → hI h 12 4 = nI k → ∃ h', X (55, 22, [.ref 12, .int (nI (W * H)), .int (nI c), w3], [], h) = some (some (.int (nI (rn W H ar al sh r c n k).1)), h') ∧ Fr [11, 12] [] h h' ∧ hI h' 12 4 = nI (rn W H ar al sh r c n k).2 ∧ ∀ k, 6 ≤ k → hI h' 11 k = 0 := by
    intro r
    induction r with
    | zero =>
      intro c hcr n k h w3 hb hs ha hsc h11 hn hl h12
      refine ⟨h, ?_, Fr.rf, h12, fun j hj => by rw [h11]; exact mts_hi n hj⟩
      have : c = W * H := by omega
      subst this
      rw [g55_22 _ _ _ h hs, if_pos (nI_le (by omega) (by omega))]
      rfl
    | succ r ih =>
      intro c hcr n k h w3 hb hs ha hsc h11 hn hl h12
      have hlt : c < W * H := by omega
      obtain ⟨e13, ht⟩ := hsc c hlt
      rw [g55_22 _ _ _ h hs, if_neg (nI_ge hlt (by omega)), s53 hb hs hlt, bI_s, e13, s16 hb hs ha hlt ht, bI_s, rn]
      by_cases q : (al c).testBit (sh c) = true
      · rw [if_pos q, q, if_neg (by decide), s30 hb hs hlt ht, bI_s, h11]
        cases htr : tr W H ar c n (sh c) with
        | none =>
          rw [if_neg (T_none hb.1 hlt hn hl ht htr), if_pos rfl]
          exact ⟨h, rfl, Fr.rf, h12, fun j hj => by rw [h11]; exact mts_hi n hj⟩
        | some p =>
          obtain ⟨n', k'⟩ := p
          obtain ⟨t1, t2, t3, t4, t5, t6⟩ := T_some hb.1 hlt hn hl ht htr
          have t7 := T_M hb.1 hlt hn hl ht htr
          rw [if_pos t1, if_neg (by decide), s33 hb hs hlt ht, bI_s, h11, t5, t7, h12, nI_add, nI_1]
          have f : Fr [11, 12] [] h (sI (sA h 11 (mts n')) 12 4 (nI (k + k'))) := (Fr.sA (by decide)).tr (Fr.sI (by decide))
          obtain ⟨h', x1, x2, x3, x4⟩ := ih (c + 1) (by omega) n' (k + k') (sI (sA h 11 (mts n')) 12 4 (nI (k + k'))) (.int (nI (sh c))) (hb.fr f (by decide) (by decide) (by decide)) (f.sh hs (by decide)) (fun d hd => by rw [f.2.2.2.2.2.1 7 (by decide)]; exact ha d hd) (fun d hd => by rw [f.2.2.2.2.2.1 13 (by decide)]; exact hsc d hd) (by rw [hI_sI_o _ _ _ (by decide), hI_sA_same]) t2 t3 (hI_sI_same _ _ _ _)
          exact ⟨h', x1, f.tr x2, x3, x4⟩
      · have q' : (al c).testBit (sh c) = false := by simpa using q
        rw [if_neg q, q', if_pos (by decide)]
        exact ⟨h, rfl, Fr.rf, h12, fun j hj => by rw [h11]; exact mts_hi n hj⟩
  rw [g55_0 _ _ _ h hs, s6 hb hs, bI_s, s21 h hs, bV_s, unp0 hj]
  have f : Fr [11, 12] [] h (sI (sA h 11 (mts 0)) 12 4 0) := (Fr.sA (by decide)).tr (Fr.sI (by decide))
  obtain ⟨h', x1, x2, x3, x4⟩ := key (W * H) 0 (by omega) 0 0 (sI (sA h 11 (mts 0)) 12 4 0) w3 (hb.fr f (by decide) (by decide) (by decide)) (f.sh hs (by decide)) (fun d hd => by rw [f.2.2.2.2.2.1 7 (by decide)]; exact ha d hd) (fun d hd => by rw [f.2.2.2.2.2.1 13 (by decide)]; exact hc d hd) (by rw [hI_sI_o _ _ _ (by decide), hI_sA_same]) (by decide) (T_0 hb.1) (hI_sI_same _ _ _ _)
  exact ⟨h', x1, f.tr x2, x3, x4⟩
theorem bI_oBt (h : HP) (p : M2) (k : Int32 → HP → RS) : bI (oB h (some (true, p))) k = k 1 (wM h p) := rfl
theorem bI_oBf (h : HP) (p : M2) (k : Int32 → HP → RS) : bI (oB h (some (false, p))) k = k 0 (wM h p) := rfl
theorem s129 (hm : MD h W H ar) (hs : SH h) (ha : AM h W H al) (hc : SM h W H sh) (hj : ∀ k, 10 ≤ k → hI h 32 k = 0) (w1 : Value) : ∃ h', X (129, 0, [.ref 26, w1], [], h) = some (some (.int (nI (rn W H ar al sh (W * H) 0 0 0).1)), h') ∧ Fr [26, 32] [] h h' ∧ (∀ j, j ≠ 10 → j ≠ 18 → hI h' 26 j = hI h 26 j) ∧ hI h' 26 18 = nI (rn W H ar al sh (W * H) 0 0 0).2 ∧ ∀ k, 10 ≤ k → hI h' 32 k = 0 := by
  have hk := okS_1 hm.1
  have fW : ∀ (h : HP) (q : M2), Fr [26, 32] [] h (wM h q) := fun h q => (Fr.sA (by decide)).tr (Fr.sA (by decide))
  have key : ∀ (r c : Nat), c + r = W * H → ∀ (n k : Nat) (h : HP), MD h W H ar → SH h → AM h W H al → SM h W H sh → hI h 32 = mt10 (phi W ar c n) → n < 76 → inL W H ar c n = true → hI h 26 18 = nI k → ∃ h', X (129, 12, [.ref 26, .int (nI c)], [], h) = some (some (.int (nI (rn W H ar al sh r c n k).1)), h') ∧ Fr [26, 32] [] h h' ∧ (∀ j, j ≠ 10 → j ≠ 18 → hI h' 26 j = hI h 26 j) ∧ hI h' 26 18 = nI (rn W H ar al sh r c n k).2 ∧ ∀ k, 10 ≤ k → hI h' 32 k = 0 := by
    intro r
    induction r with
    | zero =>
      intro c hcr n k h hm hs ha hsc h32 hn hl h18
      refine ⟨h, ?_, Fr.rf, fun _ _ _ => rfl, h18, fun j hj => by rw [h32]; exact mt10_hi _ hj⟩
      have : c = W * H := by omega
      subst this
      rw [g129_12 _ h hs, s106 hm hs, bI_s, if_pos (nI_le (by omega) (by omega)), s106 hm hs, bI_s]
      rfl
    | succ r ih =>
      intro c hcr n k h hm hs ha hsc h32 hn hl h18
      have hlt : c < W * H := by omega
      obtain ⟨e28, ht⟩ := hsc c hlt
      rw [g129_12 _ h hs, s106 hm hs, bI_s, if_neg (nI_ge hlt (by omega)), if_pos (inB_nI (by omega) (by decide)), nI_clamp (by omega), e28, s117 hm hs hlt ht, (ha c hlt).1, bit10 _ (ha c hlt).2 _ ht, rn]
      by_cases q : (al c).testBit (sh c) = true
      · rw [if_pos q, q, if_neg (by decide), h32]
        cases htr : tr W H ar c n (sh c) with
        | none =>
          obtain ⟨p, hp⟩ := V_none hm.1 hlt hn hl ht htr
          rw [hp]
          refine ⟨wM h p, rfl, fW h p, fun j h1 _ => hI_wM26 h p h1, by rw [hI_wM26 _ _ (by decide)]; exact h18, fun j hj => ?_⟩
          rw [hI_wM32, cmO_h hp hj]; exact mt10_hi _ hj
        | some p =>
          obtain ⟨n', k'⟩ := p
          obtain ⟨p, hp, p2, p3⟩ := V_some hm.1 hlt hn hl ht htr
          obtain ⟨t1, t2, t3, -⟩ := T_some hm.1 hlt hn hl ht htr
          rw [hp, bI_oBt, if_neg (by decide), if_pos (by decide), if_pos (by decide)]
          have e18 : hI (wM h p) 26 18 = nI k := by rw [hI_wM26 _ _ (by decide)]; exact h18
          have e10 : hI (wM h p) 26 10 = nI k' := by
            have := congrArg Prod.snd (mq_wM h p)
            exact this.trans p2
          rw [e18, e10, nI_add, nI_1]
          generalize hg : sI (sI (sI (wM h p) 26 18 (nI (k + k'))) 32 (8 : Int32).toNatClampNeg (-1)) 32 (9 : Int32).toNatClampNeg (-1) = g
          have f : Fr [26, 32] [] h g := by
            rw [← hg]
            exact (((fW h p).tr (Fr.sI (by decide))).tr (Fr.sI (by decide))).tr (Fr.sI (by decide))
          have g26 : ∀ j, hI g 26 j = if j = 18 then nI (k + k') else hI (wM h p) 26 j := by
            intro j
            rw [← hg, hI_sI_o _ _ _ (by decide), hI_sI_o _ _ _ (by decide), hI_sI, if_pos rfl]
            rfl
          have g32 : hI g 32 = mt10 (phi W ar (c + 1) n') := by
            rw [← hg, hI_sI, if_pos rfl, hI_sI, if_pos rfl, hI_sI_o _ _ _ (by decide), hI_wM32]
            funext j
            have c8 : (8 : Int32).toNatClampNeg = 8 := by decide
            have c9 : (9 : Int32).toNatClampNeg = 9 := by decide
            rw [c8, c9]
            unfold upd
            by_cases u9 : j = 9
            · rw [if_pos u9, mt10_89 _ (by omega) (by omega)]
            rw [if_neg u9]
            by_cases u8 : j = 8
            · rw [if_pos u8, mt10_89 _ (by omega) (by omega)]
            rw [if_neg u8]
            rcases Nat.lt_or_ge j 8 with u | u
            · exact p3 j u
            · rw [cmO_h hp (by omega), mt10_hi _ (by omega), mt10_hi _ (by omega)]
          have g26' : ∀ j, j ≠ 10 → j ≠ 18 → hI g 26 j = hI h 26 j := by
            intro j h1 h2
            rw [g26, if_neg h2, hI_wM26 _ _ h1]
          obtain ⟨h', x1, x2, x3, x4, x5⟩ := ih (c + 1) (by omega) n' (k + k') g (hm.fr f (g26' 0 (by decide) (by decide)) (g26' 1 (by decide) (by decide)) (g26' 2 (by decide) (by decide)) (by decide) (by decide) (by decide)) (f.sh hs (by decide)) (fun d hd => by rw [f.2.2.2.2.2.1 27 (by decide)]; exact ha d hd) (fun d hd => by rw [f.2.2.2.2.2.1 28 (by decide)]; exact hsc d hd) g32 t2 t3 (by rw [g26, if_pos rfl])
          exact ⟨h', x1, f.tr x2, fun j h1 h2 => (x3 j h1 h2).trans (g26' j h1 h2), x4, x5⟩
      · have q' : (al c).testBit (sh c) = false := by simpa using q
        rw [if_neg q, q', if_pos (by decide), bI_s, if_pos rfl]
        refine ⟨wM h (hI h 32, 0), rfl, fW h _, fun j h1 _ => hI_wM26 h _ h1, by rw [hI_wM26 _ _ (by decide)]; exact h18, fun j hj => ?_⟩
        rw [hI_wM32]
        show hI h 32 j = 0
        rw [h32]; exact mt10_hi _ hj
  have e0 : opnM (hI h 32) 0 = mt10 (phi W ar 0 0) := by
    have := opnM_phi hm.1 (c := 0) (n := 0) (by omega) (by decide) (T_0 hm.1) hj
    rw [V_0 hm.1] at this
    rw [V_0 hm.1]
    exact this
  rw [g129_0 _ h hs, s112 _ _ h hs, bV_s, e0]
  have f : Fr [26, 32] [] h (sI (sA h 32 (mt10 (phi W ar 0 0))) 26 18 0) := (Fr.sA (by decide)).tr (Fr.sI (by decide))
  have e26 : ∀ j, j ≠ 18 → hI (sI (sA h 32 (mt10 (phi W ar 0 0))) 26 18 0) 26 j = hI h 26 j := by
    intro j hj
    rw [hI_sI_ne _ _ hj, hI_sA_ne _ _ (by decide)]
  obtain ⟨h', x1, x2, x3, x4, x5⟩ := key (W * H) 0 (by omega) 0 0 (sI (sA h 32 (mt10 (phi W ar 0 0))) 26 18 0) (hm.fr f (e26 0 (by decide)) (e26 1 (by decide)) (e26 2 (by decide)) (by decide) (by decide) (by decide)) (f.sh hs (by decide)) (fun d hd => by rw [f.2.2.2.2.2.1 27 (by decide)]; exact ha d hd) (fun d hd => by rw [f.2.2.2.2.2.1 28 (by decide)]; exact hc d hd) (by rw [hI_sI_o _ _ _ (by decide), hI_sA_same]) (by decide) (T_0 hm.1) (hI_sI_same _ _ _ _)
  exact ⟨h', x1, f.tr x2, fun j h1 h2 => (x3 j h1 h2).trans (e26 j h2), x4, x5⟩
end Sh
