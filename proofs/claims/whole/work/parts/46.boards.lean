/-! board, in both -/
def cmB (a0 a1 a2 : Int32) : Bool := if a0 < 1 then false else if 5 < a0 then false else if a1 < 1 then false else if 5 < a1 then false else if 20 < (a0 * a1) then false else if a2 = 0 then true else if (a0 - a0 / 2 * 2) = 1 then false else if (a1 - a1 / 2 * 2) = 1 then false else true
theorem cmB_ok (w v : Int32) (ar : Bool) : cmB w v (aI ar) = okI w v ar := by
  unfold okI
  rcases inB_cases w 6 (by decide) with ⟨hw, j, hj, rfl⟩ | ⟨hw, q⟩
  · rcases inB_cases v 6 (by decide) with ⟨hv, i, hi, rfl⟩ | ⟨hv, q⟩
    · rw [hw, hv, nI_clamp (by omega), nI_clamp (by omega)]
      have d : ∀ j, j < 6 → ∀ i, i < 6 → ∀ ar, cmB (nI j) (nI i) (aI ar) = (true && (true && okS j i ar)) := by decide +kernel
      exact d j hj i hi ar
    · have e : inB v 6 = false := by simpa using hv
      rw [hw, e]
      show _ = false
      unfold cmB
      by_cases c1 : nI j < 1
      · rw [if_pos c1]
      rw [if_neg c1]
      by_cases c2 : 5 < nI j
      · rw [if_pos c2]
      rw [if_neg c2]
      rcases out6 q with q | q
      · rw [if_pos q]
      · by_cases c3 : v < 1
        · rw [if_pos c3]
        · rw [if_neg c3, if_pos q]
  · have e : inB w 6 = false := by simpa using hw
    rw [e]
    show _ = false
    unfold cmB
    rcases out6 q with q | q
    · rw [if_pos q]
    · by_cases c3 : w < 1
      · rw [if_pos c3]
      · rw [if_neg c3, if_pos q]
theorem s105x (a0 a1 a2 : Int32) (w4 : Value) (h : HP) (hs : SH h) : X (105, 0, [.ref 26, .int a0, .int a1, .int a2, w4], [], h) = if cmB a0 a1 a2 = true then X (105, 48, [.ref 26, .int a0, .int a1, .int a2, w4], [], h) else some (some (.int 0), h) := by
  rw [g105_0 _ _ _ _ h hs]
  unfold cmB
  have ff : ¬ (false = true) := by decide
  by_cases c1 : a0 < 1
  · rw [if_pos c1, if_pos c1, if_neg ff]
  rw [if_neg c1, if_neg c1]
  by_cases c2 : 5 < a0
  · rw [if_pos c2, if_pos c2, if_neg ff]
  rw [if_neg c2, if_neg c2]
  by_cases c3 : a1 < 1
  · rw [if_pos c3, if_pos c3, if_neg ff]
  rw [if_neg c3, if_neg c3]
  by_cases c4 : 5 < a1
  · rw [if_pos c4, if_pos c4, if_neg ff]
  rw [if_neg c4, if_neg c4]
  by_cases c5 : 20 < a0 * a1
  · rw [if_pos c5, if_pos c5, if_neg ff]
  rw [if_neg c5, if_neg c5]
  by_cases c6 : a2 = 0
  · rw [if_pos c6, if_pos c6, if_pos rfl]
  rw [if_neg c6, if_neg c6]
  by_cases c7 : a0 - a0 / 2 * 2 = 1
  · rw [if_pos c7, if_pos c7, if_neg ff]
  rw [if_neg c7, if_neg c7]
  by_cases c8 : a1 - a1 / 2 * 2 = 1
  · rw [if_pos c8, if_pos c8, if_neg ff]
  rw [if_neg c8, if_neg c8, if_pos rfl]
section Bx
variable {W H : Nat} {ar : Bool}
/-- the reference's tables of tiles -/
def MTb (h : HP) : Prop := (∀ t, t < 10 → hI h 29 t = pcT t) ∧ (∀ k, k < 20 → hI h 30 k = saT k) ∧ ∀ k, k < 20 → hI h 31 k = sbT k
theorem s105 (hk : okS W H ar = true) (w4 : Value) (h : HP) (hs : SH h) (ht : MTb h) : ∃ h', X (105, 0, [.ref 26, .int (nI W), .int (nI H), .int (aI ar), w4], [], h) = some (some (.int 1), h') ∧ Fr [26, 27, 28] [] h h' ∧ MD h' W H ar ∧ hI h' 26 5 = 0 ∧ ∀ c, c < 20 → hI h' 27 c = 1023 ∧ hI h' 28 c = 0 := by
  obtain ⟨⟨w1, w2⟩, ⟨h1, h2⟩, h3, h4⟩ := okS_1 hk
  have ok : cmB (nI W) (nI H) (aI ar) = true := by
    rw [cmB_ok]
    unfold okI
    rw [inB_nI (by omega) (by decide), inB_nI (by omega) (by decide), nI_clamp (by omega), nI_clamp (by omega), hk]
    rfl
  have a01 : aI ar = 0 ∨ aI ar = 1 := by cases ar <;> decide
  have key : ∀ (n j : Nat), j + n = 20 → ∀ (u1 u2 u3 : Value) (h : HP), SH h → (∀ c, c < j → hI h 27 c = 1023 ∧ hI h 28 c = 0) → ∃ h', X (105, 66, [.ref 26, u1, u2, u3, .int (nI j)], [], h) = some (some (.int 1), h') ∧ Fr [26, 27, 28] [] h h' ∧ (∀ i, i ≠ 5 → hI h' 26 i = hI h 26 i) ∧ hI h' 26 5 = 0 ∧ ∀ c, c < 20 → hI h' 27 c = 1023 ∧ hI h' 28 c = 0 := by
    intro n
    induction n with
    | zero =>
      intro j hj u1 u2 u3 h hs hd
      have : j = 20 := by omega
      subst this
      refine ⟨sI h 26 5 0, ?_, Fr.sI (by decide), fun i hi => hI_sI_ne _ _ hi, hI_sI_same _ _ _ _, fun c hc => ?_⟩
      · rw [g105_66 _ _ _ _ h hs, if_pos (show (20 : Int32) ≤ nI 20 from by decide)]
      · rw [hI_sI_o _ _ _ (by decide), hI_sI_o _ _ _ (by decide)]; exact hd c hc
    | succ n ih =>
      intro j hj u1 u2 u3 h hs hd
      have n20 : ¬ (20 : Int32) ≤ nI j := nI_ge (show j < 20 by omega) (by decide)
      have ib : inB (nI j) 20 = true := inB_nI (by omega) (by decide)
      have f : Fr [26, 27, 28] [] h (sI (sI h 27 j 1023) 28 j 0) := (Fr.sI (by decide)).tr (Fr.sI (by decide))
      obtain ⟨h', x1, x2, x3, x4, x5⟩ := ih (j + 1) (by omega) u1 u2 (nl u3) (sI (sI h 27 j 1023) 28 j 0) (f.sh hs (by decide)) (by
        intro c hc
        rw [hI_sI_o _ (o := 28) _ _ (show (27 : Nat) ≠ 28 by decide)]
        by_cases q : c = j
        · subst q
          rw [hI_sI_same, hI_sI_same]; exact ⟨rfl, rfl⟩
        · rw [hI_sI_ne _ _ q, hI_sI_ne _ _ q, hI_sI_o _ _ _ (show (28 : Nat) ≠ 27 by decide)]
          exact hd c (by omega))
      refine ⟨h', ?_, f.tr x2, fun i hi => (x3 i hi).trans (by rw [hI_sI_o _ _ _ (by decide), hI_sI_o _ _ _ (by decide)]), x4, x5⟩
      rw [g105_66 _ _ _ _ h hs, if_neg n20, if_pos ib, if_pos ib, nI_clamp (by omega), nI_1]
      exact x1
  have f : Fr [26, 27, 28] [] h (sI (sI (sI h 26 0 (nI W)) 26 1 (nI H)) 26 2 (aI ar)) := ((Fr.sI (by decide)).tr (Fr.sI (by decide))).tr (Fr.sI (by decide))
  obtain ⟨h', x1, x2, x3, x4, x5⟩ := key 20 0 (by omega) (.int (nI W)) (.int (nI H)) (.int (aI ar)) _ (f.sh hs (by decide)) (fun c hc => absurd hc (by omega))
  have F := f.tr x2
  refine ⟨h', ?_, F, ⟨hk, ?_, ?_, ?_, fun t q => ?_, fun k q => ?_, fun k q => ?_⟩, x4, x5⟩
  · rw [s105x _ _ _ _ h hs, if_pos ok, g105_48 _ _ _ _ h hs, if_pos a01]
    exact x1
  · rw [x3 0 (by decide), hI_sI_ne _ _ (by decide), hI_sI_ne _ _ (by decide), hI_sI_same]
  · rw [x3 1 (by decide), hI_sI_ne _ _ (by decide), hI_sI_same]
  · rw [x3 2 (by decide), hI_sI_same]
  · rw [F.2.2.2.2.2.1 29 (by decide)]; exact ht.1 t q
  · rw [F.2.2.2.2.2.1 30 (by decide)]; exact ht.2.1 k q
  · rw [F.2.2.2.2.2.1 31 (by decide)]; exact ht.2.2 k q
theorem s105n {w v : Int32} (hk : okI w v ar = false) (w4 : Value) (h : HP) (hs : SH h) : X (105, 0, [.ref 26, .int w, .int v, .int (aI ar), w4], [], h) = some (some (.int 0), h) := by
  have e := cmB_ok w v ar
  rw [hk] at e
  rw [s105x _ _ _ _ h hs, e, if_neg (by decide)]
theorem s86n {w v : Int32} (hk : okI w v ar = false) (h : HP) (hs : SH h) : X (86, 0, [.ref 5, .int w, .int v, .int (aI ar)], [], h) = some (some (.int 0), h) := by
  have e := cbI_ok w v ar
  rw [hk] at e
  rw [g86_0 _ _ _ h hs, s1 _ _ _ h hs, bI_s, e, if_pos (by decide)]
theorem s86 (hk : okS W H ar = true) (h : HP) (hs : SH h) : ∃ h', X (86, 0, [.ref 5, .int (nI W), .int (nI H), .int (aI ar)], [], h) = some (some (.int 1), h') ∧ Fr [6, 7, 8, 9, 13, 15] [] h h' ∧ BD h' W H ar ∧ (∀ c, c < 20 → hI h' 7 c = 1023 ∧ hI h' 13 c = 0) ∧ hI h' 15 7 = nI 21 ∧ ∀ j, j ≠ 7 → hI h' 15 j = hI h 15 j := by
  obtain ⟨⟨w1, w2⟩, ⟨h1, h2⟩, h3, h4⟩ := okS_1 hk
  have ok : cbI (nI W) (nI H) (aI ar) = 1 := by
    rw [cbI_ok]
    unfold okI
    rw [inB_nI (by omega) (by decide), inB_nI (by omega) (by decide), nI_clamp (by omega), nI_clamp (by omega), hk]
    rfl
  obtain ⟨ha, a1, a2, a3, a4⟩ := s3 hk .null h hs
  have hsa := a2.sh hs (by decide)
  obtain ⟨hb, b1, b2, b3⟩ := s52 .null ha hsa
  have hsb := b2.sh hsa (by decide)
  have F1 : Fr [6, 7, 8, 9, 13, 15] [] h ha := a2.mono (by decide) (by decide)
  have F2 : Fr [6, 7, 8, 9, 13, 15] [] ha hb := b2.mono (by decide) (by decide)
  have F3 : Fr [6, 7, 8, 9, 13, 15] [] hb (sI hb 15 7 21) := Fr.sI (by decide)
  have F4 : Fr [15] [] hb (sI hb 15 7 21) := Fr.sI (by decide)
  refine ⟨sI hb 15 7 21, ?_, (F1.tr F2).tr F3, ((a3.fr b2 (by decide) (by decide) (by decide)).fr F4 (by decide) (by decide) (by decide)), fun c hc => ?_, hI_sI_same _ _ _ _, fun j hj => ?_⟩
  · rw [g86_0 _ _ _ h hs, s1 _ _ _ h hs, bI_s, ok, if_neg (by decide), a1, bV_s, b1, bV_s, g68_0 _ hsb, bV_s]
  · rw [hI_sI_o _ _ _ (by decide), hI_sI_o _ _ _ (by decide), b2.2.2.2.2.2.1 7 (by decide)]
    exact ⟨a4 c hc, b3 c hc⟩
  · rw [hI_sI_ne _ _ hj, b2.2.2.2.2.2.1 15 (by decide), a2.2.2.2.2.2.1 15 (by decide)]
end Bx
