/-! moves read; rows of ways -/
section Rd
variable {W H : Nat} {ar : Bool} {h : HP}
theorem s45 (hs : SH h) {qm c : Nat} (hk : okS W H ar = true) (m : MOK h qm W H ar) (hc : c ≤ W * H) : X (45, 0, [.ref 16, .int (nI c)], [], h) = some (some (.int (nI (mvA W H ar c).length)), h) := by
  have h20 := (okS_1 hk).2.2.1
  rw [g45_0 _ h hs, if_neg (nI_pos (by omega)), if_pos (show nI c ≤ 20 from nI_le (show c ≤ 20 by omega) (by decide)), if_pos (inB_nI (by omega) (by decide)), nI_clamp (by omega), m.2.2.2.2 c hc]
theorem s46 (hs : SH h) {qm p : Nat} {acc : List Mv} {mm : Mv} (m : MV h qm acc) (hp : acc[p]? = some mm) : X (46, 0, [.ref 16, .int (nI p)], [], h) = some (some (.int (nI (enc mm))), h) := by
  obtain ⟨m1, m2, m3, m4, m5, m6, m7, m8⟩ := m
  have hl : p < acc.length := by
    rcases Nat.lt_or_ge p acc.length with u | u
    · exact u
    · rw [List.getElem?_eq_none u] at hp; cases hp
  rw [g46_0 _ h hs, if_neg (nI_pos (by omega)), m1]
  show (if hK h qm = 10 ∨ hK h qm = 11 ∨ hK h qm = 12 ∨ hK h qm = 13 then (if nI p < nI (hN h qm) then (if (hK h qm = 10 ∨ hK h qm = 13) ∧ inB (nI p) (hN h qm) = true then some (some (Value.int (hI h qm (nI p).toNatClampNeg)), h) else none) else _) else none) = _
  have c : (hK h qm = 10 ∨ hK h qm = 13) ∧ inB (nI p) (hN h qm) = true := ⟨Or.inl m4, inB_nI (by omega) (by omega)⟩
  rw [if_pos (Or.inl m4), if_pos (nI_lt (by omega) (by omega)), if_pos c, nI_clamp (by omega), m8 p mm hp]
theorem s47 (hs : SH h) {qm p : Nat} {acc : List Mv} {mm : Mv} (m : MV h qm acc) (hp : acc[p]? = some mm) (ok : okM mm) : X (47, 0, [.ref 16, .int (nI p)], [], h) = some (some (.int (nI mm.1)), h) := by
  rw [g47_0 _ h hs, s46 hs m hp, bI_s, dec_n ok]
theorem s48 (hs : SH h) {qm p : Nat} {acc : List Mv} {mm : Mv} (m : MV h qm acc) (hp : acc[p]? = some mm) (ok : okM mm) : X (48, 0, [.ref 16, .int (nI p)], [], h) = some (some (.int (nI mm.2.2.1)), h) := by
  rw [g48_0 _ h hs, s46 hs m hp, bI_s, dec_m ok]
theorem s49 (hs : SH h) {qm p : Nat} {acc : List Mv} {mm : Mv} (m : MV h qm acc) (hp : acc[p]? = some mm) (ok : okM mm) : X (49, 0, [.ref 16, .int (nI p)], [], h) = some (some (.int (nI mm.2.1)), h) := by
  rw [g49_0 _ h hs, s46 hs m hp, bI_s, dec_t ok]
theorem s50 (hs : SH h) {qm p : Nat} {acc : List Mv} {mm : Mv} (m : MV h qm acc) (hp : acc[p]? = some mm) (ok : okM mm) : X (50, 0, [.ref 16, .int (nI p)], [], h) = some (some (.int (nI mm.2.2.2)), h) := by
  rw [g50_0 _ h hs, s46 hs m hp, bI_s, dec_k ok]
/-- where the moves of a cell lie among all -/
theorem mvA_pre : ∀ (r c : Nat), ∃ t, mvA W H ar (c + r) = mvA W H ar c ++ t := by
  intro r
  induction r with
  | zero => intro c; exact ⟨[], (List.append_nil _).symm⟩
  | succ r ih =>
    intro c
    obtain ⟨t, e⟩ := ih c
    exact ⟨t ++ mvs W H ar (c + r), by rw [← Nat.add_assoc, mvA, e, List.append_assoc]⟩
theorem mvA_at {c N i : Nat} {m : Mv} (hc : c < N) (h : (mvs W H ar c)[i]? = some m) : (mvA W H ar N)[(mvA W H ar c).length + i]? = some m := by
  obtain ⟨t, e⟩ := mvA_pre (W := W) (H := H) (ar := ar) (N - (c + 1)) (c + 1)
  have hN : c + 1 + (N - (c + 1)) = N := by omega
  rw [hN] at e
  rw [e, mvA, List.append_assoc, List.getElem?_append_right (Nat.le_add_right _ _), Nat.add_sub_cancel_left]
  have hl : i < (mvs W H ar c).length := by
    rcases Nat.lt_or_ge i (mvs W H ar c).length with u | u
    · exact u
    · rw [List.getElem?_eq_none u] at h; cases h
  rw [List.getElem?_append_left hl]
  exact h
theorem mvA_succ (c : Nat) : (mvA W H ar (c + 1)).length = (mvA W H ar c).length + (mvs W H ar c).length := by
  rw [mvA, List.length_append]
/-- the array of ways -/
def WV (h : HP) (qw : Nat) : Prop := hR h 15 3 = some qw ∧ (qw = 23 ∨ 42 ≤ qw) ∧ qw < hZ h ∧ hK h qw = 11 ∧ hN h qw ≤ 20748
def px (F c n l : Nat) : Nat := (c * F + n) * 13 + l
theorem s76 (hs : SH h) {F : Nat} (hF : hI h 15 6 = nI F) (c n l : Nat) : X (76, 0, [.ref 15, .int (nI c), .int (nI n), .int (nI l)], [], h) = some (some (.int (nI (px F c n l))), h) := by
  rw [g76_0 _ _ _ h hs, hF, pk_mul, nI_add, show (13 : Int32) = nI 13 from rfl, pk_mul, nI_add]
  rfl
theorem s77 (hs : SH h) {c : Nat} (hc : c ≤ 20) : X (77, 0, [.ref 15, .int (nI c)], [], h) = some (some (.int (hI h 22 c)), h) := by
  rw [g77_0 _ h hs, if_neg (nI_pos (by omega)), if_pos (show nI c ≤ 20 from nI_le hc (by decide)), if_pos (inB_nI (by omega) (by decide)), nI_clamp (by omega)]
theorem hL_sL_same (h : HP) (o k : Nat) (v : Int64) : hL (sL h o k v) o k = v := by
  rw [hL_sL, if_pos rfl]; exact pk_uLs
theorem hL_sL_ne (h : HP) {o k j : Nat} (v : Int64) (hj : j ≠ k) : hL (sL h o k v) o j = hL h o j := by
  rw [hL_sL, if_pos rfl]; exact pk_uLn hj
theorem shL {h : HP} (hs : SH h) {o k : Nat} {v : Int64} : SH (sL h o k v) := by
  obtain ⟨s0, s1, s2, s3, s4⟩ := hs
  exact ⟨s0, s1, s2, s3, s4⟩
theorem WV.fr {S T : List Nat} {h' : HP} {qw : Nat} (w : WV h qw) (f : Fr S T h h') : WV h' qw := by
  obtain ⟨a1, a2, a3, a4, a5⟩ := w
  exact ⟨by rw [f.2.2.1]; exact a1, a2, by rw [f.2.2.2.1]; exact a3, by rw [f.1]; exact a4, by rw [f.2.1]; exact a5⟩
/-- a stretch of the ways is cleared -/
theorem s75 (hs : SH h) {F qw c : Nat} (hF : hI h 15 6 = nI F) (w : WV h qw) (hr : px F (c + 1) 0 0 ≤ hN h qw) (w2 w3 : Value) : ∃ h', X (75, 0, [.ref 15, .int (nI c), w2, w3], [], h) = some (none, h') ∧ Fr [] [qw] h h' ∧ SH h' ∧ ∀ p, hL h' qw p = if px F c 0 0 ≤ p ∧ p < px F (c + 1) 0 0 then 0 else hL h qw p := by
  have w' := w
  obtain ⟨a1, a2, a3, a4, a5⟩ := w
  have key : ∀ (n j : Nat), j + n = px F (c + 1) 0 0 → ∀ (h : HP) (w1 : Value), SH h → WV h qw → px F (c + 1) 0 0 ≤ hN h qw → ∃ h', X (75, 30, [.ref 15, w1, .int (nI (px F (c + 1) 0 0)), .int (nI j)], [], h) = some (none, h') ∧ Fr [] [qw] h h' ∧ SH h' ∧ ∀ p, hL h' qw p = if j ≤ p ∧ p < px F (c + 1) 0 0 then 0 else hL h qw p := by
    intro n
    induction n with
    | zero =>
      intro j hj h w1 hs w hr
      refine ⟨h, ?_, Fr.rf, hs, fun p => by rw [if_neg (by omega)]⟩
      rw [g75_30 _ _ _ h hs, if_pos (nI_le (by omega) (by have := w.2.2.2.2; omega))]
    | succ n ih =>
      intro j hj h w1 hs w hr
      have w' := w
      obtain ⟨a1, a2, a3, a4, a5⟩ := w
      have f1 : Fr [] [qw] h (sL h qw j 0) := Fr.sL (by simp)
      obtain ⟨h', x1, x2, x3, x4⟩ := ih (j + 1) (by omega) (sL h qw j 0) w1 (shL hs) (w'.fr f1) hr
      refine ⟨h', ?_, f1.tr x2, x3, fun p => ?_⟩
      · rw [g75_30 _ _ _ h hs, if_neg (nI_ge (by omega) (by omega)), a1]
        show (if hK h qw = 11 ∧ inB (nI j) (hN h qw) = true then _ else none) = _
        have cc : hK h qw = 11 ∧ inB (nI j) (hN h qw) = true := ⟨a4, inB_nI (by omega) (by omega)⟩
        rw [if_pos cc, nI_clamp (by omega), nI_1]
        exact x1
      · rw [x4]
        by_cases u : p = j
        · subst u
          rw [if_neg (by omega), if_pos (by omega), hL_sL_same]
        · rw [hL_sL_ne _ _ u]
          by_cases v : j ≤ p ∧ p < px F (c + 1) 0 0
          · rw [if_pos v, if_pos (by omega)]
          · rw [if_neg v, if_neg (by omega)]
  have le : px F c 0 0 ≤ px F (c + 1) 0 0 := by
    unfold px
    have : c * F ≤ (c + 1) * F := Nat.mul_le_mul_right F (by omega)
    omega
  rw [g75_0 _ _ _ h hs, nI_1]
  show ∃ h', bI (X (76, 0, [.ref 15, .int (nI (c + 1)), .int (nI 0), .int (nI 0)], [], h)) _ = _ ∧ _
  rw [s76 hs hF, bI_s, a1]
  show ∃ h', (if hK h qw = 10 ∨ hK h qw = 11 ∨ hK h qw = 12 ∨ hK h qw = 13 then bI (X (76, 0, [.ref 15, .int (nI c), .int (nI 0), .int (nI 0)], [], h)) _ else none) = _ ∧ _
  rw [if_pos (Or.inr (Or.inl a4)), s76 hs hF, bI_s, if_neg (nI_nlt hr (by omega)), if_neg (nI_pos (by omega))]
  exact key (px F (c + 1) 0 0 - px F c 0 0) (px F c 0 0) (by omega) h _ hs w' hr
/-- ways of one move added -/
theorem s74l (hs : SH h) {qw A B L : Nat} (w : WV h qw) (hA : A + L < B) (hB : B + L < hN h qw) (w1 w2 w3 : Value) : ∃ h', X (74, 99, [.ref 15, w1, w2, w3, .int (nI A), .int (nI B), .int (nI L), .int (nI 0)], [], h) = some (none, h') ∧ Fr [] [qw] h h' ∧ SH h' ∧ ∀ p, hL h' qw p = if A ≤ p ∧ p ≤ A + L then hL h qw p + hL h qw (B + (p - A)) else hL h qw p := by
  have key : ∀ (n j : Nat), j + n = L + 1 → ∀ (h : HP), SH h → WV h qw → B + L < hN h qw → ∃ h', X (74, 99, [.ref 15, w1, w2, w3, .int (nI A), .int (nI B), .int (nI L), .int (nI j)], [], h) = some (none, h') ∧ Fr [] [qw] h h' ∧ SH h' ∧ ∀ p, hL h' qw p = if A + j ≤ p ∧ p ≤ A + L then hL h qw p + hL h qw (B + (p - A)) else hL h qw p := by
    intro n
    induction n with
    | zero =>
      intro j hj h hs w hr
      have a5 := w.2.2.2.2
      refine ⟨h, ?_, Fr.rf, hs, fun p => by rw [if_neg (by omega)]⟩
      rw [g74_99 _ _ _ _ _ _ _ h hs, if_pos (nI_lt (by omega) (by omega))]
    | succ n ih =>
      intro j hj h hs w hr
      have w' := w
      obtain ⟨a1, a2, a3, a4, a5⟩ := w
      have f1 : ∀ v, Fr [] [qw] h (sL h qw (A + j) v) := fun v => Fr.sL (by simp)
      obtain ⟨h', x1, x2, x3, x4⟩ := ih (j + 1) (by omega) (sL h qw (A + j) (hL h qw (A + j) + hL h qw (B + j))) (shL hs) (w'.fr (f1 _)) hr
      refine ⟨h', ?_, (f1 _).tr x2, x3, fun p => ?_⟩
      · rw [g74_99 _ _ _ _ _ _ _ h hs, if_neg (nI_nlt (by omega) (by omega)), a1, nI_add, nI_add, nI_clamp (by omega), nI_clamp (by omega)]
        show (if hK h qw = 11 ∧ inB (nI (A + j)) (hN h qw) = true then (if hK h qw = 11 ∧ inB (nI (B + j)) (hN h qw) = true then (if hK h qw = 11 ∧ inB (nI (A + j)) (hN h qw) = true then _ else none) else none) else none) = _
        have c1 : hK h qw = 11 ∧ inB (nI (A + j)) (hN h qw) = true := ⟨a4, inB_nI (by omega) (by omega)⟩
        have c2 : hK h qw = 11 ∧ inB (nI (B + j)) (hN h qw) = true := ⟨a4, inB_nI (by omega) (by omega)⟩
        rw [if_pos c1, if_pos c2, if_pos c1, nI_1]
        exact x1
      · rw [x4]
        by_cases u : p = A + j
        · subst u
          rw [if_neg (by omega), if_pos (by omega), hL_sL_same]
          congr 2
          omega
        · rw [hL_sL_ne _ _ u]
          by_cases v : A + j ≤ p ∧ p ≤ A + L
          · rw [if_pos v, if_pos (by omega), hL_sL_ne _ _ (by omega)]
          · rw [if_neg v, if_neg (by omega)]
  obtain ⟨h', x1, x2, x3, x4⟩ := key (L + 1) 0 (by omega) h hs w hB
  exact ⟨h', x1, x2, x3, fun p => by rw [x4]; rfl⟩
end Rd
