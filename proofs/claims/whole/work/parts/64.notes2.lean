/-! notes: the cells; ways of the states -/
section Nx
variable (W H : Nat) (ar : Bool) (al : Nat → Nat)
def RN1 (h : HP) (c : Nat) : Prop := ∀ c', c' ≤ c → CEn W H ar al h c' (Ls W H ar al c')
def RN2 (h : HP) (c : Nat) : Prop := ∀ c', c' < c → ∀ s n, (Ls W H ar al c')[s]? = some n → ∀ t, t < 10 → LEn W H ar al h c' n s t (Ls W H ar al (c' + 1))
def RN3 (h : HP) (c : Nat) : Prop := ∀ c', c ≤ c' → c' ≤ W * H → ∀ s n, (Ls W H ar al c')[s]? = some n → ∀ l, l < 24 → hL h 38 ((800 * c' + s) * 24 + l) = lN (cnt W H ar al (W * H - c') c' n l)
def RK (h : HP) : Prop := SH h ∧ MD h W H ar ∧ AM h W H al ∧ ∀ k, 10 ≤ k → hI h 32 k = 0
def ctb (c n t l : Nat) : Nat := match mvQ W H ar al c n t with
  | none => 0
  | some q => if q.2 ≤ l then cnt W H ar al (W * H - (c + 1)) (c + 1) q.1 (l - q.2) else 0
end Nx
def FRx (h h' : HP) : Prop := Fr [26, 32, 33, 34, 35, 36, 37] [39] h h' ∧ ∀ j, j ≠ 10 → hI h' 26 j = hI h 26 j
section Ny
variable {W H : Nat} {ar : Bool} {al : Nat → Nat}
theorem s120k {c : Nat} {a1 : Int32} (w4 w5 : Value) : ∀ (f j : Nat), j + f = 2048 → ∀ (h : HP), SH h → c < 20 → (∀ i, i < j → hI h 35 i = -1) → ∃ g, X (120, 48, [.ref 26, .int a1, .int (nI c), .int (nI j), w4, w5], [], h) = X (120, 79, [.ref 26, .int a1, .int (nI c), .int 0, w4, w5], [], sI g 33 (c + 1) 0) ∧ Fr [35] [] h g ∧ SH g ∧ ∀ i, i < 2048 → hI g 35 i = -1 := by
  intro f
  induction f with
  | zero =>
    intro j hj h hs hc hi
    have : j = 2048 := by omega
    subst this
    refine ⟨h, ?_, Fr.rf, hs, hi⟩
    rw [g120_48 _ _ _ _ _ h hs, if_pos (show (2048 : Int32) ≤ nI 2048 from nI_le (Nat.le_refl 2048) (by decide)), nI_1, if_pos (inB_nI (by omega) (by decide)), nI_clamp (by omega)]
  | succ f ih =>
    intro j hj h hs hc hi
    obtain ⟨g, x1, x2, x3, x4⟩ := ih (j + 1) (by omega) (sI h 35 j (-1)) (hs.sIs 35 rfl) hc (fun i hi2 => by
      by_cases u : i = j
      · rw [u, hI_sI_same]
      · rw [hI_sI_ne _ _ u]; exact hi i (by omega))
    refine ⟨g, ?_, (Fr.sI (by decide)).tr x2, x3, x4⟩
    have n1 : ¬ (2048 : Int32) ≤ nI j := nI_ge (show j < 2048 by omega) (by decide)
    rw [g120_48 _ _ _ _ _ h hs, if_neg n1, if_pos (inB_nI (by omega) (by decide)), nI_clamp (by omega), nI_1]
    exact x1
theorem s120c (hk : okS W H ar = true) : ∀ (f c : Nat), c + f = W * H → ∀ (h : HP) (w3 w4 w5 : Value), RK W H ar al h → RN1 W H ar al h c → RN2 W H ar al h c → ∃ h' v3 v4 v5, X (120, 41, [.ref 26, .int (nI (W * H)), .int (nI c), w3, w4, w5], [], h) = X (120, 235, [.ref 26, .int (nI (W * H)), .int (nI 0), v3, v4, v5], [], h') ∧ FRx h h' ∧ RK W H ar al h' ∧ RN1 W H ar al h' (W * H) ∧ RN2 W H ar al h' (W * H) := by
  have h20 := (okS_1 hk).2.2.1
  intro f
  induction f with
  | zero =>
    intro c hc h w3 w4 w5 rk r1 r2
    have : c = W * H := by omega
    subst this
    refine ⟨h, w3, w4, w5, ?_, ⟨Fr.rf, fun _ _ => rfl⟩, rk, r1, r2⟩
    rw [g120_41 _ _ _ _ _ h rk.1, if_pos (nI_le (Nat.le_refl _) (by omega))]
    rfl
  | succ f ih =>
    intro c hc h w3 w4 w5 rk r1 r2
    obtain ⟨hs, hm, ha, hj⟩ := rk
    obtain ⟨g, x1, x2, x3, x4⟩ := s120k (c := c) (a1 := nI (W * H)) w4 w5 2048 0 (by omega) h hs (by omega) (fun i hi => absurd hi (Nat.not_lt_zero _))
    generalize hG : sI g 33 (c + 1) 0 = k at x1
    have kF : Fr [33, 35] [] h k := by rw [← hG]; exact (x2.mono (by simp) (by simp)).tr (Fr.sI (by simp))
    have ks : SH k := by rw [← hG]; exact x3.sIs 33 rfl
    have k33 : ∀ i, i ≠ c + 1 → hI k 33 i = hI h 33 i := fun i hi => by rw [← hG, hI_sI_ne _ _ hi, x2.2.2.2.2.2.1 33 (by decide)]
    have kI : ∀ r, r ≠ 33 → r ≠ 35 → hI k r = hI h r := fun r h1 h2 => kF.2.2.2.2.2.1 r (by simp; omega)
    have kL : ∀ r, hL k r = hL h r := fun r => kF.2.2.2.2.2.2 r (by simp)
    have ke : ∀ c', c' ≤ c → CEn W H ar al k c' (Ls W H ar al c') := fun c' hc' => (r1 c' hc').keep (k33 c' (by omega)) (fun p _ => ⟨by rw [kI 34 (by decide) (by decide)], by rw [kL]⟩)
    have kn : NIv W H ar al k c [] [] := by
      refine ⟨ks, hm.fr kF (by rw [kI 26 (by decide) (by decide)]) (by rw [kI 26 (by decide) (by decide)]) (by rw [kI 26 (by decide) (by decide)]) (by decide) (by decide) (by decide), fun c hc => by rw [kI 27 (by decide) (by decide)]; exact ha c hc, fun k' hk' => by rw [kI 32 (by decide) (by decide)]; exact hj k' hk', ke c (by omega), ⟨List.nodup_nil, by rw [← hG, hI_sI_same]; rfl, fun s n hsn => by simp at hsn, fun j hj2 => Or.inl (by rw [← hG, hI_sI_o _ _ _ (by decide)]; exact x4 j hj2), fun s n hsn => by simp at hsn, sT_0 _ _ (fun j _ hj2 => if_pos (by rw [← hG, hI_sI_o _ _ _ (by decide)]; exact x4 j (by omega)))⟩, fun m hm => (by cases hm), fun z n' hz => by simp at hz⟩
    obtain ⟨e, v3, v4, v5, y1, y2, y3, y4⟩ := s120s hk (show c < W * H by omega) (nI (W * H)) (Ls W H ar al c) [] rfl k w4 w5 kn (fun s n hsn => by simp at hsn)
    obtain ⟨es, em, ea, ej, ec, sl, jd, rd⟩ := y3
    obtain ⟨f1, f2, f3, f4, f5⟩ := y2
    have ec1 : ∀ c', c' ≤ c → CEn W H ar al e c' (Ls W H ar al c') := fun c' hc' => (ke c' hc').keep (f3 c' hc') (fun p hp => f4 p (by omega))
    have ec2 : CEn W H ar al e (c + 1) (Ls W H ar al (c + 1)) := by
      refine ⟨sl.2.1, sl.len, fun s n hsn => ⟨Ls_rch hk (c + 1) (by omega) n (get_mem hsn).1, (sl.2.2.1 s n hsn).1, ?_⟩⟩
      rw [rd s n hsn, rd_fwd hk (by omega)]
    obtain ⟨h', u3, u4, u5, z1, z2, z3, z4, z5⟩ := ih (c + 1) (by omega) e v3 v4 v5 ⟨es, em, ea, ej⟩ (fun c' hc' => by
      rcases Nat.lt_or_ge c c' with u | u
      · have : c' = c + 1 := by omega
        subst this
        exact ec2
      · exact ec1 c' u) (fun c' hc' s n hsn t ht => by
      rcases Nat.lt_or_ge c' c with u | u
      · have ln := Ls_len (al := al) hk (show c' ≤ W * H by omega)
        have hs76 := (get_mem hsn).2
        have lt : ixN c' s t < ixN c 0 0 := by unfold ixN; omega
        exact LEn.keep (r2 c' u s n hsn t ht) (by rw [(f5 _ lt).1, kI 36 (by decide) (by decide)]) (by rw [(f5 _ lt).2, kI 37 (by decide) (by decide)]) (fun z n hz => hz)
      · have : c' = c := by omega
        subst this
        exact y4 s n hsn t ht)
    refine ⟨h', u3, u4, u5, ?_, ⟨((kF.mono (by simp) (by simp)).tr f1).tr z2.1, fun j hj => by rw [z2.2 j hj, f2 j hj, kI 26 (by decide) (by decide)]⟩, z3, z4, z5⟩
    rw [g120_41 _ _ _ _ _ h hs, if_neg (nI_ge (by omega) (by omega))]
    show X (120, 48, [.ref 26, .int (nI (W * H)), .int (nI c), .int (nI 0), w4, w5], [], h) = _
    rw [x1]
    show X (120, 79, [.ref 26, .int (nI (W * H)), .int (nI c), .int (nI ([] : List Nat).length), w4, w5], [], k) = _
    rw [y1, z1]
theorem phi_0 (W : Nat) (ar : Bool) (c : Nat) : phi W ar c 0 = 0 := by
  have e : fr 0 = 0 := by decide
  unfold phi
  rw [e]
  simp [phD]
/-- behind the last cell -/
theorem s120el {s : Nat} (hs76 : s < 76) (hk : okS W H ar = true) (w4 w5 : Value) : ∀ (f l : Nat), l + f = 24 → ∀ (h : HP), SH h → hI h 34 (800 * (W * H) + s) = 0 → ∃ h' v3, X (120, 247, [.ref 26, .int (nI (W * H)), .int (nI s), .int (nI l), w4, w5], [], h) = X (120, 235, [.ref 26, .int (nI (W * H)), .int (nI (s + 1)), v3, w4, w5], [], h') ∧ Fr [] [38] h h' ∧ SH h' ∧ ∀ p, hL h' 38 p = if (800 * (W * H) + s) * 24 + l ≤ p ∧ p < (800 * (W * H) + s) * 24 + 24 then (if p = (800 * (W * H) + s) * 24 then 1 else 0) else hL h 38 p := by
  have h20 := (okS_1 hk).2.2.1
  intro f
  induction f with
  | zero =>
    intro l hl h hs hc
    have : l = 24 := by omega
    subst this
    refine ⟨h, .int (nI 24), ?_, Fr.rf, hs, fun p => by rw [if_neg (by omega)]⟩
    rw [g120_247 _ _ _ _ _ h hs, if_pos (by decide), nI_1]
  | succ f ih =>
    intro l hl h hs hc
    have e1 : (800 * nI (W * H) + nI s) = nI (800 * (W * H) + s) := by rw [show (800 : Int32) = nI 800 from rfl, pk_mul, nI_add]
    have e2 : nI (800 * (W * H) + s) * 24 + nI l = nI ((800 * (W * H) + s) * 24 + l) := by rw [show (24 : Int32) = nI 24 from rfl, pk_mul, nI_add]
    have b1 : inB (nI ((800 * (W * H) + s) * 24 + l)) 403200 = true := inB_nI (by omega) (by decide)
    have n24 : ¬ (24 : Int32) ≤ nI l := nI_ge (show l < 24 by omega) (by decide)
    have go : ∀ v : Int64, v = (if l = 0 then 1 else 0) → ∃ h' v3, X (120, 247, [.ref 26, .int (nI (W * H)), .int (nI s), .int (nI l + 1), w4, w5], [], sL h 38 ((800 * (W * H) + s) * 24 + l) v) = X (120, 235, [.ref 26, .int (nI (W * H)), .int (nI (s + 1)), v3, w4, w5], [], h') ∧ Fr [] [38] h h' ∧ SH h' ∧ ∀ p, hL h' 38 p = if (800 * (W * H) + s) * 24 + l ≤ p ∧ p < (800 * (W * H) + s) * 24 + 24 then (if p = (800 * (W * H) + s) * 24 then 1 else 0) else hL h 38 p := by
      intro v hv
      obtain ⟨h', v3, x1, x2, x3, x4⟩ := ih (l + 1) (by omega) (sL h 38 ((800 * (W * H) + s) * 24 + l) v) (shL hs) hc
      refine ⟨h', v3, by rw [nI_1]; exact x1, (Fr.sL (by simp)).tr x2, x3, fun p => ?_⟩
      rw [x4]
      by_cases u : p = (800 * (W * H) + s) * 24 + l
      · rw [if_neg (by omega), if_pos (by omega), u, hL_sL_same, hv]
        by_cases z : l = 0
        · rw [if_pos z, if_pos (by omega)]
        · rw [if_neg z, if_neg (by omega)]
      · rw [hL_sL_ne _ _ u]
        by_cases z : (800 * (W * H) + s) * 24 + l ≤ p ∧ p < (800 * (W * H) + s) * 24 + 24
        · rw [if_pos z, if_pos (by omega)]
        · rw [if_neg z, if_neg (by omega)]
    rw [g120_247 _ _ _ _ _ h hs, if_neg n24, e1, e2]
    by_cases z : l = 0
    · have z0 : nI l = 0 := by rw [z]; rfl
      rw [if_pos z0, if_pos (inB_nI (by omega) (by decide)), nI_clamp (show 800 * (W * H) + s < 2 ^ 31 by omega), hc, if_pos rfl, if_pos b1, nI_clamp (show (800 * (W * H) + s) * 24 + l < 2 ^ 31 by omega)]
      exact go 1 (by rw [if_pos z])
    · rw [if_neg (nI_ne0 (by omega) (by omega)), if_pos b1, nI_clamp (show (800 * (W * H) + s) * 24 + l < 2 ^ 31 by omega)]
      exact go 0 (by rw [if_neg z])
theorem s120e (hk : okS W H ar = true) : ∀ (R P : List Nat), Ls W H ar al (W * H) = P ++ R → ∀ (h : HP) (w3 w4 w5 : Value), SH h → CEn W H ar al h (W * H) (Ls W H ar al (W * H)) → (∀ s n, P[s]? = some n → ∀ l, l < 24 → hL h 38 ((800 * (W * H) + s) * 24 + l) = lN (cnt W H ar al 0 (W * H) n l)) → ∃ h' v3, X (120, 235, [.ref 26, .int (nI (W * H)), .int (nI P.length), w3, w4, w5], [], h) = X (120, 310, [.ref 26, .int (nI (W * H)), .int (nI (W * H) - 1), v3, w4, w5], [], h') ∧ Fr [] [38] h h' ∧ SH h' ∧ RN3 W H ar al h' (W * H) := by
  have h20 := (okS_1 hk).2.2.1
  intro R
  induction R with
  | nil =>
    intro P hP h w3 w4 w5 hs ce hr
    have eP : Ls W H ar al (W * H) = P := by rw [hP, List.append_nil]
    obtain ⟨c1, c2, c3⟩ := ce
    refine ⟨h, w3, ?_, Fr.rf, hs, fun c' h1 h2 s n hsn l hl => ?_⟩
    · rw [g120_235 _ _ _ _ _ h hs, if_pos (inB_nI (by omega) (by decide)), nI_clamp (by omega), c1, eP, if_pos (nI_le (Nat.le_refl _) (by rw [eP] at c2; omega))]
    · have : c' = W * H := by omega
      subst this
      rw [eP] at hsn
      rw [hr s n hsn l hl, Nat.sub_self]
  | cons n R ih =>
    intro P hP h w3 w4 w5 hs ce hr
    have ce0 := ce
    obtain ⟨c1, c2, c3⟩ := ce
    have ll : (Ls W H ar al (W * H)).length = P.length + (R.length + 1) := by rw [hP, List.length_append]; rfl
    have hsn : (Ls W H ar al (W * H))[P.length]? = some n := by rw [hP, List.getElem?_append_right (Nat.le_refl _), Nat.sub_self]; rfl
    have hP2 : Ls W H ar al (W * H) = (P ++ [n]) ++ R := by rw [hP]; simp
    obtain ⟨r1, r2, r3⟩ := c3 _ _ hsn
    obtain ⟨n76, nL⟩ := rch_in hk (W * H) (Nat.le_refl _) n r1
    have n0 := V_end hk n76 nL
    have code : hI h 34 (800 * (W * H) + P.length) = 0 := by rw [r2, n0, phi_0]; rfl
    obtain ⟨g, v3, x1, x2, x3, x4⟩ := s120el (s := P.length) (by omega) hk w4 w5 24 0 (by omega) h hs code
    have l1 : P.length + 1 = (P ++ [n]).length := by rw [List.length_append]; rfl
    obtain ⟨h', v3', y1, y2, y3, y4⟩ := ih (P ++ [n]) hP2 g v3 w4 w5 x3 (ce0.keep (by rw [x2.2.2.2.2.2.1 33 (by simp)]) (fun p _ => ⟨by rw [x2.2.2.2.2.2.1 34 (by simp)], by rw [x2.2.2.2.2.2.2 39 (by decide)]⟩)) (fun s m hm l hl => by
      rcases Nat.lt_or_ge s P.length with w | w
      · rw [List.getElem?_append_left w] at hm
        rw [x4, if_neg (by omega)]
        exact hr s m hm l hl
      · rw [List.getElem?_append_right w] at hm
        have hl2 : s - P.length < 1 := (get_mem hm).2
        have e0 : s = P.length := by omega
        subst e0
        rw [Nat.sub_self] at hm
        have : n = m := Option.some.inj hm
        subst this
        rw [x4, if_pos (by omega), cnt]
        by_cases z : l = 0
        · rw [if_pos (by omega), if_pos z]; rfl
        · rw [if_neg (by omega), if_neg z]; rfl)
    refine ⟨h', v3', ?_, x2.tr y2, y3, y4⟩
    rw [g120_235 _ _ _ _ _ h hs, if_pos (inB_nI (by omega) (by decide)), nI_clamp (by omega), c1, if_neg (nI_ge (by omega) (by omega)), show (0 : Int32) = nI 0 from rfl, x1, l1]
    exact y1
end Ny
