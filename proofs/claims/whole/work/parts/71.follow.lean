/-! loops followed, in the component -/
def osT (t s : Nat) : Nat := (xv 1 (4 * t + s)).toNatClampNeg
def lsT (t k : Nat) : Nat := (xv 2 (2 * t + k)).toNatClampNeg
def pcs (t : Nat) : Nat := (pcT t).toNatClampNeg
def pk2 (t s : Nat) : Nat := if s = lsT t 0 ∨ s = osT t (lsT t 0) then 0 else 1
theorem TF1a : ∀ t, t < 10 → ∀ s, s < 4 → ((sid t).testBit s = false ∨ (osT t s < 4 ∧ (sid t).testBit (osT t s) = true ∧ osT t (osT t s) = s ∧ osT t s ≠ s ∧ pk2 t (osT t s) = pk2 t s ∧ pk2 t s < 2 ∧ xv 1 (4 * t + s) = nI (osT t s) ∧ pk2 t s < pcs t)) := by decide +kernel
theorem TF1b : ∀ t, t < 10 → ∀ s, s < 4 → ∀ s', s' < 4 → ((sid t).testBit s = false ∨ (sid t).testBit s' = false ∨ pk2 t s' ≠ pk2 t s ∨ s' = s ∨ s' = osT t s) := by decide +kernel
theorem TF1 (t : Nat) (ht : t < 10) (s : Nat) (hs : s < 4) (hp : (sid t).testBit s = true) : osT t s < 4 ∧ (sid t).testBit (osT t s) = true ∧ osT t (osT t s) = s ∧ osT t s ≠ s ∧ pk2 t (osT t s) = pk2 t s ∧ pk2 t s < 2 ∧ xv 1 (4 * t + s) = nI (osT t s) ∧ pk2 t s < pcs t ∧ ∀ s', s' < 4 → (sid t).testBit s' = true → pk2 t s' = pk2 t s → s' = s ∨ s' = osT t s := by
  rcases TF1a t ht s hs with u | ⟨a1, a2, a3, a4, a5, a6, a7, a8⟩
  · rw [hp] at u; cases u
  · refine ⟨a1, a2, a3, a4, a5, a6, a7, a8, fun s' h1 h2 h3 => ?_⟩
    rcases TF1b t ht s hs s' h1 with u | u | u | u
    · rw [hp] at u; cases u
    · rw [h2] at u; cases u
    · exact absurd h3 u
    · exact u
theorem TF2 : ∀ t, t < 10 → ∀ k, k < 2 → k < pcs t → lsT t k < 4 ∧ (sid t).testBit (lsT t k) = true ∧ xv 2 (2 * t + k) = nI (lsT t k) ∧ pk2 t (lsT t k) = k := by decide +kernel
theorem TF3 : ∀ t, t < 10 → ∀ k, k < 2 → ¬ k < pcs t → xv 2 (2 * t + k) = -1 := by decide +kernel
theorem TF4 : ∀ t, t < 10 → pcs t ≤ 2 ∧ pcT t = nI (pcs t) := by decide +kernel
def aD (W H : Nat) (ar : Bool) (d : Nat) : Nat := nbN W H ar (d / 4) (d % 4) - 1
def bD (sh : Nat → Nat) (d : Nat) : Nat := 4 * (d / 4) + osT (sh (d / 4)) (d % 4)
def pcD (sh : Nat → Nat) (d : Nat) : Nat := 2 * (d / 4) + pk2 (sh (d / 4)) (d % 4)
def Pd (W H : Nat) (sh : Nat → Nat) (d : Nat) : Prop := d < 4 * (W * H) ∧ (sid (sh (d / 4))).testBit (d % 4) = true
section Fo
variable {W H : Nat} {ar : Bool} {al sh : Nat → Nat} {h : HP}
/-- a filling -/
def FlH (W H : Nat) (ar : Bool) (sh : Nat → Nat) : Prop := okS W H ar = true ∧ (∀ c, c < W * H → sh c < 10) ∧ ∀ c, c < W * H → ∀ s, s < 4 → (sid (sh c)).testBit s = vlN sh (nbN W H ar c s)
theorem Pd_nb (f : FlH W H ar sh) {d : Nat} (hd : Pd W H sh d) : nbN W H ar (d / 4) (d % 4) ≠ 0 ∧ (nbN W H ar (d / 4) (d % 4) - 1) / 4 < W * H ∧ nbN W H ar ((nbN W H ar (d / 4) (d % 4) - 1) / 4) ((nbN W H ar (d / 4) (d % 4) - 1) % 4) = d + 1 ∧ (nbN W H ar (d / 4) (d % 4) - 1) / 4 ≠ d / 4 ∧ (sid (sh ((nbN W H ar (d / 4) (d % 4) - 1) / 4))).testBit ((nbN W H ar (d / 4) (d % 4) - 1) % 4) = true := by
  obtain ⟨h1, h2⟩ := hd
  have hc : d / 4 < W * H := by omega
  have hs : d % 4 < 4 := Nat.mod_lt _ (by decide)
  have m := f.2.2 _ hc _ hs
  rw [h2] at m
  unfold vlN at m
  by_cases v : nbN W H ar (d / 4) (d % 4) = 0
  · rw [if_pos v] at m; cases m
  · rw [if_neg v] at m
    have b := (S_c f.1 hc).1 _ hs
    unfold ckB at b
    have nb : Nat.beq (nbN W H ar (d / 4) (d % 4)) 0 = false := by
      cases e : Nat.beq (nbN W H ar (d / 4) (d % 4)) 0
      · rfl
      · exact absurd (beq_t.mp e) v
    rw [nb] at b
    simp only [Bool.false_or, Bool.and_eq_true] at b
    obtain ⟨⟨b1, b2⟩, b3⟩ := b
    refine ⟨v, blt_t.mp b1, ?_, fun e => ?_, m.symm⟩
    · rw [beq_t.mp b2]; omega
    · rw [beq_t.mpr e] at b3; cases b3
theorem orbF (f : FlH W H ar sh) : OrbH (Pd W H sh) (aD W H ar) (bD sh) := by
  refine ⟨fun d hd => ?_, fun d hd => ?_⟩
  · obtain ⟨n0, n1, n2, n3, n4⟩ := Pd_nb f hd
    unfold aD
    refine ⟨⟨by omega, n4⟩, by rw [n2]; omega, fun e => n3 (by rw [e])⟩
  · obtain ⟨h1, h2⟩ := hd
    have hc : d / 4 < W * H := by omega
    obtain ⟨t1, t2, t3, t4, -⟩ := TF1 _ (f.2.1 _ hc) _ (Nat.mod_lt d (by decide)) h2
    have e1 : bD sh d / 4 = d / 4 := by unfold bD; omega
    have e2 : bD sh d % 4 = osT (sh (d / 4)) (d % 4) := by unfold bD; omega
    refine ⟨⟨by unfold bD; omega, by rw [e1, e2]; exact t2⟩, ?_, fun e => t4 ?_⟩
    · unfold bD at e1 e2 ⊢
      rw [e1, e2, t3]; omega
    · rw [← e2, e]
theorem pcF (f : FlH W H ar sh) : PcH (Pd W H sh) (bD sh) (pcD sh) := by
  have h20 := (okS_1 f.1).2.2.1
  refine ⟨fun d hd => ?_, fun d hd => ?_, fun d d' hd hd' e => ?_⟩
  · have hc : d / 4 < W * H := by have := hd.1; omega
    have := (TF1 _ (f.2.1 _ hc) _ (Nat.mod_lt d (by decide)) hd.2).2.2.2.2.2.1
    unfold pcD
    omega
  · have hc : d / 4 < W * H := by have := hd.1; omega
    obtain ⟨t1, t2, t3, t4, t5, -⟩ := TF1 _ (f.2.1 _ hc) _ (Nat.mod_lt d (by decide)) hd.2
    have e1 : bD sh d / 4 = d / 4 := by unfold bD; omega
    have e2 : bD sh d % 4 = osT (sh (d / 4)) (d % 4) := by unfold bD; omega
    unfold pcD
    rw [e1, e2, t5]
  · have hc : d / 4 < W * H := by have := hd.1; omega
    have hc' : d' / 4 < W * H := by have := hd'.1; omega
    have k1 := (TF1 _ (f.2.1 _ hc) _ (Nat.mod_lt d (by decide)) hd.2).2.2.2.2.2.1
    obtain ⟨-, -, -, -, -, k2, -, -, k9⟩ := TF1 _ (f.2.1 _ hc') _ (Nat.mod_lt d' (by decide)) hd'.2
    unfold pcD at e
    have ec : d / 4 = d' / 4 := by omega
    rw [ec] at e
    have := k9 (d % 4) (Nat.mod_lt d (by decide)) (by rw [← ec]; exact hd.2) (by omega)
    rcases this with u | u
    · left; omega
    · right; unfold bD; rw [← u]; omega
/-- the pieces of the loop of a dart -/
def Lk (W H : Nat) (ar : Bool) (sh : Nat → Nat) (d : Nat) : List Nat := wkL (aD W H ar) (bD sh) (pcD sh) (pcD sh d) 40 d
def byI (W H c s : Nat) : Int32 := if (edg W H c).testBit s = true then (if s % 2 = 0 then oI (cAt W H (nI (c % W) ^^^ 1) (nI (c / W))) else oI (cAt W H (nI (c % W)) (nI (c / W) ^^^ 1))) else (if s = 0 then oI (cAt W H (nI (c % W)) (nI (c / W) + (-1))) else if s = 1 then oI (cAt W H (nI (c % W) + 1) (nI (c / W))) else if s = 2 then oI (cAt W H (nI (c % W)) (nI (c / W) + 1)) else oI (cAt W H (nI (c % W) + (-1)) (nI (c / W))))
def ckY (W H : Nat) (ar : Bool) (c s : Nat) : Bool := !okS W H ar || !Nat.blt c (W * H) || Nat.beq (nbN W H ar c s) 0 || (decide (byI W H c s = nI ((nbN W H ar c s - 1) / 4)) && Nat.beq (if (edg W H c).testBit s = true then s else s ^^^ 2) ((nbN W H ar c s - 1) % 4))
theorem ckY_all : (List.range 6).all (fun W => (List.range 6).all fun H => [false, true].all fun ar => (List.range 20).all fun c => (List.range 4).all fun s => ckY W H ar c s) = true := by decide +kernel
theorem by_nb (hk : okS W H ar = true) {c s : Nat} (hc : c < W * H) (hs : s < 4) (hn : nbN W H ar c s ≠ 0) : byI W H c s = nI ((nbN W H ar c s - 1) / 4) ∧ (if (edg W H c).testBit s = true then s else s ^^^ 2) = (nbN W H ar c s - 1) % 4 := by
  obtain ⟨⟨w1, w2⟩, ⟨h1, h2⟩, h20, -⟩ := okS_1 hk
  have a1 := List.all_eq_true.mp ckY_all W (List.mem_range.mpr (by omega))
  have a2 := List.all_eq_true.mp a1 H (List.mem_range.mpr (by omega))
  have a3 := List.all_eq_true.mp a2 ar (by cases ar <;> simp)
  have a4 := List.all_eq_true.mp a3 c (List.mem_range.mpr (by omega))
  have a5 := List.all_eq_true.mp a4 s (List.mem_range.mpr hs)
  unfold ckY at a5
  have n1 : Nat.blt c (W * H) = true := blt_t.mpr hc
  have n2 : Nat.beq (nbN W H ar c s) 0 = false := by
    cases e : Nat.beq (nbN W H ar c s) 0
    · rfl
    · exact absurd (beq_t.mp e) hn
  rw [hk, n1, n2] at a5
  simp only [Bool.not_true, Bool.false_or, Bool.and_eq_true, decide_eq_true_eq] at a5
  exact ⟨a5.1, beq_t.mp a5.2⟩
theorem bit4 : ∀ a, a < 16 → ∀ s, s < 4 → ((nI a >>> (nI s &&& 31)) &&& 1) = aI (a.testBit s) := by decide +kernel
theorem s17 (hb : BD h W H ar) (hs : SH h) {c s : Nat} (hc : c < W * H) (h4 : s < 4) : X (17, 0, [.ref 6, .int (nI c), .int (nI s)], [], h) = some (some (.int (aI ((edg W H c).testBit s))), h) := by
  rw [g17_0 _ _ h hs, s8 hb hs hc, bI_s, bit4 _ (edg_lt W H c) s h4]
  cases (edg W H c).testBit s
  · rw [if_neg (by decide)]; rfl
  · rw [if_pos (by decide)]; rfl
theorem s18 (hb : BD h W H ar) (hs : SH h) {c s : Nat} (hc : c < W * H) (h4 : s < 4) (w3 w4 w5 w6 : Value) : X (18, 0, [.ref 6, .int (nI c), .int (nI s), w3, w4, w5, w6], [], h) = some (some (.int (byI W H c s)), h) := by
  have h20 := (okS_1 hb.1).2.2.1
  rw [g18_0 _ _ _ _ _ _ h hs, s12 hb hs (by omega), bI_s, s13 hb hs (by omega), bI_s]
  unfold byI
  have hs4 : s = 0 ∨ s = 1 ∨ s = 2 ∨ s = 3 := by omega
  rcases hs4 with rfl | rfl | rfl | rfl
  · rw [if_pos (show nI 0 = 0 by rfl), g18_22 _ _ _ _ _ _ h hs, s17 hb hs hc h4, bI_s]
    cases (edg W H c).testBit 0
    · rw [if_pos (by rfl), if_neg (by decide), if_neg (by decide), s11 hb hs, bI_s, if_neg (by decide), if_pos rfl]
    · rw [if_neg (by decide), s11 hb hs, bI_s, if_pos rfl, if_pos (by decide)]
  · rw [if_neg (by decide), if_neg (by decide), s17 hb hs hc h4, bI_s]
    cases (edg W H c).testBit 1
    · rw [if_pos (by rfl), if_pos (by rfl), g18_75 _ _ _ _ _ _ h hs, if_pos rfl, s11 hb hs, bI_s, if_neg (by decide), if_neg (by decide), if_pos rfl]
    · rw [if_neg (by decide), s11 hb hs, bI_s, if_pos rfl, if_neg (by decide)]
  · rw [if_neg (by decide), if_pos (by rfl), g18_22 _ _ _ _ _ _ h hs, s17 hb hs hc h4, bI_s]
    cases (edg W H c).testBit 2
    · rw [if_pos (by rfl), if_neg (by decide), if_pos (by rfl), g18_75 _ _ _ _ _ _ h hs, if_neg (by decide), s11 hb hs, bI_s, if_neg (by decide), if_neg (by decide), if_neg (by decide), if_pos rfl]
    · rw [if_neg (by decide), s11 hb hs, bI_s, if_pos rfl, if_pos (by decide)]
  · rw [if_neg (by decide), if_neg (by decide), s17 hb hs hc h4, bI_s]
    cases (edg W H c).testBit 3
    · rw [if_pos (by rfl), if_neg (by decide), if_neg (by decide), s11 hb hs, bI_s, if_neg (by decide), if_neg (by decide), if_neg (by decide), if_neg (by decide)]
    · rw [if_neg (by decide), s11 hb hs, bI_s, if_pos rfl, if_neg (by decide)]
theorem s63 (hb : BD h W H ar) (hs : SH h) (sc : SC h W H sh) {c k : Nat} (hc : c < W * H) (hk2 : k < 2) (w2 : Value) : X (63, 0, [.ref 12, .int (nI (2 * c + k)), w2], [], h) = some (some (.int (xv 2 (2 * sh c + k))), h) := by
  have h20 := (okS_1 hb.1).2.2.1
  obtain ⟨s1, s2⟩ := sc c hc
  have e1 : nI (2 * c + k) / 2 = nI c := by
    rw [show (2 : Int32) = nI 2 from rfl, pk_div (by omega) (by decide) (by decide), show (2 * c + k) / 2 = c by omega]
  have e2 : nI (2 * c + k) &&& 1 = nI k := by
    have := pk_andN (n := 2 * c + k) (by omega) (m := 1) 1 (by decide)
    rw [this, show (2 * c + k) % 2 ^ 1 = k by omega]
  have e3 : 2 * nI (sh c) + nI k = nI (2 * sh c + k) := by rw [show (2 : Int32) = nI 2 from rfl, pk_mul, nI_add]
  rw [g63_0 _ _ h hs, if_pos (nI_pos' (by omega)), e1, s53 hb hs hc, bI_s, s1, s103 _ s2 h hs, bI_s, if_neg (by decide), e2, e3, if_pos (inB_nI (by omega) (by decide)), nI_clamp (by omega), hs.2.2.2.2 2 (by decide)]
theorem s64 (hb : BD h W H ar) (hs : SH h) (sc : SC h W H sh) {c s : Nat} (hc : c < W * H) (h4 : s < 4) (w3 : Value) : X (64, 0, [.ref 12, .int (nI c), .int (nI s), w3], [], h) = some (some (.int (xv 1 (4 * sh c + s))), h) := by
  obtain ⟨s1, s2⟩ := sc c hc
  have e3 : 4 * nI (sh c) + nI s = nI (4 * sh c + s) := by rw [show (4 : Int32) = nI 4 from rfl, pk_mul, nI_add]
  rw [g64_0 _ _ _ h hs, s53 hb hs hc, bI_s, s1, s103 _ s2 h hs, bI_s, if_neg (by decide), if_neg (nI_pos (by omega)), if_neg (show ¬ (3 : Int32) < nI s from nI_nlt (show s ≤ 3 by omega) (by decide)), e3, if_pos (inB_nI (by omega) (by decide)), nI_clamp (by omega), hs.2.2.2.2 1 (by decide)]
theorem s65 (hb : BD h W H ar) (hs : SH h) (sc : SC h W H sh) {c s : Nat} (hc : c < W * H) (h4 : s < 4) (hp : (sid (sh c)).testBit s = true) (w3 w4 : Value) : X (65, 0, [.ref 12, .int (nI c), .int (nI s), w3, w4], [], h) = some (some (.int (nI (2 * c + pk2 (sh c) s))), h) := by
  have h20 := (okS_1 hb.1).2.2.1
  obtain ⟨s1, s2⟩ := sc c hc
  obtain ⟨t1, t2, t3, t4, t5, t6, t7, t8, -⟩ := TF1 _ s2 s h4 hp
  obtain ⟨l1, l2, l3, l4⟩ := TF2 _ s2 0 (by decide) (by omega)
  have m := (TF1 _ s2 _ l1 l2).2.2.2.2.2.2.1
  have o1 := (TF1 _ s2 _ l1 l2).1
  have e2 : (2 : Int32) * nI c = nI (2 * c + 0) := by
    rw [show (2 : Int32) = nI 2 from rfl, pk_mul]
    rfl
  rw [g65_0 _ _ _ _ h hs, e2, s63 hb hs sc hc (by decide), bI_s, l3, if_neg (neg1_nI (by omega)), if_neg (neg1_nI (by omega))]
  unfold pk2
  by_cases q : s = lsT (sh c) 0
  · rw [if_pos (by rw [q]), g65_35 _ _ _ _ _ h hs, if_pos (Or.inl q), e2]
  · have nq : ¬ nI s = nI (lsT (sh c) 0) := fun e => q ((nI_eq (by omega) (by omega)).mp e)
    rw [if_neg nq, s64 hb hs sc hc l1, bI_s, m]
    by_cases u : s = osT (sh c) (lsT (sh c) 0)
    · rw [if_pos (by rw [← u]), g65_35 _ _ _ _ _ h hs, if_pos (Or.inr u), e2]
    · have nu : ¬ nI s = nI (osT (sh c) (lsT (sh c) 0)) := fun e => u ((nI_eq (by omega) (by omega)).mp e)
      have nn : ¬ (s = lsT (sh c) 0 ∨ s = osT (sh c) (lsT (sh c) 0)) := fun e => by
        rcases e with e | e
        · exact q e
        · exact u e
      rw [if_neg nu, if_neg nn, Nat.add_zero, nI_1]
theorem s61l (f : FlH W H ar sh) {st : Nat} (hst : st < 40) : ∀ (n i : Nat), i + n = 40 → ∀ (d : Nat) (h : HP) (w5 w6 w7 : Value), BD h W H ar → SH h → SC h W H sh → Pd W H sh d → ∃ h', X (61, 11, [.ref 12, .int (nI st), .int (nI (pcD sh d)), .int (nI i), .int (nI (d % 4)), w5, w6, w7], [], h) = some (some (.int (nI (i + (wkL (aD W H ar) (bD sh) (pcD sh) st n d).length))), h') ∧ Fr [14] [] h h' ∧ ∀ p, hI h' 14 p = if p ∈ wkL (aD W H ar) (bD sh) (pcD sh) st n d then 1 else hI h 14 p := by
  have h20 := (okS_1 f.1).2.2.1
  intro n
  induction n with
  | zero =>
    intro i hi d h w5 w6 w7 hb hs sc hd
    have : i = 40 := by omega
    subst this
    refine ⟨h, ?_, Fr.rf, fun p => ?_⟩
    · rw [g61_11 _ _ _ _ _ _ _ h hs, if_pos (by decide)]
      rfl
    · rw [wkL, if_neg (by simp)]
  | succ n ih =>
    intro i hi d h w5 w6 w7 hb hs sc hd
    have hc : d / 4 < W * H := by have := hd.1; omega
    have h4 : d % 4 < 4 := Nat.mod_lt _ (by decide)
    have p40 := (pcF f).1 d hd
    obtain ⟨n0, n1, n2, n3, n4⟩ := Pd_nb f hd
    obtain ⟨y1, y2⟩ := by_nb f.1 hc h4 n0
    have n4' : (nbN W H ar (d / 4) (d % 4) - 1) % 4 < 4 := Nat.mod_lt _ (by decide)
    obtain ⟨t1, t2, t3, t4, t5, t6, t7, -⟩ := TF1 _ (f.2.1 _ n1) _ n4' n4
    have gF : Fr [14] [] h (sI h 14 (pcD sh d) (1 &&& 1)) := Fr.sI (by simp)
    generalize hG : sI h 14 (pcD sh d) (1 &&& 1) = g at gF
    have gs : SH g := by rw [← hG]; exact hs.sIs 14 rfl
    have gb := hb.fr gF (by decide) (by decide) (by decide)
    have gc : SC g W H sh := fun c hc => by rw [gF.2.2.2.2.2.1 13 (by decide)]; exact sc c hc
    have g14 : ∀ p, hI g 14 p = if p = pcD sh d then 1 else hI h 14 p := fun p => by
      rw [← hG]
      by_cases u : p = pcD sh d
      · rw [u, if_pos rfl, hI_sI_same]; rfl
      · rw [if_neg u, hI_sI_ne _ _ u]
    have e1 : nI (pcD sh d) / 2 = nI (d / 4) := by
      have k1 := (TF1 _ (f.2.1 _ hc) _ h4 hd.2).2.2.2.2.2.1
      rw [show (2 : Int32) = nI 2 from rfl, pk_div (by omega) (by decide) (by decide)]
      congr 1
      unfold pcD
      omega
    have dn : bD sh (aD W H ar d) = 4 * ((nbN W H ar (d / 4) (d % 4) - 1) / 4) + osT (sh ((nbN W H ar (d / 4) (d % 4) - 1) / 4)) ((nbN W H ar (d / 4) (d % 4) - 1) % 4) := rfl
    have pn : pcD sh (bD sh (aD W H ar d)) = 2 * ((nbN W H ar (d / 4) (d % 4) - 1) / 4) + pk2 (sh ((nbN W H ar (d / 4) (d % 4) - 1) / 4)) ((nbN W H ar (d / 4) (d % 4) - 1) % 4) := (pcF f).2.1 _ ((orbF f).1 d hd).1
    have Pn := ((orbF f).2 _ ((orbF f).1 d hd).1).1
    have dm : bD sh (aD W H ar d) % 4 = osT (sh ((nbN W H ar (d / 4) (d % 4) - 1) / 4)) ((nbN W H ar (d / 4) (d % 4) - 1) % 4) := by rw [dn]; omega
    have pn40 := (pcF f).1 _ Pn
    obtain ⟨h', x1, x2, x3⟩ := ih (i + 1) (by omega) (bD sh (aD W H ar d)) g (.int (nI (d / 4))) (.int (nI ((nbN W H ar (d / 4) (d % 4) - 1) % 4))) (.int (nI ((nbN W H ar (d / 4) (d % 4) - 1) / 4))) gb gs gc Pn
    have tail : ∃ h', (if nI (2 * ((nbN W H ar (d / 4) (d % 4) - 1) / 4) + pk2 (sh ((nbN W H ar (d / 4) (d % 4) - 1) / 4)) ((nbN W H ar (d / 4) (d % 4) - 1) % 4)) = nI st then some (some (Value.int (nI i + 1)), g) else X (61, 11, [.ref 12, .int (nI st), .int (nI (2 * ((nbN W H ar (d / 4) (d % 4) - 1) / 4) + pk2 (sh ((nbN W H ar (d / 4) (d % 4) - 1) / 4)) ((nbN W H ar (d / 4) (d % 4) - 1) % 4))), .int (nI i + 1), .int (nI (osT (sh ((nbN W H ar (d / 4) (d % 4) - 1) / 4)) ((nbN W H ar (d / 4) (d % 4) - 1) % 4))), .int (nI (d / 4)), .int (nI ((nbN W H ar (d / 4) (d % 4) - 1) % 4)), .int (nI ((nbN W H ar (d / 4) (d % 4) - 1) / 4))], [], g)) = some (some (.int (nI (i + (wkL (aD W H ar) (bD sh) (pcD sh) st (n + 1) d).length))), h') ∧ Fr [14] [] h h' ∧ ∀ p, hI h' 14 p = if p ∈ wkL (aD W H ar) (bD sh) (pcD sh) st (n + 1) d then 1 else hI h 14 p := by
      rw [← pn, ← dm, nI_1, wkL]
      by_cases q : pcD sh (bD sh (aD W H ar d)) = st
      · rw [if_pos (by rw [q]), if_pos q]
        refine ⟨g, rfl, gF, fun p => ?_⟩
        rw [g14]
        by_cases u : p = pcD sh d
        · rw [if_pos u, if_pos (by rw [u]; exact List.mem_singleton.mpr rfl)]
        · rw [if_neg u, if_neg (fun v => u (List.mem_singleton.mp v))]
      · have nq : ¬ nI (pcD sh (bD sh (aD W H ar d))) = nI st := fun e => q ((nI_eq (by omega) (by omega)).mp e)
        rw [if_neg nq, if_neg q, x1]
        refine ⟨h', ?_, gF.tr x2, fun p => ?_⟩
        · rw [List.length_cons, show i + 1 + (wkL (aD W H ar) (bD sh) (pcD sh) st n (bD sh (aD W H ar d))).length = i + ((wkL (aD W H ar) (bD sh) (pcD sh) st n (bD sh (aD W H ar d))).length + 1) by omega]
        · rw [x3, g14]
          by_cases u : p ∈ wkL (aD W H ar) (bD sh) (pcD sh) st n (bD sh (aD W H ar d))
          · rw [if_pos u, if_pos (List.mem_cons_of_mem _ u)]
          · rw [if_neg u]
            by_cases v : p = pcD sh d
            · rw [if_pos v, if_pos (by rw [v]; exact List.mem_cons_self)]
            · have : p ∉ pcD sh d :: wkL (aD W H ar) (bD sh) (pcD sh) st n (bD sh (aD W H ar d)) := fun w => by
                rcases List.mem_cons.mp w with w | w
                · exact v w
                · exact u w
              rw [if_neg v, if_neg this]
    have n40 : ¬ (40 : Int32) ≤ nI i := nI_ge (show i < 40 by omega) (by decide)
    have m40 : ¬ (40 : Int32) ≤ nI (pcD sh d) := nI_ge p40 (by decide)
    rw [g61_11 _ _ _ _ _ _ _ h hs, if_neg n40, if_neg (nI_pos (by omega)), if_neg m40, if_pos (inB_nI p40 (by decide)), nI_clamp (by omega), hG, e1, s17 gb gs hc h4, bI_s]
    by_cases b : (edg W H (d / 4)).testBit (d % 4) = true
    · rw [if_pos b] at y2
      rw [b, if_neg (by decide), s18 gb gs hc h4, bI_s, y1, show nI (d % 4) = nI ((nbN W H ar (d / 4) (d % 4) - 1) % 4) from congrArg nI y2, s65 gb gs gc n1 n4' n4, bI_s, s64 gb gs gc n1 n4', bI_s, t7]
      exact tail
    · rw [if_neg b] at y2
      have b' : (edg W H (d / 4)).testBit (d % 4) = false := by simpa using b
      have ex : nI (d % 4) ^^^ 2 = nI ((nbN W H ar (d / 4) (d % 4) - 1) % 4) := by
        rw [← y2]
        have : ∀ s, s < 4 → nI s ^^^ 2 = nI (s ^^^ 2) := by decide +kernel
        exact this _ h4
      rw [b', if_pos (by rfl), g62_0 _ g gs, bI_s, s18 gb gs hc h4, bI_s, y1, ex, s65 gb gs gc n1 n4' n4, bI_s, s64 gb gs gc n1 n4', bI_s, t7]
      exact tail
/-- the dart at which the walk from a piece begins -/
def dsP (sh : Nat → Nat) (c k : Nat) : Nat := 4 * c + lsT (sh c) k
theorem dsP_ok (f : FlH W H ar sh) {c k : Nat} (hc : c < W * H) (hk2 : k < 2) (hp : k < pcs (sh c)) : Pd W H sh (dsP sh c k) ∧ pcD sh (dsP sh c k) = 2 * c + k ∧ dsP sh c k % 4 = lsT (sh c) k := by
  obtain ⟨l1, l2, l3, l4⟩ := TF2 _ (f.2.1 _ hc) k hk2 hp
  have e1 : dsP sh c k / 4 = c := by unfold dsP; omega
  have e2 : dsP sh c k % 4 = lsT (sh c) k := by unfold dsP; omega
  refine ⟨⟨by unfold dsP; omega, by rw [e1, e2]; exact l2⟩, ?_, e2⟩
  unfold pcD
  rw [e1, e2, l4]
theorem s61 (f : FlH W H ar sh) (hb : BD h W H ar) (hs : SH h) (sc : SC h W H sh) {c k : Nat} (hc : c < W * H) (hk2 : k < 2) (hp : k < pcs (sh c)) (w2 w3 w4 w5 w6 w7 : Value) : ∃ h', X (61, 0, [.ref 12, .int (nI (2 * c + k)), w2, w3, w4, w5, w6, w7], [], h) = some (some (.int (nI (Lk W H ar sh (dsP sh c k)).length)), h') ∧ Fr [14] [] h h' ∧ ∀ p, hI h' 14 p = if p ∈ Lk W H ar sh (dsP sh c k) then 1 else hI h 14 p := by
  have h20 := (okS_1 f.1).2.2.1
  obtain ⟨p1, p2, p3⟩ := dsP_ok f hc hk2 hp
  obtain ⟨l1, l2, l3, l4⟩ := TF2 _ (f.2.1 _ hc) k hk2 hp
  obtain ⟨h', x1, x2, x3⟩ := s61l f (st := 2 * c + k) (by omega) 40 0 (by omega) (dsP sh c k) h w5 w6 w7 hb hs sc p1
  rw [p2, p3, Nat.zero_add] at x1
  unfold Lk
  rw [p2]
  exact ⟨h', by rw [g61_0 _ _ _ _ _ _ _ h hs, s63 hb hs sc hc hk2, bI_s, l3]; exact x1, x2, x3⟩
end Fo
