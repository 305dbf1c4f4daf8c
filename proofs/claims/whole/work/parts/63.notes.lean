/-! notes: a tile of a state, a state, a cell -/
def ixN (c s t : Nat) : Nat := (800 * c + s) * 10 + t
theorem nd_inj : ∀ (l : List Nat), l.Nodup → ∀ {a b x : Nat}, l[a]? = some x → l[b]? = some x → a = b := by
  intro l
  induction l with
  | nil => intro _ a b x h; simp at h
  | cons y l ih =>
    intro hd a b x h1 h2
    obtain ⟨d1, d2⟩ := List.nodup_cons.mp hd
    cases a with
    | zero =>
      cases b with
      | zero => rfl
      | succ b =>
        exfalso
        have e : y = x := Option.some.inj h1
        have h2 : l[b]? = some x := h2
        exact d1 (e ▸ (get_mem h2).1)
    | succ a =>
      cases b with
      | zero =>
        exfalso
        have e : y = x := Option.some.inj h2
        have h1 : l[a]? = some x := h1
        exact d1 (e ▸ (get_mem h1).1)
      | succ b =>
        have h1 : l[a]? = some x := h1
        have h2 : l[b]? = some x := h2
        rw [ih d2 h1 h2]
section Nt
variable (W H : Nat) (ar : Bool) (al : Nat → Nat)
def CEn (h : HP) (c : Nat) (L : List Nat) : Prop := hI h 33 c = nI L.length ∧ L.length ≤ 76 ∧ ∀ s n, L[s]? = some n → rch W H ar c n = true ∧ hI h 34 (800 * c + s) = nI (phi W ar c n) ∧ hL h 39 (800 * c + s) = lN (fwd W H ar al c n)
def NIv (h : HP) (c : Nat) (D : List Mv) (acc : List Nat) : Prop := SH h ∧ MD h W H ar ∧ AM h W H al ∧ (∀ k, 10 ≤ k → hI h 32 k = 0) ∧ CEn W H ar al h c (Ls W H ar al c) ∧ SLv W H ar h (c + 1) acc ∧ (∀ m ∈ D, m.2.2.1 ∈ acc) ∧ ∀ z n', acc[z]? = some n' → hL h 39 (800 * (c + 1) + z) = lN (rdS W H ar al c n' D)
def FFn (c i : Nat) (h h' : HP) : Prop := Fr [26, 32, 33, 34, 35, 36, 37] [39] h h' ∧ (∀ j, j ≠ 10 → hI h' 26 j = hI h 26 j) ∧ (∀ k, k ≤ c → hI h' 33 k = hI h 33 k) ∧ (∀ p, p < 800 * (c + 1) → hI h' 34 p = hI h 34 p ∧ hL h' 39 p = hL h 39 p) ∧ ∀ p, p < i → hI h' 36 p = hI h 36 p ∧ hI h' 37 p = hI h 37 p
def LEn (h : HP) (c n s t : Nat) (acc : List Nat) : Prop := match mvQ W H ar al c n t with
  | none => hI h 36 (ixN c s t) = -1
  | some q => ∃ z, acc[z]? = some q.1 ∧ hI h 36 (ixN c s t) = nI z ∧ hI h 37 (ixN c s t) = nI q.2
end Nt
theorem FFn.rfl' {c i : Nat} {h : HP} : FFn c i h h := ⟨Fr.rf, fun _ _ => rfl, fun _ _ => rfl, fun _ _ => ⟨rfl, rfl⟩, fun _ _ => ⟨rfl, rfl⟩⟩
theorem FFn.trn {c i j : Nat} {h1 h2 h3 : HP} (a : FFn c i h1 h2) (b : FFn c j h2 h3) (hij : i ≤ j) : FFn c i h1 h3 := by
  obtain ⟨a1, a2, a3, a4, a5⟩ := a
  obtain ⟨b1, b2, b3, b4, b5⟩ := b
  exact ⟨a1.tr b1, fun k hk => (b2 k hk).trans (a2 k hk), fun k hk => (b3 k hk).trans (a3 k hk), fun p hp => ⟨(b4 p hp).1.trans (a4 p hp).1, (b4 p hp).2.trans (a4 p hp).2⟩, fun p hp => ⟨(b5 p (by omega)).1.trans (a5 p hp).1, (b5 p (by omega)).2.trans (a5 p hp).2⟩⟩
section Nu
variable {W H : Nat} {ar : Bool} {al : Nat → Nat}
theorem LEn.keep {h h' : HP} {c n s t : Nat} {acc acc' : List Nat} (l : LEn W H ar al h c n s t acc) (e6 : hI h' 36 (ixN c s t) = hI h 36 (ixN c s t)) (e7 : hI h' 37 (ixN c s t) = hI h 37 (ixN c s t)) (ha : ∀ (z n : Nat), acc[z]? = some n → acc'[z]? = some n) : LEn W H ar al h' c n s t acc' := by
  unfold LEn at l ⊢
  cases e : mvQ W H ar al c n t with
  | none => rw [e] at l; show hI h' 36 _ = -1; rw [e6]; exact l
  | some q =>
    rw [e] at l
    obtain ⟨z, l1, l2, l3⟩ := l
    exact ⟨z, ha z _ l1, by rw [e6]; exact l2, by rw [e7]; exact l3⟩
theorem CEn.keep {h h' : HP} {c : Nat} {L : List Nat} (ce : CEn W H ar al h c L) (e3 : hI h' 33 c = hI h 33 c) (e4 : ∀ p, p < 800 * (c + 1) → hI h' 34 p = hI h 34 p ∧ hL h' 39 p = hL h 39 p) : CEn W H ar al h' c L := by
  obtain ⟨a, b, d⟩ := ce
  refine ⟨by rw [e3]; exact a, b, fun s n hs => ?_⟩
  have hl := (get_mem hs).2
  obtain ⟨x, y, z⟩ := d s n hs
  obtain ⟨p1, p2⟩ := e4 (800 * c + s) (by omega)
  exact ⟨x, by rw [p1]; exact y, by rw [p2]; exact z⟩
theorem SLv.keep {h h' : HP} {c : Nat} {acc : List Nat} (v : SLv W H ar h c acc) (e3 : hI h' 33 = hI h 33) (e4 : hI h' 34 = hI h 34) (e5 : hI h' 35 = hI h 35) : SLv W H ar h' c acc := by
  unfold SLv at v ⊢
  rw [e3, e4, e5]
  exact v
theorem NIv.nm {S : List Nat} {h k : HP} {c : Nat} {D : List Mv} {acc : List Nat} (ni : NIv W H ar al h c D acc) (f : Fr S [] h k) (hS : ∀ q ∈ S, q = 26 ∨ q = 32 ∨ q = 36 ∨ q = 37) (h26 : ∀ j, j ≠ 10 → hI k 26 j = hI h 26 j) (hj' : ∀ j, 10 ≤ j → hI k 32 j = 0) : NIv W H ar al k c D acc := by
  obtain ⟨hs, hm, ha, hj, ce, sl, jd, rd⟩ := ni
  have n' : ∀ q, ¬ (q = 26 ∨ q = 32 ∨ q = 36 ∨ q = 37) → q ∉ S := fun q hq u => hq (hS q u)
  have e : ∀ q, ¬ (q = 26 ∨ q = 32 ∨ q = 36 ∨ q = 37) → hI k q = hI h q := fun q hq => f.2.2.2.2.2.1 q (n' q hq)
  have l : ∀ q, hL k q = hL h q := fun q => f.2.2.2.2.2.2 q (by simp)
  exact ⟨f.sh hs (fun i hi => n' i (by omega)), hm.fr f (h26 0 (by decide)) (h26 1 (by decide)) (h26 2 (by decide)) (n' _ (by decide)) (n' _ (by decide)) (n' _ (by decide)), fun c hc => by rw [e 27 (by decide)]; exact ha c hc, hj', ce.keep (by rw [e 33 (by decide)]) (fun p _ => ⟨by rw [e 34 (by decide)], by rw [l]⟩), sl.keep (e 33 (by decide)) (e 34 (by decide)) (e 35 (by decide)), jd, fun z n' hz => by rw [l]; exact rd z n' hz⟩
theorem s120st {c s n t : Nat} {h : HP} {D : List Mv} {acc : List Nat} (hk : okS W H ar = true) (hc : c < W * H) (hsn : (Ls W H ar al c)[s]? = some n) (ht : t < 10) (ni : NIv W H ar al h c D acc) (a1 : Int32) (w5 : Value) : ∃ h' v5, X (120, 92, [.ref 26, .int a1, .int (nI c), .int (nI s), .int (nI t), w5], [], h) = X (120, 92, [.ref 26, .int a1, .int (nI c), .int (nI s), .int (nI (t + 1)), v5], [], h') ∧ FFn c (ixN c s t) h h' ∧ NIv W H ar al h' c (D ++ am1 W H ar al c n t) (ddl acc (am1 W H ar al c n t)) ∧ LEn W H ar al h' c n s t (ddl acc (am1 W H ar al c n t)) := by
  have h20 := (okS_1 hk).2.2.1
  have ni0 := ni
  obtain ⟨hs, hm, ha, hj, ce, sl, jd, rd⟩ := ni
  obtain ⟨c1, c2, c3⟩ := ce
  obtain ⟨e1, e2, e3⟩ := c3 s n hsn
  obtain ⟨n76, nL⟩ := rch_in hk c (by omega) n e1
  have hs76 := (get_mem hsn).2
  have x800 : 800 * nI c + nI s = nI (800 * c + s) := by rw [show (800 : Int32) = nI 800 from rfl, pk_mul, nI_add]
  have xi : nI (800 * c + s) * 10 + nI t = nI (ixN c s t) := by rw [show (10 : Int32) = nI 10 from rfl, pk_mul, nI_add]; rfl
  have ixl : ixN c s t < 168000 := by unfold ixN; omega
  have ixb : inB (nI (ixN c s t)) 168000 = true := inB_nI ixl (by decide)
  have n10 : ¬ (10 : Int32) ≤ nI t := nI_ge (show t < 10 from ht) (by decide)
  rw [g120_92 _ _ _ _ _ h hs, if_neg n10, x800, if_pos (inB_nI (by omega) (by decide)), nI_clamp (show 800 * c + s < 2 ^ 31 by omega), e2, s112 _ _ h hs, bV_s, opnM_phi hk (by omega) n76 nL hj, xi, if_pos ixb, nI_clamp (show ixN c s t < 2 ^ 31 by omega)]
  generalize hG : sI (sA h 32 (mt10 (phi W ar c n))) 36 (ixN c s t) (-1) = g
  have gF : Fr [32, 36] [] h g := by rw [← hG]; exact (Fr.sA (by decide)).tr (Fr.sI (by decide))
  have g32 : hI g 32 = mt10 (phi W ar c n) := by rw [← hG, hI_sI_o _ _ _ (by decide), hI_sA, if_pos rfl]
  have g36 : ∀ p, hI g 36 p = if p = ixN c s t then -1 else hI h 36 p := by
    intro p
    rw [← hG]
    by_cases u : p = ixN c s t
    · rw [u, if_pos rfl, hI_sI_same]
    · rw [if_neg u, hI_sI_ne _ _ u, hI_sA, if_neg (by decide)]
  have gI : ∀ r, r ≠ 32 → r ≠ 36 → hI g r = hI h r := fun r h1 h2 => gF.2.2.2.2.2.1 r (by simp; omega)
  have gj : ∀ k, 10 ≤ k → hI g 32 k = 0 := fun k hk => by rw [g32]; exact mt10_hi _ hk
  have gn : NIv W H ar al g c D acc := ni0.nm gF (by simp) (fun j _ => by rw [gI 26 (by decide) (by decide)]) gj
  have gs := gn.1
  have gm := gn.2.1
  have wF : ∀ q : M2, Fr [26, 32] [] g (wM g q) := fun q => (Fr.sA (by decide)).tr (Fr.sA (by decide))
  have w26 : ∀ (q : M2) j, hI (wM g q) 26 j = if j = 10 then q.2 else hI g 26 j := fun q j => by
    unfold wM
    rw [hI_sA, if_neg (by decide), hI_sA, if_pos rfl]
    rfl
  have w32 : ∀ q : M2, hI (wM g q) 32 = q.1 := fun q => by
    unfold wM
    rw [hI_sA, if_pos rfl]
  have nomove : mvQ W H ar al c n t = none → ∀ q : M2, (∀ k, 10 ≤ k → q.1 k = 0) → ∃ h' v5, X (120, 215, [.ref 26, .int a1, .int (nI c), .int (nI s), .int (nI t), .int (nI (ixN c s t))], [], wM g q) = X (120, 92, [.ref 26, .int a1, .int (nI c), .int (nI s), .int (nI (t + 1)), v5], [], h') ∧ FFn c (ixN c s t) h h' ∧ NIv W H ar al h' c (D ++ am1 W H ar al c n t) (ddl acc (am1 W H ar al c n t)) ∧ LEn W H ar al h' c n s t (ddl acc (am1 W H ar al c n t)) := by
    intro hmv q hq
    have kn : NIv W H ar al (wM g q) c D acc := gn.nm (wF q) (by simp) (fun j hj => by rw [w26, if_neg hj]) (fun k hk => by rw [w32]; exact hq k hk)
    have kF : Fr [26, 32, 36] [] h (wM g q) := (gF.mono (by simp) (by simp)).tr ((wF q).mono (by simp) (by simp))
    have k36 : hI (wM g q) 36 = hI g 36 := (wF q).2.2.2.2.2.1 36 (by decide)
    have ea : am1 W H ar al c n t = [] := by unfold am1; rw [hmv]
    refine ⟨wM g q, .int (nI (ixN c s t)), by rw [g120_215 _ _ _ _ _ _ kn.1, nI_1], ⟨kF.mono (by simp) (by simp), fun j hj => by rw [w26, if_neg hj, gI 26 (by decide) (by decide)], fun k _ => by rw [kF.2.2.2.2.2.1 33 (by decide)], fun p _ => ⟨by rw [kF.2.2.2.2.2.1 34 (by decide)], by rw [kF.2.2.2.2.2.2 39 (by simp)]⟩, fun p hp => ⟨by rw [k36, g36, if_neg (by omega)], by rw [kF.2.2.2.2.2.1 37 (by decide)]⟩⟩, ?_, ?_⟩
    · rw [ea, List.append_nil]; exact kn
    · rw [ea]
      unfold LEn
      rw [hmv]
      show hI (wM g q) 36 (ixN c s t) = -1
      rw [k36, g36, if_pos rfl]
  rw [s117 gm gs hc ht, gI 27 (by decide) (by decide), (ha c hc).1, bit10 _ (ha c hc).2 t ht]
  by_cases u : (al c).testBit t = true
  · have nz : ¬ aI ((al c).testBit t) = 0 := by rw [u]; decide
    rw [if_neg nz, g32]
    cases htr : tr W H ar c n t with
    | none =>
      obtain ⟨q, hq⟩ := V_none hk hc n76 nL ht htr
      rw [hq, bI_oBf, if_pos rfl]
      exact nomove (by unfold mvQ; rw [if_pos u]; exact htr) q (fun k hk2 => by rw [cmO_h hq hk2]; exact mt10_hi _ hk2)
    | some p =>
      obtain ⟨n', k⟩ := p
      obtain ⟨q, hq, q2, q1⟩ := V_some hk hc n76 nL ht htr
      obtain ⟨-, t2, t3, -⟩ := T_some hk hc n76 nL ht htr
      have hmv : mvQ W H ar al c n t = some (n', k) := by unfold mvQ; rw [if_pos u]; exact htr
      have ea : am1 W H ar al c n t = [(n, t, n', k)] := by unfold am1; rw [hmv]
      rw [hq, bI_oBt, if_neg (by decide), if_pos ixb, w26, if_pos rfl, q2]
      have qh : ∀ k, 10 ≤ k → q.1 k = 0 := fun k hk2 => by rw [cmO_h hq hk2]; exact mt10_hi _ hk2
      generalize hD3 : sI (wM g q) 37 (ixN c s t) (nI k) = d
      have dF : Fr [26, 32, 36, 37] [] h d := by
        rw [← hD3]
        exact ((gF.mono (by simp) (by simp)).tr ((wF q).mono (by simp) (by simp))).tr (Fr.sI (by simp))
      have d32 : hI d 32 = q.1 := by rw [← hD3, hI_sI_o _ _ _ (by decide)]; exact w32 q
      have d26 : ∀ j, j ≠ 10 → hI d 26 j = hI h 26 j := fun j hj => by rw [← hD3, hI_sI_o _ _ _ (by decide), w26, if_neg hj, gI 26 (by decide) (by decide)]
      have d36 : ∀ p, hI d 36 p = if p = ixN c s t then -1 else hI h 36 p := fun p => by
        rw [← hD3, hI_sI_o _ _ _ (by decide), (wF q).2.2.2.2.2.1 36 (by decide)]; exact g36 p
      have d37 : ∀ p, hI d 37 p = if p = ixN c s t then nI k else hI h 37 p := fun p => by
        rw [← hD3]
        by_cases v : p = ixN c s t
        · rw [v, if_pos rfl, hI_sI_same]
        · rw [if_neg v, hI_sI_ne _ _ v, (wF q).2.2.2.2.2.1 37 (by decide), gI 37 (by decide) (by decide)]
      have dn : NIv W H ar al d c D acc := ni0.nm dF (by simp) d26 (fun k hk2 => by rw [d32]; exact qh k hk2)
      obtain ⟨ds, dm, da, dj, dce, dsl, djd, drd⟩ := dn
      rw [s111 _ _ d ds, bI_s, d32, cd_phi hk (by omega) t2 t3 q1, nI_1]
      obtain ⟨h4, s', x1, o1, o2, o3, o4, o5, o6, o7⟩ := s119 ds hk (c := c + 1) (by omega) t2 t3 dsl .null
      rw [x1, bI_s]
      have s76 := Nat.lt_of_lt_of_le (get_mem o6).2 o7.len
      have x8' : 800 * nI (c + 1) + nI s' = nI (800 * (c + 1) + s') := by rw [show (800 : Int32) = nI 800 from rfl, pk_mul, nI_add]
      have b1 : inB (nI (800 * (c + 1) + s')) 16800 = true := inB_nI (by omega) (by decide)
      have b2 : inB (nI (800 * c + s)) 16800 = true := inB_nI (by omega) (by decide)
      simp only [if_pos ixb, hI_sI_same, x8', if_pos b1, if_pos b2, nI_clamp (show 800 * (c + 1) + s' < 2 ^ 31 by omega), hL_sI]
      have l4 : hL h4 39 (800 * c + s) = lN (fwd W H ar al c n) := by
        rw [(o3 (800 * c + s) (by omega)).2, dF.2.2.2.2.2.2 39 (by simp)]
        exact e3
      have l4' : hL h4 39 (800 * (c + 1) + s') = lN (rdS W H ar al c n' D) := by
        by_cases v : n' ∈ acc
        · have ed : ddc acc n' = acc := by unfold ddc; rw [if_pos v]
          have o6' := o6
          rw [ed] at o6'
          rw [o4 s' n' o6', drd s' n' o6']
        · rw [o5 v]
          have z : rdS W H ar al c n' D = 0 := sL'_0 (fun m hm => by
            have ne : ¬ m.2.2.1 = n' := fun e => v (by rw [← e]; exact jd m hm)
            exact if_neg ne)
          rw [z]; rfl
      rw [l4, l4', lN_add]
      generalize hE : sL (sI h4 36 (ixN c s t) (nI s')) 39 (800 * (c + 1) + s') (lN (rdS W H ar al c n' D + fwd W H ar al c n)) = e
      have eF4 : Fr [36] [39] h4 e := by rw [← hE]; exact (Fr.sI (by decide)).tr (Fr.sL (by decide))
      have eF : Fr [26, 32, 33, 34, 35, 36, 37] [39] h e := ((dF.mono (by simp) (by simp)).tr (o1.mono (by simp) (by simp))).tr (eF4.mono (by simp) (by simp))
      have es : SH e := eF.sh hs (by simp; omega)
      have e26 : ∀ j, j ≠ 10 → hI e 26 j = hI h 26 j := fun j hj => by
        rw [eF4.2.2.2.2.2.1 26 (by decide), o1.2.2.2.2.2.1 26 (by decide)]; exact d26 j hj
      have e36 : ∀ p, hI e 36 p = if p = ixN c s t then nI s' else hI h 36 p := fun p => by
        rw [← hE, hI_sL]
        by_cases v : p = ixN c s t
        · rw [v, if_pos rfl, hI_sI_same]
        · rw [if_neg v, hI_sI_ne _ _ v, o1.2.2.2.2.2.1 36 (by decide), d36, if_neg v]
      have e37 : ∀ p, hI e 37 p = if p = ixN c s t then nI k else hI h 37 p := fun p => by
        rw [eF4.2.2.2.2.2.1 37 (by decide), o1.2.2.2.2.2.1 37 (by decide)]; exact d37 p
      have e39 : ∀ p, hL e 39 p = if p = 800 * (c + 1) + s' then lN (rdS W H ar al c n' D + fwd W H ar al c n) else hL h4 39 p := fun p => by
        rw [← hE]
        by_cases v : p = 800 * (c + 1) + s'
        · rw [v, if_pos rfl, hL_sL_same]
        · rw [if_neg v, hL_sL_ne _ _ v, hL_sI]
      have e34 : ∀ p, p < 800 * (c + 1) → hI e 34 p = hI h 34 p ∧ hL e 39 p = hL h 39 p := fun p hp => by
        refine ⟨?_, ?_⟩
        · rw [eF4.2.2.2.2.2.1 34 (by decide), (o3 p hp).1, dF.2.2.2.2.2.1 34 (by decide)]
        · rw [e39, if_neg (by omega), (o3 p hp).2, dF.2.2.2.2.2.2 39 (by simp)]
      have e33 : ∀ i, i ≤ c → hI e 33 i = hI h 33 i := fun i hi => by
        rw [eF4.2.2.2.2.2.1 33 (by decide), o2 i (by omega), dF.2.2.2.2.2.1 33 (by decide)]
      have el : ddl acc (am1 W H ar al c n t) = ddc acc n' := by rw [ea]; rfl
      refine ⟨e, .int (nI (ixN c s t)), by rw [g120_215 _ _ _ _ _ _ es, nI_1], ⟨eF, e26, e33, e34, fun p hp => ⟨by rw [e36, if_neg (by omega)], by rw [e37, if_neg (by omega)]⟩⟩, ?_, ?_⟩
      · rw [el, ea]
        refine ⟨es, hm.fr eF (e26 0 (by decide)) (e26 1 (by decide)) (e26 2 (by decide)) (by decide) (by decide) (by decide), fun c hc => by rw [eF.2.2.2.2.2.1 27 (by decide)]; exact ha c hc, fun k hk2 => ?_, CEn.keep ⟨c1, c2, c3⟩ (e33 c (by omega)) e34, o7.keep (eF4.2.2.2.2.2.1 33 (by decide)) (eF4.2.2.2.2.2.1 34 (by decide)) (eF4.2.2.2.2.2.1 35 (by decide)), fun m hm => ?_, fun z n'' hz => ?_⟩
        · rw [eF4.2.2.2.2.2.1 32 (by decide), o1.2.2.2.2.2.1 32 (by decide), d32]; exact qh k hk2
        · rcases List.mem_append.mp hm with v | v
          · exact ddc_mem.mpr (Or.inl (jd m v))
          · have := List.mem_singleton.mp v
            subst this
            exact ddc_mem.mpr (Or.inr rfl)
        · have es1 : rdS W H ar al c n'' (D ++ [(n, t, n', k)]) = rdS W H ar al c n'' D + (if n' = n'' then fwd W H ar al c n else 0) := by
            unfold rdS
            rw [sL'_app]
            rfl
          rw [e39, es1]
          by_cases v : z = s'
          · subst v
            have : n' = n'' := by rw [o6] at hz; exact Option.some.inj hz
            subst this
            rw [if_pos rfl, if_pos rfl]
          · have nn : n' ≠ n'' := by
              intro e
              subst e
              exact v (nd_inj _ o7.1 hz o6)
            rw [if_neg (by omega), if_neg nn, Nat.add_zero]
            have hz' : acc[z]? = some n'' := by
              unfold ddc at hz
              by_cases y : n' ∈ acc
              · rw [if_pos y] at hz; exact hz
              · rw [if_neg y] at hz
                rcases Nat.lt_or_ge z acc.length with w | w
                · rw [List.getElem?_append_left w] at hz; exact hz
                · exfalso
                  rw [List.getElem?_append_right w] at hz
                  have hx := (get_mem hz).1
                  exact nn (List.mem_singleton.mp hx).symm
            rw [o4 z n'' hz', drd z n'' hz']
            rfl
      · rw [el]
        unfold LEn
        rw [hmv]
        exact ⟨s', o6, by rw [e36, if_pos rfl], by rw [e37, if_pos rfl]⟩
  · have z : aI ((al c).testBit t) = 0 := by
      have : (al c).testBit t = false := by simpa using u
      rw [this]; rfl
    rw [if_pos z, bI_s, if_pos rfl]
    exact nomove (by unfold mvQ; rw [if_neg u]) (hI g 32, 0) gj
theorem s120t {c s n : Nat} (hk : okS W H ar = true) (hc : c < W * H) (hsn : (Ls W H ar al c)[s]? = some n) (a1 : Int32) : ∀ (f t : Nat), t + f = 10 → ∀ (h : HP) (D : List Mv) (acc : List Nat) (w5 : Value), NIv W H ar al h c D acc → (∀ t', t' < t → LEn W H ar al h c n s t' acc) → ∃ h' v4 v5, X (120, 92, [.ref 26, .int a1, .int (nI c), .int (nI s), .int (nI t), w5], [], h) = X (120, 79, [.ref 26, .int a1, .int (nI c), .int (nI (s + 1)), v4, v5], [], h') ∧ FFn c (ixN c s 0) h h' ∧ NIv W H ar al h' c (D ++ amT W H ar al c n f t) (ddl acc (amT W H ar al c n f t)) ∧ ∀ t', t' < 10 → LEn W H ar al h' c n s t' (ddl acc (amT W H ar al c n f t)) := by
  intro f
  induction f with
  | zero =>
    intro t ht h D acc w5 ni le
    have : t = 10 := by omega
    subst this
    refine ⟨h, .int (nI 10), w5, ?_, FFn.rfl', by rw [amT, List.append_nil]; exact ni, le⟩
    rw [g120_92 _ _ _ _ _ h ni.1, if_pos (by decide), nI_1]
  | succ f ih =>
    intro t ht h D acc w5 ni le
    obtain ⟨g, v5, x1, x2, x3, x4⟩ := s120st hk hc hsn (show t < 10 by omega) ni a1 w5
    obtain ⟨h', u4, u5, y1, y2, y3, y4⟩ := ih (t + 1) (by omega) g _ _ v5 x3 (fun t' ht' => by
      rcases Nat.lt_or_ge t' t with u | u
      · obtain ⟨p1, p2⟩ := x2.2.2.2.2 (ixN c s t') (by unfold ixN; omega)
        exact LEn.keep (le t' u) p1 p2 (fun z n hz => ddl_get _ hz)
      · have : t' = t := by omega
        subst this
        exact x4)
    refine ⟨h', u4, u5, by rw [x1]; exact y1, ?_, ?_, ?_⟩
    · refine FFn.trn (i := ixN c s 0) ?_ y2 (Nat.le_refl _)
      obtain ⟨a, b, d, e, i⟩ := x2
      exact ⟨a, b, d, e, fun p hp => i p (by unfold ixN at *; omega)⟩
    · rw [amT, ← List.append_assoc, ddl_app]; exact y3
    · rw [amT, ddl_app]; exact y4
theorem s120s {c : Nat} (hk : okS W H ar = true) (hc : c < W * H) (a1 : Int32) : ∀ (R P : List Nat), Ls W H ar al c = P ++ R → ∀ (h : HP) (w4 w5 : Value), NIv W H ar al h c (amN W H ar al c P) (ddl [] (amN W H ar al c P)) → (∀ s n, P[s]? = some n → ∀ t, t < 10 → LEn W H ar al h c n s t (ddl [] (amN W H ar al c P))) → ∃ h' v3 v4 v5, X (120, 79, [.ref 26, .int a1, .int (nI c), .int (nI P.length), w4, w5], [], h) = X (120, 41, [.ref 26, .int a1, .int (nI (c + 1)), v3, v4, v5], [], h') ∧ FFn c (ixN c 0 0) h h' ∧ NIv W H ar al h' c (amN W H ar al c (Ls W H ar al c)) (Ls W H ar al (c + 1)) ∧ ∀ s n, (Ls W H ar al c)[s]? = some n → ∀ t, t < 10 → LEn W H ar al h' c n s t (Ls W H ar al (c + 1)) := by
  have h20 := (okS_1 hk).2.2.1
  intro R
  induction R with
  | nil =>
    intro P hP h w4 w5 ni le
    have eP : Ls W H ar al c = P := by rw [hP, List.append_nil]
    have c1 := ni.2.2.2.2.1.1
    have c2 := ni.2.2.2.2.1.2.1
    refine ⟨h, .int (nI P.length), w4, w5, ?_, FFn.rfl', by rw [Ls, eP]; exact ni, by rw [Ls, eP]; exact le⟩
    rw [g120_79 _ _ _ _ _ h ni.1, if_pos (inB_nI (by omega) (by decide)), nI_clamp (by omega), c1, eP, if_pos (nI_le (Nat.le_refl _) (by rw [eP] at c2; omega)), nI_1]
  | cons n R ih =>
    intro P hP h w4 w5 ni le
    have c1 := ni.2.2.2.2.1.1
    have c2 := ni.2.2.2.2.1.2.1
    have ll : (Ls W H ar al c).length = P.length + (R.length + 1) := by rw [hP, List.length_append]; rfl
    have hsn : (Ls W H ar al c)[P.length]? = some n := by rw [hP, List.getElem?_append_right (Nat.le_refl _), Nat.sub_self]; rfl
    have hP2 : Ls W H ar al c = (P ++ [n]) ++ R := by rw [hP]; simp
    obtain ⟨g, u4, u5, x1, x2, x3, x4⟩ := s120t hk hc hsn a1 10 0 (by omega) h _ _ w5 ni (fun t' ht' => absurd ht' (Nat.not_lt_zero _))
    have ea : amN W H ar al c (P ++ [n]) = amN W H ar al c P ++ amT W H ar al c n 10 0 := by
      rw [amN_app]
      show _ ++ (amT W H ar al c n 10 0 ++ []) = _
      rw [List.append_nil]
    have l1 : P.length + 1 = (P ++ [n]).length := by rw [List.length_append]; rfl
    obtain ⟨h', v3, v4, v5, y1, y2, y3, y4⟩ := ih (P ++ [n]) hP2 g u4 u5 (by rw [ea, ddl_app]; exact x3) (fun s m hm t ht => by
      rw [ea, ddl_app]
      rcases Nat.lt_or_ge s P.length with w | w
      · rw [List.getElem?_append_left w] at hm
        obtain ⟨p1, p2⟩ := x2.2.2.2.2 (ixN c s t) (by unfold ixN; omega)
        exact LEn.keep (le s m hm t ht) p1 p2 (fun z n hz => ddl_get _ hz)
      · rw [List.getElem?_append_right w] at hm
        have hl := (get_mem hm).2
        have hl : s - P.length < 1 := hl
        have e0 : s = P.length := by omega
        subst e0
        rw [Nat.sub_self] at hm
        have : n = m := Option.some.inj hm
        subst this
        exact x4 t ht)
    refine ⟨h', v3, v4, v5, ?_, ?_, y3, y4⟩
    · rw [g120_79 _ _ _ _ _ h ni.1, if_pos (inB_nI (by omega) (by decide)), nI_clamp (by omega), c1, if_neg (nI_ge (by omega) (by omega)), show (0 : Int32) = nI 0 from rfl, x1, l1]
      exact y1
    · refine FFn.trn (i := ixN c 0 0) ?_ y2 (Nat.le_refl _)
      obtain ⟨a, b, d, e, i⟩ := x2
      exact ⟨a, b, d, e, fun p hp => i p (by unfold ixN at *; omega)⟩
end Nu
