/-! find and rank in the component -/
section Ch
variable (W H : Nat) (ar : Bool) (al : Nat → Nat)
def pkF (any : Bool) (d c n : Nat) : Nat → Mv → Sum (Mv × Nat) Nat := fun s m => if m.1 = n ∧ (al c).testBit m.2.1 = true then (if s < wy W H ar al any d (c + 1) m.2.2.1 m.2.2.2 then .inl (m, s) else .inr (s - wy W H ar al any d (c + 1) m.2.2.1 m.2.2.2)) else .inr s
def chs (any : Bool) : Nat → Nat → Nat → Nat → Nat → List Nat
  | 0, _, _, _, _ => []
  | r + 1, c, n, d, s => match scan (pkF W H ar al any d c n) (mvT W H ar c n 10 0) s with
    | .inl q => q.1.2.1 :: chs any r (c + 1) q.1.2.2.1 (d - q.1.2.2.2) q.2
    | .inr _ => []
def ahF (any : Bool) (d c n laid : Nat) : Nat → Mv → Sum (Mv × Nat) Nat := fun s m => if m.1 = n ∧ m.2.1 ≤ laid ∧ (al c).testBit m.2.1 = true then (if m.2.1 = laid then .inl (m, s) else .inr (s + wy W H ar al any d (c + 1) m.2.2.1 m.2.2.2)) else .inr s
def ahd (any : Bool) (sh : Nat → Nat) : Nat → Nat → Nat → Nat → Nat → Nat
  | 0, _, _, _, s => s
  | r + 1, c, n, d, s => match scan (ahF W H ar al any d c n (sh c)) (mvT W H ar c n 10 0) s with
    | .inl q => ahd any sh r (c + 1) q.1.2.2.1 (d - q.1.2.2.2) q.2
    | .inr s' => s'
/-- the loops of a filling, from a cell on -/
def lpF (sh : Nat → Nat) : Nat → Nat → Nat → Option Nat
  | 0, _, _ => some 0
  | r + 1, c, n => if (al c).testBit (sh c) = true then (match tr W H ar c n (sh c) with
    | none => none
    | some q => (lpF sh r (c + 1) q.1).map (· + q.2)) else none
end Ch
section Ci
variable {W H : Nat} {ar : Bool} {al : Nat → Nat}
theorem lp_rn {sh : Nat → Nat} : ∀ (r c n k : Nat), (∀ y, lpF W H ar al sh r c n = some y → rn W H ar al sh r c n k = (c + r, k + y)) ∧ (lpF W H ar al sh r c n = none → (rn W H ar al sh r c n k).1 < c + r) := by
  intro r
  induction r with
  | zero =>
    intro c n k
    refine ⟨fun y h => ?_, fun h => by cases h⟩
    have : y = 0 := (Option.some.inj h).symm
    subst this
    rfl
  | succ r ih =>
    intro c n k
    rw [lpF, rn]
    by_cases q : (al c).testBit (sh c) = true
    · rw [if_pos q, if_pos q]
      cases tr W H ar c n (sh c) with
      | none => exact ⟨fun y h => (by cases h), fun _ => by show c < c + (r + 1); omega⟩
      | some p =>
        obtain ⟨a, b⟩ := ih (c + 1) p.1 (k + p.2)
        show (∀ y, (lpF W H ar al sh r (c + 1) p.1).map (· + p.2) = some y → rn W H ar al sh r (c + 1) p.1 (k + p.2) = _) ∧ ((lpF W H ar al sh r (c + 1) p.1).map (· + p.2) = none → (rn W H ar al sh r (c + 1) p.1 (k + p.2)).1 < _)
        cases e : lpF W H ar al sh r (c + 1) p.1 with
        | none => exact ⟨fun y h => (by cases h), fun _ => by have := b e; omega⟩
        | some z =>
          refine ⟨fun y h => ?_, fun h => by cases h⟩
          have hy : z + p.2 = y := Option.some.inj h
          rw [a z e, ← hy]
          congr 1 <;> omega
    · rw [if_neg q, if_neg q]
      exact ⟨fun y h => (by cases h), fun _ => by show c < c + (r + 1); omega⟩
/-- how a number of loops stands in an int, if it counts -/
def DU (any : Bool) (d : Nat) (a : Int32) : Prop := any = true ∨ (any = false ∧ a = nI d ∧ d ≤ 12)
theorem DU.sub {any : Bool} {d k : Nat} {a : Int32} (h : DU any d a) (hk : any = true ∨ k ≤ d) : DU any (d - k) (a - nI k) := by
  rcases h with h | ⟨h1, h2, h3⟩
  · exact Or.inl h
  · right
    have hkd : k ≤ d := by
      rcases hk with u | u
      · rw [h1] at u; cases u
      · exact u
    exact ⟨h1, by rw [h2, pk_sub hkd], by omega⟩
theorem s79w {h : HP} {qw c n : Nat} (w : WR W H ar al h qw c) (hc : c ≤ W * H) (hn : rch W H ar c n = true) {any : Bool} {d k : Nat} {a : Int32} (hd : DU any d a) (hk : k ≤ 12) (w5 w6 w7 w8 : Value) : X (79, 0, [.ref 15, .int (nI c), .int (nI n), .int (aI any), .int (a - nI k), w5, w6, w7, w8], [], h) = some (some (.long (lN (wy W H ar al any d c n k))), h) := by
  unfold wy
  rcases hd with e | ⟨e, e2, e3⟩
  · subst e
    exact s79a w hc hn _ w5 w6 w7 w8
  · subst e
    rw [e2]
    show X (79, 0, [.ref 15, .int (nI c), .int (nI n), .int 0, .int (nI d - nI k), w5, w6, w7, w8], [], h) = some (some (.long (lN (if k ≤ d then cnt W H ar al (W * H - c) c n (d - k) else 0))), h)
    by_cases q : k ≤ d
    · rw [if_pos q, pk_sub q, s79n w hc hn (d - k) (by omega)]
    · rw [if_neg q, s79m w hc _ (pk_sneg (by omega) (by omega))]
      rfl
theorem wy_sub {any : Bool} {d c n k : Nat} (h : any = true ∨ k ≤ d) : wy W H ar al any d c n k = wy W H ar al any (d - k) c n 0 := by
  unfold wy
  by_cases q : any = true
  · rw [if_pos q, if_pos q]
  · have : k ≤ d := by
      rcases h with u | u
      · exact absurd u q
      · exact u
    rw [if_neg q, if_neg q, if_pos this, if_pos (Nat.zero_le _), Nat.sub_zero]
/-- there is a tile to choose -/
theorem pk_ex {any : Bool} {d c n : Nat} : ∀ (f t s : Nat), s < sT (fun t => if (al c).testBit t = true then (match tr W H ar c n t with
    | none => 0
    | some q => wy W H ar al any d (c + 1) q.1 q.2) else 0) f t → ∃ m s', scan (pkF W H ar al any d c n) (mvT W H ar c n f t) s = .inl (m, s') ∧ m ∈ mvT W H ar c n f t ∧ (al c).testBit m.2.1 = true ∧ s' < wy W H ar al any d (c + 1) m.2.2.1 m.2.2.2 ∧ s' ≤ s := by
  intro f
  induction f with
  | zero => intro t s h; exact absurd h (Nat.not_lt_zero _)
  | succ f ih =>
    intro t s h
    rw [sT] at h
    rw [mvT]
    cases htr : tr W H ar c n t with
    | none =>
      have h' : s < sT (fun t => if (al c).testBit t = true then (match tr W H ar c n t with
        | none => 0
        | some q => wy W H ar al any d (c + 1) q.1 q.2) else 0) f (t + 1) := by
        simp only [htr] at h
        split at h <;> omega
      obtain ⟨m, s', a, b, e⟩ := ih (t + 1) s h'
      exact ⟨m, s', a, b, e⟩
    | some q =>
      simp only [htr] at h
      by_cases v : (al c).testBit t = true
      · rw [if_pos v] at h
        by_cases w : s < wy W H ar al any d (c + 1) q.1 q.2
        · refine ⟨(n, t, q.1, q.2), s, ?_, List.mem_cons_self, v, w, Nat.le_refl _⟩
          show sb (pkF W H ar al any d c n s (n, t, q.1, q.2)) _ = _
          unfold pkF
          rw [if_pos ⟨rfl, v⟩, if_pos w]
          rfl
        · obtain ⟨m, s', a, b, e1, e2, e3⟩ := ih (t + 1) (s - wy W H ar al any d (c + 1) q.1 q.2) (by omega)
          refine ⟨m, s', ?_, List.mem_cons_of_mem _ b, e1, e2, by omega⟩
          show sb (pkF W H ar al any d c n s (n, t, q.1, q.2)) _ = _
          have : pkF W H ar al any d c n s (n, t, q.1, q.2) = .inr (s - wy W H ar al any d (c + 1) q.1 q.2) := by
            unfold pkF
            rw [if_pos ⟨rfl, v⟩, if_neg w]
          rw [this]
          exact a
      · rw [if_neg v, Nat.zero_add] at h
        obtain ⟨m, s', a, b, e⟩ := ih (t + 1) s h
        refine ⟨m, s', ?_, List.mem_cons_of_mem _ b, e⟩
        show sb (pkF W H ar al any d c n s (n, t, q.1, q.2)) _ = _
        have : pkF W H ar al any d c n s (n, t, q.1, q.2) = .inr s := by
          unfold pkF
          rw [if_neg (fun u => v u.2)]
        rw [this]
        exact a
theorem pk_ok (hk : okS W H ar = true) {any : Bool} {d c n s : Nat} (hc : c < W * H) (hn : rch W H ar c n = true) (hs : s < wy W H ar al any d c n 0) : ∃ m s', scan (pkF W H ar al any d c n) (mvT W H ar c n 10 0) s = .inl (m, s') ∧ m ∈ mvs W H ar c ∧ m.1 = n ∧ (al c).testBit m.2.1 = true ∧ (any = true ∨ m.2.2.2 ≤ d) ∧ s' < wy W H ar al any (d - m.2.2.2) (c + 1) m.2.2.1 0 ∧ s' ≤ s := by
  obtain ⟨n1, n2⟩ := rch_in hk c (by omega) n hn
  rw [wy_rec hk any d hc n1 n2] at hs
  obtain ⟨m, s', a, b, e1, e2, e3⟩ := pk_ex 10 0 s hs
  have hd : any = true ∨ m.2.2.2 ≤ d := by
    by_cases q : any = true
    · exact Or.inl q
    · right
      rcases Nat.lt_or_ge d m.2.2.2 with u | u
      · exfalso
        unfold wy at e2
        rw [if_neg q, if_neg (by omega)] at e2
        omega
      · exact u
  have hm : ∀ (k n0 : Nat), n0 ≤ n → n < n0 + k → m ∈ mvN W H ar c (rch W H ar c) k n0 := by
    intro k
    induction k with
    | zero => intro n0 h1 h2; omega
    | succ k ih =>
      intro n0 h1 h2
      rw [mvN]
      by_cases q : n0 = n
      · subst q
        rw [if_pos hn]
        exact List.mem_append_left _ b
      · exact List.mem_append_right _ (ih (n0 + 1) (by omega) (by omega))
  exact ⟨m, s', a, hm 76 0 (by omega) (by omega), (mvT_mem _ _ b).1, e1, hd, by rw [← wy_sub hd]; exact e2, e3⟩
theorem s83l {c n d qm qw : Nat} {any : Bool} {a a5 : Int32} {h : HP} (hc : c < W * H) (hb : BD h W H ar) (hs : SH h) (ha : AL h W H al) (mo : MOK h qm W H ar) (wr : WR W H ar al h qw (c + 1)) (hn : n < 76) (hd : DU any d a) (w2 w3 w4 : Value) {m : Mv} {s' : Nat} : ∀ (R D : List Mv), mvs W H ar c = D ++ R → ∀ (s : Nat), s < 2 ^ 62 → scan (pkF W H ar al any d c n) R s = .inl (m, s') → ∀ (w8 w14 w15 w16 : Value), ∃ v8 v12 v13 v14 v15 v16, X (83, 64, [.ref 15, .ref 12, w2, w3, w4, .int a5, .int (aI any), .long (lN s), w8, .int a, .int (nI n), .int (nI c), .int (nI (mvA W H ar (c + 1)).length), .int (nI ((mvA W H ar c).length + D.length)), w14, w15, w16], [], h) = X (83, 200, [.ref 15, .ref 12, w2, w3, w4, .int a5, .int (aI any), .long (lN s'), v8, .int (a - nI m.2.2.2), .int (nI m.2.2.1), .int (nI c), v12, v13, v14, v15, v16], [], sI h 13 c (nI m.2.1)) := by
  intro R
  have hk := hb.1
  have h20 := (okS_1 hk).2.2.1
  have la := mvA_len (W := W) (H := H) (ar := ar) (c + 1)
  have ls := mvA_succ (W := W) (H := H) (ar := ar) c
  induction R with
  | nil => intro D hD s hs63 e; cases e
  | cons p R ih =>
    intro D hD s hs63 e w8 w14 w15 w16
    have hp' : p ∈ mvs W H ar c := by rw [hD]; simp
    have hD2 : mvs W H ar c = (D ++ [p]) ++ R := by rw [hD]; simp
    have lD : (mvs W H ar c).length = D.length + (R.length + 1) := by rw [hD, List.length_append]; rfl
    have hat : (mvs W H ar c)[D.length]? = some p := by rw [hD, List.getElem?_append_right (Nat.le_refl _), Nat.sub_self]; rfl
    have hp := mvA_at (N := W * H) hc hat
    obtain ⟨ok, k1, k2, k3⟩ := mvs_ok hk hc hp'
    have mv := mo.2.2.2.1
    have l1 : (mvA W H ar c).length + (D ++ [p]).length = (mvA W H ar c).length + D.length + 1 := by rw [List.length_append]; rfl
    have o1 := ok.1
    have o2 := ok.2.1
    have o4 := ok.2.2.2
    have e' : sb (pkF W H ar al any d c n s p) (scan (pkF W H ar al any d c n) R) = .inl (m, s') := e
    rw [g83_64 _ _ _ _ _ _ _ _ _ _ _ _ _ _ _ h hs, if_neg (nI_ge (by omega) (by omega)), s47 hs mv hp ok, bI_s]
    by_cases q : p.1 = n
    · rw [q, if_pos rfl, s49 hs mv hp ok, bI_s, s16 hb hs ha hc o2, bI_s]
      by_cases v : (al c).testBit p.2.1 = true
      · have w63 := wy_63 (al := al) (W := W) (H := H) (ar := ar) hk any (d := d) (c := c + 1) (n := p.2.2.1) (k := p.2.2.2) (by omega)
        rw [v, if_neg (by decide), s50 hs mv hp ok, bI_s, s48 hs mv hp ok, bI_s, nI_1, s79w wr (by omega) k3 hd o4, bL_s]
        unfold pkF at e'
        rw [if_pos ⟨q, v⟩] at e'
        by_cases u : s < wy W H ar al any d (c + 1) p.2.2.1 p.2.2.2
        · have nc : ¬ 0 ≤ lg_cmp (lN s) (lN (wy W H ar al any d (c + 1) p.2.2.1 p.2.2.2)) := by
            rw [lg_cmp_ge, pk_lLE (by omega) (by omega)]
            omega
          rw [if_pos u] at e'
          have e2 := Prod.mk.inj (Sum.inl.inj e')
          obtain ⟨rfl, rfl⟩ := e2
          have fs : SH (sI h 13 c (nI p.2.1)) := hs.sIs 13 rfl
          have fm : Fr [13] [] h (sI h 13 c (nI p.2.1)) := Fr.sI (by simp)
          have m21 := mv.2.1
          have mo2 := mo.fr fm (by decide) (by decide) (by simp; omega)
          rw [if_neg nc, s49 hs mv hp ok, bI_s, s54 hb hs hc o2, bV_s, s48 fs mo2.2.2.2.1 hp ok, bI_s]
          exact ⟨_, _, _, _, _, _, rfl⟩
        · have nc : 0 ≤ lg_cmp (lN s) (lN (wy W H ar al any d (c + 1) p.2.2.1 p.2.2.2)) := by
            rw [lg_cmp_ge, pk_lLE (by omega) (by omega)]
            omega
          rw [if_neg u] at e'
          rw [if_pos nc, lN_sub (by omega), g83_194 _ _ _ _ _ _ _ _ _ _ _ _ _ _ _ h hs, nI_1, ← l1]
          exact ih (D ++ [p]) hD2 _ (by omega) e' _ _ _ _
      · have v' : (al c).testBit p.2.1 = false := by simpa using v
        unfold pkF at e'
        rw [if_neg (fun u => v u.2)] at e'
        rw [v', if_pos (by decide), g83_194 _ _ _ _ _ _ _ _ _ _ _ _ _ _ _ h hs, nI_1, ← l1]
        exact ih (D ++ [p]) hD2 s hs63 e' _ _ _ _
    · have nq : ¬ nI p.1 = nI n := fun e => q ((nI_eq (by omega) (by omega)).mp e)
      unfold pkF at e'
      rw [if_neg (fun u => q u.1)] at e'
      rw [if_neg nq, g83_194 _ _ _ _ _ _ _ _ _ _ _ _ _ _ _ h hs, nI_1, ← l1]
      exact ih (D ++ [p]) hD2 s hs63 e' _ _ _ _
theorem WR.fr {h h' : HP} {qw c : Nat} {S : List Nat} (w : WR W H ar al h qw c) (f : Fr S [] h h') (hs' : SH h') (h15 : 15 ∉ S) (h22 : 22 ∉ S) : WR W H ar al h' qw c := by
  obtain ⟨hs, hk, wv, hF, hr, wc⟩ := w
  exact ⟨hs', hk, wv.fr f, by rw [f.2.2.2.2.2.1 15 h15]; exact hF, by rw [f.2.1]; exact hr, wc.of (f.2.2.2.2.2.1 22 h22) (f.2.2.2.2.2.2 qw (by simp))⟩
theorem pk_scan {any : Bool} {d c n s : Nat} (hn : rch W H ar c n = true) (hn76 : n < 76) : scan (pkF W H ar al any d c n) (mvs W H ar c) s = scan (pkF W H ar al any d c n) (mvT W H ar c n 10 0) s := by
  unfold mvs
  refine scan_one (fun m s hm => ?_) hn 76 0 (by omega) (by omega) s
  unfold pkF
  rw [if_neg (fun u => hm u.1)]
theorem s83c {any : Bool} {qm qw : Nat} (w2 w3 w4 : Value) : ∀ (r c : Nat), c + r = W * H → ∀ (h : HP) (n d s : Nat) (a : Int32) (w8 w12 w13 w14 w15 w16 : Value), BD h W H ar → SH h → AL h W H al → MOK h qm W H ar → (∀ c, c ≤ W * H → WR W H ar al h qw c) → rch W H ar c n = true → DU any d a → s < wy W H ar al any d c n 0 → ∃ h', X (83, 33, [.ref 15, .ref 12, w2, w3, w4, .int (nI (W * H)), .int (aI any), .long (lN s), w8, .int a, .int (nI n), .int (nI c), w12, w13, w14, w15, w16], [], h) = some (none, h') ∧ Fr [13] [] h h' ∧ (∀ i, i < r → hI h' 13 (c + i) = nI ((chs W H ar al any r c n d s).getD i 0)) ∧ (∀ j, j < c → hI h' 13 j = hI h 13 j) ∧ (∀ i, (chs W H ar al any r c n d s).getD i 0 < 10) := by
  intro r
  induction r with
  | zero =>
    intro c hc h n d s a w8 w12 w13 w14 w15 w16 hb hs ha mo wr hn hd hsl
    have h20 := (okS_1 hb.1).2.2.1
    refine ⟨h, ?_, Fr.rf, fun i hi => absurd hi (Nat.not_lt_zero _), fun _ _ => rfl, fun i => by rw [chs]; exact (show (0 : Nat) < 10 by decide)⟩
    rw [g83_33 _ _ _ _ _ _ _ _ _ _ _ _ _ _ _ h hs, if_pos (nI_le (by omega) (by omega))]
  | succ r ih =>
    intro c hc h n d s a w8 w12 w13 w14 w15 w16 hb hs ha mo wr hn hd hsl
    have hk := hb.1
    have h20 := (okS_1 hk).2.2.1
    obtain ⟨n1, n2⟩ := rch_in hk c (by omega) n hn
    obtain ⟨m, s', e1, e2, e3, e4, e5, e6, e7⟩ := pk_ok (al := al) hk (show c < W * H by omega) hn hsl
    obtain ⟨ok, k1, k2, k3⟩ := mvs_ok hk (show c < W * H by omega) e2
    have w63 := wy_63 (al := al) (W := W) (H := H) (ar := ar) hk any (d := d) (c := c) (n := n) (k := 0) (by omega)
    have e1' := e1
    rw [← pk_scan hn n1] at e1'
    obtain ⟨v8, v12, v13, v14, v15, v16, x1⟩ := s83l (al := al) (a5 := nI (W * H)) (show c < W * H by omega) hb hs ha mo (wr (c + 1) (by omega)) n1 hd w2 w3 w4 (mvs W H ar c) [] rfl s (by omega) e1' w8 w14 w15 w16
    have e0 : nI ((mvA W H ar c).length + ([] : List Mv).length) = nI (mvA W H ar c).length := rfl
    rw [e0] at x1
    generalize hG : sI h 13 c (nI m.2.1) = g at x1
    have gF : Fr [13] [] h g := by rw [← hG]; exact Fr.sI (by simp)
    have gs : SH g := by rw [← hG]; exact hs.sIs 13 rfl
    have m21 := mo.2.2.2.1.2.1
    obtain ⟨h', y1, y2, y3, y4, y5⟩ := ih (c + 1) (by omega) g m.2.2.1 (d - m.2.2.2) s' (a - nI m.2.2.2) v8 v12 v13 v14 v15 v16 (hb.fr gF (by decide) (by decide) (by decide)) gs (ha.fr gF (by decide)) (mo.fr gF (by decide) (by decide) (by simp; omega)) (fun c hc => (wr c hc).fr gF gs (by decide) (by decide)) k3 (hd.sub e5) e6
    have ec : chs W H ar al any (r + 1) c n d s = m.2.1 :: chs W H ar al any r (c + 1) m.2.2.1 (d - m.2.2.2) s' := by
      rw [chs, e1]
    refine ⟨h', ?_, gF.tr y2, fun i hi => ?_, fun j hj => ?_, fun i => ?_⟩
    · rw [g83_33 _ _ _ _ _ _ _ _ _ _ _ _ _ _ _ h hs, if_neg (nI_ge (by omega) (by omega)), nI_1, s45 hs hk mo (by omega), bI_s, s45 hs hk mo (by omega), bI_s, x1, g83_200 _ _ _ _ _ _ _ _ _ _ _ _ _ _ _ g gs, nI_1]
      exact y1
    · rw [ec]
      cases i with
      | zero =>
        rw [Nat.add_zero, y4 c (by omega), ← hG, hI_sI_same]
        rfl
      | succ i =>
        rw [show c + (i + 1) = c + 1 + i by omega, y3 i (by omega)]
        rfl
    · rw [y4 j (by omega), ← hG, hI_sI_ne _ _ (by omega)]
    · rw [ec]
      cases i with
      | zero => exact ok.2.1
      | succ i => exact y5 i
end Ci
