/-! rank in the component; its methods that count -/
section Ah
variable {W H : Nat} {ar : Bool} {al sh : Nat → Nat}
theorem ah_scan {any : Bool} {d c n laid s : Nat} (hn : rch W H ar c n = true) (hn76 : n < 76) : scan (ahF W H ar al any d c n laid) (mvs W H ar c) s = scan (ahF W H ar al any d c n laid) (mvT W H ar c n 10 0) s := by
  unfold mvs
  refine scan_one (fun m s hm => ?_) hn 76 0 (by omega) (by omega) s
  unfold ahF
  rw [if_neg (fun u => hm u.1)]
theorem ah_ex {any : Bool} {d c n laid : Nat} {q : Nat × Nat} (hq : tr W H ar c n laid = some q) (hv : (al c).testBit laid = true) : ∀ (f t s : Nat), t ≤ laid → laid < t + f → ∃ s', scan (ahF W H ar al any d c n laid) (mvT W H ar c n f t) s = .inl ((n, laid, q.1, q.2), s') := by
  intro f
  induction f with
  | zero => intro t s h1 h2; omega
  | succ f ih =>
    intro t s h1 h2
    rw [mvT]
    by_cases u : t = laid
    · subst u
      rw [hq]
      refine ⟨s, ?_⟩
      show sb (ahF W H ar al any d c n t s (n, t, q.1, q.2)) _ = _
      unfold ahF
      rw [if_pos ⟨rfl, Nat.le_refl _, hv⟩, if_pos rfl]
      rfl
    · cases htr : tr W H ar c n t with
      | none => exact ih (t + 1) s (by omega) (by omega)
      | some p =>
        by_cases v : (al c).testBit t = true
        · obtain ⟨s', e⟩ := ih (t + 1) (s + wy W H ar al any d (c + 1) p.1 p.2) (by omega) (by omega)
          refine ⟨s', ?_⟩
          show sb (ahF W H ar al any d c n laid s (n, t, p.1, p.2)) _ = _
          have : ahF W H ar al any d c n laid s (n, t, p.1, p.2) = .inr (s + wy W H ar al any d (c + 1) p.1 p.2) := by
            unfold ahF
            rw [if_pos ⟨rfl, h1, v⟩, if_neg u]
          rw [this]; exact e
        · obtain ⟨s', e⟩ := ih (t + 1) s (by omega) (by omega)
          refine ⟨s', ?_⟩
          show sb (ahF W H ar al any d c n laid s (n, t, p.1, p.2)) _ = _
          have : ahF W H ar al any d c n laid s (n, t, p.1, p.2) = .inr s := by
            unfold ahF
            rw [if_neg (fun z => v z.2.2)]
          rw [this]; exact e
theorem s84l {c n d qm qw laid : Nat} {any : Bool} {a a3 : Int32} {h : HP} (hc : c < W * H) (hb : BD h W H ar) (hs : SH h) (ha : AL h W H al) (mo : MOK h qm W H ar) (wr : WR W H ar al h qw (c + 1)) (hn : n < 76) (hl : laid < 10) (hd : DU any d a) (w2 : Value) {m : Mv} {s' : Nat} : ∀ (R D : List Mv), mvs W H ar c = D ++ R → ∀ (s : Nat), scan (ahF W H ar al any d c n laid) R s = .inl (m, s') → ∀ (w6 w13 w14 : Value), ∃ v6 v10 v11 v12 v13 v14, X (84, 70, [.ref 15, .ref 12, w2, .int a3, .int (aI any), .long (lN s), w6, .int a, .int (nI n), .int (nI c), .int (nI laid), .int (nI (mvA W H ar (c + 1)).length), .int (nI ((mvA W H ar c).length + D.length)), w13, w14], [], h) = X (84, 197, [.ref 15, .ref 12, w2, .int a3, .int (aI any), .long (lN s'), v6, .int (a - nI m.2.2.2), .int (nI m.2.2.1), .int (nI c), v10, v11, v12, v13, v14], [], h) := by
  intro R
  have hk := hb.1
  have h20 := (okS_1 hk).2.2.1
  have la := mvA_len (W := W) (H := H) (ar := ar) (c + 1)
  have ls := mvA_succ (W := W) (H := H) (ar := ar) c
  induction R with
  | nil => intro D hD s e; cases e
  | cons p R ih =>
    intro D hD s e w6 w13 w14
    have hp' : p ∈ mvs W H ar c := by rw [hD]; simp
    have hD2 : mvs W H ar c = (D ++ [p]) ++ R := by rw [hD]; simp
    have lD : (mvs W H ar c).length = D.length + (R.length + 1) := by rw [hD, List.length_append]; rfl
    have hat : (mvs W H ar c)[D.length]? = some p := by rw [hD, List.getElem?_append_right (Nat.le_refl _), Nat.sub_self]; rfl
    have hp := mvA_at (N := W * H) hc hat
    obtain ⟨ok, k1, k2, k3⟩ := mvs_ok hk hc hp'
    have mv := mo.2.2.2.1
    have l1 : (mvA W H ar c).length + (D ++ [p]).length = (mvA W H ar c).length + D.length + 1 := by rw [List.length_append]; rfl
    have o1 := ok.1
    have o2 := ok.2.1
    have o4 := ok.2.2.2
    have e' : sb (ahF W H ar al any d c n laid s p) (scan (ahF W H ar al any d c n laid) R) = .inl (m, s') := e
    rw [g84_70 _ _ _ _ _ _ _ _ _ _ _ _ _ h hs, if_neg (nI_ge (by omega) (by omega)), s49 hs mv hp ok, bI_s, s47 hs mv hp ok, bI_s]
    by_cases q : p.1 = n
    · rw [q, if_pos rfl]
      by_cases z : p.2.1 ≤ laid
      · rw [if_neg (nI_nlt z (by omega)), s16 hb hs ha hc o2, bI_s]
        by_cases v : (al c).testBit p.2.1 = true
        · rw [v, if_neg (by decide), s50 hs mv hp ok, bI_s]
          unfold ahF at e'
          rw [if_pos ⟨q, z, v⟩] at e'
          by_cases u : p.2.1 = laid
          · rw [if_pos u] at e'
            have e2 := Prod.mk.inj (Sum.inl.inj e')
            obtain ⟨rfl, rfl⟩ := e2
            rw [u, if_pos rfl, s48 hs mv hp ok, bI_s]
            exact ⟨_, _, _, _, _, _, rfl⟩
          · have nu : ¬ nI p.2.1 = nI laid := fun e => u ((nI_eq (by omega) (by omega)).mp e)
            rw [if_neg u] at e'
            rw [if_neg nu, s48 hs mv hp ok, bI_s, nI_1, s79w wr (by omega) k3 hd o4, bL_s, lN_add, g84_191 _ _ _ _ _ _ _ _ _ _ _ _ _ h hs, nI_1, ← l1]
            exact ih (D ++ [p]) hD2 _ e' _ _ _
        · have v' : (al c).testBit p.2.1 = false := by simpa using v
          unfold ahF at e'
          rw [if_neg (fun u => v u.2.2)] at e'
          rw [v', if_pos (by decide), g84_191 _ _ _ _ _ _ _ _ _ _ _ _ _ h hs, nI_1, ← l1]
          exact ih (D ++ [p]) hD2 s e' _ _ _
      · unfold ahF at e'
        rw [if_neg (fun u => z u.2.1)] at e'
        rw [if_pos (nI_lt (by omega) (by omega)), g84_191 _ _ _ _ _ _ _ _ _ _ _ _ _ h hs, nI_1, ← l1]
        exact ih (D ++ [p]) hD2 s e' _ _ _
    · have nq : ¬ nI p.1 = nI n := fun e => q ((nI_eq (by omega) (by omega)).mp e)
      unfold ahF at e'
      rw [if_neg (fun u => q u.1)] at e'
      rw [if_neg nq, g84_191 _ _ _ _ _ _ _ _ _ _ _ _ _ h hs, nI_1, ← l1]
      exact ih (D ++ [p]) hD2 s e' _ _ _
/-- the step of a filling -/
theorem lp_st {r c n y : Nat} (h : lpF W H ar al sh (r + 1) c n = some y) : ∃ q z, (al c).testBit (sh c) = true ∧ tr W H ar c n (sh c) = some q ∧ lpF W H ar al sh r (c + 1) q.1 = some z ∧ y = z + q.2 := by
  rw [lpF] at h
  by_cases v : (al c).testBit (sh c) = true
  · rw [if_pos v] at h
    cases htr : tr W H ar c n (sh c) with
    | none => rw [htr] at h; cases h
    | some q =>
      rw [htr] at h
      have h : (lpF W H ar al sh r (c + 1) q.1).map (· + q.2) = some y := h
      cases e : lpF W H ar al sh r (c + 1) q.1 with
      | none => rw [e] at h; cases h
      | some z =>
        rw [e] at h
        exact ⟨q, z, v, rfl, e, (Option.some.inj h).symm⟩
  · rw [if_neg v] at h; cases h
theorem rch_st (hk : okS W H ar = true) {c n t : Nat} {q : Nat × Nat} (hc : c < W * H) (hn : rch W H ar c n = true) (ht : t < 10) (h : tr W H ar c n t = some q) : (n, t, q.1, q.2) ∈ mvs W H ar c := by
  obtain ⟨n1, n2⟩ := rch_in hk c (by omega) n hn
  have a : ∀ (f t0 : Nat), t0 ≤ t → t < t0 + f → (n, t, q.1, q.2) ∈ mvT W H ar c n f t0 := by
    intro f
    induction f with
    | zero => intro t0 h1 h2; omega
    | succ f ih =>
      intro t0 h1 h2
      rw [mvT]
      by_cases u : t0 = t
      · subst u
        rw [h]
        exact List.mem_append_left _ (List.mem_singleton.mpr rfl)
      · exact List.mem_append_right _ (ih (t0 + 1) (by omega) (by omega))
  have hm : ∀ (k n0 : Nat), n0 ≤ n → n < n0 + k → (n, t, q.1, q.2) ∈ mvN W H ar c (rch W H ar c) k n0 := by
    intro k
    induction k with
    | zero => intro n0 h1 h2; omega
    | succ k ih =>
      intro n0 h1 h2
      rw [mvN]
      by_cases u : n0 = n
      · subst u
        rw [if_pos hn]
        exact List.mem_append_left _ (a 10 0 (by omega) (by omega))
      · exact List.mem_append_right _ (ih (n0 + 1) (by omega) (by omega))
  exact hm 76 0 (by omega) (by omega)
theorem s84c {any : Bool} {qm qw : Nat} {h : HP} (hb : BD h W H ar) (hs : SH h) (ha : AL h W H al) (mo : MOK h qm W H ar) (wr : ∀ c, c ≤ W * H → WR W H ar al h qw c) (sc : SC h W H sh) (w2 : Value) : ∀ (r c : Nat), c + r = W * H → ∀ (n d s y : Nat) (a : Int32) (w6 w10 w11 w12 w13 w14 : Value), rch W H ar c n = true → lpF W H ar al sh r c n = some y → DU any d a → (any = true ∨ d = y) → X (84, 32, [.ref 15, .ref 12, w2, .int (nI (W * H)), .int (aI any), .long (lN s), w6, .int a, .int (nI n), .int (nI c), w10, w11, w12, w13, w14], [], h) = some (some (.long (lN (ahd W H ar al any sh r c n d s))), h) := by
  have hk := hb.1
  have h20 := (okS_1 hk).2.2.1
  intro r
  induction r with
  | zero =>
    intro c hc n d s y a w6 w10 w11 w12 w13 w14 hn hl hd hdy
    rw [g84_32 _ _ _ _ _ _ _ _ _ _ _ _ _ h hs, if_pos (nI_le (by omega) (by omega)), ahd]
  | succ r ih =>
    intro c hc n d s y a w6 w10 w11 w12 w13 w14 hn hl hd hdy
    have hcl : c < W * H := by omega
    obtain ⟨n1, n2⟩ := rch_in hk c (by omega) n hn
    obtain ⟨s1, s2⟩ := sc c hcl
    obtain ⟨q, z, e1, e2, e3, e4⟩ := lp_st hl
    have hm := rch_st hk hcl hn s2 e2
    obtain ⟨ok, k1, k2, k3⟩ := mvs_ok hk hcl hm
    obtain ⟨s', x⟩ := ah_ex (any := any) (d := d) e2 e1 10 0 s (by omega) (by omega)
    have x' := x
    rw [← ah_scan hn n1] at x'
    obtain ⟨v6, v10, v11, v12, v13, v14, y1⟩ := s84l (al := al) (a3 := nI (W * H)) hcl hb hs ha mo (wr (c + 1) (by omega)) n1 s2 hd w2 (mvs W H ar c) [] rfl s x' w6 w13 w14
    have e0 : nI ((mvA W H ar c).length + ([] : List Mv).length) = nI (mvA W H ar c).length := rfl
    rw [e0] at y1
    rw [g84_32 _ _ _ _ _ _ _ _ _ _ _ _ _ h hs, if_neg (nI_ge (by omega) (by omega)), s53 hb hs hcl, bI_s, s1, nI_1, s45 hs hk mo (by omega), bI_s, s45 hs hk mo (by omega), bI_s, y1, g84_197 _ _ _ _ _ _ _ _ _ _ _ _ _ h hs, nI_1]
    have dk : any = true ∨ q.2 ≤ d := hdy.imp id (fun u => by omega)
    rw [ih (c + 1) (by omega) q.1 (d - q.2) s' z (a - nI q.2) v6 v10 v11 v12 v13 v14 k3 e3 (hd.sub dk) (hdy.imp id (fun u => by omega)), ahd, x]
/-! the component's methods -/
theorem UF.rq {S : List Nat} {h h' : HP} (f : RQ h h') : UF S h h' := by
  obtain ⟨b1, b2, b3, b4, b5, b6, b7, b8⟩ := f
  refine ⟨fun q _ _ => by rw [b5], fun q _ hn => b6 q ?_ ?_, fun q _ h15 _ => b7 q h15, by rw [b2]⟩
  · intro e; exact hn (by rw [e]; decide)
  · intro e; exact hn (by rw [e]; decide)
theorem s90 {u : Nat} {h : HP} {qm qw s : Nat} (cs : CSx u W H ar al h qm qw s) (a : Int32) : ∃ h' qm' qw', X (90, 0, [.ref 5, .int a], [], h) = some (some (.long (lN (cntI W H ar al 0 0 a))), h') ∧ CSx u W H ar al h' qm' qw' 0 ∧ UF slS h h' := by
  obtain ⟨h', qm', qw', x1, x2, x3⟩ := s71 cs .null
  refine ⟨h', qm', qw', ?_, x2, x3⟩
  rw [g90_0 _ h cs.1, x1, bV_s, s70 (x2.wr (by omega)), bL_s]
/-- what weigh answers -/
def wgh (W H : Nat) (ar : Bool) (al : Nat → Nat) (b : Int64) : Nat → Nat → Int64 → Int64 → Int64
  | 0, _, v, _ => v
  | f + 1, l, v, p => wgh W H ar al b f (l + 1) (v + p * lN (cnt W H ar al (W * H) 0 0 l)) (p * b)
theorem cntI_n {l : Nat} (hl : l < 2 ^ 31) : cntI W H ar al 0 0 (nI l) = cnt W H ar al (W * H) 0 0 l := by
  unfold cntI
  have e : ¬ nI l = -1 := by
    intro e
    have := nI_pos hl
    rw [e] at this
    exact this (by decide)
  rw [if_neg e, if_neg (nI_pos hl), nI_clamp hl, Nat.sub_zero]
theorem s91 {u : Nat} {h : HP} {qm qw s : Nat} (cs : CSx u W H ar al h qm qw s) (a : Int32) (w2 w3 w4 w5 w6 : Value) : ∃ h' qm' qw', X (91, 0, [.ref 5, .int a, w2, w3, w4, w5, w6], [], h) = some (some (.long (wgh W H ar al a.toInt64 13 0 0 1)), h') ∧ CSx u W H ar al h' qm' qw' 0 ∧ UF slS h h' := by
  obtain ⟨h', qm', qw', x1, x2, x3⟩ := s71 cs .null
  refine ⟨h', qm', qw', ?_, x2, x3⟩
  rw [g91_0 _ _ _ _ _ _ h cs.1, x1, bV_s]
  have key : ∀ (f l : Nat), l + f = 13 → ∀ (v p : Int64) (w3 w5 : Value), X (91, 15, [.ref 5, .int a, .long v, w3, .long p, w5, .int (nI l)], [], h') = some (some (.long (wgh W H ar al a.toInt64 f l v p)), h') := by
    intro f
    induction f with
    | zero =>
      intro l hl v p w3 w5
      have : l = 13 := by omega
      subst this
      rw [g91_15 _ _ _ _ _ _ h' x2.1, if_pos (by decide)]
      rfl
    | succ f ih =>
      intro l hl v p w3 w5
      rw [g91_15 _ _ _ _ _ _ h' x2.1, if_neg (show ¬ (12 : Int32) < nI l from nI_nlt (show l ≤ 12 by omega) (by decide)), s70 (x2.wr (by omega)), bL_s, cntI_n (by omega), nI_1, ih (l + 1) (by omega), wgh]
  exact key 13 0 (by omega) 0 1 .null .null
/-- what loopsOf answers -/
def lpo (W H : Nat) (ar : Bool) (al : Nat → Nat) (w : Bool) : Nat → Nat → Int32 → Int32
  | 0, _, v => v
  | f + 1, l, v => lpo W H ar al w f (l + 1) (if cnt W H ar al (W * H) 0 0 l ≠ 0 ∧ (w = true ∨ v = -1) then nI l else v)
theorem s92 {u : Nat} {h : HP} {qm qw s : Nat} (cs : CSx u W H ar al h qm qw s) (w : Bool) (w2 w3 w4 : Value) : ∃ h' qm' qw', X (92, 0, [.ref 5, .int (aI w), w2, w3, w4], [], h) = some (some (.int (lpo W H ar al w 13 0 (-1))), h') ∧ CSx u W H ar al h' qm' qw' 0 ∧ UF slS h h' := by
  obtain ⟨h', qm', qw', x1, x2, x3⟩ := s71 cs .null
  refine ⟨h', qm', qw', ?_, x2, x3⟩
  have hk := cs.2.1.1
  have st : X (92, 0, [.ref 5, .int (aI w), w2, w3, w4], [], h) = X (92, 11, [.ref 5, .int (aI w), w2, w3, w4], [], h) := by
    rw [g92_0 _ _ _ _ h cs.1]
    cases w
    · rw [if_pos (by decide)]
    · rw [if_neg (by decide), if_pos (by decide)]
  rw [st, g92_11 _ _ _ _ h cs.1, x1, bV_s]
  have key : ∀ (f l : Nat), l + f = 13 → ∀ (v : Int32) (w4 : Value), X (92, 22, [.ref 5, .int (aI w), .int v, .int (nI l), w4], [], h') = some (some (.int (lpo W H ar al w f l v)), h') := by
    intro f
    induction f with
    | zero =>
      intro l hl v w4
      have : l = 13 := by omega
      subst this
      rw [g92_22 _ _ _ _ h' x2.1, if_pos (by decide)]
      rfl
    | succ f ih =>
      intro l hl v w4
      have j38 : ∀ w4, X (92, 38, [.ref 5, .int (aI w), .int v, .int (nI l), w4], [], h') = some (some (.int (lpo W H ar al w f (l + 1) (if cnt W H ar al (W * H) 0 0 l ≠ 0 then nI l else v))), h') := by
        intro w4
        have c63 := cnt_63 (al := al) (n := 0) (l := l) hk (Nat.zero_le (W * H))
        rw [Nat.sub_zero] at c63
        have lt : cnt W H ar al (W * H) 0 0 l < 2 ^ 63 := Nat.lt_of_le_of_lt c63 (by decide)
        rw [g92_38 _ _ _ _ h' x2.1, s70 (x2.wr (by omega)), bL_s, cntI_n (by omega)]
        by_cases q : cnt W H ar al (W * H) 0 0 l ≠ 0
        · have nc : ¬ lg_cmp (lN (cnt W H ar al (W * H) 0 0 l)) 0 ≤ 0 := by
            rw [lg_cmp_le, show (0 : Int64) = lN 0 from rfl, pk_lLE lt (by decide)]
            omega
          rw [if_neg nc, if_pos q, g92_65 _ _ _ _ h' x2.1, nI_1, ih (l + 1) (by omega)]
        · have nc : lg_cmp (lN (cnt W H ar al (W * H) 0 0 l)) 0 ≤ 0 := by
            rw [lg_cmp_le, show (0 : Int64) = lN 0 from rfl, pk_lLE lt (by decide)]
            omega
          rw [if_pos nc, if_neg q, g92_65 _ _ _ _ h' x2.1, nI_1, ih (l + 1) (by omega)]
      rw [g92_22 _ _ _ _ h' x2.1, if_neg (show ¬ (12 : Int32) < nI l from nI_nlt (show l ≤ 12 by omega) (by decide)), lpo]
      cases w with
      | true =>
        rw [if_pos (by decide), j38]
        simp
      | false =>
        rw [if_neg (by decide)]
        by_cases q : v = -1
        · rw [if_pos q, j38]
          simp [q]
        · rw [if_neg q, g92_65 _ _ _ _ h' x2.1, nI_1, ih (l + 1) (by omega)]
          simp [q]
  exact key 13 0 (by omega) (-1) w4
end Ah
