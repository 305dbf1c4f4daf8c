/-! ways of a cell, all moves -/
section Sc
variable {W H : Nat} {ar : Bool} {al : Nat → Nat}
theorem MOK.fr {S T : List Nat} {h h' : HP} {qm : Nat} (m : MOK h qm W H ar) (f : Fr S T h h') (h16 : 16 ∉ S) (h17 : 17 ∉ S) (hq : qm ∉ S) : MOK h' qm W H ar := by
  obtain ⟨a1, a2, a3, a4, a5⟩ := m
  have e16 := f.2.2.2.2.2.1 16 h16
  have e17 := f.2.2.2.2.2.1 17 h17
  exact ⟨by rw [e16]; exact a1, by rw [e16]; exact a2, by rw [e16]; exact a3, a4.fr (by rw [f.2.2.1]) (by rw [f.2.2.2.1]; exact Nat.le_refl _) (by rw [f.1]) (by rw [f.2.1]) (f.2.2.2.2.2.1 qm hq) (by rw [e16]), fun i hi => by rw [e17]; exact a5 i hi⟩
theorem AL.fr {S T : List Nat} {h h' : HP} (a : AL h W H al) (f : Fr S T h h') (h7 : 7 ∉ S) : AL h' W H al := fun c hc => by rw [f.2.2.2.2.2.1 7 h7]; exact a c hc
theorem cS_1 {c n l : Nat} {D : List Mv} {m : Mv} : cS W H ar al c n l (D ++ [m]) = cS W H ar al c n l D + (if m.1 = n then ct W H ar al c l m.2.1 m.2.2.1 m.2.2.2 else 0) := by
  unfold cS
  rw [sL'_app]
  rfl
/-- what solving one cell needs -/
def SVi (W H : Nat) (ar : Bool) (al : Nat → Nat) (qm qw c T : Nat) (D : List Mv) (h : HP) : Prop := BD h W H ar ∧ SH h ∧ AL h W H al ∧ MOK h qm W H ar ∧ WV h qw ∧ hI h 15 6 = nI (frN W ar) ∧ px (frN W ar) (W * H + 1) 0 0 ≤ hN h qw ∧ hI h 22 (c + 1) = nI T ∧ T ≤ 12 ∧ (∀ n, rch W H ar (c + 1) n = true → ∀ l, T < l → cnt W H ar al (W * H - (c + 1)) (c + 1) n l = 0) ∧ (∀ n, rch W H ar (c + 1) n = true → ∀ l, l ≤ 12 → hL h qw (px (frN W ar) (c + 1) n l) = lN (cnt W H ar al (W * H - (c + 1)) (c + 1) n l)) ∧ ∀ n, rch W H ar c n = true → ∀ l, l ≤ 12 → hL h qw (px (frN W ar) c n l) = lN (cS W H ar al c n l D)
theorem s73l {qm qw c T : Nat} (hc : c < W * H) : ∀ (R D : List Mv), mvs W H ar c = D ++ R → ∀ (h : HP) (mo : Nat), SVi W H ar al qm qw c T D h → mo ≤ 12 → (∀ m ∈ D, (al c).testBit m.2.1 = true → m.2.2.2 ≤ mo) → ∃ h', X (73, 28, [.ref 15, .int (nI c), .int (nI mo), .int (nI (mvA W H ar (c + 1)).length), .int (nI ((mvA W H ar c).length + D.length))], [], h) = some (none, h') ∧ Fr [22] [qw] h h' ∧ SH h' ∧ (∀ q, px (frN W ar) (c + 1) 0 0 ≤ q → hL h' qw q = hL h qw q) ∧ (∀ d, d ≠ c → hI h' 22 d = hI h 22 d) ∧ (∃ T', hI h' 22 c = nI T' ∧ T' ≤ 12 ∧ (T' = 12 ∨ ∃ mo, T' = T + mo ∧ ∀ m ∈ mvs W H ar c, (al c).testBit m.2.1 = true → m.2.2.2 ≤ mo)) ∧ ∀ n, rch W H ar c n = true → ∀ l, l ≤ 12 → hL h' qw (px (frN W ar) c n l) = lN (cS W H ar al c n l (mvs W H ar c)) := by
  intro R
  induction R with
  | nil =>
    intro D hD h mo hi hmo hall
    obtain ⟨hb, hs, ha, mk, wv, hF, hr, hT, hT12, hz, hn, hrow⟩ := hi
    rw [List.append_nil] at hD
    have h20 := (okS_1 hb.1).2.2.1
    have la := mvA_len (W := W) (H := H) (ar := ar) (c + 1)
    have ls := mvA_succ (W := W) (H := H) (ar := ar) c
    rw [hD] at ls
    rw [g73_28 _ _ _ _ h hs, if_pos (nI_le (by omega) (by omega)), nI_1, s77 hs (by omega), bI_s, if_pos (inB_nI (by omega) (by decide)), nI_clamp (by omega), hT, nI_add]
    have e : (if nI (T + mo) < 12 then nI (T + mo) else 12) = nI (min (T + mo) 12) := by
      rw [show (12 : Int32) = nI 12 from rfl]
      by_cases u : T + mo < 12
      · rw [if_pos (nI_lt u (by decide)), Nat.min_eq_left (by omega)]
      · rw [if_neg (nI_nlt (by omega) (by omega)), Nat.min_eq_right (by omega)]
    rw [e]
    refine ⟨_, rfl, Fr.sI (by simp), hs.sIs 22 rfl, fun q _ => rfl, fun d hd => hI_sI_ne _ _ hd, ⟨min (T + mo) 12, hI_sI_same _ _ _ _, Nat.min_le_right _ _, ?_⟩, fun n hn' l hl => by rw [hD]; exact hrow n hn' l hl⟩
    rcases Nat.lt_or_ge (T + mo) 12 with u | u
    · right
      exact ⟨mo, Nat.min_eq_left (by omega), by rw [hD]; exact hall⟩
    · left; exact Nat.min_eq_right u
  | cons m R ih =>
    intro D hD h mo hi hmo hall
    have hi' := hi
    obtain ⟨hb, hs, ha, mk, wv, hF, hr, hT, hT12, hz, hn, hrow⟩ := hi
    have hk := hb.1
    have h20 := (okS_1 hk).2.2.1
    have la := mvA_len (W := W) (H := H) (ar := ar) (c + 1)
    have ls := mvA_succ (W := W) (H := H) (ar := ar) c
    have hm : m ∈ mvs W H ar c := by rw [hD]; simp
    have hD2 : mvs W H ar c = (D ++ [m]) ++ R := by rw [hD]; simp
    have lD : (mvs W H ar c).length = D.length + (R.length + 1) := by rw [hD, List.length_append]; rfl
    have hat : (mvs W H ar c)[D.length]? = some m := by rw [hD, List.getElem?_append_right (Nat.le_refl _), Nat.sub_self]; rfl
    have hp := mvA_at (N := W * H) hc hat
    obtain ⟨ok, k1, k2, k3⟩ := mvs_ok hk hc hm
    have mv := mk.2.2.2.1
    have qm21 := mv.2.1
    have l1 : (mvA W H ar c).length + (D ++ [m]).length = (mvA W H ar c).length + D.length + 1 := by rw [List.length_append]; rfl
    rw [g73_28 _ _ _ _ h hs, if_neg (nI_ge (by omega) (by omega)), s49 hs mv hp ok, bI_s, s16 hb hs ha hc ok.2.1, bI_s]
    by_cases q : (al c).testBit m.2.1 = true
    · obtain ⟨h1, x1, x2, x3, x4, x5⟩ := s74 hs hk hc hF wv hr mk hm hp hT hT12 .null .null .null .null .null
      have em : (if nI mo < nI m.2.2.2 then nI m.2.2.2 else nI mo) = nI (max mo m.2.2.2) := by
        have := ok.2.2.2
        by_cases u : mo < m.2.2.2
        · rw [if_pos (nI_lt u (by omega)), Nat.max_eq_right (by omega)]
        · rw [if_neg (nI_nlt (by omega) (by omega)), Nat.max_eq_left (by omega)]
      rw [q, if_neg (by decide), s50 hs mv hp ok, bI_s, x1, bV_s, em, g73_75 _ _ _ _ h1 x3, nI_1, ← l1]
      have I1 : hI h1 = hI h := by funext r; exact x2.2.2.2.2.2.1 r (by simp)
      obtain ⟨h2, y1, y2, y3, y4, y5, y6, y7⟩ := ih (D ++ [m]) hD2 h1 (max mo m.2.2.2) ⟨hb.fr x2 (by simp) (by simp) (by simp), x3, ha.fr x2 (by simp), mk.fr x2 (by simp) (by simp) (by simp), wv.fr x2, by rw [I1]; exact hF, by rw [x2.2.1]; exact hr, by rw [I1]; exact hT, hT12, hz, fun n hn' l hl => by rw [x4 _ px_ge]; exact hn n hn' l hl, fun n hn' l hl => by
        obtain ⟨n76, nL⟩ := rch_in hk c (by omega) n hn'
        have nF := T_lt hk (by omega) n76 nL
        rw [x5 n l nF hl, cS_1, hrow n hn' l hl]
        by_cases u : m.1 = n
        · rw [if_pos u]
          unfold ct
          rw [if_pos q]
          by_cases v : m.2.2.2 ≤ l
          · rw [if_pos v]
            by_cases z : l - m.2.2.2 ≤ T
            · rw [if_pos ⟨u.symm, v, z⟩, hn _ k3 _ (by omega), lN_add]
            · rw [if_neg (fun y => z y.2.2), hz _ k3 _ (by omega), Nat.add_zero]
          · rw [if_neg (fun y => v y.2.1), if_neg v, Nat.add_zero]
        · rw [if_neg (fun y => u y.1.symm), if_neg u, Nat.add_zero]⟩ (by have := ok.2.2.2; omega) (fun x hx hb2 => by
        rcases List.mem_append.mp hx with y | y
        · have := hall x y hb2; omega
        · have := List.mem_singleton.mp y
          subst this
          omega)
      exact ⟨h2, y1, (x2.mono (by simp) (by simp)).tr y2, y3, fun r hr2 => (y4 r hr2).trans (x4 r hr2), fun d hd => (y5 d hd).trans (by rw [I1]), y6, y7⟩
    · have q' : (al c).testBit m.2.1 = false := by simpa using q
      rw [q', if_pos (by decide), g73_75 _ _ _ _ h hs, nI_1, ← l1]
      refine ih (D ++ [m]) hD2 h mo ⟨hb, hs, ha, mk, wv, hF, hr, hT, hT12, hz, hn, fun n hn' l hl => ?_⟩ hmo (fun x hx hb2 => ?_)
      · rw [cS_1, hrow n hn' l hl]
        have : ct W H ar al c l m.2.1 m.2.2.1 m.2.2.2 = 0 := by unfold ct; rw [if_neg q]
        rw [this]
        by_cases u : m.1 = n
        · rw [if_pos u, Nat.add_zero]
        · rw [if_neg u, Nat.add_zero]
      · rcases List.mem_append.mp hx with y | y
        · exact hall x y hb2
        · have := List.mem_singleton.mp y
          subst this
          exact absurd hb2 q
theorem s73 {h : HP} {qm qw c : Nat} (hc : c < W * H) (hb : BD h W H ar) (hs : SH h) (ha : AL h W H al) (mk : MOK h qm W H ar) (wv : WV h qw) (hF : hI h 15 6 = nI (frN W ar)) (hr : px (frN W ar) (W * H + 1) 0 0 ≤ hN h qw) (wc : WC W H ar al h qw (c + 1)) (w2 w3 w4 : Value) : ∃ h', X (73, 0, [.ref 15, .int (nI c), w2, w3, w4], [], h) = some (none, h') ∧ Fr [22] [qw] h h' ∧ SH h' ∧ WC W H ar al h' qw c ∧ ∀ d, c < d → WC W H ar al h qw d → WC W H ar al h' qw d := by
  have hk := hb.1
  have h20 := (okS_1 hk).2.2.1
  obtain ⟨T, t1, t2, t3, t4⟩ := wc
  have le5 : px (frN W ar) (c + 1) 0 0 ≤ px (frN W ar) (W * H + 1) 0 0 := px_mono (by omega)
  obtain ⟨g, x1, x2, x3, x4⟩ := s75 (c := c) hs hF wv (by omega) .null .null
  have gI : hI g = hI h := by funext r; exact x2.2.2.2.2.2.1 r (by simp)
  have mk2 := mk.fr x2 (by simp) (by simp) (by simp)
  have up : ∀ q, px (frN W ar) (c + 1) 0 0 ≤ q → hL g qw q = hL h qw q := fun q hq => by rw [x4, if_neg (by omega)]
  obtain ⟨h', y1, y2, y3, y4, y5, ⟨T', z1, z2, z3⟩, y7⟩ := s73l (al := al) (T := T) (qw := qw) (qm := qm) hc (mvs W H ar c) [] rfl g 0 ⟨hb.fr x2 (by simp) (by simp) (by simp), x3, ha.fr x2 (by simp), mk2, wv.fr x2, by rw [gI]; exact hF, by rw [x2.2.1]; exact hr, by rw [gI]; exact t1, t2, t3, fun n hn l hl => by rw [up _ px_ge]; exact t4 n hn l hl, fun n hn l hl => by
    obtain ⟨n76, nL⟩ := rch_in hk c (by omega) n hn
    have nF := T_lt hk (by omega) n76 nL
    rw [x4, if_pos ⟨px_ge, px_lt nF hl⟩]
    rfl⟩ (by omega) (fun x hx => by cases hx)
  refine ⟨h', ?_, (x2.mono (by simp) (by simp)).tr y2, y3, ⟨T', z1, z2, fun n hn l hl => ?_, fun n hn l hl => ?_⟩, fun d hd wd => ?_⟩
  · rw [g73_0 _ _ _ _ h hs, x1, bV_s, nI_1, s45 x3 hk mk2 (by omega), bI_s, s45 x3 hk mk2 (by omega), bI_s]
    exact y1
  · obtain ⟨n76, nL⟩ := rch_in hk c (by omega) n hn
    rcases z3 with z3 | ⟨mo, z3, z4⟩
    · exact cnt_12 hk (by omega) hn (by omega)
    · rw [cnt_L hc n76 hn]
      refine sL'_0 (fun m hm => ?_)
      show (if m.1 = n then ct W H ar al c l m.2.1 m.2.2.1 m.2.2.2 else 0) = 0
      by_cases u : m.1 = n
      · rw [if_pos u]
        unfold ct
        by_cases v : (al c).testBit m.2.1 = true
        · rw [if_pos v]
          have := z4 m hm v
          rw [if_pos (by omega)]
          exact t3 _ (mvs_ok hk hc hm).2.2.2 _ (by omega)
        · rw [if_neg v]
      · rw [if_neg u]
  · obtain ⟨n76, nL⟩ := rch_in hk c (by omega) n hn
    rw [y7 n hn l hl, cnt_L hc n76 hn]
  · obtain ⟨T2, e1, e2, e3, e4⟩ := wd
    refine ⟨T2, by rw [y5 d (by omega), gI]; exact e1, e2, e3, fun n hn l hl => ?_⟩
    have : px (frN W ar) (c + 1) 0 0 ≤ px (frN W ar) d n l := Nat.le_trans (px_mono (by omega)) px_ge
    rw [y4 _ this, up _ this]
    exact e4 n hn l hl
end Sc
