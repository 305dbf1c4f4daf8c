/-! the reference's states: found by open addressing -/
theorem sT_one {N n : Nat} {G : Nat → Nat} : ∀ (f t : Nat), t + f = N → t ≤ n → n < N → sT (fun x => if x = n then G x else 0) f t = G n := by
  intro f
  induction f with
  | zero => intro t h1 h2 h3; omega
  | succ f ih =>
    intro t h1 h2 h3
    rw [sT]
    by_cases q : t = n
    · subst q
      rw [if_pos rfl, sT_0 f (t + 1) (fun j a _ => if_neg (by omega)), Nat.add_zero]
    · rw [if_neg q, Nat.zero_add, ih (t + 1) (by omega) (by omega) h3]
def lS (G : Nat → Nat) : List Nat → Nat
  | [] => 0
  | n :: l => G n + lS G l
theorem lS_T {G : Nat → Nat} {N : Nat} : ∀ (l : List Nat), l.Nodup → (∀ n ∈ l, n < N) → lS G l = sT (fun x => if x ∈ l then G x else 0) N 0 := by
  intro l
  induction l with
  | nil => intro _ _; exact (sT_0 N 0 (fun j _ _ => if_neg (by simp))).symm
  | cons n l ih =>
    intro hd hl
    obtain ⟨h1, h2⟩ := List.nodup_cons.mp hd
    rw [lS, ih h2 (fun x hx => hl x (List.mem_cons_of_mem _ hx)), ← sT_one (G := G) N 0 (Nat.zero_add _) (Nat.zero_le _) (hl n List.mem_cons_self), ← sT_add]
    refine sT_c N 0 (fun j _ _ => ?_)
    by_cases q : j = n
    · subst q
      rw [if_pos rfl, if_neg h1, if_pos List.mem_cons_self]; rfl
    · by_cases v : j ∈ l
      · rw [if_neg q, if_pos v, if_pos (List.mem_cons_of_mem _ v), Nat.zero_add]
      · have : j ∉ n :: l := by
          intro u
          rcases List.mem_cons.mp u with u | u
          · exact q u
          · exact v u
        rw [if_neg q, if_neg v, if_neg this]
theorem nd_len {N : Nat} {l : List Nat} (hd : l.Nodup) (hl : ∀ n ∈ l, n < N) : l.length ≤ N := by
  have e : ∀ l : List Nat, lS (fun _ => 1) l = l.length := by
    intro l
    induction l with
    | nil => rfl
    | cons n l ih => rw [lS, ih, List.length_cons]; omega
  have o : ∀ f t, sT (fun _ => 1) f t = f := by
    intro f
    induction f with
    | zero => intro t; rfl
    | succ f ih => intro t; rw [sT, ih]; omega
  rw [← e, lS_T l hd hl]
  refine Nat.le_trans (sT_le (g' := fun _ => 1) N 0 (fun j _ _ => ?_)) (Nat.le_of_eq (o N 0))
  split <;> decide
theorem hs_ex (a : Int32) : ∃ j : Nat, j < 2048 ∧ (((a * ((-1640531535))).toUInt32 >>> ((21 : Int32).toUInt32 &&& Int32.toUInt32 31)).toInt32) &&& 2047 = nI j := pk_andE _ (m := 2047) 11 (by decide)
def hsN (a : Int32) : Nat := ((((a * ((-1640531535))).toUInt32 >>> ((21 : Int32).toUInt32 &&& Int32.toUInt32 31)).toInt32) &&& 2047).toNatClampNeg
theorem hsN_lt (a : Int32) : hsN a < 2048 := by
  obtain ⟨j, hj, e⟩ := hs_ex a
  unfold hsN
  rw [e, nI_clamp (by omega)]
  exact hj
theorem hsN_eq (a : Int32) : (((a * ((-1640531535))).toUInt32 >>> ((21 : Int32).toUInt32 &&& Int32.toUInt32 31)).toInt32) &&& 2047 = nI (hsN a) := by
  obtain ⟨j, hj, e⟩ := hs_ex a
  unfold hsN
  rw [e, nI_clamp (by omega)]
/-- the states of a cell that are found so far, and where they are noted -/
def SLv (W H : Nat) (ar : Bool) (h : HP) (c : Nat) (acc : List Nat) : Prop := acc.Nodup ∧ hI h 33 c = nI acc.length ∧ (∀ s n, acc[s]? = some n → hI h 34 (800 * c + s) = nI (phi W ar c n) ∧ n < 76 ∧ inL W H ar c n = true) ∧ (∀ j, j < 2048 → hI h 35 j = -1 ∨ ∃ s, s < acc.length ∧ hI h 35 j = nI s) ∧ (∀ s n, acc[s]? = some n → ∃ d, d < 2048 ∧ hI h 35 ((hsN (nI (phi W ar c n)) + d) % 2048) = nI s ∧ ∀ e, e < d → hI h 35 ((hsN (nI (phi W ar c n)) + e) % 2048) ≠ -1) ∧ sT (fun j => if hI h 35 j = -1 then 0 else 1) 2048 0 = acc.length
def ddc (acc : List Nat) (n : Nat) : List Nat := if n ∈ acc then acc else acc ++ [n]
theorem get_mem {l : List Nat} {s n : Nat} (h : l[s]? = some n) : n ∈ l ∧ s < l.length := by
  have hl : s < l.length := by
    rcases Nat.lt_or_ge s l.length with u | u
    · exact u
    · rw [List.getElem?_eq_none u] at h; cases h
  rw [List.getElem?_eq_getElem hl] at h
  exact ⟨by rw [← Option.some.inj h]; exact List.getElem_mem hl, hl⟩
theorem ddc_get {acc : List Nat} {n s m : Nat} (h : acc[s]? = some m) : (ddc acc n)[s]? = some m := by
  unfold ddc
  split
  · exact h
  · rw [List.getElem?_append_left (get_mem h).2]; exact h
theorem neg1_nI {s : Nat} (hs : s < 2 ^ 31) : nI s ≠ -1 := by
  intro e
  have := nI_pos hs
  rw [e] at this
  exact this (by decide)
section Se
variable {W H : Nat} {ar : Bool} {h : HP}
theorem SLv.len {c : Nat} {acc : List Nat} (v : SLv W H ar h c acc) : acc.length ≤ 76 := nd_len v.1 (fun n hn => by
  obtain ⟨s, hs, e⟩ := List.getElem_of_mem hn
  exact (v.2.2.1 s n (by rw [List.getElem?_eq_getElem hs, e])).2.1)
/-- what stateOf leaves -/
def SO (W H : Nat) (ar : Bool) (h h' : HP) (c n s' : Nat) (acc : List Nat) : Prop := Fr [33, 34, 35] [39] h h' ∧ (∀ i, i ≠ c → hI h' 33 i = hI h 33 i) ∧ (∀ p, p < 800 * c → hI h' 34 p = hI h 34 p ∧ hL h' 39 p = hL h 39 p) ∧ (∀ s m, acc[s]? = some m → hL h' 39 (800 * c + s) = hL h 39 (800 * c + s)) ∧ (n ∉ acc → hL h' 39 (800 * c + s') = 0) ∧ (ddc acc n)[s']? = some n ∧ SLv W H ar h' c (ddc acc n)
theorem s119 (hs : SH h) (hk : okS W H ar = true) {c n : Nat} {acc : List Nat} (hc : c ≤ W * H) (hn : n < 76) (hl : inL W H ar c n = true) (v : SLv W H ar h c acc) (w3 : Value) : ∃ h' s', X (119, 0, [.ref 26, .int (nI c), .int (nI (phi W ar c n)), w3], [], h) = some (some (.int (nI s')), h') ∧ SO W H ar h h' c n s' acc := by
  have h20 := (okS_1 hk).2.2.1
  have len := v.len
  have v0 := v
  obtain ⟨v1, v2, v3, v4, v5, v6⟩ := v
  rw [g119_0 _ _ _ h hs, hsN_eq]
  have hb := hsN_lt (nI (phi W ar c n))
  generalize hB : hsN (nI (phi W ar c n)) = B at hb
  have p31 := (V_P hk hc hn hl).2.2.2
  have key : ∀ (f d : Nat), d + f = 2048 → (∀ e, e < d → hI h 35 ((B + e) % 2048) ≠ -1) → (∀ e, e < d → ∀ s m, hI h 35 ((B + e) % 2048) = nI s → acc[s]? = some m → m ≠ n) → ∃ h' s', X (119, 12, [.ref 26, .int (nI c), .int (nI (phi W ar c n)), .int (nI ((B + d) % 2048))], [], h) = some (some (.int (nI s')), h') ∧ SO W H ar h h' c n s' acc := by
    intro f
    induction f with
    | zero =>
      intro d hd hne _
      exfalso
      have all : ∀ j, j < 2048 → hI h 35 j ≠ -1 := by
        intro j hj
        have := hne ((j + 2048 - B) % 2048) (by omega)
        rwa [show (B + (j + 2048 - B) % 2048) % 2048 = j by omega] at this
      have o : ∀ f t, sT (fun _ => 1) f t = f := by
        intro f
        induction f with
        | zero => intro t; rfl
        | succ f ih => intro t; rw [sT, ih]; omega
      have : sT (fun j => if hI h 35 j = -1 then 0 else 1) 2048 0 = sT (fun _ => 1) 2048 0 := sT_c _ _ (fun j _ hj => if_neg (all j (by omega)))
      rw [v6, o] at this
      omega
    | succ f ih =>
      intro d hd hne hnm
      have jl : (B + d) % 2048 < 2048 := Nat.mod_lt _ (by decide)
      have ji := inB_nI jl (by decide : 2048 < 2 ^ 31)
      generalize hJ : (B + d) % 2048 = j at jl ji
      have ci : inB (nI c) 21 = true := inB_nI (by omega) (by decide)
      rw [g119_12 _ _ _ h hs, if_pos ji, nI_clamp (show j < 2 ^ 31 by omega)]
      by_cases q : hI h 35 j = -1
      · have c800 : ∀ s, 800 * nI c + nI s = nI (800 * c + s) := fun s => by
          rw [show (800 : Int32) = nI 800 from rfl, pk_mul, nI_add]
        have ii : inB (nI (800 * c + acc.length)) 16800 = true := inB_nI (by omega) (by decide)
        have e33 : hI (sI h 35 j (nI acc.length)) 33 c = nI acc.length := by rw [hI_sI_o _ _ _ (by decide)]; exact v2
        have e33b : ∀ p a, hI (sI (sI h 35 j (nI acc.length)) 34 p a) 33 c = nI acc.length := fun p a => by rw [hI_sI_o _ _ _ (by decide)]; exact e33
        have e33c : ∀ p a p2, hI (sL (sI (sI h 35 j (nI acc.length)) 34 p a) 39 p2 0) 33 c = nI acc.length := fun p a p2 => by rw [hI_sL]; exact e33b p a
        rw [if_pos q]
        simp only [if_pos ci, if_pos ji, nI_clamp (show c < 2 ^ 31 by omega), v2, e33, e33b, e33c, c800, if_pos ii, nI_clamp (show 800 * c + acc.length < 2 ^ 31 by omega), nI_1, hI_sI_same]
        have nin : n ∉ acc := by
          intro hm
          obtain ⟨s, hsl, e⟩ := List.getElem_of_mem hm
          have hg : acc[s]? = some n := by rw [List.getElem?_eq_getElem hsl, e]
          obtain ⟨d', hd', e1, e2⟩ := v5 s n hg
          rw [hB] at e1 e2
          rcases Nat.lt_trichotomy d' d with u | u | u
          · exact hnm d' u s n e1 hg rfl
          · subst u
            rw [hJ, q] at e1
            exact neg1_nI (by omega) e1.symm
          · have := e2 d u
            rw [hJ] at this
            exact this q
        have ed : ddc acc n = acc ++ [n] := by unfold ddc; rw [if_neg nin]
        refine ⟨_, acc.length, by rw [nI_pred], ?_⟩
        generalize hG : sI (sL (sI (sI h 35 j (nI acc.length)) 34 (800 * c + acc.length) (nI (phi W ar c n))) 39 (800 * c + acc.length) 0) 33 c (nI (acc.length + 1)) = g
        have gF : Fr [33, 34, 35] [39] h g := by
          rw [← hG]
          exact (((Fr.sI (by decide)).tr (Fr.sI (by decide))).tr (Fr.sL (by decide))).tr (Fr.sI (by decide))
        have g33 : ∀ i, hI g 33 i = if i = c then nI (acc.length + 1) else hI h 33 i := by
          intro i
          rw [← hG]
          by_cases u : i = c
          · rw [u, if_pos rfl, hI_sI_same]
          · rw [if_neg u, hI_sI_ne _ _ u, hI_sL, hI_sI_o _ _ _ (by decide), hI_sI_o _ _ _ (by decide)]
        have g34 : ∀ p, hI g 34 p = if p = 800 * c + acc.length then nI (phi W ar c n) else hI h 34 p := by
          intro p
          rw [← hG, hI_sI_o _ _ _ (by decide), hI_sL]
          by_cases u : p = 800 * c + acc.length
          · rw [u, if_pos rfl, hI_sI_same]
          · rw [if_neg u, hI_sI_ne _ _ u, hI_sI_o _ _ _ (by decide)]
        have g35 : ∀ i, hI g 35 i = if i = j then nI acc.length else hI h 35 i := by
          intro i
          rw [← hG, hI_sI_o _ _ _ (by decide), hI_sL, hI_sI_o _ _ _ (by decide)]
          by_cases u : i = j
          · rw [u, if_pos rfl, hI_sI_same]
          · rw [if_neg u, hI_sI_ne _ _ u]
        have g39 : ∀ p, hL g 39 p = if p = 800 * c + acc.length then 0 else hL h 39 p := by
          intro p
          rw [← hG, hL_sI]
          by_cases u : p = 800 * c + acc.length
          · rw [u, if_pos rfl, hL_sL_same]
          · rw [if_neg u, hL_sL_ne _ _ u, hL_sI, hL_sI]
        have gn : ∀ i, hI h 35 i ≠ -1 → hI g 35 i ≠ -1 := by
          intro i hi
          rw [g35]
          by_cases u : i = j
          · rw [if_pos u]; exact neg1_nI (by omega)
          · rw [if_neg u]; exact hi
        have gla : ∀ s m, (acc ++ [n])[s]? = some m → (s < acc.length ∧ acc[s]? = some m) ∨ (s = acc.length ∧ m = n) := by
          intro s m hm
          rcases Nat.lt_or_ge s acc.length with u | u
          · rw [List.getElem?_append_left u] at hm; exact Or.inl ⟨u, hm⟩
          · rw [List.getElem?_append_right u] at hm
            have : s - acc.length = 0 := by
              rcases Nat.eq_zero_or_pos (s - acc.length) with z | z
              · exact z
              · rw [List.getElem?_eq_none (by simp; omega)] at hm; cases hm
            rw [this] at hm
            exact Or.inr ⟨by omega, (Option.some.inj hm).symm⟩
        refine ⟨gF, fun i hi => by rw [g33, if_neg hi], fun p hp => ⟨by rw [g34, if_neg (by omega)], by rw [g39, if_neg (by omega)]⟩, fun s m hm => ?_, fun _ => by rw [g39, if_pos rfl], ?_, ?_⟩
        · have := (get_mem hm).2
          rw [g39, if_neg (by omega)]
        · rw [ed, List.getElem?_append_right (Nat.le_refl _), Nat.sub_self]; rfl
        · rw [ed]
          refine ⟨?_, ?_, fun s m hm => ?_, fun i hi => ?_, fun s m hm => ?_, ?_⟩
          · rw [List.nodup_append]
            refine ⟨v1, by simp, fun a ha b hb => ?_⟩
            have := List.mem_singleton.mp hb
            rw [this]
            intro e
            exact nin (e ▸ ha)
          · rw [g33, if_pos rfl, List.length_append]; rfl
          · rcases gla s m hm with ⟨u1, u2⟩ | ⟨rfl, rfl⟩
            · rw [g34, if_neg (by omega)]; exact v3 s m u2
            · rw [g34, if_pos rfl]; exact ⟨rfl, hn, hl⟩
          · rw [g35, List.length_append]
            by_cases u : i = j
            · rw [if_pos u]; right; exact ⟨acc.length, by simp, rfl⟩
            · rw [if_neg u]
              rcases v4 i hi with z | ⟨s, z1, z2⟩
              · exact Or.inl z
              · exact Or.inr ⟨s, by simp; omega, z2⟩
          · rcases gla s m hm with ⟨u1, u2⟩ | ⟨rfl, rfl⟩
            · obtain ⟨d', hd', e1, e2⟩ := v5 s m u2
              refine ⟨d', hd', ?_, fun e he => gn _ (e2 e he)⟩
              rw [g35, if_neg]
              · exact e1
              · intro u
                rw [u, q] at e1
                exact neg1_nI (by omega) e1.symm
            · refine ⟨d, by omega, ?_, fun e he => ?_⟩
              · rw [hB, hJ, g35, if_pos rfl]
              · rw [hB]; exact gn _ (hne e he)
          · rw [List.length_append]
            show _ = acc.length + 1
            have e1 : sT (fun i => if hI g 35 i = -1 then 0 else 1) 2048 0 = sT (fun i => (if hI h 35 i = -1 then 0 else 1) + (if i = j then (fun _ => 1) i else 0)) 2048 0 := by
              refine sT_c 2048 0 (fun i _ _ => ?_)
              show (if hI g 35 i = -1 then 0 else 1) = (if hI h 35 i = -1 then 0 else 1) + (if i = j then 1 else 0)
              rw [g35]
              by_cases u : i = j
              · rw [if_pos u, if_pos u, if_neg (neg1_nI (by omega)), u, if_pos q]
              · rw [if_neg u, if_neg u, Nat.add_zero]
            rw [e1, sT_add, v6, sT_one (N := 2048) 2048 0 (by omega) (by omega) jl]
      · rcases v4 j jl with z | ⟨s, z1, z2⟩
        · exact absurd z q
        · have hg : ∃ m, acc[s]? = some m := ⟨_, List.getElem?_eq_getElem z1⟩
          obtain ⟨m, hm⟩ := hg
          obtain ⟨m1, m2, m3⟩ := v3 s m hm
          have c800 : 800 * nI c + nI s = nI (800 * c + s) := by
            rw [show (800 : Int32) = nI 800 from rfl, pk_mul, nI_add]
          rw [if_neg q, if_pos ji, z2, c800, if_pos (inB_nI (by omega) (by decide)), nI_clamp (by omega), m1]
          by_cases u : m = n
          · subst u
            rw [if_pos rfl, if_pos ji]
            have ed : ddc acc m = acc := by unfold ddc; rw [if_pos (get_mem hm).1]
            refine ⟨h, s, rfl, Fr.rf, fun _ _ => rfl, fun _ _ => ⟨rfl, rfl⟩, fun _ _ _ => rfl, fun hn' => absurd (get_mem hm).1 hn', by rw [ed]; exact hm, by rw [ed]; exact v0⟩
          · have nu : ¬ nI (phi W ar c m) = nI (phi W ar c n) := by
              intro e
              have p2 := (V_P hk hc m2 m3).2.2.2
              exact u (phi_inj hk hc m2 hn m3 hl ((nI_eq (by omega) (by omega)).mp e))
            have en : (nI j + 1) &&& 2047 = nI ((B + (d + 1)) % 2048) := by
              have e2 : (j + 1) % 2 ^ 11 = (B + (d + 1)) % 2048 := by omega
              rw [nI_1, pk_andN (show j + 1 < 2 ^ 32 by omega) (m := 2047) 11 (by decide), e2]
            rw [if_neg nu, en]
            refine ih (d + 1) (by omega) (fun e he => ?_) (fun e he s2 m' h1 h2 => ?_)
            · rcases Nat.lt_or_ge e d with y | y
              · exact hne e y
              · have : e = d := by omega
                rw [this, hJ]; exact q
            · rcases Nat.lt_or_ge e d with y | y
              · exact hnm e y s2 m' h1 h2
              · have : e = d := by omega
                rw [this, hJ, z2] at h1
                have hs2 := (get_mem h2).2
                have : s = s2 := (nI_eq (by omega) (by omega)).mp h1
                rw [← this, hm] at h2
                rw [← Option.some.inj h2]
                exact u
  have := key 2048 0 (by omega) (fun e he => absurd he (Nat.not_lt_zero _)) (fun e he => absurd he (Nat.not_lt_zero _))
  rw [Nat.add_zero, Nat.mod_eq_of_lt hb] at this
  exact this
end Se
