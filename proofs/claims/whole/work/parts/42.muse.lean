/-! what the checks of both fronts say -/
theorem ckV_all {W H : Nat} {ar : Bool} (hk : okS W H ar = true) : ckV W H ar = true := by
  obtain ⟨⟨w1, w2⟩, ⟨h1, h2⟩, h3, h4⟩ := okS_1 hk
  have hW : W = 1 ∨ W = 2 ∨ W = 3 ∨ W = 4 ∨ W = 5 := by omega
  have hH : H = 1 ∨ H = 2 ∨ H = 3 ∨ H = 4 ∨ H = 5 := by omega
  rcases hW with rfl | rfl | rfl | rfl | rfl <;> rcases hH with rfl | rfl | rfl | rfl | rfl <;> cases ar
  · exact ckV_110
  · exact absurd hk (by decide)
  · exact ckV_120
  · exact absurd hk (by decide)
  · exact ckV_130
  · exact absurd hk (by decide)
  · exact ckV_140
  · exact absurd hk (by decide)
  · exact ckV_150
  · exact absurd hk (by decide)
  · exact ckV_210
  · exact absurd hk (by decide)
  · exact ckV_220
  · exact ckV_221
  · exact ckV_230
  · exact absurd hk (by decide)
  · exact ckV_240
  · exact ckV_241
  · exact ckV_250
  · exact absurd hk (by decide)
  · exact ckV_310
  · exact absurd hk (by decide)
  · exact ckV_320
  · exact absurd hk (by decide)
  · exact ckV_330
  · exact absurd hk (by decide)
  · exact ckV_340
  · exact absurd hk (by decide)
  · exact ckV_350
  · exact absurd hk (by decide)
  · exact ckV_410
  · exact absurd hk (by decide)
  · exact ckV_420
  · exact ckV_421
  · exact ckV_430
  · exact absurd hk (by decide)
  · exact ckV_440
  · exact ckV_441
  · exact ckV_450
  · exact absurd hk (by decide)
  · exact ckV_510
  · exact absurd hk (by decide)
  · exact ckV_520
  · exact absurd hk (by decide)
  · exact ckV_530
  · exact absurd hk (by decide)
  · exact ckV_540
  · exact absurd hk (by decide)
  · exact absurd hk (by decide)
  · exact absurd hk (by decide)
section Vc
variable {W H : Nat} {ar : Bool}
theorem ckV_4 (hk : okS W H ar = true) : (((List.range (W * H + 1)).all (fun c => (List.range 76).all fun n => !inL W H ar c n || ckP W ar c n)) = true ∧ ((List.range (W * H)).all (fun c => (List.range 76).all fun n => !inL W H ar c n || ckQ W H ar c n)) = true) ∧ ((List.range 76).all (fun n => !inL W H ar (W * H) n || Nat.beq n 0)) = true ∧ phi W ar 0 0 = 0 := by
  have h := ckV_all hk
  unfold ckV at h
  rw [hk] at h
  simp only [Bool.not_true, Bool.false_or, Bool.and_eq_true] at h
  obtain ⟨⟨⟨a, b⟩, c⟩, d⟩ := h
  exact ⟨⟨a, b⟩, c, Nat.eq_of_beq_eq_true d⟩
theorem V_P (hk : okS W H ar = true) {c n : Nat} (hc : c ≤ W * H) (hn : n < 76) (hl : inL W H ar c n = true) : psi W ar c (phi W ar c n) = n ∧ cdGo (mt10 (phi W ar c n)) 8 0 0 = nI (phi W ar c n) ∧ (∀ j, j < 8 → oD (nI (phi W ar c n)) j = mt10 (phi W ar c n) j) ∧ phi W ar c n < 2147483648 := by
  have h := List.all_eq_true.mp (ckV_4 hk).1.1 c (List.mem_range.mpr (by omega))
  have h3 := List.all_eq_true.mp h n (List.mem_range.mpr hn)
  rw [hl] at h3
  simp only [Bool.not_true, Bool.false_or] at h3
  unfold ckP at h3
  simp only [Bool.and_eq_true, decide_eq_true_eq] at h3
  obtain ⟨⟨⟨a1, a2⟩, a3⟩, a4⟩ := h3
  refine ⟨Nat.eq_of_beq_eq_true a1, a2, fun j hj => ?_, Nat.le_of_ble_eq_true a4⟩
  exact of_decide_eq_true (List.all_eq_true.mp a3 j (List.mem_range.mpr hj))
theorem V_end (hk : okS W H ar = true) {n : Nat} (hn : n < 76) (hl : inL W H ar (W * H) n = true) : n = 0 := by
  have h3 := List.all_eq_true.mp (ckV_4 hk).2.1 n (List.mem_range.mpr hn)
  rw [hl] at h3
  simp only [Bool.not_true, Bool.false_or] at h3
  exact Nat.eq_of_beq_eq_true h3
theorem V_0 (hk : okS W H ar = true) : phi W ar 0 0 = 0 := (ckV_4 hk).2.2
theorem phi_inj (hk : okS W H ar = true) {c n m : Nat} (hc : c ≤ W * H) (hn : n < 76) (hm : m < 76) (ln : inL W H ar c n = true) (lm : inL W H ar c m = true) (e : phi W ar c n = phi W ar c m) : n = m := by
  rw [← (V_P hk hc hn ln).1, ← (V_P hk hc hm lm).1, e]
theorem V_Q (hk : okS W H ar = true) {c n t : Nat} (hc : c < W * H) (hn : n < 76) (hl : inL W H ar c n = true) (ht : t < 10) : (match cmO W H ar c t (mt10 (phi W ar c n)) with
  | none => false
  | some q => match tr W H ar c n t with
    | none => !q.1
    | some r => q.1 && decide (q.2.2 = nI r.2) && (List.range 8).all (fun j => decide (q.2.1 j = mt10 (phi W ar (c + 1) r.1) j))) = true := by
  have h := List.all_eq_true.mp (ckV_4 hk).1.2 c (List.mem_range.mpr hc)
  have h3 := List.all_eq_true.mp h n (List.mem_range.mpr hn)
  rw [hl] at h3
  simp only [Bool.not_true, Bool.false_or] at h3
  unfold ckQ at h3
  exact List.all_eq_true.mp h3 t (List.mem_range.mpr ht)
theorem V_none (hk : okS W H ar = true) {c n t : Nat} (hc : c < W * H) (hn : n < 76) (hl : inL W H ar c n = true) (ht : t < 10) (h : tr W H ar c n t = none) : ∃ q, cmO W H ar c t (mt10 (phi W ar c n)) = some (false, q) := by
  have h1 := V_Q hk hc hn hl ht
  rw [h] at h1
  cases hq : cmO W H ar c t (mt10 (phi W ar c n)) with
  | none => rw [hq] at h1; cases h1
  | some q =>
    rw [hq] at h1
    obtain ⟨b, q⟩ := q
    cases b with
    | false => exact ⟨q, rfl⟩
    | true => cases h1
theorem V_some (hk : okS W H ar = true) {c n t n' k : Nat} (hc : c < W * H) (hn : n < 76) (hl : inL W H ar c n = true) (ht : t < 10) (h : tr W H ar c n t = some (n', k)) : ∃ q : M2, cmO W H ar c t (mt10 (phi W ar c n)) = some (true, q) ∧ q.2 = nI k ∧ ∀ j, j < 8 → q.1 j = mt10 (phi W ar (c + 1) n') j := by
  have h1 := V_Q hk hc hn hl ht
  rw [h] at h1
  cases hq : cmO W H ar c t (mt10 (phi W ar c n)) with
  | none => rw [hq] at h1; cases h1
  | some q =>
    rw [hq] at h1
    obtain ⟨b, q⟩ := q
    simp only [Bool.and_eq_true, decide_eq_true_eq] at h1
    obtain ⟨⟨a1, a2⟩, a3⟩ := h1
    subst a1
    exact ⟨q, rfl, a2, fun j hj => of_decide_eq_true (List.all_eq_true.mp a3 j (List.mem_range.mpr hj))⟩
end Vc
/-! what lies behind the ten ends stays -/
def Hi (q r : M2) : Prop := ∀ k, 10 ≤ k → r.1 k = q.1 k
theorem Hi.rf (q : M2) : Hi q q := fun _ _ => rfl
theorem Hi.tr {a b c : M2} (h : Hi a b) (g : Hi b c) : Hi a c := fun k hk => (g k hk).trans (h k hk)
theorem upd_h10 {m : Nat → Int32} {a v : Int32} {k : Nat} (h0 : inB a 10 = true) (hk : 10 ≤ k) : upd m a.toNatClampNeg v k = m k := by
  obtain ⟨j, hj, rfl⟩ := vp_in_of (inB_in h0) (by decide)
  rw [nI_clamp (by omega)]
  unfold upd
  rw [if_neg (by omega)]
theorem prO_h {q r : M2} {a b : Int32} (h : prO q a b = some r) : Hi q r := by
  unfold prO at h
  split at h
  · split at h
    · cases h
      intro k hk
      show upd (upd _ _ _) _ _ k = _
      rw [upd_h10 (by assumption) hk, upd_h10 (by assumption) hk]
    · cases h
  · cases h
theorem mvO_h {q r : M2} {a b : Int32} (h : mvO q a b = some r) : Hi q r := by
  unfold mvO at h
  split at h
  · split at h
    · split at h
      · cases h
        intro k hk
        show upd (upd (upd _ _ _) _ _) _ _ k = _
        rw [upd_h10 (by assumption) hk, upd_h10 (by assumption) hk, upd_h10 (by assumption) hk]
      · cases h
    · cases h
  · cases h
theorem jnO_h {q r : M2} {a b : Int32} (h : jnO q a b = some r) : Hi q r := by
  unfold jnO at h
  split at h
  · split at h
    · split at h
      · cases h
        intro k hk
        show upd (upd _ _ _) _ _ k = _
        rw [upd_h10 (by assumption) hk, upd_h10 (by assumption) hk]
      · split at h
        · split at h
          · cases h
            intro k hk
            show upd (upd (upd (upd _ _ _) _ _) _ _) _ _ k = _
            rw [upd_h10 (by assumption) hk, upd_h10 (by assumption) hk, upd_h10 (by assumption) hk, upd_h10 (by assumption) hk]
          · cases h
        · cases h
    · cases h
  · cases h
theorem pcO_h {q r : M2} {x l a b : Int32} (h : pcO q x l a b = some r) : Hi q r := by
  unfold pcO at h
  split at h
  · split at h
    · exact prO_h h
    · exact mvO_h h
  · split at h
    · exact mvO_h h
    · exact jnO_h h
def HiB (q : M2) (o : Option (Bool × M2)) : Prop := ∀ b r, o = some (b, r) → Hi q r
theorem HiB.s (q : M2) (b : Bool) : HiB q (some (b, q)) := by
  intro b' r h; cases h; exact Hi.rf q
theorem HiB.g {q : M2} {o : Option M2} {F : M2 → Option (Bool × M2)} (h : ∀ r, o = some r → Hi q r) (g : ∀ r, HiB r (F r)) : HiB q (gO o F) := by
  intro b r e
  cases o with
  | none => cases e
  | some s => exact (h s rfl).tr (g s b r e)
theorem HiB.i {P : Prop} [Decidable P] {q : M2} {a b : Option (Bool × M2)} (h : HiB q a) (g : HiB q b) : HiB q (if P then a else b) := by
  by_cases p : P
  · rw [if_pos p]; exact h
  · rw [if_neg p]; exact g
theorem f497_h (x : Nat) (dn : Bool) (q : M2) : HiB q (f497 x dn q) := HiB.i (HiB.g (fun _ h => mvO_h h) (fun r => HiB.s r true)) (HiB.s q true)
theorem f462_h (H x y : Nat) (dn : Bool) (q : M2) : HiB q (f462 H x y dn q) := HiB.i (HiB.g (fun _ h => jnO_h h) (fun r => HiB.s r true)) (f497_h x dn q)
theorem f449_h (W H x y : Nat) (rg dn : Bool) (q : M2) : HiB q (f449 W H x y rg dn q) := HiB.i (HiB.g (fun _ h => mvO_h h) (fun r => f462_h H x y dn r)) (f462_h H x y dn q)
theorem f405_h (W H x y : Nat) (rg dn : Bool) (q : M2) : HiB q (f405 W H x y rg dn q) := HiB.i (HiB.i (HiB.g (fun _ h => mvO_h h) (fun r => f462_h H x y dn r)) (HiB.g (fun _ h => jnO_h h) (fun r => f462_h H x y dn r))) (f449_h W H x y rg dn q)
theorem f356_h (W H : Nat) (ar : Bool) (x y : Nat) (rg dn : Bool) (q : M2) : HiB q (f356 W H ar x y rg dn q) := HiB.i (HiB.s q false) (f405_h W H x y rg dn q)
theorem f308_h (W H : Nat) (ar : Bool) (x y : Nat) (rg dn : Bool) (q : M2) : HiB q (f308 W H ar x y rg dn q) := HiB.i (HiB.s q false) (f356_h W H ar x y rg dn q)
theorem f283_h (W H : Nat) (ar : Bool) (x y : Nat) (rg dn : Bool) (q : M2) : HiB q (f283 W H ar x y rg dn q) := HiB.i (HiB.s q false) (f308_h W H ar x y rg dn q)
theorem f215e_h (W H : Nat) (ar : Bool) (x y : Nat) (rg dn : Bool) (q : M2) : HiB q (f215e W H ar x y rg dn q) := HiB.i (HiB.s q false) (f283_h W H ar x y rg dn q)
theorem f215_h (W H : Nat) (ar : Bool) (x y t : Nat) (rg dn : Bool) : ∀ (f k : Nat) (q : M2), HiB q (f215 W H ar x y t rg dn f k q) := by
  intro f
  induction f with
  | zero => intro k q b r h; cases h
  | succ f ih => intro k q; exact HiB.i (f215e_h W H ar x y rg dn q) (HiB.g (fun _ h => pcO_h h) (fun r => ih (k + 1) r))
theorem f189_h (W H : Nat) (ar : Bool) (x y t : Nat) (q : M2) : HiB q (f189 W H ar x y t q) := HiB.i (f215_h W H ar x y t _ _ 3 0 q) (HiB.s q false)
theorem f151_h (W H : Nat) (ar : Bool) (x y t : Nat) (q : M2) : HiB q (f151 W H ar x y t q) := HiB.i (HiB.g (fun _ h => mvO_h h) (fun r => f189_h W H ar x y t r)) (f189_h W H ar x y t q)
theorem f120_h (W H : Nat) (ar : Bool) (x y t : Nat) (q : M2) : HiB q (f120 W H ar x y t q) := HiB.i (HiB.g (fun _ h => prO_h h) (fun r => f151_h W H ar x y t r)) (f151_h W H ar x y t q)
theorem f0_h (W H : Nat) (ar : Bool) (x y t : Nat) (q : M2) : HiB q (f0 W H ar x y t q) := HiB.i (HiB.g (fun _ h => prO_h h) (fun r => f120_h W H ar x y t r)) (f120_h W H ar x y t q)
theorem cmO_h {W H : Nat} {ar : Bool} {c t : Nat} {m : Nat → Int32} {b : Bool} {r : M2} (h : cmO W H ar c t m = some (b, r)) {k : Nat} (hk : 10 ≤ k) : r.1 k = m k := f0_h W H ar (c % W) (c / W) t (m, 0) b r h k hk
theorem mt10_hi (e : Nat) {k : Nat} (hk : 10 ≤ k) : mt10 e k = 0 := by
  unfold mt10
  rw [if_neg (by omega), if_neg (by omega)]
theorem mt10_89 (e : Nat) {k : Nat} (h8 : 8 ≤ k) (hk : k < 10) : mt10 e k = -1 := by
  unfold mt10
  rw [if_neg (by omega), if_pos hk]
/-! code and opens -/
theorem cdGo_c {m m' : Nat → Int32} : ∀ (f k : Nat) (v : Int32), (∀ j, k ≤ j → j < k + f → m j = m' j) → cdGo m f k v = cdGo m' f k v := by
  intro f
  induction f with
  | zero => intros; rfl
  | succ f ih =>
    intro k v h
    rw [cdGo, cdGo, h k (by omega) (by omega)]
    exact ih (k + 1) _ (fun j a b => h j (by omega) (by omega))
theorem s111 (w1 w2 : Value) (h : HP) (hs : SH h) : X (111, 0, [.ref 26, w1, w2], [], h) = some (some (.int (cdGo (hI h 32) 8 0 0)), h) := by
  have key : ∀ (n j : Nat), j + n = 8 → ∀ v, X (111, 4, [.ref 26, .int v, .int (nI j)], [], h) = some (some (.int (cdGo (hI h 32) n j v)), h) := by
    intro n
    induction n with
    | zero =>
      intro j hj v
      have : j = 8 := by omega
      subst this
      rw [g111_4 _ _ h hs, if_pos (show (8 : Int32) ≤ nI 8 from by decide)]
      rfl
    | succ n ih =>
      intro j hj v
      have h8 : ¬ (8 : Int32) ≤ nI j := nI_ge (show j < 8 by omega) (by decide)
      rw [g111_4 _ _ h hs, if_neg h8, if_pos (inB_nI (by omega) (by decide)), nI_clamp (by omega), nI_1, ih (j + 1) (by omega)]
      rfl
  rw [g111_0 _ _ h hs]
  exact key 8 0 (by omega) 0
def opnM (m : Nat → Int32) (a : Int32) : Nat → Int32 := fun k => if k < 8 then oD a k else if k < 10 then -1 else m k
theorem s112 (a : Int32) (w2 : Value) (h : HP) (hs : SH h) : X (112, 0, [.ref 26, .int a, w2], [], h) = some (none, sA h 32 (opnM (hI h 32) a)) := by
  have key : ∀ (n j : Nat), j + n = 8 → ∀ (h : HP), SH h → X (112, 2, [.ref 26, .int a, .int (nI j)], [], h) = some (none, sA h 32 (fun k => if j ≤ k ∧ k < 8 then oD a k else if 8 ≤ k ∧ k < 10 then -1 else hI h 32 k)) := by
    intro n
    induction n with
    | zero =>
      intro j hj h hs
      have : j = 8 := by omega
      subst this
      rw [g112_2 _ _ h hs, if_pos (show (8 : Int32) ≤ nI 8 from by decide), if_pos (by decide), if_pos (by decide), sI_sA, sI_sA, sA_sA, hI_sA_same]
      congr 3
      funext k
      have c8 : (8 : Int32).toNatClampNeg = 8 := by decide
      have c9 : (9 : Int32).toNatClampNeg = 9 := by decide
      rw [c8, c9, if_neg (by omega)]
      unfold upd
      by_cases q9 : k = 9
      · rw [if_pos q9, if_pos (by omega)]
      · rw [if_neg q9]
        by_cases q8 : k = 8
        · rw [if_pos q8, if_pos (by omega)]
        · rw [if_neg q8, if_neg (by omega)]
    | succ n ih =>
      intro j hj h hs
      have h8 : ¬ (8 : Int32) ≤ nI j := nI_ge (show j < 8 by omega) (by decide)
      rw [g112_2 _ _ h hs, if_neg h8, if_pos (inB_nI (by omega) (by decide)), nI_clamp (by omega), nI_1, ih (j + 1) (by omega) _ (hs.sIs 32 rfl), sI_sA, sA_sA, hI_sA_same]
      congr 3
      funext k
      by_cases hk : k = j
      · subst hk
        have n1 : ¬ (k + 1 ≤ k ∧ k < 8) := by omega
        have n2 : ¬ (8 ≤ k ∧ k < 10) := by omega
        have n3 : k ≤ k ∧ k < 8 := by omega
        rw [if_neg n1, if_neg n2, if_pos n3]
        simp [upd, oD]
      · have : (j + 1 ≤ k ∧ k < 8) ↔ (j ≤ k ∧ k < 8) := by omega
        by_cases q : j ≤ k ∧ k < 8
        · rw [if_pos (this.mpr q), if_pos q]
        · rw [if_neg (fun u => q (this.mp u)), if_neg q]
          by_cases q2 : 8 ≤ k ∧ k < 10
          · rw [if_pos q2, if_pos q2]
          · rw [if_neg q2, if_neg q2]
            simp [upd, hk]
  rw [g112_0 _ _ h hs, show (0 : Int32) = nI 0 from rfl, key 8 0 (by omega) h hs]
  congr 3
  funext k
  unfold opnM
  by_cases q : k < 8
  · rw [if_pos ⟨Nat.zero_le k, q⟩, if_pos q]
  · rw [if_neg (fun u => q u.2), if_neg q]
    by_cases q2 : k < 10
    · rw [if_pos ⟨by omega, q2⟩, if_pos q2]
    · rw [if_neg (fun u => q2 u.2), if_neg q2]
/-- a row that is clean behind -/
theorem opnM_phi {W H : Nat} {ar : Bool} (hk : okS W H ar = true) {c n : Nat} (hc : c ≤ W * H) (hn : n < 76) (hl : inL W H ar c n = true) {m : Nat → Int32} (hm : ∀ k, 10 ≤ k → m k = 0) : opnM m (nI (phi W ar c n)) = mt10 (phi W ar c n) := by
  funext k
  unfold opnM
  by_cases q : k < 8
  · rw [if_pos q]; exact (V_P hk hc hn hl).2.2.1 k q
  · rw [if_neg q]
    by_cases q2 : k < 10
    · rw [if_pos q2, mt10_89 _ (by omega) q2]
    · rw [if_neg q2, hm k (by omega), mt10_hi _ (by omega)]
theorem cd_phi {W H : Nat} {ar : Bool} (hk : okS W H ar = true) {c n : Nat} (hc : c ≤ W * H) (hn : n < 76) (hl : inL W H ar c n = true) {m : Nat → Int32} (hm : ∀ j, j < 8 → m j = mt10 (phi W ar c n) j) : cdGo m 8 0 0 = nI (phi W ar c n) := by
  rw [cdGo_c 8 0 0 (fun j _ h => hm j (by omega)), (V_P hk hc hn hl).2.1]
