/-! in a filling sides match; loops as orbits -/
def vlN (sh : Nat → Nat) (e : Nat) : Bool := if e = 0 then false else (sid (sh ((e - 1) / 4))).testBit ((e - 1) % 4)
section Ma
variable {W H : Nat} {ar : Bool} {al sh : Nat → Nat}
theorem S_c (hk : okS W H ar = true) {c : Nat} (hc : c < W * H) : (∀ s, s < 4 → ckB W H ar c s = true) ∧ ∀ n, n < 76 → inL W H ar c n = true → (∀ s, s < 4 → ckA W H ar c n s = true) ∧ ∀ t, t < 10 → ckT W H ar c n t = true := by
  have h := List.all_eq_true.mp (ckSd_all hk) c (List.mem_range.mpr hc)
  simp only [Bool.and_eq_true] at h
  refine ⟨fun s hs => List.all_eq_true.mp h.1 s (List.mem_range.mpr hs), fun n hn hl => ?_⟩
  have h2 := List.all_eq_true.mp h.2 n (List.mem_range.mpr hn)
  rw [hl] at h2
  simp only [Bool.not_true, Bool.false_or, Bool.and_eq_true] at h2
  exact ⟨fun s hs => List.all_eq_true.mp h2.1 s (List.mem_range.mpr hs), fun t ht => List.all_eq_true.mp h2.2 t (List.mem_range.mpr ht)⟩
theorem beq_t {a b : Nat} : Nat.beq a b = true ↔ a = b := ⟨Nat.eq_of_beq_eq_true, fun e => by rw [e]; exact Nat.beq_refl b⟩
theorem blt_t {a b : Nat} : Nat.blt a b = true ↔ a < b := ⟨fun h => Nat.le_of_ble_eq_true h, fun h => Nat.ble_eq_true_of_le h⟩
theorem mt_go (hk : okS W H ar = true) (hsh : ∀ c, c < W * H → sh c < 10) : ∀ (r c : Nat), c + r = W * H → ∀ n y, n < 76 → inL W H ar c n = true → lpF W H ar al sh r c n = some y → (∀ j, j < 6 → bitN n j = vlN sh (srcN W H ar c j)) → ∀ c', c ≤ c' → c' < W * H → ∀ s, s < 4 → (nbN W H ar c' s = 0 ∨ (nbN W H ar c' s - 1) / 4 < c') → (sid (sh c')).testBit s = vlN sh (nbN W H ar c' s) := by
  intro r
  induction r with
  | zero => intro c hc n y hn hl hlp hb c' h1 h2; omega
  | succ r ih =>
    intro c hc n y hn hl hlp hb c' h1 h2 s hs4 hnb
    obtain ⟨q, z, e1, e2, e3, e4⟩ := lp_st hlp
    have hcl : c < W * H := by omega
    obtain ⟨-, t2, t3, -⟩ := T_some hk hcl hn hl (hsh c hcl) (n' := q.1) (k := q.2) e2
    obtain ⟨kA, kT⟩ := (S_c hk hcl).2 n hn hl
    rcases Nat.lt_or_ge c c' with u | u
    · refine ih (c + 1) (by omega) q.1 z t2 t3 e3 (fun j hj => ?_) c' (by omega) h2 s hs4 hnb
      have h := kT (sh c) (hsh c hcl)
      unfold ckT at h
      rw [e2] at h
      have h := List.all_eq_true.mp h j (List.mem_range.mpr hj)
      by_cases v : srcN W H ar (c + 1) j = 0
      · rw [if_pos (beq_t.mpr v)] at h
        unfold vlN
        rw [if_pos v]
        simpa using h
      · rw [if_neg (fun w => v (beq_t.mp w))] at h
        unfold vlN
        rw [if_neg v]
        by_cases w : (srcN W H ar (c + 1) j - 1) / 4 = c
        · rw [if_pos (beq_t.mpr w)] at h
          rw [w]
          exact eq_of_beq h
        · rw [if_neg (fun x => w (beq_t.mp x))] at h
          simp only [Bool.and_eq_true] at h
          have b1 := beq_t.mp h.1
          rw [eq_of_beq h.2, hb j hj, b1]
          unfold vlN
          rw [if_neg v]
    · have : c' = c := by omega
      subst this
      have h := kA s hs4
      have e2' := e2
      unfold tr at e2'
      by_cases g : sid (sh c') &&& setl W H ar c' = wnD W H ar c' (fr n)
      · have g2 : ((sid (sh c')).testBit s && (setl W H ar c').testBit s) = (wnD W H ar c' (fr n)).testBit s := by
          rw [← g, Nat.testBit_and]
        unfold ckA at h
        unfold vlN
        by_cases v : nbN W H ar c' s = 0
        · rw [if_pos (beq_t.mpr v)] at h
          simp only [Bool.and_eq_true] at h
          rw [h.1, Bool.and_true] at g2
          rw [if_pos v, g2]
          simpa using h.2
        · rw [if_neg (fun w => v (beq_t.mp w))] at h
          have lt : (nbN W H ar c' s - 1) / 4 < c' := by
            rcases hnb with w | w
            · exact absurd w v
            · exact w
          rw [if_pos (blt_t.mpr lt)] at h
          simp only [Bool.and_eq_true] at h
          obtain ⟨⟨⟨p1, p2⟩, p3⟩, p4⟩ := h
          rw [p1, Bool.and_true] at g2
          rw [if_neg v, g2, eq_of_beq p4, hb _ (blt_t.mp p3), beq_t.mp p2]
          unfold vlN
          rw [if_neg v]
      · rw [if_neg g] at e2'; cases e2'
theorem bitN_0 : ∀ j, j < 6 → bitN 0 j = false := by decide
theorem srcN_0 (hk : okS W H ar = true) : ∀ j, j < 6 → srcN W H ar 0 j = 0 := by
  obtain ⟨⟨w1, w2⟩, ⟨h1, h2⟩, -, k4⟩ := okS_1 hk
  intro j hj
  unfold srcN
  have z1 : 0 / W = 0 := Nat.zero_div W
  have z2 : 0 % W = 0 := Nat.zero_mod W
  rw [z1, z2]
  cases ar <;> simp <;> omega
theorem mt_all (hk : okS W H ar = true) (hsh : ∀ c, c < W * H → sh c < 10) {y : Nat} (h : lpF W H ar al sh (W * H) 0 0 = some y) {c s : Nat} (hc : c < W * H) (hs : s < 4) : (sid (sh c)).testBit s = vlN sh (nbN W H ar c s) := by
  have go := mt_go (al := al) hk hsh (W * H) 0 (by omega) 0 y (by decide) (T_0 hk) h (fun j hj => by rw [bitN_0 j hj, srcN_0 hk j hj]; rfl)
  by_cases v : nbN W H ar c s = 0
  · exact go c (Nat.zero_le _) hc s hs (Or.inl v)
  · have b := (S_c hk hc).1 s hs
    unfold ckB at b
    have nb : Nat.beq (nbN W H ar c s) 0 = false := by
      cases e : Nat.beq (nbN W H ar c s) 0
      · rfl
      · exact absurd (beq_t.mp e) v
    rw [nb] at b
    simp only [Bool.false_or, Bool.and_eq_true] at b
    obtain ⟨⟨b1, b2⟩, b3⟩ := b
    have b1 := blt_t.mp b1
    have b2 := beq_t.mp b2
    have b3 : (nbN W H ar c s - 1) / 4 ≠ c := fun e => by
      rw [beq_t.mpr e] at b3; cases b3
    rcases Nat.lt_or_ge ((nbN W H ar c s - 1) / 4) c with u | u
    · exact go c (Nat.zero_le _) hc s hs (Or.inr u)
    · have := go ((nbN W H ar c s - 1) / 4) (Nat.zero_le _) b1 ((nbN W H ar c s - 1) % 4) (Nat.mod_lt _ (by decide)) (Or.inr (by rw [b2]; omega))
      rw [b2] at this
      unfold vlN at this ⊢
      rw [if_neg v, this, if_neg (by omega), show (4 * c + s + 1 - 1) / 4 = c by omega, show (4 * c + s + 1 - 1) % 4 = s by omega]
end Ma
/-! orbits of two involutions without fixed points -/
def OrbH (P : Nat → Prop) (a b : Nat → Nat) : Prop := (∀ d, P d → P (a d) ∧ a (a d) = d ∧ a d ≠ d) ∧ ∀ d, P d → P (b d) ∧ b (b d) = d ∧ b d ≠ d
def itr (a b : Nat → Nat) : Nat → Nat → Nat
  | 0, x => x
  | i + 1, x => b (a (itr a b i x))
def wkL (a b pc : Nat → Nat) (st : Nat) : Nat → Nat → List Nat
  | 0, _ => []
  | f + 1, x => pc x :: (if pc (b (a x)) = st then [] else wkL a b pc st f (b (a x)))
section Or
variable {P : Nat → Prop} {a b pc : Nat → Nat} {x : Nat}
theorem it_P (o : OrbH P a b) (hx : P x) : ∀ i, P (itr a b i x) := by
  intro i
  induction i with
  | zero => exact hx
  | succ i ih => exact (o.2 _ (o.1 _ ih).1).1
theorem it_ref (o : OrbH P a b) (hx : P x) : ∀ (k i j : Nat), i + k = j → itr a b j x ≠ b (itr a b i x) := by
  intro k
  induction k using Nat.strongRecOn with
  | ind k ih =>
    intro i j hj e
    have pi := it_P o hx i
    match k, ih, hj with
    | 0, _, hj =>
      have : i = j := by omega
      subst this
      exact (o.2 _ pi).2.2 e.symm
    | 1, _, hj =>
      subst hj
      have e : b (a (itr a b i x)) = b (itr a b i x) := e
      have e2 := congrArg b e
      rw [(o.2 _ (o.1 _ pi).1).2.1, (o.2 _ pi).2.1] at e2
      exact (o.1 _ pi).2.2 e2
    | k + 2, ih, hj =>
      have hj' : j = (i + 1 + k) + 1 := by omega
      subst hj'
      have e : b (a (itr a b (i + 1 + k) x)) = b (itr a b i x) := e
      have pj := it_P o hx (i + 1 + k)
      have e2 := congrArg b e
      rw [(o.2 _ (o.1 _ pj).1).2.1, (o.2 _ pi).2.1] at e2
      have e3 := congrArg a e2
      rw [(o.1 _ pj).2.1] at e3
      refine ih k (by omega) (i + 1) (i + 1 + k) rfl ?_
      show itr a b (i + 1 + k) x = b (b (a (itr a b i x)))
      rw [(o.2 _ (o.1 _ pi).1).2.1]
      exact e3
theorem it_inj (o : OrbH P a b) (hx : P x) : ∀ (i k : Nat), itr a b (i + k) x = itr a b i x → itr a b k x = x := by
  intro i
  induction i with
  | zero => intro k e; rw [Nat.zero_add] at e; exact e
  | succ i ih =>
    intro k e
    have e : b (a (itr a b (i + k) x)) = b (a (itr a b i x)) := by
      have h : i + 1 + k = (i + k) + 1 := by omega
      rw [h] at e
      exact e
    have pi := it_P o hx i
    have pk := it_P o hx (i + k)
    have e2 := congrArg b e
    rw [(o.2 _ (o.1 _ pk).1).2.1, (o.2 _ (o.1 _ pi).1).2.1] at e2
    have e3 := congrArg a e2
    rw [(o.1 _ pk).2.1, (o.1 _ pi).2.1] at e3
    exact ih k e3
theorem nd_map {g : Nat → Nat} : ∀ m, (∀ i j, i < j → j < m → g i ≠ g j) → ((List.range m).map g).Nodup := by
  intro m
  induction m with
  | zero => intro _; exact List.nodup_nil
  | succ m ih =>
    intro h
    rw [List.range_succ, List.map_append, List.nodup_append]
    refine ⟨ih (fun i j h1 h2 => h i j h1 (by omega)), by simp, fun u hu v hv e => ?_⟩
    obtain ⟨i, hi, e1⟩ := List.mem_map.mp hu
    have e2 := List.mem_singleton.mp hv
    have := List.mem_range.mp hi
    exact h i m this (by omega) (by rw [e1, e, e2])
def PcH (P : Nat → Prop) (b pc : Nat → Nat) : Prop := (∀ d, P d → pc d < 40) ∧ (∀ d, P d → pc (b d) = pc d) ∧ ∀ d d', P d → P d' → pc d = pc d' → d = d' ∨ d = b d'
theorem pc_ne (o : OrbH P a b) (p : PcH P b pc) (hx : P x) {m : Nat} (hm : ∀ i, 0 < i → i < m → pc (itr a b i x) ≠ pc x) : ∀ i j, i < j → j < m → pc (itr a b i x) ≠ pc (itr a b j x) := by
  intro i j h1 h2 e
  rcases p.2.2 _ _ (it_P o hx i) (it_P o hx j) e with u | u
  · have hj : i + (j - i) = j := by omega
    have := it_inj o hx i (j - i) (by rw [hj]; exact u.symm)
    exact hm (j - i) (by omega) (by omega) (by rw [this])
  · have pj := it_P o hx j
    have e2 := congrArg b u
    rw [(o.2 _ pj).2.1] at e2
    exact it_ref o hx (j - i) i j (by omega) e2.symm
theorem wk_go (o : OrbH P a b) (p : PcH P b pc) (hx : P x) : ∀ (f i : Nat), i + f = 40 → (∀ i', 0 < i' → i' ≤ i → pc (itr a b i' x) ≠ pc x) → ∃ k, i < k ∧ k ≤ 40 ∧ pc (itr a b k x) = pc x ∧ (∀ i', 0 < i' → i' < k → pc (itr a b i' x) ≠ pc x) ∧ wkL a b pc (pc x) f (itr a b i x) = (List.range (k - i)).map (fun j => pc (itr a b (i + j) x)) := by
  intro f
  induction f with
  | zero =>
    intro i hi h
    exfalso
    have : i = 40 := by omega
    subst this
    have nd := nd_map (g := fun i => pc (itr a b i x)) 41 (pc_ne o p hx (fun i h1 h2 => h i h1 (by omega)))
    have := nd_len (N := 40) nd (fun n hn => by
      obtain ⟨i, -, e⟩ := List.mem_map.mp hn
      rw [← e]
      exact p.1 _ (it_P o hx i))
    simp at this
  | succ f ih =>
    intro i hi h
    by_cases q : pc (itr a b (i + 1) x) = pc x
    · refine ⟨i + 1, by omega, by omega, q, fun i' h1 h2 => h i' h1 (by omega), ?_⟩
      have q' : pc (b (a (itr a b i x))) = pc x := q
      rw [wkL, if_pos q', show i + 1 - i = 1 by omega]
      rfl
    · obtain ⟨k, k1, k2, k3, k4, k5⟩ := ih (i + 1) (by omega) (fun i' h1 h2 => by
        rcases Nat.lt_or_ge i i' with u | u
        · have : i' = i + 1 := by omega
          subst this
          exact q
        · exact h i' h1 u)
      have q' : ¬ pc (b (a (itr a b i x))) = pc x := q
      refine ⟨k, by omega, k2, k3, k4, ?_⟩
      have k5 : wkL a b pc (pc x) f (b (a (itr a b i x))) = (List.range (k - (i + 1))).map (fun j => pc (itr a b (i + 1 + j) x)) := k5
      rw [wkL, if_neg q', k5, show k - i = (k - (i + 1)) + 1 by omega, List.range_succ_eq_map, List.map_cons, List.map_map]
      congr 1
      refine List.map_congr_left (fun j _ => ?_)
      show pc (itr a b (i + 1 + j) x) = pc (itr a b (i + (j + 1)) x)
      rw [show i + 1 + j = i + (j + 1) by omega]
/-- the pieces that a walk meets -/
theorem wk_all (o : OrbH P a b) (p : PcH P b pc) (hx : P x) : let L := wkL a b pc (pc x) 40 x; L.Nodup ∧ pc x ∈ L ∧ (∀ n ∈ L, ∃ d, P d ∧ pc d = n) ∧ (∀ d, P d → pc d ∈ L → pc (a d) ∈ L) ∧ ∀ lab : Nat → Int32, (∀ d, P d → lab (pc d) = lab (pc (a d))) → ∀ n ∈ L, lab n = lab (pc x) := by
  obtain ⟨k, k1, k2, k3, k4, k5⟩ := wk_go o p hx 40 0 (by omega) (fun i' h1 h2 => by omega)
  have k5 : wkL a b pc (pc x) 40 x = (List.range k).map (fun j => pc (itr a b j x)) := by
    rw [Nat.sub_zero] at k5
    have e : ∀ j, 0 + j = j := Nat.zero_add
    simp only [e] at k5
    exact k5
  have xk : itr a b k x = x := by
    rcases p.2.2 _ _ (it_P o hx k) hx k3 with u | u
    · exact u
    · exact absurd u (it_ref o hx k 0 k (by omega))
  have mem : ∀ i, i ≤ k → pc (itr a b i x) ∈ wkL a b pc (pc x) 40 x := by
    intro i hi
    rw [k5]
    rcases Nat.lt_or_ge i k with u | u
    · exact List.mem_map.mpr ⟨i, List.mem_range.mpr u, rfl⟩
    · have : i = k := by omega
      subst this
      exact List.mem_map.mpr ⟨0, List.mem_range.mpr k1, k3.symm⟩
  have get : ∀ n ∈ wkL a b pc (pc x) 40 x, ∃ i, i < k ∧ pc (itr a b i x) = n := by
    intro n hn
    rw [k5] at hn
    obtain ⟨i, hi, e⟩ := List.mem_map.mp hn
    exact ⟨i, List.mem_range.mp hi, e⟩
  refine ⟨?_, mem 0 (by omega), fun n hn => ?_, fun d hd hm => ?_, fun lab hl n hn => ?_⟩
  · rw [k5]
    exact nd_map k (pc_ne o p hx k4)
  · obtain ⟨i, -, e⟩ := get n hn
    exact ⟨_, it_P o hx i, e⟩
  · obtain ⟨i, hi, e⟩ := get _ hm
    have pi := it_P o hx i
    rcases p.2.2 _ _ hd pi e.symm with u | u
    · have : pc (a d) = pc (itr a b (i + 1) x) := by
        rw [u]
        exact (p.2.1 _ (o.1 _ pi).1).symm
      rw [this]
      exact mem (i + 1) (by omega)
    · have back : ∀ j, pc (a (b (itr a b (j + 1) x))) = pc (itr a b j x) := by
        intro j
        have pj := it_P o hx j
        show pc (a (b (b (a (itr a b j x))))) = _
        rw [(o.2 _ (o.1 _ pj).1).2.1, (o.1 _ pj).2.1]
      rw [u]
      cases i with
      | zero =>
        have hk1 : k = (k - 1) + 1 := by omega
        have e2 : itr a b 0 x = itr a b ((k - 1) + 1) x := by rw [← hk1, xk]; rfl
        rw [e2, back]
        exact mem (k - 1) (by omega)
      | succ j => rw [back]; exact mem j (by omega)
  · obtain ⟨i, -, e⟩ := get n hn
    rw [← e]
    have : ∀ i, lab (pc (itr a b i x)) = lab (pc x) := by
      intro i
      induction i with
      | zero => rfl
      | succ i ih =>
        have pi := it_P o hx i
        show lab (pc (b (a (itr a b i x)))) = _
        rw [p.2.1 _ (o.1 _ pi).1, ← hl _ pi, ih]
    exact this i
end Or
