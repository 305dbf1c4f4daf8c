/-! moves as lists; how many ways there are -/
theorem nI_or (a b : Nat) : nI a ||| nI b = nI (a ||| b) := by
  apply Int32.toBitVec_inj.mp
  exact (BitVec.ofNat_or).symm
theorem or_add {a b s : Nat} (h : a < 2 ^ s) : a ||| (b * 2 ^ s) = a + b * 2 ^ s := by
  have := Nat.two_pow_add_eq_or_of_lt h b
  rw [Nat.or_comm, Nat.mul_comm b, ← this, Nat.add_comm]
abbrev Mv : Type := Nat × Nat × Nat × Nat
def enc (m : Mv) : Nat := m.1 + m.2.2.1 * 2 ^ 7 + m.2.1 * 2 ^ 14 + m.2.2.2 * 2 ^ 18
def okM (m : Mv) : Prop := m.1 < 76 ∧ m.2.1 < 10 ∧ m.2.2.1 < 76 ∧ m.2.2.2 ≤ 12
theorem enc_lt {m : Mv} (h : okM m) : enc m < 2 ^ 31 := by
  obtain ⟨h1, h2, h3, h4⟩ := h
  unfold enc
  omega
theorem enc_or {n t n' k : Nat} (h : okM (n, t, n', k)) : ((nI n ||| (nI t <<< (14 &&& 31))) ||| (nI k <<< (18 &&& 31))) ||| (nI n' <<< (7 &&& 31)) = nI (enc (n, t, n', k)) := by
  obtain ⟨h1, h2, h3, h4⟩ := h
  simp only at h1 h2 h3 h4
  rw [pk_shlN (14 &&& 31) 14 (by decide) (by omega), pk_shlN (18 &&& 31) 18 (by decide) (by omega), pk_shlN (7 &&& 31) 7 (by decide) (by omega), nI_or, nI_or, nI_or]
  have e : ((n ||| t * 2 ^ 14) ||| k * 2 ^ 18) ||| n' * 2 ^ 7 = ((n ||| n' * 2 ^ 7) ||| t * 2 ^ 14) ||| k * 2 ^ 18 := by
    rw [Nat.or_assoc, Nat.or_assoc, Nat.or_assoc, Nat.or_assoc]
    congr 1
    rw [Nat.or_comm (k * 2 ^ 18), ← Nat.or_assoc, ← Nat.or_assoc, Nat.or_comm (t * 2 ^ 14)]
  rw [e, or_add (a := n) (by omega), or_add (a := n + n' * 2 ^ 7) (by omega), or_add (a := n + n' * 2 ^ 7 + t * 2 ^ 14) (by omega)]
  rfl
theorem dec_n {m : Mv} (h : okM m) : nI (enc m) &&& 127 = nI m.1 := by
  have hl := enc_lt h
  obtain ⟨h1, h2, h3, h4⟩ := h
  rw [pk_andN (by omega) 7 (by decide)]
  congr 1
  unfold enc
  omega
theorem dec_t {m : Mv} (h : okM m) : (nI (enc m) >>> (14 &&& 31)) &&& 15 = nI m.2.1 := by
  have hl := enc_lt h
  obtain ⟨h1, h2, h3, h4⟩ := h
  rw [pk_shrN hl (14 &&& 31) 14 (by decide), pk_andN (by omega) 4 (by decide)]
  congr 1
  unfold enc
  omega
theorem dec_m {m : Mv} (h : okM m) : (nI (enc m) >>> (7 &&& 31)) &&& 127 = nI m.2.2.1 := by
  have hl := enc_lt h
  obtain ⟨h1, h2, h3, h4⟩ := h
  rw [pk_shrN hl (7 &&& 31) 7 (by decide), pk_andN (by omega) 7 (by decide)]
  congr 1
  unfold enc
  omega
theorem dec_k {m : Mv} (h : okM m) : nI (enc m) >>> (18 &&& 31) = nI m.2.2.2 := by
  have hl := enc_lt h
  obtain ⟨h1, h2, h3, h4⟩ := h
  rw [pk_shrN hl (18 &&& 31) 18 (by decide)]
  congr 1
  unfold enc
  omega
section Mv
variable (W H : Nat) (ar : Bool)
def mvT (c n : Nat) : Nat → Nat → List Mv
  | 0, _ => []
  | f + 1, t => (match tr W H ar c n t with
    | none => []
    | some q => [(n, t, q.1, q.2)]) ++ mvT c n f (t + 1)
def mvN (c : Nat) (R : Nat → Bool) : Nat → Nat → List Mv
  | 0, _ => []
  | f + 1, n => (if R n = true then mvT W H ar c n 10 0 else []) ++ mvN c R f (n + 1)
def rch : Nat → Nat → Bool
  | 0, n => Nat.beq n 0
  | c + 1, n' => (mvN W H ar c (rch c) 76 0).any (fun m => Nat.beq m.2.2.1 n')
def mvs (c : Nat) : List Mv := mvN W H ar c (rch W H ar c) 76 0
def mvA : Nat → List Mv
  | 0 => []
  | c + 1 => mvA c ++ mvs W H ar c
end Mv
section Mw
variable {W H : Nat} {ar : Bool}
theorem mvT_mem {c n : Nat} {m : Mv} : ∀ (f t : Nat), m ∈ mvT W H ar c n f t → m.1 = n ∧ t ≤ m.2.1 ∧ m.2.1 < t + f ∧ tr W H ar c n m.2.1 = some m.2.2 := by
  intro f
  induction f with
  | zero => intro t h; cases h
  | succ f ih =>
    intro t h
    rw [mvT] at h
    rcases List.mem_append.mp h with h | h
    · cases htr : tr W H ar c n t with
      | none => rw [htr] at h; cases h
      | some q =>
        rw [htr] at h
        have := List.mem_singleton.mp h
        subst this
        exact ⟨rfl, Nat.le_refl _, by show t < _; omega, htr⟩
    · obtain ⟨a, b, c, d⟩ := ih (t + 1) h
      exact ⟨a, by omega, by omega, d⟩
theorem mvN_mem {c : Nat} {R : Nat → Bool} {m : Mv} : ∀ (f n : Nat), m ∈ mvN W H ar c R f n → n ≤ m.1 ∧ m.1 < n + f ∧ R m.1 = true ∧ m.2.1 < 10 ∧ tr W H ar c m.1 m.2.1 = some m.2.2 := by
  intro f
  induction f with
  | zero => intro n h; cases h
  | succ f ih =>
    intro n h
    rw [mvN] at h
    rcases List.mem_append.mp h with h | h
    · by_cases q : R n = true
      · rw [if_pos q] at h
        obtain ⟨a, b, d, e⟩ := mvT_mem _ _ h
        rw [a]
        exact ⟨Nat.le_refl _, by omega, q, by omega, e⟩
      · rw [if_neg q] at h; cases h
    · obtain ⟨a, b, d⟩ := ih (n + 1) h
      exact ⟨by omega, by omega, d⟩
theorem rch_in (hk : okS W H ar = true) : ∀ c, c ≤ W * H → ∀ n, rch W H ar c n = true → n < 76 ∧ inL W H ar c n = true := by
  intro c
  induction c with
  | zero =>
    intro _ n h
    have : n = 0 := Nat.eq_of_beq_eq_true h
    subst this
    exact ⟨by decide, T_0 hk⟩
  | succ c ih =>
    intro hc n h
    rw [rch] at h
    obtain ⟨m, hm, e⟩ := List.any_eq_true.mp h
    have e : m.2.2.1 = n := Nat.eq_of_beq_eq_true e
    obtain ⟨a, b, d, f, g⟩ := mvN_mem _ _ hm
    obtain ⟨i1, i2⟩ := ih (by omega) m.1 d
    obtain ⟨-, t2, t3, -⟩ := T_some hk (by omega) i1 i2 f (n' := m.2.2.1) (k := m.2.2.2) g
    rw [← e]
    exact ⟨t2, t3⟩
theorem mvs_ok (hk : okS W H ar = true) {c : Nat} (hc : c < W * H) {m : Mv} (hm : m ∈ mvs W H ar c) : okM m ∧ rch W H ar c m.1 = true ∧ tr W H ar c m.1 m.2.1 = some m.2.2 ∧ rch W H ar (c + 1) m.2.2.1 = true := by
  obtain ⟨a, b, d, f, g⟩ := mvN_mem _ _ hm
  obtain ⟨i1, i2⟩ := rch_in hk c (by omega) m.1 d
  obtain ⟨-, t2, t3, t4, -⟩ := T_some hk hc i1 i2 f (n' := m.2.2.1) (k := m.2.2.2) g
  have t12 := T_12 hk hc i1 i2
  refine ⟨⟨i1, f, t2, by omega⟩, d, g, ?_⟩
  rw [rch]
  exact List.any_eq_true.mpr ⟨m, hm, Nat.beq_refl _⟩
theorem mvA_ok (hk : okS W H ar = true) : ∀ c, c ≤ W * H → ∀ m, m ∈ mvA W H ar c → okM m := by
  intro c
  induction c with
  | zero => intro _ m h; cases h
  | succ c ih =>
    intro hc m h
    rw [mvA] at h
    rcases List.mem_append.mp h with h | h
    · exact ih (by omega) m h
    · exact (mvs_ok hk (by omega) h).1
theorem mvT_len {c n : Nat} : ∀ (f t : Nat), (mvT W H ar c n f t).length ≤ f := by
  intro f
  induction f with
  | zero => intro t; exact Nat.le_refl _
  | succ f ih =>
    intro t
    rw [mvT, List.length_append]
    have := ih (t + 1)
    have : (match tr W H ar c n t with
      | none => ([] : List Mv)
      | some q => [(n, t, q.1, q.2)]).length ≤ 1 := by
      cases tr W H ar c n t <;> simp
    omega
theorem mvN_len {c : Nat} {R : Nat → Bool} : ∀ (f n : Nat), (mvN W H ar c R f n).length ≤ 10 * f := by
  intro f
  induction f with
  | zero => intro t; exact Nat.le_refl _
  | succ f ih =>
    intro n
    rw [mvN, List.length_append]
    have := ih (n + 1)
    have : (if R n = true then mvT W H ar c n 10 0 else []).length ≤ 10 := by
      by_cases q : R n = true
      · rw [if_pos q]; exact mvT_len 10 0
      · rw [if_neg q]; exact Nat.zero_le _
    omega
theorem mvA_len : ∀ c, (mvA W H ar c).length ≤ 760 * c := by
  intro c
  induction c with
  | zero => exact Nat.le_refl _
  | succ c ih =>
    rw [mvA, List.length_append]
    have : (mvs W H ar c).length ≤ 760 := mvN_len 76 0
    omega
end Mw
/-- sums -/
def sT (g : Nat → Nat) : Nat → Nat → Nat
  | 0, _ => 0
  | f + 1, t => g t + sT g f (t + 1)
def sL' (g : Mv → Nat) : List Mv → Nat
  | [] => 0
  | m :: l => g m + sL' g l
theorem sL'_app (g : Mv → Nat) : ∀ (a b : List Mv), sL' g (a ++ b) = sL' g a + sL' g b := by
  intro a
  induction a with
  | nil => intro b; exact (Nat.zero_add _).symm
  | cons m a ih => intro b; show g m + sL' g (a ++ b) = g m + sL' g a + sL' g b; rw [ih b]; omega
theorem sT_c {g g' : Nat → Nat} : ∀ (f t : Nat), (∀ j, t ≤ j → j < t + f → g j = g' j) → sT g f t = sT g' f t := by
  intro f
  induction f with
  | zero => intros; rfl
  | succ f ih =>
    intro t h
    rw [sT, sT, h t (by omega) (by omega), ih (t + 1) (fun j a b => h j (by omega) (by omega))]
/-- how many ways there are from a front at a cell on, closing so many loops -/
def cnt (W H : Nat) (ar : Bool) (al : Nat → Nat) : Nat → Nat → Nat → Nat → Nat
  | 0, _, _, l => if l = 0 then 1 else 0
  | r + 1, c, n, l => sT (fun t => if (al c).testBit t = true then (match tr W H ar c n t with
    | none => 0
    | some q => if q.2 ≤ l then cnt W H ar al r (c + 1) q.1 (l - q.2) else 0) else 0) 10 0
section Cn
variable {W H : Nat} {ar : Bool} {al : Nat → Nat}
theorem sL'_T (g : Mv → Nat) (c n : Nat) : ∀ (f t : Nat), sL' g (mvT W H ar c n f t) = sT (fun t => match tr W H ar c n t with
    | none => 0
    | some q => g (n, t, q.1, q.2)) f t := by
  intro f
  induction f with
  | zero => intro t; rfl
  | succ f ih =>
    intro t
    rw [mvT, sL'_app, ih (t + 1), sT]
    cases tr W H ar c n t <;> rfl
theorem sL'_0 {g : Mv → Nat} : ∀ {l : List Mv}, (∀ m ∈ l, g m = 0) → sL' g l = 0 := by
  intro l
  induction l with
  | nil => intro _; rfl
  | cons m l ih =>
    intro h
    show g m + sL' g l = 0
    rw [h m (List.mem_cons_self), ih (fun x hx => h x (List.mem_cons_of_mem _ hx))]
/-- of all moves of a cell, those of one front -/
theorem sL'_one {c n : Nat} {R : Nat → Bool} {g : Nat → Nat → Nat → Nat} (hR : R n = true) : ∀ (f n0 : Nat), n0 ≤ n → n < n0 + f → sL' (fun m => if m.1 = n then g m.2.1 m.2.2.1 m.2.2.2 else 0) (mvN W H ar c R f n0) = sT (fun t => match tr W H ar c n t with
    | none => 0
    | some q => g t q.1 q.2) 10 0 := by
  intro f
  induction f with
  | zero => intro n0 h1 h2; omega
  | succ f ih =>
    intro n0 h1 h2
    rw [mvN, sL'_app]
    by_cases q : n0 = n
    · subst q
      rw [if_pos hR, sL'_T]
      have z : sL' (fun m : Mv => if m.1 = n0 then g m.2.1 m.2.2.1 m.2.2.2 else 0) (mvN W H ar c R f (n0 + 1)) = 0 := sL'_0 (fun m hm => by
        obtain ⟨a, -⟩ := mvN_mem _ _ hm
        show (if m.1 = n0 then _ else 0) = 0
        rw [if_neg (by omega)])
      rw [z, Nat.add_zero]
      refine sT_c 10 0 (fun j _ _ => ?_)
      cases tr W H ar c n0 j with
      | none => rfl
      | some p => show (if n0 = n0 then _ else 0) = _; rw [if_pos rfl]
    · have z : sL' (fun m : Mv => if m.1 = n then g m.2.1 m.2.2.1 m.2.2.2 else 0) (if R n0 = true then mvT W H ar c n0 10 0 else []) = 0 := by
        by_cases u : R n0 = true
        · rw [if_pos u]
          exact sL'_0 (fun m hm => by
            obtain ⟨a, -⟩ := mvT_mem _ _ hm
            show (if m.1 = n then _ else 0) = 0
            rw [if_neg (by omega)])
        · rw [if_neg u]; rfl
      rw [z, Nat.zero_add, ih (n0 + 1) (by omega) (by omega)]
end Cn
