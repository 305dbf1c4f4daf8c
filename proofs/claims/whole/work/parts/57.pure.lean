/-! forward counts; scans of moves; totals; bounds -/
theorem sT_add {g g' : Nat → Nat} : ∀ (f t : Nat), sT (fun j => g j + g' j) f t = sT g f t + sT g' f t := by
  intro f
  induction f with
  | zero => intro t; rfl
  | succ f ih =>
    intro t
    rw [sT, sT, sT, ih (t + 1)]
    omega
theorem sT_swap {a : Nat → Nat → Nat} (g l0 : Nat) : ∀ (f t : Nat), sT (fun l => sT (fun t => a t l) f t) g l0 = sT (fun t => sT (fun l => a t l) g l0) f t := by
  intro f
  induction f with
  | zero => intro t; exact sT_0 g l0 (fun _ _ _ => rfl)
  | succ f ih =>
    intro t
    rw [sT, ← ih (t + 1), ← sT_add]
    rfl
theorem sT_sh {g : Nat → Nat} (k : Nat) : ∀ (f t : Nat), sT (fun l => g (l - k)) f (t + k) = sT g f t := by
  intro f
  induction f with
  | zero => intro t; rfl
  | succ f ih =>
    intro t
    have := ih (t + 1)
    rw [show t + 1 + k = t + k + 1 by omega] at this
    rw [sT, sT, this, Nat.add_sub_cancel]
theorem sT_le {g g' : Nat → Nat} : ∀ (f t : Nat), (∀ j, t ≤ j → j < t + f → g j ≤ g' j) → sT g f t ≤ sT g' f t := by
  intro f
  induction f with
  | zero => intro t _; exact Nat.le_refl _
  | succ f ih =>
    intro t h
    rw [sT, sT]
    exact Nat.add_le_add (h t (by omega) (by omega)) (ih (t + 1) (fun j a b => h j (by omega) (by omega)))
theorem sT_mul {g : Nat → Nat} (K : Nat) : ∀ (f t : Nat), sT (fun j => g j * K) f t = sT g f t * K := by
  intro f
  induction f with
  | zero => intro t; exact (Nat.zero_mul _).symm
  | succ f ih =>
    intro t
    rw [sT, sT, ih (t + 1), Nat.add_mul]
section Pu
variable (W H : Nat) (ar : Bool) (al : Nat → Nat)
def fwd : Nat → Nat → Nat
  | 0, n => if n = 0 then 1 else 0
  | c + 1, n' => sL' (fun m => if m.2.2.1 = n' ∧ (al c).testBit m.2.1 = true then fwd c m.1 else 0) (mvs W H ar c)
/-- ways through a move that closes k loops: all, or those with d loops -/
def wy (any : Bool) (d c n k : Nat) : Nat := if any = true then tot W H ar al c n else if k ≤ d then cnt W H ar al (W * H - c) c n (d - k) else 0
end Pu
section Pv
variable {W H : Nat} {ar : Bool} {al : Nat → Nat}
theorem tot_rec (hk : okS W H ar = true) {c n : Nat} (hc : c < W * H) (hn : n < 76) (hl : inL W H ar c n = true) : tot W H ar al c n = sT (fun t => if (al c).testBit t = true then (match tr W H ar c n t with
    | none => 0
    | some q => tot W H ar al (c + 1) q.1) else 0) 10 0 := by
  have e : W * H - c = (W * H - (c + 1)) + 1 := by omega
  have m12 := T_12 hk hc hn hl
  unfold tot
  rw [e]
  show sT (fun l => sT (fun t => _) 10 0) 13 0 = _
  rw [sT_swap 13 0 10 0]
  refine sT_c 10 0 (fun t _ ht => ?_)
  by_cases q : (al c).testBit t = true
  · simp only [if_pos q]
    cases htr : tr W H ar c n t with
    | none => exact sT_0 13 0 (fun _ _ _ => rfl)
    | some p =>
      obtain ⟨n', k⟩ := p
      obtain ⟨t1, t2, t3, t4, -⟩ := T_some hk hc hn hl (by omega) htr
      show sT (fun l => if k ≤ l then cnt W H ar al (W * H - (c + 1)) (c + 1) n' (l - k) else 0) 13 0 = sT (fun l => cnt W H ar al (W * H - (c + 1)) (c + 1) n' l) 13 0
      have h1 : sT (fun l => if k ≤ l then cnt W H ar al (W * H - (c + 1)) (c + 1) n' (l - k) else 0) 13 0 = sT (fun l => cnt W H ar al (W * H - (c + 1)) (c + 1) n' l) (13 - k) 0 := by
        rw [show 13 = k + (13 - k) by omega, sT_app, sT_0 k 0 (fun j _ hj => if_neg (by omega)), Nat.zero_add, show k + (13 - k) - k = 13 - k by omega]
        rw [← sT_sh (g := fun l => cnt W H ar al (W * H - (c + 1)) (c + 1) n' l) k (13 - k) 0]
        exact sT_c _ _ (fun j hj _ => if_pos (by omega))
      have h2 : sT (fun l => cnt W H ar al (W * H - (c + 1)) (c + 1) n' l) 13 0 = sT (fun l => cnt W H ar al (W * H - (c + 1)) (c + 1) n' l) (13 - k) 0 := by
        rw [show 13 = (13 - k) + k by omega, sT_app, sT_0 k (0 + (13 - k)) (fun j hj _ => cnt_mx hk _ _ (by omega) n' t2 t3 j (by omega)), Nat.add_zero, show 13 - k + k - k = 13 - k by omega]
      rw [h1, h2]
  · simp only [if_neg q]
    exact sT_0 13 0 (fun _ _ _ => rfl)
theorem wy_rec (hk : okS W H ar = true) (any : Bool) (d : Nat) {c n : Nat} (hc : c < W * H) (hn : n < 76) (hl : inL W H ar c n = true) : wy W H ar al any d c n 0 = sT (fun t => if (al c).testBit t = true then (match tr W H ar c n t with
    | none => 0
    | some q => wy W H ar al any d (c + 1) q.1 q.2) else 0) 10 0 := by
  unfold wy
  by_cases q : any = true
  · simp only [if_pos q]
    exact tot_rec hk hc hn hl
  · simp only [if_neg q]
    rw [if_pos (Nat.zero_le _), Nat.sub_zero, show W * H - c = (W * H - (c + 1)) + 1 by omega, cnt]
    rfl
theorem four : ∀ e, e < 16 → ∀ w, w < 16 → sT (fun t => if sid t &&& ((9 ||| e) &&& 15) = w then 1 else 0) 10 0 ≤ 4 := by decide +kernel
theorem wn_lt (W H : Nat) (ar : Bool) (c d : Nat) : wnD W H ar c d < 16 := by
  unfold wnD
  split <;> split <;> split <;> split <;> decide
def bB (ar : Bool) : Nat := if ar = true then 10 else 4
theorem cnt_le (hk : okS W H ar = true) : ∀ (r c : Nat), c + r = W * H → ∀ n l, cnt W H ar al r c n l ≤ bB ar ^ r := by
  intro r
  induction r with
  | zero =>
    intro c _ n l
    rw [cnt, Nat.pow_zero]
    split <;> decide
  | succ r ih =>
    intro c hc n l
    have s1 : cnt W H ar al (r + 1) c n l ≤ sT (fun t => (if sid t &&& setl W H ar c = wnD W H ar c (fr n) then 1 else 0) * bB ar ^ r) 10 0 := by
      rw [cnt]
      refine sT_le 10 0 (fun t _ _ => ?_)
      by_cases q : (al c).testBit t = true
      · simp only [if_pos q]
        unfold tr
        by_cases v : sid t &&& setl W H ar c = wnD W H ar c (fr n)
        · rw [if_pos v, if_pos v, Nat.one_mul]
          show (if _ ≤ l then _ else 0) ≤ _
          split
          · exact ih (c + 1) (by omega) _ _
          · exact Nat.zero_le _
        · rw [if_neg v]; exact Nat.zero_le _
      · simp only [if_neg q]
        exact Nat.zero_le _
    rw [sT_mul] at s1
    refine Nat.le_trans s1 ?_
    rw [Nat.pow_succ, Nat.mul_comm (bB ar ^ r)]
    refine Nat.mul_le_mul_right _ ?_
    cases ar with
    | false => 
      have e : setl W H false c = (9 ||| edg W H c) &&& 15 := by
        unfold setl fsd
        rfl
      rw [e]
      exact four _ (edg_lt W H c) _ (wn_lt _ _ _ _ _)
    | true =>
      refine Nat.le_trans (sT_le (g' := fun _ => 1) 10 0 (fun t _ _ => ?_)) (by decide)
      split <;> decide
theorem WH_16 (hk : okS W H true = true) : W * H ≤ 16 := by
  obtain ⟨⟨w1, w2⟩, ⟨h1, h2⟩, -, k⟩ := okS_1 hk
  have := k rfl
  have hW : W ≤ 4 := by omega
  have hH : H ≤ 4 := by omega
  exact Nat.mul_le_mul hW hH
theorem pw_lt (hk : okS W H ar = true) {r : Nat} (hr : r ≤ W * H) : bB ar ^ r ≤ 10 ^ 16 := by
  cases ar with
  | false =>
    have h20 := (okS_1 hk).2.2.1
    exact Nat.le_trans (Nat.pow_le_pow_right (by decide : 0 < 4) (show r ≤ 20 by omega)) (by decide)
  | true =>
    have := WH_16 hk
    exact Nat.pow_le_pow_right (by decide : 0 < 10) (show r ≤ 16 by omega)
theorem cnt_63 (hk : okS W H ar = true) {c n l : Nat} (hc : c ≤ W * H) : cnt W H ar al (W * H - c) c n l ≤ 10 ^ 16 := Nat.le_trans (cnt_le hk _ _ (by omega) n l) (pw_lt hk (by omega))
theorem tot_63 (hk : okS W H ar = true) {c n : Nat} (hc : c ≤ W * H) : tot W H ar al c n ≤ 13 * 10 ^ 16 := by
  unfold tot
  refine Nat.le_trans (sT_le (g' := fun _ => 10 ^ 16) 13 0 (fun l _ _ => cnt_63 hk hc)) (by decide)
theorem wy_63 (hk : okS W H ar = true) (any : Bool) {d c n k : Nat} (hc : c ≤ W * H) : wy W H ar al any d c n k < 2 ^ 62 := by
  have a := tot_63 (al := al) (n := n) hk hc
  unfold wy
  split
  · exact Nat.lt_of_le_of_lt a (by decide)
  · split
    · exact Nat.lt_of_le_of_lt (cnt_63 hk hc) (by decide)
    · decide
end Pv
/-! scans -/
section Sn
variable {σ ρ : Type}
def sb (x : Sum ρ σ) (k : σ → Sum ρ σ) : Sum ρ σ := match x with
  | .inl r => .inl r
  | .inr s => k s
def scan (f : σ → Mv → Sum ρ σ) : List Mv → σ → Sum ρ σ
  | [], s => .inr s
  | m :: l, s => sb (f s m) (scan f l)
theorem scan_app (f : σ → Mv → Sum ρ σ) : ∀ (a b : List Mv) (s : σ), scan f (a ++ b) s = sb (scan f a s) (scan f b) := by
  intro a
  induction a with
  | nil => intro b s; rfl
  | cons m a ih =>
    intro b s
    show sb (f s m) (scan f (a ++ b)) = sb (sb (f s m) (scan f a)) (scan f b)
    cases f s m with
    | inl r => rfl
    | inr s' => exact ih b s'
theorem scan_id {f : σ → Mv → Sum ρ σ} : ∀ {a : List Mv}, (∀ m ∈ a, ∀ s, f s m = .inr s) → ∀ s, scan f a s = .inr s := by
  intro a
  induction a with
  | nil => intro _ s; rfl
  | cons m a ih =>
    intro h s
    show sb (f s m) (scan f a) = _
    rw [h m (List.mem_cons_self) s]
    exact ih (fun x hx => h x (List.mem_cons_of_mem _ hx)) s
theorem scan_one {W H : Nat} {ar : Bool} {c n : Nat} {R : Nat → Bool} {f : σ → Mv → Sum ρ σ} (hf : ∀ m s, m.1 ≠ n → f s m = .inr s) (hR : R n = true) : ∀ (k n0 : Nat), n0 ≤ n → n < n0 + k → ∀ s, scan f (mvN W H ar c R k n0) s = scan f (mvT W H ar c n 10 0) s := by
  intro k
  induction k with
  | zero => intro n0 h1 h2; omega
  | succ k ih =>
    intro n0 h1 h2 s
    rw [mvN, scan_app]
    by_cases q : n0 = n
    · subst q
      rw [if_pos hR]
      cases e : scan f (mvT W H ar c n0 10 0) s with
      | inl r => rfl
      | inr s' =>
        exact scan_id (fun m hm s => by
          obtain ⟨a, -⟩ := mvN_mem _ _ hm
          exact hf m s (by omega)) s'
    · have z : scan f (if R n0 = true then mvT W H ar c n0 10 0 else []) s = .inr s := by
        by_cases u : R n0 = true
        · rw [if_pos u]
          exact scan_id (fun m hm s => by
            obtain ⟨a, -⟩ := mvT_mem _ _ hm
            exact hf m s (by omega)) s
        · rw [if_neg u]; rfl
      rw [z]
      exact ih (n0 + 1) (by omega) (by omega) s
end Sn
