/-! the reference's states, as lists -/
section Ls
variable (W H : Nat) (ar : Bool) (al : Nat → Nat)
def mvQ (c n t : Nat) : Option (Nat × Nat) := if (al c).testBit t = true then tr W H ar c n t else none
def am1 (c n t : Nat) : List Mv := match mvQ W H ar al c n t with
  | none => []
  | some q => [(n, t, q.1, q.2)]
def amT (c n : Nat) : Nat → Nat → List Mv
  | 0, _ => []
  | f + 1, t => am1 W H ar al c n t ++ amT c n f (t + 1)
def amN (c : Nat) : List Nat → List Mv
  | [] => []
  | n :: l => amT W H ar al c n 10 0 ++ amN c l
def ddl : List Nat → List Mv → List Nat
  | acc, [] => acc
  | acc, m :: D => ddl (ddc acc m.2.2.1) D
def Ls : Nat → List Nat
  | 0 => [0]
  | c + 1 => ddl [] (amN W H ar al c (Ls c))
def rdS (c n' : Nat) (D : List Mv) : Nat := sL' (fun m => if m.2.2.1 = n' then fwd W H ar al c m.1 else 0) D
end Ls
section Lt
variable {W H : Nat} {ar : Bool} {al : Nat → Nat}
theorem ddl_app : ∀ (A : List Mv) (acc : List Nat) (B : List Mv), ddl acc (A ++ B) = ddl (ddl acc A) B := by
  intro A
  induction A with
  | nil => intro acc B; rfl
  | cons m A ih => intro acc B; exact ih _ B
theorem ddl_get : ∀ (D : List Mv) {acc : List Nat} {z n : Nat}, acc[z]? = some n → (ddl acc D)[z]? = some n := by
  intro D
  induction D with
  | nil => intro acc z n h; exact h
  | cons m D ih => intro acc z n h; exact ih (ddc_get h)
theorem ddc_mem {acc : List Nat} {n x : Nat} : x ∈ ddc acc n ↔ x ∈ acc ∨ n = x := by
  unfold ddc
  by_cases q : n ∈ acc
  · rw [if_pos q]
    refine ⟨Or.inl, fun h => ?_⟩
    rcases h with h | h
    · exact h
    · rw [← h]; exact q
  · rw [if_neg q, List.mem_append, List.mem_singleton]
    exact ⟨fun h => h.imp id Eq.symm, fun h => h.imp id Eq.symm⟩
theorem ddc_nd {acc : List Nat} {n : Nat} (h : acc.Nodup) : (ddc acc n).Nodup := by
  unfold ddc
  by_cases q : n ∈ acc
  · rw [if_pos q]; exact h
  · rw [if_neg q, List.nodup_append]
    refine ⟨h, by simp, fun a ha b hb e => ?_⟩
    have := List.mem_singleton.mp hb
    rw [this] at e
    exact q (e ▸ ha)
theorem ddl_mem : ∀ (D : List Mv) {acc : List Nat} {x : Nat}, x ∈ ddl acc D ↔ x ∈ acc ∨ ∃ m ∈ D, m.2.2.1 = x := by
  intro D
  induction D with
  | nil =>
    intro acc x
    exact ⟨Or.inl, fun h => by
      rcases h with h | ⟨m, hm, -⟩
      · exact h
      · cases hm⟩
  | cons m D ih =>
    intro acc x
    rw [ddl, ih, ddc_mem]
    constructor
    · intro h
      rcases h with (h | h) | ⟨p, hp, e⟩
      · exact Or.inl h
      · exact Or.inr ⟨m, List.mem_cons_self, h⟩
      · exact Or.inr ⟨p, List.mem_cons_of_mem _ hp, e⟩
    · intro h
      rcases h with h | ⟨p, hp, e⟩
      · exact Or.inl (Or.inl h)
      · rcases List.mem_cons.mp hp with u | u
        · exact Or.inl (Or.inr (u ▸ e))
        · exact Or.inr ⟨p, u, e⟩
theorem ddl_nd : ∀ (D : List Mv) {acc : List Nat}, acc.Nodup → (ddl acc D).Nodup := by
  intro D
  induction D with
  | nil => intro acc h; exact h
  | cons m D ih => intro acc h; exact ih (ddc_nd h)
theorem mvO_some {c n t : Nat} {q : Nat × Nat} (h : mvQ W H ar al c n t = some q) : (al c).testBit t = true ∧ tr W H ar c n t = some q := by
  unfold mvQ at h
  by_cases u : (al c).testBit t = true
  · rw [if_pos u] at h; exact ⟨u, h⟩
  · rw [if_neg u] at h; cases h
theorem am1_mem {c n t : Nat} {m : Mv} (h : m ∈ am1 W H ar al c n t) : m.1 = n ∧ m.2.1 = t ∧ mvQ W H ar al c n t = some m.2.2 := by
  unfold am1 at h
  cases e : mvQ W H ar al c n t with
  | none => rw [e] at h; cases h
  | some q =>
    rw [e] at h
    have := List.mem_singleton.mp h
    subst this
    exact ⟨rfl, rfl, rfl⟩
theorem amT_mem {c n : Nat} {m : Mv} : ∀ (f t : Nat), m ∈ amT W H ar al c n f t → m.1 = n ∧ t ≤ m.2.1 ∧ m.2.1 < t + f ∧ mvQ W H ar al c n m.2.1 = some m.2.2 := by
  intro f
  induction f with
  | zero => intro t h; cases h
  | succ f ih =>
    intro t h
    rw [amT] at h
    rcases List.mem_append.mp h with h | h
    · obtain ⟨a, b, e⟩ := am1_mem h
      rw [b]
      exact ⟨a, Nat.le_refl _, by omega, e⟩
    · obtain ⟨a, b, e, g⟩ := ih (t + 1) h
      exact ⟨a, by omega, by omega, g⟩
theorem amT_in {c n t : Nat} {q : Nat × Nat} (h : mvQ W H ar al c n t = some q) : ∀ (f t0 : Nat), t0 ≤ t → t < t0 + f → (n, t, q.1, q.2) ∈ amT W H ar al c n f t0 := by
  intro f
  induction f with
  | zero => intro t0 h1 h2; omega
  | succ f ih =>
    intro t0 h1 h2
    rw [amT]
    by_cases u : t0 = t
    · subst u
      refine List.mem_append_left _ ?_
      unfold am1
      rw [h]
      exact List.mem_singleton.mpr rfl
    · exact List.mem_append_right _ (ih (t0 + 1) (by omega) (by omega))
theorem amN_mem {c : Nat} {m : Mv} : ∀ (l : List Nat), m ∈ amN W H ar al c l → m.1 ∈ l ∧ m.2.1 < 10 ∧ mvQ W H ar al c m.1 m.2.1 = some m.2.2 := by
  intro l
  induction l with
  | nil => intro h; cases h
  | cons n l ih =>
    intro h
    rw [amN] at h
    rcases List.mem_append.mp h with h | h
    · obtain ⟨a, b, e, g⟩ := amT_mem _ _ h
      rw [a]
      exact ⟨List.mem_cons_self, by omega, g⟩
    · obtain ⟨a, b⟩ := ih h
      exact ⟨List.mem_cons_of_mem _ a, b⟩
theorem amN_in {c n t : Nat} {q : Nat × Nat} (h : mvQ W H ar al c n t = some q) (ht : t < 10) : ∀ (l : List Nat), n ∈ l → (n, t, q.1, q.2) ∈ amN W H ar al c l := by
  intro l
  induction l with
  | nil => intro h; cases h
  | cons n0 l ih =>
    intro hn
    rw [amN]
    rcases List.mem_cons.mp hn with u | u
    · rw [← u]
      exact List.mem_append_left _ (amT_in h 10 0 (by omega) (by omega))
    · exact List.mem_append_right _ (ih u)
theorem amN_app {c : Nat} : ∀ (a b : List Nat), amN W H ar al c (a ++ b) = amN W H ar al c a ++ amN W H ar al c b := by
  intro a
  induction a with
  | nil => intro b; rfl
  | cons n a ih => intro b; rw [List.cons_append, amN, amN, ih, List.append_assoc]
theorem Ls_nd : ∀ c, (Ls W H ar al c).Nodup := by
  intro c
  cases c with
  | zero => simp [Ls]
  | succ c => exact ddl_nd _ List.nodup_nil
theorem Ls_rch (hk : okS W H ar = true) : ∀ c, c ≤ W * H → ∀ n, n ∈ Ls W H ar al c → rch W H ar c n = true := by
  intro c
  induction c with
  | zero =>
    intro _ n h
    have : n = 0 := List.mem_singleton.mp h
    subst this
    rfl
  | succ c ih =>
    intro hc n h
    rw [Ls] at h
    rcases (ddl_mem _).mp h with h | ⟨m, hm, e⟩
    · cases h
    · obtain ⟨a, b, g⟩ := amN_mem _ hm
      have := rch_st hk (by omega) (ih (by omega) _ a) b (mvO_some g).2
      rw [← e]
      exact (mvs_ok hk (by omega) this).2.2.2
theorem Ls_len (hk : okS W H ar = true) {c : Nat} (hc : c ≤ W * H) : (Ls W H ar al c).length ≤ 76 := nd_len (Ls_nd c) (fun n hn => (rch_in hk c hc n (Ls_rch hk c hc n hn)).1)
theorem Ls_out (hk : okS W H ar = true) : ∀ c, c ≤ W * H → ∀ n, n ∉ Ls W H ar al c → fwd W H ar al c n = 0 := by
  intro c
  induction c with
  | zero =>
    intro _ n h
    rw [fwd, if_neg]
    intro e
    exact h (List.mem_singleton.mpr e)
  | succ c ih =>
    intro hc n h
    rw [fwd]
    refine sL'_0 (fun m hm => ?_)
    show (if m.2.2.1 = n ∧ (al c).testBit m.2.1 = true then fwd W H ar al c m.1 else 0) = 0
    by_cases q : m.2.2.1 = n ∧ (al c).testBit m.2.1 = true
    · rw [if_pos q]
      refine ih (by omega) _ (fun hin => h ?_)
      obtain ⟨ok, k1, k2, k3⟩ := mvs_ok hk (by omega) hm
      have e : mvQ W H ar al c m.1 m.2.1 = some m.2.2 := by unfold mvQ; rw [if_pos q.2]; exact k2
      rw [Ls]
      exact (ddl_mem _).mpr (Or.inr ⟨_, amN_in e ok.2.1 _ hin, q.1⟩)
    · rw [if_neg q]
theorem sL'_N (g : Mv → Nat) {c : Nat} {R : Nat → Bool} : ∀ (f n0 : Nat), sL' g (mvN W H ar c R f n0) = sT (fun n => if R n = true then sL' g (mvT W H ar c n 10 0) else 0) f n0 := by
  intro f
  induction f with
  | zero => intro n0; rfl
  | succ f ih =>
    intro n0
    rw [mvN, sL'_app, ih (n0 + 1), sT]
    by_cases q : R n0 = true
    · rw [if_pos q, if_pos q]
    · rw [if_neg q, if_neg q]; rfl
theorem sL'_amN (g : Mv → Nat) {c : Nat} : ∀ (l : List Nat), sL' g (amN W H ar al c l) = lS (fun n => sL' g (amT W H ar al c n 10 0)) l := by
  intro l
  induction l with
  | nil => rfl
  | cons n l ih => rw [amN, sL'_app, ih, lS]
theorem sL'_c {g g' : Mv → Nat} : ∀ {l : List Mv}, (∀ m ∈ l, g m = g' m) → sL' g l = sL' g' l := by
  intro l
  induction l with
  | nil => intro _; rfl
  | cons m l ih =>
    intro h
    rw [sL', sL', h m List.mem_cons_self, ih (fun x hx => h x (List.mem_cons_of_mem _ hx))]
theorem sL'_am (g : Mv → Nat) {c n : Nat} : ∀ (f t : Nat), sL' (fun m => if (al c).testBit m.2.1 = true then g m else 0) (mvT W H ar c n f t) = sL' g (amT W H ar al c n f t) := by
  intro f
  induction f with
  | zero => intro t; rfl
  | succ f ih =>
    intro t
    rw [mvT, amT, sL'_app, sL'_app, ih (t + 1)]
    congr 1
    unfold am1 mvQ
    cases e : tr W H ar c n t with
    | none =>
      by_cases u : (al c).testBit t = true
      · rw [if_pos u]; rfl
      · rw [if_neg u]; rfl
    | some q =>
      by_cases u : (al c).testBit t = true
      · rw [if_pos u]
        show (if (al c).testBit t = true then g (n, t, q.1, q.2) else 0) + 0 = _
        rw [if_pos u]; rfl
      · rw [if_neg u]
        show (if (al c).testBit t = true then g (n, t, q.1, q.2) else 0) + 0 = _
        rw [if_neg u]; rfl
/-- sums over the states, and over all fronts -/
theorem Ls_sum (hk : okS W H ar = true) {c : Nat} (hc : c ≤ W * H) (G : Mv → Nat) (hG : ∀ m, m.1 ∉ Ls W H ar al c → G m = 0) : sL' G (amN W H ar al c (Ls W H ar al c)) = sL' (fun m => if (al c).testBit m.2.1 = true then G m else 0) (mvs W H ar c) := by
  have hr := Ls_rch (al := al) hk c hc
  unfold mvs
  rw [sL'_amN, sL'_N, lS_T (N := 76) _ (Ls_nd c) (fun n hn => (rch_in hk c hc n (hr n hn)).1)]
  refine sT_c 76 0 (fun n _ _ => ?_)
  rw [sL'_am]
  by_cases q : n ∈ Ls W H ar al c
  · rw [if_pos q, if_pos (hr n q)]
  · rw [if_neg q]
    have z : sL' G (amT W H ar al c n 10 0) = 0 := sL'_0 (fun m hm => hG m (by rw [(amT_mem _ _ hm).1]; exact q))
    rw [z]
    split <;> rfl
theorem rd_fwd (hk : okS W H ar = true) {c : Nat} (hc : c ≤ W * H) (n' : Nat) : rdS W H ar al c n' (amN W H ar al c (Ls W H ar al c)) = fwd W H ar al (c + 1) n' := by
  unfold rdS
  rw [Ls_sum hk hc _ (fun m hm => by
    show (if m.2.2.1 = n' then fwd W H ar al c m.1 else 0) = 0
    rw [Ls_out hk c hc _ hm]
    split <;> rfl), fwd]
  refine sL'_c (fun m _ => ?_)
  show (if (al c).testBit m.2.1 = true then (if m.2.2.1 = n' then fwd W H ar al c m.1 else 0) else 0) = _
  by_cases u : (al c).testBit m.2.1 = true
  · rw [if_pos u]
    by_cases v : m.2.2.1 = n'
    · rw [if_pos v, if_pos ⟨v, u⟩]
    · rw [if_neg v, if_neg (fun z => v z.1)]
  · rw [if_neg u, if_neg (fun z => u z.2)]
end Lt
