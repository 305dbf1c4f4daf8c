/-! the claim out of a run of the little machine -/
def flw : List Cond := flatC (Jvm.Cond.and given_1 narrow_1)
def xT : Nat → List Int32
  | 0 => [0, 5, 10, 3, 6, 12, 9, 15, 15, 15]
  | 1 => [-1, -1, -1, -1, 2, -1, 0, -1, -1, 3, -1, 1, 1, 0, -1, -1, -1, 2, 1, -1, -1, -1, 3, 2, 3, -1, -1, 0, 3, 2, 1, 0, 1, 0, 3, 2, 2, 3, 0, 1]
  | 2 => [-1, -1, 2, -1, 1, -1, 1, -1, 2, -1, 3, -1, 0, -1, 3, 1, 1, 3, 2, 1]
  | 3 => [1, 1, 2, 4, 10, 26, 76]
  | _ => []
def xv (i j : Nat) : Int32 := (xT i).getD j 0
set_option maxRecDepth 100000 in
theorem fw0 : [7, 8, 9, 10, 11, 12, 13, 14, 15, 16].map (nth flw) = (List.range 10).map (fun j => some (Cond.eq (.elem (.static (stC 0) (stN 0) "[I") (.int (Int32.ofNat j))) (.int (xv 0 j)))) := rfl
set_option maxRecDepth 100000 in
theorem fa0 : nth flw 5 = some (Cond.arrayOf (.static (stC 0) (stN 0) "[I") .int) := rfl
set_option maxRecDepth 100000 in
theorem fl0 : nth flw 6 = some (Cond.eq (.length (.static (stC 0) (stN 0) "[I")) (.int (Int32.ofNat 10))) := rfl
set_option maxRecDepth 100000 in
theorem fw1 : [53, 54, 55, 56, 57, 58, 59, 60, 61, 62, 63, 64, 65, 66, 67, 68, 69, 70, 71, 72, 73, 74, 75, 76, 77, 78, 79, 80, 81, 82, 83, 84, 85, 86, 87, 88, 89, 90, 91, 92].map (nth flw) = (List.range 40).map (fun j => some (Cond.eq (.elem (.static (stC 1) (stN 1) "[I") (.int (Int32.ofNat j))) (.int (xv 1 j)))) := rfl
set_option maxRecDepth 100000 in
theorem fa1 : nth flw 51 = some (Cond.arrayOf (.static (stC 1) (stN 1) "[I") .int) := rfl
set_option maxRecDepth 100000 in
theorem fl1 : nth flw 52 = some (Cond.eq (.length (.static (stC 1) (stN 1) "[I")) (.int (Int32.ofNat 40))) := rfl
set_option maxRecDepth 100000 in
theorem fw2 : [30, 31, 32, 33, 34, 35, 36, 37, 38, 39, 40, 41, 42, 43, 44, 45, 46, 47, 48, 49].map (nth flw) = (List.range 20).map (fun j => some (Cond.eq (.elem (.static (stC 2) (stN 2) "[I") (.int (Int32.ofNat j))) (.int (xv 2 j)))) := rfl
set_option maxRecDepth 100000 in
theorem fa2 : nth flw 28 = some (Cond.arrayOf (.static (stC 2) (stN 2) "[I") .int) := rfl
set_option maxRecDepth 100000 in
theorem fl2 : nth flw 29 = some (Cond.eq (.length (.static (stC 2) (stN 2) "[I")) (.int (Int32.ofNat 20))) := rfl
set_option maxRecDepth 100000 in
theorem fw3 : [20, 21, 22, 23, 24, 25, 26].map (nth flw) = (List.range 7).map (fun j => some (Cond.eq (.elem (.static (stC 3) (stN 3) "[I") (.int (Int32.ofNat j))) (.int (xv 3 j)))) := rfl
set_option maxRecDepth 100000 in
theorem fa3 : nth flw 18 = some (Cond.arrayOf (.static (stC 3) (stN 3) "[I") .int) := rfl
set_option maxRecDepth 100000 in
theorem fl3 : nth flw 19 = some (Cond.eq (.length (.static (stC 3) (stN 3) "[I")) (.int (Int32.ofNat 7))) := rfl
def xLn : Nat → Nat
  | 0 => 10
  | 1 => 40
  | 2 => 20
  | _ => 7
theorem st_ok {args : Array Value} {s : State} (hgv : (Jvm.Cond.and given_1 narrow_1).before args s = true) (A : Nat → Prop) (hA : ∀ a : Nat, a < s.heap.size → ¬ A a) : ∀ i, i < 4 → ∃ t : Nat, (Term.static (stC i) (stN i) "[I").eval args s none [] s = some (.ref t) ∧ va_T .int t (xLn i) (fun j => .int (xv i j)) A s s.heap := by
  have hs := flat_of_before _ hgv
  have hn : ∀ {k : Nat} {w : Cond}, nth flw k = some w → w.before args s = true := fun h => hs _ (nth_mem h)
  have el : ∀ {ps : List Nat} {n : Nat} {f : Nat → Cond}, ps.map (nth flw) = (List.range n).map (fun j => some (f j)) → ∀ j, j < n → (f j).before args s = true := by
    intro ps n f h j hj
    have h1 := congrArg (fun l => l[j]?) h
    rw [List.getElem?_map, List.getElem?_map, List.getElem?_range hj] at h1
    cases hp : ps[j]? with
    | none => rw [hp] at h1; cases h1
    | some k => rw [hp] at h1; exact hn (Option.some.inj h1)
  intro i hi
  match i, hi with
  | 0, _ => exact va_Tof (by decide) (hn fa0) (va_eqt (hn fl0)) (fun j hj => va_eqt (el fw0 j hj)) hA
  | 1, _ => exact va_Tof (by decide) (hn fa1) (va_eqt (hn fl1)) (fun j hj => va_eqt (el fw1 j hj)) hA
  | 2, _ => exact va_Tof (by decide) (hn fa2) (va_eqt (hn fl2)) (fun j hj => va_eqt (el fw2 j hj)) hA
  | 3, _ => exact va_Tof (by decide) (hn fa3) (va_eqt (hn fl3)) (fun j hj => va_eqt (el fw3 j hj)) hA
/-- the little machine's heap at the start, with the script xs of L ints -/
def h0 (L : Nat) (xs : Nat → Int32) : HP := (fun i => if i < 5 then 13 else 99, fun i => if i < 4 then xLn i else L, fun i => if i < 4 then xv i else xs, fun _ _ => 0, fun _ _ => none, 5, 0)
/-! THE CLAIM OUT OF ONE WALK OF THE LAW'S BODY. Your part is whole_start (and what it stands on); all else here is the same for every law, but numbers. -/
def R_law : String := "LoopBoardLaw"
def lw_P (b : Addr) (xs : List Int32) (args : Array Value) (s : State) : Prop := args = #[.ref b] ∧ s.IntsAt b xs ∧ xs.length ≤ 3584 ∧ (Jvm.Cond.and given_1 narrow_1).before args s = true
def lw_Q (_ : Array Value) (s : State) (o : Outcome) (t : State) : Prop := o = .returned (some (.int 1)) ∧ Framed s o t [] 600000 7302250
def lw_Z (below : List Frame) (a : Array Value) (s : State) : State → Prop := fun t => ∃ o, t.status = .running ∧ Ended t below o ∧ lw_Q a s o t
/-- the law's own end, with 1 on the stack, nothing written that was there before, its room as the claim has it -/
theorem lw_ret {p : Program} {l : Launch} {e : Env} {s : State} {m : MethodId} {below : List Frame} {meth : Method} {c : Code} {b : Nat} (hx : p.tables.exec = Jvm.exec) (hb : c.code = code) (hr : meth.sig.returnType = ret) (hlocks : meth.locks = false) {pc : Nat} {H : Heap} {ls : Array Slot} (hdg : decode code pc = .ok (.ireturn, 1)) : W p l e room_1 s m #[Value.ref b] below meth c H [] 600000 7302250 (lw_Z below #[Value.ref b] s) (F0 m pc ls [.int 1]) := by
  intro T hT X
  obtain ⟨fs, hret, hrun, hended, hW, hframe⟩ := X.leave (v := some (.int 1)) (hlocks := hlocks) (fun h => by rw [hr] at h; cases h)
  have hmeth' : T.vm.method? m = some meth := X.method'
  refine ⟨T.setFrames fs, ?_, .returned (some (.int 1)), hrun, hended, rfl, ⟨_, rfl⟩, hW, hframe⟩
  jvm_step X.here [X.here.top, hx, hb, hdg, hmeth', hr, ret, narrow_b1]
  (try refine ⟨rfl, ?_⟩); (try refine ⟨rfl, ?_⟩)
  first | (intro acts; rw [hret _ acts rfl rfl rfl]) | rw [hret _ _ rfl rfl rfl]
  exact Steps.refl _
/-- what holds at the law's entry: the machine, the code, the tables' words (any of lw_tbl by 'hts w (by decide +kernel)'), the script of L ints xs at the cell b, what the Statement gives of the start (any of its parts by flat_of_before) -/
def lw_At (p : Program) (s : State) (m : MethodId) (meth : Method) (c : Code) (b L : Nat) (xs : Nat → Int32) : Prop :=
  p.tables.exec = Jvm.exec ∧ c.code = code ∧ meth.sig.returnType = ret ∧ c.maxLocals = 4 ∧ s.vm.findClass R_law = some m.cls ∧ (∀ w ∈ lw_tbl, w.before #[Value.ref b] s = true) ∧ va_X b L xs s s.heap ∧ b < s.heap.size ∧ meth.locks = false ∧ (Jvm.Cond.and given_1 narrow_1).before #[Value.ref b] s = true

theorem known7 {args : Array Value} {s : State} (hts : ∀ w ∈ gw, w.before args s = true) : ∃ (D : va_G), ∀ (k : Nat) (q : vw_C), vwCl[k]? = some q → u_Kn s q.1 q.2.1 q.2.2 (D.1 k) (D.2 k) := by
  have h1 : ∀ a, ∃ (c : ClassId) (iS : Nat → Nat), a < 7 → u_Kn s (vc a).1 (vc a).2.1 (vc a).2.2 c iS := by
    intro a
    by_cases ha : a < 7
    · obtain ⟨c, iS, h⟩ := u_known (n := (vc a).2.2) hts (lay_in ha) (hts _ (ins_in ha).1)
      exact ⟨c, iS, fun _ => h⟩
    · exact ⟨0, fun _ => 0, fun h => absurd h ha⟩
  refine ⟨(fun a => (h1 a).choose, fun a => (h1 a).choose_spec.choose), fun k q hq => ?_⟩
  have hk : k < 7 := (List.getElem?_eq_some_iff.mp hq).1
  rw [vc_at hk] at hq
  cases hq
  exact (h1 k).choose_spec.choose_spec hk
theorem arrs3 {args : Array Value} {s : State} (hts : ∀ w ∈ gw, w.before args s = true) : ∃ cA : Nat → ClassId, ∀ (k : Nat) (q : ClassId × FieldType), (tyA cA)[k]? = some q → ArrOfT s q.1 q.2 ∧ va_RA s q.1 q.2 := by
  have one : ∀ {t : Nat} {ty : FieldType}, (acp.map (nth lw_tbl))[t]? = some (some (Cond.arrayClass ty)) → (∀ (U : State) (c : ClassId), U.vm.findClass ("[" ++ ty.toString) = some c → va_RA U c ty) → ∃ cA : ClassId, ArrOfT s cA ty ∧ va_RA s cA ty := by
    intro t ty h hra
    rw [List.getElem?_map] at h
    cases hp : acp[t]? with
    | none => rw [hp] at h; cases h
    | some k =>
      rw [hp] at h
      obtain ⟨cA, kA, comp, a1, a2, a3⟩ := Cond.arrayClass_spec (hts _ (word_in (Option.some.inj h) rfl))
      exact ⟨cA, fun n z => ⟨fun k h => (by cases h), kA, a2, comp, a3⟩, hra s cA a1⟩
  obtain ⟨c0, p0, q0⟩ := one (t := 0) (ty := .int) (by rw [w_arr]; rfl) (fun _ _ h => h)
  obtain ⟨c1, p1, q1⟩ := one (t := 1) (ty := .long) (by rw [w_arr]; rfl) (fun _ _ h => h)
  obtain ⟨c2, p2, q2⟩ := one (t := 2) (ty := .boolean) (by rw [w_arr]; rfl) (fun _ _ h => h)
  refine ⟨fun k => if k = 10 then c0 else if k = 11 then c1 else c2, fun k q hq => ?_⟩
  match k, hq with
  | 0, hq => cases hq; exact ⟨p0, q0⟩
  | 1, hq => cases hq; exact ⟨p1, q1⟩
  | 2, hq => cases hq; exact ⟨p2, q2⟩
  | k + 3, hq => simp [tyA] at hq
set_option maxHeartbeats 4000000 in
set_option maxRecDepth 100000 in
theorem start_of {p : Program} {e : Env} {s : State} {m : MethodId} {below : List Frame} {meth : Method} {c : Code} (l : Launch) {b L : Nat} {xs : Nat → Int32} (hL : L ≤ 3584) (C0 : lw_At p s m meth c b L xs) {hf : HP} (hX : X (144, 0, [.ref 4, .null, .null, .null], [], h0 L xs) = some (some (.int 1), hf)) (hz : hZ hf ≤ 600005) (hu : hU hf ≤ 7302250) :
    W p l e room_1 s m #[Value.ref b] below meth c s.heap [] 0 0 (lw_Z below #[Value.ref b] s) (entryFrame m ([Value.ref b] : List Value).toArray 4) := by
  obtain ⟨hx, hb, hr, hml, hown, hts0, hXs, hbl, hlocks, hgv⟩ := C0
  have hts : ∀ w ∈ gw, w.before #[Value.ref b] s = true := fun w hw => hts0 w (List.mem_filter.mp hw).1
  obtain ⟨n, hrun⟩ := X_some.mp hX
  have hy : nth mtab 144 = some mm144 := rfl
  obtain ⟨⟨m1, m2⟩, k⟩ := sim n 144 0 mm144 _ [] _ _ hf hy hrun
  obtain ⟨D, hD⟩ := known7 hts
  obtain ⟨cA, hcA⟩ := arrs3 hts
  have hst := st_ok hgv (fun q => s.heap.size ≤ q) (fun a ha => Nat.not_le.mpr ha)
  have hst2 : ∀ i, ∃ t : Nat, i < 4 → (Term.static (stC i) (stN i) "[I").eval #[Value.ref b] s none [] s = some (.ref t) ∧ va_T .int t (xLn i) (fun j => .int (xv i j)) (fun q => s.heap.size ≤ q) s s.heap := by
    intro i
    by_cases hi : i < 4
    · obtain ⟨t, ht⟩ := hst i hi
      exact ⟨t, fun _ => ht⟩
    · exact ⟨0, fun h => absurd h hi⟩
  let ex : Nat → Nat := fun i => if i < 4 then (hst2 i).choose else b
  have hex : ∀ i, i < 4 → ex i = (hst2 i).choose := fun i hi => if_pos hi
  let g : GP := (D, cA, s.heap.size, ex, fun i => if i < 4 then xLn i else L, fun i => if i < 4 then xv i else xs)
  have hK : Kx g s s.heap := by
    refine ⟨Nat.le_refl _, ⟨hD, hcA⟩, ?_, ?_, ?_⟩
    · intro w hw
      have h1 : some w ∈ nw_.map some := List.mem_map.mpr ⟨w, hw, rfl⟩
      rw [← w_nst] at h1
      obtain ⟨i, -, hi⟩ := List.mem_map.mp h1
      refine va_Nw.of ?_ (hts0 w (nth_mem hi))
      simp only [nw_, List.mem_cons, List.mem_nil_iff, or_false] at hw
      rcases hw with rfl | rfl | rfl | rfl | rfl | rfl | rfl <;> rfl
    · intro i hi
      have h1 := ((hst2 i).choose_spec hi).1
      have hw : Cond.laysStatic (stC i) (stN i) "[I" ∈ lw_tbl := by
        have h2 := congrArg (fun l => l[i]?) w_sts
        rw [List.getElem?_map, List.getElem?_map, List.getElem?_range hi] at h2
        cases hp : stp[i]? with
        | none => rw [hp] at h2; cases h2
        | some q => rw [hp] at h2; exact nth_mem (Option.some.inj h2)
      have hini : Cond.initialized (stC i) ∈ gw := by
        match i, hi with
        | 0, _ => exact (ins_in (a := 5) (by decide)).2
        | 1, _ => exact (ins_in (a := 5) (by decide)).2
        | 2, _ => exact (ins_in (a := 5) (by decide)).2
        | 3, _ => exact (ins_in (a := 1) (by decide)).2
      show va_Z (stC i) (stN i) "[I" (.ref (ex i)) (fun q => s.heap.size ≤ q) s s.heap
      rw [hex i hi]
      exact va_Zof (hts0 _ hw) (hts _ hini) h1 (fun a ha => Nat.not_le.mpr ha)
    · intro i hi
      show va_T .int (ex i) (if i < 4 then xLn i else L) (fun j => .int ((if i < 4 then xv i else xs) j)) (fun q => s.heap.size ≤ q) s s.heap
      by_cases h4 : i < 4
      · rw [hex i h4, if_pos h4, if_pos h4]
        exact ((hst2 i).choose_spec h4).2
      · rw [show ex i = b from if_neg h4, if_neg h4, if_neg h4]
        obtain ⟨scr, a1, a2, a3, a4, a5⟩ := hXs
        exact ⟨scr, a1, a2, a3, Nat.le_of_eq a4.symm, by rw [a4], a5, Nat.not_le.mpr hbl⟩
  have hwf : WF g (h0 L xs) := by
    refine ⟨Nat.le_refl _, fun i hi => ⟨if_pos hi, rfl, rfl⟩, fun o ho => if_neg (Nat.not_lt.mpr ho), fun o ho => ?_⟩
    rcases Nat.lt_or_ge o 5 with q | q
    · exact q
    · have h1 : (if o < 5 then 13 else 99) = 13 := ho
      rw [if_neg (Nat.not_lt.mpr q)] at h1
      cases h1
  have hz0 : hZ (h0 L xs) = 5 := rfl
  have hu0 : hU (h0 L xs) = 0 := rfl
  have hC : Cx g mm144 p room_1 s m #[Value.ref b] meth c (hZ hf - 5) (hU hf) hf :=
    ⟨hx, hb, hml, hr, hown, hts, hlocks, fun hs2 => absurd hs2 (by decide), hK, ⟨by decide, by decide⟩, ⟨by show hZ hf - 5 ≤ 600000; omega, hu⟩, rfl⟩
  · have e9 : entryFrame m ([Value.ref b] : List Value).toArray 4 = entryFrame m (([Value.ref 4] : List Value).map (cv g)).toArray 4 := by
      have : cv g (.ref 4) = .ref b := by
        rw [cv_ref, ad_lo g (by decide)]
        rfl
      simp [this]
    rw [e9, lg_entry_eq]
    refine k g p l e room_1 s m #[Value.ref b] below meth c (lw_Z below #[Value.ref b] s) (hZ hf - 5) (hU hf) hC ?_ s.heap [] 0 0 _ ⟨hwf, ?_, va_S.rf⟩ (LR_ent (as := [.ref 4]) (n := 4) (by decide)) (by omega) (by omega)
    · intro pc' H' locs' ls' hri hc
      refine va_forget (fun q hq => hc.2.2.2.2 q hq) ?_
      refine W.widen (k := 600000) (n := 7302250) (by omega) hu ?_
      rcases hri with ⟨q, -, -⟩ | ⟨v, ty, q, hd, -, -⟩ | ⟨v, q, -, -⟩
      · cases q
      · cases q
        exact lw_ret hx hb hr hlocks hd
      · cases q
    · intro k q hq
      have := (wo_get g hq).1
      omega
