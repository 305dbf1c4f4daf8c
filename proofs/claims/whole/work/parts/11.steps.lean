/-! an instruction of the little machine is one of the great one -/
def Cx (g : GP) (z : MT) (p : Program) (R : Room) (s : State) (m : MethodId) (args : Array Value) (meth : Method) (c : Code) (C S : Nat) (hf : HP) : Prop :=
  p.tables.exec = Jvm.exec ∧ c.code = mB z ∧ c.maxLocals = mX z ∧ meth.sig.returnType = mT z ∧ s.vm.findClass (mY z).cls = some m.cls ∧ (∀ w ∈ gw, w.before args s = true) ∧ meth.locks = false ∧ (mS z = 2 → meth.name = "<init>") ∧ Kx g s s.heap ∧ (mF z ≤ R.frames ∧ mO z ≤ R.locals) ∧ (C ≤ R.cells ∧ S ≤ R.slots) ∧ s.heap.size + C = gB g + (hZ hf - 5)
def Gl (g : GP) (z : MT) (p : Program) (l : Launch) (e : Env) (R : Room) (s : State) (m : MethodId) (args : Array Value) (below : List Frame) (meth : Method) (c : Code) (Q : State → Prop) (C S : Nat) (hf : HP) (pc : Nat) (loc stk : List Value) (h : HP) : Prop :=
  ∀ (H : Heap) (locs : List Loc) (cells slots : Nat) (ls : Array Slot), Cur g h s H locs → LR g ls (mX z) loc → cells + (hZ hf - hZ h) = C → slots + (hU hf - hU h) = S → W p l e R s m args below meth c H locs cells slots Q (F0 m pc ls (stk.map (cv g)))
def Nxt (z : MT) (mid pc : Nat) (loc stk : List Value) (h : HP) (d : CF) : Prop := d.1 = mid ∧ (hZ h ≤ hZ d.2.2.2.2 ∧ hU h ≤ hU d.2.2.2.2) ∧ ∀ (g : GP) (p : Program) (l : Launch) (e : Env) (R : Room) (s : State) (m : MethodId) (args : Array Value) (below : List Frame) (meth : Method) (c : Code) (Q : State → Prop) (C S : Nat) (hf : HP), Cx g z p R s m args meth c C S hf → hZ d.2.2.2.2 ≤ hZ hf → hU d.2.2.2.2 ≤ hU hf → Gl g z p l e R s m args below meth c Q C S hf d.2.1 d.2.2.1 d.2.2.2.1 d.2.2.2.2 → Gl g z p l e R s m args below meth c Q C S hf pc loc stk h
theorem word_in {i : Nat} {w : Cond} (h : nth lw_tbl i = some w) (hg : goodWord w = true) : w ∈ gw := by
  have : ∀ (l : List Cond) (i : Nat), nth l i = some w → w ∈ l := by
    intro l
    induction l with
    | nil => intro i h; cases h
    | cons a l ih =>
      intro i h
      cases i with
      | zero => cases h; exact List.mem_cons_self
      | succ i => exact List.mem_cons_of_mem _ (ih i h)
  exact List.mem_filter.mpr ⟨this _ _ h, hg⟩
section Steps
variable {z : MT} {mid pc : Nat} {loc st : List Value} {h : HP}
theorem n_iconst {n : Int} (hd : decode (mB z) pc = .ok (.iconst n, 1)) : Nxt z mid pc loc (st) h (mid, pc + 1, loc, .int (Int32.ofInt n) :: st, h) := by
  refine ⟨rfl, ⟨Nat.le_refl _, Nat.le_refl _⟩, ?_⟩
  intro g p l e R s m args below meth c Q C S hf hC hz hu k H locs cells slots ls hc hl e1 e2
  exact lv_iconst hC.1 hC.2.1 hd rfl (k H locs cells slots ls hc hl e1 e2)
theorem n_bipush {n : Int} (hd : decode (mB z) pc = .ok (.bipush n, 2)) : Nxt z mid pc loc (st) h (mid, pc + 2, loc, .int (Int8.ofInt n).toInt32 :: st, h) := by
  refine ⟨rfl, ⟨Nat.le_refl _, Nat.le_refl _⟩, ?_⟩
  intro g p l e R s m args below meth c Q C S hf hC hz hu k H locs cells slots ls hc hl e1 e2
  exact lv_bipush hC.1 hC.2.1 hd rfl (k H locs cells slots ls hc hl e1 e2)
theorem n_sipush {n : Int} (hd : decode (mB z) pc = .ok (.sipush n, 3)) : Nxt z mid pc loc (st) h (mid, pc + 3, loc, .int (Int16.ofInt n).toInt32 :: st, h) := by
  refine ⟨rfl, ⟨Nat.le_refl _, Nat.le_refl _⟩, ?_⟩
  intro g p l e R s m args below meth c Q C S hf hC hz hu k H locs cells slots ls hc hl e1 e2
  exact lv_sipush hC.1 hC.2.1 hd rfl (k H locs cells slots ls hc hl e1 e2)
theorem n_lconst {n : Fin 2} (hd : decode (mB z) pc = .ok (.lconst n, 1)) : Nxt z mid pc loc (st) h (mid, pc + 1, loc, .long (Int64.ofNat (n : Nat)) :: st, h) := by
  refine ⟨rfl, ⟨Nat.le_refl _, Nat.le_refl _⟩, ?_⟩
  intro g p l e R s m args below meth c Q C S hf hC hz hu k H locs cells slots ls hc hl e1 e2
  exact lv_lconst hC.1 hC.2.1 hd rfl (k H locs cells slots ls hc hl e1 e2)
theorem n_ldc {i : Nat} {v : Int32} (hd : decode (mB z) pc = .ok (.ldc i, 2)) (hw : Cond.constant (mY z).cls i v ∈ gw) : Nxt z mid pc loc st h (mid, pc + 2, loc, .int v :: st, h) := by
  refine ⟨rfl, ⟨Nat.le_refl _, Nat.le_refl _⟩, ?_⟩
  intro g p l e R s m args below meth c Q C S hf hC hz hu k H locs cells slots ls hc hl e1 e2
  obtain ⟨hx, hb, hml, hr, hown, hts, hlk, hnm, hk, hR, hCS, hsz⟩ := hC
  exact lv_ldc hx hb hown (hts _ hw) hd (k H locs cells slots ls hc hl e1 e2)
theorem n_ldc_w {i : Nat} {v : Int32} (hd : decode (mB z) pc = .ok (.ldc_w i, 3)) (hw : Cond.constant (mY z).cls i v ∈ gw) : Nxt z mid pc loc st h (mid, pc + 3, loc, .int v :: st, h) := by
  refine ⟨rfl, ⟨Nat.le_refl _, Nat.le_refl _⟩, ?_⟩
  intro g p l e R s m args below meth c Q C S hf hC hz hu k H locs cells slots ls hc hl e1 e2
  obtain ⟨hx, hb, hml, hr, hown, hts, hlk, hnm, hk, hR, hCS, hsz⟩ := hC
  exact lv_ldcw hx hb hown (hts _ hw) hd (k H locs cells slots ls hc hl e1 e2)
theorem n_ldc2_w {i : Nat} {v : Int64} (hd : decode (mB z) pc = .ok (.ldc2_w i, 3)) (hw : Cond.constantLong (mY z).cls i v ∈ gw) : Nxt z mid pc loc st h (mid, pc + 3, loc, .long v :: st, h) := by
  refine ⟨rfl, ⟨Nat.le_refl _, Nat.le_refl _⟩, ?_⟩
  intro g p l e R s m args below meth c Q C S hf hC hz hu k H locs cells slots ls hc hl e1 e2
  obtain ⟨hx, hb, hml, hr, hown, hts, hlk, hnm, hk, hR, hCS, hsz⟩ := hC
  exact lv_ldc2 hx hb hown (hts _ hw) hd (k H locs cells slots ls hc hl e1 e2)
theorem n_iload {i : Nat} {x : Int32} (hd : decode (mB z) pc = .ok (.iload i, 2)) (hv : loc.getD i .null = .int x) : Nxt z mid pc loc st h (mid, pc + 2, loc, .int x :: st, h) := by
  refine ⟨rfl, ⟨Nat.le_refl _, Nat.le_refl _⟩, ?_⟩
  intro g p l e R s m args below meth c Q C S hf hC hz hu k H locs cells slots ls hc hl e1 e2
  exact lv_iload hC.1 hC.2.1 hd (hl.at hv (by simp)) (k H locs cells slots ls hc hl e1 e2)
theorem n_iload_n {i : Fin 4} {x : Int32} (hd : decode (mB z) pc = .ok (.iload_n i, 1)) (hv : loc.getD (i : Nat) .null = .int x) : Nxt z mid pc loc st h (mid, pc + 1, loc, .int x :: st, h) := by
  refine ⟨rfl, ⟨Nat.le_refl _, Nat.le_refl _⟩, ?_⟩
  intro g p l e R s m args below meth c Q C S hf hC hz hu k H locs cells slots ls hc hl e1 e2
  exact lv_iload_n hC.1 hC.2.1 hd rfl (hl.at hv (by simp)) (k H locs cells slots ls hc hl e1 e2)
theorem n_istore {i : Nat} {x : Int32} (hd : decode (mB z) pc = .ok (.istore i, 2)) (hi : i < loc.length) : Nxt z mid pc loc (.int x :: st) h (mid, pc + 2, st1 loc i (.int x), st, h) := by
  refine ⟨rfl, ⟨Nat.le_refl _, Nat.le_refl _⟩, ?_⟩
  intro g p l e R s m args below meth c Q C S hf hC hz hu k H locs cells slots ls hc hl e1 e2
  exact lv_istore (lv := lp g loc) hC.1 hC.2.1 hd hl.has (by rw [← hl.1]; exact hi) rfl (fun ls' h' => k H locs cells slots ls' hc (LR_st1 (v := .int x) hl h') e1 e2)
theorem n_istore_n {i : Fin 4} {x : Int32} (hd : decode (mB z) pc = .ok (.istore_n i, 1)) (hi : (i : Nat) < loc.length) : Nxt z mid pc loc (.int x :: st) h (mid, pc + 1, st1 loc (i : Nat) (.int x), st, h) := by
  refine ⟨rfl, ⟨Nat.le_refl _, Nat.le_refl _⟩, ?_⟩
  intro g p l e R s m args below meth c Q C S hf hC hz hu k H locs cells slots ls hc hl e1 e2
  exact lv_istore_n (lv := lp g loc) hC.1 hC.2.1 hd rfl hl.has (by rw [← hl.1]; exact hi) rfl (fun ls' h' => k H locs cells slots ls' hc (LR_st1 (v := .int x) hl h') e1 e2)
theorem n_lload {i : Nat} {x : Int64} (hd : decode (mB z) pc = .ok (.lload i, 2)) (hv : loc.getD i .null = .long x) : Nxt z mid pc loc st h (mid, pc + 2, loc, .long x :: st, h) := by
  refine ⟨rfl, ⟨Nat.le_refl _, Nat.le_refl _⟩, ?_⟩
  intro g p l e R s m args below meth c Q C S hf hC hz hu k H locs cells slots ls hc hl e1 e2
  exact lv_lload hC.1 hC.2.1 hd (hl.at hv (by simp)) (k H locs cells slots ls hc hl e1 e2)
theorem n_lload_n {i : Fin 4} {x : Int64} (hd : decode (mB z) pc = .ok (.lload_n i, 1)) (hv : loc.getD (i : Nat) .null = .long x) : Nxt z mid pc loc st h (mid, pc + 1, loc, .long x :: st, h) := by
  refine ⟨rfl, ⟨Nat.le_refl _, Nat.le_refl _⟩, ?_⟩
  intro g p l e R s m args below meth c Q C S hf hC hz hu k H locs cells slots ls hc hl e1 e2
  exact lv_lload_n hC.1 hC.2.1 hd rfl (hl.at hv (by simp)) (k H locs cells slots ls hc hl e1 e2)
theorem n_lstore {i : Nat} {x : Int64} (hd : decode (mB z) pc = .ok (.lstore i, 2)) (hi : i + 1 < loc.length) : Nxt z mid pc loc (.long x :: st) h (mid, pc + 2, st2 loc i (.long x), st, h) := by
  refine ⟨rfl, ⟨Nat.le_refl _, Nat.le_refl _⟩, ?_⟩
  intro g p l e R s m args below meth c Q C S hf hC hz hu k H locs cells slots ls hc hl e1 e2
  exact lv_lstore (lv := lp g loc) hC.1 hC.2.1 hd hl.has (by rw [← hl.1]; exact hi) rfl (fun ls' h' => k H locs cells slots ls' hc (LR_st2 (v := .long x) hl h') e1 e2)
theorem n_lstore_n {i : Fin 4} {x : Int64} (hd : decode (mB z) pc = .ok (.lstore_n i, 1)) (hi : (i : Nat) + 1 < loc.length) : Nxt z mid pc loc (.long x :: st) h (mid, pc + 1, st2 loc (i : Nat) (.long x), st, h) := by
  refine ⟨rfl, ⟨Nat.le_refl _, Nat.le_refl _⟩, ?_⟩
  intro g p l e R s m args below meth c Q C S hf hC hz hu k H locs cells slots ls hc hl e1 e2
  exact lv_lstore_n (lv := lp g loc) hC.1 hC.2.1 hd rfl hl.has (by rw [← hl.1]; exact hi) rfl (fun ls' h' => k H locs cells slots ls' hc (LR_st2 (v := .long x) hl h') e1 e2)
theorem n_aload {i : Nat} {x : Nat} (hd : decode (mB z) pc = .ok (.aload i, 2)) (hv : loc.getD i .null = .ref x) : Nxt z mid pc loc st h (mid, pc + 2, loc, .ref x :: st, h) := by
  refine ⟨rfl, ⟨Nat.le_refl _, Nat.le_refl _⟩, ?_⟩
  intro g p l e R s m args below meth c Q C S hf hC hz hu k H locs cells slots ls hc hl e1 e2
  exact lv_aload hC.1 hC.2.1 hd (hl.at hv (by simp)) (k H locs cells slots ls hc hl e1 e2)
theorem n_aload_n {i : Fin 4} {x : Nat} (hd : decode (mB z) pc = .ok (.aload_n i, 1)) (hv : loc.getD (i : Nat) .null = .ref x) : Nxt z mid pc loc st h (mid, pc + 1, loc, .ref x :: st, h) := by
  refine ⟨rfl, ⟨Nat.le_refl _, Nat.le_refl _⟩, ?_⟩
  intro g p l e R s m args below meth c Q C S hf hC hz hu k H locs cells slots ls hc hl e1 e2
  exact lv_aload_n hC.1 hC.2.1 hd rfl (hl.at hv (by simp)) (k H locs cells slots ls hc hl e1 e2)
theorem n_astore {i : Nat} {x : Nat} (hd : decode (mB z) pc = .ok (.astore i, 2)) (hi : i < loc.length) : Nxt z mid pc loc (.ref x :: st) h (mid, pc + 2, st1 loc i (.ref x), st, h) := by
  refine ⟨rfl, ⟨Nat.le_refl _, Nat.le_refl _⟩, ?_⟩
  intro g p l e R s m args below meth c Q C S hf hC hz hu k H locs cells slots ls hc hl e1 e2
  exact lv_astore (lv := lp g loc) hC.1 hC.2.1 hd hl.has (by rw [← hl.1]; exact hi) rfl (fun ls' h' => k H locs cells slots ls' hc (LR_st1 (v := .ref x) hl h') e1 e2)
theorem n_astore_n {i : Fin 4} {x : Nat} (hd : decode (mB z) pc = .ok (.astore_n i, 1)) (hi : (i : Nat) < loc.length) : Nxt z mid pc loc (.ref x :: st) h (mid, pc + 1, st1 loc (i : Nat) (.ref x), st, h) := by
  refine ⟨rfl, ⟨Nat.le_refl _, Nat.le_refl _⟩, ?_⟩
  intro g p l e R s m args below meth c Q C S hf hC hz hu k H locs cells slots ls hc hl e1 e2
  exact lv_astore_n (lv := lp g loc) hC.1 hC.2.1 hd rfl hl.has (by rw [← hl.1]; exact hi) rfl (fun ls' h' => k H locs cells slots ls' hc (LR_st1 (v := .ref x) hl h') e1 e2)
theorem n_iinc {i : Nat} {n : Int} {x : Int32} (hd : decode (mB z) pc = .ok (.iinc i n, 3)) (hv : loc.getD i .null = .int x) : Nxt z mid pc loc st h (mid, pc + 3, st1 loc i (.int (x + Int32.ofInt n)), st, h) := by
  refine ⟨rfl, ⟨Nat.le_refl _, Nat.le_refl _⟩, ?_⟩
  intro g p l e R s m args below meth c Q C S hf hC hz hu k H locs cells slots ls hc hl e1 e2
  have hv2 := getD_some hv (by simp)
  obtain ⟨kk, hk⟩ := List.getElem?_of_mem (lp_mem (g := g) (q := (i, .int x)).mpr ⟨.int x, hv2, by simp, rfl⟩)
  exact lv_iinc (lv := lp g loc) hC.1 hC.2.1 hd hl.has hk rfl (by rw [← hl.1]; exact (List.getElem?_eq_some_iff.mp hv2).1) rfl (fun ls' h' => k H locs cells slots ls' hc (LR_st1 (v := .int (x + Int32.ofInt n)) hl h') e1 e2)
theorem n_dup {v : Value} (hd : decode (mB z) pc = .ok (.dup, 1)) (hv : v.category = 1) : Nxt z mid pc loc (v :: st) h (mid, pc + 1, loc, v :: v :: st, h) := by
  refine ⟨rfl, ⟨Nat.le_refl _, Nat.le_refl _⟩, ?_⟩
  intro g p l e R s m args below meth c Q C S hf hC hz hu k H locs cells slots ls hc hl e1 e2
  exact lv_dup hC.1 hC.2.1 hd (by rw [cv_cat]; exact hv) (k H locs cells slots ls hc hl e1 e2)
theorem n_dup2 {v w : Value} (hd : decode (mB z) pc = .ok (.dup2, 1)) (hv : v.category = 1) (hw : w.category = 1) : Nxt z mid pc loc (v :: w :: st) h (mid, pc + 1, loc, v :: w :: v :: w :: st, h) := by
  refine ⟨rfl, ⟨Nat.le_refl _, Nat.le_refl _⟩, ?_⟩
  intro g p l e R s m args below meth c Q C S hf hC hz hu k H locs cells slots ls hc hl e1 e2
  exact lv_dup2_11 hC.1 hC.2.1 hd (by rw [cv_cat]; exact hv) (by rw [cv_cat]; exact hw) (k H locs cells slots ls hc hl e1 e2)
theorem n_pop {v : Value} (hd : decode (mB z) pc = .ok (.pop, 1)) (hv : v.category = 1) : Nxt z mid pc loc (v :: st) h (mid, pc + 1, loc, st, h) := by
  refine ⟨rfl, ⟨Nat.le_refl _, Nat.le_refl _⟩, ?_⟩
  intro g p l e R s m args below meth c Q C S hf hC hz hu k H locs cells slots ls hc hl e1 e2
  exact lv_pop hC.1 hC.2.1 hd (by rw [cv_cat]; exact hv) (k H locs cells slots ls hc hl e1 e2)
theorem n_iadd {x y : Int32} (hd : decode (mB z) pc = .ok (.iadd, 1)) : Nxt z mid pc loc (.int y :: .int x :: st) h (mid, pc + 1, loc, .int (x + y) :: st, h) := by
  refine ⟨rfl, ⟨Nat.le_refl _, Nat.le_refl _⟩, ?_⟩
  intro g p l e R s m args below meth c Q C S hf hC hz hu k H locs cells slots ls hc hl e1 e2
  exact lv_iadd hC.1 hC.2.1 hd (k H locs cells slots ls hc hl e1 e2)
theorem n_isub {x y : Int32} (hd : decode (mB z) pc = .ok (.isub, 1)) : Nxt z mid pc loc (.int y :: .int x :: st) h (mid, pc + 1, loc, .int (x - y) :: st, h) := by
  refine ⟨rfl, ⟨Nat.le_refl _, Nat.le_refl _⟩, ?_⟩
  intro g p l e R s m args below meth c Q C S hf hC hz hu k H locs cells slots ls hc hl e1 e2
  exact lv_isub hC.1 hC.2.1 hd (k H locs cells slots ls hc hl e1 e2)
theorem n_imul {x y : Int32} (hd : decode (mB z) pc = .ok (.imul, 1)) : Nxt z mid pc loc (.int y :: .int x :: st) h (mid, pc + 1, loc, .int (x * y) :: st, h) := by
  refine ⟨rfl, ⟨Nat.le_refl _, Nat.le_refl _⟩, ?_⟩
  intro g p l e R s m args below meth c Q C S hf hC hz hu k H locs cells slots ls hc hl e1 e2
  exact lv_imul hC.1 hC.2.1 hd (k H locs cells slots ls hc hl e1 e2)
theorem n_iand {x y : Int32} (hd : decode (mB z) pc = .ok (.iand, 1)) : Nxt z mid pc loc (.int y :: .int x :: st) h (mid, pc + 1, loc, .int (x &&& y) :: st, h) := by
  refine ⟨rfl, ⟨Nat.le_refl _, Nat.le_refl _⟩, ?_⟩
  intro g p l e R s m args below meth c Q C S hf hC hz hu k H locs cells slots ls hc hl e1 e2
  exact lv_iand hC.1 hC.2.1 hd (k H locs cells slots ls hc hl e1 e2)
theorem n_ior {x y : Int32} (hd : decode (mB z) pc = .ok (.ior, 1)) : Nxt z mid pc loc (.int y :: .int x :: st) h (mid, pc + 1, loc, .int (x ||| y) :: st, h) := by
  refine ⟨rfl, ⟨Nat.le_refl _, Nat.le_refl _⟩, ?_⟩
  intro g p l e R s m args below meth c Q C S hf hC hz hu k H locs cells slots ls hc hl e1 e2
  exact lv_ior hC.1 hC.2.1 hd (k H locs cells slots ls hc hl e1 e2)
theorem n_ixor {x y : Int32} (hd : decode (mB z) pc = .ok (.ixor, 1)) : Nxt z mid pc loc (.int y :: .int x :: st) h (mid, pc + 1, loc, .int (x ^^^ y) :: st, h) := by
  refine ⟨rfl, ⟨Nat.le_refl _, Nat.le_refl _⟩, ?_⟩
  intro g p l e R s m args below meth c Q C S hf hC hz hu k H locs cells slots ls hc hl e1 e2
  exact lv_ixor hC.1 hC.2.1 hd (k H locs cells slots ls hc hl e1 e2)
theorem n_ishl {x y : Int32} (hd : decode (mB z) pc = .ok (.ishl, 1)) : Nxt z mid pc loc (.int y :: .int x :: st) h (mid, pc + 1, loc, .int (x <<< (y &&& 31)) :: st, h) := by
  refine ⟨rfl, ⟨Nat.le_refl _, Nat.le_refl _⟩, ?_⟩
  intro g p l e R s m args below meth c Q C S hf hC hz hu k H locs cells slots ls hc hl e1 e2
  exact lv_ishl hC.1 hC.2.1 hd (k H locs cells slots ls hc hl e1 e2)
theorem n_ishr {x y : Int32} (hd : decode (mB z) pc = .ok (.ishr, 1)) : Nxt z mid pc loc (.int y :: .int x :: st) h (mid, pc + 1, loc, .int (x >>> (y &&& 31)) :: st, h) := by
  refine ⟨rfl, ⟨Nat.le_refl _, Nat.le_refl _⟩, ?_⟩
  intro g p l e R s m args below meth c Q C S hf hC hz hu k H locs cells slots ls hc hl e1 e2
  exact lv_ishr hC.1 hC.2.1 hd (k H locs cells slots ls hc hl e1 e2)
theorem n_iushr {x y : Int32} (hd : decode (mB z) pc = .ok (.iushr, 1)) : Nxt z mid pc loc (.int y :: .int x :: st) h (mid, pc + 1, loc, .int (x.toUInt32 >>> (y.toUInt32 &&& Int32.toUInt32 31)).toInt32 :: st, h) := by
  refine ⟨rfl, ⟨Nat.le_refl _, Nat.le_refl _⟩, ?_⟩
  intro g p l e R s m args below meth c Q C S hf hC hz hu k H locs cells slots ls hc hl e1 e2
  exact lv_iushr hC.1 hC.2.1 hd rfl (k H locs cells slots ls hc hl e1 e2)
theorem n_idiv {x y : Int32} (hd : decode (mB z) pc = .ok (.idiv, 1)) (hy : ¬ y = 0) : Nxt z mid pc loc (.int y :: .int x :: st) h (mid, pc + 1, loc, .int (x / y) :: st, h) := by
  refine ⟨rfl, ⟨Nat.le_refl _, Nat.le_refl _⟩, ?_⟩
  intro g p l e R s m args below meth c Q C S hf hC hz hu k H locs cells slots ls hc hl e1 e2
  exact lv_idiv hC.1 hC.2.1 hd hy (k H locs cells slots ls hc hl e1 e2)
theorem n_irem {x y : Int32} (hd : decode (mB z) pc = .ok (.irem, 1)) (hy : ¬ y = 0) : Nxt z mid pc loc (.int y :: .int x :: st) h (mid, pc + 1, loc, .int (x - x / y * y) :: st, h) := by
  refine ⟨rfl, ⟨Nat.le_refl _, Nat.le_refl _⟩, ?_⟩
  intro g p l e R s m args below meth c Q C S hf hC hz hu k H locs cells slots ls hc hl e1 e2
  exact lv_irem hC.1 hC.2.1 hd hy (k H locs cells slots ls hc hl e1 e2)
theorem n_ladd {x y : Int64} (hd : decode (mB z) pc = .ok (.ladd, 1)) : Nxt z mid pc loc (.long y :: .long x :: st) h (mid, pc + 1, loc, .long (x + y) :: st, h) := by
  refine ⟨rfl, ⟨Nat.le_refl _, Nat.le_refl _⟩, ?_⟩
  intro g p l e R s m args below meth c Q C S hf hC hz hu k H locs cells slots ls hc hl e1 e2
  exact lv_ladd hC.1 hC.2.1 hd (k H locs cells slots ls hc hl e1 e2)
theorem n_lsub {x y : Int64} (hd : decode (mB z) pc = .ok (.lsub, 1)) : Nxt z mid pc loc (.long y :: .long x :: st) h (mid, pc + 1, loc, .long (x - y) :: st, h) := by
  refine ⟨rfl, ⟨Nat.le_refl _, Nat.le_refl _⟩, ?_⟩
  intro g p l e R s m args below meth c Q C S hf hC hz hu k H locs cells slots ls hc hl e1 e2
  exact lv_lsub hC.1 hC.2.1 hd (k H locs cells slots ls hc hl e1 e2)
theorem n_lmul {x y : Int64} (hd : decode (mB z) pc = .ok (.lmul, 1)) : Nxt z mid pc loc (.long y :: .long x :: st) h (mid, pc + 1, loc, .long (x * y) :: st, h) := by
  refine ⟨rfl, ⟨Nat.le_refl _, Nat.le_refl _⟩, ?_⟩
  intro g p l e R s m args below meth c Q C S hf hC hz hu k H locs cells slots ls hc hl e1 e2
  exact lv_lmul hC.1 hC.2.1 hd (k H locs cells slots ls hc hl e1 e2)
theorem n_land {x y : Int64} (hd : decode (mB z) pc = .ok (.land, 1)) : Nxt z mid pc loc (.long y :: .long x :: st) h (mid, pc + 1, loc, .long (x &&& y) :: st, h) := by
  refine ⟨rfl, ⟨Nat.le_refl _, Nat.le_refl _⟩, ?_⟩
  intro g p l e R s m args below meth c Q C S hf hC hz hu k H locs cells slots ls hc hl e1 e2
  exact lv_land hC.1 hC.2.1 hd (k H locs cells slots ls hc hl e1 e2)
theorem n_lor {x y : Int64} (hd : decode (mB z) pc = .ok (.lor, 1)) : Nxt z mid pc loc (.long y :: .long x :: st) h (mid, pc + 1, loc, .long (x ||| y) :: st, h) := by
  refine ⟨rfl, ⟨Nat.le_refl _, Nat.le_refl _⟩, ?_⟩
  intro g p l e R s m args below meth c Q C S hf hC hz hu k H locs cells slots ls hc hl e1 e2
  exact lv_lor hC.1 hC.2.1 hd (k H locs cells slots ls hc hl e1 e2)
theorem n_lshl {x : Int64} {y : Int32} (hd : decode (mB z) pc = .ok (.lshl, 1)) : Nxt z mid pc loc (.int y :: .long x :: st) h (mid, pc + 1, loc, .long (x <<< (y.toInt64 &&& 63)) :: st, h) := by
  refine ⟨rfl, ⟨Nat.le_refl _, Nat.le_refl _⟩, ?_⟩
  intro g p l e R s m args below meth c Q C S hf hC hz hu k H locs cells slots ls hc hl e1 e2
  exact lv_lshl hC.1 hC.2.1 hd rfl (k H locs cells slots ls hc hl e1 e2)
theorem n_lcmp {x y : Int64} (hd : decode (mB z) pc = .ok (.lcmp, 1)) : Nxt z mid pc loc (.long y :: .long x :: st) h (mid, pc + 1, loc, .int (lg_cmp x y) :: st, h) := by
  refine ⟨rfl, ⟨Nat.le_refl _, Nat.le_refl _⟩, ?_⟩
  intro g p l e R s m args below meth c Q C S hf hC hz hu k H locs cells slots ls hc hl e1 e2
  exact W.lcmp hC.1 hC.2.1 hd (k H locs cells slots ls hc hl e1 e2)
theorem n_i2l {x : Int32} (hd : decode (mB z) pc = .ok (.i2l, 1)) : Nxt z mid pc loc (.int x :: st) h (mid, pc + 1, loc, .long x.toInt64 :: st, h) := by
  refine ⟨rfl, ⟨Nat.le_refl _, Nat.le_refl _⟩, ?_⟩
  intro g p l e R s m args below meth c Q C S hf hC hz hu k H locs cells slots ls hc hl e1 e2
  exact lv_i2l hC.1 hC.2.1 hd rfl (k H locs cells slots ls hc hl e1 e2)
theorem n_goto {off : Int} {a : Nat} (hd : decode (mB z) pc = .ok (.goto off, 3)) (ht : (pc : Int) + off = (a : Int)) : Nxt z mid pc loc st h (mid, a, loc, st, h) := by
  refine ⟨rfl, ⟨Nat.le_refl _, Nat.le_refl _⟩, ?_⟩
  intro g p l e R s m args below meth c Q C S hf hC hz hu k H locs cells slots ls hc hl e1 e2
  exact lv_goto hC.1 hC.2.1 hd ht (k H locs cells slots ls hc hl e1 e2)
theorem n_icmp_eq_t {x y : Int32} {off : Int} {a : Nat} (hd : decode (mB z) pc = .ok (.if_icmp .eq off, 3)) (ht : (pc : Int) + off = (a : Int)) (hq : x = y) : Nxt z mid pc loc (.int y :: .int x :: st) h (mid, a, loc, st, h) := by
  refine ⟨rfl, ⟨Nat.le_refl _, Nat.le_refl _⟩, ?_⟩
  intro g p l e R s m args below meth c Q C S hf hC hz hu k H locs cells slots ls hc hl e1 e2
  exact lv_icmp_eq hC.1 hC.2.1 hd ht (fun _ => k H locs cells slots ls hc hl e1 e2) (fun q => absurd hq q)
theorem n_icmp_eq_f {x y : Int32} {off : Int} {a : Nat} (hd : decode (mB z) pc = .ok (.if_icmp .eq off, 3)) (ht : (pc : Int) + off = (a : Int)) (hq : ¬ x = y) : Nxt z mid pc loc (.int y :: .int x :: st) h (mid, pc + 3, loc, st, h) := by
  refine ⟨rfl, ⟨Nat.le_refl _, Nat.le_refl _⟩, ?_⟩
  intro g p l e R s m args below meth c Q C S hf hC hz hu k H locs cells slots ls hc hl e1 e2
  exact lv_icmp_eq hC.1 hC.2.1 hd ht (fun q => absurd q hq) (fun _ => k H locs cells slots ls hc hl e1 e2)
theorem n_if_eq_t {x : Int32} {off : Int} {a : Nat} (hd : decode (mB z) pc = .ok (.ifCond .eq off, 3)) (ht : (pc : Int) + off = (a : Int)) (hq : x = 0) : Nxt z mid pc loc (.int x :: st) h (mid, a, loc, st, h) := by
  refine ⟨rfl, ⟨Nat.le_refl _, Nat.le_refl _⟩, ?_⟩
  intro g p l e R s m args below meth c Q C S hf hC hz hu k H locs cells slots ls hc hl e1 e2
  exact lv_if_eq hC.1 hC.2.1 hd ht (fun _ => k H locs cells slots ls hc hl e1 e2) (fun q => absurd hq q)
theorem n_if_eq_f {x : Int32} {off : Int} {a : Nat} (hd : decode (mB z) pc = .ok (.ifCond .eq off, 3)) (ht : (pc : Int) + off = (a : Int)) (hq : ¬ x = 0) : Nxt z mid pc loc (.int x :: st) h (mid, pc + 3, loc, st, h) := by
  refine ⟨rfl, ⟨Nat.le_refl _, Nat.le_refl _⟩, ?_⟩
  intro g p l e R s m args below meth c Q C S hf hC hz hu k H locs cells slots ls hc hl e1 e2
  exact lv_if_eq hC.1 hC.2.1 hd ht (fun q => absurd q hq) (fun _ => k H locs cells slots ls hc hl e1 e2)
theorem n_icmp_ne_t {x y : Int32} {off : Int} {a : Nat} (hd : decode (mB z) pc = .ok (.if_icmp .ne off, 3)) (ht : (pc : Int) + off = (a : Int)) (hq : ¬ x = y) : Nxt z mid pc loc (.int y :: .int x :: st) h (mid, a, loc, st, h) := by
  refine ⟨rfl, ⟨Nat.le_refl _, Nat.le_refl _⟩, ?_⟩
  intro g p l e R s m args below meth c Q C S hf hC hz hu k H locs cells slots ls hc hl e1 e2
  exact lv_icmp_ne hC.1 hC.2.1 hd ht (fun _ => k H locs cells slots ls hc hl e1 e2) (fun q => absurd q hq)
theorem n_icmp_ne_f {x y : Int32} {off : Int} {a : Nat} (hd : decode (mB z) pc = .ok (.if_icmp .ne off, 3)) (ht : (pc : Int) + off = (a : Int)) (hq : x = y) : Nxt z mid pc loc (.int y :: .int x :: st) h (mid, pc + 3, loc, st, h) := by
  refine ⟨rfl, ⟨Nat.le_refl _, Nat.le_refl _⟩, ?_⟩
  intro g p l e R s m args below meth c Q C S hf hC hz hu k H locs cells slots ls hc hl e1 e2
  exact lv_icmp_ne hC.1 hC.2.1 hd ht (fun q => absurd hq q) (fun _ => k H locs cells slots ls hc hl e1 e2)
theorem n_if_ne_t {x : Int32} {off : Int} {a : Nat} (hd : decode (mB z) pc = .ok (.ifCond .ne off, 3)) (ht : (pc : Int) + off = (a : Int)) (hq : ¬ x = 0) : Nxt z mid pc loc (.int x :: st) h (mid, a, loc, st, h) := by
  refine ⟨rfl, ⟨Nat.le_refl _, Nat.le_refl _⟩, ?_⟩
  intro g p l e R s m args below meth c Q C S hf hC hz hu k H locs cells slots ls hc hl e1 e2
  exact lv_if_ne hC.1 hC.2.1 hd ht (fun _ => k H locs cells slots ls hc hl e1 e2) (fun q => absurd q hq)
theorem n_if_ne_f {x : Int32} {off : Int} {a : Nat} (hd : decode (mB z) pc = .ok (.ifCond .ne off, 3)) (ht : (pc : Int) + off = (a : Int)) (hq : x = 0) : Nxt z mid pc loc (.int x :: st) h (mid, pc + 3, loc, st, h) := by
  refine ⟨rfl, ⟨Nat.le_refl _, Nat.le_refl _⟩, ?_⟩
  intro g p l e R s m args below meth c Q C S hf hC hz hu k H locs cells slots ls hc hl e1 e2
  exact lv_if_ne hC.1 hC.2.1 hd ht (fun q => absurd hq q) (fun _ => k H locs cells slots ls hc hl e1 e2)
theorem n_icmp_lt_t {x y : Int32} {off : Int} {a : Nat} (hd : decode (mB z) pc = .ok (.if_icmp .lt off, 3)) (ht : (pc : Int) + off = (a : Int)) (hq : x < y) : Nxt z mid pc loc (.int y :: .int x :: st) h (mid, a, loc, st, h) := by
  refine ⟨rfl, ⟨Nat.le_refl _, Nat.le_refl _⟩, ?_⟩
  intro g p l e R s m args below meth c Q C S hf hC hz hu k H locs cells slots ls hc hl e1 e2
  exact lv_icmp_lt hC.1 hC.2.1 hd ht (fun _ => k H locs cells slots ls hc hl e1 e2) (fun q => absurd hq q)
theorem n_icmp_lt_f {x y : Int32} {off : Int} {a : Nat} (hd : decode (mB z) pc = .ok (.if_icmp .lt off, 3)) (ht : (pc : Int) + off = (a : Int)) (hq : ¬ x < y) : Nxt z mid pc loc (.int y :: .int x :: st) h (mid, pc + 3, loc, st, h) := by
  refine ⟨rfl, ⟨Nat.le_refl _, Nat.le_refl _⟩, ?_⟩
  intro g p l e R s m args below meth c Q C S hf hC hz hu k H locs cells slots ls hc hl e1 e2
  exact lv_icmp_lt hC.1 hC.2.1 hd ht (fun q => absurd q hq) (fun _ => k H locs cells slots ls hc hl e1 e2)
theorem n_if_lt_t {x : Int32} {off : Int} {a : Nat} (hd : decode (mB z) pc = .ok (.ifCond .lt off, 3)) (ht : (pc : Int) + off = (a : Int)) (hq : x < 0) : Nxt z mid pc loc (.int x :: st) h (mid, a, loc, st, h) := by
  refine ⟨rfl, ⟨Nat.le_refl _, Nat.le_refl _⟩, ?_⟩
  intro g p l e R s m args below meth c Q C S hf hC hz hu k H locs cells slots ls hc hl e1 e2
  exact lv_if_lt hC.1 hC.2.1 hd ht (fun _ => k H locs cells slots ls hc hl e1 e2) (fun q => absurd hq q)
theorem n_if_lt_f {x : Int32} {off : Int} {a : Nat} (hd : decode (mB z) pc = .ok (.ifCond .lt off, 3)) (ht : (pc : Int) + off = (a : Int)) (hq : ¬ x < 0) : Nxt z mid pc loc (.int x :: st) h (mid, pc + 3, loc, st, h) := by
  refine ⟨rfl, ⟨Nat.le_refl _, Nat.le_refl _⟩, ?_⟩
  intro g p l e R s m args below meth c Q C S hf hC hz hu k H locs cells slots ls hc hl e1 e2
  exact lv_if_lt hC.1 hC.2.1 hd ht (fun q => absurd q hq) (fun _ => k H locs cells slots ls hc hl e1 e2)
theorem n_icmp_ge_t {x y : Int32} {off : Int} {a : Nat} (hd : decode (mB z) pc = .ok (.if_icmp .ge off, 3)) (ht : (pc : Int) + off = (a : Int)) (hq : y ≤ x) : Nxt z mid pc loc (.int y :: .int x :: st) h (mid, a, loc, st, h) := by
  refine ⟨rfl, ⟨Nat.le_refl _, Nat.le_refl _⟩, ?_⟩
  intro g p l e R s m args below meth c Q C S hf hC hz hu k H locs cells slots ls hc hl e1 e2
  exact lv_icmp_ge hC.1 hC.2.1 hd ht (fun _ => k H locs cells slots ls hc hl e1 e2) (fun q => absurd hq q)
theorem n_icmp_ge_f {x y : Int32} {off : Int} {a : Nat} (hd : decode (mB z) pc = .ok (.if_icmp .ge off, 3)) (ht : (pc : Int) + off = (a : Int)) (hq : ¬ y ≤ x) : Nxt z mid pc loc (.int y :: .int x :: st) h (mid, pc + 3, loc, st, h) := by
  refine ⟨rfl, ⟨Nat.le_refl _, Nat.le_refl _⟩, ?_⟩
  intro g p l e R s m args below meth c Q C S hf hC hz hu k H locs cells slots ls hc hl e1 e2
  exact lv_icmp_ge hC.1 hC.2.1 hd ht (fun q => absurd q hq) (fun _ => k H locs cells slots ls hc hl e1 e2)
theorem n_if_ge_t {x : Int32} {off : Int} {a : Nat} (hd : decode (mB z) pc = .ok (.ifCond .ge off, 3)) (ht : (pc : Int) + off = (a : Int)) (hq : 0 ≤ x) : Nxt z mid pc loc (.int x :: st) h (mid, a, loc, st, h) := by
  refine ⟨rfl, ⟨Nat.le_refl _, Nat.le_refl _⟩, ?_⟩
  intro g p l e R s m args below meth c Q C S hf hC hz hu k H locs cells slots ls hc hl e1 e2
  exact lv_if_ge hC.1 hC.2.1 hd ht (fun _ => k H locs cells slots ls hc hl e1 e2) (fun q => absurd hq q)
theorem n_if_ge_f {x : Int32} {off : Int} {a : Nat} (hd : decode (mB z) pc = .ok (.ifCond .ge off, 3)) (ht : (pc : Int) + off = (a : Int)) (hq : ¬ 0 ≤ x) : Nxt z mid pc loc (.int x :: st) h (mid, pc + 3, loc, st, h) := by
  refine ⟨rfl, ⟨Nat.le_refl _, Nat.le_refl _⟩, ?_⟩
  intro g p l e R s m args below meth c Q C S hf hC hz hu k H locs cells slots ls hc hl e1 e2
  exact lv_if_ge hC.1 hC.2.1 hd ht (fun q => absurd q hq) (fun _ => k H locs cells slots ls hc hl e1 e2)
theorem n_icmp_gt_t {x y : Int32} {off : Int} {a : Nat} (hd : decode (mB z) pc = .ok (.if_icmp .gt off, 3)) (ht : (pc : Int) + off = (a : Int)) (hq : y < x) : Nxt z mid pc loc (.int y :: .int x :: st) h (mid, a, loc, st, h) := by
  refine ⟨rfl, ⟨Nat.le_refl _, Nat.le_refl _⟩, ?_⟩
  intro g p l e R s m args below meth c Q C S hf hC hz hu k H locs cells slots ls hc hl e1 e2
  exact lv_icmp_gt hC.1 hC.2.1 hd ht (fun _ => k H locs cells slots ls hc hl e1 e2) (fun q => absurd hq q)
theorem n_icmp_gt_f {x y : Int32} {off : Int} {a : Nat} (hd : decode (mB z) pc = .ok (.if_icmp .gt off, 3)) (ht : (pc : Int) + off = (a : Int)) (hq : ¬ y < x) : Nxt z mid pc loc (.int y :: .int x :: st) h (mid, pc + 3, loc, st, h) := by
  refine ⟨rfl, ⟨Nat.le_refl _, Nat.le_refl _⟩, ?_⟩
  intro g p l e R s m args below meth c Q C S hf hC hz hu k H locs cells slots ls hc hl e1 e2
  exact lv_icmp_gt hC.1 hC.2.1 hd ht (fun q => absurd q hq) (fun _ => k H locs cells slots ls hc hl e1 e2)
theorem n_if_gt_t {x : Int32} {off : Int} {a : Nat} (hd : decode (mB z) pc = .ok (.ifCond .gt off, 3)) (ht : (pc : Int) + off = (a : Int)) (hq : 0 < x) : Nxt z mid pc loc (.int x :: st) h (mid, a, loc, st, h) := by
  refine ⟨rfl, ⟨Nat.le_refl _, Nat.le_refl _⟩, ?_⟩
  intro g p l e R s m args below meth c Q C S hf hC hz hu k H locs cells slots ls hc hl e1 e2
  exact lv_if_gt hC.1 hC.2.1 hd ht (fun _ => k H locs cells slots ls hc hl e1 e2) (fun q => absurd hq q)
theorem n_if_gt_f {x : Int32} {off : Int} {a : Nat} (hd : decode (mB z) pc = .ok (.ifCond .gt off, 3)) (ht : (pc : Int) + off = (a : Int)) (hq : ¬ 0 < x) : Nxt z mid pc loc (.int x :: st) h (mid, pc + 3, loc, st, h) := by
  refine ⟨rfl, ⟨Nat.le_refl _, Nat.le_refl _⟩, ?_⟩
  intro g p l e R s m args below meth c Q C S hf hC hz hu k H locs cells slots ls hc hl e1 e2
  exact lv_if_gt hC.1 hC.2.1 hd ht (fun q => absurd q hq) (fun _ => k H locs cells slots ls hc hl e1 e2)
theorem n_icmp_le_t {x y : Int32} {off : Int} {a : Nat} (hd : decode (mB z) pc = .ok (.if_icmp .le off, 3)) (ht : (pc : Int) + off = (a : Int)) (hq : x ≤ y) : Nxt z mid pc loc (.int y :: .int x :: st) h (mid, a, loc, st, h) := by
  refine ⟨rfl, ⟨Nat.le_refl _, Nat.le_refl _⟩, ?_⟩
  intro g p l e R s m args below meth c Q C S hf hC hz hu k H locs cells slots ls hc hl e1 e2
  exact lv_icmp_le hC.1 hC.2.1 hd ht (fun _ => k H locs cells slots ls hc hl e1 e2) (fun q => absurd hq q)
theorem n_icmp_le_f {x y : Int32} {off : Int} {a : Nat} (hd : decode (mB z) pc = .ok (.if_icmp .le off, 3)) (ht : (pc : Int) + off = (a : Int)) (hq : ¬ x ≤ y) : Nxt z mid pc loc (.int y :: .int x :: st) h (mid, pc + 3, loc, st, h) := by
  refine ⟨rfl, ⟨Nat.le_refl _, Nat.le_refl _⟩, ?_⟩
  intro g p l e R s m args below meth c Q C S hf hC hz hu k H locs cells slots ls hc hl e1 e2
  exact lv_icmp_le hC.1 hC.2.1 hd ht (fun q => absurd q hq) (fun _ => k H locs cells slots ls hc hl e1 e2)
theorem n_if_le_t {x : Int32} {off : Int} {a : Nat} (hd : decode (mB z) pc = .ok (.ifCond .le off, 3)) (ht : (pc : Int) + off = (a : Int)) (hq : x ≤ 0) : Nxt z mid pc loc (.int x :: st) h (mid, a, loc, st, h) := by
  refine ⟨rfl, ⟨Nat.le_refl _, Nat.le_refl _⟩, ?_⟩
  intro g p l e R s m args below meth c Q C S hf hC hz hu k H locs cells slots ls hc hl e1 e2
  exact lv_if_le hC.1 hC.2.1 hd ht (fun _ => k H locs cells slots ls hc hl e1 e2) (fun q => absurd hq q)
theorem n_if_le_f {x : Int32} {off : Int} {a : Nat} (hd : decode (mB z) pc = .ok (.ifCond .le off, 3)) (ht : (pc : Int) + off = (a : Int)) (hq : ¬ x ≤ 0) : Nxt z mid pc loc (.int x :: st) h (mid, pc + 3, loc, st, h) := by
  refine ⟨rfl, ⟨Nat.le_refl _, Nat.le_refl _⟩, ?_⟩
  intro g p l e R s m args below meth c Q C S hf hC hz hu k H locs cells slots ls hc hl e1 e2
  exact lv_if_le hC.1 hC.2.1 hd ht (fun q => absurd q hq) (fun _ => k H locs cells slots ls hc hl e1 e2)
theorem n_tsw_d {d lo hi : Int} {offs : Array Int} {len : Nat} {x : Int32} (hd : decode (mB z) pc = .ok (.tableswitch d lo hi offs, len)) (hq : x.toInt < lo ∨ hi < x.toInt) (h0 : 0 ≤ (pc : Int) + d) : Nxt z mid pc loc (.int x :: st) h (mid, ((pc : Int) + d).toNat, loc, st, h) := by
  refine ⟨rfl, ⟨Nat.le_refl _, Nat.le_refl _⟩, ?_⟩
  intro g p l e R s m args below meth c Q C S hf hC hz hu k H locs cells slots ls hc hl e1 e2
  exact lv_tableOut hC.1 hC.2.1 hd hq (Int.toNat_of_nonneg h0).symm (k H locs cells slots ls hc hl e1 e2)
theorem n_tsw_i {d lo hi off : Int} {offs : Array Int} {len : Nat} {x : Int32} (hd : decode (mB z) pc = .ok (.tableswitch d lo hi offs, len)) (hq : ¬ (x.toInt < lo ∨ hi < x.toInt)) (ho : offs[(x.toInt - lo).toNat]? = some off) (h0 : 0 ≤ (pc : Int) + off) : Nxt z mid pc loc (.int x :: st) h (mid, ((pc : Int) + off).toNat, loc, st, h) := by
  refine ⟨rfl, ⟨Nat.le_refl _, Nat.le_refl _⟩, ?_⟩
  intro g p l e R s m args below meth c Q C S hf hC hz hu k H locs cells slots ls hc hl e1 e2
  exact lv_tableIn hC.1 hC.2.1 hd (fun q => hq (Or.inl q)) (fun q => hq (Or.inr q)) ho (Int.toNat_of_nonneg h0).symm (k H locs cells slots ls hc hl e1 e2)
theorem n_objInit {i o : Nat} (hd : decode (mB z) pc = .ok (.invokespecial i, 3)) (hw : Cond.methodLink (mY z).cls i objectInit ∈ gw) (hf1 : 1 ≤ mF z) (hf2 : 20 ≤ mO z) (hrm : rmB st = true) : Nxt z mid pc loc (.ref o :: st) h (mid, pc + 3, loc, st, h) := by
  refine ⟨rfl, ⟨Nat.le_refl _, Nat.le_refl _⟩, ?_⟩
  intro g p l e R s m args below meth c Q C S hf hC hz hu k H locs cells slots ls hc hl e1 e2
  obtain ⟨hx, hb, hml, hr, hown, hts, hlk, hnm, hk, hR, hCS, hsz⟩ := hC
  have hsum : (st.map fun v => v.category).sum ≤ 8 := Nat.le_of_ble_eq_true hrm
  have hsum2 : ((st.map (cv g)).map fun v => v.category).sum ≤ 8 := by
    rw [List.map_map]
    rw [show ((fun v : Value => v.category) ∘ cv g) = fun v => v.category from funext fun v => cv_cat g v]
    exact hsum
  refine W.objInit (g := F0 m pc ls ((.ref o :: st).map (cv g))) (a := ad g o) (rest := st.map (cv g)) hx hb hown (hts _ hw) (hts _ (word_in w_obi rfl)) (hts _ (word_in w_obc rfl)) rfl (by rw [hml]; exact hl.2.1) rfl hd (Nat.le_trans hf1 hR.1) ?_ (k H locs cells slots ls hc hl e1 e2)
  show 2 * 0 + _ + 12 ≤ R.locals
  omega
theorem cat_cv (g : GP) (st : List Value) : ((st.map (cv g)).map fun v => v.category).sum = (st.map fun v => v.category).sum := by
  rw [List.map_map, show ((fun v : Value => v.category) ∘ cv g) = fun v => v.category from funext fun v => cv_cat g v]
theorem n_max {i : Nat} {x y : Int32} (hd : decode (mB z) pc = .ok (.invokestatic i, 3)) (hw : Cond.methodLink (mY z).cls i Lib.Math.max.name ∈ gw) (hf1 : 1 ≤ mF z) (hf2 : 26 ≤ mO z) (hrm : rmB st = true) : Nxt z mid pc loc (.int y :: .int x :: st) h (mid, pc + 3, loc, .int (if x < y then y else x) :: st, h) := by
  refine ⟨rfl, ⟨Nat.le_refl _, Nat.le_refl _⟩, ?_⟩
  intro g p l e R s m args below meth c Q C S hf hC hz hu k H locs cells slots ls hc hl e1 e2
  obtain ⟨hx, hb, hml, hr, hown, hts, hlk, hnm, hk, hR, hCS, hsz⟩ := hC
  have hsum : (st.map fun v => v.category).sum ≤ 8 := Nat.le_of_ble_eq_true hrm
  exact va_mmax hx hb (by rw [hml]; exact hl.2.1.symm) hown (hts _ hw) (hts _ (word_in w_maxs rfl)) (hts _ (word_in w_mth rfl)) (hts _ (word_in w_maxc rfl)) (Nat.le_trans hf1 hR.1) (by rw [cat_cv]; omega) (by omega) (by omega) hd (k H locs cells slots ls hc hl e1 e2)
theorem n_min {i : Nat} {x y : Int32} (hd : decode (mB z) pc = .ok (.invokestatic i, 3)) (hw : Cond.methodLink (mY z).cls i Lib.Math.min.name ∈ gw) (hf1 : 1 ≤ mF z) (hf2 : 26 ≤ mO z) (hrm : rmB st = true) : Nxt z mid pc loc (.int y :: .int x :: st) h (mid, pc + 3, loc, .int (if y < x then y else x) :: st, h) := by
  refine ⟨rfl, ⟨Nat.le_refl _, Nat.le_refl _⟩, ?_⟩
  intro g p l e R s m args below meth c Q C S hf hC hz hu k H locs cells slots ls hc hl e1 e2
  obtain ⟨hx, hb, hml, hr, hown, hts, hlk, hnm, hk, hR, hCS, hsz⟩ := hC
  have hsum : (st.map fun v => v.category).sum ≤ 8 := Nat.le_of_ble_eq_true hrm
  exact va_mmin hx hb (by rw [hml]; exact hl.2.1.symm) hown (hts _ hw) (hts _ (word_in w_mins rfl)) (hts _ (word_in w_mth rfl)) (hts _ (word_in w_minc rfl)) (Nat.le_trans hf1 hR.1) (by rw [cat_cv]; omega) (by omega) (by omega) hd (k H locs cells slots ls hc hl e1 e2)
end Steps
