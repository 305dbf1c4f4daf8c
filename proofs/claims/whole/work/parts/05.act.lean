/-! the little machine: one step -/
abbrev CF : Type := Nat × Nat × List Value × List Value × HP
abbrev AC : Type := (Option Value × HP) ⊕ CF ⊕ (CF × Nat × Nat × List Value × List Value)
def nx (mid pc : Nat) (loc stk : List Value) (h : HP) : Option AC := some (.inr (.inl (mid, pc, loc, stk, h)))
def nth {α : Type} : List α → Nat → Option α
  | [], _ => none
  | a :: _, 0 => some a
  | _ :: l, n + 1 => nth l n
def mY (z : MT) : MethodName := z.1
def mB (z : MT) : ByteArray := z.2.1
def mX (z : MT) : Nat := z.2.2.1
def mT (z : MT) : Option FieldType := z.2.2.2.1
def mP (z : MT) : Nat := z.2.2.2.2.1
def mS (z : MT) : Nat := z.2.2.2.2.2.1
def mF (z : MT) : Nat := z.2.2.2.2.2.2.1
def mO (z : MT) : Nat := z.2.2.2.2.2.2.2.1
def mV (z : MT) : Nat := z.2.2.2.2.2.2.2.2.1
def mC (z : MT) : List AE := z.2.2.2.2.2.2.2.2.2
def ftab : List (List Nat) := [[0, 0, 1, 2, 2, 2], [2, 2], [2, 2, 2, 2, 2, 2, 2, 0, 0, 0, 1], [2, 2, 2, 2, 0], [2, 2, 2, 2, 2, 2, 0, 0], [2, 2, 2], [0, 0, 1, 2, 2, 1, 2, 2, 2, 2, 0, 2, 2, 2, 2, 2, 2, 2, 0, 2, 2]]
def ft (ci k : Nat) : Nat := (ftab.getD ci []).getD k 9
def cN (ci : Nat) : Nat := (ftab.getD ci []).length
def nl (v : Value) : Value := if v.category = 2 then .null else v
def clr (loc : List Value) : Nat → List Value
  | 0 => loc
  | j + 1 => loc.set j (nl (loc.getD j .null))
def st1 (loc : List Value) (i : Nat) (v : Value) : List Value := (clr loc i).set i v
def st2 (loc : List Value) (i : Nat) (v : Value) : List Value := ((clr loc i).set i v).set (i + 1) .null
def sl (as : List Value) : List Value := as.flatMap fun v => if v.category = 2 then [v, .null] else [v]
def ent (n : Nat) (as : List Value) : List Value := sl as ++ List.replicate (n - (sl as).length) .null
def inB (i : Int32) (n : Nat) : Bool := decide (¬ (i < 0 ∨ n ≤ i.toNatClampNeg))
def rmB (st : List Value) : Bool := Nat.ble ((st.map fun v => v.category).sum) 8
def ldI (mid pc : Nat) (loc stk : List Value) (h : HP) (i : Nat) : Option AC := match loc.getD i .null with
  | .int x => nx mid pc loc (.int x :: stk) h
  | _ => none
def ldL (mid pc : Nat) (loc stk : List Value) (h : HP) (i : Nat) : Option AC := match loc.getD i .null with
  | .long x => nx mid pc loc (.long x :: stk) h
  | _ => none
def ldR (mid pc : Nat) (loc stk : List Value) (h : HP) (i : Nat) : Option AC := match loc.getD i .null with
  | .ref x => nx mid pc loc (.ref x :: stk) h
  | _ => none
def soI (mid pc : Nat) (loc stk : List Value) (h : HP) (i : Nat) : Option AC := match stk with
  | .int x :: st => if i < loc.length then nx mid pc (st1 loc i (.int x)) st h else none
  | _ => none
def soR (mid pc : Nat) (loc stk : List Value) (h : HP) (i : Nat) : Option AC := match stk with
  | .ref x :: st => if i < loc.length then nx mid pc (st1 loc i (.ref x)) st h else none
  | _ => none
def soL (mid pc : Nat) (loc stk : List Value) (h : HP) (i : Nat) : Option AC := match stk with
  | .long x :: st => if i + 1 < loc.length then nx mid pc (st2 loc i (.long x)) st h else none
  | _ => none
def opI (mid pc : Nat) (loc stk : List Value) (h : HP) (f : Int32 → Int32 → Int32) : Option AC := match stk with
  | .int y :: .int x :: st => nx mid pc loc (.int (f x y) :: st) h
  | _ => none
def opD (mid pc : Nat) (loc stk : List Value) (h : HP) (f : Int32 → Int32 → Int32) : Option AC := match stk with
  | .int y :: .int x :: st => if y = 0 then none else nx mid pc loc (.int (f x y) :: st) h
  | _ => none
def opL (mid pc : Nat) (loc stk : List Value) (h : HP) (f : Int64 → Int64 → Int64) : Option AC := match stk with
  | .long y :: .long x :: st => nx mid pc loc (.long (f x y) :: st) h
  | _ => none
def br (mid tg pc : Nat) (loc st : List Value) (h : HP) (x y : Int32) (c : ClassFile.Cond) : Option AC := match c with
  | .eq => if x = y then nx mid tg loc st h else nx mid pc loc st h
  | .ne => if x = y then nx mid pc loc st h else nx mid tg loc st h
  | .lt => if x < y then nx mid tg loc st h else nx mid pc loc st h
  | .ge => if y ≤ x then nx mid tg loc st h else nx mid pc loc st h
  | .gt => if y < x then nx mid tg loc st h else nx mid pc loc st h
  | .le => if x ≤ y then nx mid tg loc st h else nx mid pc loc st h
def cl (mid pc : Nat) (loc rest : List Value) (h : HP) (z : MT) (zi : Nat) (as : List Value) : Option AC :=
  if (sl as).length ≤ mX z ∧ rmB rest = true then some (.inr (.inr ((zi, 0, ent (mX z) as, [], h), mid, pc, loc, rest))) else none
def inv (mid pc : Nat) (loc stk : List Value) (h : HP) (k zi : Nat) : Option AC := match nth mtab zi with
  | none => none
  | some z => if mS z = k ∧ mP z ≤ stk.length then
      (if k = 0 then cl mid pc loc (stk.drop (mP z)) h z zi (stk.take (mP z)).reverse
       else match stk.drop (mP z) with
        | .ref o :: rest => if k = 2 then cl mid pc loc rest h z zi (.ref o :: (stk.take (mP z)).reverse) else if hK h o = mV z then cl mid pc loc rest h z zi (.ref o :: (stk.take (mP z)).reverse) else none
        | _ => none)
    else none
def akind : ArrayType → Nat
  | .int => 10
  | .long => 11
  | .boolean => 12
  | _ => 98
def rtB (t : Option FieldType) (v : Int32) : Bool := match t with
  | some .int => true
  | some .boolean => decide (v = 0 ∨ v = 1)
  | _ => false
def actI (z : MT) (mid pc : Nat) (ins : Instr) (len a b : Nat) (loc stk : List Value) (h : HP) : Option AC :=
  match ins with
  | .iconst n => nx mid (pc + len) loc (.int (Int32.ofInt n) :: stk) h
  | .bipush n => nx mid (pc + len) loc (.int (Int8.ofInt n).toInt32 :: stk) h
  | .sipush n => nx mid (pc + len) loc (.int (Int16.ofInt n).toInt32 :: stk) h
  | .ldc _ => nx mid (pc + len) loc (.int (Int32.ofNat a) :: stk) h
  | .ldc_w _ => nx mid (pc + len) loc (.int (Int32.ofNat a) :: stk) h
  | .ldc2_w _ => nx mid (pc + len) loc (.long (Int64.ofNat a) :: stk) h
  | .lconst n => nx mid (pc + len) loc (.long (Int64.ofNat (n : Nat)) :: stk) h
  | .iload i => ldI mid (pc + len) loc stk h i
  | .iload_n i => ldI mid (pc + len) loc stk h (i : Nat)
  | .lload i => ldL mid (pc + len) loc stk h i
  | .lload_n i => ldL mid (pc + len) loc stk h (i : Nat)
  | .aload i => ldR mid (pc + len) loc stk h i
  | .aload_n i => ldR mid (pc + len) loc stk h (i : Nat)
  | .istore i => soI mid (pc + len) loc stk h i
  | .istore_n i => soI mid (pc + len) loc stk h (i : Nat)
  | .lstore i => soL mid (pc + len) loc stk h i
  | .lstore_n i => soL mid (pc + len) loc stk h (i : Nat)
  | .astore i => soR mid (pc + len) loc stk h i
  | .astore_n i => soR mid (pc + len) loc stk h (i : Nat)
  | .iinc i n => match loc.getD i .null with
    | .int x => nx mid (pc + len) (st1 loc i (.int (x + Int32.ofInt n))) stk h
    | _ => none
  | .dup => match stk with
    | v :: st => if v.category = 1 then nx mid (pc + len) loc (v :: v :: st) h else none
    | _ => none
  | .dup2 => match stk with
    | v :: w :: st => if v.category = 1 ∧ w.category = 1 then nx mid (pc + len) loc (v :: w :: v :: w :: st) h else none
    | _ => none
  | .pop => match stk with
    | v :: st => if v.category = 1 then nx mid (pc + len) loc st h else none
    | _ => none
  | .iadd => opI mid (pc + len) loc stk h (fun x y => x + y)
  | .isub => opI mid (pc + len) loc stk h (fun x y => x - y)
  | .imul => opI mid (pc + len) loc stk h (fun x y => x * y)
  | .iand => opI mid (pc + len) loc stk h (fun x y => x &&& y)
  | .ior => opI mid (pc + len) loc stk h (fun x y => x ||| y)
  | .ixor => opI mid (pc + len) loc stk h (fun x y => x ^^^ y)
  | .ishl => opI mid (pc + len) loc stk h (fun x y => x <<< (y &&& 31))
  | .ishr => opI mid (pc + len) loc stk h (fun x y => x >>> (y &&& 31))
  | .iushr => opI mid (pc + len) loc stk h (fun x y => (x.toUInt32 >>> (y.toUInt32 &&& Int32.toUInt32 31)).toInt32)
  | .idiv => opD mid (pc + len) loc stk h (fun x y => x / y)
  | .irem => opD mid (pc + len) loc stk h (fun x y => x - x / y * y)
  | .ladd => opL mid (pc + len) loc stk h (fun x y => x + y)
  | .lsub => opL mid (pc + len) loc stk h (fun x y => x - y)
  | .lmul => opL mid (pc + len) loc stk h (fun x y => x * y)
  | .land => opL mid (pc + len) loc stk h (fun x y => x &&& y)
  | .lor => opL mid (pc + len) loc stk h (fun x y => x ||| y)
  | .lshl => match stk with
    | .int y :: .long x :: st => nx mid (pc + len) loc (.long (x <<< (y.toInt64 &&& 63)) :: st) h
    | _ => none
  | .lcmp => match stk with
    | .long y :: .long x :: st => nx mid (pc + len) loc (.int (lg_cmp x y) :: st) h
    | _ => none
  | .i2l => match stk with
    | .int x :: st => nx mid (pc + len) loc (.long x.toInt64 :: st) h
    | _ => none
  | .if_icmp c _ => match stk with
    | .int y :: .int x :: st => br mid a (pc + len) loc st h x y c
    | _ => none
  | .ifCond c _ => match stk with
    | .int x :: st => br mid a (pc + len) loc st h x 0 c
    | _ => none
  | .goto _ => nx mid a loc stk h
  | .tableswitch dflt lo hi offs => match stk with
    | .int x :: st => if x.toInt < lo ∨ hi < x.toInt then nx mid ((pc : Int) + dflt).toNat loc st h else
        (match offs[(x.toInt - lo).toNat]? with
        | some off => nx mid ((pc : Int) + off).toNat loc st h
        | none => none)
    | _ => none
  | .getstatic _ => nx mid (pc + len) loc (.ref a :: stk) h
  | .getfield _ => match stk with
    | .ref o :: st => if hK h o = a then
        (if ft a b = 2 then (match hR h o b with
          | some q => nx mid (pc + len) loc (.ref q :: st) h
          | none => none)
        else if ft a b < 2 then nx mid (pc + len) loc (.int (hI h o b) :: st) h else none) else none
    | _ => none
  | .putfield _ => match stk with
    | .int x :: .ref o :: st => if hK h o = a then
        (if ft a b = 0 then nx mid (pc + len) loc st (sI h o b x)
        else if ft a b = 1 then (if x = 0 ∨ x = 1 then nx mid (pc + len) loc st (sI h o b x) else none) else none) else none
    | .ref q :: .ref o :: st => if hK h o = a then (if ft a b = 2 then nx mid (pc + len) loc st (sR h o b (some q)) else none) else none
    | _ => none
  | .iaload => match stk with
    | .int i :: .ref o :: st => if (hK h o = 10 ∨ hK h o = 13) ∧ inB i (hN h o) = true then nx mid (pc + len) loc (.int (hI h o i.toNatClampNeg) :: st) h else none
    | _ => none
  | .baload => match stk with
    | .int i :: .ref o :: st => if hK h o = 12 ∧ inB i (hN h o) = true then nx mid (pc + len) loc (.int (hI h o i.toNatClampNeg) :: st) h else none
    | _ => none
  | .laload => match stk with
    | .int i :: .ref o :: st => if hK h o = 11 ∧ inB i (hN h o) = true then nx mid (pc + len) loc (.long (hL h o i.toNatClampNeg) :: st) h else none
    | _ => none
  | .iastore => match stk with
    | .int x :: .int i :: .ref o :: st => if hK h o = 10 ∧ inB i (hN h o) = true then nx mid (pc + len) loc st (sI h o i.toNatClampNeg x) else none
    | _ => none
  | .bastore => match stk with
    | .int x :: .int i :: .ref o :: st => if hK h o = 12 ∧ inB i (hN h o) = true then nx mid (pc + len) loc st (sI h o i.toNatClampNeg (x &&& 1)) else none
    | _ => none
  | .lastore => match stk with
    | .long x :: .int i :: .ref o :: st => if hK h o = 11 ∧ inB i (hN h o) = true then nx mid (pc + len) loc st (sL h o i.toNatClampNeg x) else none
    | _ => none
  | .arraylength => match stk with
    | .ref o :: st => if hK h o = 10 ∨ hK h o = 11 ∨ hK h o = 12 ∨ hK h o = 13 then nx mid (pc + len) loc (.int (nI (hN h o)) :: st) h else none
    | _ => none
  | .new _ => nx mid (pc + len) loc (.ref (hZ h) :: stk) (nw h a 0 (cN a))
  | .newarray t => match stk with
    | .int n :: st => if ¬ n < 0 ∧ n.toNatClampNeg ≤ 67108864 then nx mid (pc + len) loc (.ref (hZ h) :: st) (nw h (akind t) n.toNatClampNeg n.toNatClampNeg) else none
    | _ => none
  | .invokevirtual _ => inv mid (pc + len) loc stk h 1 a
  | .invokespecial _ => if a = 1000 then (match stk with
      | .ref _ :: st => if rmB st = true then nx mid (pc + len) loc st h else none
      | _ => none) else inv mid (pc + len) loc stk h 2 a
  | .invokestatic _ => if a = 1001 then (match stk with
      | .int n :: .int dp :: .ref q :: .int sp :: .ref o :: st => if (hK h o = 10 ∧ hK h q = 10 ∧ ¬ sp < 0 ∧ ¬ dp < 0 ∧ ¬ n < 0) ∧ sp.toNatClampNeg + n.toNatClampNeg ≤ hN h o ∧ dp.toNatClampNeg + n.toNatClampNeg ≤ hN h q ∧ rmB st = true then
          nx mid (pc + len) loc st (sA h q (va_cpy (hI h o) (hI h q) sp.toNatClampNeg dp.toNatClampNeg n.toNatClampNeg)) else none
      | _ => none) else if a = 1002 then (match stk with
      | .int y :: .int x :: st => if rmB st = true then nx mid (pc + len) loc (.int (if x < y then y else x) :: st) h else none
      | _ => none) else if a = 1003 then (match stk with
      | .int y :: .int x :: st => if rmB st = true then nx mid (pc + len) loc (.int (if y < x then y else x) :: st) h else none
      | _ => none) else inv mid (pc + len) loc stk h 0 a
  | .ireturn => match stk with
    | [.int v] => if rtB (mT z) v = true then some (.inl (some (.int v), h)) else none
    | _ => none
  | .lreturn => match stk with
    | [.long v] => if mT z = some .long then some (.inl (some (.long v), h)) else none
    | _ => none
  | .return_ => match stk with
    | [] => if mT z = none then some (.inl (none, h)) else none
    | _ => none
  | _ => none
def fe (z : MT) (pc : Nat) : Option AE := (mC z).find? (fun e => Nat.beq e.1 pc)
def act (c : CF) : Option AC := match nth mtab c.1 with
  | none => none
  | some z => match fe z c.2.1 with
    | none => none
    | some e => actI z c.1 c.2.1 e.2.1 e.2.2.1 e.2.2.2.1 e.2.2.2.2.1 c.2.2.1 c.2.2.2.1 c.2.2.2.2
def run : Nat → CF → RS
  | 0, _ => none
  | n + 1, c => match act c with
    | none => none
    | some (.inl r) => some r
    | some (.inr (.inl c')) => run n c'
    | some (.inr (.inr (cz, mid, pc, loc, rest))) => match run n cz with
      | none => none
      | some r => run n (mid, pc, loc, r.1.toList ++ rest, r.2)
theorem run_succ (n : Nat) : ∀ (c : CF) (r : Option Value × HP), run n c = some r → run (n + 1) c = some r := by
  induction n with
  | zero => intro c r h; exact absurd h (by simp [run])
  | succ n ih =>
    intro c r h
    rw [run] at h ⊢
    cases ha : act c with
    | none => rw [ha] at h; exact h
    | some x =>
      rw [ha] at h
      rcases x with r1 | c' | ⟨cz, mid, pc, loc, rest⟩
      · exact h
      · exact ih _ _ h
      · dsimp only at h ⊢
        cases hz : run n cz with
        | none => rw [hz] at h; exact absurd h (by simp)
        | some q =>
          rw [hz] at h
          rw [ih _ _ hz]
          exact ih _ _ h
theorem run_le {n m : Nat} (hnm : n ≤ m) {c : CF} {r : Option Value × HP} (h : run n c = some r) : run m c = some r := by
  induction hnm with
  | refl => exact h
  | step _ ih => exact run_succ _ _ _ ih
theorem run_det {n m : Nat} {c : CF} {r q : Option Value × HP} (h : run n c = some r) (h2 : run m c = some q) : r = q := by
  have a := run_le (Nat.le_max_left n m) h
  have b := run_le (Nat.le_max_right n m) h2
  exact Option.some.inj (a.symm.trans b)
noncomputable def X (c : CF) : RS := @dite RS (∃ n r, run n c = some r) (Classical.propDecidable _) (fun h => some h.choose_spec.choose) (fun _ => none)
theorem X_some {c : CF} {r : Option Value × HP} : X c = some r ↔ ∃ n, run n c = some r := by
  constructor
  · intro h
    unfold X at h
    split at h
    next hx =>
      have := hx.choose_spec.choose_spec
      exact ⟨hx.choose, by rw [← Option.some.inj h]; exact this⟩
    next => cases h
  · rintro ⟨n, h⟩
    have hx : ∃ n r, run n c = some r := ⟨n, r, h⟩
    unfold X
    rw [dif_pos hx]
    exact congrArg some (run_det hx.choose_spec.choose_spec h)
theorem X_ext {c d : CF} (h : ∀ r, (∃ n, run n c = some r) ↔ ∃ n, run n d = some r) : X c = X d := by
  cases hc : X c with
  | some r => exact (X_some.mpr ((h r).mp (X_some.mp hc))).symm
  | none =>
    cases hd : X d with
    | none => rfl
    | some r => rw [X_some.mpr ((h r).mpr (X_some.mp hd))] at hc; cases hc
theorem X_none {c : CF} (h : act c = none) : X c = none := by
  cases hc : X c with
  | none => rfl
  | some r =>
    obtain ⟨n, hn⟩ := X_some.mp hc
    cases n with
    | zero => exact absurd hn (by simp [run])
    | succ n => rw [run, h] at hn; cases hn
theorem X_ret {c : CF} {r : Option Value × HP} (h : act c = some (.inl r)) : X c = some r := X_some.mpr ⟨1, by rw [run, h]⟩
theorem X_nx {c d : CF} (h : act c = some (.inr (.inl d))) : X c = X d := by
  refine X_ext fun r => ⟨fun ⟨n, hn⟩ => ?_, fun ⟨n, hn⟩ => ⟨n + 1, by rw [run, h]; exact hn⟩⟩
  cases n with
  | zero => exact absurd hn (by simp [run])
  | succ n => rw [run, h] at hn; exact ⟨n, hn⟩
theorem X_call {c cz : CF} {mid pc : Nat} {loc rest : List Value} (h : act c = some (.inr (.inr (cz, mid, pc, loc, rest)))) : X c = (X cz).bind fun r => X (mid, pc, loc, r.1.toList ++ rest, r.2) := by
  cases hc : X c with
  | some r =>
    obtain ⟨n, hn⟩ := X_some.mp hc
    cases n with
    | zero => exact absurd hn (by simp [run])
    | succ n =>
      rw [run, h] at hn
      dsimp only at hn
      cases hz : run n cz with
      | none => rw [hz] at hn; cases hn
      | some q =>
        rw [hz] at hn
        rw [X_some.mpr ⟨n, hz⟩]
        exact (X_some.mpr ⟨n, hn⟩).symm
  | none =>
    cases hz : X cz with
    | none => rfl
    | some q =>
      show none = X (mid, pc, loc, q.1.toList ++ rest, q.2)
      cases hd : X (mid, pc, loc, q.1.toList ++ rest, q.2) with
      | none => rfl
      | some r =>
        obtain ⟨n, hn⟩ := X_some.mp hz
        obtain ⟨m, hm⟩ := X_some.mp hd
        have : X c = some r := X_some.mpr ⟨n + m + 1, by
          rw [run, h]
          dsimp only
          rw [run_le (Nat.le_add_right n m) hn]
          exact run_le (Nat.le_add_left m n) hm⟩
        rw [this] at hc; cases hc
