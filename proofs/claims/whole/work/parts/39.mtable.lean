/-! the reference's fronts beside the component's -/
def sg (W : Nat) (ar : Bool) (c s : Nat) : Nat := if s < W ∨ ar = false ∨ c / W % 2 = 0 then s else if s = W then W + 2 else if s = W + 1 then (if c % W = 0 then W + 1 else W) else 7
def phD (W : Nat) (ar : Bool) (c d s : Nat) : Nat := if d / 8 ^ s % 8 = 0 then 0 else (sg W ar c (d / 8 ^ s % 8 - 1) + 1) * 16 ^ sg W ar c s
/-- the reference's code of a front ahead of cell c -/
def phi (W : Nat) (ar : Bool) (c n : Nat) : Nat := phD W ar c (fr n) 0 + phD W ar c (fr n) 1 + phD W ar c (fr n) 2 + phD W ar c (fr n) 3 + phD W ar c (fr n) 4 + phD W ar c (fr n) 5
def iv (W : Nat) (ar : Bool) (c j : Nat) : Nat := if sg W ar c 0 = j then 0 else if sg W ar c 1 = j then 1 else if sg W ar c 2 = j then 2 else if sg W ar c 3 = j then 3 else if sg W ar c 4 = j then 4 else 5
def psD (W : Nat) (ar : Bool) (c e s : Nat) : Nat := if e / 16 ^ sg W ar c s % 16 = 0 then 0 else (iv W ar c (e / 16 ^ sg W ar c s % 16 - 1) + 1) * 8 ^ s
def psi (W : Nat) (ar : Bool) (c e : Nat) : Nat := ixG frL (psD W ar c e 0 + psD W ar c e 1 + psD W ar c e 2 + psD W ar c e 3 + psD W ar c e 4 + psD W ar c e 5) 0
def mt10 (e : Nat) : Nat → Int32 := fun k => if k < 8 then mI (e / 16 ^ k % 16) else if k < 10 then -1 else 0
def cdGo (m : Nat → Int32) : Nat → Nat → Int32 → Int32
  | 0, _, v => v
  | f + 1, k, v => cdGo m f (k + 1) (v ||| ((m k + 1) <<< ((4 * nI k) &&& 31)))
def oD (a : Int32) (k : Nat) : Int32 := ((a >>> ((4 * nI k) &&& 31)) &&& 15) - 1
def ckP (W : Nat) (ar : Bool) (c n : Nat) : Bool := Nat.beq (psi W ar c (phi W ar c n)) n && decide (cdGo (mt10 (phi W ar c n)) 8 0 0 = nI (phi W ar c n)) && (List.range 8).all (fun j => decide (oD (nI (phi W ar c n)) j = mt10 (phi W ar c n) j)) && Nat.blt (phi W ar c n) 2147483648
def ckQ (W H : Nat) (ar : Bool) (c n : Nat) : Bool := (List.range 10).all fun t => match cmO W H ar c t (mt10 (phi W ar c n)) with
  | none => false
  | some q => match tr W H ar c n t with
    | none => !q.1
    | some r => q.1 && decide (q.2.2 = nI r.2) && (List.range 8).all (fun j => decide (q.2.1 j = mt10 (phi W ar (c + 1) r.1) j))
def ckV (W H : Nat) (ar : Bool) : Bool := !okS W H ar || ((List.range (W * H + 1)).all (fun c => (List.range 76).all fun n => !inL W H ar c n || ckP W ar c n) && (List.range (W * H)).all (fun c => (List.range 76).all fun n => !inL W H ar c n || ckQ W H ar c n) && (List.range 76).all (fun n => !inL W H ar (W * H) n || Nat.beq n 0) && Nat.beq (phi W ar 0 0) 0)
