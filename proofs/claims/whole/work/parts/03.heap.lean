/-! the little machine: its heap. Cells 0 to 4 are arrays that lie outside (four static tables, the script); kinds 0 to 6: an object of class X0 .. X6; 10 int[], 11 long[], 12 boolean[], 13 an outside int[]; 99 none -/
abbrev HP : Type := (Nat → Nat) × (Nat → Nat) × (Nat → Nat → Int32) × (Nat → Nat → Int64) × (Nat → Nat → Option Nat) × Nat × Nat
abbrev RS : Type := Option (Option Value × HP)
/-- pc, instruction, length, resolved numbers, place of the link's word -/
abbrev AE : Type := Nat × Instr × Nat × Nat × Nat × Nat
/-- name, bytes, locals, return type, parameters, 0 static 1 virtual 2 constructor, frames, locals' room, class, code -/
abbrev MT : Type := MethodName × ByteArray × Nat × Option FieldType × Nat × Nat × Nat × Nat × Nat × List AE
def hK (h : HP) : Nat → Nat := h.1
def hN (h : HP) : Nat → Nat := h.2.1
def hI (h : HP) : Nat → Nat → Int32 := h.2.2.1
def hL (h : HP) : Nat → Nat → Int64 := h.2.2.2.1
def hR (h : HP) : Nat → Nat → Option Nat := h.2.2.2.2.1
def hZ (h : HP) : Nat := h.2.2.2.2.2.1
def hU (h : HP) : Nat := h.2.2.2.2.2.2
def sA (h : HP) (o : Nat) (f : Nat → Int32) : HP := (hK h, hN h, va_up (hI h) o f, hL h, hR h, hZ h, hU h)
def sB (h : HP) (o : Nat) (f : Nat → Int64) : HP := (hK h, hN h, hI h, va_up (hL h) o f, hR h, hZ h, hU h)
def sI (h : HP) (o k : Nat) (v : Int32) : HP := sA h o (upd (hI h o) k v)
def sL (h : HP) (o k : Nat) (v : Int64) : HP := sB h o (vp_updL (hL h o) k v)
def sR (h : HP) (o k : Nat) (v : Option Nat) : HP := (hK h, hN h, hI h, hL h, va_up (hR h) o (va_up (hR h o) k v), hZ h, hU h)
def nw (h : HP) (kind len slots : Nat) : HP := (va_up (hK h) (hZ h) kind, va_up (hN h) (hZ h) len, va_up (hI h) (hZ h) (fun _ => 0), va_up (hL h) (hZ h) (fun _ => 0), va_up (hR h) (hZ h) (fun _ => none), hZ h + 1, hU h + slots)
theorem hK_sA (h : HP) (o : Nat) (f : Nat → Int32) : hK (sA h o f) = hK h := rfl
theorem hN_sA (h : HP) (o : Nat) (f : Nat → Int32) : hN (sA h o f) = hN h := rfl
theorem hL_sA (h : HP) (o : Nat) (f : Nat → Int32) : hL (sA h o f) = hL h := rfl
theorem hR_sA (h : HP) (o : Nat) (f : Nat → Int32) : hR (sA h o f) = hR h := rfl
theorem hZ_sA (h : HP) (o : Nat) (f : Nat → Int32) : hZ (sA h o f) = hZ h := rfl
theorem hU_sA (h : HP) (o : Nat) (f : Nat → Int32) : hU (sA h o f) = hU h := rfl
theorem hK_sB (h : HP) (o : Nat) (f : Nat → Int64) : hK (sB h o f) = hK h := rfl
theorem hN_sB (h : HP) (o : Nat) (f : Nat → Int64) : hN (sB h o f) = hN h := rfl
theorem hI_sB (h : HP) (o : Nat) (f : Nat → Int64) : hI (sB h o f) = hI h := rfl
theorem hR_sB (h : HP) (o : Nat) (f : Nat → Int64) : hR (sB h o f) = hR h := rfl
theorem hZ_sB (h : HP) (o : Nat) (f : Nat → Int64) : hZ (sB h o f) = hZ h := rfl
theorem hU_sB (h : HP) (o : Nat) (f : Nat → Int64) : hU (sB h o f) = hU h := rfl
theorem hK_sI (h : HP) (o k : Nat) (v : Int32) : hK (sI h o k v) = hK h := rfl
theorem hN_sI (h : HP) (o k : Nat) (v : Int32) : hN (sI h o k v) = hN h := rfl
theorem hL_sI (h : HP) (o k : Nat) (v : Int32) : hL (sI h o k v) = hL h := rfl
theorem hR_sI (h : HP) (o k : Nat) (v : Int32) : hR (sI h o k v) = hR h := rfl
theorem hZ_sI (h : HP) (o k : Nat) (v : Int32) : hZ (sI h o k v) = hZ h := rfl
theorem hU_sI (h : HP) (o k : Nat) (v : Int32) : hU (sI h o k v) = hU h := rfl
theorem hK_sL (h : HP) (o k : Nat) (v : Int64) : hK (sL h o k v) = hK h := rfl
theorem hN_sL (h : HP) (o k : Nat) (v : Int64) : hN (sL h o k v) = hN h := rfl
theorem hI_sL (h : HP) (o k : Nat) (v : Int64) : hI (sL h o k v) = hI h := rfl
theorem hR_sL (h : HP) (o k : Nat) (v : Int64) : hR (sL h o k v) = hR h := rfl
theorem hZ_sL (h : HP) (o k : Nat) (v : Int64) : hZ (sL h o k v) = hZ h := rfl
theorem hU_sL (h : HP) (o k : Nat) (v : Int64) : hU (sL h o k v) = hU h := rfl
theorem hK_sR (h : HP) (o k : Nat) (v : Option Nat) : hK (sR h o k v) = hK h := rfl
theorem hN_sR (h : HP) (o k : Nat) (v : Option Nat) : hN (sR h o k v) = hN h := rfl
theorem hI_sR (h : HP) (o k : Nat) (v : Option Nat) : hI (sR h o k v) = hI h := rfl
theorem hL_sR (h : HP) (o k : Nat) (v : Option Nat) : hL (sR h o k v) = hL h := rfl
theorem hZ_sR (h : HP) (o k : Nat) (v : Option Nat) : hZ (sR h o k v) = hZ h := rfl
theorem hU_sR (h : HP) (o k : Nat) (v : Option Nat) : hU (sR h o k v) = hU h := rfl
theorem hI_sA (h : HP) (o : Nat) (f : Nat → Int32) (q : Nat) : hI (sA h o f) q = if q = o then f else hI h q := rfl
theorem hL_sB (h : HP) (o : Nat) (f : Nat → Int64) (q : Nat) : hL (sB h o f) q = if q = o then f else hL h q := rfl
theorem hI_sI (h : HP) (o k : Nat) (v : Int32) (q : Nat) : hI (sI h o k v) q = if q = o then upd (hI h o) k v else hI h q := rfl
theorem hL_sL (h : HP) (o k : Nat) (v : Int64) (q : Nat) : hL (sL h o k v) q = if q = o then vp_updL (hL h o) k v else hL h q := rfl
theorem hR_sRr (h : HP) (o k : Nat) (v : Option Nat) (q : Nat) : hR (sR h o k v) q = if q = o then va_up (hR h o) k v else hR h q := rfl
theorem hZ_nw (h : HP) (a b c : Nat) : hZ (nw h a b c) = hZ h + 1 := rfl
theorem hU_nw (h : HP) (a b c : Nat) : hU (nw h a b c) = hU h + c := rfl
theorem hK_nw (h : HP) (a b c q : Nat) : hK (nw h a b c) q = if q = hZ h then a else hK h q := rfl
theorem hN_nw (h : HP) (a b c q : Nat) : hN (nw h a b c) q = if q = hZ h then b else hN h q := rfl
theorem hI_nw (h : HP) (a b c q : Nat) : hI (nw h a b c) q = if q = hZ h then (fun _ => 0) else hI h q := rfl
theorem hL_nw (h : HP) (a b c q : Nat) : hL (nw h a b c) q = if q = hZ h then (fun _ => 0) else hL h q := rfl
theorem hR_nw (h : HP) (a b c q : Nat) : hR (nw h a b c) q = if q = hZ h then (fun _ => none) else hR h q := rfl
