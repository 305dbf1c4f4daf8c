/-! which side of which cell a slot of a front speaks of: kernel check -/
def bitN (n j : Nat) : Bool := !Nat.beq (fr n / 8 ^ j % 8) 0
def srcN (W H : Nat) (ar : Bool) (c j : Nat) : Nat :=
  if j < W then
    (if ar = true then
      (if c / W = 0 then (if j < c % W then 4 * j + 3 else if j = c % W ∧ c % W % 2 = 1 then 4 * (c % W - 1) + 1 else 0)
      else if c / W = H then 0
      else if c / W = H - 1 ∧ j < c % W then (if c % W % 2 = 1 ∧ j + 1 = c % W then 4 * (c / W * W + j) + 3 else 0)
      else if j < c % W then 4 * (c / W * W + j) + 3 else 4 * ((c / W - 1) * W + j) + 3)
    else (if j < c % W then 4 * (c / W * W + j) + 3 else if c / W = 0 then 0 else 4 * ((c / W - 1) * W + j) + 3))
  else if j = W then (if ar = true ∧ c / W % 2 = 1 then 4 * ((c / W - 1) * W + W - 1) + 2 else if c % W = 0 then 0 else 4 * (c - 1) + 2)
  else if j = W + 1 ∧ ar = true then (if c / W % 2 = 0 then (if c % W = 0 then 0 else 4 * (c / W * W) + 4) else (if c % W = 0 then 4 * ((c / W - 1) * W) + 4 else 4 * (c - 1) + 2))
  else 0
/-- the dart across a side, as 4 cell + side + 1, or 0 -/
def nbN (W H : Nat) (ar : Bool) (c s : Nat) : Nat :=
  if s = 0 then (if 0 < c / W then 4 * (c - W) + 3 else if ar = true then (if c % W % 2 = 0 then 4 * (c + 1) + 1 else 4 * (c - 1) + 1) else 0)
  else if s = 1 then (if c % W + 1 < W then 4 * (c + 1) + 4 else if ar = true then (if c / W % 2 = 0 then 4 * (c + W) + 2 else 4 * (c - W) + 2) else 0)
  else if s = 2 then (if c / W + 1 < H then 4 * (c + W) + 1 else if ar = true then (if c % W % 2 = 0 then 4 * (c + 1) + 3 else 4 * (c - 1) + 3) else 0)
  else (if 0 < c % W then 4 * (c - 1) + 2 else if ar = true then (if c / W % 2 = 0 then 4 * (c + W) + 4 else 4 * (c - W) + 4) else 0)
def sltN (W : Nat) (ar : Bool) (c s : Nat) : Nat := if s = 0 then c % W else if s = 3 then lsD W ar (c / W) - 1 else if s = 1 then W else c % W - 1
def ckA (W H : Nat) (ar : Bool) (c n s : Nat) : Bool :=
  if Nat.beq (nbN W H ar c s) 0 = true then (setl W H ar c).testBit s && !(wnD W H ar c (fr n)).testBit s
  else if Nat.blt ((nbN W H ar c s - 1) / 4) c = true then (setl W H ar c).testBit s && Nat.beq (srcN W H ar c (sltN W ar c s)) (nbN W H ar c s) && Nat.blt (sltN W ar c s) 6 && ((wnD W H ar c (fr n)).testBit s == bitN n (sltN W ar c s))
  else true
def ckB (W H : Nat) (ar : Bool) (c s : Nat) : Bool := Nat.beq (nbN W H ar c s) 0 || (Nat.blt ((nbN W H ar c s - 1) / 4) (W * H) && Nat.beq (nbN W H ar ((nbN W H ar c s - 1) / 4) ((nbN W H ar c s - 1) % 4)) (4 * c + s + 1) && !Nat.beq ((nbN W H ar c s - 1) / 4) c)
def ckT (W H : Nat) (ar : Bool) (c n t : Nat) : Bool := match tr W H ar c n t with
  | none => true
  | some q => (List.range 6).all fun j => if Nat.beq (srcN W H ar (c + 1) j) 0 = true then !bitN q.1 j else if Nat.beq ((srcN W H ar (c + 1) j - 1) / 4) c = true then bitN q.1 j == (sid t).testBit ((srcN W H ar (c + 1) j - 1) % 4) else Nat.beq (srcN W H ar c j) (srcN W H ar (c + 1) j) && (bitN q.1 j == bitN n j)
def ckSd (W H : Nat) (ar : Bool) : Bool := (List.range (W * H)).all fun c => (List.range 4).all (fun s => ckB W H ar c s) && (List.range 76).all fun n => !inL W H ar c n || ((List.range 4).all (fun s => ckA W H ar c n s) && (List.range 10).all (fun t => ckT W H ar c n t))
set_option maxRecDepth 100000 in
theorem ckSd_110 : ckSd 1 1 false = true := by decide +kernel
set_option maxRecDepth 100000 in
theorem ckSd_120 : ckSd 1 2 false = true := by decide +kernel
set_option maxRecDepth 100000 in
theorem ckSd_130 : ckSd 1 3 false = true := by decide +kernel
set_option maxRecDepth 100000 in
theorem ckSd_140 : ckSd 1 4 false = true := by decide +kernel
set_option maxRecDepth 100000 in
theorem ckSd_150 : ckSd 1 5 false = true := by decide +kernel
set_option maxRecDepth 100000 in
theorem ckSd_210 : ckSd 2 1 false = true := by decide +kernel
set_option maxRecDepth 100000 in
theorem ckSd_220 : ckSd 2 2 false = true := by decide +kernel
set_option maxRecDepth 100000 in
theorem ckSd_221 : ckSd 2 2 true = true := by decide +kernel
set_option maxRecDepth 100000 in
theorem ckSd_230 : ckSd 2 3 false = true := by decide +kernel
set_option maxRecDepth 100000 in
theorem ckSd_240 : ckSd 2 4 false = true := by decide +kernel
set_option maxRecDepth 100000 in
theorem ckSd_241 : ckSd 2 4 true = true := by decide +kernel
set_option maxRecDepth 100000 in
theorem ckSd_250 : ckSd 2 5 false = true := by decide +kernel
set_option maxRecDepth 100000 in
theorem ckSd_310 : ckSd 3 1 false = true := by decide +kernel
set_option maxRecDepth 100000 in
theorem ckSd_320 : ckSd 3 2 false = true := by decide +kernel
set_option maxRecDepth 100000 in
theorem ckSd_330 : ckSd 3 3 false = true := by decide +kernel
set_option maxRecDepth 100000 in
theorem ckSd_340 : ckSd 3 4 false = true := by decide +kernel
set_option maxRecDepth 100000 in
theorem ckSd_350 : ckSd 3 5 false = true := by decide +kernel
set_option maxRecDepth 100000 in
theorem ckSd_410 : ckSd 4 1 false = true := by decide +kernel
set_option maxRecDepth 100000 in
theorem ckSd_420 : ckSd 4 2 false = true := by decide +kernel
set_option maxRecDepth 100000 in
theorem ckSd_421 : ckSd 4 2 true = true := by decide +kernel
set_option maxRecDepth 100000 in
theorem ckSd_430 : ckSd 4 3 false = true := by decide +kernel
set_option maxRecDepth 100000 in
theorem ckSd_440 : ckSd 4 4 false = true := by decide +kernel
set_option maxRecDepth 100000 in
theorem ckSd_441 : ckSd 4 4 true = true := by decide +kernel
set_option maxRecDepth 100000 in
theorem ckSd_450 : ckSd 4 5 false = true := by decide +kernel
set_option maxRecDepth 100000 in
theorem ckSd_510 : ckSd 5 1 false = true := by decide +kernel
set_option maxRecDepth 100000 in
theorem ckSd_520 : ckSd 5 2 false = true := by decide +kernel
set_option maxRecDepth 100000 in
theorem ckSd_530 : ckSd 5 3 false = true := by decide +kernel
set_option maxRecDepth 100000 in
theorem ckSd_540 : ckSd 5 4 false = true := by decide +kernel
theorem ckSd_all {W H : Nat} {ar : Bool} (hk : okS W H ar = true) : ckSd W H ar = true := by
  obtain ⟨⟨w1, w2⟩, ⟨h1, h2⟩, h3, h4⟩ := okS_1 hk
  have hW : W = 1 ∨ W = 2 ∨ W = 3 ∨ W = 4 ∨ W = 5 := by omega
  have hH : H = 1 ∨ H = 2 ∨ H = 3 ∨ H = 4 ∨ H = 5 := by omega
  rcases hW with rfl | rfl | rfl | rfl | rfl <;> rcases hH with rfl | rfl | rfl | rfl | rfl <;> cases ar
  · exact ckSd_110
  · exact absurd hk (by decide)
  · exact ckSd_120
  · exact absurd hk (by decide)
  · exact ckSd_130
  · exact absurd hk (by decide)
  · exact ckSd_140
  · exact absurd hk (by decide)
  · exact ckSd_150
  · exact absurd hk (by decide)
  · exact ckSd_210
  · exact absurd hk (by decide)
  · exact ckSd_220
  · exact ckSd_221
  · exact ckSd_230
  · exact absurd hk (by decide)
  · exact ckSd_240
  · exact ckSd_241
  · exact ckSd_250
  · exact absurd hk (by decide)
  · exact ckSd_310
  · exact absurd hk (by decide)
  · exact ckSd_320
  · exact absurd hk (by decide)
  · exact ckSd_330
  · exact absurd hk (by decide)
  · exact ckSd_340
  · exact absurd hk (by decide)
  · exact ckSd_350
  · exact absurd hk (by decide)
  · exact ckSd_410
  · exact absurd hk (by decide)
  · exact ckSd_420
  · exact ckSd_421
  · exact ckSd_430
  · exact absurd hk (by decide)
  · exact ckSd_440
  · exact ckSd_441
  · exact ckSd_450
  · exact absurd hk (by decide)
  · exact ckSd_510
  · exact absurd hk (by decide)
  · exact ckSd_520
  · exact absurd hk (by decide)
  · exact ckSd_530
  · exact absurd hk (by decide)
  · exact ckSd_540
  · exact absurd hk (by decide)
  · exact absurd hk (by decide)
  · exact absurd hk (by decide)
