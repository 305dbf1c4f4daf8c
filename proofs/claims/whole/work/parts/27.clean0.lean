/-! 1 X0_canBe -/
set_option maxRecDepth 10000 in
theorem g1_0 (a0 : Int32) (a1 : Int32) (a2 : Int32) (h : HP) (hs : SH h) : X (1, 0, [.int a0, .int a1, .int a2], [], h) = if a0 < 1 then (some (some (.int 0), h)) else (if 5 < a0 then (some (some (.int 0), h)) else (if a1 < 1 then (some (some (.int 0), h)) else (if 5 < a1 then (some (some (.int 0), h)) else (if (a0 * a1) ≤ 20 then (if a2 = 0 then (some (some (.int 1), h)) else (bI (X (2, 0, [.int a0], [], h)) (fun r1 h1 => if r1 = 0 then (some (some (.int 0), h1)) else (bI (X (2, 0, [.int a1], [], h1)) (fun r2 h2 => if r2 = 0 then (some (some (.int 0), h2)) else (some (some (.int 1), h2))))))) else (some (some (.int 0), h)))))) :=
  (r1_0 a0 a1 a2 h).trans rfl
/-! 2 X0_isEven -/
set_option maxRecDepth 10000 in
theorem g2_0 (a0 : Int32) (h : HP) (hs : SH h) : X (2, 0, [.int a0], [], h) = if (a0 &&& 1) = 0 then (some (some (.int 1), h)) else (some (some (.int 0), h)) :=
  (r2_0 a0 h).trans rfl
/-! 3 X0_renew -/
set_option maxRecDepth 10000 in
theorem g3_0 (a1 : Int32) (a2 : Int32) (a3 : Int32) (w4 : Value) (h : HP) (hs : SH h) : X (3, 0, [.ref 6, .int a1, .int a2, .int a3, w4], [], h) = if a3 = 0 ∨ a3 = 1 then (X (3, 18, [.ref 6, .int a1, .int a2, .int a3, .int 0], [], sI (sI (sI h 6 0 a1) 6 1 a2) 6 2 a3)) else none :=
  (r3_0 6 a1 a2 a3 w4 h).trans (gd_c (hs.k 6 rfl) (gd_c ((hs.sIs 6 rfl).k 6 rfl) (gd_c (((hs.sIs 6 rfl).sIs 6 rfl).k 6 rfl) rfl)))
set_option maxRecDepth 10000 in
theorem g3_18 (w1 : Value) (w2 : Value) (w3 : Value) (a4 : Int32) (h : HP) (hs : SH h) : X (3, 18, [.ref 6, w1, w2, w3, .int a4], [], h) = if 20 ≤ a4 then (some (none, h)) else (if inB a4 20 = true then (bI (X (12, 0, [.ref 6, .int a4], [], sI h 7 a4.toNatClampNeg 1023)) (fun r1 h1 => bI (X (13, 0, [.ref 6, .int a4], [], h1)) (fun r2 h2 => bI (X (4, 0, [.ref 6, .int r1, .int r2, .null], [], h2)) (fun r3 h3 => if inB a4 20 = true then (if (hI (sI h3 8 a4.toNatClampNeg r3) 6 2) = 0 then (if inB a4 20 = true then (X (3, 18, [.ref 6, w1, w2, (nl w3), .int (a4 + 1)], [], sI (sI h3 8 a4.toNatClampNeg r3) 9 a4.toNatClampNeg 0)) else none) else (if inB a4 20 = true then (bI (X (12, 0, [.ref 6, .int a4], [], sI h3 8 a4.toNatClampNeg r3)) (fun r4 h4 => bI (X (13, 0, [.ref 6, .int a4], [], h4)) (fun r5 h5 => bI (X (5, 0, [.int r4, .int r5], [], h5)) (fun r6 h6 => if inB a4 20 = true then (X (3, 18, [.ref 6, w1, w2, (nl w3), .int (a4 + 1)], [], sI h6 9 a4.toNatClampNeg ((hI (sI h3 8 a4.toNatClampNeg r3) 8 a4.toNatClampNeg) &&& r6))) else none)))) else none)) else none)))) else none) :=
  (r3_18 6 w1 w2 w3 a4 h).trans (ite_c rfl (rd_c (hs.k 6 rfl) (hs.r 3 rfl) (as_c (hs.k 7 rfl) (hs.n 7 rfl) (rd_c ((hs.sIs 7 rfl).k 6 rfl) ((hs.sIs 7 rfl).r 4 rfl) (gd_c ((hs.sIs 7 rfl).k 6 rfl) (bI_c (hs.sIs 7 rfl) rfl rfl rfl (fun r1 h1 hs1 => (gd_c (hs1.k 6 rfl) (bI_c hs1 rfl rfl rfl (fun r2 h2 hs2 => (gd_c (hs2.k 6 rfl) (bI_c hs2 rfl rfl rfl (fun r3 h3 hs3 => (as_c (hs3.k 8 rfl) (hs3.n 8 rfl) (rd_c ((hs3.sIs 8 rfl).k 6 rfl) ((hs3.sIs 8 rfl).r 5 rfl) (gd_c ((hs3.sIs 8 rfl).k 6 rfl) (ite_c (as_c ((hs3.sIs 8 rfl).k 9 rfl) ((hs3.sIs 8 rfl).n 9 rfl) rfl) (rd_c ((hs3.sIs 8 rfl).k 6 rfl) ((hs3.sIs 8 rfl).r 4 rfl) (al_c (Or.inl ((hs3.sIs 8 rfl).k 8 rfl)) ((hs3.sIs 8 rfl).n 8 rfl) (gd_c ((hs3.sIs 8 rfl).k 6 rfl) (bI_c (hs3.sIs 8 rfl) rfl rfl rfl (fun r4 h4 hs4 => (gd_c (hs4.k 6 rfl) (bI_c hs4 rfl rfl rfl (fun r5 h5 hs5 => (bI_c hs5 rfl rfl rfl (fun r6 h6 hs6 => (as_c (hs6.k 9 rfl) (hs6.n 9 rfl) rfl))))))))))))))))))))))))))))
/-! 4 X0_edgesAt -/
set_option maxRecDepth 10000 in
theorem g4_0 (a1 : Int32) (a2 : Int32) (w3 : Value) (h : HP) (hs : SH h) : X (4, 0, [.ref 6, .int a1, .int a2, w3], [], h) = if a2 = 0 then (X (4, 10, [.ref 6, .int a1, .int a2, .int (0 ||| 1)], [], h)) else (X (4, 10, [.ref 6, .int a1, .int a2, .int 0], [], h)) :=
  (r4_0 6 a1 a2 w3 h).trans rfl
set_option maxRecDepth 10000 in
theorem g4_10 (a1 : Int32) (a2 : Int32) (a3 : Int32) (h : HP) (hs : SH h) : X (4, 10, [.ref 6, .int a1, .int a2, .int a3], [], h) = if a1 = ((hI h 6 0) - 1) then (X (4, 24, [.ref 6, .int a1, .int a2, .int (a3 ||| 2)], [], h)) else (X (4, 24, [.ref 6, .int a1, .int a2, .int a3], [], h)) :=
  (r4_10 6 a1 a2 a3 h).trans (gd_c (hs.k 6 rfl) rfl)
set_option maxRecDepth 10000 in
theorem g4_24 (a1 : Int32) (a2 : Int32) (a3 : Int32) (h : HP) (hs : SH h) : X (4, 24, [.ref 6, .int a1, .int a2, .int a3], [], h) = if a2 = ((hI h 6 1) - 1) then (X (4, 38, [.ref 6, .int a1, .int a2, .int (a3 ||| 4)], [], h)) else (X (4, 38, [.ref 6, .int a1, .int a2, .int a3], [], h)) :=
  (r4_24 6 a1 a2 a3 h).trans (gd_c (hs.k 6 rfl) rfl)
set_option maxRecDepth 10000 in
theorem g4_38 (w0 : Value) (a1 : Int32) (w2 : Value) (a3 : Int32) (h : HP) (hs : SH h) : X (4, 38, [w0, .int a1, w2, .int a3], [], h) = if a1 = 0 then (some (some (.int (a3 ||| 8)), h)) else (some (some (.int a3), h)) :=
  (r4_38 w0 a1 w2 a3 h).trans rfl
/-! 5 X0_firstOfTwo -/
set_option maxRecDepth 10000 in
theorem g5_0 (a0 : Int32) (a1 : Int32) (h : HP) (hs : SH h) : X (5, 0, [.int a0, .int a1], [], h) = bI (X (2, 0, [.int a0], [], h)) (fun r1 h1 => if r1 = 0 then (bI (X (2, 0, [.int a1], [], h1)) (fun r2 h2 => if r2 = 0 then (some (some (.int (0 ||| 0)), h2)) else (some (some (.int (0 ||| 10)), h2)))) else (bI (X (2, 0, [.int a1], [], h1)) (fun r3 h3 => if r3 = 0 then (some (some (.int (5 ||| 0)), h3)) else (some (some (.int (5 ||| 10)), h3))))) :=
  (r5_0 a0 a1 h).trans rfl
/-! 6 X0_cells -/
set_option maxRecDepth 10000 in
theorem g6_0 (h : HP) (hs : SH h) : X (6, 0, [.ref 6], [], h) = some (some (.int ((hI h 6 0) * (hI h 6 1))), h) :=
  (r6_0 6 h).trans (gd_c (hs.k 6 rfl) (gd_c (hs.k 6 rfl) rfl))
/-! 7 X0_has -/
set_option maxRecDepth 10000 in
theorem g7_0 (a1 : Int32) (h : HP) (hs : SH h) : X (7, 0, [.ref 6, .int a1], [], h) = if a1 < 0 then (some (some (.int 0), h)) else (if ((hI h 6 0) * (hI h 6 1)) ≤ a1 then (some (some (.int 0), h)) else (if 20 ≤ a1 then (some (some (.int 0), h)) else (some (some (.int 1), h)))) :=
  (r7_0 6 a1 h).trans (ite_c rfl (gd_c (hs.k 6 rfl) (gd_c (hs.k 6 rfl) rfl)))
/-! 8 X0_edgesOf -/
set_option maxRecDepth 10000 in
theorem g8_0 (a1 : Int32) (h : HP) (hs : SH h) : X (8, 0, [.ref 6, .int a1], [], h) = bI (X (7, 0, [.ref 6, .int a1], [], h)) (fun r1 h1 => if r1 = 0 then (some (some (.int 0), h1)) else (if inB a1 20 = true then (some (some (.int (hI h1 8 a1.toNatClampNeg)), h1)) else none)) :=
  (r8_0 6 a1 h).trans (gd_c (hs.k 6 rfl) (bI_c hs rfl rfl rfl (fun r1 h1 hs1 => (ite_c rfl (rd_c (hs1.k 6 rfl) (hs1.r 4 rfl) (al_c (Or.inl (hs1.k 8 rfl)) (hs1.n 8 rfl) rfl))))))
/-! 9 X0_firstEndsOf -/
set_option maxRecDepth 10000 in
theorem g9_0 (a1 : Int32) (h : HP) (hs : SH h) : X (9, 0, [.ref 6, .int a1], [], h) = bI (X (7, 0, [.ref 6, .int a1], [], h)) (fun r1 h1 => if r1 = 0 then (some (some (.int 0), h1)) else (if inB a1 20 = true then (some (some (.int (hI h1 9 a1.toNatClampNeg)), h1)) else none)) :=
  (r9_0 6 a1 h).trans (gd_c (hs.k 6 rfl) (bI_c hs rfl rfl rfl (fun r1 h1 hs1 => (ite_c rfl (rd_c (hs1.k 6 rfl) (hs1.r 5 rfl) (al_c (Or.inl (hs1.k 9 rfl)) (hs1.n 9 rfl) rfl))))))
/-! 10 X0_secondEndsOf -/
set_option maxRecDepth 10000 in
theorem g10_0 (a1 : Int32) (h : HP) (hs : SH h) : X (10, 0, [.ref 6, .int a1], [], h) = if (hI h 6 2) = 0 then (some (some (.int 0), h)) else (bI (X (7, 0, [.ref 6, .int a1], [], h)) (fun r1 h1 => if r1 = 0 then (some (some (.int 0), h1)) else (if inB a1 20 = true then (if inB a1 20 = true then (some (some (.int ((hI h1 8 a1.toNatClampNeg) &&& ((hI h1 9 a1.toNatClampNeg) ^^^ ((-1))))), h1)) else none) else none))) :=
  (r10_0 6 a1 h).trans (gd_c (hs.k 6 rfl) (ite_c rfl (gd_c (hs.k 6 rfl) (bI_c hs rfl rfl rfl (fun r1 h1 hs1 => (ite_c rfl (rd_c (hs1.k 6 rfl) (hs1.r 4 rfl) (al_c (Or.inl (hs1.k 8 rfl)) (hs1.n 8 rfl) (rd_c (hs1.k 6 rfl) (hs1.r 5 rfl) (al_c (Or.inl (hs1.k 9 rfl)) (hs1.n 9 rfl) rfl))))))))))
/-! 11 X0_cellAt -/
set_option maxRecDepth 10000 in
theorem g11_0 (a1 : Int32) (a2 : Int32) (h : HP) (hs : SH h) : X (11, 0, [.ref 6, .int a1, .int a2], [], h) = if a1 < 0 then (some (some (.int ((-1))), h)) else (if (hI h 6 0) ≤ a1 then (some (some (.int ((-1))), h)) else (if a2 < 0 then (some (some (.int ((-1))), h)) else (if a2 < (hI h 6 1) then (some (some (.int (a1 + ((hI h 6 0) * a2))), h)) else (some (some (.int ((-1))), h))))) :=
  (r11_0 6 a1 a2 h).trans (ite_c rfl (gd_c (hs.k 6 rfl) (ite_c rfl (ite_c rfl (gd_c (hs.k 6 rfl) (ite_c (gd_c (hs.k 6 rfl) rfl) rfl))))))
/-! 12 X0_column -/
set_option maxRecDepth 10000 in
theorem g12_0 (a1 : Int32) (h : HP) (hs : SH h) : X (12, 0, [.ref 6, .int a1], [], h) = if (hI h 6 0) ≤ 0 then (some (some (.int 0), h)) else (if (hI h 6 0) = 0 then none else (some (some (.int (a1 - a1 / (hI h 6 0) * (hI h 6 0))), h))) :=
  (r12_0 6 a1 h).trans (gd_c (hs.k 6 rfl) (ite_c rfl (gd_c (hs.k 6 rfl) rfl)))
/-! 13 X0_row -/
set_option maxRecDepth 10000 in
theorem g13_0 (a1 : Int32) (h : HP) (hs : SH h) : X (13, 0, [.ref 6, .int a1], [], h) = if (hI h 6 0) ≤ 0 then (some (some (.int 0), h)) else (if (hI h 6 0) = 0 then none else (some (some (.int (a1 / (hI h 6 0))), h))) :=
  (r13_0 6 a1 h).trans (gd_c (hs.k 6 rfl) (ite_c rfl (gd_c (hs.k 6 rfl) rfl)))
/-! 14 X0_permit -/
set_option maxRecDepth 10000 in
theorem g14_0 (a1 : Int32) (a2 : Int32) (w3 : Value) (h : HP) (hs : SH h) : X (14, 0, [.ref 6, .int a1, .int a2, w3], [], h) = bI (X (7, 0, [.ref 6, .int a1], [], h)) (fun r1 h1 => if r1 = 0 then (some (some (.int 0), h1)) else (if inB a1 20 = true then (if (hI h1 7 a1.toNatClampNeg) = (a2 &&& 1023) then (some (some (.int 0), h1)) else (if inB a1 20 = true then (some (some (.int 1), sI h1 7 a1.toNatClampNeg (a2 &&& 1023))) else none)) else none)) :=
  (r14_0 6 a1 a2 w3 h).trans (gd_c (hs.k 6 rfl) (bI_c hs rfl rfl rfl (fun r1 h1 hs1 => (ite_c rfl (rd_c (hs1.k 6 rfl) (hs1.r 3 rfl) (al_c (Or.inl (hs1.k 7 rfl)) (hs1.n 7 rfl) (ite_c rfl (rd_c (hs1.k 6 rfl) (hs1.r 3 rfl) (as_c (hs1.k 7 rfl) (hs1.n 7 rfl) rfl)))))))))
/-! 15 X0_permitted -/
set_option maxRecDepth 10000 in
theorem g15_0 (a1 : Int32) (h : HP) (hs : SH h) : X (15, 0, [.ref 6, .int a1], [], h) = bI (X (7, 0, [.ref 6, .int a1], [], h)) (fun r1 h1 => if r1 = 0 then (some (some (.int 0), h1)) else (if inB a1 20 = true then (some (some (.int (hI h1 7 a1.toNatClampNeg)), h1)) else none)) :=
  (r15_0 6 a1 h).trans (gd_c (hs.k 6 rfl) (bI_c hs rfl rfl rfl (fun r1 h1 hs1 => (ite_c rfl (rd_c (hs1.k 6 rfl) (hs1.r 3 rfl) (al_c (Or.inl (hs1.k 7 rfl)) (hs1.n 7 rfl) rfl))))))
/-! 16 X0_permits -/
set_option maxRecDepth 10000 in
theorem g16_0 (a1 : Int32) (a2 : Int32) (h : HP) (hs : SH h) : X (16, 0, [.ref 6, .int a1, .int a2], [], h) = bI (X (103, 0, [.int a2], [], h)) (fun r1 h1 => if r1 = 0 then (some (some (.int 0), h1)) else (bI (X (15, 0, [.ref 6, .int a1], [], h1)) (fun r2 h2 => if ((r2 >>> (a2 &&& 31)) &&& 1) = 1 then (some (some (.int 1), h2)) else (some (some (.int 0), h2))))) :=
  (r16_0 6 a1 a2 h).trans (bI_c hs rfl rfl rfl (fun r1 h1 hs1 => (ite_c rfl (gd_c (hs1.k 6 rfl) rfl))))
/-! 17 X0_atBorder -/
set_option maxRecDepth 10000 in
theorem g17_0 (a1 : Int32) (a2 : Int32) (h : HP) (hs : SH h) : X (17, 0, [.ref 6, .int a1, .int a2], [], h) = bI (X (8, 0, [.ref 6, .int a1], [], h)) (fun r1 h1 => if ((r1 >>> (a2 &&& 31)) &&& 1) = 1 then (some (some (.int 1), h1)) else (some (some (.int 0), h1))) :=
  (r17_0 6 a1 a2 h).trans (gd_c (hs.k 6 rfl) rfl)
/-! 18 X0_beyond -/
set_option maxRecDepth 10000 in
theorem g18_0 (a1 : Int32) (a2 : Int32) (w3 : Value) (w4 : Value) (w5 : Value) (w6 : Value) (h : HP) (hs : SH h) : X (18, 0, [.ref 6, .int a1, .int a2, w3, w4, w5, w6], [], h) = bI (X (12, 0, [.ref 6, .int a1], [], h)) (fun r1 h1 => bI (X (13, 0, [.ref 6, .int a1], [], h1)) (fun r2 h2 => if a2 = 0 then (X (18, 22, [.ref 6, .int a1, .int a2, .int r1, .int r2, w5, w6], [], h2)) else (if a2 = 2 then (X (18, 22, [.ref 6, .int a1, .int a2, .int r1, .int r2, w5, w6], [], h2)) else (bI (X (17, 0, [.ref 6, .int a1, .int a2], [], h2)) (fun r3 h3 => if r3 = 0 then (if a2 = 1 then (X (18, 75, [.ref 6, .int a1, .int a2, .int r1, .int r2, .int 0, w6], [], h3)) else (if a2 = 2 then (X (18, 75, [.ref 6, .int a1, .int a2, .int r1, .int r2, .int 0, w6], [], h3)) else (bI (X (11, 0, [.ref 6, .int (r1 + ((-1))), .int r2], [], h3)) (fun r4 h4 => some (some (.int r4), h4))))) else (bI (X (11, 0, [.ref 6, .int r1, .int (r2 ^^^ 1)], [], h3)) (fun r5 h5 => some (some (.int r5), h5)))))))) :=
  (r18_0 6 a1 a2 w3 w4 w5 w6 h).trans (gd_c (hs.k 6 rfl) (bI_c hs rfl rfl rfl (fun r1 h1 hs1 => (gd_c (hs1.k 6 rfl) (bI_c hs1 rfl rfl rfl (fun r2 h2 hs2 => (ite_c rfl (ite_c rfl (gd_c (hs2.k 6 rfl) (bI_c hs2 rfl rfl rfl (fun r3 h3 hs3 => (ite_c (ite_c rfl (ite_c rfl (ift_c (by decide) ((gd_c (hs3.k 6 rfl) rfl))))) (ift_c (by decide) ((gd_c (hs3.k 6 rfl) rfl)))))))))))))))
set_option maxRecDepth 10000 in
theorem g18_22 (a1 : Int32) (a2 : Int32) (a3 : Int32) (a4 : Int32) (w5 : Value) (w6 : Value) (h : HP) (hs : SH h) : X (18, 22, [.ref 6, .int a1, .int a2, .int a3, .int a4, w5, w6], [], h) = bI (X (17, 0, [.ref 6, .int a1, .int a2], [], h)) (fun r1 h1 => if r1 = 0 then (if a2 = 1 then (X (18, 75, [.ref 6, .int a1, .int a2, .int a3, .int a4, .int 1, w6], [], h1)) else (if a2 = 2 then (X (18, 75, [.ref 6, .int a1, .int a2, .int a3, .int a4, .int 1, w6], [], h1)) else (bI (X (11, 0, [.ref 6, .int a3, .int (a4 + ((-1)))], [], h1)) (fun r2 h2 => some (some (.int r2), h2))))) else (bI (X (11, 0, [.ref 6, .int (a3 ^^^ 1), .int a4], [], h1)) (fun r3 h3 => some (some (.int r3), h3)))) :=
  (r18_22 6 a1 a2 a3 a4 w5 w6 h).trans (gd_c (hs.k 6 rfl) (bI_c hs rfl rfl rfl (fun r1 h1 hs1 => (ite_c (ite_c rfl (ite_c rfl (iff_c (by decide) ((gd_c (hs1.k 6 rfl) rfl))))) (iff_c (by decide) ((gd_c (hs1.k 6 rfl) rfl)))))))
set_option maxRecDepth 10000 in
theorem g18_75 (w1 : Value) (w2 : Value) (a3 : Int32) (a4 : Int32) (a5 : Int32) (w6 : Value) (h : HP) (hs : SH h) : X (18, 75, [.ref 6, w1, w2, .int a3, .int a4, .int a5, w6], [], h) = if a5 = 0 then (bI (X (11, 0, [.ref 6, .int (a3 + 1), .int a4], [], h)) (fun r1 h1 => some (some (.int r1), h1))) else (bI (X (11, 0, [.ref 6, .int a3, .int (a4 + 1)], [], h)) (fun r2 h2 => some (some (.int r2), h2))) :=
  (r18_75 6 w1 w2 a3 a4 a5 w6 h).trans (ite_c (gd_c (hs.k 6 rfl) rfl) (gd_c (hs.k 6 rfl) rfl))
/-! 20 X1_joinings -/
set_option maxRecDepth 10000 in
theorem g20_0 (a0 : Int32) (h : HP) (hs : SH h) : X (20, 0, [.int a0], [], h) = if a0 < 0 then (some (some (.int 76), h)) else (if a0 ≤ 6 then (if inB a0 7 = true then (some (some (.int (hI h 3 a0.toNatClampNeg)), h)) else none) else (some (some (.int 76), h))) :=
  (r20_0 a0 h).trans (ite_c rfl (ite_c (al_c (Or.inr (hs.k 3 rfl)) (hs.n 3 rfl) rfl) rfl))
/-! 21 X1_clear -/
set_option maxRecDepth 10000 in
theorem g21_0 (h : HP) (hs : SH h) : X (21, 0, [.ref 10], [], h) = bV (X (23, 0, [.ref 10, .int 0, .null], [], h)) (fun h1 => some (none, h1)) :=
  (r21_0 10 h).trans (gd_c (hs.k 10 rfl) rfl)
/-! 22 X1_pack -/
set_option maxRecDepth 10000 in
theorem g22_0 (w1 : Value) (w2 : Value) (h : HP) (hs : SH h) : X (22, 0, [.ref 10, w1, w2], [], h) = X (22, 4, [.ref 10, .int 0, .int 5], [], h) :=
  (r22_0 10 w1 w2 h).trans rfl
set_option maxRecDepth 10000 in
theorem g22_4 (a1 : Int32) (a2 : Int32) (h : HP) (hs : SH h) : X (22, 4, [.ref 10, .int a1, .int a2], [], h) = if a2 < 0 then (some (some (.int a1), h)) else (if inB a2 6 = true then (X (22, 4, [.ref 10, .int ((a1 <<< (3 &&& 31)) ||| ((hI h 11 a2.toNatClampNeg) + 1)), .int (a2 + (-1))], [], h)) else none) :=
  (r22_4 10 a1 a2 h).trans (ite_c rfl (rd_c (hs.k 10 rfl) (hs.r 7 rfl) (al_c (Or.inl (hs.k 11 rfl)) (hs.n 11 rfl) rfl)))
/-! 23 X1_unpack -/
set_option maxRecDepth 10000 in
theorem g23_0 (a1 : Int32) (w2 : Value) (h : HP) (hs : SH h) : X (23, 0, [.ref 10, .int a1, w2], [], h) = X (23, 2, [.ref 10, .int a1, .int 0], [], h) :=
  (r23_0 10 a1 w2 h).trans rfl
set_option maxRecDepth 10000 in
theorem g23_2 (a1 : Int32) (a2 : Int32) (h : HP) (hs : SH h) : X (23, 2, [.ref 10, .int a1, .int a2], [], h) = if 6 ≤ a2 then (some (none, h)) else (if inB a2 6 = true then (X (23, 2, [.ref 10, .int a1, .int (a2 + 1)], [], sI h 11 a2.toNatClampNeg (((a1 >>> ((3 * a2) &&& 31)) &&& 7) - 1))) else none) :=
  (r23_2 10 a1 a2 h).trans (ite_c rfl (rd_c (hs.k 10 rfl) (hs.r 7 rfl) (as_c (hs.k 11 rfl) (hs.n 11 rfl) rfl)))
/-! 24 X1_number -/
set_option maxRecDepth 10000 in
theorem g24_0 (w1 : Value) (w2 : Value) (w3 : Value) (w4 : Value) (w5 : Value) (w6 : Value) (h : HP) (hs : SH h) : X (24, 0, [.ref 10, w1, w2, w3, w4, w5, w6], [], h) = X (24, 10, [.ref 10, .int 0, .int 0, .int 6, .int 5, w5, w6], [], h) :=
  (r24_0 10 w1 w2 w3 w4 w5 w6 h).trans rfl
set_option maxRecDepth 10000 in
theorem g24_10 (a1 : Int32) (a2 : Int32) (a3 : Int32) (a4 : Int32) (w5 : Value) (w6 : Value) (h : HP) (hs : SH h) : X (24, 10, [.ref 10, .int a1, .int a2, .int a3, .int a4, w5, w6], [], h) = if a4 < 0 then (some (some (.int a1), h)) else (if ((a2 >>> (a4 &&& 31)) &&& 1) = 1 then (X (24, 88, [.ref 10, .int a1, .int a2, .int a3, .int a4, w5, w6], [], h)) else (bI (X (25, 0, [.ref 10, .int a4], [], h)) (fun r1 h1 => if r1 = ((-1)) then (X (24, 88, [.ref 10, .int a1, .int a2, .int (a3 + (-1)), .int a4, .int r1, w6], [], h1)) else (bI (X (143, 0, [.int (a2 &&& ((1 <<< (r1 &&& 31)) - 1))], [], h1)) (fun r2 h2 => bI (X (20, 0, [.int (a3 + (-1))], [], h2)) (fun r3 h3 => bI (X (20, 0, [.int ((a3 + (-1)) - 1)], [], h3)) (fun r4 h4 => X (24, 88, [.ref 10, .int (a1 + (r3 + ((r1 - r2) * r4))), .int (a2 ||| (1 <<< (r1 &&& 31))), .int ((a3 + (-1)) + (-1)), .int a4, .int r1, .int (r1 - r2)], [], h4)))))))) :=
  (r24_10 10 a1 a2 a3 a4 w5 w6 h).trans (ite_c rfl (ite_c rfl (gd_c (hs.k 10 rfl) rfl)))
set_option maxRecDepth 10000 in
theorem g24_88 (a1 : Int32) (a2 : Int32) (a3 : Int32) (a4 : Int32) (w5 : Value) (w6 : Value) (h : HP) (hs : SH h) : X (24, 88, [.ref 10, .int a1, .int a2, .int a3, .int a4, w5, w6], [], h) = X (24, 10, [.ref 10, .int a1, .int a2, .int a3, .int (a4 + (-1)), w5, w6], [], h) :=
  (r24_88 10 a1 a2 a3 a4 w5 w6 h).trans rfl
/-! 25 X1_mateOf -/
set_option maxRecDepth 10000 in
theorem g25_0 (a1 : Int32) (h : HP) (hs : SH h) : X (25, 0, [.ref 10, .int a1], [], h) = if a1 < 0 then (some (some (.int ((-1))), h)) else (if 6 ≤ a1 then (some (some (.int ((-1))), h)) else (if inB a1 6 = true then (some (some (.int (hI h 11 a1.toNatClampNeg)), h)) else none)) :=
  (r25_0 10 a1 h).trans (ite_c rfl (ite_c rfl (rd_c (hs.k 10 rfl) (hs.r 7 rfl) (al_c (Or.inl (hs.k 11 rfl)) (hs.n 11 rfl) rfl))))
/-! 26 X1_leadsOn -/
set_option maxRecDepth 10000 in
theorem g26_0 (a1 : Int32) (h : HP) (hs : SH h) : X (26, 0, [.ref 10, .int a1], [], h) = bI (X (25, 0, [.ref 10, .int a1], [], h)) (fun r1 h1 => if r1 = ((-1)) then (some (some (.int 0), h1)) else (some (some (.int 1), h1))) :=
  (r26_0 10 a1 h).trans (gd_c (hs.k 10 rfl) rfl)
/-! 27 X1_pair -/
set_option maxRecDepth 10000 in
theorem g27_0 (a1 : Int32) (a2 : Int32) (h : HP) (hs : SH h) : X (27, 0, [.ref 10, .int a1, .int a2], [], h) = if a1 < 0 then (some (none, h)) else (if 6 ≤ a1 then (some (none, h)) else (if a2 < 0 then (some (none, h)) else (if 6 ≤ a2 then (some (none, h)) else (if inB a1 6 = true then (if inB a2 6 = true then (some (none, sI (sI h 11 a1.toNatClampNeg a2) 11 a2.toNatClampNeg a1)) else none) else none)))) :=
  (r27_0 10 a1 a2 h).trans (ite_c rfl (ite_c rfl (ite_c rfl (ite_c rfl (rd_c (hs.k 10 rfl) (hs.r 7 rfl) (as_c (hs.k 11 rfl) (hs.n 11 rfl) (rd_c ((hs.sIs 11 rfl).k 10 rfl) ((hs.sIs 11 rfl).r 7 rfl) (as_c ((hs.sIs 11 rfl).k 11 rfl) ((hs.sIs 11 rfl).n 11 rfl) rfl))))))))
/-! 28 X1_empty -/
set_option maxRecDepth 10000 in
theorem g28_0 (a1 : Int32) (h : HP) (hs : SH h) : X (28, 0, [.ref 10, .int a1], [], h) = if a1 < 0 then (some (none, h)) else (if 6 ≤ a1 then (some (none, h)) else (if inB a1 6 = true then (some (none, sI h 11 a1.toNatClampNeg ((-1)))) else none)) :=
  (r28_0 10 a1 h).trans (ite_c rfl (ite_c rfl (rd_c (hs.k 10 rfl) (hs.r 7 rfl) (as_c (hs.k 11 rfl) (hs.n 11 rfl) rfl))))
/-! 29 X1_lineSlot -/
set_option maxRecDepth 10000 in
theorem g29_0 (a1 : Int32) (h : HP) (hs : SH h) : X (29, 0, [.ref 10, .int a1], [], h) = if (hI h 6 2) = 0 then (some (some (.int (hI h 6 0)), h)) else (bI (X (2, 0, [.int a1], [], h)) (fun r1 h1 => if r1 = 0 then (some (some (.int ((hI h1 6 0) + 1)), h1)) else (some (some (.int (hI h1 6 0)), h1)))) :=
  (r29_0 10 a1 h).trans (rd_c (hs.k 10 rfl) (hs.r 6 rfl) (gd_c (hs.k 6 rfl) (ite_c (rd_c (hs.k 10 rfl) (hs.r 6 rfl) (gd_c (hs.k 6 rfl) rfl)) (bI_c hs rfl rfl rfl (fun r1 h1 hs1 => (ite_c (rd_c (hs1.k 10 rfl) (hs1.r 6 rfl) (gd_c (hs1.k 6 rfl) rfl)) (rd_c (hs1.k 10 rfl) (hs1.r 6 rfl) (gd_c (hs1.k 6 rfl) rfl))))))))
/-! 30 X1_agrees -/
set_option maxRecDepth 10000 in
theorem g30_0 (a1 : Int32) (a2 : Int32) (h : HP) (hs : SH h) : X (30, 0, [.ref 10, .int a1, .int a2], [], h) = bI (X (103, 0, [.int a2], [], h)) (fun r1 h1 => if r1 = 0 then (some (some (.int 0), h1)) else (if inB a2 10 = true then (bI (X (31, 0, [.ref 10, .int a1], [], h1)) (fun r2 h2 => bI (X (32, 0, [.ref 10, .int a1, .null, .null, .null], [], h2)) (fun r3 h3 => if ((hI h1 0 a2.toNatClampNeg) &&& r2) = r3 then (some (some (.int 1), h3)) else (some (some (.int 0), h3))))) else none)) :=
  (r30_0 10 a1 a2 h).trans (bI_c hs rfl rfl rfl (fun r1 h1 hs1 => (ite_c rfl (al_c (Or.inr (hs1.k 0 rfl)) (hs1.n 0 rfl) (gd_c (hs1.k 10 rfl) (bI_c hs1 rfl rfl rfl (fun r2 h2 hs2 => (gd_c (hs2.k 10 rfl) rfl))))))))
/-! 31 X1_settledSides -/
set_option maxRecDepth 10000 in
theorem g31_0 (a1 : Int32) (h : HP) (hs : SH h) : X (31, 0, [.ref 10, .int a1], [], h) = bI (X (8, 0, [.ref 6, .int a1], [], h)) (fun r1 h1 => bI (X (9, 0, [.ref 6, .int a1], [], h1)) (fun r2 h2 => some (some (.int ((9 ||| r1) &&& (r2 ^^^ ((-1))))), h2))) :=
  (r31_0 10 a1 h).trans (rd_c (hs.k 10 rfl) (hs.r 6 rfl) (gd_c (hs.k 6 rfl) (bI_c hs rfl rfl rfl (fun r1 h1 hs1 => (rd_c (hs1.k 10 rfl) (hs1.r 6 rfl) (gd_c (hs1.k 6 rfl) rfl))))))
/-! 32 X1_wantedSides -/
set_option maxRecDepth 10000 in
theorem g32_0 (a1 : Int32) (w2 : Value) (w3 : Value) (w4 : Value) (h : HP) (hs : SH h) : X (32, 0, [.ref 10, .int a1, w2, w3, w4], [], h) = bI (X (12, 0, [.ref 6, .int a1], [], h)) (fun r1 h1 => bI (X (10, 0, [.ref 6, .int a1], [], h1)) (fun r2 h2 => bI (X (26, 0, [.ref 10, .int r1], [], h2)) (fun r3 h3 => if r3 = 0 then (X (32, 35, [.ref 10, .int a1, .int r1, .int r2, .int 0], [], h3)) else (X (32, 35, [.ref 10, .int a1, .int r1, .int r2, .int (0 ||| 1)], [], h3))))) :=
  (r32_0 10 a1 w2 w3 w4 h).trans (rd_c (hs.k 10 rfl) (hs.r 6 rfl) (gd_c (hs.k 6 rfl) (bI_c hs rfl rfl rfl (fun r1 h1 hs1 => (rd_c (hs1.k 10 rfl) (hs1.r 6 rfl) (gd_c (hs1.k 6 rfl) (bI_c hs1 rfl rfl rfl (fun r2 h2 hs2 => (gd_c (hs2.k 10 rfl) rfl)))))))))
set_option maxRecDepth 10000 in
theorem g32_35 (a1 : Int32) (a2 : Int32) (a3 : Int32) (a4 : Int32) (h : HP) (hs : SH h) : X (32, 35, [.ref 10, .int a1, .int a2, .int a3, .int a4], [], h) = bI (X (13, 0, [.ref 6, .int a1], [], h)) (fun r1 h1 => bI (X (29, 0, [.ref 10, .int r1], [], h1)) (fun r2 h2 => bI (X (26, 0, [.ref 10, .int r2], [], h2)) (fun r3 h3 => if r3 = 0 then (X (32, 61, [.ref 10, .int a1, .int a2, .int a3, .int a4], [], h3)) else (X (32, 61, [.ref 10, .int a1, .int a2, .int a3, .int (a4 ||| 8)], [], h3))))) :=
  (r32_35 10 a1 a2 a3 a4 h).trans (rd_c (hs.k 10 rfl) (hs.r 6 rfl) (gd_c (hs.k 6 rfl) (bI_c hs rfl rfl rfl (fun r1 h1 hs1 => (gd_c (hs1.k 10 rfl) (bI_c hs1 rfl rfl rfl (fun r2 h2 hs2 => (gd_c (hs2.k 10 rfl) rfl))))))))
set_option maxRecDepth 10000 in
theorem g32_61 (w1 : Value) (a2 : Int32) (a3 : Int32) (a4 : Int32) (h : HP) (hs : SH h) : X (32, 61, [.ref 10, w1, .int a2, .int a3, .int a4], [], h) = if (a3 &&& 2) = 0 then (X (32, 87, [.ref 10, w1, .int a2, .int a3, .int a4], [], h)) else (bI (X (26, 0, [.ref 10, .int (hI h 6 0)], [], h)) (fun r1 h1 => if r1 = 0 then (X (32, 87, [.ref 10, w1, .int a2, .int a3, .int a4], [], h1)) else (X (32, 87, [.ref 10, w1, .int a2, .int a3, .int (a4 ||| 2)], [], h1)))) :=
  (r32_61 10 w1 a2 a3 a4 h).trans (ite_c rfl (rd_c (hs.k 10 rfl) (hs.r 6 rfl) (gd_c (hs.k 6 rfl) (gd_c (hs.k 10 rfl) rfl))))
set_option maxRecDepth 10000 in
theorem g32_87 (w1 : Value) (a2 : Int32) (a3 : Int32) (a4 : Int32) (h : HP) (hs : SH h) : X (32, 87, [.ref 10, w1, .int a2, .int a3, .int a4], [], h) = if (a3 &&& 4) = 0 then (some (some (.int a4), h)) else (bI (X (26, 0, [.ref 10, .int (a2 - 1)], [], h)) (fun r1 h1 => if r1 = 0 then (some (some (.int a4), h1)) else (some (some (.int (a4 ||| 4)), h1)))) :=
  (r32_87 10 w1 a2 a3 a4 h).trans (ite_c rfl (gd_c (hs.k 10 rfl) rfl))
/-! 33 X1_take -/
set_option maxRecDepth 10000 in
theorem g33_0 (a1 : Int32) (a2 : Int32) (w3 : Value) (w4 : Value) (w5 : Value) (w6 : Value) (h : HP) (hs : SH h) : X (33, 0, [.ref 10, .int a1, .int a2, w3, w4, w5, w6], [], h) = bI (X (12, 0, [.ref 6, .int a1], [], h)) (fun r1 h1 => bI (X (13, 0, [.ref 6, .int a1], [], h1)) (fun r2 h2 => bI (X (29, 0, [.ref 10, .int r2], [], h2)) (fun r3 h3 => bI (X (103, 0, [.int a2], [], h3)) (fun r4 h4 => if r4 = 0 then (bI (X (9, 0, [.ref 6, .int a1], [], h4)) (fun r5 h5 => bV (X (34, 0, [.ref 10, .int r1, .int (0 &&& r5)], [], h5)) (fun h6 => X (33, 61, [.ref 10, .int a1, .int a2, .int r1, .int r3, .int 0, .int 0], [.int a2], h6)))) else (if inB a2 10 = true then (bI (X (9, 0, [.ref 6, .int a1], [], h4)) (fun r6 h7 => bV (X (34, 0, [.ref 10, .int r1, .int ((hI h4 0 a2.toNatClampNeg) &&& r6)], [], h7)) (fun h8 => X (33, 61, [.ref 10, .int a1, .int a2, .int r1, .int r3, .int (hI h4 0 a2.toNatClampNeg), .int 0], [.int a2], h8)))) else none))))) :=
  (r33_0 10 a1 a2 w3 w4 w5 w6 h).trans (rd_c (hs.k 10 rfl) (hs.r 6 rfl) (gd_c (hs.k 6 rfl) (bI_c hs rfl rfl rfl (fun r1 h1 hs1 => (rd_c (hs1.k 10 rfl) (hs1.r 6 rfl) (gd_c (hs1.k 6 rfl) (bI_c hs1 rfl rfl rfl (fun r2 h2 hs2 => (gd_c (hs2.k 10 rfl) (bI_c hs2 rfl rfl rfl (fun r3 h3 hs3 => (bI_c hs3 rfl rfl rfl (fun r4 h4 hs4 => (ite_c (rd_c (hs4.k 10 rfl) (hs4.r 6 rfl) (gd_c (hs4.k 6 rfl) (bI_c hs4 rfl rfl rfl (fun r5 h5 hs5 => (gd_c (hs5.k 10 rfl) rfl))))) (al_c (Or.inr (hs4.k 0 rfl)) (hs4.n 0 rfl) (rd_c (hs4.k 10 rfl) (hs4.r 6 rfl) (gd_c (hs4.k 6 rfl) (bI_c hs4 rfl rfl rfl (fun r6 h7 hs7 => (gd_c (hs7.k 10 rfl) rfl))))))))))))))))))))
set_option maxRecDepth 10000 in
theorem g33_100 (a1 : Int32) (w2 : Value) (a3 : Int32) (a4 : Int32) (a5 : Int32) (a6 : Int32) (h : HP) (hs : SH h) : X (33, 100, [.ref 10, .int a1, w2, .int a3, .int a4, .int a5, .int a6], [], h) = bV (X (37, 0, [.ref 10, .int a3, .int a4, .null, .null], [], h)) (fun h1 => X (33, 151, [.ref 10, .int a1, w2, .int a3, .int a4, .int a5, .int a6], [], h1)) :=
  (r33_100 10 a1 w2 a3 a4 a5 a6 h).trans (gd_c (hs.k 10 rfl) rfl)
set_option maxRecDepth 10000 in
theorem g33_110 (a1 : Int32) (w2 : Value) (a3 : Int32) (a4 : Int32) (a5 : Int32) (a6 : Int32) (h : HP) (hs : SH h) : X (33, 110, [.ref 10, .int a1, w2, .int a3, .int a4, .int a5, .int a6], [], h) = bV (X (27, 0, [.ref 10, .int a3, .int a4], [], h)) (fun h1 => X (33, 151, [.ref 10, .int a1, w2, .int a3, .int a4, .int a5, .int a6], [], h1)) :=
  (r33_110 10 a1 w2 a3 a4 a5 a6 h).trans (gd_c (hs.k 10 rfl) rfl)
set_option maxRecDepth 10000 in
theorem g33_120 (a1 : Int32) (w2 : Value) (a3 : Int32) (a4 : Int32) (a5 : Int32) (w6 : Value) (h : HP) (hs : SH h) : X (33, 120, [.ref 10, .int a1, w2, .int a3, .int a4, .int a5, w6], [], h) = bI (X (36, 0, [.ref 10, .int a3, .int a4, .null, .null], [], h)) (fun r1 h1 => X (33, 151, [.ref 10, .int a1, w2, .int a3, .int a4, .int a5, .int r1], [], h1)) :=
  (r33_120 10 a1 w2 a3 a4 a5 w6 h).trans (gd_c (hs.k 10 rfl) rfl)
set_option maxRecDepth 10000 in
theorem g33_132 (a1 : Int32) (w2 : Value) (a3 : Int32) (a4 : Int32) (a5 : Int32) (w6 : Value) (h : HP) (hs : SH h) : X (33, 132, [.ref 10, .int a1, w2, .int a3, .int a4, .int a5, w6], [], h) = bI (X (36, 0, [.ref 10, .int a3, .int a4, .null, .null], [], h)) (fun r1 h1 => bV (X (27, 0, [.ref 10, .int a3, .int a4], [], h1)) (fun h2 => X (33, 151, [.ref 10, .int a1, w2, .int a3, .int a4, .int a5, .int r1], [], h2))) :=
  (r33_132 10 a1 w2 a3 a4 a5 w6 h).trans (gd_c (hs.k 10 rfl) (bI_c hs rfl rfl rfl (fun r1 h1 hs1 => (gd_c (hs1.k 10 rfl) rfl))))
set_option maxRecDepth 10000 in
theorem g33_151 (a1 : Int32) (w2 : Value) (a3 : Int32) (w4 : Value) (a5 : Int32) (a6 : Int32) (h : HP) (hs : SH h) : X (33, 151, [.ref 10, .int a1, w2, .int a3, w4, .int a5, .int a6], [], h) = bI (X (10, 0, [.ref 6, .int a1], [], h)) (fun r1 h1 => bI (X (35, 0, [.ref 10, .int a3, .int (a5 &&& r1), .null], [], h1)) (fun r2 h2 => some (some (.int (a6 + r2)), h2))) :=
  (r33_151 10 a1 w2 a3 w4 a5 a6 h).trans (rd_c (hs.k 10 rfl) (hs.r 6 rfl) (gd_c (hs.k 6 rfl) (bI_c hs rfl rfl rfl (fun r1 h1 hs1 => (gd_c (hs1.k 10 rfl) rfl)))))
/-! 34 X1_openArcs -/
set_option maxRecDepth 10000 in
theorem g34_0 (a1 : Int32) (a2 : Int32) (h : HP) (hs : SH h) : X (34, 0, [.ref 10, .int a1, .int a2], [], h) = if (a2 &&& 1) = 0 then (X (34, 14, [.ref 10, .int a1, .int a2], [], h)) else (bV (X (27, 0, [.ref 10, .int a1, .int (a1 + 1)], [], h)) (fun h1 => X (34, 14, [.ref 10, .int a1, .int a2], [], h1))) :=
  (r34_0 10 a1 a2 h).trans (ite_c rfl (gd_c (hs.k 10 rfl) rfl))
set_option maxRecDepth 10000 in
theorem g34_14 (w1 : Value) (a2 : Int32) (h : HP) (hs : SH h) : X (34, 14, [.ref 10, w1, .int a2], [], h) = if (a2 &&& 8) = 0 then (some (none, h)) else (bV (X (27, 0, [.ref 10, .int (hI h 6 0), .int ((hI h 6 0) + 1)], [], h)) (fun h1 => some (none, h1))) :=
  (r34_14 10 w1 a2 h).trans (ite_c rfl (rd_c (hs.k 10 rfl) (hs.r 6 rfl) (gd_c (hs.k 6 rfl) (rd_c (hs.k 10 rfl) (hs.r 6 rfl) (gd_c (hs.k 6 rfl) (gd_c (hs.k 10 rfl) rfl))))))
/-! 35 X1_closeArcs -/
set_option maxRecDepth 10000 in
theorem g35_0 (a1 : Int32) (a2 : Int32) (w3 : Value) (h : HP) (hs : SH h) : X (35, 0, [.ref 10, .int a1, .int a2, w3], [], h) = if (a2 &&& 2) = 0 then (X (35, 31, [.ref 10, .int a1, .int a2, .int 0], [], h)) else (bI (X (36, 0, [.ref 10, .int (hI h 6 0), .int ((hI h 6 0) + 1), .null, .null], [], h)) (fun r1 h1 => X (35, 31, [.ref 10, .int a1, .int a2, .int (0 + r1)], [], h1))) :=
  (r35_0 10 a1 a2 w3 h).trans (ite_c rfl (rd_c (hs.k 10 rfl) (hs.r 6 rfl) (gd_c (hs.k 6 rfl) (rd_c (hs.k 10 rfl) (hs.r 6 rfl) (gd_c (hs.k 6 rfl) (gd_c (hs.k 10 rfl) rfl))))))
set_option maxRecDepth 10000 in
theorem g35_31 (a1 : Int32) (a2 : Int32) (a3 : Int32) (h : HP) (hs : SH h) : X (35, 31, [.ref 10, .int a1, .int a2, .int a3], [], h) = if (a2 &&& 4) = 0 then (some (some (.int a3), h)) else (bI (X (36, 0, [.ref 10, .int (a1 - 1), .int a1, .null, .null], [], h)) (fun r1 h1 => some (some (.int (a3 + r1)), h1))) :=
  (r35_31 10 a1 a2 a3 h).trans (ite_c rfl (gd_c (hs.k 10 rfl) rfl))
/-! 36 X1_join -/
set_option maxRecDepth 10000 in
theorem g36_0 (a1 : Int32) (a2 : Int32) (w3 : Value) (w4 : Value) (h : HP) (hs : SH h) : X (36, 0, [.ref 10, .int a1, .int a2, w3, w4], [], h) = bI (X (25, 0, [.ref 10, .int a1], [], h)) (fun r1 h1 => bI (X (25, 0, [.ref 10, .int a2], [], h1)) (fun r2 h2 => bV (X (28, 0, [.ref 10, .int a1], [], h2)) (fun h3 => bV (X (28, 0, [.ref 10, .int a2], [], h3)) (fun h4 => if r1 = a2 then (some (some (.int 1), h4)) else (bV (X (27, 0, [.ref 10, .int r1, .int r2], [], h4)) (fun h5 => some (some (.int 0), h5))))))) :=
  (r36_0 10 a1 a2 w3 w4 h).trans (gd_c (hs.k 10 rfl) (bI_c hs rfl rfl rfl (fun r1 h1 hs1 => (gd_c (hs1.k 10 rfl) (bI_c hs1 rfl rfl rfl (fun r2 h2 hs2 => (gd_c (hs2.k 10 rfl) (bV_c hs2 rfl rfl rfl (fun h3 hs3 => (gd_c (hs3.k 10 rfl) (bV_c hs3 rfl rfl rfl (fun h4 hs4 => (ite_c rfl (gd_c (hs4.k 10 rfl) rfl))))))))))))))
/-! 37 X1_swap -/
set_option maxRecDepth 10000 in
theorem g37_0 (a1 : Int32) (a2 : Int32) (w3 : Value) (w4 : Value) (h : HP) (hs : SH h) : X (37, 0, [.ref 10, .int a1, .int a2, w3, w4], [], h) = bI (X (25, 0, [.ref 10, .int a1], [], h)) (fun r1 h1 => bI (X (25, 0, [.ref 10, .int a2], [], h1)) (fun r2 h2 => if r1 = a2 then (some (none, h2)) else (bV (X (38, 0, [.ref 10, .int r1, .int a2], [], h2)) (fun h3 => bV (X (38, 0, [.ref 10, .int r2, .int a1], [], h3)) (fun h4 => some (none, h4)))))) :=
  (r37_0 10 a1 a2 w3 w4 h).trans (gd_c (hs.k 10 rfl) (bI_c hs rfl rfl rfl (fun r1 h1 hs1 => (gd_c (hs1.k 10 rfl) (bI_c hs1 rfl rfl rfl (fun r2 h2 hs2 => (ite_c rfl (gd_c (hs2.k 10 rfl) (bV_c hs2 rfl rfl rfl (fun h3 hs3 => (gd_c (hs3.k 10 rfl) rfl)))))))))))
/-! 38 X1_moveEnd -/
set_option maxRecDepth 10000 in
theorem g38_0 (a1 : Int32) (a2 : Int32) (h : HP) (hs : SH h) : X (38, 0, [.ref 10, .int a1, .int a2], [], h) = if a1 = ((-1)) then (bV (X (28, 0, [.ref 10, .int a2], [], h)) (fun h1 => some (none, h1))) else (bV (X (27, 0, [.ref 10, .int a1, .int a2], [], h)) (fun h2 => some (none, h2))) :=
  (r38_0 10 a1 a2 h).trans (ite_c (gd_c (hs.k 10 rfl) rfl) (gd_c (hs.k 10 rfl) rfl))
/-! 40 X2_build -/
set_option maxRecDepth 10000 in
theorem g40_0 (w1 : Value) (w2 : Value) (w3 : Value) (h : HP) (hs : SH h) : X (40, 0, [.ref 16, w1, w2, w3], [], h) = if (hI h 16 8) = (hI h 6 0) then (if (hI h 16 9) = (hI h 6 1) then (if (hI h 16 10) = (hI h 6 2) then (some (none, h)) else (X (40, 43, [.ref 16, w1, w2, w3], [], h))) else (X (40, 43, [.ref 16, w1, w2, w3], [], h))) else (X (40, 43, [.ref 16, w1, w2, w3], [], h)) :=
  (r40_0 16 w1 w2 w3 h).trans (gd_c (hs.k 16 rfl) (rd_c (hs.k 16 rfl) (hs.r 15 rfl) (gd_c (hs.k 6 rfl) (ite_c (gd_c (hs.k 16 rfl) (rd_c (hs.k 16 rfl) (hs.r 15 rfl) (gd_c (hs.k 6 rfl) (ite_c (gd_c (hs.k 16 rfl) (rd_c (hs.k 16 rfl) (hs.r 15 rfl) (gd_c (hs.k 6 rfl) rfl))) rfl)))) rfl))))
set_option maxRecDepth 10000 in
theorem g40_43 (w1 : Value) (w2 : Value) (w3 : Value) (h : HP) (hs : SH h) : X (40, 43, [.ref 16, w1, w2, w3], [], h) = if (hI (sI (sI h 16 8 (hI h 6 0)) 16 9 (hI (sI h 16 8 (hI h 6 0)) 6 1)) 6 2) = 0 ∨ (hI (sI (sI h 16 8 (hI h 6 0)) 16 9 (hI (sI h 16 8 (hI h 6 0)) 6 1)) 6 2) = 1 then ((hR (sI (sI (sI (sI h 16 8 (hI h 6 0)) 16 9 (hI (sI h 16 8 (hI h 6 0)) 6 1)) 16 10 (hI (sI (sI h 16 8 (hI h 6 0)) 16 9 (hI (sI h 16 8 (hI h 6 0)) 6 1)) 6 2)) 16 7 0) 16 4).bind (fun q4 => bV (X (41, 0, [.ref q4, .null], [], sI (sI (sI (sI h 16 8 (hI h 6 0)) 16 9 (hI (sI h 16 8 (hI h 6 0)) 6 1)) 16 10 (hI (sI (sI h 16 8 (hI h 6 0)) 16 9 (hI (sI h 16 8 (hI h 6 0)) 6 1)) 6 2)) 16 7 0)) (fun h1 => (hR h1 16 4).bind (fun q5 => if hK h1 q5 = 12 ∧ inB 0 (hN h1 q5) = true then (bI (X (6, 0, [.ref 6], [], sI h1 q5 (0 : Int32).toNatClampNeg (1 &&& 1))) (fun r1 h2 => X (40, 110, [.ref 16, .int (if 20 < r1 then 20 else r1), .int 0, w3], [], h2))) else none)))) else none :=
  (r40_43 16 w1 w2 w3 h).trans (rd_c (hs.k 16 rfl) (hs.r 15 rfl) (gd_c (hs.k 6 rfl) (gd_c (hs.k 16 rfl) (rd_c ((hs.sIs 16 rfl).k 16 rfl) ((hs.sIs 16 rfl).r 15 rfl) (gd_c ((hs.sIs 16 rfl).k 6 rfl) (gd_c ((hs.sIs 16 rfl).k 16 rfl) (rd_c (((hs.sIs 16 rfl).sIs 16 rfl).k 16 rfl) (((hs.sIs 16 rfl).sIs 16 rfl).r 15 rfl) (gd_c (((hs.sIs 16 rfl).sIs 16 rfl).k 6 rfl) (gd_c (((hs.sIs 16 rfl).sIs 16 rfl).k 16 rfl) (ite_c (gd_c ((((hs.sIs 16 rfl).sIs 16 rfl).sIs 16 rfl).k 16 rfl) (rdd_c (((((hs.sIs 16 rfl).sIs 16 rfl).sIs 16 rfl).sIs 16 rfl).k 16 rfl) (fun q4 => (bV_c ((((hs.sIs 16 rfl).sIs 16 rfl).sIs 16 rfl).sIs 16 rfl) rfl rfl rfl (fun h1 hs1 => (rdd_c (hs1.k 16 rfl) (fun q5 => (iteh_c (fun c1 => (rd_c ((hs1.sId (by rw [c1.1]; decide)).k 16 rfl) ((hs1.sId (by rw [c1.1]; decide)).r 15 rfl) (gd_c ((hs1.sId (by rw [c1.1]; decide)).k 6 rfl) rfl))) rfl)))))))) rfl))))))))))
set_option maxRecDepth 10000 in
theorem g40_110 (a1 : Int32) (a2 : Int32) (w3 : Value) (h : HP) (hs : SH h) : X (40, 110, [.ref 16, .int a1, .int a2, w3], [], h) = if a1 ≤ a2 then (some (none, h)) else ((hR h 16 5).bind (fun q1 => bV (X (41, 0, [.ref q1, .null], [], h)) (fun h1 => X (40, 124, [.ref 16, .int a1, .int a2, .int 0], [], h1)))) :=
  (r40_110 16 a1 a2 w3 h).trans (ite_c rfl (rdd_c (hs.k 16 rfl) (fun q1 => rfl)))
set_option maxRecDepth 10000 in
theorem g40_124 (a1 : Int32) (a2 : Int32) (a3 : Int32) (h : HP) (hs : SH h) : X (40, 124, [.ref 16, .int a1, .int a2, .int a3], [], h) = if 76 ≤ a3 then (if inB (a2 + 1) 21 = true then ((hR (sI h 17 (a2 + 1).toNatClampNeg (hI h 16 7)) 16 4).bind (fun q2 => (hR (sI h 17 (a2 + 1).toNatClampNeg (hI h 16 7)) 16 5).bind (fun q3 => X (40, 110, [.ref 16, .int a1, .int (a2 + 1), .ref q2], [], sR (sR (sI h 17 (a2 + 1).toNatClampNeg (hI h 16 7)) 16 4 (some q3)) 16 5 (some q2))))) else none) else ((hR h 16 4).bind (fun q4 => if hK h q4 = 12 ∧ inB a3 (hN h q4) = true then (if (hI h q4 a3.toNatClampNeg) = 0 then (X (40, 145, [.ref 16, .int a1, .int a2, .int a3], [], h)) else (bV (X (42, 0, [.ref 16, .int a2, .int a3, .null, .null, .null, .null], [], h)) (fun h1 => X (40, 145, [.ref 16, .int a1, .int a2, .int a3], [], h1)))) else none)) :=
  (r40_124 16 a1 a2 a3 h).trans (ite_c (rd_c (hs.k 16 rfl) (hs.r 17 rfl) (gd_c (hs.k 16 rfl) (as_c (hs.k 17 rfl) (hs.n 17 rfl) (rdd_c ((hs.sIs 17 rfl).k 16 rfl) (fun q2 => (rdd_c ((hs.sIs 17 rfl).k 16 rfl) (fun q3 => (gd_c ((hs.sIs 17 rfl).k 16 rfl) (gd_c (((hs.sIs 17 rfl).sRs 16 4 rfl).k 16 rfl) rfl))))))))) (rdd_c (hs.k 16 rfl) (fun q4 => (iteh_c (fun c1 => (ite_c rfl (gd_c (hs.k 16 rfl) rfl))) rfl))))
set_option maxRecDepth 10000 in
theorem g40_145 (a1 : Int32) (a2 : Int32) (a3 : Int32) (h : HP) (hs : SH h) : X (40, 145, [.ref 16, .int a1, .int a2, .int a3], [], h) = X (40, 124, [.ref 16, .int a1, .int a2, .int (a3 + 1)], [], h) :=
  (r40_145 16 a1 a2 a3 h).trans rfl
/-! 41 X2_unreach -/
set_option maxRecDepth 10000 in
theorem g41_0 (a0 : Nat) (w1 : Value) (h : HP) (hs : SH h) : X (41, 0, [.ref a0, w1], [], h) = X (41, 2, [.ref a0, .int 0], [], h) :=
  (r41_0 a0 w1 h).trans rfl
set_option maxRecDepth 10000 in
theorem g41_2 (a0 : Nat) (a1 : Int32) (h : HP) (hs : SH h) : X (41, 2, [.ref a0, .int a1], [], h) = if hK h a0 = 10 ∨ hK h a0 = 11 ∨ hK h a0 = 12 ∨ hK h a0 = 13 then (if (nI (hN h a0)) ≤ a1 then (some (none, h)) else (if hK h a0 = 12 ∧ inB a1 (hN h a0) = true then (X (41, 2, [.ref a0, .int (a1 + 1)], [], sI h a0 a1.toNatClampNeg (0 &&& 1))) else none)) else none :=
  (r41_2 a0 a1 h).trans rfl
/-! 42 X2_addMoves -/
set_option maxRecDepth 10000 in
theorem g42_0 (a1 : Int32) (a2 : Int32) (w3 : Value) (w4 : Value) (w5 : Value) (w6 : Value) (h : HP) (hs : SH h) : X (42, 0, [.ref 16, .int a1, .int a2, w3, w4, w5, w6], [], h) = if inB a2 76 = true then (bV (X (23, 0, [.ref 10, .int (hI h 18 a2.toNatClampNeg), .null], [], h)) (fun h1 => bI (X (31, 0, [.ref 10, .int a1], [], h1)) (fun r1 h2 => bI (X (32, 0, [.ref 10, .int a1, .null, .null, .null], [], h2)) (fun r2 h3 => X (42, 35, [.ref 16, .int a1, .int a2, .int r1, .int r2, .int 0, w6], [], h3))))) else none :=
  (r42_0 16 a1 a2 w3 w4 w5 w6 h).trans (rd_c (hs.k 16 rfl) (hs.r 16 rfl) (rd_c (hs.k 16 rfl) (hs.r 18 rfl) (al_c (Or.inl (hs.k 18 rfl)) (hs.n 18 rfl) (gd_c (hs.k 10 rfl) (bV_c hs rfl rfl rfl (fun h1 hs1 => (rd_c (hs1.k 16 rfl) (hs1.r 16 rfl) (gd_c (hs1.k 10 rfl) (bI_c hs1 rfl rfl rfl (fun r1 h2 hs2 => (rd_c (hs2.k 16 rfl) (hs2.r 16 rfl) (gd_c (hs2.k 10 rfl) rfl))))))))))))
set_option maxRecDepth 10000 in
theorem g42_35 (a1 : Int32) (a2 : Int32) (a3 : Int32) (a4 : Int32) (a5 : Int32) (w6 : Value) (h : HP) (hs : SH h) : X (42, 35, [.ref 16, .int a1, .int a2, .int a3, .int a4, .int a5, w6], [], h) = if 10 ≤ a5 then (some (none, h)) else (if inB a5 10 = true then (if ((hI h 0 a5.toNatClampNeg) &&& a3) = a4 then (if inB a2 76 = true then (bV (X (23, 0, [.ref 10, .int (hI h 18 a2.toNatClampNeg), .null], [], h)) (fun h1 => bI (X (33, 0, [.ref 10, .int a1, .int a5, .null, .null, .null, .null], [], h1)) (fun r1 h2 => bI (X (24, 0, [.ref 10, .null, .null, .null, .null, .null, .null], [], h2)) (fun r2 h3 => bV (X (43, 0, [.ref 16, .int ((a2 ||| (a5 <<< (14 &&& 31))) ||| (r1 <<< (18 &&& 31))), .int r2], [], h3)) (fun h4 => X (42, 104, [.ref 16, .int a1, .int a2, .int a3, .int a4, .int a5, .int r1], [], h4)))))) else none) else (X (42, 104, [.ref 16, .int a1, .int a2, .int a3, .int a4, .int a5, w6], [], h))) else none) :=
  (r42_35 16 a1 a2 a3 a4 a5 w6 h).trans (ite_c rfl (al_c (Or.inr (hs.k 0 rfl)) (hs.n 0 rfl) (ite_c (rd_c (hs.k 16 rfl) (hs.r 16 rfl) (rd_c (hs.k 16 rfl) (hs.r 18 rfl) (al_c (Or.inl (hs.k 18 rfl)) (hs.n 18 rfl) (gd_c (hs.k 10 rfl) (bV_c hs rfl rfl rfl (fun h1 hs1 => (rd_c (hs1.k 16 rfl) (hs1.r 16 rfl) (gd_c (hs1.k 10 rfl) (bI_c hs1 rfl rfl rfl (fun r1 h2 hs2 => (rd_c (hs2.k 16 rfl) (hs2.r 16 rfl) (gd_c (hs2.k 10 rfl) (bI_c hs2 rfl rfl rfl (fun r2 h3 hs3 => (gd_c (hs3.k 16 rfl) rfl))))))))))))))) rfl)))
set_option maxRecDepth 10000 in
theorem g42_104 (a1 : Int32) (a2 : Int32) (a3 : Int32) (a4 : Int32) (a5 : Int32) (w6 : Value) (h : HP) (hs : SH h) : X (42, 104, [.ref 16, .int a1, .int a2, .int a3, .int a4, .int a5, w6], [], h) = X (42, 35, [.ref 16, .int a1, .int a2, .int a3, .int a4, .int (a5 + 1), w6], [], h) :=
  (r42_104 16 a1 a2 a3 a4 a5 w6 h).trans rfl
/-! 43 X2_addMove -/
set_option maxRecDepth 10000 in
theorem g43_0 (a1 : Int32) (a2 : Int32) (h : HP) (hs : SH h) : X (43, 0, [.ref 16, .int a1, .int a2], [], h) = if a2 < 0 then (some (none, h)) else (if a2 < 76 then (bI (X (22, 0, [.ref 10, .null, .null], [], h)) (fun r1 h1 => if inB a2 76 = true then ((hR (sI h1 18 a2.toNatClampNeg r1) 16 5).bind (fun q3 => if hK (sI h1 18 a2.toNatClampNeg r1) q3 = 12 ∧ inB a2 (hN (sI h1 18 a2.toNatClampNeg r1) q3) = true then (bV (X (44, 0, [.ref 16, .null], [], sI (sI h1 18 a2.toNatClampNeg r1) q3 a2.toNatClampNeg (1 &&& 1))) (fun h2 => (hR h2 16 6).bind (fun q4 => if hK h2 q4 = 10 ∧ inB (hI h2 16 7) (hN h2 q4) = true then (some (none, sI (sI h2 q4 (hI h2 16 7).toNatClampNeg (a1 ||| (a2 <<< (7 &&& 31)))) 16 7 ((hI (sI h2 q4 (hI h2 16 7).toNatClampNeg (a1 ||| (a2 <<< (7 &&& 31)))) 16 7) + 1))) else none))) else none)) else none)) else (some (none, h))) :=
  (r43_0 16 a1 a2 h).trans (ite_c rfl (ite_c (rd_c (hs.k 16 rfl) (hs.r 18 rfl) (rd_c (hs.k 16 rfl) (hs.r 16 rfl) (gd_c (hs.k 10 rfl) (bI_c hs rfl rfl rfl (fun r1 h1 hs1 => (as_c (hs1.k 18 rfl) (hs1.n 18 rfl) (rdd_c ((hs1.sIs 18 rfl).k 16 rfl) (fun q3 => (iteh_c (fun c1 => (gd_c (((hs1.sIs 18 rfl).sId (by rw [c1.1]; decide)).k 16 rfl) (bV_c ((hs1.sIs 18 rfl).sId (by rw [c1.1]; decide)) rfl rfl rfl (fun h2 hs2 => (rdd_c (hs2.k 16 rfl) (fun q4 => (gd_c (hs2.k 16 rfl) (iteh_c (fun c2 => (gd_c ((hs2.sId (by rw [c2.1]; decide)).k 16 rfl) (gd_c ((hs2.sId (by rw [c2.1]; decide)).k 16 rfl) rfl))) rfl)))))))) rfl))))))))) rfl))
/-! 44 X2_makeRoom -/
set_option maxRecDepth 10000 in
theorem g44_0 (w1 : Value) (h : HP) (hs : SH h) : X (44, 0, [.ref 16, w1], [], h) = (hR h 16 6).bind (fun q1 => if hK h q1 = 10 ∨ hK h q1 = 11 ∨ hK h q1 = 12 ∨ hK h q1 = 13 then (if (nI (hN h q1)) ≤ (hI h 16 7) then (if ¬ ((2 * (hI h 16 7)) + 1) < 0 ∧ ((2 * (hI h 16 7)) + 1).toNatClampNeg ≤ 67108864 then ((hR (nw h 10 ((2 * (hI h 16 7)) + 1).toNatClampNeg ((2 * (hI h 16 7)) + 1).toNatClampNeg) 16 6).bind (fun q2 => if (hK (nw h 10 ((2 * (hI h 16 7)) + 1).toNatClampNeg ((2 * (hI h 16 7)) + 1).toNatClampNeg) q2 = 10 ∧ hK (nw h 10 ((2 * (hI h 16 7)) + 1).toNatClampNeg ((2 * (hI h 16 7)) + 1).toNatClampNeg) (hZ h) = 10 ∧ ¬ (0 : Int32) < 0 ∧ ¬ (0 : Int32) < 0 ∧ ¬ (hI (nw h 10 ((2 * (hI h 16 7)) + 1).toNatClampNeg ((2 * (hI h 16 7)) + 1).toNatClampNeg) 16 7) < 0) ∧ (0 : Int32).toNatClampNeg + (hI (nw h 10 ((2 * (hI h 16 7)) + 1).toNatClampNeg ((2 * (hI h 16 7)) + 1).toNatClampNeg) 16 7).toNatClampNeg ≤ hN (nw h 10 ((2 * (hI h 16 7)) + 1).toNatClampNeg ((2 * (hI h 16 7)) + 1).toNatClampNeg) q2 ∧ (0 : Int32).toNatClampNeg + (hI (nw h 10 ((2 * (hI h 16 7)) + 1).toNatClampNeg ((2 * (hI h 16 7)) + 1).toNatClampNeg) 16 7).toNatClampNeg ≤ hN (nw h 10 ((2 * (hI h 16 7)) + 1).toNatClampNeg ((2 * (hI h 16 7)) + 1).toNatClampNeg) (hZ h) ∧ rmB [] = true then (some (none, sR (sA (nw h 10 ((2 * (hI h 16 7)) + 1).toNatClampNeg ((2 * (hI h 16 7)) + 1).toNatClampNeg) (hZ h) (va_cpy (hI (nw h 10 ((2 * (hI h 16 7)) + 1).toNatClampNeg ((2 * (hI h 16 7)) + 1).toNatClampNeg) q2) (hI (nw h 10 ((2 * (hI h 16 7)) + 1).toNatClampNeg ((2 * (hI h 16 7)) + 1).toNatClampNeg) (hZ h)) (0 : Int32).toNatClampNeg (0 : Int32).toNatClampNeg (hI (nw h 10 ((2 * (hI h 16 7)) + 1).toNatClampNeg ((2 * (hI h 16 7)) + 1).toNatClampNeg) 16 7).toNatClampNeg)) 16 6 (some (hZ h)))) else none)) else none) else (some (none, h))) else none) :=
  (r44_0 16 w1 h).trans (gd_c (hs.k 16 rfl) (rdd_c (hs.k 16 rfl) (fun q1 => (iteh_c (fun _ => (ite_c (gd_c (hs.k 16 rfl) (iteh_c (fun _ => (rdd_c ((hs.nw).k 16 rfl) (fun q2 => (gd_c ((hs.nw).k 16 rfl) (iteh_c (fun c1 => (gd_c (((hs.nw).sAd (by rw [c1.1.2.1]; decide)).k 16 rfl) rfl)) rfl))))) rfl)) rfl)) rfl))))
/-! 45 X2_start -/
set_option maxRecDepth 10000 in
theorem g45_0 (a1 : Int32) (h : HP) (hs : SH h) : X (45, 0, [.ref 16, .int a1], [], h) = if a1 < 0 then (some (some (.int (hI h 16 7)), h)) else (if a1 ≤ 20 then (if inB a1 21 = true then (some (some (.int (hI h 17 a1.toNatClampNeg)), h)) else none) else (some (some (.int (hI h 16 7)), h))) :=
  (r45_0 16 a1 h).trans (ite_c (gd_c (hs.k 16 rfl) rfl) (ite_c (rd_c (hs.k 16 rfl) (hs.r 17 rfl) (al_c (Or.inl (hs.k 17 rfl)) (hs.n 17 rfl) rfl)) (gd_c (hs.k 16 rfl) rfl)))
/-! 46 X2_move -/
set_option maxRecDepth 10000 in
theorem g46_0 (a1 : Int32) (h : HP) (hs : SH h) : X (46, 0, [.ref 16, .int a1], [], h) = if a1 < 0 then (some (some (.int 0), h)) else ((hR h 16 6).bind (fun q1 => if hK h q1 = 10 ∨ hK h q1 = 11 ∨ hK h q1 = 12 ∨ hK h q1 = 13 then (if a1 < (nI (hN h q1)) then ((hR h 16 6).bind (fun q2 => if (hK h q2 = 10 ∨ hK h q2 = 13) ∧ inB a1 (hN h q2) = true then (some (some (.int (hI h q2 a1.toNatClampNeg)), h)) else none)) else (some (some (.int 0), h))) else none)) :=
  (r46_0 16 a1 h).trans (ite_c rfl (rdd_c (hs.k 16 rfl) (fun q1 => (iteh_c (fun _ => (ite_c (rdd_c (hs.k 16 rfl) (fun q2 => rfl)) rfl)) rfl))))
/-! 47 X2_from -/
set_option maxRecDepth 10000 in
theorem g47_0 (a1 : Int32) (h : HP) (hs : SH h) : X (47, 0, [.ref 16, .int a1], [], h) = bI (X (46, 0, [.ref 16, .int a1], [], h)) (fun r1 h1 => some (some (.int (r1 &&& 127)), h1)) :=
  (r47_0 16 a1 h).trans (gd_c (hs.k 16 rfl) rfl)
/-! 48 X2_to -/
set_option maxRecDepth 10000 in
theorem g48_0 (a1 : Int32) (h : HP) (hs : SH h) : X (48, 0, [.ref 16, .int a1], [], h) = bI (X (46, 0, [.ref 16, .int a1], [], h)) (fun r1 h1 => some (some (.int ((r1 >>> (7 &&& 31)) &&& 127)), h1)) :=
  (r48_0 16 a1 h).trans (gd_c (hs.k 16 rfl) rfl)
/-! 49 X2_tileOf -/
set_option maxRecDepth 10000 in
theorem g49_0 (a1 : Int32) (h : HP) (hs : SH h) : X (49, 0, [.ref 16, .int a1], [], h) = bI (X (46, 0, [.ref 16, .int a1], [], h)) (fun r1 h1 => some (some (.int ((r1 >>> (14 &&& 31)) &&& 15)), h1)) :=
  (r49_0 16 a1 h).trans (gd_c (hs.k 16 rfl) rfl)
/-! 50 X2_closes -/
set_option maxRecDepth 10000 in
theorem g50_0 (a1 : Int32) (h : HP) (hs : SH h) : X (50, 0, [.ref 16, .int a1], [], h) = bI (X (46, 0, [.ref 16, .int a1], [], h)) (fun r1 h1 => some (some (.int (r1 >>> (18 &&& 31))), h1)) :=
  (r50_0 16 a1 h).trans (gd_c (hs.k 16 rfl) rfl)
/-! 52 X3_blank -/
set_option maxRecDepth 10000 in
theorem g52_0 (w1 : Value) (h : HP) (hs : SH h) : X (52, 0, [.ref 12, w1], [], h) = X (52, 2, [.ref 12, .int 0], [], h) :=
  (r52_0 12 w1 h).trans rfl
set_option maxRecDepth 10000 in
theorem g52_2 (a1 : Int32) (h : HP) (hs : SH h) : X (52, 2, [.ref 12, .int a1], [], h) = if 20 ≤ a1 then (some (none, h)) else (if inB a1 20 = true then (X (52, 2, [.ref 12, .int (a1 + 1)], [], sI h 13 a1.toNatClampNeg 0)) else none) :=
  (r52_2 12 a1 h).trans (ite_c rfl (rd_c (hs.k 12 rfl) (hs.r 10 rfl) (as_c (hs.k 13 rfl) (hs.n 13 rfl) rfl)))
/-! 53 X3_at -/
set_option maxRecDepth 10000 in
theorem g53_0 (a1 : Int32) (h : HP) (hs : SH h) : X (53, 0, [.ref 12, .int a1], [], h) = bI (X (7, 0, [.ref 6, .int a1], [], h)) (fun r1 h1 => if r1 = 0 then (some (some (.int ((-1))), h1)) else (if inB a1 20 = true then (some (some (.int (hI h1 13 a1.toNatClampNeg)), h1)) else none)) :=
  (r53_0 12 a1 h).trans (rd_c (hs.k 12 rfl) (hs.r 8 rfl) (gd_c (hs.k 6 rfl) (bI_c hs rfl rfl rfl (fun r1 h1 hs1 => (ite_c rfl (rd_c (hs1.k 12 rfl) (hs1.r 10 rfl) (al_c (Or.inl (hs1.k 13 rfl)) (hs1.n 13 rfl) rfl)))))))
/-! 54 X3_lay -/
set_option maxRecDepth 10000 in
theorem g54_0 (a1 : Int32) (a2 : Int32) (h : HP) (hs : SH h) : X (54, 0, [.ref 12, .int a1, .int a2], [], h) = bI (X (7, 0, [.ref 6, .int a1], [], h)) (fun r1 h1 => if r1 = 0 then (some (none, h1)) else (bI (X (103, 0, [.int a2], [], h1)) (fun r2 h2 => if r2 = 0 then (some (none, h2)) else (if inB a1 20 = true then (some (none, sI h2 13 a1.toNatClampNeg a2)) else none)))) :=
  (r54_0 12 a1 a2 h).trans (rd_c (hs.k 12 rfl) (hs.r 8 rfl) (gd_c (hs.k 6 rfl) (bI_c hs rfl rfl rfl (fun r1 h1 hs1 => (ite_c rfl (bI_c hs1 rfl rfl rfl (fun r2 h2 hs2 => (ite_c rfl (rd_c (hs2.k 12 rfl) (hs2.r 10 rfl) (as_c (hs2.k 13 rfl) (hs2.n 13 rfl) rfl))))))))))
/-! 55 X3_firstMisfit -/
set_option maxRecDepth 10000 in
theorem g55_0 (w1 : Value) (w2 : Value) (w3 : Value) (h : HP) (hs : SH h) : X (55, 0, [.ref 12, w1, w2, w3], [], h) = bI (X (6, 0, [.ref 6], [], h)) (fun r1 h1 => bV (X (21, 0, [.ref 10], [], h1)) (fun h2 => X (55, 22, [.ref 12, .int r1, .int 0, w3], [], sI h2 12 4 0))) :=
  (r55_0 12 w1 w2 w3 h).trans (rd_c (hs.k 12 rfl) (hs.r 8 rfl) (gd_c (hs.k 6 rfl) (bI_c hs rfl rfl rfl (fun r1 h1 hs1 => (rd_c (hs1.k 12 rfl) (hs1.r 9 rfl) (gd_c (hs1.k 10 rfl) (bV_c hs1 rfl rfl rfl (fun h2 hs2 => (gd_c (hs2.k 12 rfl) rfl)))))))))
set_option maxRecDepth 10000 in
theorem g55_22 (a1 : Int32) (a2 : Int32) (w3 : Value) (h : HP) (hs : SH h) : X (55, 22, [.ref 12, .int a1, .int a2, w3], [], h) = if a1 ≤ a2 then (some (some (.int a1), h)) else (bI (X (53, 0, [.ref 12, .int a2], [], h)) (fun r1 h1 => bI (X (16, 0, [.ref 6, .int a2, .int r1], [], h1)) (fun r2 h2 => if r2 = 0 then (some (some (.int a2), h2)) else (bI (X (30, 0, [.ref 10, .int a2, .int r1], [], h2)) (fun r3 h3 => if r3 = 0 then (some (some (.int a2), h3)) else (bI (X (33, 0, [.ref 10, .int a2, .int r1, .null, .null, .null, .null], [], h3)) (fun r4 h4 => X (55, 22, [.ref 12, .int a1, .int (a2 + 1), .int r1], [], sI h4 12 4 ((hI h3 12 4) + r4))))))))) :=
  (r55_22 12 a1 a2 w3 h).trans (ite_c rfl (gd_c (hs.k 12 rfl) (bI_c hs rfl rfl rfl (fun r1 h1 hs1 => (rd_c (hs1.k 12 rfl) (hs1.r 8 rfl) (gd_c (hs1.k 6 rfl) (bI_c hs1 rfl rfl rfl (fun r2 h2 hs2 => (ite_c rfl (rd_c (hs2.k 12 rfl) (hs2.r 9 rfl) (gd_c (hs2.k 10 rfl) (bI_c hs2 rfl rfl rfl (fun r3 h3 hs3 => (ite_c rfl (gd_c (hs3.k 12 rfl) (rd_c (hs3.k 12 rfl) (hs3.r 9 rfl) (gd_c (hs3.k 10 rfl) (bI_c hs3 rfl rfl rfl (fun r4 h4 hs4 => (gd_c (hs4.k 12 rfl) rfl))))))))))))))))))))
/-! 56 X3_isFilling -/
set_option maxRecDepth 10000 in
theorem g56_0 (h : HP) (hs : SH h) : X (56, 0, [.ref 12], [], h) = bI (X (55, 0, [.ref 12, .null, .null, .null], [], h)) (fun r1 h1 => bI (X (6, 0, [.ref 6], [], h1)) (fun r2 h2 => if r1 = r2 then (some (some (.int 1), h2)) else (some (some (.int 0), h2)))) :=
  (r56_0 12 h).trans (gd_c (hs.k 12 rfl) (bI_c hs rfl rfl rfl (fun r1 h1 hs1 => (rd_c (hs1.k 12 rfl) (hs1.r 8 rfl) (gd_c (hs1.k 6 rfl) rfl)))))
/-! 57 X3_closedLoops -/
set_option maxRecDepth 10000 in
theorem g57_0 (h : HP) (hs : SH h) : X (57, 0, [.ref 12], [], h) = some (some (.int (hI h 12 4)), h) :=
  (r57_0 12 h).trans (gd_c (hs.k 12 rfl) rfl)
/-! 58 X3_pieceAt -/
set_option maxRecDepth 10000 in
theorem g58_0 (a1 : Int32) (a2 : Int32) (w3 : Value) (h : HP) (hs : SH h) : X (58, 0, [.ref 12, .int a1, .int a2, w3], [], h) = bI (X (53, 0, [.ref 12, .int a1], [], h)) (fun r1 h1 => if a2 < 0 then (some (some (.int ((-1))), h1)) else (if 1 < a2 then (some (some (.int ((-1))), h1)) else (bI (X (103, 0, [.int r1], [], h1)) (fun r2 h2 => if r2 = 0 then (some (some (.int ((-1))), h2)) else (if inB ((2 * r1) + a2) 20 = true then (if (hI h2 2 ((2 * r1) + a2).toNatClampNeg) = ((-1)) then (some (some (.int ((-1))), h2)) else (some (some (.int ((2 * a1) + a2)), h2))) else none))))) :=
  (r58_0 12 a1 a2 w3 h).trans (gd_c (hs.k 12 rfl) (bI_c hs rfl rfl rfl (fun r1 h1 hs1 => (ite_c rfl (ite_c rfl (bI_c hs1 rfl rfl rfl (fun r2 h2 hs2 => (ite_c rfl (al_c (Or.inr (hs2.k 2 rfl)) (hs2.n 2 rfl) rfl)))))))))
/-! 59 X3_forgetMet -/
set_option maxRecDepth 10000 in
theorem g59_0 (w1 : Value) (h : HP) (hs : SH h) : X (59, 0, [.ref 12, w1], [], h) = X (59, 2, [.ref 12, .int 0], [], h) :=
  (r59_0 12 w1 h).trans rfl
set_option maxRecDepth 10000 in
theorem g59_2 (a1 : Int32) (h : HP) (hs : SH h) : X (59, 2, [.ref 12, .int a1], [], h) = if 40 ≤ a1 then (some (none, h)) else (if inB a1 40 = true then (X (59, 2, [.ref 12, .int (a1 + 1)], [], sI h 14 a1.toNatClampNeg (0 &&& 1))) else none) :=
  (r59_2 12 a1 h).trans (ite_c rfl (rd_c (hs.k 12 rfl) (hs.r 11 rfl) (as_c (hs.k 14 rfl) (hs.n 14 rfl) rfl)))
/-! 60 X3_hasMet -/
set_option maxRecDepth 10000 in
theorem g60_0 (a1 : Int32) (h : HP) (hs : SH h) : X (60, 0, [.ref 12, .int a1], [], h) = if a1 < 0 then (some (some (.int 0), h)) else (if 40 ≤ a1 then (some (some (.int 0), h)) else (if inB a1 40 = true then (if (hI h 14 a1.toNatClampNeg) = 0 then (some (some (.int 0), h)) else (some (some (.int 1), h))) else none)) :=
  (r60_0 12 a1 h).trans (ite_c rfl (ite_c rfl (rd_c (hs.k 12 rfl) (hs.r 11 rfl) (as_c (hs.k 14 rfl) (hs.n 14 rfl) rfl))))
/-! 61 X3_follow -/
set_option maxRecDepth 10000 in
theorem g61_0 (a1 : Int32) (w2 : Value) (w3 : Value) (w4 : Value) (w5 : Value) (w6 : Value) (w7 : Value) (h : HP) (hs : SH h) : X (61, 0, [.ref 12, .int a1, w2, w3, w4, w5, w6, w7], [], h) = bI (X (63, 0, [.ref 12, .int a1, .null], [], h)) (fun r1 h1 => X (61, 11, [.ref 12, .int a1, .int a1, .int 0, .int r1, w5, w6, w7], [], h1)) :=
  (r61_0 12 a1 w2 w3 w4 w5 w6 w7 h).trans (gd_c (hs.k 12 rfl) rfl)
set_option maxRecDepth 10000 in
theorem g61_11 (a1 : Int32) (a2 : Int32) (a3 : Int32) (a4 : Int32) (w5 : Value) (w6 : Value) (w7 : Value) (h : HP) (hs : SH h) : X (61, 11, [.ref 12, .int a1, .int a2, .int a3, .int a4, w5, w6, w7], [], h) = if 40 ≤ a3 then (some (some (.int a3), h)) else (if a2 < 0 then (some (some (.int a3), h)) else (if 40 ≤ a2 then (some (some (.int a3), h)) else (if inB a2 40 = true then (bI (X (17, 0, [.ref 6, .int (a2 / 2), .int a4], [], sI h 14 a2.toNatClampNeg (1 &&& 1))) (fun r1 h1 => if r1 = 0 then (bI (X (62, 0, [.int a4], [], h1)) (fun r2 h2 => bI (X (18, 0, [.ref 6, .int (a2 / 2), .int a4, .null, .null, .null, .null], [], h2)) (fun r3 h3 => bI (X (65, 0, [.ref 12, .int r3, .int r2, .null, .null], [], h3)) (fun r4 h4 => bI (X (64, 0, [.ref 12, .int r3, .int r2, .null], [], h4)) (fun r5 h5 => if r4 = a1 then (some (some (.int (a3 + 1)), h5)) else (X (61, 11, [.ref 12, .int a1, .int r4, .int (a3 + 1), .int r5, .int (a2 / 2), .int r2, .int r3], [], h5))))))) else (bI (X (18, 0, [.ref 6, .int (a2 / 2), .int a4, .null, .null, .null, .null], [], h1)) (fun r6 h6 => bI (X (65, 0, [.ref 12, .int r6, .int a4, .null, .null], [], h6)) (fun r7 h7 => bI (X (64, 0, [.ref 12, .int r6, .int a4, .null], [], h7)) (fun r8 h8 => if r7 = a1 then (some (some (.int (a3 + 1)), h8)) else (X (61, 11, [.ref 12, .int a1, .int r7, .int (a3 + 1), .int r8, .int (a2 / 2), .int a4, .int r6], [], h8)))))))) else none))) :=
  (r61_11 12 a1 a2 a3 a4 w5 w6 w7 h).trans (ite_c rfl (ite_c rfl (ite_c rfl (rd_c (hs.k 12 rfl) (hs.r 11 rfl) (as_c (hs.k 14 rfl) (hs.n 14 rfl) (rd_c ((hs.sIs 14 rfl).k 12 rfl) ((hs.sIs 14 rfl).r 8 rfl) (gd_c ((hs.sIs 14 rfl).k 6 rfl) (bI_c (hs.sIs 14 rfl) rfl rfl rfl (fun r1 h1 hs1 => (ite_c (bI_c hs1 rfl rfl rfl (fun r2 h2 hs2 => (rd_c (hs2.k 12 rfl) (hs2.r 8 rfl) (gd_c (hs2.k 6 rfl) (bI_c hs2 rfl rfl rfl (fun r3 h3 hs3 => (gd_c (hs3.k 12 rfl) (bI_c hs3 rfl rfl rfl (fun r4 h4 hs4 => (gd_c (hs4.k 12 rfl) rfl)))))))))) (rd_c (hs1.k 12 rfl) (hs1.r 8 rfl) (gd_c (hs1.k 6 rfl) (bI_c hs1 rfl rfl rfl (fun r6 h6 hs6 => (gd_c (hs6.k 12 rfl) (bI_c hs6 rfl rfl rfl (fun r7 h7 hs7 => (gd_c (hs7.k 12 rfl) rfl))))))))))))))))))
/-! 62 X3_opposite -/
set_option maxRecDepth 10000 in
theorem g62_0 (a0 : Int32) (h : HP) (hs : SH h) : X (62, 0, [.int a0], [], h) = some (some (.int (a0 ^^^ 2)), h) :=
  (r62_0 a0 h).trans rfl
/-! 63 X3_lastSide -/
set_option maxRecDepth 10000 in
theorem g63_0 (a1 : Int32) (w2 : Value) (h : HP) (hs : SH h) : X (63, 0, [.ref 12, .int a1, w2], [], h) = if 0 ≤ a1 then (bI (X (53, 0, [.ref 12, .int (a1 / 2)], [], h)) (fun r1 h1 => bI (X (103, 0, [.int r1], [], h1)) (fun r2 h2 => if r2 = 0 then (some (some (.int ((-1))), h2)) else (if inB ((2 * r1) + (a1 &&& 1)) 20 = true then (some (some (.int (hI h2 2 ((2 * r1) + (a1 &&& 1)).toNatClampNeg)), h2)) else none)))) else (bI (X (103, 0, [.int ((-1))], [], h)) (fun r3 h3 => if r3 = 0 then (some (some (.int ((-1))), h3)) else (if inB ((2 * ((-1))) + (a1 &&& 1)) 20 = true then (some (some (.int (hI h3 2 ((2 * ((-1))) + (a1 &&& 1)).toNatClampNeg)), h3)) else none))) :=
  (r63_0 12 a1 w2 h).trans (ite_c (gd_c (hs.k 12 rfl) (bI_c hs rfl rfl rfl (fun r1 h1 hs1 => (bI_c hs1 rfl rfl rfl (fun r2 h2 hs2 => (ite_c rfl (al_c (Or.inr (hs2.k 2 rfl)) (hs2.n 2 rfl) rfl))))))) (bI_c hs rfl rfl rfl (fun r3 h3 hs3 => (ite_c rfl (al_c (Or.inr (hs3.k 2 rfl)) (hs3.n 2 rfl) rfl)))))
/-! 64 X3_otherSide -/
set_option maxRecDepth 10000 in
theorem g64_0 (a1 : Int32) (a2 : Int32) (w3 : Value) (h : HP) (hs : SH h) : X (64, 0, [.ref 12, .int a1, .int a2, w3], [], h) = bI (X (53, 0, [.ref 12, .int a1], [], h)) (fun r1 h1 => bI (X (103, 0, [.int r1], [], h1)) (fun r2 h2 => if r2 = 0 then (some (some (.int ((-1))), h2)) else (if a2 < 0 then (some (some (.int ((-1))), h2)) else (if 3 < a2 then (some (some (.int ((-1))), h2)) else (if inB ((4 * r1) + a2) 40 = true then (some (some (.int (hI h2 1 ((4 * r1) + a2).toNatClampNeg)), h2)) else none))))) :=
  (r64_0 12 a1 a2 w3 h).trans (gd_c (hs.k 12 rfl) (bI_c hs rfl rfl rfl (fun r1 h1 hs1 => (bI_c hs1 rfl rfl rfl (fun r2 h2 hs2 => (ite_c rfl (ite_c rfl (ite_c rfl (al_c (Or.inr (hs2.k 1 rfl)) (hs2.n 1 rfl) rfl)))))))))
/-! 65 X3_pieceOf -/
set_option maxRecDepth 10000 in
theorem g65_0 (a1 : Int32) (a2 : Int32) (w3 : Value) (w4 : Value) (h : HP) (hs : SH h) : X (65, 0, [.ref 12, .int a1, .int a2, w3, w4], [], h) = bI (X (63, 0, [.ref 12, .int (2 * a1), .null], [], h)) (fun r1 h1 => if r1 = ((-1)) then (some (some (.int ((-1))), h1)) else (if a2 = ((-1)) then (some (some (.int ((-1))), h1)) else (if a2 = r1 then (X (65, 35, [.ref 12, .int a1, .int a2, .int r1, w4], [], h1)) else (bI (X (64, 0, [.ref 12, .int a1, .int r1, .null], [], h1)) (fun r2 h2 => if a2 = r2 then (X (65, 35, [.ref 12, .int a1, .int a2, .int r1, w4], [], h2)) else (some (some (.int ((2 * a1) + 1)), h2))))))) :=
  (r65_0 12 a1 a2 w3 w4 h).trans (gd_c (hs.k 12 rfl) (bI_c hs rfl rfl rfl (fun r1 h1 hs1 => (ite_c rfl (ite_c rfl (ite_c rfl (gd_c (hs1.k 12 rfl) (bI_c hs1 rfl rfl rfl (fun r2 h2 hs2 => (ite_c rfl (ift_c (by decide) rfl)))))))))))
set_option maxRecDepth 10000 in
theorem g65_35 (w0 : Value) (a1 : Int32) (w2 : Value) (w3 : Value) (w4 : Value) (h : HP) (hs : SH h) : X (65, 35, [w0, .int a1, w2, w3, w4], [], h) = some (some (.int (2 * a1)), h) :=
  (r65_35 w0 a1 w2 w3 w4 h).trans (iff_c (by decide) rfl)
/-! 66 X3_greatestLength -/
set_option maxRecDepth 10000 in
theorem g66_0 (w1 : Value) (w2 : Value) (w3 : Value) (w4 : Value) (w5 : Value) (h : HP) (hs : SH h) : X (66, 0, [.ref 12, w1, w2, w3, w4, w5], [], h) = bI (X (6, 0, [.ref 6], [], h)) (fun r1 h1 => bV (X (59, 0, [.ref 12, .null], [], h1)) (fun h2 => X (66, 16, [.ref 12, .int r1, .int 0, .int 0, w4, w5], [], h2))) :=
  (r66_0 12 w1 w2 w3 w4 w5 h).trans (rd_c (hs.k 12 rfl) (hs.r 8 rfl) (gd_c (hs.k 6 rfl) (bI_c hs rfl rfl rfl (fun r1 h1 hs1 => (gd_c (hs1.k 12 rfl) rfl)))))
set_option maxRecDepth 10000 in
theorem g66_16 (a1 : Int32) (a2 : Int32) (a3 : Int32) (w4 : Value) (w5 : Value) (h : HP) (hs : SH h) : X (66, 16, [.ref 12, .int a1, .int a2, .int a3, w4, w5], [], h) = if a1 ≤ a3 then (some (some (.int a2), h)) else (X (66, 24, [.ref 12, .int a1, .int a2, .int a3, .int 0, w5], [], h)) :=
  (r66_16 12 a1 a2 a3 w4 w5 h).trans rfl
set_option maxRecDepth 10000 in
theorem g66_24 (a1 : Int32) (a2 : Int32) (a3 : Int32) (a4 : Int32) (w5 : Value) (h : HP) (hs : SH h) : X (66, 24, [.ref 12, .int a1, .int a2, .int a3, .int a4, w5], [], h) = if 2 ≤ a4 then (X (66, 16, [.ref 12, .int a1, .int a2, .int (a3 + 1), .int a4, w5], [], h)) else (bI (X (58, 0, [.ref 12, .int a3, .int a4, .null], [], h)) (fun r1 h1 => if r1 = ((-1)) then (X (66, 65, [.ref 12, .int a1, .int a2, .int a3, .int a4, .int r1], [], h1)) else (bI (X (60, 0, [.ref 12, .int r1], [], h1)) (fun r2 h2 => if r2 = 0 then (bI (X (61, 0, [.ref 12, .int r1, .null, .null, .null, .null, .null, .null], [], h2)) (fun r3 h3 => X (66, 65, [.ref 12, .int a1, .int (if a2 < r3 then r3 else a2), .int a3, .int a4, .int r1], [], h3))) else (X (66, 65, [.ref 12, .int a1, .int a2, .int a3, .int a4, .int r1], [], h2)))))) :=
  (r66_24 12 a1 a2 a3 a4 w5 h).trans (ite_c rfl (gd_c (hs.k 12 rfl) (bI_c hs rfl rfl rfl (fun r1 h1 hs1 => (ite_c rfl (gd_c (hs1.k 12 rfl) (bI_c hs1 rfl rfl rfl (fun r2 h2 hs2 => (ite_c (gd_c (hs2.k 12 rfl) rfl) rfl)))))))))
set_option maxRecDepth 10000 in
theorem g66_65 (a1 : Int32) (a2 : Int32) (a3 : Int32) (a4 : Int32) (w5 : Value) (h : HP) (hs : SH h) : X (66, 65, [.ref 12, .int a1, .int a2, .int a3, .int a4, w5], [], h) = X (66, 24, [.ref 12, .int a1, .int a2, .int a3, .int (a4 + 1), w5], [], h) :=
  (r66_65 12 a1 a2 a3 a4 w5 h).trans rfl
/-! 68 X4_forget -/
set_option maxRecDepth 10000 in
theorem g68_0 (h : HP) (hs : SH h) : X (68, 0, [.ref 15], [], h) = some (none, sI h 15 7 21) :=
  (r68_0 15 h).trans (gd_c (hs.k 15 rfl) rfl)
/-! 69 X4_forgetUpTo -/
set_option maxRecDepth 10000 in
theorem g69_0 (a1 : Int32) (h : HP) (hs : SH h) : X (69, 0, [.ref 15, .int a1], [], h) = some (none, sI h 15 7 (if (hI h 15 7) < (a1 + 1) then (a1 + 1) else (hI h 15 7))) :=
  (r69_0 15 a1 h).trans (gd_c (hs.k 15 rfl) (gd_c (hs.k 15 rfl) rfl))
/-! 70 X4_fillings -/
set_option maxRecDepth 10000 in
theorem g70_0 (a1 : Int32) (h : HP) (hs : SH h) : X (70, 0, [.ref 15, .int a1], [], h) = if a1 = ((-1)) then (bL (X (79, 0, [.ref 15, .int 0, .int 0, .int 1, .int a1, .null, .null, .null, .null], [], h)) (fun r1 h1 => some (some (.long r1), h1))) else (bL (X (79, 0, [.ref 15, .int 0, .int 0, .int 0, .int a1, .null, .null, .null, .null], [], h)) (fun r2 h2 => some (some (.long r2), h2))) :=
  (r70_0 15 a1 h).trans (ite_c (gd_c (hs.k 15 rfl) rfl) (gd_c (hs.k 15 rfl) rfl))
/-! 71 X4_solve -/
set_option maxRecDepth 10000 in
theorem g71_0 (w1 : Value) (h : HP) (hs : SH h) : X (71, 0, [.ref 15, w1], [], h) = bI (X (6, 0, [.ref 6], [], h)) (fun r1 h1 => if (hI h 15 7) ≤ r1 then (X (71, 25, [.ref 15, w1], [], h1)) else (bV (X (40, 0, [.ref 16, .null, .null, .null], [], h1)) (fun h2 => bV (X (72, 0, [.ref 15, .null, .null, .null], [], h2)) (fun h3 => X (71, 25, [.ref 15, w1], [], h3))))) :=
  (r71_0 15 w1 h).trans (gd_c (hs.k 15 rfl) (rd_c (hs.k 15 rfl) (hs.r 12 rfl) (gd_c (hs.k 6 rfl) (bI_c hs rfl rfl rfl (fun r1 h1 hs1 => (ite_c rfl (rd_c (hs1.k 15 rfl) (hs1.r 13 rfl) (gd_c (hs1.k 16 rfl) (bV_c hs1 rfl rfl rfl (fun h2 hs2 => (gd_c (hs2.k 15 rfl) rfl)))))))))))
set_option maxRecDepth 10000 in
theorem g71_25 (w1 : Value) (h : HP) (hs : SH h) : X (71, 25, [.ref 15, w1], [], h) = X (71, 37, [.ref 15, .int ((if 20 < (hI h 15 7) then 20 else (hI h 15 7)) - 1)], [], h) :=
  (r71_25 15 w1 h).trans (gd_c (hs.k 15 rfl) rfl)
set_option maxRecDepth 10000 in
theorem g71_37 (a1 : Int32) (h : HP) (hs : SH h) : X (71, 37, [.ref 15, .int a1], [], h) = if a1 < 0 then (some (none, sI h 15 7 0)) else (bV (X (73, 0, [.ref 15, .int a1, .null, .null, .null], [], h)) (fun h1 => X (71, 37, [.ref 15, .int (a1 + (-1))], [], h1))) :=
  (r71_37 15 a1 h).trans (ite_c (gd_c (hs.k 15 rfl) rfl) (gd_c (hs.k 15 rfl) rfl))
/-! 72 X4_solveEnd -/
set_option maxRecDepth 10000 in
theorem g72_0 (w1 : Value) (w2 : Value) (w3 : Value) (h : HP) (hs : SH h) : X (72, 0, [.ref 15, w1, w2, w3], [], h) = if (hI h 6 2) = 0 then (bI (X (20, 0, [.int ((hI h 6 0) + 1)], [], h)) (fun r1 h1 => bI (X (6, 0, [.ref 6], [], sI h1 15 6 r1)) (fun r2 h2 => bI (X (76, 0, [.ref 15, .int ((if 20 < r2 then 20 else r2) + 1), .int 0, .int 0], [], h2)) (fun r3 h3 => (hR h3 15 3).bind (fun q4 => if hK h3 q4 = 10 ∨ hK h3 q4 = 11 ∨ hK h3 q4 = 12 ∨ hK h3 q4 = 13 then (if r3 ≤ (nI (hN h3 q4)) then (X (72, 77, [.ref 15, .int (if 20 < r2 then 20 else r2), .int r3, w3], [], h3)) else (if ¬ r3 < 0 ∧ r3.toNatClampNeg ≤ 67108864 then (X (72, 77, [.ref 15, .int (if 20 < r2 then 20 else r2), .int r3, w3], [], sR (nw h3 11 r3.toNatClampNeg r3.toNatClampNeg) 15 3 (some (hZ h3)))) else none)) else none))))) else (bI (X (20, 0, [.int ((hI h 6 0) + 2)], [], h)) (fun r4 h4 => bI (X (6, 0, [.ref 6], [], sI h4 15 6 r4)) (fun r5 h5 => bI (X (76, 0, [.ref 15, .int ((if 20 < r5 then 20 else r5) + 1), .int 0, .int 0], [], h5)) (fun r6 h6 => (hR h6 15 3).bind (fun q7 => if hK h6 q7 = 10 ∨ hK h6 q7 = 11 ∨ hK h6 q7 = 12 ∨ hK h6 q7 = 13 then (if r6 ≤ (nI (hN h6 q7)) then (X (72, 77, [.ref 15, .int (if 20 < r5 then 20 else r5), .int r6, w3], [], h6)) else (if ¬ r6 < 0 ∧ r6.toNatClampNeg ≤ 67108864 then (X (72, 77, [.ref 15, .int (if 20 < r5 then 20 else r5), .int r6, w3], [], sR (nw h6 11 r6.toNatClampNeg r6.toNatClampNeg) 15 3 (some (hZ h6)))) else none)) else none))))) :=
  (r72_0 15 w1 w2 w3 h).trans (rd_c (hs.k 15 rfl) (hs.r 12 rfl) (gd_c (hs.k 6 rfl) (ite_c (rd_c (hs.k 15 rfl) (hs.r 12 rfl) (gd_c (hs.k 6 rfl) (bI_c hs rfl rfl rfl (fun r1 h1 hs1 => (gd_c (hs1.k 15 rfl) (rd_c ((hs1.sIs 15 rfl).k 15 rfl) ((hs1.sIs 15 rfl).r 12 rfl) (gd_c ((hs1.sIs 15 rfl).k 6 rfl) (bI_c (hs1.sIs 15 rfl) rfl rfl rfl (fun r2 h2 hs2 => (gd_c (hs2.k 15 rfl) (bI_c hs2 rfl rfl rfl (fun r3 h3 hs3 => (rdd_c (hs3.k 15 rfl) (fun q4 => (iteh_c (fun _ => (ite_c rfl (iteh_c (fun _ => (gd_c ((hs3.nw).k 15 rfl) rfl)) rfl))) rfl))))))))))))))) (rd_c (hs.k 15 rfl) (hs.r 12 rfl) (gd_c (hs.k 6 rfl) (bI_c hs rfl rfl rfl (fun r4 h4 hs4 => (gd_c (hs4.k 15 rfl) (rd_c ((hs4.sIs 15 rfl).k 15 rfl) ((hs4.sIs 15 rfl).r 12 rfl) (gd_c ((hs4.sIs 15 rfl).k 6 rfl) (bI_c (hs4.sIs 15 rfl) rfl rfl rfl (fun r5 h5 hs5 => (gd_c (hs5.k 15 rfl) (bI_c hs5 rfl rfl rfl (fun r6 h6 hs6 => (rdd_c (hs6.k 15 rfl) (fun q7 => (iteh_c (fun _ => (ite_c rfl (iteh_c (fun _ => (gd_c ((hs6.nw).k 15 rfl) rfl)) rfl))) rfl))))))))))))))))))
set_option maxRecDepth 10000 in
theorem g72_77 (a1 : Int32) (w2 : Value) (w3 : Value) (h : HP) (hs : SH h) : X (72, 77, [.ref 15, .int a1, w2, w3], [], h) = bV (X (75, 0, [.ref 15, .int a1, .null, .null], [], h)) (fun h1 => if inB a1 21 = true then (bI (X (76, 0, [.ref 15, .int a1, .int 0, .int 0], [], sI h1 22 a1.toNatClampNeg 0)) (fun r1 h2 => if r1 < 0 then (some (none, sI h2 15 7 a1)) else ((hR h2 15 3).bind (fun q2 => if hK h2 q2 = 10 ∨ hK h2 q2 = 11 ∨ hK h2 q2 = 12 ∨ hK h2 q2 = 13 then (if (nI (hN h2 q2)) ≤ r1 then (some (none, sI h2 15 7 a1)) else ((hR h2 15 3).bind (fun q3 => if hK h2 q3 = 11 ∧ inB r1 (hN h2 q3) = true then (some (none, sI (sL h2 q3 r1.toNatClampNeg 1) 15 7 a1)) else none))) else none)))) else none) :=
  (r72_77 15 a1 w2 w3 h).trans (gd_c (hs.k 15 rfl) (bV_c hs rfl rfl rfl (fun h1 hs1 => (rd_c (hs1.k 15 rfl) (hs1.r 14 rfl) (as_c (hs1.k 22 rfl) (hs1.n 22 rfl) (gd_c ((hs1.sIs 22 rfl).k 15 rfl) (bI_c (hs1.sIs 22 rfl) rfl rfl rfl (fun r1 h2 hs2 => (ite_c (gd_c (hs2.k 15 rfl) rfl) (rdd_c (hs2.k 15 rfl) (fun q2 => (iteh_c (fun _ => (ite_c (gd_c (hs2.k 15 rfl) rfl) (rdd_c (hs2.k 15 rfl) (fun q3 => (iteh_c (fun c1 => (gd_c ((hs2.sL).k 15 rfl) rfl)) rfl))))) rfl))))))))))))
/-! 73 X4_solveCell -/
set_option maxRecDepth 10000 in
theorem g73_0 (a1 : Int32) (w2 : Value) (w3 : Value) (w4 : Value) (h : HP) (hs : SH h) : X (73, 0, [.ref 15, .int a1, w2, w3, w4], [], h) = bV (X (75, 0, [.ref 15, .int a1, .null, .null], [], h)) (fun h1 => bI (X (45, 0, [.ref 16, .int (a1 + 1)], [], h1)) (fun r1 h2 => bI (X (45, 0, [.ref 16, .int a1], [], h2)) (fun r2 h3 => X (73, 28, [.ref 15, .int a1, .int 0, .int r1, .int r2], [], h3)))) :=
  (r73_0 15 a1 w2 w3 w4 h).trans (gd_c (hs.k 15 rfl) (bV_c hs rfl rfl rfl (fun h1 hs1 => (rd_c (hs1.k 15 rfl) (hs1.r 13 rfl) (gd_c (hs1.k 16 rfl) (bI_c hs1 rfl rfl rfl (fun r1 h2 hs2 => (rd_c (hs2.k 15 rfl) (hs2.r 13 rfl) (gd_c (hs2.k 16 rfl) rfl)))))))))
set_option maxRecDepth 10000 in
theorem g73_28 (a1 : Int32) (a2 : Int32) (a3 : Int32) (a4 : Int32) (h : HP) (hs : SH h) : X (73, 28, [.ref 15, .int a1, .int a2, .int a3, .int a4], [], h) = if a3 ≤ a4 then (bI (X (77, 0, [.ref 15, .int (a1 + 1)], [], h)) (fun r1 h1 => if inB a1 21 = true then (some (none, sI h1 22 a1.toNatClampNeg (if (r1 + a2) < 12 then (r1 + a2) else 12))) else none)) else (bI (X (49, 0, [.ref 16, .int a4], [], h)) (fun r2 h2 => bI (X (16, 0, [.ref 6, .int a1, .int r2], [], h2)) (fun r3 h3 => if r3 = 0 then (X (73, 75, [.ref 15, .int a1, .int a2, .int a3, .int a4], [], h3)) else (bI (X (50, 0, [.ref 16, .int a4], [], h3)) (fun r4 h4 => bV (X (74, 0, [.ref 15, .int a1, .int a4, .null, .null, .null, .null, .null], [], h4)) (fun h5 => X (73, 75, [.ref 15, .int a1, .int (if a2 < r4 then r4 else a2), .int a3, .int a4], [], h5))))))) :=
  (r73_28 15 a1 a2 a3 a4 h).trans (ite_c (rd_c (hs.k 15 rfl) (hs.r 14 rfl) (gd_c (hs.k 15 rfl) (bI_c hs rfl rfl rfl (fun r1 h1 hs1 => (as_c (hs1.k 22 rfl) (hs1.n 22 rfl) rfl))))) (rd_c (hs.k 15 rfl) (hs.r 12 rfl) (rd_c (hs.k 15 rfl) (hs.r 13 rfl) (gd_c (hs.k 16 rfl) (bI_c hs rfl rfl rfl (fun r2 h2 hs2 => (gd_c (hs2.k 6 rfl) (bI_c hs2 rfl rfl rfl (fun r3 h3 hs3 => (ite_c rfl (rd_c (hs3.k 15 rfl) (hs3.r 13 rfl) (gd_c (hs3.k 16 rfl) (bI_c hs3 rfl rfl rfl (fun r4 h4 hs4 => (gd_c (hs4.k 15 rfl) rfl)))))))))))))))
set_option maxRecDepth 10000 in
theorem g73_75 (a1 : Int32) (a2 : Int32) (a3 : Int32) (a4 : Int32) (h : HP) (hs : SH h) : X (73, 75, [.ref 15, .int a1, .int a2, .int a3, .int a4], [], h) = X (73, 28, [.ref 15, .int a1, .int a2, .int a3, .int (a4 + 1)], [], h) :=
  (r73_75 15 a1 a2 a3 a4 h).trans rfl
/-! 74 X4_addWays -/
set_option maxRecDepth 10000 in
theorem g74_0 (a1 : Int32) (a2 : Int32) (w3 : Value) (w4 : Value) (w5 : Value) (w6 : Value) (w7 : Value) (h : HP) (hs : SH h) : X (74, 0, [.ref 15, .int a1, .int a2, w3, w4, w5, w6, w7], [], h) = bI (X (50, 0, [.ref 16, .int a2], [], h)) (fun r1 h1 => bI (X (47, 0, [.ref 16, .int a2], [], h1)) (fun r2 h2 => bI (X (76, 0, [.ref 15, .int a1, .int r2, .int r1], [], h2)) (fun r3 h3 => bI (X (48, 0, [.ref 16, .int a2], [], h3)) (fun r4 h4 => bI (X (76, 0, [.ref 15, .int (a1 + 1), .int r4, .int 0], [], h4)) (fun r5 h5 => bI (X (77, 0, [.ref 15, .int (a1 + 1)], [], h5)) (fun r6 h6 => if r3 < 0 then (some (none, h6)) else ((hR h6 15 3).bind (fun q4 => if hK h6 q4 = 10 ∨ hK h6 q4 = 11 ∨ hK h6 q4 = 12 ∨ hK h6 q4 = 13 then (if (nI (hN h6 q4)) ≤ (r3 + (if (12 - r1) < r6 then (12 - r1) else r6)) then (some (none, h6)) else (if r5 < 0 then (some (none, h6)) else ((hR h6 15 3).bind (fun q5 => if hK h6 q5 = 10 ∨ hK h6 q5 = 11 ∨ hK h6 q5 = 12 ∨ hK h6 q5 = 13 then (if (r5 + (if (12 - r1) < r6 then (12 - r1) else r6)) < (nI (hN h6 q5)) then (X (74, 99, [.ref 15, .int a1, .int a2, .int r1, .int r3, .int r5, .int (if (12 - r1) < r6 then (12 - r1) else r6), .int 0], [], h6)) else (some (none, h6))) else none)))) else none)))))))) :=
  (r74_0 15 a1 a2 w3 w4 w5 w6 w7 h).trans (rd_c (hs.k 15 rfl) (hs.r 13 rfl) (gd_c (hs.k 16 rfl) (bI_c hs rfl rfl rfl (fun r1 h1 hs1 => (rd_c (hs1.k 15 rfl) (hs1.r 13 rfl) (gd_c (hs1.k 16 rfl) (bI_c hs1 rfl rfl rfl (fun r2 h2 hs2 => (gd_c (hs2.k 15 rfl) (bI_c hs2 rfl rfl rfl (fun r3 h3 hs3 => (rd_c (hs3.k 15 rfl) (hs3.r 13 rfl) (gd_c (hs3.k 16 rfl) (bI_c hs3 rfl rfl rfl (fun r4 h4 hs4 => (gd_c (hs4.k 15 rfl) (bI_c hs4 rfl rfl rfl (fun r5 h5 hs5 => (gd_c (hs5.k 15 rfl) (bI_c hs5 rfl rfl rfl (fun r6 h6 hs6 => (ite_c rfl (rdd_c (hs6.k 15 rfl) (fun q4 => (iteh_c (fun _ => (ite_c rfl (ite_c rfl (rdd_c (hs6.k 15 rfl) (fun q5 => rfl))))) rfl)))))))))))))))))))))))))
set_option maxRecDepth 10000 in
theorem g74_99 (w1 : Value) (w2 : Value) (w3 : Value) (a4 : Int32) (a5 : Int32) (a6 : Int32) (a7 : Int32) (h : HP) (hs : SH h) : X (74, 99, [.ref 15, w1, w2, w3, .int a4, .int a5, .int a6, .int a7], [], h) = if a6 < a7 then (some (none, h)) else ((hR h 15 3).bind (fun q1 => if hK h q1 = 11 ∧ inB (a4 + a7) (hN h q1) = true then ((hR h 15 3).bind (fun q2 => if hK h q2 = 11 ∧ inB (a5 + a7) (hN h q2) = true then (if hK h q1 = 11 ∧ inB (a4 + a7) (hN h q1) = true then (X (74, 99, [.ref 15, w1, w2, w3, .int a4, .int a5, .int a6, .int (a7 + 1)], [], sL h q1 (a4 + a7).toNatClampNeg ((hL h q1 (a4 + a7).toNatClampNeg) + (hL h q2 (a5 + a7).toNatClampNeg)))) else none) else none)) else none)) :=
  (r74_99 15 w1 w2 w3 a4 a5 a6 a7 h).trans (ite_c rfl (rdd_c (hs.k 15 rfl) (fun q1 => (iteh_c (fun c1 => (rdd_c (hs.k 15 rfl) (fun q2 => rfl))) rfl))))
/-! 75 X4_clear -/
set_option maxRecDepth 10000 in
theorem g75_0 (a1 : Int32) (w2 : Value) (w3 : Value) (h : HP) (hs : SH h) : X (75, 0, [.ref 15, .int a1, w2, w3], [], h) = bI (X (76, 0, [.ref 15, .int (a1 + 1), .int 0, .int 0], [], h)) (fun r1 h1 => (hR h1 15 3).bind (fun q1 => if hK h1 q1 = 10 ∨ hK h1 q1 = 11 ∨ hK h1 q1 = 12 ∨ hK h1 q1 = 13 then (bI (X (76, 0, [.ref 15, .int a1, .int 0, .int 0], [], h1)) (fun r2 h2 => X (75, 30, [.ref 15, .int a1, .int (if (nI (hN h1 q1)) < r1 then (nI (hN h1 q1)) else r1), .int (if r2 < 0 then 0 else r2)], [], h2))) else none)) :=
  (r75_0 15 a1 w2 w3 h).trans (gd_c (hs.k 15 rfl) (bI_c hs rfl rfl rfl (fun r1 h1 hs1 => (rdd_c (hs1.k 15 rfl) (fun q1 => (iteh_c (fun _ => (gd_c (hs1.k 15 rfl) rfl)) rfl))))))
set_option maxRecDepth 10000 in
theorem g75_30 (w1 : Value) (a2 : Int32) (a3 : Int32) (h : HP) (hs : SH h) : X (75, 30, [.ref 15, w1, .int a2, .int a3], [], h) = if a2 ≤ a3 then (some (none, h)) else ((hR h 15 3).bind (fun q1 => if hK h q1 = 11 ∧ inB a3 (hN h q1) = true then (X (75, 30, [.ref 15, w1, .int a2, .int (a3 + 1)], [], sL h q1 a3.toNatClampNeg 0)) else none)) :=
  (r75_30 15 w1 a2 a3 h).trans (ite_c rfl (rdd_c (hs.k 15 rfl) (fun q1 => rfl)))
/-! 76 X4_index -/
set_option maxRecDepth 10000 in
theorem g76_0 (a1 : Int32) (a2 : Int32) (a3 : Int32) (h : HP) (hs : SH h) : X (76, 0, [.ref 15, .int a1, .int a2, .int a3], [], h) = some (some (.int ((((a1 * (hI h 15 6)) + a2) * 13) + a3)), h) :=
  (r76_0 15 a1 a2 a3 h).trans (gd_c (hs.k 15 rfl) rfl)
/-! 77 X4_top -/
set_option maxRecDepth 10000 in
theorem g77_0 (a1 : Int32) (h : HP) (hs : SH h) : X (77, 0, [.ref 15, .int a1], [], h) = if a1 < 0 then (some (some (.int 0), h)) else (if a1 ≤ 20 then (if inB a1 21 = true then (some (some (.int (hI h 22 a1.toNatClampNeg)), h)) else none) else (some (some (.int 0), h))) :=
  (r77_0 15 a1 h).trans (ite_c rfl (ite_c (rd_c (hs.k 15 rfl) (hs.r 14 rfl) (al_c (Or.inl (hs.k 22 rfl)) (hs.n 22 rfl) rfl)) rfl))
/-! 78 X4_wayAt -/
set_option maxRecDepth 10000 in
theorem g78_0 (a1 : Int32) (h : HP) (hs : SH h) : X (78, 0, [.ref 15, .int a1], [], h) = if a1 < 0 then (some (some (.long 0), h)) else ((hR h 15 3).bind (fun q1 => if hK h q1 = 10 ∨ hK h q1 = 11 ∨ hK h q1 = 12 ∨ hK h q1 = 13 then (if a1 < (nI (hN h q1)) then ((hR h 15 3).bind (fun q2 => if hK h q2 = 11 ∧ inB a1 (hN h q2) = true then (some (some (.long (hL h q2 a1.toNatClampNeg)), h)) else none)) else (some (some (.long 0), h))) else none)) :=
  (r78_0 15 a1 h).trans (ite_c rfl (rdd_c (hs.k 15 rfl) (fun q1 => (iteh_c (fun _ => (ite_c (rdd_c (hs.k 15 rfl) (fun q2 => rfl)) rfl)) rfl))))
/-! 79 X4_waysFrom -/
set_option maxRecDepth 10000 in
theorem g79_0 (a1 : Int32) (a2 : Int32) (a3 : Int32) (a4 : Int32) (w5 : Value) (w6 : Value) (w7 : Value) (w8 : Value) (h : HP) (hs : SH h) : X (79, 0, [.ref 15, .int a1, .int a2, .int a3, .int a4, w5, w6, w7, w8], [], h) = bI (X (77, 0, [.ref 15, .int a1], [], h)) (fun r1 h1 => if a3 = 0 then (if a4 < 0 then (some (some (.long 0), h1)) else (if a4 ≤ r1 then (bI (X (76, 0, [.ref 15, .int a1, .int a2, .int a4], [], h1)) (fun r2 h2 => bL (X (78, 0, [.ref 15, .int r2], [], h2)) (fun r3 h3 => some (some (.long r3), h3)))) else (some (some (.long 0), h1)))) else (X (79, 46, [.ref 15, .int a1, .int a2, .int a3, .int a4, .int r1, .long 0, .null, .int 0], [], h1))) :=
  (r79_0 15 a1 a2 a3 a4 w5 w6 w7 w8 h).trans (gd_c (hs.k 15 rfl) (bI_c hs rfl rfl rfl (fun r1 h1 hs1 => (ite_c (ite_c rfl (ite_c (gd_c (hs1.k 15 rfl) (bI_c hs1 rfl rfl rfl (fun r2 h2 hs2 => (gd_c (hs2.k 15 rfl) rfl)))) rfl)) rfl))))
set_option maxRecDepth 10000 in
theorem g79_46 (a1 : Int32) (a2 : Int32) (w3 : Value) (w4 : Value) (a5 : Int32) (a6 : Int64) (w7 : Value) (a8 : Int32) (h : HP) (hs : SH h) : X (79, 46, [.ref 15, .int a1, .int a2, w3, w4, .int a5, .long a6, w7, .int a8], [], h) = if a5 < a8 then (some (some (.long a6), h)) else (bI (X (76, 0, [.ref 15, .int a1, .int a2, .int a8], [], h)) (fun r1 h1 => bL (X (78, 0, [.ref 15, .int r1], [], h1)) (fun r2 h2 => X (79, 46, [.ref 15, .int a1, .int a2, w3, w4, .int a5, .long (a6 + r2), .null, .int (a8 + 1)], [], h2)))) :=
  (r79_46 15 a1 a2 w3 w4 a5 a6 w7 a8 h).trans (ite_c rfl (gd_c (hs.k 15 rfl) (bI_c hs rfl rfl rfl (fun r1 h1 hs1 => (gd_c (hs1.k 15 rfl) rfl)))))
/-! 80 X4_fillingsThrough -/
set_option maxRecDepth 10000 in
theorem g80_0 (a1 : Int32) (a2 : Int32) (w3 : Value) (w4 : Value) (w5 : Value) (w6 : Value) (w7 : Value) (h : HP) (hs : SH h) : X (80, 0, [.ref 15, .int a1, .int a2, w3, w4, w5, w6, w7], [], h) = bI (X (16, 0, [.ref 6, .int a1, .int a2], [], h)) (fun r1 h1 => if r1 = 0 then (some (some (.long 0), h1)) else (bV (X (81, 0, [.ref 15, .int a1, .null, .null, .null, .null, .null], [], h1)) (fun h2 => bI (X (45, 0, [.ref 16, .int (a1 + 1)], [], h2)) (fun r2 h3 => bI (X (45, 0, [.ref 16, .int a1], [], h3)) (fun r3 h4 => X (80, 43, [.ref 15, .int a1, .int a2, .long 0, .null, .int r2, .int r3, w7], [], h4)))))) :=
  (r80_0 15 a1 a2 w3 w4 w5 w6 w7 h).trans (rd_c (hs.k 15 rfl) (hs.r 12 rfl) (gd_c (hs.k 6 rfl) (bI_c hs rfl rfl rfl (fun r1 h1 hs1 => (ite_c rfl (gd_c (hs1.k 15 rfl) (bV_c hs1 rfl rfl rfl (fun h2 hs2 => (rd_c (hs2.k 15 rfl) (hs2.r 13 rfl) (gd_c (hs2.k 16 rfl) (bI_c hs2 rfl rfl rfl (fun r2 h3 hs3 => (rd_c (hs3.k 15 rfl) (hs3.r 13 rfl) (gd_c (hs3.k 16 rfl) rfl))))))))))))))
set_option maxRecDepth 10000 in
theorem g80_43 (a1 : Int32) (a2 : Int32) (a3 : Int64) (w4 : Value) (a5 : Int32) (a6 : Int32) (w7 : Value) (h : HP) (hs : SH h) : X (80, 43, [.ref 15, .int a1, .int a2, .long a3, w4, .int a5, .int a6, w7], [], h) = if a5 ≤ a6 then (some (some (.long a3), h)) else (bI (X (47, 0, [.ref 16, .int a6], [], h)) (fun r1 h1 => bI (X (49, 0, [.ref 16, .int a6], [], h1)) (fun r2 h2 => if r2 = a2 then (if 76 ≤ r1 then (X (80, 110, [.ref 15, .int a1, .int a2, .long a3, w4, .int a5, .int a6, .int r1], [], h2)) else ((hR h2 15 4).bind (fun q3 => if hK h2 q3 = 11 ∧ inB r1 (hN h2 q3) = true then (bI (X (48, 0, [.ref 16, .int a6], [], h2)) (fun r3 h3 => bL (X (79, 0, [.ref 15, .int (a1 + 1), .int r3, .int 1, .int ((-1)), .null, .null, .null, .null], [], h3)) (fun r4 h4 => X (80, 110, [.ref 15, .int a1, .int a2, .long (a3 + ((hL h2 q3 r1.toNatClampNeg) * r4)), .null, .int a5, .int a6, .int r1], [], h4)))) else none))) else (X (80, 110, [.ref 15, .int a1, .int a2, .long a3, w4, .int a5, .int a6, .int r1], [], h2))))) :=
  (r80_43 15 a1 a2 a3 w4 a5 a6 w7 h).trans (ite_c rfl (rd_c (hs.k 15 rfl) (hs.r 13 rfl) (gd_c (hs.k 16 rfl) (bI_c hs rfl rfl rfl (fun r1 h1 hs1 => (rd_c (hs1.k 15 rfl) (hs1.r 13 rfl) (gd_c (hs1.k 16 rfl) (bI_c hs1 rfl rfl rfl (fun r2 h2 hs2 => (ite_c (ite_c rfl (rdd_c (hs2.k 15 rfl) (fun q3 => (iteh_c (fun c1 => (rd_c (hs2.k 15 rfl) (hs2.r 13 rfl) (gd_c (hs2.k 16 rfl) (bI_c hs2 rfl rfl rfl (fun r3 h3 hs3 => (gd_c (hs3.k 15 rfl) rfl)))))) rfl)))) rfl))))))))))
set_option maxRecDepth 10000 in
theorem g80_110 (a1 : Int32) (a2 : Int32) (a3 : Int64) (w4 : Value) (a5 : Int32) (a6 : Int32) (w7 : Value) (h : HP) (hs : SH h) : X (80, 110, [.ref 15, .int a1, .int a2, .long a3, w4, .int a5, .int a6, w7], [], h) = X (80, 43, [.ref 15, .int a1, .int a2, .long a3, w4, .int a5, .int (a6 + 1), w7], [], h) :=
  (r80_110 15 a1 a2 a3 w4 a5 a6 w7 h).trans rfl
/-! 81 X4_reach -/
set_option maxRecDepth 10000 in
theorem g81_0 (a1 : Int32) (w2 : Value) (w3 : Value) (w4 : Value) (w5 : Value) (w6 : Value) (h : HP) (hs : SH h) : X (81, 0, [.ref 15, .int a1, w2, w3, w4, w5, w6], [], h) = (hR h 15 4).bind (fun q1 => bV (X (82, 0, [.ref q1, .null], [], h)) (fun h1 => (hR h1 15 4).bind (fun q2 => if hK h1 q2 = 11 ∧ inB 0 (hN h1 q2) = true then (X (81, 16, [.ref 15, .int a1, .int 0, w3, w4, w5, w6], [], sL h1 q2 (0 : Int32).toNatClampNeg 1)) else none))) :=
  (r81_0 15 a1 w2 w3 w4 w5 w6 h).trans (rdd_c (hs.k 15 rfl) (fun q1 => (bV_c hs rfl rfl rfl (fun h1 hs1 => (rdd_c (hs1.k 15 rfl) (fun q2 => rfl))))))
set_option maxRecDepth 10000 in
theorem g81_16 (a1 : Int32) (a2 : Int32) (w3 : Value) (w4 : Value) (w5 : Value) (w6 : Value) (h : HP) (hs : SH h) : X (81, 16, [.ref 15, .int a1, .int a2, w3, w4, w5, w6], [], h) = if a1 ≤ a2 then (some (none, h)) else ((hR h 15 5).bind (fun q1 => bV (X (82, 0, [.ref q1, .null], [], h)) (fun h1 => bI (X (45, 0, [.ref 16, .int (a2 + 1)], [], h1)) (fun r1 h2 => bI (X (45, 0, [.ref 16, .int a2], [], h2)) (fun r2 h3 => X (81, 49, [.ref 15, .int a1, .int a2, .int r1, .int r2, w5, w6], [], h3)))))) :=
  (r81_16 15 a1 a2 w3 w4 w5 w6 h).trans (ite_c rfl (rdd_c (hs.k 15 rfl) (fun q1 => (bV_c hs rfl rfl rfl (fun h1 hs1 => (rd_c (hs1.k 15 rfl) (hs1.r 13 rfl) (gd_c (hs1.k 16 rfl) (bI_c hs1 rfl rfl rfl (fun r1 h2 hs2 => (rd_c (hs2.k 15 rfl) (hs2.r 13 rfl) (gd_c (hs2.k 16 rfl) rfl)))))))))))
set_option maxRecDepth 10000 in
theorem g81_49 (a1 : Int32) (a2 : Int32) (a3 : Int32) (a4 : Int32) (w5 : Value) (w6 : Value) (h : HP) (hs : SH h) : X (81, 49, [.ref 15, .int a1, .int a2, .int a3, .int a4, w5, w6], [], h) = if a3 ≤ a4 then ((hR h 15 4).bind (fun q1 => (hR h 15 5).bind (fun q2 => X (81, 16, [.ref 15, .int a1, .int (a2 + 1), .int a3, .ref q1, w5, w6], [], sR (sR h 15 4 (some q2)) 15 5 (some q1))))) else (bI (X (47, 0, [.ref 16, .int a4], [], h)) (fun r1 h1 => bI (X (48, 0, [.ref 16, .int a4], [], h1)) (fun r2 h2 => if 76 ≤ r1 then (X (81, 128, [.ref 15, .int a1, .int a2, .int a3, .int a4, .int r1, .int r2], [], h2)) else (if 76 ≤ r2 then (X (81, 128, [.ref 15, .int a1, .int a2, .int a3, .int a4, .int r1, .int r2], [], h2)) else (bI (X (49, 0, [.ref 16, .int a4], [], h2)) (fun r3 h3 => bI (X (16, 0, [.ref 6, .int a2, .int r3], [], h3)) (fun r4 h4 => if r4 = 0 then (X (81, 128, [.ref 15, .int a1, .int a2, .int a3, .int a4, .int r1, .int r2], [], h4)) else ((hR h4 15 5).bind (fun q7 => if hK h4 q7 = 11 ∧ inB r2 (hN h4 q7) = true then ((hR h4 15 4).bind (fun q8 => if hK h4 q8 = 11 ∧ inB r1 (hN h4 q8) = true then (if hK h4 q7 = 11 ∧ inB r2 (hN h4 q7) = true then (X (81, 128, [.ref 15, .int a1, .int a2, .int a3, .int a4, .int r1, .int r2], [], sL h4 q7 r2.toNatClampNeg ((hL h4 q7 r2.toNatClampNeg) + (hL h4 q8 r1.toNatClampNeg)))) else none) else none)) else none))))))))) :=
  (r81_49 15 a1 a2 a3 a4 w5 w6 h).trans (ite_c (rdd_c (hs.k 15 rfl) (fun q1 => (rdd_c (hs.k 15 rfl) (fun q2 => (gd_c (hs.k 15 rfl) (gd_c ((hs.sRs 15 4 rfl).k 15 rfl) rfl)))))) (rd_c (hs.k 15 rfl) (hs.r 13 rfl) (gd_c (hs.k 16 rfl) (bI_c hs rfl rfl rfl (fun r1 h1 hs1 => (rd_c (hs1.k 15 rfl) (hs1.r 13 rfl) (gd_c (hs1.k 16 rfl) (bI_c hs1 rfl rfl rfl (fun r2 h2 hs2 => (ite_c rfl (ite_c rfl (rd_c (hs2.k 15 rfl) (hs2.r 12 rfl) (rd_c (hs2.k 15 rfl) (hs2.r 13 rfl) (gd_c (hs2.k 16 rfl) (bI_c hs2 rfl rfl rfl (fun r3 h3 hs3 => (gd_c (hs3.k 6 rfl) (bI_c hs3 rfl rfl rfl (fun r4 h4 hs4 => (ite_c rfl (rdd_c (hs4.k 15 rfl) (fun q7 => (iteh_c (fun c1 => (rdd_c (hs4.k 15 rfl) (fun q8 => rfl))) rfl)))))))))))))))))))))))
set_option maxRecDepth 10000 in
theorem g81_128 (a1 : Int32) (a2 : Int32) (a3 : Int32) (a4 : Int32) (w5 : Value) (w6 : Value) (h : HP) (hs : SH h) : X (81, 128, [.ref 15, .int a1, .int a2, .int a3, .int a4, w5, w6], [], h) = X (81, 49, [.ref 15, .int a1, .int a2, .int a3, .int (a4 + 1), w5, w6], [], h) :=
  (r81_128 15 a1 a2 a3 a4 w5 w6 h).trans rfl
/-! 82 X4_unreach -/
set_option maxRecDepth 10000 in
theorem g82_0 (a0 : Nat) (w1 : Value) (h : HP) (hs : SH h) : X (82, 0, [.ref a0, w1], [], h) = X (82, 2, [.ref a0, .int 0], [], h) :=
  (r82_0 a0 w1 h).trans rfl
set_option maxRecDepth 10000 in
theorem g82_2 (a0 : Nat) (a1 : Int32) (h : HP) (hs : SH h) : X (82, 2, [.ref a0, .int a1], [], h) = if hK h a0 = 10 ∨ hK h a0 = 11 ∨ hK h a0 = 12 ∨ hK h a0 = 13 then (if (nI (hN h a0)) ≤ a1 then (some (none, h)) else (if hK h a0 = 11 ∧ inB a1 (hN h a0) = true then (X (82, 2, [.ref a0, .int (a1 + 1)], [], sL h a0 a1.toNatClampNeg 0)) else none)) else none :=
  (r82_2 a0 a1 h).trans rfl
/-! 83 X4_choose -/
set_option maxRecDepth 10000 in
theorem g83_0 (a2 : Int32) (a3 : Int64) (w4 : Value) (w5 : Value) (w6 : Value) (w7 : Value) (w8 : Value) (w9 : Value) (w10 : Value) (w11 : Value) (w12 : Value) (w13 : Value) (w14 : Value) (w15 : Value) (w16 : Value) (h : HP) (hs : SH h) : X (83, 0, [.ref 15, .ref 12, .int a2, .long a3, w4, w5, w6, w7, w8, w9, w10, w11, w12, w13, w14, w15, w16], [], h) = bI (X (6, 0, [.ref 6], [], h)) (fun r1 h1 => if a2 = ((-1)) then (X (83, 33, [.ref 15, .ref 12, .int a2, .long a3, (nl w4), .int r1, .int 1, .long a3, .null, .int a2, .int 0, .int 0, w12, w13, w14, w15, w16], [], h1)) else (X (83, 33, [.ref 15, .ref 12, .int a2, .long a3, (nl w4), .int r1, .int 0, .long a3, .null, .int a2, .int 0, .int 0, w12, w13, w14, w15, w16], [], h1))) :=
  (r83_0 15 12 a2 a3 w4 w5 w6 w7 w8 w9 w10 w11 w12 w13 w14 w15 w16 h).trans (rd_c (hs.k 15 rfl) (hs.r 12 rfl) (gd_c (hs.k 6 rfl) rfl))
set_option maxRecDepth 10000 in
theorem g83_33 (w2 : Value) (w3 : Value) (w4 : Value) (a5 : Int32) (a6 : Int32) (a7 : Int64) (w8 : Value) (a9 : Int32) (a10 : Int32) (a11 : Int32) (w12 : Value) (w13 : Value) (w14 : Value) (w15 : Value) (w16 : Value) (h : HP) (hs : SH h) : X (83, 33, [.ref 15, .ref 12, w2, w3, w4, .int a5, .int a6, .long a7, w8, .int a9, .int a10, .int a11, w12, w13, w14, w15, w16], [], h) = if a5 ≤ a11 then (some (none, h)) else (bI (X (45, 0, [.ref 16, .int (a11 + 1)], [], h)) (fun r1 h1 => bI (X (45, 0, [.ref 16, .int a11], [], h1)) (fun r2 h2 => X (83, 64, [.ref 15, .ref 12, w2, w3, w4, .int a5, .int a6, .long a7, w8, .int a9, .int a10, .int a11, .int r1, .int r2, w14, w15, w16], [], h2)))) :=
  (r83_33 15 12 w2 w3 w4 a5 a6 a7 w8 a9 a10 a11 w12 w13 w14 w15 w16 h).trans (ite_c rfl (rd_c (hs.k 15 rfl) (hs.r 13 rfl) (gd_c (hs.k 16 rfl) (bI_c hs rfl rfl rfl (fun r1 h1 hs1 => (rd_c (hs1.k 15 rfl) (hs1.r 13 rfl) (gd_c (hs1.k 16 rfl) rfl)))))))
set_option maxRecDepth 10000 in
theorem g83_64 (w2 : Value) (w3 : Value) (w4 : Value) (a5 : Int32) (a6 : Int32) (a7 : Int64) (w8 : Value) (a9 : Int32) (a10 : Int32) (a11 : Int32) (a12 : Int32) (a13 : Int32) (w14 : Value) (w15 : Value) (w16 : Value) (h : HP) (hs : SH h) : X (83, 64, [.ref 15, .ref 12, w2, w3, w4, .int a5, .int a6, .long a7, w8, .int a9, .int a10, .int a11, .int a12, .int a13, w14, w15, w16], [], h) = if a12 ≤ a13 then (X (83, 200, [.ref 15, .ref 12, w2, w3, w4, .int a5, .int a6, .long a7, w8, .int a9, .int a10, .int a11, .int a12, .int a13, w14, w15, w16], [], h)) else (bI (X (47, 0, [.ref 16, .int a13], [], h)) (fun r1 h1 => if r1 = a10 then (bI (X (49, 0, [.ref 16, .int a13], [], h1)) (fun r2 h2 => bI (X (16, 0, [.ref 6, .int a11, .int r2], [], h2)) (fun r3 h3 => if r3 = 0 then (X (83, 194, [.ref 15, .ref 12, w2, w3, w4, .int a5, .int a6, .long a7, w8, .int a9, .int a10, .int a11, .int a12, .int a13, w14, w15, w16], [], h3)) else (bI (X (50, 0, [.ref 16, .int a13], [], h3)) (fun r4 h4 => bI (X (48, 0, [.ref 16, .int a13], [], h4)) (fun r5 h5 => bL (X (79, 0, [.ref 15, .int (a11 + 1), .int r5, .int a6, .int (a9 - r4), .null, .null, .null, .null], [], h5)) (fun r6 h6 => if 0 ≤ (lg_cmp a7 r6) then (X (83, 194, [.ref 15, .ref 12, w2, w3, w4, .int a5, .int a6, .long (a7 - r6), .null, .int a9, .int a10, .int a11, .int a12, .int a13, .int (a9 - r4), .long r6, .null], [], h6)) else (bI (X (49, 0, [.ref 16, .int a13], [], h6)) (fun r7 h7 => bV (X (54, 0, [.ref 12, .int a11, .int r7], [], h7)) (fun h8 => bI (X (48, 0, [.ref 16, .int a13], [], h8)) (fun r8 h9 => X (83, 200, [.ref 15, .ref 12, w2, w3, w4, .int a5, .int a6, .long a7, (nl w8), .int (a9 - r4), .int r8, .int a11, .int a12, .int a13, .int (a9 - r4), .long r6, .null], [], h9)))))))))))) else (X (83, 194, [.ref 15, .ref 12, w2, w3, w4, .int a5, .int a6, .long a7, w8, .int a9, .int a10, .int a11, .int a12, .int a13, w14, w15, w16], [], h1)))) :=
  (r83_64 15 12 w2 w3 w4 a5 a6 a7 w8 a9 a10 a11 a12 a13 w14 w15 w16 h).trans (ite_c rfl (rd_c (hs.k 15 rfl) (hs.r 13 rfl) (gd_c (hs.k 16 rfl) (bI_c hs rfl rfl rfl (fun r1 h1 hs1 => (ite_c (rd_c (hs1.k 15 rfl) (hs1.r 12 rfl) (rd_c (hs1.k 15 rfl) (hs1.r 13 rfl) (gd_c (hs1.k 16 rfl) (bI_c hs1 rfl rfl rfl (fun r2 h2 hs2 => (gd_c (hs2.k 6 rfl) (bI_c hs2 rfl rfl rfl (fun r3 h3 hs3 => (ite_c rfl (rd_c (hs3.k 15 rfl) (hs3.r 13 rfl) (gd_c (hs3.k 16 rfl) (bI_c hs3 rfl rfl rfl (fun r4 h4 hs4 => (rd_c (hs4.k 15 rfl) (hs4.r 13 rfl) (gd_c (hs4.k 16 rfl) (bI_c hs4 rfl rfl rfl (fun r5 h5 hs5 => (gd_c (hs5.k 15 rfl) (bL_c hs5 rfl rfl rfl (fun r6 h6 hs6 => (ite_c rfl (rd_c (hs6.k 15 rfl) (hs6.r 13 rfl) (gd_c (hs6.k 16 rfl) (bI_c hs6 rfl rfl rfl (fun r7 h7 hs7 => (gd_c (hs7.k 12 rfl) (bV_c hs7 rfl rfl rfl (fun h8 hs8 => (rd_c (hs8.k 15 rfl) (hs8.r 13 rfl) (gd_c (hs8.k 16 rfl) rfl)))))))))))))))))))))))))))))) rfl))))))
set_option maxRecDepth 10000 in
theorem g83_194 (w2 : Value) (w3 : Value) (w4 : Value) (a5 : Int32) (a6 : Int32) (a7 : Int64) (w8 : Value) (a9 : Int32) (a10 : Int32) (a11 : Int32) (a12 : Int32) (a13 : Int32) (w14 : Value) (w15 : Value) (w16 : Value) (h : HP) (hs : SH h) : X (83, 194, [.ref 15, .ref 12, w2, w3, w4, .int a5, .int a6, .long a7, w8, .int a9, .int a10, .int a11, .int a12, .int a13, w14, w15, w16], [], h) = X (83, 64, [.ref 15, .ref 12, w2, w3, w4, .int a5, .int a6, .long a7, w8, .int a9, .int a10, .int a11, .int a12, .int (a13 + 1), w14, w15, w16], [], h) :=
  (r83_194 15 12 w2 w3 w4 a5 a6 a7 w8 a9 a10 a11 a12 a13 w14 w15 w16 h).trans rfl
set_option maxRecDepth 10000 in
theorem g83_200 (w2 : Value) (w3 : Value) (w4 : Value) (a5 : Int32) (a6 : Int32) (a7 : Int64) (w8 : Value) (a9 : Int32) (a10 : Int32) (a11 : Int32) (w12 : Value) (w13 : Value) (w14 : Value) (w15 : Value) (w16 : Value) (h : HP) (hs : SH h) : X (83, 200, [.ref 15, .ref 12, w2, w3, w4, .int a5, .int a6, .long a7, w8, .int a9, .int a10, .int a11, w12, w13, w14, w15, w16], [], h) = X (83, 33, [.ref 15, .ref 12, w2, w3, w4, .int a5, .int a6, .long a7, w8, .int a9, .int a10, .int (a11 + 1), w12, w13, w14, w15, w16], [], h) :=
  (r83_200 15 12 w2 w3 w4 a5 a6 a7 w8 a9 a10 a11 w12 w13 w14 w15 w16 h).trans rfl
/-! 84 X4_ahead -/
set_option maxRecDepth 10000 in
theorem g84_0 (a2 : Int32) (w3 : Value) (w4 : Value) (w5 : Value) (w6 : Value) (w7 : Value) (w8 : Value) (w9 : Value) (w10 : Value) (w11 : Value) (w12 : Value) (w13 : Value) (w14 : Value) (h : HP) (hs : SH h) : X (84, 0, [.ref 15, .ref 12, .int a2, w3, w4, w5, w6, w7, w8, w9, w10, w11, w12, w13, w14], [], h) = bI (X (6, 0, [.ref 6], [], h)) (fun r1 h1 => if a2 = ((-1)) then (X (84, 32, [.ref 15, .ref 12, .int a2, .int r1, .int 1, .long 0, .null, .int a2, .int 0, .int 0, w10, w11, w12, w13, w14], [], h1)) else (X (84, 32, [.ref 15, .ref 12, .int a2, .int r1, .int 0, .long 0, .null, .int a2, .int 0, .int 0, w10, w11, w12, w13, w14], [], h1))) :=
  (r84_0 15 12 a2 w3 w4 w5 w6 w7 w8 w9 w10 w11 w12 w13 w14 h).trans (rd_c (hs.k 15 rfl) (hs.r 12 rfl) (gd_c (hs.k 6 rfl) rfl))
set_option maxRecDepth 10000 in
theorem g84_32 (w2 : Value) (a3 : Int32) (a4 : Int32) (a5 : Int64) (w6 : Value) (a7 : Int32) (a8 : Int32) (a9 : Int32) (w10 : Value) (w11 : Value) (w12 : Value) (w13 : Value) (w14 : Value) (h : HP) (hs : SH h) : X (84, 32, [.ref 15, .ref 12, w2, .int a3, .int a4, .long a5, w6, .int a7, .int a8, .int a9, w10, w11, w12, w13, w14], [], h) = if a3 ≤ a9 then (some (some (.long a5), h)) else (bI (X (53, 0, [.ref 12, .int a9], [], h)) (fun r1 h1 => bI (X (45, 0, [.ref 16, .int (a9 + 1)], [], h1)) (fun r2 h2 => bI (X (45, 0, [.ref 16, .int a9], [], h2)) (fun r3 h3 => X (84, 70, [.ref 15, .ref 12, w2, .int a3, .int a4, .long a5, w6, .int a7, .int a8, .int a9, .int r1, .int r2, .int r3, w13, w14], [], h3))))) :=
  (r84_32 15 12 w2 a3 a4 a5 w6 a7 a8 a9 w10 w11 w12 w13 w14 h).trans (ite_c rfl (gd_c (hs.k 12 rfl) (bI_c hs rfl rfl rfl (fun r1 h1 hs1 => (rd_c (hs1.k 15 rfl) (hs1.r 13 rfl) (gd_c (hs1.k 16 rfl) (bI_c hs1 rfl rfl rfl (fun r2 h2 hs2 => (rd_c (hs2.k 15 rfl) (hs2.r 13 rfl) (gd_c (hs2.k 16 rfl) rfl))))))))))
set_option maxRecDepth 10000 in
theorem g84_70 (w2 : Value) (a3 : Int32) (a4 : Int32) (a5 : Int64) (w6 : Value) (a7 : Int32) (a8 : Int32) (a9 : Int32) (a10 : Int32) (a11 : Int32) (a12 : Int32) (w13 : Value) (w14 : Value) (h : HP) (hs : SH h) : X (84, 70, [.ref 15, .ref 12, w2, .int a3, .int a4, .long a5, w6, .int a7, .int a8, .int a9, .int a10, .int a11, .int a12, w13, w14], [], h) = if a11 ≤ a12 then (X (84, 197, [.ref 15, .ref 12, w2, .int a3, .int a4, .long a5, w6, .int a7, .int a8, .int a9, .int a10, .int a11, .int a12, w13, w14], [], h)) else (bI (X (49, 0, [.ref 16, .int a12], [], h)) (fun r1 h1 => bI (X (47, 0, [.ref 16, .int a12], [], h1)) (fun r2 h2 => if r2 = a8 then (if a10 < r1 then (X (84, 191, [.ref 15, .ref 12, w2, .int a3, .int a4, .long a5, w6, .int a7, .int a8, .int a9, .int a10, .int a11, .int a12, .int r1, w14], [], h2)) else (bI (X (16, 0, [.ref 6, .int a9, .int r1], [], h2)) (fun r3 h3 => if r3 = 0 then (X (84, 191, [.ref 15, .ref 12, w2, .int a3, .int a4, .long a5, w6, .int a7, .int a8, .int a9, .int a10, .int a11, .int a12, .int r1, w14], [], h3)) else (bI (X (50, 0, [.ref 16, .int a12], [], h3)) (fun r4 h4 => if r1 = a10 then (bI (X (48, 0, [.ref 16, .int a12], [], h4)) (fun r5 h5 => X (84, 197, [.ref 15, .ref 12, w2, .int a3, .int a4, .long a5, (nl w6), .int (a7 - r4), .int r5, .int a9, .int a10, .int a11, .int a12, .int r1, .int (a7 - r4)], [], h5))) else (bI (X (48, 0, [.ref 16, .int a12], [], h4)) (fun r6 h6 => bL (X (79, 0, [.ref 15, .int (a9 + 1), .int r6, .int a4, .int (a7 - r4), .null, .null, .null, .null], [], h6)) (fun r7 h7 => X (84, 191, [.ref 15, .ref 12, w2, .int a3, .int a4, .long (a5 + r7), .null, .int a7, .int a8, .int a9, .int a10, .int a11, .int a12, .int r1, .int (a7 - r4)], [], h7))))))))) else (X (84, 191, [.ref 15, .ref 12, w2, .int a3, .int a4, .long a5, w6, .int a7, .int a8, .int a9, .int a10, .int a11, .int a12, .int r1, w14], [], h2))))) :=
  (r84_70 15 12 w2 a3 a4 a5 w6 a7 a8 a9 a10 a11 a12 w13 w14 h).trans (ite_c rfl (rd_c (hs.k 15 rfl) (hs.r 13 rfl) (gd_c (hs.k 16 rfl) (bI_c hs rfl rfl rfl (fun r1 h1 hs1 => (rd_c (hs1.k 15 rfl) (hs1.r 13 rfl) (gd_c (hs1.k 16 rfl) (bI_c hs1 rfl rfl rfl (fun r2 h2 hs2 => (ite_c (ite_c rfl (rd_c (hs2.k 15 rfl) (hs2.r 12 rfl) (gd_c (hs2.k 6 rfl) (bI_c hs2 rfl rfl rfl (fun r3 h3 hs3 => (ite_c rfl (rd_c (hs3.k 15 rfl) (hs3.r 13 rfl) (gd_c (hs3.k 16 rfl) (bI_c hs3 rfl rfl rfl (fun r4 h4 hs4 => (ite_c (rd_c (hs4.k 15 rfl) (hs4.r 13 rfl) (gd_c (hs4.k 16 rfl) rfl)) (rd_c (hs4.k 15 rfl) (hs4.r 13 rfl) (gd_c (hs4.k 16 rfl) (bI_c hs4 rfl rfl rfl (fun r6 h6 hs6 => (gd_c (hs6.k 15 rfl) rfl)))))))))))))))) rfl))))))))))
set_option maxRecDepth 10000 in
theorem g84_191 (w2 : Value) (a3 : Int32) (a4 : Int32) (a5 : Int64) (w6 : Value) (a7 : Int32) (a8 : Int32) (a9 : Int32) (a10 : Int32) (a11 : Int32) (a12 : Int32) (w13 : Value) (w14 : Value) (h : HP) (hs : SH h) : X (84, 191, [.ref 15, .ref 12, w2, .int a3, .int a4, .long a5, w6, .int a7, .int a8, .int a9, .int a10, .int a11, .int a12, w13, w14], [], h) = X (84, 70, [.ref 15, .ref 12, w2, .int a3, .int a4, .long a5, w6, .int a7, .int a8, .int a9, .int a10, .int a11, .int (a12 + 1), w13, w14], [], h) :=
  (r84_191 15 12 w2 a3 a4 a5 w6 a7 a8 a9 a10 a11 a12 w13 w14 h).trans rfl
set_option maxRecDepth 10000 in
theorem g84_197 (w2 : Value) (a3 : Int32) (a4 : Int32) (a5 : Int64) (w6 : Value) (a7 : Int32) (a8 : Int32) (a9 : Int32) (w10 : Value) (w11 : Value) (w12 : Value) (w13 : Value) (w14 : Value) (h : HP) (hs : SH h) : X (84, 197, [.ref 15, .ref 12, w2, .int a3, .int a4, .long a5, w6, .int a7, .int a8, .int a9, w10, w11, w12, w13, w14], [], h) = X (84, 32, [.ref 15, .ref 12, w2, .int a3, .int a4, .long a5, w6, .int a7, .int a8, .int (a9 + 1), w10, w11, w12, w13, w14], [], h) :=
  (r84_197 15 12 w2 a3 a4 a5 w6 a7 a8 a9 w10 w11 w12 w13 w14 h).trans rfl
/-! 86 X5_board -/
set_option maxRecDepth 10000 in
theorem g86_0 (a1 : Int32) (a2 : Int32) (a3 : Int32) (h : HP) (hs : SH h) : X (86, 0, [.ref 5, .int a1, .int a2, .int a3], [], h) = bI (X (1, 0, [.int a1, .int a2, .int a3], [], h)) (fun r1 h1 => if r1 = 0 then (some (some (.int 0), h1)) else (bV (X (3, 0, [.ref 6, .int a1, .int a2, .int a3, .null], [], h1)) (fun h2 => bV (X (52, 0, [.ref 12, .null], [], h2)) (fun h3 => bV (X (68, 0, [.ref 15], [], h3)) (fun h4 => some (some (.int 1), h4)))))) :=
  (r86_0 5 a1 a2 a3 h).trans (bI_c hs rfl rfl rfl (fun r1 h1 hs1 => (ite_c rfl (rd_c (hs1.k 5 rfl) (hs1.r 0 rfl) (gd_c (hs1.k 6 rfl) (bV_c hs1 rfl rfl rfl (fun h2 hs2 => (rd_c (hs2.k 5 rfl) (hs2.r 1 rfl) (gd_c (hs2.k 12 rfl) (bV_c hs2 rfl rfl rfl (fun h3 hs3 => (rd_c (hs3.k 5 rfl) (hs3.r 2 rfl) (gd_c (hs3.k 15 rfl) rfl)))))))))))))
/-! 87 X5_allow -/
set_option maxRecDepth 10000 in
theorem g87_0 (a1 : Int32) (a2 : Int32) (a3 : Int32) (w4 : Value) (w5 : Value) (h : HP) (hs : SH h) : X (87, 0, [.ref 5, .int a1, .int a2, .int a3, w4, w5], [], h) = if a1 = ((-1)) then (bI (X (6, 0, [.ref 6], [], h)) (fun r1 h1 => X (87, 17, [.ref 5, .int a1, .int a2, .int a3, .int r1, .int 0], [], h1))) else (bI (X (11, 0, [.ref 6, .int a1, .int a2], [], h)) (fun r2 h2 => if r2 = ((-1)) then (some (some (.int 0), h2)) else (bV (X (88, 0, [.ref 5, .int r2, .int a3], [], h2)) (fun h3 => some (some (.int 1), h3))))) :=
  (r87_0 5 a1 a2 a3 w4 w5 h).trans (ite_c (rd_c (hs.k 5 rfl) (hs.r 0 rfl) (gd_c (hs.k 6 rfl) rfl)) (rd_c (hs.k 5 rfl) (hs.r 0 rfl) (gd_c (hs.k 6 rfl) (bI_c hs rfl rfl rfl (fun r2 h2 hs2 => (ite_c rfl (gd_c (hs2.k 5 rfl) rfl)))))))
set_option maxRecDepth 10000 in
theorem g87_17 (w1 : Value) (w2 : Value) (a3 : Int32) (a4 : Int32) (a5 : Int32) (h : HP) (hs : SH h) : X (87, 17, [.ref 5, w1, w2, .int a3, .int a4, .int a5], [], h) = if a4 ≤ a5 then (some (some (.int 1), h)) else (bV (X (88, 0, [.ref 5, .int a5, .int a3], [], h)) (fun h1 => X (87, 17, [.ref 5, w1, w2, .int a3, .int a4, .int (a5 + 1)], [], h1))) :=
  (r87_17 5 w1 w2 a3 a4 a5 h).trans (ite_c rfl (gd_c (hs.k 5 rfl) rfl))
/-! 88 X5_permit -/
set_option maxRecDepth 10000 in
theorem g88_0 (a1 : Int32) (a2 : Int32) (h : HP) (hs : SH h) : X (88, 0, [.ref 5, .int a1, .int a2], [], h) = bI (X (14, 0, [.ref 6, .int a1, .int a2, .null], [], h)) (fun r1 h1 => if r1 = 0 then (some (none, h1)) else (bV (X (69, 0, [.ref 15, .int a1], [], h1)) (fun h2 => some (none, h2)))) :=
  (r88_0 5 a1 a2 h).trans (rd_c (hs.k 5 rfl) (hs.r 0 rfl) (gd_c (hs.k 6 rfl) (bI_c hs rfl rfl rfl (fun r1 h1 hs1 => (ite_c rfl (rd_c (hs1.k 5 rfl) (hs1.r 2 rfl) (gd_c (hs1.k 15 rfl) rfl)))))))
/-! 89 X5_allowed -/
set_option maxRecDepth 10000 in
theorem g89_0 (a1 : Int32) (a2 : Int32) (w3 : Value) (h : HP) (hs : SH h) : X (89, 0, [.ref 5, .int a1, .int a2, w3], [], h) = bI (X (11, 0, [.ref 6, .int a1, .int a2], [], h)) (fun r1 h1 => if r1 = ((-1)) then (some (some (.int ((-1))), h1)) else (bI (X (15, 0, [.ref 6, .int r1], [], h1)) (fun r2 h2 => some (some (.int r2), h2)))) :=
  (r89_0 5 a1 a2 w3 h).trans (rd_c (hs.k 5 rfl) (hs.r 0 rfl) (gd_c (hs.k 6 rfl) (bI_c hs rfl rfl rfl (fun r1 h1 hs1 => (ite_c rfl (rd_c (hs1.k 5 rfl) (hs1.r 0 rfl) (gd_c (hs1.k 6 rfl) rfl)))))))
/-! 90 X5_count -/
set_option maxRecDepth 10000 in
theorem g90_0 (a1 : Int32) (h : HP) (hs : SH h) : X (90, 0, [.ref 5, .int a1], [], h) = bV (X (71, 0, [.ref 15, .null], [], h)) (fun h1 => bL (X (70, 0, [.ref 15, .int a1], [], h1)) (fun r1 h2 => some (some (.long r1), h2))) :=
  (r90_0 5 a1 h).trans (rd_c (hs.k 5 rfl) (hs.r 2 rfl) (gd_c (hs.k 15 rfl) (bV_c hs rfl rfl rfl (fun h1 hs1 => (rd_c (hs1.k 5 rfl) (hs1.r 2 rfl) (gd_c (hs1.k 15 rfl) rfl))))))
/-! 91 X5_weigh -/
set_option maxRecDepth 10000 in
theorem g91_0 (a1 : Int32) (w2 : Value) (w3 : Value) (w4 : Value) (w5 : Value) (w6 : Value) (h : HP) (hs : SH h) : X (91, 0, [.ref 5, .int a1, w2, w3, w4, w5, w6], [], h) = bV (X (71, 0, [.ref 15, .null], [], h)) (fun h1 => X (91, 15, [.ref 5, .int a1, .long 0, .null, .long 1, .null, .int 0], [], h1)) :=
  (r91_0 5 a1 w2 w3 w4 w5 w6 h).trans (rd_c (hs.k 5 rfl) (hs.r 2 rfl) (gd_c (hs.k 15 rfl) rfl))
set_option maxRecDepth 10000 in
theorem g91_15 (a1 : Int32) (a2 : Int64) (w3 : Value) (a4 : Int64) (w5 : Value) (a6 : Int32) (h : HP) (hs : SH h) : X (91, 15, [.ref 5, .int a1, .long a2, w3, .long a4, w5, .int a6], [], h) = if 12 < a6 then (some (some (.long a2), h)) else (bL (X (70, 0, [.ref 15, .int a6], [], h)) (fun r1 h1 => X (91, 15, [.ref 5, .int a1, .long (a2 + (a4 * r1)), .null, .long (a4 * a1.toInt64), .null, .int (a6 + 1)], [], h1))) :=
  (r91_15 5 a1 a2 w3 a4 w5 a6 h).trans (ite_c rfl (rd_c (hs.k 5 rfl) (hs.r 2 rfl) (gd_c (hs.k 15 rfl) rfl)))
/-! 92 X5_loopsOf -/
set_option maxRecDepth 10000 in
theorem g92_0 (a1 : Int32) (w2 : Value) (w3 : Value) (w4 : Value) (h : HP) (hs : SH h) : X (92, 0, [.ref 5, .int a1, w2, w3, w4], [], h) = if a1 = 0 then (X (92, 11, [.ref 5, .int a1, w2, w3, w4], [], h)) else (if a1 = 1 then (X (92, 11, [.ref 5, .int a1, w2, w3, w4], [], h)) else (some (some (.int ((-1))), h))) :=
  (r92_0 5 a1 w2 w3 w4 h).trans rfl
set_option maxRecDepth 10000 in
theorem g92_11 (a1 : Int32) (w2 : Value) (w3 : Value) (w4 : Value) (h : HP) (hs : SH h) : X (92, 11, [.ref 5, .int a1, w2, w3, w4], [], h) = bV (X (71, 0, [.ref 15, .null], [], h)) (fun h1 => X (92, 22, [.ref 5, .int a1, .int ((-1)), .int 0, w4], [], h1)) :=
  (r92_11 5 a1 w2 w3 w4 h).trans (rd_c (hs.k 5 rfl) (hs.r 2 rfl) (gd_c (hs.k 15 rfl) rfl))
set_option maxRecDepth 10000 in
theorem g92_22 (a1 : Int32) (a2 : Int32) (a3 : Int32) (w4 : Value) (h : HP) (hs : SH h) : X (92, 22, [.ref 5, .int a1, .int a2, .int a3, w4], [], h) = if 12 < a3 then (some (some (.int a2), h)) else (if a1 = 1 then (X (92, 38, [.ref 5, .int a1, .int a2, .int a3, w4], [], h)) else (if a2 = ((-1)) then (X (92, 38, [.ref 5, .int a1, .int a2, .int a3, w4], [], h)) else (X (92, 65, [.ref 5, .int a1, .int a2, .int a3, .int 0], [], h)))) :=
  (r92_22 5 a1 a2 a3 w4 h).trans (ite_c rfl (ite_c rfl (ite_c rfl (ift_c (by decide) rfl))))
set_option maxRecDepth 10000 in
theorem g92_38 (a1 : Int32) (a2 : Int32) (a3 : Int32) (w4 : Value) (h : HP) (hs : SH h) : X (92, 38, [.ref 5, .int a1, .int a2, .int a3, w4], [], h) = bL (X (70, 0, [.ref 15, .int a3], [], h)) (fun r1 h1 => if (lg_cmp r1 0) ≤ 0 then (X (92, 65, [.ref 5, .int a1, .int a2, .int a3, .int 1], [], h1)) else (X (92, 65, [.ref 5, .int a1, .int a3, .int a3, .int 1], [], h1))) :=
  (r92_38 5 a1 a2 a3 w4 h).trans (iff_c (by decide) ((rd_c (hs.k 5 rfl) (hs.r 2 rfl) (gd_c (hs.k 15 rfl) rfl))))
set_option maxRecDepth 10000 in
theorem g92_65 (a1 : Int32) (a2 : Int32) (a3 : Int32) (w4 : Value) (h : HP) (hs : SH h) : X (92, 65, [.ref 5, .int a1, .int a2, .int a3, w4], [], h) = X (92, 22, [.ref 5, .int a1, .int a2, .int (a3 + 1), w4], [], h) :=
  (r92_65 5 a1 a2 a3 w4 h).trans rfl
/-! 93 X5_having -/
set_option maxRecDepth 10000 in
theorem g93_0 (a1 : Int32) (a2 : Int32) (a3 : Int32) (w4 : Value) (h : HP) (hs : SH h) : X (93, 0, [.ref 5, .int a1, .int a2, .int a3, w4], [], h) = bI (X (11, 0, [.ref 6, .int a1, .int a2], [], h)) (fun r1 h1 => if r1 = ((-1)) then (some (some (.long ((-1))), h1)) else (bI (X (103, 0, [.int a3], [], h1)) (fun r2 h2 => if r2 = 0 then (some (some (.long ((-1))), h2)) else (bV (X (71, 0, [.ref 15, .null], [], h2)) (fun h3 => bL (X (80, 0, [.ref 15, .int r1, .int a3, .null, .null, .null, .null, .null], [], h3)) (fun r3 h4 => some (some (.long r3), h4))))))) :=
  (r93_0 5 a1 a2 a3 w4 h).trans (rd_c (hs.k 5 rfl) (hs.r 0 rfl) (gd_c (hs.k 6 rfl) (bI_c hs rfl rfl rfl (fun r1 h1 hs1 => (ite_c rfl (bI_c hs1 rfl rfl rfl (fun r2 h2 hs2 => (ite_c rfl (rd_c (hs2.k 5 rfl) (hs2.r 2 rfl) (gd_c (hs2.k 15 rfl) (bV_c hs2 rfl rfl rfl (fun h3 hs3 => (rd_c (hs3.k 5 rfl) (hs3.r 2 rfl) (gd_c (hs3.k 15 rfl) rfl))))))))))))))
/-! 94 X5_put -/
set_option maxRecDepth 10000 in
theorem g94_0 (a1 : Int32) (a2 : Int32) (a3 : Int32) (w4 : Value) (w5 : Value) (h : HP) (hs : SH h) : X (94, 0, [.ref 5, .int a1, .int a2, .int a3, w4, w5], [], h) = bI (X (11, 0, [.ref 6, .int a1, .int a2], [], h)) (fun r1 h1 => if r1 = ((-1)) then (some (some (.int ((-1))), h1)) else (bI (X (103, 0, [.int a3], [], h1)) (fun r2 h2 => if r2 = 0 then (some (some (.int ((-1))), h2)) else (bI (X (53, 0, [.ref 12, .int r1], [], h2)) (fun r3 h3 => bV (X (54, 0, [.ref 12, .int r1, .int a3], [], h3)) (fun h4 => some (some (.int r3), h4))))))) :=
  (r94_0 5 a1 a2 a3 w4 w5 h).trans (rd_c (hs.k 5 rfl) (hs.r 0 rfl) (gd_c (hs.k 6 rfl) (bI_c hs rfl rfl rfl (fun r1 h1 hs1 => (ite_c rfl (bI_c hs1 rfl rfl rfl (fun r2 h2 hs2 => (ite_c rfl (rd_c (hs2.k 5 rfl) (hs2.r 1 rfl) (gd_c (hs2.k 12 rfl) (bI_c hs2 rfl rfl rfl (fun r3 h3 hs3 => (rd_c (hs3.k 5 rfl) (hs3.r 1 rfl) (gd_c (hs3.k 12 rfl) rfl))))))))))))))
/-! 95 X5_tile -/
set_option maxRecDepth 10000 in
theorem g95_0 (a1 : Int32) (a2 : Int32) (w3 : Value) (h : HP) (hs : SH h) : X (95, 0, [.ref 5, .int a1, .int a2, w3], [], h) = bI (X (11, 0, [.ref 6, .int a1, .int a2], [], h)) (fun r1 h1 => if r1 = ((-1)) then (some (some (.int ((-1))), h1)) else (bI (X (53, 0, [.ref 12, .int r1], [], h1)) (fun r2 h2 => some (some (.int r2), h2)))) :=
  (r95_0 5 a1 a2 w3 h).trans (rd_c (hs.k 5 rfl) (hs.r 0 rfl) (gd_c (hs.k 6 rfl) (bI_c hs rfl rfl rfl (fun r1 h1 hs1 => (ite_c rfl (rd_c (hs1.k 5 rfl) (hs1.r 1 rfl) (gd_c (hs1.k 12 rfl) rfl)))))))
/-! 96 X5_loops -/
set_option maxRecDepth 10000 in
theorem g96_0 (h : HP) (hs : SH h) : X (96, 0, [.ref 5], [], h) = bI (X (56, 0, [.ref 12], [], h)) (fun r1 h1 => if r1 = 0 then (some (some (.int ((-1))), h1)) else (bI (X (57, 0, [.ref 12], [], h1)) (fun r2 h2 => some (some (.int r2), h2)))) :=
  (r96_0 5 h).trans (rd_c (hs.k 5 rfl) (hs.r 1 rfl) (gd_c (hs.k 12 rfl) (bI_c hs rfl rfl rfl (fun r1 h1 hs1 => (ite_c rfl (rd_c (hs1.k 5 rfl) (hs1.r 1 rfl) (gd_c (hs1.k 12 rfl) rfl)))))))
/-! 97 X5_wrong -/
set_option maxRecDepth 10000 in
theorem g97_0 (h : HP) (hs : SH h) : X (97, 0, [.ref 5], [], h) = bI (X (55, 0, [.ref 12, .null, .null, .null], [], h)) (fun r1 h1 => some (some (.int r1), h1)) :=
  (r97_0 5 h).trans (rd_c (hs.k 5 rfl) (hs.r 1 rfl) (gd_c (hs.k 12 rfl) rfl))
/-! 98 X5_find -/
set_option maxRecDepth 10000 in
theorem g98_0 (a1 : Int32) (a2 : Int64) (w3 : Value) (h : HP) (hs : SH h) : X (98, 0, [.ref 5, .int a1, .long a2, w3], [], h) = bV (X (71, 0, [.ref 15, .null], [], h)) (fun h1 => if (lg_cmp a2 0) < 0 then (some (some (.int 0), h1)) else (bL (X (70, 0, [.ref 15, .int a1], [], h1)) (fun r1 h2 => if (lg_cmp a2 r1) < 0 then (bV (X (83, 0, [.ref 15, .ref 12, .int a1, .long a2, .null, .null, .null, .null, .null, .null, .null, .null, .null, .null, .null, .null, .null], [], h2)) (fun h3 => some (some (.int 1), h3))) else (some (some (.int 0), h2))))) :=
  (r98_0 5 a1 a2 w3 h).trans (rd_c (hs.k 5 rfl) (hs.r 2 rfl) (gd_c (hs.k 15 rfl) (bV_c hs rfl rfl rfl (fun h1 hs1 => (ite_c rfl (rd_c (hs1.k 5 rfl) (hs1.r 2 rfl) (gd_c (hs1.k 15 rfl) (bL_c hs1 rfl rfl rfl (fun r1 h2 hs2 => (ite_c (rd_c (hs2.k 5 rfl) (hs2.r 2 rfl) (rd_c (hs2.k 5 rfl) (hs2.r 1 rfl) (gd_c (hs2.k 15 rfl) rfl))) rfl))))))))))
/-! 99 X5_rank -/
set_option maxRecDepth 10000 in
theorem g99_0 (a1 : Int32) (h : HP) (hs : SH h) : X (99, 0, [.ref 5, .int a1], [], h) = bI (X (56, 0, [.ref 12], [], h)) (fun r1 h1 => if r1 = 0 then (some (some (.long ((-1))), h1)) else (bV (X (71, 0, [.ref 15, .null], [], h1)) (fun h2 => if a1 = 0 then (bL (X (84, 0, [.ref 15, .ref 12, .int ((-1)), .null, .null, .null, .null, .null, .null, .null, .null, .null, .null, .null, .null], [], h2)) (fun r2 h3 => some (some (.long r2), h3))) else (bI (X (57, 0, [.ref 12], [], h2)) (fun r3 h4 => bL (X (84, 0, [.ref 15, .ref 12, .int r3, .null, .null, .null, .null, .null, .null, .null, .null, .null, .null, .null, .null], [], h4)) (fun r4 h5 => some (some (.long r4), h5))))))) :=
  (r99_0 5 a1 h).trans (rd_c (hs.k 5 rfl) (hs.r 1 rfl) (gd_c (hs.k 12 rfl) (bI_c hs rfl rfl rfl (fun r1 h1 hs1 => (ite_c rfl (rd_c (hs1.k 5 rfl) (hs1.r 2 rfl) (gd_c (hs1.k 15 rfl) (bV_c hs1 rfl rfl rfl (fun h2 hs2 => (rd_c (hs2.k 5 rfl) (hs2.r 2 rfl) (rd_c (hs2.k 5 rfl) (hs2.r 1 rfl) (ite_c (gd_c (hs2.k 15 rfl) rfl) (rd_c (hs2.k 5 rfl) (hs2.r 1 rfl) (gd_c (hs2.k 12 rfl) (bI_c hs2 rfl rfl rfl (fun r3 h4 hs4 => (gd_c (hs4.k 15 rfl) rfl)))))))))))))))))
/-! 100 X5_length -/
set_option maxRecDepth 10000 in
theorem g100_0 (a1 : Int32) (a2 : Int32) (a3 : Int32) (w4 : Value) (w5 : Value) (h : HP) (hs : SH h) : X (100, 0, [.ref 5, .int a1, .int a2, .int a3, w4, w5], [], h) = bI (X (11, 0, [.ref 6, .int a1, .int a2], [], h)) (fun r1 h1 => if r1 = ((-1)) then (some (some (.int ((-1))), h1)) else (if a3 < 0 then (some (some (.int ((-1))), h1)) else (if 1 < a3 then (some (some (.int ((-1))), h1)) else (bI (X (56, 0, [.ref 12], [], h1)) (fun r2 h2 => if r2 = 0 then (some (some (.int ((-1))), h2)) else (bI (X (58, 0, [.ref 12, .int r1, .int a3, .null], [], h2)) (fun r3 h3 => if r3 = ((-1)) then (some (some (.int 0), h3)) else (bI (X (61, 0, [.ref 12, .int r3, .null, .null, .null, .null, .null, .null], [], h3)) (fun r4 h4 => some (some (.int r4), h4)))))))))) :=
  (r100_0 5 a1 a2 a3 w4 w5 h).trans (rd_c (hs.k 5 rfl) (hs.r 0 rfl) (gd_c (hs.k 6 rfl) (bI_c hs rfl rfl rfl (fun r1 h1 hs1 => (ite_c rfl (ite_c rfl (ite_c rfl (rd_c (hs1.k 5 rfl) (hs1.r 1 rfl) (gd_c (hs1.k 12 rfl) (bI_c hs1 rfl rfl rfl (fun r2 h2 hs2 => (ite_c rfl (rd_c (hs2.k 5 rfl) (hs2.r 1 rfl) (gd_c (hs2.k 12 rfl) (bI_c hs2 rfl rfl rfl (fun r3 h3 hs3 => (ite_c rfl (rd_c (hs3.k 5 rfl) (hs3.r 1 rfl) (gd_c (hs3.k 12 rfl) rfl)))))))))))))))))))
/-! 101 X5_longest -/
set_option maxRecDepth 10000 in
theorem g101_0 (h : HP) (hs : SH h) : X (101, 0, [.ref 5], [], h) = bI (X (56, 0, [.ref 12], [], h)) (fun r1 h1 => if r1 = 0 then (some (some (.int ((-1))), h1)) else (bI (X (66, 0, [.ref 12, .null, .null, .null, .null, .null], [], h1)) (fun r2 h2 => some (some (.int r2), h2)))) :=
  (r101_0 5 h).trans (rd_c (hs.k 5 rfl) (hs.r 1 rfl) (gd_c (hs.k 12 rfl) (bI_c hs rfl rfl rfl (fun r1 h1 hs1 => (ite_c rfl (rd_c (hs1.k 5 rfl) (hs1.r 1 rfl) (gd_c (hs1.k 12 rfl) rfl)))))))
/-! 102 X5_same -/
set_option maxRecDepth 10000 in
theorem g102_0 (a1 : Int32) (a2 : Int32) (a3 : Int32) (a4 : Int32) (a5 : Int32) (a6 : Int32) (w7 : Value) (w8 : Value) (h : HP) (hs : SH h) : X (102, 0, [.ref 5, .int a1, .int a2, .int a3, .int a4, .int a5, .int a6, w7, w8], [], h) = bI (X (11, 0, [.ref 6, .int a1, .int a2], [], h)) (fun r1 h1 => bI (X (58, 0, [.ref 12, .int r1, .int a3, .null], [], h1)) (fun r2 h2 => bI (X (11, 0, [.ref 6, .int a4, .int a5], [], h2)) (fun r3 h3 => bI (X (58, 0, [.ref 12, .int r3, .int a6, .null], [], h3)) (fun r4 h4 => if r2 = ((-1)) then (some (some (.int ((-1))), h4)) else (if r4 = ((-1)) then (some (some (.int ((-1))), h4)) else (bI (X (56, 0, [.ref 12], [], h4)) (fun r5 h5 => if r5 = 0 then (some (some (.int ((-1))), h5)) else (bV (X (59, 0, [.ref 12, .null], [], h5)) (fun h6 => bI (X (61, 0, [.ref 12, .int r2, .null, .null, .null, .null, .null, .null], [], h6)) (fun r6 h7 => bI (X (60, 0, [.ref 12, .int r4], [], h7)) (fun r7 h8 => if r7 = 0 then (some (some (.int 0), h8)) else (some (some (.int 1), h8))))))))))))) :=
  (r102_0 5 a1 a2 a3 a4 a5 a6 w7 w8 h).trans (rd_c (hs.k 5 rfl) (hs.r 1 rfl) (rd_c (hs.k 5 rfl) (hs.r 0 rfl) (gd_c (hs.k 6 rfl) (bI_c hs rfl rfl rfl (fun r1 h1 hs1 => (gd_c (hs1.k 12 rfl) (bI_c hs1 rfl rfl rfl (fun r2 h2 hs2 => (rd_c (hs2.k 5 rfl) (hs2.r 1 rfl) (rd_c (hs2.k 5 rfl) (hs2.r 0 rfl) (gd_c (hs2.k 6 rfl) (bI_c hs2 rfl rfl rfl (fun r3 h3 hs3 => (gd_c (hs3.k 12 rfl) (bI_c hs3 rfl rfl rfl (fun r4 h4 hs4 => (ite_c rfl (ite_c rfl (rd_c (hs4.k 5 rfl) (hs4.r 1 rfl) (gd_c (hs4.k 12 rfl) (bI_c hs4 rfl rfl rfl (fun r5 h5 hs5 => (ite_c rfl (rd_c (hs5.k 5 rfl) (hs5.r 1 rfl) (gd_c (hs5.k 12 rfl) (bV_c hs5 rfl rfl rfl (fun h6 hs6 => (rd_c (hs6.k 5 rfl) (hs6.r 1 rfl) (gd_c (hs6.k 12 rfl) (bI_c hs6 rfl rfl rfl (fun r6 h7 hs7 => (rd_c (hs7.k 5 rfl) (hs7.r 1 rfl) (gd_c (hs7.k 12 rfl) rfl)))))))))))))))))))))))))))))))))
/-! 103 X5_isTile -/
set_option maxRecDepth 10000 in
theorem g103_0 (a0 : Int32) (h : HP) (hs : SH h) : X (103, 0, [.int a0], [], h) = if a0 < 0 then (some (some (.int 0), h)) else (if 10 ≤ a0 then (some (some (.int 0), h)) else (some (some (.int 1), h))) :=
  (r103_0 a0 h).trans rfl
