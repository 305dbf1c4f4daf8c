/-! the constructors -/
/-- values written into an array, one after the other -/
def wrs (h : HP) (q : Nat) : Nat → List Int32 → HP
  | _, [] => h
  | i, v :: l => wrs (sI h q i v) q (i + 1) l
theorem wrs_n (h : HP) (q i : Nat) : wrs h q i [] = h := rfl
theorem wrs_c (h : HP) (q i i' : Nat) (v : Int32) (l : List Int32) (e : i + 1 = i') : wrs h q i (v :: l) = wrs (sI h q i v) q i' l := by
  subst e
  rfl
theorem wrs_fr : ∀ (l : List Int32) (h : HP) (q i : Nat), Fr [q] [] h (wrs h q i l) := by
  intro l
  induction l with
  | nil => intro h q i; exact Fr.rf
  | cons v l ih => intro h q i; exact (Fr.sI (by simp)).tr (ih (sI h q i v) q (i + 1))
theorem wrs_at : ∀ (l : List Int32) (h : HP) (q i j : Nat), hI (wrs h q i l) q j = if i ≤ j ∧ j < i + l.length then l.getD (j - i) 0 else hI h q j := by
  intro l
  induction l with
  | nil => intro h q i j; rw [wrs, if_neg (by simp)]
  | cons v l ih =>
    intro h q i j
    rw [wrs, ih, List.length_cons]
    by_cases u : j = i
    · subst u
      rw [if_neg (by omega), hI_sI_same, if_pos (by omega), Nat.sub_self]; rfl
    · rw [hI_sI_ne _ _ u]
      by_cases w : i + 1 ≤ j ∧ j < i + 1 + l.length
      · rw [if_pos w, if_pos (by omega), show j - i = (j - (i + 1)) + 1 by omega]; rfl
      · rw [if_neg w, if_neg (by omega)]
theorem m104_4 {h : HP} (k : hK h 26 = 6) : X (104, 4, [.ref 26], [], h) = X (104, 9, [.ref 26], [], sI h 26 0 1) := by
  rw [e104_4, e104_5, e104_6, if_pos k]
theorem m104_9 {h : HP} (k : hK h 26 = 6) : X (104, 9, [.ref 26], [], h) = X (104, 14, [.ref 26], [], sI h 26 1 1) := by
  rw [e104_9, e104_10, e104_11, if_pos k]
theorem m104_14 {h : HP} (z : hZ h = 27) (k : hK h 26 = 6) : X (104, 14, [.ref 26], [], h) = X (104, 22, [.ref 26], [], sR (nw h 10 20 20) 26 3 (some 27)) := by
  have kk : hK (nw h 10 20 20) 26 = 6 := by rw [hK_nw, if_neg (by omega)]; exact k
  rw [e104_14, e104_15, e104_17, z, e104_19, if_pos kk]
theorem m104_22 {h : HP} (z : hZ h = 28) (k : hK h 26 = 6) : X (104, 22, [.ref 26], [], h) = X (104, 30, [.ref 26], [], sR (nw h 10 20 20) 26 4 (some 28)) := by
  have kk : hK (nw h 10 20 20) 26 = 6 := by rw [hK_nw, if_neg (by omega)]; exact k
  rw [e104_22, e104_23, e104_25, z, e104_27, if_pos kk]
theorem st104_35 (g : HP) (k : hK g 29 = 10) (n : hN g 29 = 10) : X (104, 35, [.ref 26], [.ref 29, .ref 26], g) = X (104, 39, [.ref 26], [.ref 29, .ref 26], sI g 29 0 0) := by
  have c : hK g 29 = 10 ∧ inB 0 (hN g 29) = true := ⟨k, by rw [n]; decide⟩
  have e : (0 : Int32).toNatClampNeg = 0 := by decide
  rw [e104_35, e104_36, e104_37, e104_38, if_pos c, e]
theorem st104_39 (g : HP) (k : hK g 29 = 10) (n : hN g 29 = 10) : X (104, 39, [.ref 26], [.ref 29, .ref 26], g) = X (104, 43, [.ref 26], [.ref 29, .ref 26], sI g 29 1 1) := by
  have c : hK g 29 = 10 ∧ inB 1 (hN g 29) = true := ⟨k, by rw [n]; decide⟩
  have e : (1 : Int32).toNatClampNeg = 1 := by decide
  rw [e104_39, e104_40, e104_41, e104_42, if_pos c, e]
theorem st104_43 (g : HP) (k : hK g 29 = 10) (n : hN g 29 = 10) : X (104, 43, [.ref 26], [.ref 29, .ref 26], g) = X (104, 47, [.ref 26], [.ref 29, .ref 26], sI g 29 2 1) := by
  have c : hK g 29 = 10 ∧ inB 2 (hN g 29) = true := ⟨k, by rw [n]; decide⟩
  have e : (2 : Int32).toNatClampNeg = 2 := by decide
  rw [e104_43, e104_44, e104_45, e104_46, if_pos c, e]
theorem st104_47 (g : HP) (k : hK g 29 = 10) (n : hN g 29 = 10) : X (104, 47, [.ref 26], [.ref 29, .ref 26], g) = X (104, 51, [.ref 26], [.ref 29, .ref 26], sI g 29 3 1) := by
  have c : hK g 29 = 10 ∧ inB 3 (hN g 29) = true := ⟨k, by rw [n]; decide⟩
  have e : (3 : Int32).toNatClampNeg = 3 := by decide
  rw [e104_47, e104_48, e104_49, e104_50, if_pos c, e]
theorem st104_51 (g : HP) (k : hK g 29 = 10) (n : hN g 29 = 10) : X (104, 51, [.ref 26], [.ref 29, .ref 26], g) = X (104, 55, [.ref 26], [.ref 29, .ref 26], sI g 29 4 1) := by
  have c : hK g 29 = 10 ∧ inB 4 (hN g 29) = true := ⟨k, by rw [n]; decide⟩
  have e : (4 : Int32).toNatClampNeg = 4 := by decide
  rw [e104_51, e104_52, e104_53, e104_54, if_pos c, e]
theorem st104_55 (g : HP) (k : hK g 29 = 10) (n : hN g 29 = 10) : X (104, 55, [.ref 26], [.ref 29, .ref 26], g) = X (104, 59, [.ref 26], [.ref 29, .ref 26], sI g 29 5 1) := by
  have c : hK g 29 = 10 ∧ inB 5 (hN g 29) = true := ⟨k, by rw [n]; decide⟩
  have e : (5 : Int32).toNatClampNeg = 5 := by decide
  rw [e104_55, e104_56, e104_57, e104_58, if_pos c, e]
theorem st104_59 (g : HP) (k : hK g 29 = 10) (n : hN g 29 = 10) : X (104, 59, [.ref 26], [.ref 29, .ref 26], g) = X (104, 64, [.ref 26], [.ref 29, .ref 26], sI g 29 6 1) := by
  have c : hK g 29 = 10 ∧ inB 6 (hN g 29) = true := ⟨k, by rw [n]; decide⟩
  have e : (6 : Int32).toNatClampNeg = 6 := by decide
  rw [e104_59, e104_60, e104_62, e104_63, if_pos c, e]
theorem st104_64 (g : HP) (k : hK g 29 = 10) (n : hN g 29 = 10) : X (104, 64, [.ref 26], [.ref 29, .ref 26], g) = X (104, 69, [.ref 26], [.ref 29, .ref 26], sI g 29 7 2) := by
  have c : hK g 29 = 10 ∧ inB 7 (hN g 29) = true := ⟨k, by rw [n]; decide⟩
  have e : (7 : Int32).toNatClampNeg = 7 := by decide
  rw [e104_64, e104_65, e104_67, e104_68, if_pos c, e]
theorem st104_69 (g : HP) (k : hK g 29 = 10) (n : hN g 29 = 10) : X (104, 69, [.ref 26], [.ref 29, .ref 26], g) = X (104, 74, [.ref 26], [.ref 29, .ref 26], sI g 29 8 2) := by
  have c : hK g 29 = 10 ∧ inB 8 (hN g 29) = true := ⟨k, by rw [n]; decide⟩
  have e : (8 : Int32).toNatClampNeg = 8 := by decide
  rw [e104_69, e104_70, e104_72, e104_73, if_pos c, e]
theorem st104_74 (g : HP) (k : hK g 29 = 10) (n : hN g 29 = 10) : X (104, 74, [.ref 26], [.ref 29, .ref 26], g) = X (104, 79, [.ref 26], [.ref 29, .ref 26], sI g 29 9 2) := by
  have c : hK g 29 = 10 ∧ inB 9 (hN g 29) = true := ⟨k, by rw [n]; decide⟩
  have e : (9 : Int32).toNatClampNeg = 9 := by decide
  rw [e104_74, e104_75, e104_77, e104_78, if_pos c, e]
theorem ch104_30 : ∀ (g : HP), hK g 29 = 10 → hN g 29 = 10 → X (104, 35, [.ref 26], [.ref 29, .ref 26], g) = X (104, 79, [.ref 26], [.ref 29, .ref 26], wrs g 29 0 [0, 1, 1, 1, 1, 1, 1, 2, 2, 2]) := by
  intro g0 k0 n0
  rw [st104_35 g0 k0 n0, wrs_c g0 29 0 1 0 _ rfl]
  have k1 : hK (sI g0 29 0 0) 29 = 10 := by rw [hK_sI]; exact k0
  have n1 : hN (sI g0 29 0 0) 29 = 10 := by rw [hN_sI]; exact n0
  generalize sI g0 29 0 0 = g1 at k1 n1 ⊢
  rw [st104_39 g1 k1 n1, wrs_c g1 29 1 2 1 _ rfl]
  have k2 : hK (sI g1 29 1 1) 29 = 10 := by rw [hK_sI]; exact k1
  have n2 : hN (sI g1 29 1 1) 29 = 10 := by rw [hN_sI]; exact n1
  generalize sI g1 29 1 1 = g2 at k2 n2 ⊢
  rw [st104_43 g2 k2 n2, wrs_c g2 29 2 3 1 _ rfl]
  have k3 : hK (sI g2 29 2 1) 29 = 10 := by rw [hK_sI]; exact k2
  have n3 : hN (sI g2 29 2 1) 29 = 10 := by rw [hN_sI]; exact n2
  generalize sI g2 29 2 1 = g3 at k3 n3 ⊢
  rw [st104_47 g3 k3 n3, wrs_c g3 29 3 4 1 _ rfl]
  have k4 : hK (sI g3 29 3 1) 29 = 10 := by rw [hK_sI]; exact k3
  have n4 : hN (sI g3 29 3 1) 29 = 10 := by rw [hN_sI]; exact n3
  generalize sI g3 29 3 1 = g4 at k4 n4 ⊢
  rw [st104_51 g4 k4 n4, wrs_c g4 29 4 5 1 _ rfl]
  have k5 : hK (sI g4 29 4 1) 29 = 10 := by rw [hK_sI]; exact k4
  have n5 : hN (sI g4 29 4 1) 29 = 10 := by rw [hN_sI]; exact n4
  generalize sI g4 29 4 1 = g5 at k5 n5 ⊢
  rw [st104_55 g5 k5 n5, wrs_c g5 29 5 6 1 _ rfl]
  have k6 : hK (sI g5 29 5 1) 29 = 10 := by rw [hK_sI]; exact k5
  have n6 : hN (sI g5 29 5 1) 29 = 10 := by rw [hN_sI]; exact n5
  generalize sI g5 29 5 1 = g6 at k6 n6 ⊢
  rw [st104_59 g6 k6 n6, wrs_c g6 29 6 7 1 _ rfl]
  have k7 : hK (sI g6 29 6 1) 29 = 10 := by rw [hK_sI]; exact k6
  have n7 : hN (sI g6 29 6 1) 29 = 10 := by rw [hN_sI]; exact n6
  generalize sI g6 29 6 1 = g7 at k7 n7 ⊢
  rw [st104_64 g7 k7 n7, wrs_c g7 29 7 8 2 _ rfl]
  have k8 : hK (sI g7 29 7 2) 29 = 10 := by rw [hK_sI]; exact k7
  have n8 : hN (sI g7 29 7 2) 29 = 10 := by rw [hN_sI]; exact n7
  generalize sI g7 29 7 2 = g8 at k8 n8 ⊢
  rw [st104_69 g8 k8 n8, wrs_c g8 29 8 9 2 _ rfl]
  have k9 : hK (sI g8 29 8 2) 29 = 10 := by rw [hK_sI]; exact k8
  have n9 : hN (sI g8 29 8 2) 29 = 10 := by rw [hN_sI]; exact n8
  generalize sI g8 29 8 2 = g9 at k9 n9 ⊢
  rw [st104_74 g9 k9 n9, wrs_c g9 29 9 10 2 _ rfl]
  have k10 : hK (sI g9 29 9 2) 29 = 10 := by rw [hK_sI]; exact k9
  have n10 : hN (sI g9 29 9 2) 29 = 10 := by rw [hN_sI]; exact n9
  generalize sI g9 29 9 2 = g10 at k10 n10 ⊢
  rw [wrs_n]
theorem m104_30 {h : HP} (z : hZ h = 29) (k : hK h 26 = 6) : X (104, 30, [.ref 26], [], h) = X (104, 82, [.ref 26], [], sR (wrs (nw h 10 10 10) 29 0 [0, 1, 1, 1, 1, 1, 1, 2, 2, 2]) 26 6 (some 29)) := by
  have kk : hK (nw h 10 10 10) 26 = 6 := by rw [hK_nw, if_neg (by omega)]; exact k
  have k2 : hK (nw h 10 10 10) 29 = 10 := by rw [hK_nw, if_pos z.symm]
  have n2 : hN (nw h 10 10 10) 29 = 10 := by rw [hN_nw, if_pos z.symm]
  have kw : hK (wrs (nw h 10 10 10) 29 0 [0, 1, 1, 1, 1, 1, 1, 2, 2, 2]) 26 = 6 := by rw [(wrs_fr _ _ _ _).1]; exact kk
  rw [e104_30, e104_31, e104_33, z, ch104_30 _ k2 n2, e104_79, if_pos kw]
theorem st104_87 (g : HP) (k : hK g 30 = 10) (n : hN g 30 = 20) : X (104, 87, [.ref 26], [.ref 30, .ref 26], g) = X (104, 91, [.ref 26], [.ref 30, .ref 26], sI g 30 0 (-1)) := by
  have c : hK g 30 = 10 ∧ inB 0 (hN g 30) = true := ⟨k, by rw [n]; decide⟩
  have e : (0 : Int32).toNatClampNeg = 0 := by decide
  rw [e104_87, e104_88, e104_89, e104_90, if_pos c, e]
theorem st104_91 (g : HP) (k : hK g 30 = 10) (n : hN g 30 = 20) : X (104, 91, [.ref 26], [.ref 30, .ref 26], g) = X (104, 95, [.ref 26], [.ref 30, .ref 26], sI g 30 1 (-1)) := by
  have c : hK g 30 = 10 ∧ inB 1 (hN g 30) = true := ⟨k, by rw [n]; decide⟩
  have e : (1 : Int32).toNatClampNeg = 1 := by decide
  rw [e104_91, e104_92, e104_93, e104_94, if_pos c, e]
theorem st104_95 (g : HP) (k : hK g 30 = 10) (n : hN g 30 = 20) : X (104, 95, [.ref 26], [.ref 30, .ref 26], g) = X (104, 99, [.ref 26], [.ref 30, .ref 26], sI g 30 2 0) := by
  have c : hK g 30 = 10 ∧ inB 2 (hN g 30) = true := ⟨k, by rw [n]; decide⟩
  have e : (2 : Int32).toNatClampNeg = 2 := by decide
  rw [e104_95, e104_96, e104_97, e104_98, if_pos c, e]
theorem st104_99 (g : HP) (k : hK g 30 = 10) (n : hN g 30 = 20) : X (104, 99, [.ref 26], [.ref 30, .ref 26], g) = X (104, 103, [.ref 26], [.ref 30, .ref 26], sI g 30 3 (-1)) := by
  have c : hK g 30 = 10 ∧ inB 3 (hN g 30) = true := ⟨k, by rw [n]; decide⟩
  have e : (3 : Int32).toNatClampNeg = 3 := by decide
  rw [e104_99, e104_100, e104_101, e104_102, if_pos c, e]
theorem st104_103 (g : HP) (k : hK g 30 = 10) (n : hN g 30 = 20) : X (104, 103, [.ref 26], [.ref 30, .ref 26], g) = X (104, 107, [.ref 26], [.ref 30, .ref 26], sI g 30 4 3) := by
  have c : hK g 30 = 10 ∧ inB 4 (hN g 30) = true := ⟨k, by rw [n]; decide⟩
  have e : (4 : Int32).toNatClampNeg = 4 := by decide
  rw [e104_103, e104_104, e104_105, e104_106, if_pos c, e]
theorem st104_107 (g : HP) (k : hK g 30 = 10) (n : hN g 30 = 20) : X (104, 107, [.ref 26], [.ref 30, .ref 26], g) = X (104, 111, [.ref 26], [.ref 30, .ref 26], sI g 30 5 (-1)) := by
  have c : hK g 30 = 10 ∧ inB 5 (hN g 30) = true := ⟨k, by rw [n]; decide⟩
  have e : (5 : Int32).toNatClampNeg = 5 := by decide
  rw [e104_107, e104_108, e104_109, e104_110, if_pos c, e]
theorem st104_111 (g : HP) (k : hK g 30 = 10) (n : hN g 30 = 20) : X (104, 111, [.ref 26], [.ref 30, .ref 26], g) = X (104, 116, [.ref 26], [.ref 30, .ref 26], sI g 30 6 0) := by
  have c : hK g 30 = 10 ∧ inB 6 (hN g 30) = true := ⟨k, by rw [n]; decide⟩
  have e : (6 : Int32).toNatClampNeg = 6 := by decide
  rw [e104_111, e104_112, e104_114, e104_115, if_pos c, e]
theorem st104_116 (g : HP) (k : hK g 30 = 10) (n : hN g 30 = 20) : X (104, 116, [.ref 26], [.ref 30, .ref 26], g) = X (104, 121, [.ref 26], [.ref 30, .ref 26], sI g 30 7 (-1)) := by
  have c : hK g 30 = 10 ∧ inB 7 (hN g 30) = true := ⟨k, by rw [n]; decide⟩
  have e : (7 : Int32).toNatClampNeg = 7 := by decide
  rw [e104_116, e104_117, e104_119, e104_120, if_pos c, e]
theorem st104_121 (g : HP) (k : hK g 30 = 10) (n : hN g 30 = 20) : X (104, 121, [.ref 26], [.ref 30, .ref 26], g) = X (104, 126, [.ref 26], [.ref 30, .ref 26], sI g 30 8 1) := by
  have c : hK g 30 = 10 ∧ inB 8 (hN g 30) = true := ⟨k, by rw [n]; decide⟩
  have e : (8 : Int32).toNatClampNeg = 8 := by decide
  rw [e104_121, e104_122, e104_124, e104_125, if_pos c, e]
theorem st104_126 (g : HP) (k : hK g 30 = 10) (n : hN g 30 = 20) : X (104, 126, [.ref 26], [.ref 30, .ref 26], g) = X (104, 131, [.ref 26], [.ref 30, .ref 26], sI g 30 9 (-1)) := by
  have c : hK g 30 = 10 ∧ inB 9 (hN g 30) = true := ⟨k, by rw [n]; decide⟩
  have e : (9 : Int32).toNatClampNeg = 9 := by decide
  rw [e104_126, e104_127, e104_129, e104_130, if_pos c, e]
theorem st104_131 (g : HP) (k : hK g 30 = 10) (n : hN g 30 = 20) : X (104, 131, [.ref 26], [.ref 30, .ref 26], g) = X (104, 136, [.ref 26], [.ref 30, .ref 26], sI g 30 10 2) := by
  have c : hK g 30 = 10 ∧ inB 10 (hN g 30) = true := ⟨k, by rw [n]; decide⟩
  have e : (10 : Int32).toNatClampNeg = 10 := by decide
  rw [e104_131, e104_132, e104_134, e104_135, if_pos c, e]
theorem st104_136 (g : HP) (k : hK g 30 = 10) (n : hN g 30 = 20) : X (104, 136, [.ref 26], [.ref 30, .ref 26], g) = X (104, 141, [.ref 26], [.ref 30, .ref 26], sI g 30 11 (-1)) := by
  have c : hK g 30 = 10 ∧ inB 11 (hN g 30) = true := ⟨k, by rw [n]; decide⟩
  have e : (11 : Int32).toNatClampNeg = 11 := by decide
  rw [e104_136, e104_137, e104_139, e104_140, if_pos c, e]
theorem st104_141 (g : HP) (k : hK g 30 = 10) (n : hN g 30 = 20) : X (104, 141, [.ref 26], [.ref 30, .ref 26], g) = X (104, 146, [.ref 26], [.ref 30, .ref 26], sI g 30 12 3) := by
  have c : hK g 30 = 10 ∧ inB 12 (hN g 30) = true := ⟨k, by rw [n]; decide⟩
  have e : (12 : Int32).toNatClampNeg = 12 := by decide
  rw [e104_141, e104_142, e104_144, e104_145, if_pos c, e]
theorem st104_146 (g : HP) (k : hK g 30 = 10) (n : hN g 30 = 20) : X (104, 146, [.ref 26], [.ref 30, .ref 26], g) = X (104, 151, [.ref 26], [.ref 30, .ref 26], sI g 30 13 (-1)) := by
  have c : hK g 30 = 10 ∧ inB 13 (hN g 30) = true := ⟨k, by rw [n]; decide⟩
  have e : (13 : Int32).toNatClampNeg = 13 := by decide
  rw [e104_146, e104_147, e104_149, e104_150, if_pos c, e]
theorem st104_151 (g : HP) (k : hK g 30 = 10) (n : hN g 30 = 20) : X (104, 151, [.ref 26], [.ref 30, .ref 26], g) = X (104, 156, [.ref 26], [.ref 30, .ref 26], sI g 30 14 0) := by
  have c : hK g 30 = 10 ∧ inB 14 (hN g 30) = true := ⟨k, by rw [n]; decide⟩
  have e : (14 : Int32).toNatClampNeg = 14 := by decide
  rw [e104_151, e104_152, e104_154, e104_155, if_pos c, e]
theorem st104_156 (g : HP) (k : hK g 30 = 10) (n : hN g 30 = 20) : X (104, 156, [.ref 26], [.ref 30, .ref 26], g) = X (104, 161, [.ref 26], [.ref 30, .ref 26], sI g 30 15 2) := by
  have c : hK g 30 = 10 ∧ inB 15 (hN g 30) = true := ⟨k, by rw [n]; decide⟩
  have e : (15 : Int32).toNatClampNeg = 15 := by decide
  rw [e104_156, e104_157, e104_159, e104_160, if_pos c, e]
theorem st104_161 (g : HP) (k : hK g 30 = 10) (n : hN g 30 = 20) : X (104, 161, [.ref 26], [.ref 30, .ref 26], g) = X (104, 166, [.ref 26], [.ref 30, .ref 26], sI g 30 16 0) := by
  have c : hK g 30 = 10 ∧ inB 16 (hN g 30) = true := ⟨k, by rw [n]; decide⟩
  have e : (16 : Int32).toNatClampNeg = 16 := by decide
  rw [e104_161, e104_162, e104_164, e104_165, if_pos c, e]
theorem st104_166 (g : HP) (k : hK g 30 = 10) (n : hN g 30 = 20) : X (104, 166, [.ref 26], [.ref 30, .ref 26], g) = X (104, 171, [.ref 26], [.ref 30, .ref 26], sI g 30 17 2) := by
  have c : hK g 30 = 10 ∧ inB 17 (hN g 30) = true := ⟨k, by rw [n]; decide⟩
  have e : (17 : Int32).toNatClampNeg = 17 := by decide
  rw [e104_166, e104_167, e104_169, e104_170, if_pos c, e]
theorem st104_171 (g : HP) (k : hK g 30 = 10) (n : hN g 30 = 20) : X (104, 171, [.ref 26], [.ref 30, .ref 26], g) = X (104, 176, [.ref 26], [.ref 30, .ref 26], sI g 30 18 0) := by
  have c : hK g 30 = 10 ∧ inB 18 (hN g 30) = true := ⟨k, by rw [n]; decide⟩
  have e : (18 : Int32).toNatClampNeg = 18 := by decide
  rw [e104_171, e104_172, e104_174, e104_175, if_pos c, e]
theorem st104_176 (g : HP) (k : hK g 30 = 10) (n : hN g 30 = 20) : X (104, 176, [.ref 26], [.ref 30, .ref 26], g) = X (104, 181, [.ref 26], [.ref 30, .ref 26], sI g 30 19 3) := by
  have c : hK g 30 = 10 ∧ inB 19 (hN g 30) = true := ⟨k, by rw [n]; decide⟩
  have e : (19 : Int32).toNatClampNeg = 19 := by decide
  rw [e104_176, e104_177, e104_179, e104_180, if_pos c, e]
theorem ch104_82 : ∀ (g : HP), hK g 30 = 10 → hN g 30 = 20 → X (104, 87, [.ref 26], [.ref 30, .ref 26], g) = X (104, 181, [.ref 26], [.ref 30, .ref 26], wrs g 30 0 [(-1), (-1), 0, (-1), 3, (-1), 0, (-1), 1, (-1), 2, (-1), 3, (-1), 0, 2, 0, 2, 0, 3]) := by
  intro g0 k0 n0
  rw [st104_87 g0 k0 n0, wrs_c g0 30 0 1 (-1) _ rfl]
  have k1 : hK (sI g0 30 0 (-1)) 30 = 10 := by rw [hK_sI]; exact k0
  have n1 : hN (sI g0 30 0 (-1)) 30 = 20 := by rw [hN_sI]; exact n0
  generalize sI g0 30 0 (-1) = g1 at k1 n1 ⊢
  rw [st104_91 g1 k1 n1, wrs_c g1 30 1 2 (-1) _ rfl]
  have k2 : hK (sI g1 30 1 (-1)) 30 = 10 := by rw [hK_sI]; exact k1
  have n2 : hN (sI g1 30 1 (-1)) 30 = 20 := by rw [hN_sI]; exact n1
  generalize sI g1 30 1 (-1) = g2 at k2 n2 ⊢
  rw [st104_95 g2 k2 n2, wrs_c g2 30 2 3 0 _ rfl]
  have k3 : hK (sI g2 30 2 0) 30 = 10 := by rw [hK_sI]; exact k2
  have n3 : hN (sI g2 30 2 0) 30 = 20 := by rw [hN_sI]; exact n2
  generalize sI g2 30 2 0 = g3 at k3 n3 ⊢
  rw [st104_99 g3 k3 n3, wrs_c g3 30 3 4 (-1) _ rfl]
  have k4 : hK (sI g3 30 3 (-1)) 30 = 10 := by rw [hK_sI]; exact k3
  have n4 : hN (sI g3 30 3 (-1)) 30 = 20 := by rw [hN_sI]; exact n3
  generalize sI g3 30 3 (-1) = g4 at k4 n4 ⊢
  rw [st104_103 g4 k4 n4, wrs_c g4 30 4 5 3 _ rfl]
  have k5 : hK (sI g4 30 4 3) 30 = 10 := by rw [hK_sI]; exact k4
  have n5 : hN (sI g4 30 4 3) 30 = 20 := by rw [hN_sI]; exact n4
  generalize sI g4 30 4 3 = g5 at k5 n5 ⊢
  rw [st104_107 g5 k5 n5, wrs_c g5 30 5 6 (-1) _ rfl]
  have k6 : hK (sI g5 30 5 (-1)) 30 = 10 := by rw [hK_sI]; exact k5
  have n6 : hN (sI g5 30 5 (-1)) 30 = 20 := by rw [hN_sI]; exact n5
  generalize sI g5 30 5 (-1) = g6 at k6 n6 ⊢
  rw [st104_111 g6 k6 n6, wrs_c g6 30 6 7 0 _ rfl]
  have k7 : hK (sI g6 30 6 0) 30 = 10 := by rw [hK_sI]; exact k6
  have n7 : hN (sI g6 30 6 0) 30 = 20 := by rw [hN_sI]; exact n6
  generalize sI g6 30 6 0 = g7 at k7 n7 ⊢
  rw [st104_116 g7 k7 n7, wrs_c g7 30 7 8 (-1) _ rfl]
  have k8 : hK (sI g7 30 7 (-1)) 30 = 10 := by rw [hK_sI]; exact k7
  have n8 : hN (sI g7 30 7 (-1)) 30 = 20 := by rw [hN_sI]; exact n7
  generalize sI g7 30 7 (-1) = g8 at k8 n8 ⊢
  rw [st104_121 g8 k8 n8, wrs_c g8 30 8 9 1 _ rfl]
  have k9 : hK (sI g8 30 8 1) 30 = 10 := by rw [hK_sI]; exact k8
  have n9 : hN (sI g8 30 8 1) 30 = 20 := by rw [hN_sI]; exact n8
  generalize sI g8 30 8 1 = g9 at k9 n9 ⊢
  rw [st104_126 g9 k9 n9, wrs_c g9 30 9 10 (-1) _ rfl]
  have k10 : hK (sI g9 30 9 (-1)) 30 = 10 := by rw [hK_sI]; exact k9
  have n10 : hN (sI g9 30 9 (-1)) 30 = 20 := by rw [hN_sI]; exact n9
  generalize sI g9 30 9 (-1) = g10 at k10 n10 ⊢
  rw [st104_131 g10 k10 n10, wrs_c g10 30 10 11 2 _ rfl]
  have k11 : hK (sI g10 30 10 2) 30 = 10 := by rw [hK_sI]; exact k10
  have n11 : hN (sI g10 30 10 2) 30 = 20 := by rw [hN_sI]; exact n10
  generalize sI g10 30 10 2 = g11 at k11 n11 ⊢
  rw [st104_136 g11 k11 n11, wrs_c g11 30 11 12 (-1) _ rfl]
  have k12 : hK (sI g11 30 11 (-1)) 30 = 10 := by rw [hK_sI]; exact k11
  have n12 : hN (sI g11 30 11 (-1)) 30 = 20 := by rw [hN_sI]; exact n11
  generalize sI g11 30 11 (-1) = g12 at k12 n12 ⊢
  rw [st104_141 g12 k12 n12, wrs_c g12 30 12 13 3 _ rfl]
  have k13 : hK (sI g12 30 12 3) 30 = 10 := by rw [hK_sI]; exact k12
  have n13 : hN (sI g12 30 12 3) 30 = 20 := by rw [hN_sI]; exact n12
  generalize sI g12 30 12 3 = g13 at k13 n13 ⊢
  rw [st104_146 g13 k13 n13, wrs_c g13 30 13 14 (-1) _ rfl]
  have k14 : hK (sI g13 30 13 (-1)) 30 = 10 := by rw [hK_sI]; exact k13
  have n14 : hN (sI g13 30 13 (-1)) 30 = 20 := by rw [hN_sI]; exact n13
  generalize sI g13 30 13 (-1) = g14 at k14 n14 ⊢
  rw [st104_151 g14 k14 n14, wrs_c g14 30 14 15 0 _ rfl]
  have k15 : hK (sI g14 30 14 0) 30 = 10 := by rw [hK_sI]; exact k14
  have n15 : hN (sI g14 30 14 0) 30 = 20 := by rw [hN_sI]; exact n14
  generalize sI g14 30 14 0 = g15 at k15 n15 ⊢
  rw [st104_156 g15 k15 n15, wrs_c g15 30 15 16 2 _ rfl]
  have k16 : hK (sI g15 30 15 2) 30 = 10 := by rw [hK_sI]; exact k15
  have n16 : hN (sI g15 30 15 2) 30 = 20 := by rw [hN_sI]; exact n15
  generalize sI g15 30 15 2 = g16 at k16 n16 ⊢
  rw [st104_161 g16 k16 n16, wrs_c g16 30 16 17 0 _ rfl]
  have k17 : hK (sI g16 30 16 0) 30 = 10 := by rw [hK_sI]; exact k16
  have n17 : hN (sI g16 30 16 0) 30 = 20 := by rw [hN_sI]; exact n16
  generalize sI g16 30 16 0 = g17 at k17 n17 ⊢
  rw [st104_166 g17 k17 n17, wrs_c g17 30 17 18 2 _ rfl]
  have k18 : hK (sI g17 30 17 2) 30 = 10 := by rw [hK_sI]; exact k17
  have n18 : hN (sI g17 30 17 2) 30 = 20 := by rw [hN_sI]; exact n17
  generalize sI g17 30 17 2 = g18 at k18 n18 ⊢
  rw [st104_171 g18 k18 n18, wrs_c g18 30 18 19 0 _ rfl]
  have k19 : hK (sI g18 30 18 0) 30 = 10 := by rw [hK_sI]; exact k18
  have n19 : hN (sI g18 30 18 0) 30 = 20 := by rw [hN_sI]; exact n18
  generalize sI g18 30 18 0 = g19 at k19 n19 ⊢
  rw [st104_176 g19 k19 n19, wrs_c g19 30 19 20 3 _ rfl]
  have k20 : hK (sI g19 30 19 3) 30 = 10 := by rw [hK_sI]; exact k19
  have n20 : hN (sI g19 30 19 3) 30 = 20 := by rw [hN_sI]; exact n19
  generalize sI g19 30 19 3 = g20 at k20 n20 ⊢
  rw [wrs_n]
theorem m104_82 {h : HP} (z : hZ h = 30) (k : hK h 26 = 6) : X (104, 82, [.ref 26], [], h) = X (104, 184, [.ref 26], [], sR (wrs (nw h 10 20 20) 30 0 [(-1), (-1), 0, (-1), 3, (-1), 0, (-1), 1, (-1), 2, (-1), 3, (-1), 0, 2, 0, 2, 0, 3]) 26 7 (some 30)) := by
  have kk : hK (nw h 10 20 20) 26 = 6 := by rw [hK_nw, if_neg (by omega)]; exact k
  have k2 : hK (nw h 10 20 20) 30 = 10 := by rw [hK_nw, if_pos z.symm]
  have n2 : hN (nw h 10 20 20) 30 = 20 := by rw [hN_nw, if_pos z.symm]
  have kw : hK (wrs (nw h 10 20 20) 30 0 [(-1), (-1), 0, (-1), 3, (-1), 0, (-1), 1, (-1), 2, (-1), 3, (-1), 0, 2, 0, 2, 0, 3]) 26 = 6 := by rw [(wrs_fr _ _ _ _).1]; exact kk
  rw [e104_82, e104_83, e104_85, z, ch104_82 _ k2 n2, e104_181, if_pos kw]
theorem st104_189 (g : HP) (k : hK g 31 = 10) (n : hN g 31 = 20) : X (104, 189, [.ref 26], [.ref 31, .ref 26], g) = X (104, 193, [.ref 26], [.ref 31, .ref 26], sI g 31 0 (-1)) := by
  have c : hK g 31 = 10 ∧ inB 0 (hN g 31) = true := ⟨k, by rw [n]; decide⟩
  have e : (0 : Int32).toNatClampNeg = 0 := by decide
  rw [e104_189, e104_190, e104_191, e104_192, if_pos c, e]
theorem st104_193 (g : HP) (k : hK g 31 = 10) (n : hN g 31 = 20) : X (104, 193, [.ref 26], [.ref 31, .ref 26], g) = X (104, 197, [.ref 26], [.ref 31, .ref 26], sI g 31 1 (-1)) := by
  have c : hK g 31 = 10 ∧ inB 1 (hN g 31) = true := ⟨k, by rw [n]; decide⟩
  have e : (1 : Int32).toNatClampNeg = 1 := by decide
  rw [e104_193, e104_194, e104_195, e104_196, if_pos c, e]
theorem st104_197 (g : HP) (k : hK g 31 = 10) (n : hN g 31 = 20) : X (104, 197, [.ref 26], [.ref 31, .ref 26], g) = X (104, 201, [.ref 26], [.ref 31, .ref 26], sI g 31 2 2) := by
  have c : hK g 31 = 10 ∧ inB 2 (hN g 31) = true := ⟨k, by rw [n]; decide⟩
  have e : (2 : Int32).toNatClampNeg = 2 := by decide
  rw [e104_197, e104_198, e104_199, e104_200, if_pos c, e]
theorem st104_201 (g : HP) (k : hK g 31 = 10) (n : hN g 31 = 20) : X (104, 201, [.ref 26], [.ref 31, .ref 26], g) = X (104, 205, [.ref 26], [.ref 31, .ref 26], sI g 31 3 (-1)) := by
  have c : hK g 31 = 10 ∧ inB 3 (hN g 31) = true := ⟨k, by rw [n]; decide⟩
  have e : (3 : Int32).toNatClampNeg = 3 := by decide
  rw [e104_201, e104_202, e104_203, e104_204, if_pos c, e]
theorem st104_205 (g : HP) (k : hK g 31 = 10) (n : hN g 31 = 20) : X (104, 205, [.ref 26], [.ref 31, .ref 26], g) = X (104, 209, [.ref 26], [.ref 31, .ref 26], sI g 31 4 1) := by
  have c : hK g 31 = 10 ∧ inB 4 (hN g 31) = true := ⟨k, by rw [n]; decide⟩
  have e : (4 : Int32).toNatClampNeg = 4 := by decide
  rw [e104_205, e104_206, e104_207, e104_208, if_pos c, e]
theorem st104_209 (g : HP) (k : hK g 31 = 10) (n : hN g 31 = 20) : X (104, 209, [.ref 26], [.ref 31, .ref 26], g) = X (104, 213, [.ref 26], [.ref 31, .ref 26], sI g 31 5 (-1)) := by
  have c : hK g 31 = 10 ∧ inB 5 (hN g 31) = true := ⟨k, by rw [n]; decide⟩
  have e : (5 : Int32).toNatClampNeg = 5 := by decide
  rw [e104_209, e104_210, e104_211, e104_212, if_pos c, e]
theorem st104_213 (g : HP) (k : hK g 31 = 10) (n : hN g 31 = 20) : X (104, 213, [.ref 26], [.ref 31, .ref 26], g) = X (104, 218, [.ref 26], [.ref 31, .ref 26], sI g 31 6 1) := by
  have c : hK g 31 = 10 ∧ inB 6 (hN g 31) = true := ⟨k, by rw [n]; decide⟩
  have e : (6 : Int32).toNatClampNeg = 6 := by decide
  rw [e104_213, e104_214, e104_216, e104_217, if_pos c, e]
theorem st104_218 (g : HP) (k : hK g 31 = 10) (n : hN g 31 = 20) : X (104, 218, [.ref 26], [.ref 31, .ref 26], g) = X (104, 223, [.ref 26], [.ref 31, .ref 26], sI g 31 7 (-1)) := by
  have c : hK g 31 = 10 ∧ inB 7 (hN g 31) = true := ⟨k, by rw [n]; decide⟩
  have e : (7 : Int32).toNatClampNeg = 7 := by decide
  rw [e104_218, e104_219, e104_221, e104_222, if_pos c, e]
theorem st104_223 (g : HP) (k : hK g 31 = 10) (n : hN g 31 = 20) : X (104, 223, [.ref 26], [.ref 31, .ref 26], g) = X (104, 228, [.ref 26], [.ref 31, .ref 26], sI g 31 8 2) := by
  have c : hK g 31 = 10 ∧ inB 8 (hN g 31) = true := ⟨k, by rw [n]; decide⟩
  have e : (8 : Int32).toNatClampNeg = 8 := by decide
  rw [e104_223, e104_224, e104_226, e104_227, if_pos c, e]
theorem st104_228 (g : HP) (k : hK g 31 = 10) (n : hN g 31 = 20) : X (104, 228, [.ref 26], [.ref 31, .ref 26], g) = X (104, 233, [.ref 26], [.ref 31, .ref 26], sI g 31 9 (-1)) := by
  have c : hK g 31 = 10 ∧ inB 9 (hN g 31) = true := ⟨k, by rw [n]; decide⟩
  have e : (9 : Int32).toNatClampNeg = 9 := by decide
  rw [e104_228, e104_229, e104_231, e104_232, if_pos c, e]
theorem st104_233 (g : HP) (k : hK g 31 = 10) (n : hN g 31 = 20) : X (104, 233, [.ref 26], [.ref 31, .ref 26], g) = X (104, 238, [.ref 26], [.ref 31, .ref 26], sI g 31 10 3) := by
  have c : hK g 31 = 10 ∧ inB 10 (hN g 31) = true := ⟨k, by rw [n]; decide⟩
  have e : (10 : Int32).toNatClampNeg = 10 := by decide
  rw [e104_233, e104_234, e104_236, e104_237, if_pos c, e]
theorem st104_238 (g : HP) (k : hK g 31 = 10) (n : hN g 31 = 20) : X (104, 238, [.ref 26], [.ref 31, .ref 26], g) = X (104, 243, [.ref 26], [.ref 31, .ref 26], sI g 31 11 (-1)) := by
  have c : hK g 31 = 10 ∧ inB 11 (hN g 31) = true := ⟨k, by rw [n]; decide⟩
  have e : (11 : Int32).toNatClampNeg = 11 := by decide
  rw [e104_238, e104_239, e104_241, e104_242, if_pos c, e]
theorem st104_243 (g : HP) (k : hK g 31 = 10) (n : hN g 31 = 20) : X (104, 243, [.ref 26], [.ref 31, .ref 26], g) = X (104, 248, [.ref 26], [.ref 31, .ref 26], sI g 31 12 0) := by
  have c : hK g 31 = 10 ∧ inB 12 (hN g 31) = true := ⟨k, by rw [n]; decide⟩
  have e : (12 : Int32).toNatClampNeg = 12 := by decide
  rw [e104_243, e104_244, e104_246, e104_247, if_pos c, e]
theorem st104_248 (g : HP) (k : hK g 31 = 10) (n : hN g 31 = 20) : X (104, 248, [.ref 26], [.ref 31, .ref 26], g) = X (104, 253, [.ref 26], [.ref 31, .ref 26], sI g 31 13 (-1)) := by
  have c : hK g 31 = 10 ∧ inB 13 (hN g 31) = true := ⟨k, by rw [n]; decide⟩
  have e : (13 : Int32).toNatClampNeg = 13 := by decide
  rw [e104_248, e104_249, e104_251, e104_252, if_pos c, e]
theorem st104_253 (g : HP) (k : hK g 31 = 10) (n : hN g 31 = 20) : X (104, 253, [.ref 26], [.ref 31, .ref 26], g) = X (104, 258, [.ref 26], [.ref 31, .ref 26], sI g 31 14 3) := by
  have c : hK g 31 = 10 ∧ inB 14 (hN g 31) = true := ⟨k, by rw [n]; decide⟩
  have e : (14 : Int32).toNatClampNeg = 14 := by decide
  rw [e104_253, e104_254, e104_256, e104_257, if_pos c, e]
theorem st104_258 (g : HP) (k : hK g 31 = 10) (n : hN g 31 = 20) : X (104, 258, [.ref 26], [.ref 31, .ref 26], g) = X (104, 263, [.ref 26], [.ref 31, .ref 26], sI g 31 15 1) := by
  have c : hK g 31 = 10 ∧ inB 15 (hN g 31) = true := ⟨k, by rw [n]; decide⟩
  have e : (15 : Int32).toNatClampNeg = 15 := by decide
  rw [e104_258, e104_259, e104_261, e104_262, if_pos c, e]
theorem st104_263 (g : HP) (k : hK g 31 = 10) (n : hN g 31 = 20) : X (104, 263, [.ref 26], [.ref 31, .ref 26], g) = X (104, 268, [.ref 26], [.ref 31, .ref 26], sI g 31 16 1) := by
  have c : hK g 31 = 10 ∧ inB 16 (hN g 31) = true := ⟨k, by rw [n]; decide⟩
  have e : (16 : Int32).toNatClampNeg = 16 := by decide
  rw [e104_263, e104_264, e104_266, e104_267, if_pos c, e]
theorem st104_268 (g : HP) (k : hK g 31 = 10) (n : hN g 31 = 20) : X (104, 268, [.ref 26], [.ref 31, .ref 26], g) = X (104, 273, [.ref 26], [.ref 31, .ref 26], sI g 31 17 3) := by
  have c : hK g 31 = 10 ∧ inB 17 (hN g 31) = true := ⟨k, by rw [n]; decide⟩
  have e : (17 : Int32).toNatClampNeg = 17 := by decide
  rw [e104_268, e104_269, e104_271, e104_272, if_pos c, e]
theorem st104_273 (g : HP) (k : hK g 31 = 10) (n : hN g 31 = 20) : X (104, 273, [.ref 26], [.ref 31, .ref 26], g) = X (104, 278, [.ref 26], [.ref 31, .ref 26], sI g 31 18 2) := by
  have c : hK g 31 = 10 ∧ inB 18 (hN g 31) = true := ⟨k, by rw [n]; decide⟩
  have e : (18 : Int32).toNatClampNeg = 18 := by decide
  rw [e104_273, e104_274, e104_276, e104_277, if_pos c, e]
theorem st104_278 (g : HP) (k : hK g 31 = 10) (n : hN g 31 = 20) : X (104, 278, [.ref 26], [.ref 31, .ref 26], g) = X (104, 283, [.ref 26], [.ref 31, .ref 26], sI g 31 19 1) := by
  have c : hK g 31 = 10 ∧ inB 19 (hN g 31) = true := ⟨k, by rw [n]; decide⟩
  have e : (19 : Int32).toNatClampNeg = 19 := by decide
  rw [e104_278, e104_279, e104_281, e104_282, if_pos c, e]
theorem ch104_184 : ∀ (g : HP), hK g 31 = 10 → hN g 31 = 20 → X (104, 189, [.ref 26], [.ref 31, .ref 26], g) = X (104, 283, [.ref 26], [.ref 31, .ref 26], wrs g 31 0 [(-1), (-1), 2, (-1), 1, (-1), 1, (-1), 2, (-1), 3, (-1), 0, (-1), 3, 1, 1, 3, 2, 1]) := by
  intro g0 k0 n0
  rw [st104_189 g0 k0 n0, wrs_c g0 31 0 1 (-1) _ rfl]
  have k1 : hK (sI g0 31 0 (-1)) 31 = 10 := by rw [hK_sI]; exact k0
  have n1 : hN (sI g0 31 0 (-1)) 31 = 20 := by rw [hN_sI]; exact n0
  generalize sI g0 31 0 (-1) = g1 at k1 n1 ⊢
  rw [st104_193 g1 k1 n1, wrs_c g1 31 1 2 (-1) _ rfl]
  have k2 : hK (sI g1 31 1 (-1)) 31 = 10 := by rw [hK_sI]; exact k1
  have n2 : hN (sI g1 31 1 (-1)) 31 = 20 := by rw [hN_sI]; exact n1
  generalize sI g1 31 1 (-1) = g2 at k2 n2 ⊢
  rw [st104_197 g2 k2 n2, wrs_c g2 31 2 3 2 _ rfl]
  have k3 : hK (sI g2 31 2 2) 31 = 10 := by rw [hK_sI]; exact k2
  have n3 : hN (sI g2 31 2 2) 31 = 20 := by rw [hN_sI]; exact n2
  generalize sI g2 31 2 2 = g3 at k3 n3 ⊢
  rw [st104_201 g3 k3 n3, wrs_c g3 31 3 4 (-1) _ rfl]
  have k4 : hK (sI g3 31 3 (-1)) 31 = 10 := by rw [hK_sI]; exact k3
  have n4 : hN (sI g3 31 3 (-1)) 31 = 20 := by rw [hN_sI]; exact n3
  generalize sI g3 31 3 (-1) = g4 at k4 n4 ⊢
  rw [st104_205 g4 k4 n4, wrs_c g4 31 4 5 1 _ rfl]
  have k5 : hK (sI g4 31 4 1) 31 = 10 := by rw [hK_sI]; exact k4
  have n5 : hN (sI g4 31 4 1) 31 = 20 := by rw [hN_sI]; exact n4
  generalize sI g4 31 4 1 = g5 at k5 n5 ⊢
  rw [st104_209 g5 k5 n5, wrs_c g5 31 5 6 (-1) _ rfl]
  have k6 : hK (sI g5 31 5 (-1)) 31 = 10 := by rw [hK_sI]; exact k5
  have n6 : hN (sI g5 31 5 (-1)) 31 = 20 := by rw [hN_sI]; exact n5
  generalize sI g5 31 5 (-1) = g6 at k6 n6 ⊢
  rw [st104_213 g6 k6 n6, wrs_c g6 31 6 7 1 _ rfl]
  have k7 : hK (sI g6 31 6 1) 31 = 10 := by rw [hK_sI]; exact k6
  have n7 : hN (sI g6 31 6 1) 31 = 20 := by rw [hN_sI]; exact n6
  generalize sI g6 31 6 1 = g7 at k7 n7 ⊢
  rw [st104_218 g7 k7 n7, wrs_c g7 31 7 8 (-1) _ rfl]
  have k8 : hK (sI g7 31 7 (-1)) 31 = 10 := by rw [hK_sI]; exact k7
  have n8 : hN (sI g7 31 7 (-1)) 31 = 20 := by rw [hN_sI]; exact n7
  generalize sI g7 31 7 (-1) = g8 at k8 n8 ⊢
  rw [st104_223 g8 k8 n8, wrs_c g8 31 8 9 2 _ rfl]
  have k9 : hK (sI g8 31 8 2) 31 = 10 := by rw [hK_sI]; exact k8
  have n9 : hN (sI g8 31 8 2) 31 = 20 := by rw [hN_sI]; exact n8
  generalize sI g8 31 8 2 = g9 at k9 n9 ⊢
  rw [st104_228 g9 k9 n9, wrs_c g9 31 9 10 (-1) _ rfl]
  have k10 : hK (sI g9 31 9 (-1)) 31 = 10 := by rw [hK_sI]; exact k9
  have n10 : hN (sI g9 31 9 (-1)) 31 = 20 := by rw [hN_sI]; exact n9
  generalize sI g9 31 9 (-1) = g10 at k10 n10 ⊢
  rw [st104_233 g10 k10 n10, wrs_c g10 31 10 11 3 _ rfl]
  have k11 : hK (sI g10 31 10 3) 31 = 10 := by rw [hK_sI]; exact k10
  have n11 : hN (sI g10 31 10 3) 31 = 20 := by rw [hN_sI]; exact n10
  generalize sI g10 31 10 3 = g11 at k11 n11 ⊢
  rw [st104_238 g11 k11 n11, wrs_c g11 31 11 12 (-1) _ rfl]
  have k12 : hK (sI g11 31 11 (-1)) 31 = 10 := by rw [hK_sI]; exact k11
  have n12 : hN (sI g11 31 11 (-1)) 31 = 20 := by rw [hN_sI]; exact n11
  generalize sI g11 31 11 (-1) = g12 at k12 n12 ⊢
  rw [st104_243 g12 k12 n12, wrs_c g12 31 12 13 0 _ rfl]
  have k13 : hK (sI g12 31 12 0) 31 = 10 := by rw [hK_sI]; exact k12
  have n13 : hN (sI g12 31 12 0) 31 = 20 := by rw [hN_sI]; exact n12
  generalize sI g12 31 12 0 = g13 at k13 n13 ⊢
  rw [st104_248 g13 k13 n13, wrs_c g13 31 13 14 (-1) _ rfl]
  have k14 : hK (sI g13 31 13 (-1)) 31 = 10 := by rw [hK_sI]; exact k13
  have n14 : hN (sI g13 31 13 (-1)) 31 = 20 := by rw [hN_sI]; exact n13
  generalize sI g13 31 13 (-1) = g14 at k14 n14 ⊢
  rw [st104_253 g14 k14 n14, wrs_c g14 31 14 15 3 _ rfl]
  have k15 : hK (sI g14 31 14 3) 31 = 10 := by rw [hK_sI]; exact k14
  have n15 : hN (sI g14 31 14 3) 31 = 20 := by rw [hN_sI]; exact n14
  generalize sI g14 31 14 3 = g15 at k15 n15 ⊢
  rw [st104_258 g15 k15 n15, wrs_c g15 31 15 16 1 _ rfl]
  have k16 : hK (sI g15 31 15 1) 31 = 10 := by rw [hK_sI]; exact k15
  have n16 : hN (sI g15 31 15 1) 31 = 20 := by rw [hN_sI]; exact n15
  generalize sI g15 31 15 1 = g16 at k16 n16 ⊢
  rw [st104_263 g16 k16 n16, wrs_c g16 31 16 17 1 _ rfl]
  have k17 : hK (sI g16 31 16 1) 31 = 10 := by rw [hK_sI]; exact k16
  have n17 : hN (sI g16 31 16 1) 31 = 20 := by rw [hN_sI]; exact n16
  generalize sI g16 31 16 1 = g17 at k17 n17 ⊢
  rw [st104_268 g17 k17 n17, wrs_c g17 31 17 18 3 _ rfl]
  have k18 : hK (sI g17 31 17 3) 31 = 10 := by rw [hK_sI]; exact k17
  have n18 : hN (sI g17 31 17 3) 31 = 20 := by rw [hN_sI]; exact n17
  generalize sI g17 31 17 3 = g18 at k18 n18 ⊢
  rw [st104_273 g18 k18 n18, wrs_c g18 31 18 19 2 _ rfl]
  have k19 : hK (sI g18 31 18 2) 31 = 10 := by rw [hK_sI]; exact k18
  have n19 : hN (sI g18 31 18 2) 31 = 20 := by rw [hN_sI]; exact n18
  generalize sI g18 31 18 2 = g19 at k19 n19 ⊢
  rw [st104_278 g19 k19 n19, wrs_c g19 31 19 20 1 _ rfl]
  have k20 : hK (sI g19 31 19 1) 31 = 10 := by rw [hK_sI]; exact k19
  have n20 : hN (sI g19 31 19 1) 31 = 20 := by rw [hN_sI]; exact n19
  generalize sI g19 31 19 1 = g20 at k20 n20 ⊢
  rw [wrs_n]
theorem m104_184 {h : HP} (z : hZ h = 31) (k : hK h 26 = 6) : X (104, 184, [.ref 26], [], h) = X (104, 286, [.ref 26], [], sR (wrs (nw h 10 20 20) 31 0 [(-1), (-1), 2, (-1), 1, (-1), 1, (-1), 2, (-1), 3, (-1), 0, (-1), 3, 1, 1, 3, 2, 1]) 26 8 (some 31)) := by
  have kk : hK (nw h 10 20 20) 26 = 6 := by rw [hK_nw, if_neg (by omega)]; exact k
  have k2 : hK (nw h 10 20 20) 31 = 10 := by rw [hK_nw, if_pos z.symm]
  have n2 : hN (nw h 10 20 20) 31 = 20 := by rw [hN_nw, if_pos z.symm]
  have kw : hK (wrs (nw h 10 20 20) 31 0 [(-1), (-1), 2, (-1), 1, (-1), 1, (-1), 2, (-1), 3, (-1), 0, (-1), 3, 1, 1, 3, 2, 1]) 26 = 6 := by rw [(wrs_fr _ _ _ _).1]; exact kk
  rw [e104_184, e104_185, e104_187, z, ch104_184 _ k2 n2, e104_283, if_pos kw]
theorem m104_286 {h : HP} (z : hZ h = 32) (k : hK h 26 = 6) : X (104, 286, [.ref 26], [], h) = X (104, 294, [.ref 26], [], sR (nw h 10 10 10) 26 9 (some 32)) := by
  have kk : hK (nw h 10 10 10) 26 = 6 := by rw [hK_nw, if_neg (by omega)]; exact k
  rw [e104_286, e104_287, e104_289, z, e104_291, if_pos kk]
theorem m104_294 {h : HP} (z : hZ h = 33) (k : hK h 26 = 6) : X (104, 294, [.ref 26], [], h) = X (104, 302, [.ref 26], [], sR (nw h 10 21 21) 26 11 (some 33)) := by
  have kk : hK (nw h 10 21 21) 26 = 6 := by rw [hK_nw, if_neg (by omega)]; exact k
  rw [e104_294, e104_295, e104_297, z, e104_299, if_pos kk]
theorem m104_302 {h : HP} (z : hZ h = 34) (k : hK h 26 = 6) : X (104, 302, [.ref 26], [], h) = X (104, 311, [.ref 26], [], sR (nw h 10 16800 16800) 26 12 (some 34)) := by
  have kk : hK (nw h 10 16800 16800) 26 = 6 := by rw [hK_nw, if_neg (by omega)]; exact k
  rw [e104_302, e104_303, e104_306, z, e104_308, if_pos kk]
theorem m104_311 {h : HP} (z : hZ h = 35) (k : hK h 26 = 6) : X (104, 311, [.ref 26], [], h) = X (104, 320, [.ref 26], [], sR (nw h 10 2048 2048) 26 13 (some 35)) := by
  have kk : hK (nw h 10 2048 2048) 26 = 6 := by rw [hK_nw, if_neg (by omega)]; exact k
  rw [e104_311, e104_312, e104_315, z, e104_317, if_pos kk]
theorem m104_320 {h : HP} (z : hZ h = 36) (k : hK h 26 = 6) : X (104, 320, [.ref 26], [], h) = X (104, 328, [.ref 26], [], sR (nw h 10 168000 168000) 26 14 (some 36)) := by
  have kk : hK (nw h 10 168000 168000) 26 = 6 := by rw [hK_nw, if_neg (by omega)]; exact k
  rw [e104_320, e104_321, e104_323, z, e104_325, if_pos kk]
theorem m104_328 {h : HP} (z : hZ h = 37) (k : hK h 26 = 6) : X (104, 328, [.ref 26], [], h) = X (104, 336, [.ref 26], [], sR (nw h 10 168000 168000) 26 15 (some 37)) := by
  have kk : hK (nw h 10 168000 168000) 26 = 6 := by rw [hK_nw, if_neg (by omega)]; exact k
  rw [e104_328, e104_329, e104_331, z, e104_333, if_pos kk]
theorem m104_336 {h : HP} (z : hZ h = 38) (k : hK h 26 = 6) : X (104, 336, [.ref 26], [], h) = X (104, 344, [.ref 26], [], sR (nw h 11 403200 403200) 26 16 (some 38)) := by
  have kk : hK (nw h 11 403200 403200) 26 = 6 := by rw [hK_nw, if_neg (by omega)]; exact k
  rw [e104_336, e104_337, e104_339, z, e104_341, if_pos kk]
theorem m104_344 {h : HP} (z : hZ h = 39) (k : hK h 26 = 6) : X (104, 344, [.ref 26], [], h) = X (104, 353, [.ref 26], [], sR (nw h 11 16800 16800) 26 17 (some 39)) := by
  have kk : hK (nw h 11 16800 16800) 26 = 6 := by rw [hK_nw, if_neg (by omega)]; exact k
  rw [e104_344, e104_345, e104_348, z, e104_350, if_pos kk]
theorem m104_353 {h : HP} (z : hZ h = 40) (k : hK h 26 = 6) : X (104, 353, [.ref 26], [], h) = X (104, 361, [.ref 26], [], sR (nw h 10 20 20) 26 19 (some 40)) := by
  have kk : hK (nw h 10 20 20) 26 = 6 := by rw [hK_nw, if_neg (by omega)]; exact k
  rw [e104_353, e104_354, e104_356, z, e104_358, if_pos kk]
theorem m104_361 {h : HP} (z : hZ h = 41) (k : hK h 26 = 6) : X (104, 361, [.ref 26], [], h) = X (104, 369, [.ref 26], [], sR (nw h 10 40 40) 26 20 (some 41)) := by
  have kk : hK (nw h 10 40 40) 26 = 6 := by rw [hK_nw, if_neg (by omega)]; exact k
  rw [e104_361, e104_362, e104_364, z, e104_366, if_pos kk]
