/-! the heap's instructions -/
theorem vc_at {a : Nat} (ha : a < 7) : vwCl[a]? = some (vc a) := by
  match a, ha with
  | 0, _ => rfl
  | 1, _ => rfl
  | 2, _ => rfl
  | 3, _ => rfl
  | 4, _ => rfl
  | 5, _ => rfl
  | 6, _ => rfl
theorem cN_vc : ∀ a, a < 7 → cN a = (vc a).2.2 := by decide +kernel
theorem ty_ok {a : Nat} (ha : a < 7) : ∀ k, k < (vc a).2.2 → parseFieldDescriptor ((vc a).2.1 k).2.2.1 = some (tyF a k) := by
  match a, ha with
  | 0, _ => exact tyX0_ok
  | 1, _ => exact tyX1_ok
  | 2, _ => exact tyX2_ok
  | 3, _ => exact tyX3_ok
  | 4, _ => exact tyX4_ok
  | 5, _ => exact tyX5_ok
  | 6, _ => exact tyX6_ok
theorem nm_ok {a : Nat} (ha : a < 7) : ∀ x, x < (vc a).2.2 → ∀ y, y < (vc a).2.2 → x ≠ y → ((vc a).2.1 x).2.1 ≠ ((vc a).2.1 y).2.1 := by
  match a, ha with
  | 0, _ => exact nmX0
  | 1, _ => exact nmX1
  | 2, _ => exact nmX2
  | 3, _ => exact nmX3
  | 4, _ => exact nmX4
  | 5, _ => exact nmX5
  | 6, _ => exact nmX6
def isR : FieldType → Bool
  | .object _ => true
  | .array _ => true
  | _ => false
theorem ft_ok : ∀ a, a < 7 → ∀ k, k < cN a → (ft a k = 0 → tyF a k = .int) ∧ (ft a k = 1 → tyF a k = .boolean) ∧ (ft a k = 2 → isR (tyF a k) = true) ∧ ft a k < 3 := by decide +kernel
theorem dc_ok : ∀ a, a < 7 → ∀ k, k < cN a → ((vc a).2.1 k).1 = (vc a).1 := by decide +kernel
theorem lay_in {a : Nat} (ha : a < 7) : ∀ w ∈ u_ws (vc a).1 (vc a).2.1 (vc a).2.2, w ∈ gw := by
  intro w hw
  have h1 := congrArg (fun l => l[a]?) w_lay
  rw [List.getElem?_map, List.getElem?_map, List.getElem?_range ha] at h1
  cases hl : lyp[a]? with
  | none => rw [hl] at h1; cases h1
  | some l =>
    rw [hl] at h1
    simp only [Option.map_some, Option.some.injEq] at h1
    have h2 : some w ∈ (u_ws (vc a).1 (vc a).2.1 (vc a).2.2).map some := List.mem_map.mpr ⟨w, hw, rfl⟩
    rw [← h1] at h2
    obtain ⟨i, -, hi⟩ := List.mem_map.mp h2
    refine word_in hi ?_
    unfold u_ws at hw
    obtain ⟨k, -, rfl⟩ := List.mem_map.mp hw
    unfold u_lay
    split <;> rfl
theorem ins_in {a : Nat} (ha : a < 7) : Cond.instantiable (vc a).1 (vc a).2.2 ∈ gw ∧ Cond.initialized (vc a).1 ∈ gw := by
  have h1 := congrArg (fun l => l[a]?) w_cls
  rw [List.getElem?_map, List.getElem?_map, List.getElem?_range ha] at h1
  cases hl : cip[a]? with
  | none => rw [hl] at h1; cases h1
  | some q =>
    rw [hl] at h1
    simp only [Option.map_some, Option.some.injEq, Prod.mk.injEq] at h1
    exact ⟨word_in h1.1 rfl, word_in h1.2 rfl⟩
theorem fvs_at (g : GP) (h : HP) {a b : Nat} (o : Nat) (hb : b < cN a) : (fvs g h a o)[b]? = some (if ft a b = 2 then va_rf ((hR h o b).map (ad g)) else .int (hI h o b)) := by
  simp [fvs, hb]
theorem fvs_len (g : GP) (h : HP) (a o : Nat) : (fvs g h a o).length = cN a := by simp [fvs]
theorem ce_obj (g : GP) {h : HP} {o a : Nat} (ha : a < 7) (hk : hK h o = a) : ce g h o = .inr (a, fvs g h a o) := by
  unfold ce
  rw [hk, if_neg (by omega), if_neg (by omega), if_neg (by omega)]
theorem ce_int (g : GP) {h : HP} {o : Nat} (hk : hK h o = 10) : ce g h o = .inl (gA g 10, hN h o, .inl (hI h o)) := by
  unfold ce
  rw [if_pos hk]
theorem ce_long (g : GP) {h : HP} {o : Nat} (hk : hK h o = 11) : ce g h o = .inl (gA g 11, hN h o, .inr (.inl (hL h o))) := by
  unfold ce
  rw [hk, if_neg (by omega), if_pos rfl]
theorem ce_bool (g : GP) {h : HP} {o : Nat} (hk : hK h o = 12) : ce g h o = .inl (gA g 12, hN h o, .inl (hI h o)) := by
  unfold ce
  rw [hk, if_neg (by omega), if_neg (by omega), if_pos rfl]
theorem WF.where {g : GP} {h : HP} (hw : WF g h) {o a : Nat} (hk : hK h o = a) (ha : a < 13) : 5 ≤ o ∧ o < hZ h := by
  obtain ⟨h0, h1, h2, h3⟩ := hw
  refine ⟨?_, ?_⟩
  · rcases Nat.lt_or_ge o 5 with q | q
    · have := (h1 o q).1; omega
    · exact q
  · rcases Nat.lt_or_ge o (hZ h) with q | q
    · exact q
    · have := h2 o q; omega
theorem ce_ext (g : GP) {h h' : HP} {q : Nat} (h1 : hK h' q = hK h q) (h2 : hN h' q = hN h q) (h3 : hI h' q = hI h q) (h4 : hL h' q = hL h q) (h5 : hR h' q = hR h q) : ce g h' q = ce g h q := by
  unfold ce fvs
  rw [h1, h2, h3, h4, h5]
theorem Cur_upd {g : GP} {h h' : HP} {s : State} {H1 : Heap} {locs1 : List Loc} {o : Nat} (hwf : WF g h) (h5 : 5 ≤ o) (hz : hZ h' = hZ h) (hk : hK h' = hK h) (hn : hN h' = hN h) (hi : ∀ q, q ≠ o → hI h' q = hI h q) (hl : ∀ q, q ≠ o → hL h' q = hL h q) (hr : ∀ q, q ≠ o → hR h' q = hR h q)
    (hP : va_P (gD g) vwCl ((wo g h).set (o - 5) (gB g + (o - 5), ce g h' o)) H1) (hS : va_S (gQ g) s.heap H1 locs1) : Cur g h' s H1 locs1 := by
  obtain ⟨w0, w1, w2, w3⟩ := hwf
  refine ⟨⟨by rw [hz]; exact w0, fun i h9 => ?_, fun q hq => ?_, fun q hq => ?_⟩, ?_, hS⟩
  · rw [hk, hn, hi i (by omega)]; exact w1 i h9
  · rw [hk]; rw [hz] at hq; exact w2 q hq
  · rw [hk] at hq; exact w3 q hq
  · rw [wo_set g hz (fun q hq => ce_ext g (by rw [hk]) (by rw [hn]) (hi q hq) (hl q hq) (hr q hq)) h5]
    exact hP
theorem inB_in {i : Int32} {n : Nat} (h : inB i n = true) : vp_in i n := of_decide_eq_true (p := ¬ (i < 0 ∨ n ≤ i.toNatClampNeg)) h
section Heaps
variable {z : MT} {mid pc : Nat} {loc st : List Value} {h : HP}
theorem n_getI {i a b o : Nat} (hd : decode (mB z) pc = .ok (.getfield i, 3)) (ha : a < 7) (hbn : b < cN a) (hw : Cond.fieldLink (mY z).cls i ((vc a).2.1 b).1 ((vc a).2.1 b).2.1 ((vc a).2.1 b).2.2.1 ∈ gw) (hko : hK h o = a) (hft : ¬ ft a b = 2) : Nxt z mid pc loc (.ref o :: st) h (mid, pc + 3, loc, .int (hI h o b) :: st, h) := by
  refine ⟨rfl, ⟨Nat.le_refl _, Nat.le_refl _⟩, ?_⟩
  intro g p l e R s m args below meth c Q C S hf hC hz hu k H locs cells slots ls hc hl e1 e2
  obtain ⟨hx, hb, hml, hr, hown, hts, hlk, hnm, hk, hR, hCS, hsz⟩ := hC
  obtain ⟨hwf, hP, hS⟩ := id hc
  have ho := hwf.where hko (by omega)
  have he := wo_at g ho.1 ho.2
  rw [ce_obj g ha hko] at he
  show W _ _ _ _ _ _ _ _ _ _ _ _ _ _ _ (F0 m pc ls (.ref (ad g o) :: st.map (cv g)))
  rw [ad_hi g ho.1]
  exact va_get (D := gD g) (cl := vwCl) (tys := tyA (gA g)) (ws := wo g h) (ci := a) (C := (vc a).1) (T := (vc a).2.1) (N := (vc a).2.2) (v := .int (hI h o b)) hx hb hts (lay_in ha) hown hk.2.1 hP (o - 5) he (vc_at ha) b (by rw [← cN_vc a ha]; exact hbn) (hts _ hw) (fun _ q => q) (by rw [fvs_at g h o hbn, if_neg hft]) hd (k H locs cells slots ls hc hl e1 e2)
theorem n_getR {i a b o : Nat} {q : Nat} (hd : decode (mB z) pc = .ok (.getfield i, 3)) (ha : a < 7) (hbn : b < cN a) (hw : Cond.fieldLink (mY z).cls i ((vc a).2.1 b).1 ((vc a).2.1 b).2.1 ((vc a).2.1 b).2.2.1 ∈ gw) (hko : hK h o = a) (hft : ft a b = 2) (hq : hR h o b = some q) : Nxt z mid pc loc (.ref o :: st) h (mid, pc + 3, loc, .ref q :: st, h) := by
  refine ⟨rfl, ⟨Nat.le_refl _, Nat.le_refl _⟩, ?_⟩
  intro g p l e R s m args below meth c Q C S hf hC hz hu k H locs cells slots ls hc hl e1 e2
  obtain ⟨hx, hb, hml, hr, hown, hts, hlk, hnm, hk, hR, hCS, hsz⟩ := hC
  obtain ⟨hwf, hP, hS⟩ := id hc
  have ho := hwf.where hko (by omega)
  have he := wo_at g ho.1 ho.2
  rw [ce_obj g ha hko] at he
  show W _ _ _ _ _ _ _ _ _ _ _ _ _ _ _ (F0 m pc ls (.ref (ad g o) :: st.map (cv g)))
  rw [ad_hi g ho.1]
  exact va_get (D := gD g) (cl := vwCl) (tys := tyA (gA g)) (ws := wo g h) (ci := a) (C := (vc a).1) (T := (vc a).2.1) (N := (vc a).2.2) (v := .ref (ad g q)) hx hb hts (lay_in ha) hown hk.2.1 hP (o - 5) he (vc_at ha) b (by rw [← cN_vc a ha]; exact hbn) (hts _ hw) (fun _ q => q) (by rw [fvs_at g h o hbn, if_pos hft, hq]; rfl) hd (k H locs cells slots ls hc hl e1 e2)
theorem put_any {g : GP} {p : Program} {l : Launch} {e : Env} {R : Room} {s : State} {m : MethodId} {args : Array Value} {below : List Frame} {meth : Method} {c : Code} {Q : State → Prop} {C S : Nat} {hf : HP} {i a b o : Nat} {v : Value} (hC : Cx g z p R s m args meth c C S hf) (hd : decode (mB z) pc = .ok (.putfield i, 3)) (ha : a < 7) (hbn : b < cN a) (hw : Cond.fieldLink (mY z).cls i ((vc a).2.1 b).1 ((vc a).2.1 b).2.1 ((vc a).2.1 b).2.2.1 ∈ gw) (hko : hK h o = a) (hfin : ((vc a).2.1 b).2.2.2 = true → mS z = 2 ∧ (vc a).1 = (mY z).cls) (hn : narrow (tyF a b) v = v) (hft : fits (tyF a b) v = true)
    {H : Heap} {locs : List Loc} {cells slots : Nat} {ls : Array Slot} {rest : List Value} (hc : Cur g h s H locs)
    (kk : ∀ (H1 : Heap) (locs1 : List Loc), va_P (gD g) vwCl ((wo g h).set (o - 5) (gB g + (o - 5), .inr (a, (fvs g h a o).set b v))) H1 → va_S (gQ g) s.heap H1 locs1 → W p l e R s m args below meth c H1 locs1 cells slots Q (F0 m (pc + 3) ls rest)) : W p l e R s m args below meth c H locs cells slots Q (F0 m pc ls (v :: .ref (ad g o) :: rest)) := by
  obtain ⟨hx, hb, hml, hr, hown, hts, hlk, hnm, hk, hR, hCS, hsz⟩ := hC
  obtain ⟨hwf, hP, hS⟩ := hc
  have ho := hwf.where hko (by omega)
  have he := wo_at g ho.1 ho.2
  rw [ce_obj g ha hko] at he
  rw [ad_hi g ho.1]
  have hb2 : b < (vc a).2.2 := by rw [← cN_vc a ha]; exact hbn
  by_cases hfn : ((vc a).2.1 b).2.2.2 = true
  · obtain ⟨f1, f2⟩ := hfin hfn
    exact va_putF (D := gD g) (cl := vwCl) (tys := tyA (gA g)) (ws := wo g h) (ci := a) (C := (vc a).1) (T := (vc a).2.1) (N := (vc a).2.2) hx hb hts (lay_in ha) (tyF a) (ty_ok ha) (nm_ok ha) hown hk.2.1 hP (wo_D g h) hS (o - 5) he (vc_at ha) b hb2 (hts _ hw) (fun _ q => q) hfn (hnm f1) (by rw [dc_ok a ha b hbn]; exact f2) (ty_ok ha b hb2) hn hft (by rw [fvs_len]; exact hbn) hd (fun H1 locs1 hP1 _ hS1 => kk H1 locs1 hP1 hS1)
  · exact va_put (D := gD g) (cl := vwCl) (tys := tyA (gA g)) (ws := wo g h) (ci := a) (C := (vc a).1) (T := (vc a).2.1) (N := (vc a).2.2) hx hb hts (lay_in ha) (tyF a) (ty_ok ha) (nm_ok ha) hown hk.2.1 hP (wo_D g h) hS (o - 5) he (vc_at ha) b hb2 (hts _ hw) (fun _ q => q) (by simpa using hfn) (ty_ok ha b hb2) hn hft (by rw [fvs_len]; exact hbn) hd (fun H1 locs1 hP1 _ hS1 => kk H1 locs1 hP1 hS1)
theorem fvs_sI (g : GP) {a b o : Nat} (x : Int32) (hf : ¬ ft a b = 2) : fvs g (sI h o b x) a o = (fvs g h a o).set b (.int x) := by
  apply List.ext_getElem?
  intro j
  rw [List.getElem?_set]
  by_cases hj : j < cN a
  · rw [fvs_at g _ o hj, fvs_at g _ o hj, fvs_len]
    by_cases hbj : b = j
    · subst hbj
      rw [if_pos rfl, if_pos hj, if_neg hf, hI_sI, if_pos rfl]
      simp [upd]
    · rw [if_neg hbj, hR_sI, hI_sI, if_pos rfl]
      have : j ≠ b := fun q => hbj q.symm
      simp [upd, this]
  · have n1 : (fvs g (sI h o b x) a o)[j]? = none := by simp [fvs]; omega
    have n2 : (fvs g h a o)[j]? = none := by simp [fvs]; omega
    rw [n1, n2, fvs_len]
    by_cases hbj : b = j
    · rw [if_pos hbj, if_neg (by omega)]
    · rw [if_neg hbj]
theorem fvs_sR (g : GP) {a b o q : Nat} (hf : ft a b = 2) : fvs g (sR h o b (some q)) a o = (fvs g h a o).set b (.ref (ad g q)) := by
  apply List.ext_getElem?
  intro j
  rw [List.getElem?_set]
  by_cases hj : j < cN a
  · rw [fvs_at g _ o hj, fvs_at g _ o hj, fvs_len]
    by_cases hbj : b = j
    · subst hbj
      rw [if_pos rfl, if_pos hj, if_pos hf, hR_sRr, if_pos rfl]
      simp [va_up, va_rf]
    · rw [if_neg hbj, hI_sR, hR_sRr, if_pos rfl]
      have : j ≠ b := fun q => hbj q.symm
      simp [va_up, this]
  · have n1 : (fvs g (sR h o b (some q)) a o)[j]? = none := by simp [fvs]; omega
    have n2 : (fvs g h a o)[j]? = none := by simp [fvs]; omega
    rw [n1, n2, fvs_len]
    by_cases hbj : b = j
    · rw [if_pos hbj, if_neg (by omega)]
    · rw [if_neg hbj]
theorem n_putI {i a b o : Nat} {x : Int32} (hd : decode (mB z) pc = .ok (.putfield i, 3)) (ha : a < 7) (hbn : b < cN a) (hw : Cond.fieldLink (mY z).cls i ((vc a).2.1 b).1 ((vc a).2.1 b).2.1 ((vc a).2.1 b).2.2.1 ∈ gw) (hko : hK h o = a) (hfin : ((vc a).2.1 b).2.2.2 = true → mS z = 2 ∧ (vc a).1 = (mY z).cls) (hft : ft a b = 0 ∨ (ft a b = 1 ∧ (x = 0 ∨ x = 1))) : Nxt z mid pc loc (.int x :: .ref o :: st) h (mid, pc + 3, loc, st, sI h o b x) := by
  refine ⟨rfl, ⟨Nat.le_refl _, Nat.le_refl _⟩, ?_⟩
  intro g p l e R s m args below meth c Q C S hf hC hz hu k H locs cells slots ls hc hl e1 e2
  have ho := hc.1.where hko (by omega)
  have hty : narrow (tyF a b) (.int x) = .int x ∧ fits (tyF a b) (.int x) = true := by
    obtain ⟨t0, t1, -⟩ := ft_ok a ha b hbn
    rcases hft with q | ⟨q, rfl | rfl⟩
    · rw [t0 q]; exact ⟨rfl, rfl⟩
    · rw [t1 q]; exact ⟨rfl, rfl⟩
    · rw [t1 q]; exact ⟨rfl, rfl⟩
  refine put_any (v := .int x) (rest := st.map (cv g)) hC hd ha hbn hw hko hfin hty.1 hty.2 hc (fun H1 locs1 hP1 hS1 => ?_)
  refine k H1 locs1 cells slots ls (Cur_upd (o := o) hc.1 ho.1 rfl rfl rfl (fun q hq => by rw [hI_sI, if_neg hq]) (fun _ _ => rfl) (fun _ _ => rfl) ?_ hS1) hl e1 e2
  rw [ce_obj g (h := sI h o b x) ha hko, fvs_sI g x (by rcases hft with q | ⟨q, -⟩ <;> omega)]
  exact hP1
theorem n_putR {i a b o q : Nat} (hd : decode (mB z) pc = .ok (.putfield i, 3)) (ha : a < 7) (hbn : b < cN a) (hw : Cond.fieldLink (mY z).cls i ((vc a).2.1 b).1 ((vc a).2.1 b).2.1 ((vc a).2.1 b).2.2.1 ∈ gw) (hko : hK h o = a) (hfin : ((vc a).2.1 b).2.2.2 = true → mS z = 2 ∧ (vc a).1 = (mY z).cls) (hft : ft a b = 2) : Nxt z mid pc loc (.ref q :: .ref o :: st) h (mid, pc + 3, loc, st, sR h o b (some q)) := by
  refine ⟨rfl, ⟨Nat.le_refl _, Nat.le_refl _⟩, ?_⟩
  intro g p l e R s m args below meth c Q C S hf hC hz hu k H locs cells slots ls hc hl e1 e2
  have ho := hc.1.where hko (by omega)
  have hty : narrow (tyF a b) (.ref (ad g q)) = .ref (ad g q) ∧ fits (tyF a b) (.ref (ad g q)) = true := by
    obtain ⟨-, -, t2, -⟩ := ft_ok a ha b hbn
    have := t2 hft
    cases htt : tyF a b <;> rw [htt] at this <;> first | exact ⟨rfl, rfl⟩ | cases this
  refine put_any (v := .ref (ad g q)) (rest := st.map (cv g)) hC hd ha hbn hw hko hfin hty.1 hty.2 hc (fun H1 locs1 hP1 hS1 => ?_)
  refine k H1 locs1 cells slots ls (Cur_upd (o := o) hc.1 ho.1 rfl rfl rfl (fun _ _ => rfl) (fun _ _ => rfl) (fun x hx => by rw [hR_sRr, if_neg hx]) ?_ hS1) hl e1 e2
  rw [ce_obj g (h := sR h o b (some q)) ha hko, fvs_sR g hft]
  exact hP1
theorem n_iald {o : Nat} {i : Int32} (hd : decode (mB z) pc = .ok (.iaload, 1)) (hko : hK h o = 10) (hi : inB i (hN h o) = true) : Nxt z mid pc loc (.int i :: .ref o :: st) h (mid, pc + 1, loc, .int (hI h o i.toNatClampNeg) :: st, h) := by
  refine ⟨rfl, ⟨Nat.le_refl _, Nat.le_refl _⟩, ?_⟩
  intro g p l e R s m args below meth c Q C S hf hC hz hu k H locs cells slots ls hc hl e1 e2
  obtain ⟨hx, hb, hml, hr, hown, hts, hlk, hnm, hk, hR, hCS, hsz⟩ := hC
  obtain ⟨hwf, hP, hS⟩ := id hc
  have ho := hwf.where hko (by omega)
  have he := wo_at g ho.1 ho.2
  rw [ce_int g hko] at he
  show W _ _ _ _ _ _ _ _ _ _ _ _ _ _ _ (F0 m pc ls (.int i :: .ref (ad g o) :: st.map (cv g)))
  rw [ad_hi g ho.1]
  exact va_iald (D := gD g) (cl := vwCl) (tys := tyA (gA g)) (ws := wo g h) hx hb hk.2.1 hP (o - 5) 0 he rfl (inB_in hi) hd (k H locs cells slots ls hc hl e1 e2)
theorem n_zald {o : Nat} {i : Int32} (hd : decode (mB z) pc = .ok (.baload, 1)) (hko : hK h o = 12) (hi : inB i (hN h o) = true) : Nxt z mid pc loc (.int i :: .ref o :: st) h (mid, pc + 1, loc, .int (hI h o i.toNatClampNeg) :: st, h) := by
  refine ⟨rfl, ⟨Nat.le_refl _, Nat.le_refl _⟩, ?_⟩
  intro g p l e R s m args below meth c Q C S hf hC hz hu k H locs cells slots ls hc hl e1 e2
  obtain ⟨hx, hb, hml, hr, hown, hts, hlk, hnm, hk, hR, hCS, hsz⟩ := hC
  obtain ⟨hwf, hP, hS⟩ := id hc
  have ho := hwf.where hko (by omega)
  have he := wo_at g ho.1 ho.2
  rw [ce_bool g hko] at he
  show W _ _ _ _ _ _ _ _ _ _ _ _ _ _ _ (F0 m pc ls (.int i :: .ref (ad g o) :: st.map (cv g)))
  rw [ad_hi g ho.1]
  exact va_zald (D := gD g) (cl := vwCl) (tys := tyA (gA g)) (ws := wo g h) hx hb hk.2.1 hP (o - 5) 2 he rfl (inB_in hi) hd (k H locs cells slots ls hc hl e1 e2)
theorem n_lald {o : Nat} {i : Int32} (hd : decode (mB z) pc = .ok (.laload, 1)) (hko : hK h o = 11) (hi : inB i (hN h o) = true) : Nxt z mid pc loc (.int i :: .ref o :: st) h (mid, pc + 1, loc, .long (hL h o i.toNatClampNeg) :: st, h) := by
  refine ⟨rfl, ⟨Nat.le_refl _, Nat.le_refl _⟩, ?_⟩
  intro g p l e R s m args below meth c Q C S hf hC hz hu k H locs cells slots ls hc hl e1 e2
  obtain ⟨hx, hb, hml, hr, hown, hts, hlk, hnm, hk, hR, hCS, hsz⟩ := hC
  obtain ⟨hwf, hP, hS⟩ := id hc
  have ho := hwf.where hko (by omega)
  have he := wo_at g ho.1 ho.2
  rw [ce_long g hko] at he
  show W _ _ _ _ _ _ _ _ _ _ _ _ _ _ _ (F0 m pc ls (.int i :: .ref (ad g o) :: st.map (cv g)))
  rw [ad_hi g ho.1]
  exact va_lald (D := gD g) (cl := vwCl) (tys := tyA (gA g)) (ws := wo g h) hx hb hk.2.1 hP (o - 5) 1 he rfl (inB_in hi) hd (k H locs cells slots ls hc hl e1 e2)
theorem n_xald {o : Nat} {i : Int32} (hd : decode (mB z) pc = .ok (.iaload, 1)) (hko : hK h o = 13) (hi : inB i (hN h o) = true) : Nxt z mid pc loc (.int i :: .ref o :: st) h (mid, pc + 1, loc, .int (hI h o i.toNatClampNeg) :: st, h) := by
  refine ⟨rfl, ⟨Nat.le_refl _, Nat.le_refl _⟩, ?_⟩
  intro g p l e R s m args below meth c Q C S hf hC hz hu k H locs cells slots ls hc hl e1 e2
  obtain ⟨hx, hb, hml, hr, hown, hts, hlk, hnm, hk, hR, hCS, hsz⟩ := hC
  obtain ⟨hwf, hP, hS⟩ := id hc
  have ho := hwf.2.2.2 o hko
  obtain ⟨-, x2, x3⟩ := hwf.2.1 o ho
  show W _ _ _ _ _ _ _ _ _ _ _ _ _ _ _ (F0 m pc ls (.int i :: .ref (ad g o) :: st.map (cv g)))
  rw [ad_lo g ho]
  exact va_ti (v := .int (hI h o i.toNatClampNeg)) hx hb (hk.2.2.2.2 o ho) hS (by rw [← x2]; exact inB_in hi) (by rw [x3]) hd (k H locs cells slots ls hc hl e1 e2)
theorem n_alen {o : Nat} (hd : decode (mB z) pc = .ok (.arraylength, 1)) (hko : hK h o = 10 ∨ hK h o = 11 ∨ hK h o = 12 ∨ hK h o = 13) : Nxt z mid pc loc (.ref o :: st) h (mid, pc + 1, loc, .int (nI (hN h o)) :: st, h) := by
  refine ⟨rfl, ⟨Nat.le_refl _, Nat.le_refl _⟩, ?_⟩
  intro g p l e R s m args below meth c Q C S hf hC hz hu k H locs cells slots ls hc hl e1 e2
  obtain ⟨hx, hb, hml, hr, hown, hts, hlk, hnm, hk, hR, hCS, hsz⟩ := hC
  obtain ⟨hwf, hP, hS⟩ := id hc
  show W _ _ _ _ _ _ _ _ _ _ _ _ _ _ _ (F0 m pc ls (.ref (ad g o) :: st.map (cv g)))
  rcases hko with q | q | q | q
  · have ho := hwf.where q (by omega)
    have he := wo_at g ho.1 ho.2
    rw [ce_int g q] at he
    rw [ad_hi g ho.1]
    exact va_alen (D := gD g) (cl := vwCl) (tys := tyA (gA g)) (ws := wo g h) hx hb hk.2.1 hP (o - 5) 0 he rfl rfl hd (k H locs cells slots ls hc hl e1 e2)
  · have ho := hwf.where q (by omega)
    have he := wo_at g ho.1 ho.2
    rw [ce_long g q] at he
    rw [ad_hi g ho.1]
    exact va_alen (D := gD g) (cl := vwCl) (tys := tyA (gA g)) (ws := wo g h) hx hb hk.2.1 hP (o - 5) 1 he rfl rfl hd (k H locs cells slots ls hc hl e1 e2)
  · have ho := hwf.where q (by omega)
    have he := wo_at g ho.1 ho.2
    rw [ce_bool g q] at he
    rw [ad_hi g ho.1]
    exact va_alen (D := gD g) (cl := vwCl) (tys := tyA (gA g)) (ws := wo g h) hx hb hk.2.1 hP (o - 5) 2 he rfl rfl hd (k H locs cells slots ls hc hl e1 e2)
  · have ho := hwf.2.2.2 o q
    obtain ⟨-, x2, x3⟩ := hwf.2.1 o ho
    rw [ad_lo g ho]
    exact va_tlen hx hb (hk.2.2.2.2 o ho) hS (by rw [← x2]; rfl) hd (k H locs cells slots ls hc hl e1 e2)
theorem n_iast {o : Nat} {i : Int32} {x : Int32} (hd : decode (mB z) pc = .ok (.iastore, 1)) (hko : hK h o = 10) (hi : inB i (hN h o) = true) : Nxt z mid pc loc (.int x :: .int i :: .ref o :: st) h (mid, pc + 1, loc, st, sI h o i.toNatClampNeg x) := by
  refine ⟨rfl, ⟨Nat.le_refl _, Nat.le_refl _⟩, ?_⟩
  intro g p l e R s m args below meth c Q C S hf hC hz hu k H locs cells slots ls hc hl e1 e2
  obtain ⟨hx, hb, hml, hr, hown, hts, hlk, hnm, hk, hR, hCS, hsz⟩ := hC
  obtain ⟨hwf, hP, hS⟩ := id hc
  have ho := hwf.where hko (by omega)
  have he := wo_at g ho.1 ho.2
  rw [ce_int g hko] at he
  show W _ _ _ _ _ _ _ _ _ _ _ _ _ _ _ (F0 m pc ls (.int x :: .int i :: .ref (ad g o) :: st.map (cv g)))
  rw [ad_hi g ho.1]
  refine va_iast (D := gD g) (cl := vwCl) (tys := tyA (gA g)) (ws := wo g h) hx hb hk.2.1 hP (wo_D g h) hS (o - 5) 0 he rfl (inB_in hi) hd (fun H1 locs1 hP1 _ hS1 => ?_)
  refine k H1 locs1 cells slots ls (Cur_upd (o := o) hwf ho.1 rfl rfl rfl (fun q hq => by rw [hI_sI, if_neg hq]) (fun _ _ => rfl) (fun _ _ => rfl) ?_ hS1) hl e1 e2
  rw [ce_int g (h := sI h o i.toNatClampNeg x) hko, hI_sI, if_pos rfl]
  exact hP1
theorem n_zast {o : Nat} {i : Int32} {x : Int32} (hd : decode (mB z) pc = .ok (.bastore, 1)) (hko : hK h o = 12) (hi : inB i (hN h o) = true) : Nxt z mid pc loc (.int x :: .int i :: .ref o :: st) h (mid, pc + 1, loc, st, sI h o i.toNatClampNeg (x &&& 1)) := by
  refine ⟨rfl, ⟨Nat.le_refl _, Nat.le_refl _⟩, ?_⟩
  intro g p l e R s m args below meth c Q C S hf hC hz hu k H locs cells slots ls hc hl e1 e2
  obtain ⟨hx, hb, hml, hr, hown, hts, hlk, hnm, hk, hR, hCS, hsz⟩ := hC
  obtain ⟨hwf, hP, hS⟩ := id hc
  have ho := hwf.where hko (by omega)
  have he := wo_at g ho.1 ho.2
  rw [ce_bool g hko] at he
  show W _ _ _ _ _ _ _ _ _ _ _ _ _ _ _ (F0 m pc ls (.int x :: .int i :: .ref (ad g o) :: st.map (cv g)))
  rw [ad_hi g ho.1]
  refine va_zast (D := gD g) (cl := vwCl) (tys := tyA (gA g)) (ws := wo g h) hx hb hk.2.1 hP (wo_D g h) hS (o - 5) 2 he rfl (inB_in hi) hd (fun H1 locs1 hP1 _ hS1 => ?_)
  refine k H1 locs1 cells slots ls (Cur_upd (o := o) hwf ho.1 rfl rfl rfl (fun q hq => by rw [hI_sI, if_neg hq]) (fun _ _ => rfl) (fun _ _ => rfl) ?_ hS1) hl e1 e2
  rw [ce_bool g (h := sI h o i.toNatClampNeg (x &&& 1)) hko, hI_sI, if_pos rfl]
  exact hP1
theorem n_last {o : Nat} {i : Int32} {x : Int64} (hd : decode (mB z) pc = .ok (.lastore, 1)) (hko : hK h o = 11) (hi : inB i (hN h o) = true) : Nxt z mid pc loc (.long x :: .int i :: .ref o :: st) h (mid, pc + 1, loc, st, sL h o i.toNatClampNeg x) := by
  refine ⟨rfl, ⟨Nat.le_refl _, Nat.le_refl _⟩, ?_⟩
  intro g p l e R s m args below meth c Q C S hf hC hz hu k H locs cells slots ls hc hl e1 e2
  obtain ⟨hx, hb, hml, hr, hown, hts, hlk, hnm, hk, hR, hCS, hsz⟩ := hC
  obtain ⟨hwf, hP, hS⟩ := id hc
  have ho := hwf.where hko (by omega)
  have he := wo_at g ho.1 ho.2
  rw [ce_long g hko] at he
  show W _ _ _ _ _ _ _ _ _ _ _ _ _ _ _ (F0 m pc ls (.long x :: .int i :: .ref (ad g o) :: st.map (cv g)))
  rw [ad_hi g ho.1]
  refine va_last (D := gD g) (cl := vwCl) (tys := tyA (gA g)) (ws := wo g h) hx hb hk.2.1 hP (wo_D g h) hS (o - 5) 1 he rfl (inB_in hi) hd (fun H1 locs1 hP1 _ hS1 => ?_)
  refine k H1 locs1 cells slots ls (Cur_upd (o := o) hwf ho.1 rfl rfl rfl (fun _ _ => rfl) (fun q hq => by rw [hL_sL, if_neg hq]) (fun _ _ => rfl) ?_ hS1) hl e1 e2
  rw [ce_long g (h := sL h o i.toNatClampNeg x) hko, hL_sL, if_pos rfl]
  exact hP1
theorem n_gets {i a : Nat} (hd : decode (mB z) pc = .ok (.getstatic i, 3)) (ha : a < 4) (hw : Cond.fieldLink (mY z).cls i (stC a) (stN a) "[I" ∈ gw) : Nxt z mid pc loc st h (mid, pc + 3, loc, .ref a :: st, h) := by
  refine ⟨rfl, ⟨Nat.le_refl _, Nat.le_refl _⟩, ?_⟩
  intro g p l e R s m args below meth c Q C S hf hC hz hu k H locs cells slots ls hc hl e1 e2
  obtain ⟨hx, hb, hml, hr, hown, hts, hlk, hnm, hk, hR, hCS, hsz⟩ := hC
  obtain ⟨hwf, hP, hS⟩ := id hc
  have k2 := k H locs cells slots ls hc hl e1 e2
  have e9 : ((.ref a :: st).map (cv g)) = .ref (gE g a) :: st.map (cv g) := by simp [cv_ref, ad_lo g (show a < 5 by omega)]
  dsimp only at k2
  rw [e9] at k2
  exact va_gets (v := .ref (gE g a)) hx hb (hk.2.2.2.1 a ha) hS hown (hts _ hw) (fun _ q => q) hd k2
theorem n_getsN {i a : Nat} (hd : decode (mB z) pc = .ok (.getstatic i, 3)) (ha : a < 4) (hw : Cond.fieldLinkNest (mY z).cls i (stC a) (stN a) "[I" "LoopBoard" ∈ nw_) : Nxt z mid pc loc st h (mid, pc + 3, loc, .ref a :: st, h) := by
  refine ⟨rfl, ⟨Nat.le_refl _, Nat.le_refl _⟩, ?_⟩
  intro g p l e R s m args below meth c Q C S hf hC hz hu k H locs cells slots ls hc hl e1 e2
  obtain ⟨hx, hb, hml, hr, hown, hts, hlk, hnm, hk, hR, hCS, hsz⟩ := hC
  obtain ⟨hwf, hP, hS⟩ := id hc
  have k2 := k H locs cells slots ls hc hl e1 e2
  have e9 : ((.ref a :: st).map (cv g)) = .ref (gE g a) :: st.map (cv g) := by simp [cv_ref, ad_lo g (show a < 5 by omega)]
  dsimp only at k2
  rw [e9] at k2
  exact va_getsN (v := .ref (gE g a)) hx hb (hk.2.2.2.1 a ha) hS hown (va_Nw.use rfl (hk.2.2.1 _ hw)) (fun _ q => q) hd k2
theorem new_at {g : GP} {h : HP} {q : Nat} {E : va_E} {H1 : Heap} (h5 : 5 ≤ hZ h) (hP : va_P (gD g) vwCl (wo g h ++ [(q, E)]) H1) (hD : va_D (gQ g) (wo g h ++ [(q, E)])) (hsz : H1.size ≤ gB g + (hZ h + 1 - 5)) : q = gB g + (hZ h - 5) := by
  have hat : (wo g h ++ [(q, E)])[(wo g h).length]? = some (q, E) := by simp
  have h1 : q < H1.size := (hP _ _ hat).lt
  have h2 : gB g ≤ q := hD.2 _ _ hat
  rcases Nat.lt_or_ge q (gB g + (hZ h - 5)) with h3 | h3
  · have h4 : q - gB g < hZ h - 5 := by omega
    have h6 : (wo g h ++ [(q, E)])[q - gB g]? = some (gB g + (q - gB g), ce g h (q - gB g + 5)) := by
      rw [List.getElem?_append_left (by rw [wo_len]; exact h4)]
      simp [wo, h4]
    have h7 := hD.1 _ _ _ _ h6 hat (by show gB g + (q - gB g) = q; omega)
    rw [wo_len] at h7
    omega
  · omega
theorem WF_nw {g : GP} {h : HP} {a n w : Nat} (hwf : WF g h) (ha : a < 13) : WF g (nw h a n w) := by
  obtain ⟨w0, w1, w2, w3⟩ := hwf
  refine ⟨by rw [hZ_nw]; omega, fun i hi => ?_, fun q hq => ?_, fun q hq => ?_⟩
  · rw [hK_nw, hN_nw, hI_nw, if_neg (by omega), if_neg (by omega), if_neg (by omega)]
    exact w1 i hi
  · rw [hZ_nw] at hq
    rw [hK_nw, if_neg (by omega)]
    exact w2 q (by omega)
  · rw [hK_nw] at hq
    by_cases hqz : q = hZ h
    · rw [if_pos hqz] at hq; omega
    · rw [if_neg hqz] at hq; exact w3 q hq
theorem ce_nw (g : GP) {h : HP} {a n w q : Nat} (hq : q ≠ hZ h) : ce g (nw h a n w) q = ce g h q := ce_ext g (by rw [hK_nw, if_neg hq]) (by rw [hN_nw, if_neg hq]) (by rw [hI_nw, if_neg hq]) (by rw [hL_nw, if_neg hq]) (by rw [hR_nw, if_neg hq])
theorem n_new {i a : Nat} (hd : decode (mB z) pc = .ok (.new i, 3)) (ha : a < 7) (hw : Cond.classLink (mY z).cls i (vc a).1 ∈ gw) : Nxt z mid pc loc st h (mid, pc + 3, loc, .ref (hZ h) :: st, nw h a 0 (cN a)) := by
  refine ⟨rfl, ⟨Nat.le_succ _, Nat.le_add_right _ _⟩, ?_⟩
  intro g p l e R s m args below meth c Q C S hf hC hz hu k H locs cells slots ls hc hl e1 e2
  obtain ⟨hx, hb, hml, hr, hown, hts, hlk, hnm, hk, hR, hCS, hsz⟩ := hC
  obtain ⟨hwf, hP, hS⟩ := id hc
  have hz2 : hZ h + 1 ≤ hZ hf := hz
  have hu2 : hU h + cN a ≤ hU hf := hu
  have h5 := hwf.1
  have hcn := cN_vc a ha
  refine va_new (D := gD g) (cl := vwCl) (tys := tyA (gA g)) (ws := wo g h) (ci := a) (fs := fvs g (nw h a 0 (cN a)) a (hZ h)) (C := (vc a).1) (T := (vc a).2.1) (N := (vc a).2.2) hx hb hts (lay_in ha) (tyF a) (ty_ok ha) hown (hts _ hw) (hts _ (ins_in ha).1) (hts _ (ins_in ha).2) hk.2.1 hP (wo_D g h) hS (fun q hq => Nat.le_trans hk.1 hq) (vc_at ha) ?_ (by omega) (by omega) hd (fun q H1 hP1 hD1 hS1 => ?_)
  · intro j hj
    have hj2 : j < cN a := by rw [hcn]; exact hj
    have hat := fvs_at g (nw h a 0 (cN a)) (hZ h) hj2
    unfold vp_V
    rw [List.getD_eq_getElem?_getD, hat, hR_nw, hI_nw, if_pos rfl, if_pos rfl]
    obtain ⟨t0, t1, t2, t3⟩ := ft_ok a ha j hj2
    rcases (by omega : ft a j = 0 ∨ ft a j = 1 ∨ ft a j = 2) with q | q | q
    · rw [t0 q, if_neg (by omega)]; rfl
    · rw [t1 q, if_neg (by omega)]; rfl
    · rw [if_pos q]
      have := t2 q
      cases htt : tyF a j <;> rw [htt] at this <;> first | rfl | cases this
  · refine W_size fun hs1 => ?_
    have hqe := new_at (g := g) h5 hP1 hD1 (by omega)
    subst hqe
    have e9 : ((.ref (hZ h) :: st).map (cv g)) = .ref (gB g + (hZ h - 5)) :: st.map (cv g) := by simp [cv_ref, ad_hi g h5]
    have hP2 : va_P (gD g) vwCl (wo g (nw h a 0 (cN a))) H1 := by
      rw [wo_push g (h := h) (h' := nw h a 0 (cN a)) rfl h5 (fun q hq => ce_nw g hq), ce_obj g (h := nw h a 0 (cN a)) ha (by rw [hK_nw, if_pos rfl])]
      exact hP1
    have k2 := k H1 locs (cells + 1) (slots + (vc a).2.2) ls ⟨WF_nw hwf (by omega), hP2, hS1⟩ hl (by show cells + 1 + (hZ hf - (hZ h + 1)) = C; omega) (by show slots + (vc a).2.2 + (hU hf - (hU h + cN a)) = S; omega)
    dsimp only at k2
    rw [e9] at k2
    exact k2
theorem n_newI {n : Int32} {N : Nat} (hd : decode (mB z) pc = .ok (.newarray .int, 2)) (hn : ¬ n < 0) (hN : n.toNatClampNeg = N) (hb9 : N ≤ 67108864) : Nxt z mid pc loc (.int n :: st) h (mid, pc + 2, loc, .ref (hZ h) :: st, nw h 10 N N) := by
  refine ⟨rfl, ⟨Nat.le_succ _, Nat.le_add_right _ _⟩, ?_⟩
  intro g p l e R s m args below meth c Q C S hf hC hz hu k H locs cells slots ls hc hl e1 e2
  obtain ⟨hx, hb, hml, hr, hown, hts, hlk, hnm, hk, hR, hCS, hsz⟩ := hC
  obtain ⟨hwf, hP, hS⟩ := id hc
  have hz2 : hZ h + 1 ≤ hZ hf := hz
  have hu2 : hU h + N ≤ hU hf := hu
  have h5 := hwf.1
  have hwa : Cond.arrayClass .int ∈ gw := by
    have h1 := congrArg (fun l => l[0]?) w_arr
    exact word_in (Option.some.inj h1) rfl
  refine va_newa (D := gD g) (cl := vwCl) (tys := tyA (gA g)) (ws := wo g h) (a0 := (N, .inl (fun _ => 0))) (atype := .int) (ty := .int) hx hb (hts _ hwa) rfl hk.2.1 hP (wo_D g h) hS (fun q hq => Nat.le_trans hk.1 hq) (fun cA => rfl) hn hN (by show N * _ ≤ 536870912; simp only [componentBytes]; omega) (by omega) (by omega) hd (fun q cA H1 hK1 hP1 hD1 hS1 => ?_)
  refine W_size fun hs1 => ?_
  have hqe := new_at (g := g) h5 hP1 hD1 (by omega)
  subst hqe
  have hcA : cA = gA g 10 := by
    have r1 : s.vm.findClass ("[" ++ (FieldType.int).toString) = some cA := (hK1.2 3 (cA, .int) rfl).2
    have r2 : s.vm.findClass ("[" ++ (FieldType.int).toString) = some (gA g 10) := (hK1.2 0 (gA g 10, .int) rfl).2
    exact Option.some.inj (r1.symm.trans r2)
  subst hcA
  have e9 : ((.ref (hZ h) :: st).map (cv g)) = .ref (gB g + (hZ h - 5)) :: st.map (cv g) := by simp [cv_ref, ad_hi g h5]
  have hP2 : va_P (gD g) vwCl (wo g (nw h 10 N N)) H1 := by
    rw [wo_push g (h := h) (h' := nw h 10 N N) rfl h5 (fun q hq => ce_nw g hq), ce_int g (h := nw h 10 N N) (by rw [hK_nw, if_pos rfl]), hN_nw, if_pos rfl]
    simp only [hI_nw, hL_nw, if_pos]
    exact hP1
  have k2 := k H1 locs (cells + 1) (slots + N) ls ⟨WF_nw hwf (by omega), hP2, hS1⟩ hl (by show cells + 1 + (hZ hf - (hZ h + 1)) = C; omega) (by show slots + N + (hU hf - (hU h + N)) = S; omega)
  dsimp only at k2
  rw [e9] at k2
  exact k2
theorem n_newL {n : Int32} {N : Nat} (hd : decode (mB z) pc = .ok (.newarray .long, 2)) (hn : ¬ n < 0) (hN : n.toNatClampNeg = N) (hb9 : N ≤ 67108864) : Nxt z mid pc loc (.int n :: st) h (mid, pc + 2, loc, .ref (hZ h) :: st, nw h 11 N N) := by
  refine ⟨rfl, ⟨Nat.le_succ _, Nat.le_add_right _ _⟩, ?_⟩
  intro g p l e R s m args below meth c Q C S hf hC hz hu k H locs cells slots ls hc hl e1 e2
  obtain ⟨hx, hb, hml, hr, hown, hts, hlk, hnm, hk, hR, hCS, hsz⟩ := hC
  obtain ⟨hwf, hP, hS⟩ := id hc
  have hz2 : hZ h + 1 ≤ hZ hf := hz
  have hu2 : hU h + N ≤ hU hf := hu
  have h5 := hwf.1
  have hwa : Cond.arrayClass .long ∈ gw := by
    have h1 := congrArg (fun l => l[1]?) w_arr
    exact word_in (Option.some.inj h1) rfl
  refine va_newa (D := gD g) (cl := vwCl) (tys := tyA (gA g)) (ws := wo g h) (a0 := (N, .inr (.inl (fun _ => 0)))) (atype := .long) (ty := .long) hx hb (hts _ hwa) rfl hk.2.1 hP (wo_D g h) hS (fun q hq => Nat.le_trans hk.1 hq) (fun cA => rfl) hn hN (by show N * _ ≤ 536870912; simp only [componentBytes]; omega) (by omega) (by omega) hd (fun q cA H1 hK1 hP1 hD1 hS1 => ?_)
  refine W_size fun hs1 => ?_
  have hqe := new_at (g := g) h5 hP1 hD1 (by omega)
  subst hqe
  have hcA : cA = gA g 11 := by
    have r1 : s.vm.findClass ("[" ++ (FieldType.long).toString) = some cA := (hK1.2 3 (cA, .long) rfl).2
    have r2 : s.vm.findClass ("[" ++ (FieldType.long).toString) = some (gA g 11) := (hK1.2 1 (gA g 11, .long) rfl).2
    exact Option.some.inj (r1.symm.trans r2)
  subst hcA
  have e9 : ((.ref (hZ h) :: st).map (cv g)) = .ref (gB g + (hZ h - 5)) :: st.map (cv g) := by simp [cv_ref, ad_hi g h5]
  have hP2 : va_P (gD g) vwCl (wo g (nw h 11 N N)) H1 := by
    rw [wo_push g (h := h) (h' := nw h 11 N N) rfl h5 (fun q hq => ce_nw g hq), ce_long g (h := nw h 11 N N) (by rw [hK_nw, if_pos rfl]), hN_nw, if_pos rfl]
    simp only [hI_nw, hL_nw, if_pos]
    exact hP1
  have k2 := k H1 locs (cells + 1) (slots + N) ls ⟨WF_nw hwf (by omega), hP2, hS1⟩ hl (by show cells + 1 + (hZ hf - (hZ h + 1)) = C; omega) (by show slots + N + (hU hf - (hU h + N)) = S; omega)
  dsimp only at k2
  rw [e9] at k2
  exact k2
theorem n_newZ {n : Int32} {N : Nat} (hd : decode (mB z) pc = .ok (.newarray .boolean, 2)) (hn : ¬ n < 0) (hN : n.toNatClampNeg = N) (hb9 : N ≤ 67108864) : Nxt z mid pc loc (.int n :: st) h (mid, pc + 2, loc, .ref (hZ h) :: st, nw h 12 N N) := by
  refine ⟨rfl, ⟨Nat.le_succ _, Nat.le_add_right _ _⟩, ?_⟩
  intro g p l e R s m args below meth c Q C S hf hC hz hu k H locs cells slots ls hc hl e1 e2
  obtain ⟨hx, hb, hml, hr, hown, hts, hlk, hnm, hk, hR, hCS, hsz⟩ := hC
  obtain ⟨hwf, hP, hS⟩ := id hc
  have hz2 : hZ h + 1 ≤ hZ hf := hz
  have hu2 : hU h + N ≤ hU hf := hu
  have h5 := hwf.1
  have hwa : Cond.arrayClass .boolean ∈ gw := by
    have h1 := congrArg (fun l => l[2]?) w_arr
    exact word_in (Option.some.inj h1) rfl
  refine va_newa (D := gD g) (cl := vwCl) (tys := tyA (gA g)) (ws := wo g h) (a0 := (N, .inl (fun _ => 0))) (atype := .boolean) (ty := .boolean) hx hb (hts _ hwa) rfl hk.2.1 hP (wo_D g h) hS (fun q hq => Nat.le_trans hk.1 hq) (fun cA => rfl) hn hN (by show N * _ ≤ 536870912; simp only [componentBytes]; omega) (by omega) (by omega) hd (fun q cA H1 hK1 hP1 hD1 hS1 => ?_)
  refine W_size fun hs1 => ?_
  have hqe := new_at (g := g) h5 hP1 hD1 (by omega)
  subst hqe
  have hcA : cA = gA g 12 := by
    have r1 : s.vm.findClass ("[" ++ (FieldType.boolean).toString) = some cA := (hK1.2 3 (cA, .boolean) rfl).2
    have r2 : s.vm.findClass ("[" ++ (FieldType.boolean).toString) = some (gA g 12) := (hK1.2 2 (gA g 12, .boolean) rfl).2
    exact Option.some.inj (r1.symm.trans r2)
  subst hcA
  have e9 : ((.ref (hZ h) :: st).map (cv g)) = .ref (gB g + (hZ h - 5)) :: st.map (cv g) := by simp [cv_ref, ad_hi g h5]
  have hP2 : va_P (gD g) vwCl (wo g (nw h 12 N N)) H1 := by
    rw [wo_push g (h := h) (h' := nw h 12 N N) rfl h5 (fun q hq => ce_nw g hq), ce_bool g (h := nw h 12 N N) (by rw [hK_nw, if_pos rfl]), hN_nw, if_pos rfl]
    simp only [hI_nw, hL_nw, if_pos]
    exact hP1
  have k2 := k H1 locs (cells + 1) (slots + N) ls ⟨WF_nw hwf (by omega), hP2, hS1⟩ hl (by show cells + 1 + (hZ hf - (hZ h + 1)) = C; omega) (by show slots + N + (hU hf - (hU h + N)) = S; omega)
  dsimp only at k2
  rw [e9] at k2
  exact k2
theorem n_copy {i o q : Nat} {n dp sp : Int32} (hd : decode (mB z) pc = .ok (.invokestatic i, 3)) (hw : Cond.methodLink (mY z).cls i arraycopyName ∈ gw) (hf1 : 1 ≤ mF z) (hf2 : 26 ≤ mO z) (hrm : rmB st = true) (ho : hK h o = 10) (hq : hK h q = 10) (h1 : ¬ sp < 0) (h2 : ¬ dp < 0) (h3 : ¬ n < 0) (h4 : sp.toNatClampNeg + n.toNatClampNeg ≤ hN h o) (h5 : dp.toNatClampNeg + n.toNatClampNeg ≤ hN h q) :
    Nxt z mid pc loc (.int n :: .int dp :: .ref q :: .int sp :: .ref o :: st) h (mid, pc + 3, loc, st, sA h q (va_cpy (hI h o) (hI h q) sp.toNatClampNeg dp.toNatClampNeg n.toNatClampNeg)) := by
  refine ⟨rfl, ⟨Nat.le_refl _, Nat.le_refl _⟩, ?_⟩
  intro g p l e R s m args below meth c Q C S hf hC hz hu k H locs cells slots ls hc hl e1 e2
  obtain ⟨hx, hb, hml, hr, hown, hts, hlk, hnm, hk, hR, hCS, hsz⟩ := hC
  obtain ⟨hwf, hP, hS⟩ := id hc
  have wo1 := hwf.where ho (by omega)
  have wq1 := hwf.where hq (by omega)
  have he := wo_at g wo1.1 wo1.2
  rw [ce_int g ho] at he
  have hf9 := wo_at g wq1.1 wq1.2
  rw [ce_int g hq] at hf9
  have hsum : (st.map fun v => v.category).sum ≤ 8 := Nat.le_of_ble_eq_true hrm
  show W _ _ _ _ _ _ _ _ _ _ _ _ _ _ _ (F0 m pc ls (.int n :: .int dp :: .ref (ad g q) :: .int sp :: .ref (ad g o) :: st.map (cv g)))
  rw [ad_hi g wo1.1, ad_hi g wq1.1]
  refine va_copyi (D := gD g) (cl := vwCl) (tys := tyA (gA g)) (ws := wo g h) (ty := .int) hx hb (by rw [hml]; exact hl.2.1.symm) hown (hts _ hw) (hts _ (word_in w_acn rfl)) (hts _ (word_in w_acs rfl)) (hts _ (word_in w_aci rfl)) hk.2.1 hP (wo_D g h) hS (o - 5) (q - 5) 0 0 he hf9 rfl rfl rfl h1 h2 h3 h4 h5 (fun _ _ => rfl) (Nat.le_trans hf1 hR.1) ?_ hd (fun H1 locs1 hP1 _ hS1 => ?_)
  · rw [cat_cv]
    have : nativeFrameWords "java/lang/System" "arraycopy" 5 = 7 := by decide +kernel
    omega
  · refine k H1 locs1 cells slots ls (Cur_upd (o := q) hwf wq1.1 rfl rfl rfl (fun x hx => by rw [hI_sA, if_neg hx]) (fun _ _ => rfl) (fun _ _ => rfl) ?_ hS1) hl e1 e2
    rw [ce_int g (h := sA h q _) hq, hI_sA, if_pos rfl]
    exact hP1
end Heaps
