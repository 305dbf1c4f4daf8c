theorem map_app_rev (g : GP) (as rest : List Value) : (as.reverse ++ rest).map (cv g) = (as.map (cv g)).reverse ++ rest.map (cv g) := by simp
theorem sim_call {n : Nat} (ih : Sm n) {z : MT} {mid pc : Nat} {loc stk : List Value} {h h1 hf : HP} {r1 r : Option Value} {cz : CF} {mid' pc' : Nat} {loc' rest : List Value} (hz : nth mtab mid = some z) (hcl : CL z mid pc loc stk h (cz, mid', pc', loc', rest)) (hr1 : run n cz = some (r1, h1)) (hr2 : run n (mid', pc', loc', r1.toList ++ rest, h1) = some (r, hf)) :
    (hZ h ≤ hZ hf ∧ hU h ≤ hU hf) ∧
  ∀ (g : GP) (p : Program) (l : Launch) (e : Env) (R : Room) (s : State) (m : MethodId) (args : Array Value) (below : List Frame) (meth : Method) (c : Code) (Q : State → Prop) (C S : Nat), Cx g z p R s m args meth c C S hf →
    (∀ (pc' : Nat) (H' : Heap) (locs' : List Loc) (ls' : Array Slot), RI z pc' r → Cur g hf s H' locs' → W p l e R s m args below meth c H' locs' C S Q (F0 m pc' ls' (r.toList.map (cv g)))) → Gl g z p l e R s m args below meth c Q C S hf pc loc stk h := by
  obtain ⟨k, zi, i, y, hinv, hy, hzi, hsy, ⟨hf1, hf2⟩, hdec, hlink⟩ := hcl
  obtain ⟨y2, as, rest2, hy2, -, hx2, hlen, hrm, hshape⟩ := inv_call hinv
  cases hy.symm.trans hy2
  cases hx2
  obtain ⟨⟨a1, a2⟩, -⟩ := ih zi 0 y _ [] h r1 h1 hy hr1
  obtain ⟨⟨b1, b2⟩, kont⟩ := ih mid (pc + 3) z loc _ h1 r hf hz hr2
  refine ⟨⟨Nat.le_trans a1 b1, Nat.le_trans a2 b2⟩, ?_⟩
  intro g p l e R s m args below meth c Q C S hC kfin H locs cells slots ls hc hl e1 e2
  have hM := met_of ih hy hlen hr1 g l
  have kg := kont g p l e R s m args below meth c Q C S hC kfin
  obtain ⟨hx, hb, hml, hr, hown, hts, hlk, hnm, hk, hR, hCS, hsz⟩ := hC
  obtain ⟨hwf, hP, hS⟩ := id hc
  have h5 := hwf.1
  refine W_size fun hs1 => ?_
  have hz' := wo_size h5 hP (Nat.le_trans hk.1 hS.1) (by omega)
  have hrlU : ∀ U : State, U.heap = H → s.WarmedH U.vm → Rl g h U := fun U hU hW => hc.rl hk hz' hU hW
  obtain ⟨wcode, wst, wsel, wini⟩ := m_words hy hzi
  have hcm := m_facts hy
  unfold ckM at hcm
  simp only [Bool.and_eq_true, decide_eq_true_eq] at hcm
  obtain ⟨⟨⟨-, hd1, hd2, hd3⟩, hinit⟩, hvirt⟩ := hcm
  have hgw : GoodIn gw (wsM y) := good_gw (fun w hw => by
    rcases List.mem_cons.mp hw with rfl | hw
    · exact wcode
    · exact hw)
  have hsum : ((rest.map (cv g)).map fun v => v.category).sum ≤ 8 := by rw [cat_cv]; exact Nat.le_of_ble_eq_true hrm
  have hroom : mF y + 1 ≤ R.frames ∧ 8 + (mX y + 11) + mO y ≤ R.locals := ⟨Nat.le_trans hf1 hR.1, Nat.le_trans hf2 hR.2⟩
  have hfit : cells + (hZ h1 - hZ h) ≤ R.cells ∧ slots + (hU h1 - hU h) ≤ R.slots := ⟨by omega, by omega⟩
  have hlsz : ls.size = mX z := hl.2.1
  have hrun : va_Run p l e R s m args below meth c H locs cells slots (hZ h1 - hZ h) (hU h1 - hU h) (F0 m pc ls (stk.map (cv g))) (rest.map (cv g)) (QM g r1 h1 ((as.map (cv g)).toArray)) (gQ g) := by
    rcases hshape with ⟨hk0, hn, rfl⟩ | ⟨hk0, o, as', rfl, hko, hn, rfl⟩
    · subst hk0
      have hd : decode (mB z) pc = .ok (.invokestatic i, 3) := by
        rcases hdec with ⟨-, q⟩ | ⟨q, -⟩ | ⟨q, -⟩
        · exact q
        · cases q
        · cases q
      have hstatic : Cond.static (mY y) ∈ gw := by rw [if_pos hsy] at wst; exact wst
      have hpre : PreS s H (va_Pc (as.map (cv g)) (Rl g h)) (as.map (cv g)) := ⟨Rl.blind _, fun U hU hW => ⟨rfl, hrlU U hU hW⟩⟩
      rcases hlink with ⟨-, hnest⟩ | hln
      · exact va_runSN (n := mP y) ⟨hx, hb, hml, hown, hts⟩ hM ⟨va_cnB (mP y) hts hgw rfl rfl rfl (hk.2.2.1 _ hnest) (hts _ wini) ⟨hd1, hd2, hd3⟩ hroom, hts _ hstatic, trivial⟩ hpre rfl (by rw [List.length_map]; exact hn) hlsz (map_app_rev g as rest) (lv_room hsum) hd hfit
      · exact va_runS (n := mP y) ⟨hx, hb, hml, hown, hts⟩ hM (va_cwS (mP y) hts (good_gw (fun w hw => by
          unfold va_wsS at hw
          rcases List.mem_append.mp hw with q | q
          · simp only [List.mem_cons, List.mem_nil_iff, or_false] at q
            rcases q with rfl | rfl | rfl
            · exact hln
            · exact hstatic
            · exact wini
          · exact (hgw w q).1)) rfl rfl rfl ⟨hd1, hd2, hd3⟩ hroom) hpre rfl (by rw [List.length_map]; exact hn) hlsz (map_app_rev g as rest) (lv_room hsum) hd hfit
    · have hinst : Cond.instanceMethod (mY y) ∈ gw := by rw [if_neg (by rw [hsy]; exact hk0)] at wst; exact wst
      have hln : Cond.methodLink (mY z).cls i (mY y) ∈ gw := by
        rcases hlink with ⟨q, -⟩ | q
        · exact absurd q hk0
        · exact q
      have hstk : ((as'.reverse ++ .ref o :: rest).map (cv g)) = (as'.map (cv g)).reverse ++ .ref (ad g o) :: rest.map (cv g) := by rw [map_app_rev]; rfl
      rcases hdec with ⟨q, -⟩ | ⟨hk1, hd⟩ | ⟨hk2, hd⟩
      · exact absurd q hk0
      · subst hk1
        rw [if_pos hsy] at hvirt
        simp only [Bool.and_eq_true, decide_eq_true_eq] at hvirt
        have hv7 : mV y < 7 := Nat.le_of_ble_eq_true hvirt.2
        have hko2 : hK h o = mV y := by
          rcases hko with q | q
          · cases q
          · exact q
        have ho := hwf.where hko2 (by omega)
        have he := wo_at g ho.1 ho.2
        rw [ce_obj g hv7 hko2] at he
        have hrecv := va_recv (s := s) hk.2.1 hP (vc_at hv7) he
        rw [hvirt.1] at hrecv
        have hpre : PreV s H (mY y).cls (ad g o) (va_Pc ((.ref o :: as').map (cv g)) (Rl g h)) (as'.map (cv g)) := ⟨Rl.blind _, by rw [ad_hi g ho.1]; exact hrecv, fun U hU hW => ⟨rfl, hrlU U hU hW⟩⟩
        exact va_runV (n := mP y) ⟨hx, hb, hml, hown, hts⟩ hM (cwV (mP y) hts (good_gw (fun w hw => by
          unfold wsV at hw
          rcases List.mem_append.mp hw with q | q
          · simp only [List.mem_cons, List.mem_nil_iff, or_false] at q
            rcases q with rfl | rfl | rfl | rfl
            · exact hln
            · exact hinst
            · exact wsel hsy
            · exact wini
          · exact (hgw w q).1)) rfl rfl rfl ⟨rfl, hd1, hd2, hd3⟩ hroom) hpre rfl (by rw [List.length_map]; exact hn) hlsz hstk (lv_room hsum) hd hfit
      · subst hk2
        rw [if_pos hsy] at hinit
        simp only [Bool.and_eq_true, decide_eq_true_eq] at hinit
        have hret : mT y = none := hinit.1.2
        have hpre : PreS s H (va_Pc ((.ref o :: as').map (cv g)) (Rl g h)) (.ref (ad g o) :: as'.map (cv g)) := ⟨Rl.blind _, fun U hU hW => ⟨rfl, hrlU U hU hW⟩⟩
        exact va_runI (n := mP y) ⟨hx, hb, hml, hown, hts⟩ hM (cwI (mP y) hts hgw (by unfold wsM; rw [hret]) rfl rfl (hts _ wini) (hts _ hln) (hts _ hinst) hinit.1.1 ⟨hd1, hd2, hd3⟩ hroom) hpre rfl (by rw [List.length_map]; exact hn) hlsz hstk (lv_room hsum) hd hfit
  refine call_any hrun (fun v st₀ t L h0 hq hal hL => ?_)
  obtain ⟨q1, q2, q3⟩ := hq
  cases q1
  have hst : (r1.map (cv g)).toList ++ rest.map (cv g) = (r1.toList ++ rest).map (cv g) := by cases r1 <;> rfl
  rw [hst]
  refine kg t.heap (locs ++ L) _ _ ls ⟨q2.1, q2.2.2.1, ?_⟩ hl (by omega) (by omega)
  have hz1 : H.size ≤ t.heap.size := by rw [← h0]; exact q3.1
  refine ⟨Nat.le_trans hS.1 hz1, fun q u1 u2 => ?_, fun q hq => ?_⟩
  · have := q3.2 q (by rw [h0]; exact Nat.lt_of_lt_of_le u1 hS.1) u2
    rw [this, h0]
    exact hS.2.1 q u1 u2
  · rcases List.mem_append.mp hq with u | u
    · exact hS.2.2 q u
    · exact hL q u
theorem sim : ∀ n, Sm n := by
  intro n
  induction n with
  | zero =>
    intro mid pc z loc stk h r hf hz hr
    exact absurd hr (by simp [run])
  | succ n ih =>
    intro mid pc z loc stk h r hf hz hr
    rw [run] at hr
    cases ha : act (mid, pc, loc, stk, h) with
    | none => rw [ha] at hr; cases hr
    | some x =>
      rw [ha] at hr
      rcases x with ⟨r0, h0⟩ | d | ⟨cz, mid', pc', loc', rest⟩
      · cases hr
        obtain ⟨rfl, hri, rfl⟩ := act_ret hz ha
        refine ⟨⟨Nat.le_refl _, Nat.le_refl _⟩, ?_⟩
        intro g p l e R s m args below meth c Q C S hC kfin H locs cells slots ls hc hl e1 e2
        have e3 : cells = C := by omega
        have e4 : slots = S := by omega
        subst e3
        subst e4
        exact kfin pc H locs ls hri hc
      · obtain ⟨hd1, ⟨m1, m2⟩, step⟩ := act_nx hz ha
        obtain ⟨dm, dpc, dloc, dstk, dh⟩ := d
        dsimp only at hd1 m1 m2 step hr
        subst hd1
        obtain ⟨⟨b1, b2⟩, kont⟩ := ih dm dpc z dloc dstk dh r hf hz hr
        refine ⟨⟨Nat.le_trans m1 b1, Nat.le_trans m2 b2⟩, ?_⟩
        intro g p l e R s m args below meth c Q C S hC kfin
        exact step g p l e R s m args below meth c Q C S hf hC b1 b2 (kont g p l e R s m args below meth c Q C S hC kfin)
      · dsimp only at hr
        cases hz1 : run n cz with
        | none => rw [hz1] at hr; cases hr
        | some q =>
          rw [hz1] at hr
          obtain ⟨r1, h1⟩ := q
          exact sim_call ih hz (act_call hz ha) hz1 hr
