/-! the checks of all methods in one -/
def okP (z : MT) : Prop := (mC z).all (ckE z) = true ∧ (mC z).map lkA = (mC z).map (lkB z)
theorem ok_all : ∀ z ∈ mtab, okP z := by
  unfold mtab
  exact List.forall_mem_cons.mpr ⟨⟨ck0, lk0⟩, List.forall_mem_cons.mpr ⟨⟨ck1, lk1⟩, List.forall_mem_cons.mpr ⟨⟨ck2, lk2⟩, List.forall_mem_cons.mpr ⟨⟨ck3, lk3⟩, List.forall_mem_cons.mpr ⟨⟨ck4, lk4⟩, List.forall_mem_cons.mpr ⟨⟨ck5, lk5⟩, List.forall_mem_cons.mpr ⟨⟨ck6, lk6⟩, List.forall_mem_cons.mpr ⟨⟨ck7, lk7⟩, List.forall_mem_cons.mpr ⟨⟨ck8, lk8⟩, List.forall_mem_cons.mpr ⟨⟨ck9, lk9⟩, List.forall_mem_cons.mpr ⟨⟨ck10, lk10⟩, List.forall_mem_cons.mpr ⟨⟨ck11, lk11⟩, List.forall_mem_cons.mpr ⟨⟨ck12, lk12⟩, List.forall_mem_cons.mpr ⟨⟨ck13, lk13⟩, List.forall_mem_cons.mpr ⟨⟨ck14, lk14⟩, List.forall_mem_cons.mpr ⟨⟨ck15, lk15⟩, List.forall_mem_cons.mpr ⟨⟨ck16, lk16⟩, List.forall_mem_cons.mpr ⟨⟨ck17, lk17⟩, List.forall_mem_cons.mpr ⟨⟨ck18, lk18⟩, List.forall_mem_cons.mpr ⟨⟨ck19, lk19⟩, List.forall_mem_cons.mpr ⟨⟨ck20, lk20⟩, List.forall_mem_cons.mpr ⟨⟨ck21, lk21⟩, List.forall_mem_cons.mpr ⟨⟨ck22, lk22⟩, List.forall_mem_cons.mpr ⟨⟨ck23, lk23⟩, List.forall_mem_cons.mpr ⟨⟨ck24, lk24⟩, List.forall_mem_cons.mpr ⟨⟨ck25, lk25⟩, List.forall_mem_cons.mpr ⟨⟨ck26, lk26⟩, List.forall_mem_cons.mpr ⟨⟨ck27, lk27⟩, List.forall_mem_cons.mpr ⟨⟨ck28, lk28⟩, List.forall_mem_cons.mpr ⟨⟨ck29, lk29⟩, List.forall_mem_cons.mpr ⟨⟨ck30, lk30⟩, List.forall_mem_cons.mpr ⟨⟨ck31, lk31⟩, List.forall_mem_cons.mpr ⟨⟨ck32, lk32⟩, List.forall_mem_cons.mpr ⟨⟨ck33, lk33⟩, List.forall_mem_cons.mpr ⟨⟨ck34, lk34⟩, List.forall_mem_cons.mpr ⟨⟨ck35, lk35⟩, List.forall_mem_cons.mpr ⟨⟨ck36, lk36⟩, List.forall_mem_cons.mpr ⟨⟨ck37, lk37⟩, List.forall_mem_cons.mpr ⟨⟨ck38, lk38⟩, List.forall_mem_cons.mpr ⟨⟨ck39, lk39⟩, List.forall_mem_cons.mpr ⟨⟨ck40, lk40⟩, List.forall_mem_cons.mpr ⟨⟨ck41, lk41⟩, List.forall_mem_cons.mpr ⟨⟨ck42, lk42⟩, List.forall_mem_cons.mpr ⟨⟨ck43, lk43⟩, List.forall_mem_cons.mpr ⟨⟨ck44, lk44⟩, List.forall_mem_cons.mpr ⟨⟨ck45, lk45⟩, List.forall_mem_cons.mpr ⟨⟨ck46, lk46⟩, List.forall_mem_cons.mpr ⟨⟨ck47, lk47⟩, List.forall_mem_cons.mpr ⟨⟨ck48, lk48⟩, List.forall_mem_cons.mpr ⟨⟨ck49, lk49⟩, List.forall_mem_cons.mpr ⟨⟨ck50, lk50⟩, List.forall_mem_cons.mpr ⟨⟨ck51, lk51⟩, List.forall_mem_cons.mpr ⟨⟨ck52, lk52⟩, List.forall_mem_cons.mpr ⟨⟨ck53, lk53⟩, List.forall_mem_cons.mpr ⟨⟨ck54, lk54⟩, List.forall_mem_cons.mpr ⟨⟨ck55, lk55⟩, List.forall_mem_cons.mpr ⟨⟨ck56, lk56⟩, List.forall_mem_cons.mpr ⟨⟨ck57, lk57⟩, List.forall_mem_cons.mpr ⟨⟨ck58, lk58⟩, List.forall_mem_cons.mpr ⟨⟨ck59, lk59⟩, List.forall_mem_cons.mpr ⟨⟨ck60, lk60⟩, List.forall_mem_cons.mpr ⟨⟨ck61, lk61⟩, List.forall_mem_cons.mpr ⟨⟨ck62, lk62⟩, List.forall_mem_cons.mpr ⟨⟨ck63, lk63⟩, List.forall_mem_cons.mpr ⟨⟨ck64, lk64⟩, List.forall_mem_cons.mpr ⟨⟨ck65, lk65⟩, List.forall_mem_cons.mpr ⟨⟨ck66, lk66⟩, List.forall_mem_cons.mpr ⟨⟨ck67, lk67⟩, List.forall_mem_cons.mpr ⟨⟨ck68, lk68⟩, List.forall_mem_cons.mpr ⟨⟨ck69, lk69⟩, List.forall_mem_cons.mpr ⟨⟨ck70, lk70⟩, List.forall_mem_cons.mpr ⟨⟨ck71, lk71⟩, List.forall_mem_cons.mpr ⟨⟨ck72, lk72⟩, List.forall_mem_cons.mpr ⟨⟨ck73, lk73⟩, List.forall_mem_cons.mpr ⟨⟨ck74, lk74⟩, List.forall_mem_cons.mpr ⟨⟨ck75, lk75⟩, List.forall_mem_cons.mpr ⟨⟨ck76, lk76⟩, List.forall_mem_cons.mpr ⟨⟨ck77, lk77⟩, List.forall_mem_cons.mpr ⟨⟨ck78, lk78⟩, List.forall_mem_cons.mpr ⟨⟨ck79, lk79⟩, List.forall_mem_cons.mpr ⟨⟨ck80, lk80⟩, List.forall_mem_cons.mpr ⟨⟨ck81, lk81⟩, List.forall_mem_cons.mpr ⟨⟨ck82, lk82⟩, List.forall_mem_cons.mpr ⟨⟨ck83, lk83⟩, List.forall_mem_cons.mpr ⟨⟨ck84, lk84⟩, List.forall_mem_cons.mpr ⟨⟨ck85, lk85⟩, List.forall_mem_cons.mpr ⟨⟨ck86, lk86⟩, List.forall_mem_cons.mpr ⟨⟨ck87, lk87⟩, List.forall_mem_cons.mpr ⟨⟨ck88, lk88⟩, List.forall_mem_cons.mpr ⟨⟨ck89, lk89⟩, List.forall_mem_cons.mpr ⟨⟨ck90, lk90⟩, List.forall_mem_cons.mpr ⟨⟨ck91, lk91⟩, List.forall_mem_cons.mpr ⟨⟨ck92, lk92⟩, List.forall_mem_cons.mpr ⟨⟨ck93, lk93⟩, List.forall_mem_cons.mpr ⟨⟨ck94, lk94⟩, List.forall_mem_cons.mpr ⟨⟨ck95, lk95⟩, List.forall_mem_cons.mpr ⟨⟨ck96, lk96⟩, List.forall_mem_cons.mpr ⟨⟨ck97, lk97⟩, List.forall_mem_cons.mpr ⟨⟨ck98, lk98⟩, List.forall_mem_cons.mpr ⟨⟨ck99, lk99⟩, List.forall_mem_cons.mpr ⟨⟨ck100, lk100⟩, List.forall_mem_cons.mpr ⟨⟨ck101, lk101⟩, List.forall_mem_cons.mpr ⟨⟨ck102, lk102⟩, List.forall_mem_cons.mpr ⟨⟨ck103, lk103⟩, List.forall_mem_cons.mpr ⟨⟨ck104, lk104⟩, List.forall_mem_cons.mpr ⟨⟨ck105, lk105⟩, List.forall_mem_cons.mpr ⟨⟨ck106, lk106⟩, List.forall_mem_cons.mpr ⟨⟨ck107, lk107⟩, List.forall_mem_cons.mpr ⟨⟨ck108, lk108⟩, List.forall_mem_cons.mpr ⟨⟨ck109, lk109⟩, List.forall_mem_cons.mpr ⟨⟨ck110, lk110⟩, List.forall_mem_cons.mpr ⟨⟨ck111, lk111⟩, List.forall_mem_cons.mpr ⟨⟨ck112, lk112⟩, List.forall_mem_cons.mpr ⟨⟨ck113, lk113⟩, List.forall_mem_cons.mpr ⟨⟨ck114, lk114⟩, List.forall_mem_cons.mpr ⟨⟨ck115, lk115⟩, List.forall_mem_cons.mpr ⟨⟨ck116, lk116⟩, List.forall_mem_cons.mpr ⟨⟨ck117, lk117⟩, List.forall_mem_cons.mpr ⟨⟨ck118, lk118⟩, List.forall_mem_cons.mpr ⟨⟨ck119, lk119⟩, List.forall_mem_cons.mpr ⟨⟨ck120, lk120⟩, List.forall_mem_cons.mpr ⟨⟨ck121, lk121⟩, List.forall_mem_cons.mpr ⟨⟨ck122, lk122⟩, List.forall_mem_cons.mpr ⟨⟨ck123, lk123⟩, List.forall_mem_cons.mpr ⟨⟨ck124, lk124⟩, List.forall_mem_cons.mpr ⟨⟨ck125, lk125⟩, List.forall_mem_cons.mpr ⟨⟨ck126, lk126⟩, List.forall_mem_cons.mpr ⟨⟨ck127, lk127⟩, List.forall_mem_cons.mpr ⟨⟨ck128, lk128⟩, List.forall_mem_cons.mpr ⟨⟨ck129, lk129⟩, List.forall_mem_cons.mpr ⟨⟨ck130, lk130⟩, List.forall_mem_cons.mpr ⟨⟨ck131, lk131⟩, List.forall_mem_cons.mpr ⟨⟨ck132, lk132⟩, List.forall_mem_cons.mpr ⟨⟨ck133, lk133⟩, List.forall_mem_cons.mpr ⟨⟨ck134, lk134⟩, List.forall_mem_cons.mpr ⟨⟨ck135, lk135⟩, List.forall_mem_cons.mpr ⟨⟨ck136, lk136⟩, List.forall_mem_cons.mpr ⟨⟨ck137, lk137⟩, List.forall_mem_cons.mpr ⟨⟨ck138, lk138⟩, List.forall_mem_cons.mpr ⟨⟨ck139, lk139⟩, List.forall_mem_cons.mpr ⟨⟨ck140, lk140⟩, List.forall_mem_cons.mpr ⟨⟨ck141, lk141⟩, List.forall_mem_cons.mpr ⟨⟨ck142, lk142⟩, List.forall_mem_cons.mpr ⟨⟨ck143, lk143⟩, List.forall_mem_cons.mpr ⟨⟨ck144, lk144⟩, fun _ h => absurd h List.not_mem_nil⟩⟩⟩⟩⟩⟩⟩⟩⟩⟩⟩⟩⟩⟩⟩⟩⟩⟩⟩⟩⟩⟩⟩⟩⟩⟩⟩⟩⟩⟩⟩⟩⟩⟩⟩⟩⟩⟩⟩⟩⟩⟩⟩⟩⟩⟩⟩⟩⟩⟩⟩⟩⟩⟩⟩⟩⟩⟩⟩⟩⟩⟩⟩⟩⟩⟩⟩⟩⟩⟩⟩⟩⟩⟩⟩⟩⟩⟩⟩⟩⟩⟩⟩⟩⟩⟩⟩⟩⟩⟩⟩⟩⟩⟩⟩⟩⟩⟩⟩⟩⟩⟩⟩⟩⟩⟩⟩⟩⟩⟩⟩⟩⟩⟩⟩⟩⟩⟩⟩⟩⟩⟩⟩⟩⟩⟩⟩⟩⟩⟩⟩⟩⟩⟩⟩⟩⟩⟩⟩⟩⟩⟩⟩⟩⟩
theorem nth_get {α : Type} : ∀ (l : List α) (i : Nat), nth l i = l[i]? := by
  intro l
  induction l with
  | nil => intro i; cases i <;> rfl
  | cons a l ih =>
    intro i
    cases i with
    | zero => rfl
    | succ i => exact (ih i).trans (by simp)
theorem nth_mem {α : Type} {l : List α} {i : Nat} {a : α} (h : nth l i = some a) : a ∈ l := by
  rw [nth_get] at h
  exact List.mem_of_getElem? h
theorem e_facts {mid pc : Nat} {z : MT} {e : AE} (hz : nth mtab mid = some z) (he : fe z pc = some e) : e.1 = pc ∧ decode (mB z) pc = .ok (e.2.1, e.2.2.1) ∧ (il e.2.1 ≠ 0 → e.2.2.1 = il e.2.1) ∧ ckI z pc e.2.1 e.2.2.2.1 e.2.2.2.2.1 = true ∧ lkA e = lkB z e := by
  have h1 := ok_all z (nth_mem hz)
  have h2 : e ∈ mC z := List.mem_of_find?_eq_some he
  have h3 : e.1 = pc := by
    have := List.find?_some he
    exact Nat.eq_of_beq_eq_true this
  have h4 := List.all_eq_true.mp h1.1 e h2
  have h5 := (List.map_inj_left (f := lkA) (g := lkB z) (l := mC z)).mp h1.2 e h2
  unfold ckE at h4
  simp only [Bool.and_eq_true, decide_eq_true_eq, Bool.or_eq_true] at h4
  rw [h3] at h4
  refine ⟨h3, h4.1.1, fun hn => ?_, h4.2, h5⟩
  rcases h4.1.2 with q | q
  · exact Nat.eq_of_beq_eq_true q
  · exact absurd (Nat.eq_of_beq_eq_true q) hn
theorem m_facts {mid : Nat} {z : MT} (hz : nth mtab mid = some z) : ckM z = true := List.all_eq_true.mp ckM_ok z (nth_mem hz)
theorem m_words {mid : Nat} {z : MT} (hz : nth mtab mid = some z) (hm : mid < 144) : Cond.code (mY z) (mB z) (mX z) (mT z) ∈ gw ∧ (if mS z = 0 then Cond.static (mY z) else .instanceMethod (mY z)) ∈ gw ∧ (mS z = 1 → Cond.selects (mY z).cls (mY z) (mY z) ∈ gw) ∧ Cond.initialized (mY z).cls ∈ gw := by
  have h1 := congrArg (fun l => l[mid]?) w_mws
  rw [nth_get] at hz
  rw [List.getElem?_map, List.getElem?_map, List.getElem?_take, if_pos hm, hz] at h1
  cases hq : mw[mid]? with
  | none => rw [hq] at h1; cases h1
  | some q =>
    rw [hq] at h1
    have h2 : mwA q = mwB z := Option.some.inj h1
    unfold mwA mwB at h2
    simp only [List.cons.injEq, and_true] at h2
    obtain ⟨a1, a2, a3, a4⟩ := h2
    refine ⟨word_in a1 rfl, word_in a2 (by split <;> rfl), fun hs => ?_, word_in a4 rfl⟩
    rw [if_pos hs] at a3
    exact word_in a3 rfl
theorem good_gw {ws : List Cond} (h : ∀ w ∈ ws, w ∈ gw) : GoodIn gw ws := fun w hw => ⟨h w hw, good_of_word (List.mem_filter.mp (h w hw)).2⟩
/-! what an act says -/
theorem nx_inj {mid pc : Nat} {loc stk : List Value} {h : HP} {d : CF} (ha : nx mid pc loc stk h = some (.inr (.inl d))) : d = (mid, pc, loc, stk, h) := by
  unfold nx at ha
  cases ha
  rfl
theorem v_ldI {mid pc : Nat} {loc stk : List Value} {h : HP} {d : CF} {i : Nat} (ha : ldI mid pc loc stk h i = some (.inr (.inl d))) : ∃ x : Int32, loc.getD i .null = .int x ∧ d = (mid, pc, loc, .int x :: stk, h) := by
  unfold ldI at ha
  split at ha
  next x hx => exact ⟨x, hx, nx_inj ha⟩
  next => cases ha
theorem v_soI {mid pc : Nat} {loc stk : List Value} {h : HP} {d : CF} {i : Nat} (ha : soI mid pc loc stk h i = some (.inr (.inl d))) : ∃ (x : Int32) (st : List Value), stk = .int x :: st ∧ i < loc.length ∧ d = (mid, pc, st1 loc i (.int x), st, h) := by
  unfold soI at ha
  split at ha
  next x st =>
    split at ha
    next hi => exact ⟨x, st, rfl, hi, nx_inj ha⟩
    next => cases ha
  next => cases ha
theorem v_ldL {mid pc : Nat} {loc stk : List Value} {h : HP} {d : CF} {i : Nat} (ha : ldL mid pc loc stk h i = some (.inr (.inl d))) : ∃ x : Int64, loc.getD i .null = .long x ∧ d = (mid, pc, loc, .long x :: stk, h) := by
  unfold ldL at ha
  split at ha
  next x hx => exact ⟨x, hx, nx_inj ha⟩
  next => cases ha
theorem v_soL {mid pc : Nat} {loc stk : List Value} {h : HP} {d : CF} {i : Nat} (ha : soL mid pc loc stk h i = some (.inr (.inl d))) : ∃ (x : Int64) (st : List Value), stk = .long x :: st ∧ i + 1 < loc.length ∧ d = (mid, pc, st2 loc i (.long x), st, h) := by
  unfold soL at ha
  split at ha
  next x st =>
    split at ha
    next hi => exact ⟨x, st, rfl, hi, nx_inj ha⟩
    next => cases ha
  next => cases ha
theorem v_ldR {mid pc : Nat} {loc stk : List Value} {h : HP} {d : CF} {i : Nat} (ha : ldR mid pc loc stk h i = some (.inr (.inl d))) : ∃ x : Nat, loc.getD i .null = .ref x ∧ d = (mid, pc, loc, .ref x :: stk, h) := by
  unfold ldR at ha
  split at ha
  next x hx => exact ⟨x, hx, nx_inj ha⟩
  next => cases ha
theorem v_soR {mid pc : Nat} {loc stk : List Value} {h : HP} {d : CF} {i : Nat} (ha : soR mid pc loc stk h i = some (.inr (.inl d))) : ∃ (x : Nat) (st : List Value), stk = .ref x :: st ∧ i < loc.length ∧ d = (mid, pc, st1 loc i (.ref x), st, h) := by
  unfold soR at ha
  split at ha
  next x st =>
    split at ha
    next hi => exact ⟨x, st, rfl, hi, nx_inj ha⟩
    next => cases ha
  next => cases ha
theorem v_opI {mid pc : Nat} {loc stk : List Value} {h : HP} {d : CF} {f : Int32 → Int32 → Int32} (ha : opI mid pc loc stk h f = some (.inr (.inl d))) : ∃ (x y : Int32) (st : List Value), stk = .int y :: .int x :: st ∧ d = (mid, pc, loc, .int (f x y) :: st, h) := by
  unfold opI at ha
  split at ha
  next y x st => exact ⟨x, y, st, rfl, nx_inj ha⟩
  next => cases ha
theorem v_opD {mid pc : Nat} {loc stk : List Value} {h : HP} {d : CF} {f : Int32 → Int32 → Int32} (ha : opD mid pc loc stk h f = some (.inr (.inl d))) : ∃ (x y : Int32) (st : List Value), stk = .int y :: .int x :: st ∧ ¬ y = 0 ∧ d = (mid, pc, loc, .int (f x y) :: st, h) := by
  unfold opD at ha
  split at ha
  next y x st =>
    split at ha
    next => cases ha
    next hy => exact ⟨x, y, st, rfl, hy, nx_inj ha⟩
  next => cases ha
theorem v_opL {mid pc : Nat} {loc stk : List Value} {h : HP} {d : CF} {f : Int64 → Int64 → Int64} (ha : opL mid pc loc stk h f = some (.inr (.inl d))) : ∃ (x y : Int64) (st : List Value), stk = .long y :: .long x :: st ∧ d = (mid, pc, loc, .long (f x y) :: st, h) := by
  unfold opL at ha
  split at ha
  next y x st => exact ⟨x, y, st, rfl, nx_inj ha⟩
  next => cases ha
theorem cl_no {mid pc : Nat} {loc rest : List Value} {h : HP} {z : MT} {zi : Nat} {as : List Value} {d : CF} (ha : cl mid pc loc rest h z zi as = some (.inr (.inl d))) : False := by
  unfold cl at ha
  split at ha <;> cases ha
theorem inv_no {mid pc : Nat} {loc stk : List Value} {h : HP} {k zi : Nat} {d : CF} (ha : inv mid pc loc stk h k zi = some (.inr (.inl d))) : False := by
  unfold inv at ha
  split at ha
  next => cases ha
  next =>
    split at ha
    next =>
      split at ha
      next => exact cl_no ha
      next =>
        split at ha
        next =>
          split at ha
          next => exact cl_no ha
          next =>
            split at ha
            next => exact cl_no ha
            next => cases ha
        next => cases ha
    next => cases ha
set_option maxHeartbeats 4000000 in
set_option maxRecDepth 100000 in
theorem act_nx {mid pc : Nat} {loc stk : List Value} {h : HP} {d : CF} {z : MT} (hz : nth mtab mid = some z) (ha : act (mid, pc, loc, stk, h) = some (.inr (.inl d))) : Nxt z mid pc loc stk h d := by
  unfold act at ha
  dsimp only at ha
  rw [hz] at ha
  dsimp only at ha
  cases hfe : fe z pc with
  | none => rw [hfe] at ha; cases ha
  | some e =>
    rw [hfe] at ha
    obtain ⟨-, hd, hlen, hck, hlk⟩ := e_facts hz hfe
    obtain ⟨pc0, ins, len, a, b, c⟩ := e
    dsimp only at ha hd hlen hck hlk
    cases ins
    case iconst n =>
      have hl9 : len = 1 := hlen (fun q => Nat.noConfusion (show 1 = 0 from q))
      subst hl9
      cases nx_inj ha
      exact n_iconst hd
    case bipush n =>
      have hl9 : len = 2 := hlen (fun q => Nat.noConfusion (show 2 = 0 from q))
      subst hl9
      cases nx_inj ha
      exact n_bipush hd
    case sipush n =>
      have hl9 : len = 3 := hlen (fun q => Nat.noConfusion (show 3 = 0 from q))
      subst hl9
      cases nx_inj ha
      exact n_sipush hd
    case lconst n =>
      have hl9 : len = 1 := hlen (fun q => Nat.noConfusion (show 1 = 0 from q))
      subst hl9
      cases nx_inj ha
      exact n_lconst hd
    case ldc i =>
      have hl9 : len = 2 := hlen (fun q => Nat.noConfusion (show 2 = 0 from q))
      subst hl9
      cases nx_inj ha
      exact n_ldc hd (word_in (w := .constant (mY z).cls i _) hlk rfl)
    case ldc_w i =>
      have hl9 : len = 3 := hlen (fun q => Nat.noConfusion (show 3 = 0 from q))
      subst hl9
      cases nx_inj ha
      exact n_ldc_w hd (word_in (w := .constant (mY z).cls i _) hlk rfl)
    case ldc2_w i =>
      have hl9 : len = 3 := hlen (fun q => Nat.noConfusion (show 3 = 0 from q))
      subst hl9
      cases nx_inj ha
      exact n_ldc2_w hd (word_in (w := .constantLong (mY z).cls i _) hlk rfl)
    case iload i =>
      have hl9 : len = 2 := hlen (fun q => Nat.noConfusion (show 2 = 0 from q))
      subst hl9
      obtain ⟨x, hv, rfl⟩ := v_ldI ha
      exact n_iload hd hv
    case iload_n i =>
      have hl9 : len = 1 := hlen (fun q => Nat.noConfusion (show 1 = 0 from q))
      subst hl9
      obtain ⟨x, hv, rfl⟩ := v_ldI ha
      exact n_iload_n hd hv
    case lload i =>
      have hl9 : len = 2 := hlen (fun q => Nat.noConfusion (show 2 = 0 from q))
      subst hl9
      obtain ⟨x, hv, rfl⟩ := v_ldL ha
      exact n_lload hd hv
    case lload_n i =>
      have hl9 : len = 1 := hlen (fun q => Nat.noConfusion (show 1 = 0 from q))
      subst hl9
      obtain ⟨x, hv, rfl⟩ := v_ldL ha
      exact n_lload_n hd hv
    case aload i =>
      have hl9 : len = 2 := hlen (fun q => Nat.noConfusion (show 2 = 0 from q))
      subst hl9
      obtain ⟨x, hv, rfl⟩ := v_ldR ha
      exact n_aload hd hv
    case aload_n i =>
      have hl9 : len = 1 := hlen (fun q => Nat.noConfusion (show 1 = 0 from q))
      subst hl9
      obtain ⟨x, hv, rfl⟩ := v_ldR ha
      exact n_aload_n hd hv
    case istore i =>
      have hl9 : len = 2 := hlen (fun q => Nat.noConfusion (show 2 = 0 from q))
      subst hl9
      obtain ⟨x, st, rfl, hi, rfl⟩ := v_soI ha
      exact n_istore hd hi
    case istore_n i =>
      have hl9 : len = 1 := hlen (fun q => Nat.noConfusion (show 1 = 0 from q))
      subst hl9
      obtain ⟨x, st, rfl, hi, rfl⟩ := v_soI ha
      exact n_istore_n hd hi
    case lstore i =>
      have hl9 : len = 2 := hlen (fun q => Nat.noConfusion (show 2 = 0 from q))
      subst hl9
      obtain ⟨x, st, rfl, hi, rfl⟩ := v_soL ha
      exact n_lstore hd hi
    case lstore_n i =>
      have hl9 : len = 1 := hlen (fun q => Nat.noConfusion (show 1 = 0 from q))
      subst hl9
      obtain ⟨x, st, rfl, hi, rfl⟩ := v_soL ha
      exact n_lstore_n hd hi
    case astore i =>
      have hl9 : len = 2 := hlen (fun q => Nat.noConfusion (show 2 = 0 from q))
      subst hl9
      obtain ⟨x, st, rfl, hi, rfl⟩ := v_soR ha
      exact n_astore hd hi
    case astore_n i =>
      have hl9 : len = 1 := hlen (fun q => Nat.noConfusion (show 1 = 0 from q))
      subst hl9
      obtain ⟨x, st, rfl, hi, rfl⟩ := v_soR ha
      exact n_astore_n hd hi
    case iinc i n =>
      have hl9 : len = 3 := hlen (fun q => Nat.noConfusion (show 3 = 0 from q))
      subst hl9
      unfold actI at ha
      dsimp only at ha
      split at ha
      next x hx =>
        cases nx_inj ha
        exact n_iinc hd hx
      next => cases ha
    case dup =>
      have hl9 : len = 1 := hlen (fun q => Nat.noConfusion (show 1 = 0 from q))
      subst hl9
      unfold actI at ha
      dsimp only at ha
      split at ha
      next v st =>
        split at ha
        next hv =>
          cases nx_inj ha
          exact n_dup hd hv
        next => cases ha
      next => cases ha
    case dup2 =>
      have hl9 : len = 1 := hlen (fun q => Nat.noConfusion (show 1 = 0 from q))
      subst hl9
      unfold actI at ha
      dsimp only at ha
      split at ha
      next v w st =>
        split at ha
        next hv =>
          cases nx_inj ha
          exact n_dup2 hd hv.1 hv.2
        next => cases ha
      next => cases ha
    case pop =>
      have hl9 : len = 1 := hlen (fun q => Nat.noConfusion (show 1 = 0 from q))
      subst hl9
      unfold actI at ha
      dsimp only at ha
      split at ha
      next v st =>
        split at ha
        next hv =>
          cases nx_inj ha
          exact n_pop hd hv
        next => cases ha
      next => cases ha
    case iadd =>
      have hl9 : len = 1 := hlen (fun q => Nat.noConfusion (show 1 = 0 from q))
      subst hl9
      obtain ⟨x, y, st, rfl, rfl⟩ := v_opI ha
      exact n_iadd hd
    case isub =>
      have hl9 : len = 1 := hlen (fun q => Nat.noConfusion (show 1 = 0 from q))
      subst hl9
      obtain ⟨x, y, st, rfl, rfl⟩ := v_opI ha
      exact n_isub hd
    case imul =>
      have hl9 : len = 1 := hlen (fun q => Nat.noConfusion (show 1 = 0 from q))
      subst hl9
      obtain ⟨x, y, st, rfl, rfl⟩ := v_opI ha
      exact n_imul hd
    case iand =>
      have hl9 : len = 1 := hlen (fun q => Nat.noConfusion (show 1 = 0 from q))
      subst hl9
      obtain ⟨x, y, st, rfl, rfl⟩ := v_opI ha
      exact n_iand hd
    case ior =>
      have hl9 : len = 1 := hlen (fun q => Nat.noConfusion (show 1 = 0 from q))
      subst hl9
      obtain ⟨x, y, st, rfl, rfl⟩ := v_opI ha
      exact n_ior hd
    case ixor =>
      have hl9 : len = 1 := hlen (fun q => Nat.noConfusion (show 1 = 0 from q))
      subst hl9
      obtain ⟨x, y, st, rfl, rfl⟩ := v_opI ha
      exact n_ixor hd
    case ishl =>
      have hl9 : len = 1 := hlen (fun q => Nat.noConfusion (show 1 = 0 from q))
      subst hl9
      obtain ⟨x, y, st, rfl, rfl⟩ := v_opI ha
      exact n_ishl hd
    case ishr =>
      have hl9 : len = 1 := hlen (fun q => Nat.noConfusion (show 1 = 0 from q))
      subst hl9
      obtain ⟨x, y, st, rfl, rfl⟩ := v_opI ha
      exact n_ishr hd
    case iushr =>
      have hl9 : len = 1 := hlen (fun q => Nat.noConfusion (show 1 = 0 from q))
      subst hl9
      obtain ⟨x, y, st, rfl, rfl⟩ := v_opI ha
      exact n_iushr hd
    case idiv =>
      have hl9 : len = 1 := hlen (fun q => Nat.noConfusion (show 1 = 0 from q))
      subst hl9
      obtain ⟨x, y, st, rfl, hy, rfl⟩ := v_opD ha
      exact n_idiv hd hy
    case irem =>
      have hl9 : len = 1 := hlen (fun q => Nat.noConfusion (show 1 = 0 from q))
      subst hl9
      obtain ⟨x, y, st, rfl, hy, rfl⟩ := v_opD ha
      exact n_irem hd hy
    case ladd =>
      have hl9 : len = 1 := hlen (fun q => Nat.noConfusion (show 1 = 0 from q))
      subst hl9
      obtain ⟨x, y, st, rfl, rfl⟩ := v_opL ha
      exact n_ladd hd
    case lsub =>
      have hl9 : len = 1 := hlen (fun q => Nat.noConfusion (show 1 = 0 from q))
      subst hl9
      obtain ⟨x, y, st, rfl, rfl⟩ := v_opL ha
      exact n_lsub hd
    case lmul =>
      have hl9 : len = 1 := hlen (fun q => Nat.noConfusion (show 1 = 0 from q))
      subst hl9
      obtain ⟨x, y, st, rfl, rfl⟩ := v_opL ha
      exact n_lmul hd
    case land =>
      have hl9 : len = 1 := hlen (fun q => Nat.noConfusion (show 1 = 0 from q))
      subst hl9
      obtain ⟨x, y, st, rfl, rfl⟩ := v_opL ha
      exact n_land hd
    case lor =>
      have hl9 : len = 1 := hlen (fun q => Nat.noConfusion (show 1 = 0 from q))
      subst hl9
      obtain ⟨x, y, st, rfl, rfl⟩ := v_opL ha
      exact n_lor hd
    case lshl =>
      have hl9 : len = 1 := hlen (fun q => Nat.noConfusion (show 1 = 0 from q))
      subst hl9
      unfold actI at ha
      dsimp only at ha
      split at ha
      next y x st =>
        cases nx_inj ha
        exact n_lshl hd
      next => cases ha
    case lcmp =>
      have hl9 : len = 1 := hlen (fun q => Nat.noConfusion (show 1 = 0 from q))
      subst hl9
      unfold actI at ha
      dsimp only at ha
      split at ha
      next y x st =>
        cases nx_inj ha
        exact n_lcmp hd
      next => cases ha
    case i2l =>
      have hl9 : len = 1 := hlen (fun q => Nat.noConfusion (show 1 = 0 from q))
      subst hl9
      unfold actI at ha
      dsimp only at ha
      split at ha
      next x st =>
        cases nx_inj ha
        exact n_i2l hd
      next => cases ha
    case goto off =>
      have hl9 : len = 3 := hlen (fun q => Nat.noConfusion (show 3 = 0 from q))
      subst hl9
      cases nx_inj ha
      exact n_goto hd (of_decide_eq_true hck)
    case if_icmp q off =>
      have hl9 : len = 3 := hlen (fun q => Nat.noConfusion (show 3 = 0 from q))
      subst hl9
      have ht := of_decide_eq_true hck
      unfold actI at ha
      dsimp only at ha
      split at ha
      next y x st =>
        cases q <;> (unfold br at ha; dsimp only at ha; split at ha <;> cases nx_inj ha)
        · exact n_icmp_eq_t hd ht (by assumption)
        · exact n_icmp_eq_f hd ht (by assumption)
        · exact n_icmp_ne_f hd ht (by assumption)
        · exact n_icmp_ne_t hd ht (by assumption)
        · exact n_icmp_lt_t hd ht (by assumption)
        · exact n_icmp_lt_f hd ht (by assumption)
        · exact n_icmp_ge_t hd ht (by assumption)
        · exact n_icmp_ge_f hd ht (by assumption)
        · exact n_icmp_gt_t hd ht (by assumption)
        · exact n_icmp_gt_f hd ht (by assumption)
        · exact n_icmp_le_t hd ht (by assumption)
        · exact n_icmp_le_f hd ht (by assumption)
      next => cases ha
    case ifCond q off =>
      have hl9 : len = 3 := hlen (fun q => Nat.noConfusion (show 3 = 0 from q))
      subst hl9
      have ht := of_decide_eq_true hck
      unfold actI at ha
      dsimp only at ha
      split at ha
      next x st =>
        cases q <;> (unfold br at ha; dsimp only at ha; split at ha <;> cases nx_inj ha)
        · exact n_if_eq_t hd ht (by assumption)
        · exact n_if_eq_f hd ht (by assumption)
        · exact n_if_ne_f hd ht (by assumption)
        · exact n_if_ne_t hd ht (by assumption)
        · exact n_if_lt_t hd ht (by assumption)
        · exact n_if_lt_f hd ht (by assumption)
        · exact n_if_ge_t hd ht (by assumption)
        · exact n_if_ge_f hd ht (by assumption)
        · exact n_if_gt_t hd ht (by assumption)
        · exact n_if_gt_f hd ht (by assumption)
        · exact n_if_le_t hd ht (by assumption)
        · exact n_if_le_f hd ht (by assumption)
      next => cases ha
    case tableswitch dd lo hi offs =>
      unfold ckI at hck
      simp only [Bool.and_eq_true, decide_eq_true_eq] at hck
      unfold actI at ha
      dsimp only at ha
      split at ha
      next x st =>
        split at ha
        next hq =>
          cases nx_inj ha
          exact n_tsw_d hd hq hck.1
        next hq =>
          split at ha
          next off ho =>
            cases nx_inj ha
            refine n_tsw_i hd hq ho ?_
            have h2 := hck.2
            rw [← Array.all_toList] at h2
            exact of_decide_eq_true (List.all_eq_true.mp h2 off (by rw [← Array.getElem?_toList] at ho; exact List.mem_of_getElem? ho))
          next => cases ha
      next => cases ha
    case getstatic i =>
      have hl9 : len = 3 := hlen (fun q => Nat.noConfusion (show 3 = 0 from q))
      subst hl9
      cases nx_inj ha
      unfold ckI at hck
      simp only [Bool.and_eq_true] at hck
      have ha4 : a < 4 := Nat.le_of_ble_eq_true hck.1
      unfold lkA lkB at hlk
      dsimp only at hlk
      by_cases hb1 : b = 1
      · rw [if_pos hb1, if_pos hb1] at hlk
        exact n_getsN hd ha4 (nth_mem hlk)
      · rw [if_neg hb1, if_neg hb1] at hlk
        exact n_gets hd ha4 (word_in hlk rfl)
    case getfield i =>
      have hl9 : len = 3 := hlen (fun q => Nat.noConfusion (show 3 = 0 from q))
      subst hl9
      unfold ckI at hck
      simp only [Bool.and_eq_true] at hck
      have hbn : b < cN a := Nat.le_of_ble_eq_true hck.1
      have ha7 : a < 7 := Nat.le_of_ble_eq_true hck.2
      have hw : Cond.fieldLink (mY z).cls i ((vc a).2.1 b).1 ((vc a).2.1 b).2.1 ((vc a).2.1 b).2.2.1 ∈ gw := word_in hlk rfl
      unfold actI at ha
      dsimp only at ha
      split at ha
      next o st =>
        split at ha
        next hko =>
          split at ha
          next hft =>
            split at ha
            next q hq =>
              cases nx_inj ha
              exact n_getR hd ha7 hbn hw hko hft hq
            next => cases ha
          next hft =>
            split at ha
            next =>
              cases nx_inj ha
              exact n_getI hd ha7 hbn hw hko hft
            next => cases ha
        next => cases ha
      next => cases ha
    case putfield i =>
      have hl9 : len = 3 := hlen (fun q => Nat.noConfusion (show 3 = 0 from q))
      subst hl9
      unfold ckI at hck
      simp only [Bool.and_eq_true] at hck
      obtain ⟨⟨hc1, hc2⟩, hc3⟩ := hck
      have hbn : b < cN a := Nat.le_of_ble_eq_true hc1
      have ha7 : a < 7 := Nat.le_of_ble_eq_true hc2
      have hfin : ((vc a).2.1 b).2.2.2 = true → mS z = 2 ∧ (vc a).1 = (mY z).cls := by
        intro hq
        rw [if_pos hq] at hc3
        simp only [Bool.and_eq_true] at hc3
        have hs : mS z = 2 := Nat.eq_of_beq_eq_true hc3.1
        have hv : a = mV z := Nat.eq_of_beq_eq_true hc3.2
        have hm := m_facts hz
        unfold ckM at hm
        rw [if_pos hs] at hm
        simp only [Bool.and_eq_true, decide_eq_true_eq] at hm
        rw [hv]
        exact ⟨hs, hm.1.2.2⟩
      have hw : Cond.fieldLink (mY z).cls i ((vc a).2.1 b).1 ((vc a).2.1 b).2.1 ((vc a).2.1 b).2.2.1 ∈ gw := word_in hlk rfl
      unfold actI at ha
      dsimp only at ha
      split at ha
      next x o st =>
        split at ha
        next hko =>
          split at ha
          next hft =>
            cases nx_inj ha
            exact n_putI hd ha7 hbn hw hko hfin (Or.inl hft)
          next =>
            split at ha
            next hft =>
              split at ha
              next hx =>
                cases nx_inj ha
                exact n_putI hd ha7 hbn hw hko hfin (Or.inr ⟨hft, hx⟩)
              next => cases ha
            next => cases ha
        next => cases ha
      next q o st =>
        split at ha
        next hko =>
          split at ha
          next hft =>
            cases nx_inj ha
            exact n_putR hd ha7 hbn hw hko hfin hft
          next => cases ha
        next => cases ha
      next => cases ha
    case iaload =>
      have hl9 : len = 1 := hlen (fun q => Nat.noConfusion (show 1 = 0 from q))
      subst hl9
      unfold actI at ha
      dsimp only at ha
      split at ha
      next i o st =>
        split at ha
        next hq =>
          cases nx_inj ha
          rcases hq.1 with q | q
          · exact n_iald hd q hq.2
          · exact n_xald hd q hq.2
        next => cases ha
      next => cases ha
    case baload =>
      have hl9 : len = 1 := hlen (fun q => Nat.noConfusion (show 1 = 0 from q))
      subst hl9
      unfold actI at ha
      dsimp only at ha
      split at ha
      next i o st =>
        split at ha
        next hq =>
          cases nx_inj ha
          exact n_zald hd hq.1 hq.2
        next => cases ha
      next => cases ha
    case laload =>
      have hl9 : len = 1 := hlen (fun q => Nat.noConfusion (show 1 = 0 from q))
      subst hl9
      unfold actI at ha
      dsimp only at ha
      split at ha
      next i o st =>
        split at ha
        next hq =>
          cases nx_inj ha
          exact n_lald hd hq.1 hq.2
        next => cases ha
      next => cases ha
    case iastore =>
      have hl9 : len = 1 := hlen (fun q => Nat.noConfusion (show 1 = 0 from q))
      subst hl9
      unfold actI at ha
      dsimp only at ha
      split at ha
      next x i o st =>
        split at ha
        next hq =>
          cases nx_inj ha
          exact n_iast hd hq.1 hq.2
        next => cases ha
      next => cases ha
    case bastore =>
      have hl9 : len = 1 := hlen (fun q => Nat.noConfusion (show 1 = 0 from q))
      subst hl9
      unfold actI at ha
      dsimp only at ha
      split at ha
      next x i o st =>
        split at ha
        next hq =>
          cases nx_inj ha
          exact n_zast hd hq.1 hq.2
        next => cases ha
      next => cases ha
    case lastore =>
      have hl9 : len = 1 := hlen (fun q => Nat.noConfusion (show 1 = 0 from q))
      subst hl9
      unfold actI at ha
      dsimp only at ha
      split at ha
      next x i o st =>
        split at ha
        next hq =>
          cases nx_inj ha
          exact n_last hd hq.1 hq.2
        next => cases ha
      next => cases ha
    case arraylength =>
      have hl9 : len = 1 := hlen (fun q => Nat.noConfusion (show 1 = 0 from q))
      subst hl9
      unfold actI at ha
      dsimp only at ha
      split at ha
      next o st =>
        split at ha
        next hq =>
          cases nx_inj ha
          exact n_alen hd hq
        next => cases ha
      next => cases ha
    case new i =>
      have hl9 : len = 3 := hlen (fun q => Nat.noConfusion (show 3 = 0 from q))
      subst hl9
      cases nx_inj ha
      exact n_new hd (Nat.le_of_ble_eq_true hck) (word_in hlk rfl)
    case newarray t =>
      have hl9 : len = 2 := hlen (fun q => Nat.noConfusion (show 2 = 0 from q))
      subst hl9
      unfold actI at ha
      dsimp only at ha
      split at ha
      next n st =>
        split at ha
        next hq =>
          cases nx_inj ha
          cases t
          case int => exact n_newI hd hq.1 rfl hq.2
          case long => exact n_newL hd hq.1 rfl hq.2
          case boolean => exact n_newZ hd hq.1 rfl hq.2
          all_goals exact absurd hck (by simp [ckI, akind, Nat.blt])
        next => cases ha
      next => cases ha
    case invokevirtual i =>
      exact (inv_no ha).elim
    case invokespecial i =>
      have hl9 : len = 3 := hlen (fun q => Nat.noConfusion (show 3 = 0 from q))
      subst hl9
      unfold actI at ha
      dsimp only at ha
      unfold lkA lkB at hlk
      dsimp only at hlk
      unfold ckI at hck
      dsimp only at hck
      split at ha
      next hq =>
        rw [if_pos hq] at hck hlk
        simp only [Bool.and_eq_true] at hck
        split at ha
        next o st =>
          split at ha
          next hrm =>
            cases nx_inj ha
            exact n_objInit hd (word_in hlk rfl) (Nat.le_of_ble_eq_true hck.1) (Nat.le_of_ble_eq_true hck.2) hrm
          next => cases ha
        next => cases ha
      next => exact (inv_no ha).elim
    case invokestatic i =>
      have hl9 : len = 3 := hlen (fun q => Nat.noConfusion (show 3 = 0 from q))
      subst hl9
      unfold actI at ha
      dsimp only at ha
      unfold lkA lkB at hlk
      dsimp only at hlk
      unfold ckI at hck
      dsimp only at hck
      split at ha
      next hq =>
        rw [if_pos (Or.inl hq)] at hck
        rw [if_pos hq] at hlk
        simp only [Bool.and_eq_true] at hck
        obtain ⟨⟨hk1, hk2⟩, hk3⟩ := hck
        rw [if_neg (by rw [Nat.eq_of_beq_eq_true hk3]; decide)] at hlk
        split at ha
        next n dp q sp oo st =>
          split at ha
          next hh =>
            cases nx_inj ha
            obtain ⟨⟨a1, a2, a3, a4, a5⟩, a6, a7, a8⟩ := hh
            exact n_copy hd (word_in hlk rfl) (Nat.le_of_ble_eq_true hk1) (Nat.le_of_ble_eq_true hk2) a8 a1 a2 a3 a4 a5 a6 a7
          next => cases ha
        next => cases ha
      next hq =>
        rw [if_neg hq] at hlk
        split at ha
        next hq2 =>
          rw [if_pos (Or.inr (Or.inl hq2))] at hck
          rw [if_pos hq2] at hlk
          simp only [Bool.and_eq_true] at hck
          obtain ⟨⟨hk1, hk2⟩, hk3⟩ := hck
          rw [if_neg (by rw [Nat.eq_of_beq_eq_true hk3]; decide)] at hlk
          split at ha
          next y x st =>
            split at ha
            next hrm =>
              cases nx_inj ha
              exact n_max hd (word_in hlk rfl) (Nat.le_of_ble_eq_true hk1) (Nat.le_of_ble_eq_true hk2) hrm
            next => cases ha
          next => cases ha
        next hq2 =>
          rw [if_neg hq2] at hlk
          split at ha
          next hq3 =>
            rw [if_pos (Or.inr (Or.inr hq3))] at hck
            rw [if_pos hq3] at hlk
            simp only [Bool.and_eq_true] at hck
            obtain ⟨⟨hk1, hk2⟩, hk3⟩ := hck
            rw [if_neg (by rw [Nat.eq_of_beq_eq_true hk3]; decide)] at hlk
            split at ha
            next y x st =>
              split at ha
              next hrm =>
                cases nx_inj ha
                exact n_min hd (word_in hlk rfl) (Nat.le_of_ble_eq_true hk1) (Nat.le_of_ble_eq_true hk2) hrm
              next => cases ha
            next => cases ha
          next => exact (inv_no ha).elim
    case ireturn =>
      unfold actI at ha
      dsimp only at ha
      split at ha
      next =>
        split at ha <;> cases ha
      next => cases ha
    case lreturn =>
      unfold actI at ha
      dsimp only at ha
      split at ha
      next =>
        split at ha <;> cases ha
      next => cases ha
    case return_ =>
      unfold actI at ha
      dsimp only at ha
      split at ha
      next =>
        split at ha <;> cases ha
      next => cases ha
    all_goals exact absurd ha (by simp [actI])
