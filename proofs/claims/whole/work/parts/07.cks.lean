set_option maxRecDepth 100000 in
theorem w_acn : nth lw_tbl 433 = some (Cond.native arraycopyName) := rfl
set_option maxRecDepth 100000 in
theorem w_acs : nth lw_tbl 432 = some (Cond.static arraycopyName) := rfl
set_option maxRecDepth 100000 in
theorem w_aci : nth lw_tbl 60 = some (Cond.initialized "java/lang/System") := rfl
set_option maxRecDepth 100000 in
theorem w_obi : nth lw_tbl 67 = some (Cond.instanceMethod objectInit) := rfl
set_option maxRecDepth 100000 in
theorem w_obc : nth lw_tbl 68 = some (Cond.code objectInit ⟨#[0xb1]⟩ 1 none) := rfl
set_option maxRecDepth 100000 in
theorem w_maxs : nth lw_tbl 292 = some (Cond.static Lib.Math.max.name) := rfl
set_option maxRecDepth 100000 in
theorem w_maxc : nth lw_tbl 293 = some (Cond.code Lib.Math.max.name Lib.Math.max.code 2 (some .int)) := rfl
set_option maxRecDepth 100000 in
theorem w_mins : nth lw_tbl 324 = some (Cond.static Lib.Math.min.name) := rfl
set_option maxRecDepth 100000 in
theorem w_minc : nth lw_tbl 325 = some (Cond.code Lib.Math.min.name Lib.Math.min.code 2 (some .int)) := rfl
set_option maxRecDepth 100000 in
theorem w_mth : nth lw_tbl 58 = some (Cond.initialized "java/lang/Math") := rfl
set_option maxRecDepth 100000 in
theorem w_nst : nwp.map (nth lw_tbl) = nw_.map some := rfl
set_option maxRecDepth 100000 in
theorem w_mws : mw.map mwA = (mtab.take 144).map mwB := rfl
set_option maxRecDepth 100000 in
theorem w_cls : cip.map (fun q => (nth lw_tbl q.1, nth lw_tbl q.2)) = (List.range 7).map (fun a => (some (Cond.instantiable (vc a).1 (vc a).2.2), some (Cond.initialized (vc a).1))) := rfl
set_option maxRecDepth 100000 in
theorem w_lay : lyp.map (fun l => l.map (nth lw_tbl)) = (List.range 7).map (fun a => (u_ws (vc a).1 (vc a).2.1 (vc a).2.2).map some) := rfl
set_option maxRecDepth 100000 in
theorem w_arr : acp.map (nth lw_tbl) = [some (Cond.arrayClass .int), some (Cond.arrayClass .long), some (Cond.arrayClass .boolean)] := rfl
set_option maxRecDepth 100000 in
theorem w_sts : stp.map (nth lw_tbl) = (List.range 4).map (fun i => some (Cond.laysStatic (stC i) (stN i) "[I")) := rfl
set_option maxRecDepth 100000 in
theorem ckM_ok : mtab.all ckM = true := by decide +kernel
