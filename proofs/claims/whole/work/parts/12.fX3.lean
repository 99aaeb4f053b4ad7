theorem npX0_keep : yX0_keep.cls ≠ "java/lang/invoke/MethodHandle" ∧ yX0_keep.cls ≠ "java/lang/invoke/VarHandle" ∧ (parseMethodDescriptor yX0_keep.desc).map (fun d => d.parameters.length) = some 2 := by decide +kernel
def fX0_keep_J45 (x1 : Int32) (x2 : Int32) (M : wq_M) : Option wq_M :=
  if wq_in (M.1 47 2) 24 then if wq_in ((wq_st M 48 (M.1 47 2).toNatClampNeg x1).1 47 2) 24 then some (wq_st (wq_st (wq_st M 48 (M.1 47 2).toNatClampNeg x1) 49 ((wq_st M 48 (M.1 47 2).toNatClampNeg x1).1 47 2).toNatClampNeg x2) 47 2 (((wq_st (wq_st M 48 (M.1 47 2).toNatClampNeg x1) 49 ((wq_st M 48 (M.1 47 2).toNatClampNeg x1).1 47 2).toNatClampNeg x2).1 47 2) + 1)) else none else none
set_option maxHeartbeats 4000000 in
set_option maxRecDepth 100000 in
theorem gX0_keep_J45 {g : wq_G} {E : wq_E} {d : Nat} (hC : wq_C g E wq_yC cX0_keep 3 "WellPipes$Acts" (none) d) (hd0 : 0 ≤ d) (x1 : Int32) (x2 : Int32) (M : wq_M)  {x : wq_M} (h : fX0_keep_J45 x1 x2 M = some x) (K : (wq_kV g) x) : wq_g g E wq_yC 3 45 [some (.ref (E.2.1 47)), some (.int x1), some (.int x2)] [] M := by
  unfold fX0_keep_J45 at h
  refine wq_aload_n hC dX0_keep_45 (i := 0) rfl rfl ?_
  refine gf_0 hC oC_47 0 (.ref (E.2.1 48)) (by decide) rfl tw_185 dX0_keep_46 ?_
  refine wq_aload_n hC dX0_keep_49 (i := 0) rfl rfl ?_
  refine gf_0 hC oC_47 2 (.int (M.1 47 2)) (by decide) rfl tw_187 dX0_keep_50 ?_
  refine wq_iload_n hC dX0_keep_53 (i := 1) rfl rfl ?_
  obtain ⟨z2, h⟩ := wq_ii h
  refine wq_ast hC aC_48 z2 dX0_keep_54 ?_
  refine wq_aload_n hC dX0_keep_55 (i := 0) rfl rfl ?_
  refine gf_0 hC oC_47 1 (.ref (E.2.1 49)) (by decide) rfl tw_186 dX0_keep_56 ?_
  refine wq_aload_n hC dX0_keep_59 (i := 0) rfl rfl ?_
  refine gf_0 hC oC_47 2 (.int ((wq_st M 48 (M.1 47 2).toNatClampNeg x1).1 47 2)) (by decide) rfl tw_187 dX0_keep_60 ?_
  refine wq_iload_n hC dX0_keep_63 (i := 2) rfl rfl ?_
  obtain ⟨z3, h⟩ := wq_ii h
  refine wq_ast hC aC_49 z3 dX0_keep_64 ?_
  refine wq_aload_n hC dX0_keep_65 (i := 0) rfl rfl ?_
  refine wq_dup hC dX0_keep_66 rfl ?_
  refine gf_0 hC oC_47 2 (.int ((wq_st (wq_st M 48 (M.1 47 2).toNatClampNeg x1) 49 ((wq_st M 48 (M.1 47 2).toNatClampNeg x1).1 47 2).toNatClampNeg x2).1 47 2)) (by decide) rfl tw_187 dX0_keep_67 ?_
  refine wq_iconst hC (v := 1) dX0_keep_70 (by decide) ?_
  refine wq_iadd hC dX0_keep_71 ?_
  refine pf_0_2 hC oC_47 tw_187 dX0_keep_72 ?_
  have h := Option.some.inj h
  subst h
  exact wq_vret hC dX0_keep_75 K.1 K.2
def fX0_keep (x1 : Int32) (x2 : Int32) (M : wq_M) : Option wq_M :=
  (if (M.1 47 2) < 24 then
    fX0_keep_J45 x1 x2 M
  else
    if wq_cpk 1 0 23 24 24 then if wq_cpk 1 0 23 24 24 then fX0_keep_J45 x1 x2 (wq_st (wq_cp (wq_cp M 48 (1 : Int32).toNatClampNeg 48 (0 : Int32).toNatClampNeg (23 : Int32).toNatClampNeg) 49 (1 : Int32).toNatClampNeg 49 (0 : Int32).toNatClampNeg (23 : Int32).toNatClampNeg) 47 2 23) else none else none)
set_option maxHeartbeats 4000000 in
set_option maxRecDepth 100000 in
theorem ctX0_keep {l : Launch} {E : wq_E} {d : Nat} (hd0 : 0 ≤ d) {x1 : Int32} {x2 : Int32} {M : wq_M} {r : wq_M}  (h : fX0_keep x1 x2 M = some r) : wq_ct l E wq_yC yX0_keep cX0_keep 3 (none) d [.ref (E.2.1 47), .int x1, .int x2] M (none) r := by
  refine wq_ent (own := "WellPipes$Acts") (lv0 := [some (.ref (E.2.1 47)), some (.int x1), some (.int x2)]) (by decide +kernel) rfl (Nat.le_of_ble_eq_true rfl) rfl (fun g h1 h2 hC => ?_)
  have K : wq_kV g r := ⟨h1, h2⟩
  unfold fX0_keep at h
  refine wq_aload_n hC dX0_keep_0 (i := 0) rfl rfl ?_
  refine gf_0 hC oC_47 2 (.int (M.1 47 2)) (by decide) rfl tw_187 dX0_keep_1 ?_
  refine wq_bipush hC (v := 24) dX0_keep_4 (by decide) ?_
  refine wq_icmp_lt hC dX0_keep_6 (tgt := 45) (by decide) (fun z1 => ?_) (fun z1 => ?_)
  · have h := wq_ip z1 h
    exact gX0_keep_J45 hC hd0 x1 x2 M  h K
  · have h := wq_in_ z1 h
    refine wq_aload_n hC dX0_keep_9 (i := 0) rfl rfl ?_
    refine gf_0 hC oC_47 0 (.ref (E.2.1 48)) (by decide) rfl tw_185 dX0_keep_10 ?_
    refine wq_iconst hC (v := 1) dX0_keep_13 (by decide) ?_
    refine wq_aload_n hC dX0_keep_14 (i := 0) rfl rfl ?_
    refine gf_0 hC oC_47 0 (.ref (E.2.1 48)) (by decide) rfl tw_185 dX0_keep_15 ?_
    refine wq_iconst hC (v := 0) dX0_keep_18 (by decide) ?_
    refine wq_bipush hC (v := 23) dX0_keep_19 (by decide) ?_
    obtain ⟨z4, h⟩ := wq_ii h
    refine wq_acp hC (st := []) tw_422 aC_48 aC_48 z4 (Nat.le_of_ble_eq_true rfl) dX0_keep_21 ?_
    refine wq_aload_n hC dX0_keep_24 (i := 0) rfl rfl ?_
    refine gf_0 hC oC_47 1 (.ref (E.2.1 49)) (by decide) rfl tw_186 dX0_keep_25 ?_
    refine wq_iconst hC (v := 1) dX0_keep_28 (by decide) ?_
    refine wq_aload_n hC dX0_keep_29 (i := 0) rfl rfl ?_
    refine gf_0 hC oC_47 1 (.ref (E.2.1 49)) (by decide) rfl tw_186 dX0_keep_30 ?_
    refine wq_iconst hC (v := 0) dX0_keep_33 (by decide) ?_
    refine wq_bipush hC (v := 23) dX0_keep_34 (by decide) ?_
    obtain ⟨z5, h⟩ := wq_ii h
    refine wq_acp hC (st := []) tw_422 aC_49 aC_49 z5 (Nat.le_of_ble_eq_true rfl) dX0_keep_36 ?_
    refine wq_aload_n hC dX0_keep_39 (i := 0) rfl rfl ?_
    refine wq_bipush hC (v := 23) dX0_keep_40 (by decide) ?_
    refine pf_0_2 hC oC_47 tw_187 dX0_keep_42 ?_
    exact gX0_keep_J45 hC hd0 x1 x2 (wq_st (wq_cp (wq_cp M 48 (1 : Int32).toNatClampNeg 48 (0 : Int32).toNatClampNeg (23 : Int32).toNatClampNeg) 49 (1 : Int32).toNatClampNeg 49 (0 : Int32).toNatClampNeg (23 : Int32).toNatClampNeg) 47 2 23)  h K
theorem npX0_takeBack : yX0_takeBack.cls ≠ "java/lang/invoke/MethodHandle" ∧ yX0_takeBack.cls ≠ "java/lang/invoke/VarHandle" ∧ (parseMethodDescriptor yX0_takeBack.desc).map (fun d => d.parameters.length) = some 1 := by decide +kernel
def fX0_takeBack (p1 : Nat) (M : wq_M) : Option wq_M :=
  (if 1 ≤ (M.1 47 2) then
    if wq_in ((wq_st M 47 2 ((M.1 47 2) - 1)).1 47 2) 24 then (if ((wq_st M 47 2 ((M.1 47 2) - 1)).1 48 ((wq_st M 47 2 ((M.1 47 2) - 1)).1 47 2).toNatClampNeg) = 9 then
      if wq_in ((wq_st M 47 2 ((M.1 47 2) - 1)).1 47 2) 24 then (fX5_layString p1 ((wq_st M 47 2 ((M.1 47 2) - 1)).1 49 ((wq_st M 47 2 ((M.1 47 2) - 1)).1 47 2).toNatClampNeg) (wq_st M 47 2 ((M.1 47 2) - 1))).bind fun r11 => some r11 else none
    else
      (if ((wq_st M 47 2 ((M.1 47 2) - 1)).1 48 ((wq_st M 47 2 ((M.1 47 2) - 1)).1 47 2).toNatClampNeg) < 4 then
        if wq_in ((wq_st M 47 2 ((M.1 47 2) - 1)).1 47 2) 24 then if wq_in ((wq_st M 47 2 ((M.1 47 2) - 1)).1 48 ((wq_st M 47 2 ((M.1 47 2) - 1)).1 47 2).toNatClampNeg) 4 then some (wq_st (wq_st M 47 2 ((M.1 47 2) - 1)) (p1 + 1) ((wq_st M 47 2 ((M.1 47 2) - 1)).1 48 ((wq_st M 47 2 ((M.1 47 2) - 1)).1 47 2).toNatClampNeg).toNatClampNeg ((wq_st M 47 2 ((M.1 47 2) - 1)).1 49 ((wq_st M 47 2 ((M.1 47 2) - 1)).1 47 2).toNatClampNeg)) else none else none
      else
        if wq_in ((wq_st M 47 2 ((M.1 47 2) - 1)).1 47 2) 24 then (fX5_putFigure p1 (((wq_st M 47 2 ((M.1 47 2) - 1)).1 48 ((wq_st M 47 2 ((M.1 47 2) - 1)).1 47 2).toNatClampNeg) - 4) 4 ((wq_st M 47 2 ((M.1 47 2) - 1)).1 49 ((wq_st M 47 2 ((M.1 47 2) - 1)).1 47 2).toNatClampNeg) (wq_st M 47 2 ((M.1 47 2) - 1))).bind fun r8 => some r8 else none)) else none
  else
    some M)
set_option maxHeartbeats 4000000 in
set_option maxRecDepth 100000 in
theorem ctX0_takeBack {l : Launch} {E : wq_E} {d : Nat} (hd0 : 1 ≤ d) {p1 : Nat} {M : wq_M} {r : wq_M} (hp1 : wq_W p1) (h : fX0_takeBack p1 M = some r) : wq_ct l E wq_yC yX0_takeBack cX0_takeBack 3 (none) d [.ref (E.2.1 47), .ref (E.2.1 p1)] M (none) r := by
  refine wq_ent (own := "WellPipes$Acts") (lv0 := [some (.ref (E.2.1 47)), some (.ref (E.2.1 p1)), none]) (by decide +kernel) rfl (Nat.le_of_ble_eq_true rfl) rfl (fun g h1 h2 hC => ?_)
  have K : wq_kV g r := ⟨h1, h2⟩
  unfold fX0_takeBack at h
  refine wq_aload_n hC dX0_takeBack_0 (i := 0) rfl rfl ?_
  refine gf_0 hC oC_47 2 (.int (M.1 47 2)) (by decide) rfl tw_187 dX0_takeBack_1 ?_
  refine wq_iconst hC (v := 1) dX0_takeBack_4 (by decide) ?_
  refine wq_icmp_ge hC dX0_takeBack_5 (tgt := 9) (by decide) (fun z1 => ?_) (fun z1 => ?_)
  · have h := wq_ip z1 h
    refine wq_aload_n hC dX0_takeBack_9 (i := 0) rfl rfl ?_
    refine wq_dup hC dX0_takeBack_10 rfl ?_
    refine gf_0 hC oC_47 2 (.int (M.1 47 2)) (by decide) rfl tw_187 dX0_takeBack_11 ?_
    refine wq_iconst hC (v := 1) dX0_takeBack_14 (by decide) ?_
    refine wq_isub hC dX0_takeBack_15 ?_
    refine pf_0_2 hC oC_47 tw_187 dX0_takeBack_16 ?_
    refine wq_aload_n hC dX0_takeBack_19 (i := 0) rfl rfl ?_
    refine gf_0 hC oC_47 0 (.ref (E.2.1 48)) (by decide) rfl tw_185 dX0_takeBack_20 ?_
    refine wq_aload_n hC dX0_takeBack_23 (i := 0) rfl rfl ?_
    refine gf_0 hC oC_47 2 (.int ((wq_st M 47 2 ((M.1 47 2) - 1)).1 47 2)) (by decide) rfl tw_187 dX0_takeBack_24 ?_
    obtain ⟨z2, h⟩ := wq_ii h
    refine wq_ald hC aC_48 z2 dX0_takeBack_27 ?_
    refine wq_istore_n hC dX0_takeBack_28 (i := 2) (lv' := [some (.ref (E.2.1 47)), some (.ref (E.2.1 p1)), some (.int ((wq_st M 47 2 ((M.1 47 2) - 1)).1 48 ((wq_st M 47 2 ((M.1 47 2) - 1)).1 47 2).toNatClampNeg))]) rfl (by decide) rfl ?_
    refine wq_iload_n hC dX0_takeBack_29 (i := 2) rfl rfl ?_
    refine wq_bipush hC (v := 9) dX0_takeBack_30 (by decide) ?_
    refine wq_icmp_ne hC dX0_takeBack_32 (tgt := 51) (by decide) (fun z3 => ?_) (fun z3 => ?_)
    · have h := wq_in_ z3 h
      refine wq_iload_n hC dX0_takeBack_51 (i := 2) rfl rfl ?_
      refine wq_iconst hC (v := 4) dX0_takeBack_52 (by decide) ?_
      refine wq_icmp_lt hC dX0_takeBack_53 (tgt := 76) (by decide) (fun z4 => ?_) (fun z4 => ?_)
      · have h := wq_ip z4 h
        refine wq_aload_n hC dX0_takeBack_76 (i := 1) rfl rfl ?_
        refine gf_5 hC hp1.1 2 (.ref (E.2.1 (p1 + 1))) (by decide) rfl tw_117 dX0_takeBack_77 ?_
        refine wq_iload_n hC dX0_takeBack_80 (i := 2) rfl rfl ?_
        refine wq_aload_n hC dX0_takeBack_81 (i := 0) rfl rfl ?_
        refine gf_0 hC oC_47 1 (.ref (E.2.1 49)) (by decide) rfl tw_186 dX0_takeBack_82 ?_
        refine wq_aload_n hC dX0_takeBack_85 (i := 0) rfl rfl ?_
        refine gf_0 hC oC_47 2 (.int ((wq_st M 47 2 ((M.1 47 2) - 1)).1 47 2)) (by decide) rfl tw_187 dX0_takeBack_86 ?_
        obtain ⟨z5, h⟩ := wq_ii h
        refine wq_ald hC aC_49 z5 dX0_takeBack_89 ?_
        obtain ⟨z6, h⟩ := wq_ii h
        refine wq_ast hC hp1.2.1 z6 dX0_takeBack_90 ?_
        have h := Option.some.inj h
        subst h
        exact wq_vret hC dX0_takeBack_91 K.1 K.2
      · have h := wq_in_ z4 h
        refine wq_aload_n hC dX0_takeBack_56 (i := 1) rfl rfl ?_
        refine wq_iload_n hC dX0_takeBack_57 (i := 2) rfl rfl ?_
        refine wq_iconst hC (v := 4) dX0_takeBack_58 (by decide) ?_
        refine wq_isub hC dX0_takeBack_59 ?_
        refine wq_iconst hC (v := 4) dX0_takeBack_60 (by decide) ?_
        refine wq_aload_n hC dX0_takeBack_61 (i := 0) rfl rfl ?_
        refine gf_0 hC oC_47 1 (.ref (E.2.1 49)) (by decide) rfl tw_186 dX0_takeBack_62 ?_
        refine wq_aload_n hC dX0_takeBack_65 (i := 0) rfl rfl ?_
        refine gf_0 hC oC_47 2 (.int ((wq_st M 47 2 ((M.1 47 2) - 1)).1 47 2)) (by decide) rfl tw_187 dX0_takeBack_66 ?_
        obtain ⟨z7, h⟩ := wq_ii h
        refine wq_ald hC aC_49 z7 dX0_takeBack_69 ?_
        obtain ⟨r8, hc9, h⟩ := wq_ob h
        refine cv_5 hC (ctX5_putFigure (d := d - 1) (by omega) hp1 hc9) (by omega) (by decide) hp1.1 rfl rfl npX5_putFigure tw_401 tw_370 tw_371 tw_372 (st := []) (Nat.le_of_ble_eq_true rfl) rfl dX0_takeBack_70 (st1 := []) rfl ?_
        refine wq_goto hC dX0_takeBack_73 (tgt := 91) (by decide) ?_
        have h := Option.some.inj h
        subst h
        exact wq_vret hC dX0_takeBack_91 K.1 K.2
    · have h := wq_ip z3 h
      refine wq_aload_n hC dX0_takeBack_35 (i := 1) rfl rfl ?_
      refine wq_aload_n hC dX0_takeBack_36 (i := 0) rfl rfl ?_
      refine gf_0 hC oC_47 1 (.ref (E.2.1 49)) (by decide) rfl tw_186 dX0_takeBack_37 ?_
      refine wq_aload_n hC dX0_takeBack_40 (i := 0) rfl rfl ?_
      refine gf_0 hC oC_47 2 (.int ((wq_st M 47 2 ((M.1 47 2) - 1)).1 47 2)) (by decide) rfl tw_187 dX0_takeBack_41 ?_
      obtain ⟨z10, h⟩ := wq_ii h
      refine wq_ald hC aC_49 z10 dX0_takeBack_44 ?_
      obtain ⟨r11, hc12, h⟩ := wq_ob h
      refine cv_5 hC (ctX5_layString (d := d - 1) (by omega) hp1 hc12) (by omega) (by decide) hp1.1 rfl rfl npX5_layString tw_397 tw_398 tw_399 tw_400 (st := []) (Nat.le_of_ble_eq_true rfl) rfl dX0_takeBack_45 (st1 := []) rfl ?_
      refine wq_goto hC dX0_takeBack_48 (tgt := 91) (by decide) ?_
      have h := Option.some.inj h
      subst h
      exact wq_vret hC dX0_takeBack_91 K.1 K.2
  · have h := wq_in_ z1 h
    have h := Option.some.inj h
    subst h
    exact wq_vret hC dX0_takeBack_8 K.1 K.2
theorem npX0_forgetAll : yX0_forgetAll.cls ≠ "java/lang/invoke/MethodHandle" ∧ yX0_forgetAll.cls ≠ "java/lang/invoke/VarHandle" ∧ (parseMethodDescriptor yX0_forgetAll.desc).map (fun d => d.parameters.length) = some 0 := by decide +kernel
def fX0_forgetAll  (M : wq_M) : Option wq_M :=
  some (wq_st M 47 2 0)
set_option maxHeartbeats 4000000 in
set_option maxRecDepth 100000 in
theorem ctX0_forgetAll {l : Launch} {E : wq_E} {d : Nat} (hd0 : 0 ≤ d)  {M : wq_M} {r : wq_M}  (h : fX0_forgetAll M = some r) : wq_ct l E wq_yC yX0_forgetAll cX0_forgetAll 1 (none) d [.ref (E.2.1 47)] M (none) r := by
  refine wq_ent (own := "WellPipes$Acts") (lv0 := [some (.ref (E.2.1 47))]) (by decide +kernel) rfl (Nat.le_of_ble_eq_true rfl) rfl (fun g h1 h2 hC => ?_)
  have K : wq_kV g r := ⟨h1, h2⟩
  unfold fX0_forgetAll at h
  refine wq_aload_n hC dX0_forgetAll_0 (i := 0) rfl rfl ?_
  refine wq_iconst hC (v := 0) dX0_forgetAll_1 (by decide) ?_
  refine pf_0_2 hC oC_47 tw_187 dX0_forgetAll_2 ?_
  have h := Option.some.inj h
  subst h
  exact wq_vret hC dX0_forgetAll_5 K.1 K.2
theorem npX1_bodyFor : yX1_bodyFor.cls ≠ "java/lang/invoke/MethodHandle" ∧ yX1_bodyFor.cls ≠ "java/lang/invoke/VarHandle" ∧ (parseMethodDescriptor yX1_bodyFor.desc).map (fun d => d.parameters.length) = some 1 := by decide +kernel
def fX1_bodyFor (x1 : Int32) (M : wq_M) : Option Int32 :=
  (M.2 50 2).bind fun q1 => if wq_okW q1 then if wq_in (M.1 50 3) 5 then (if x1 = 0 then
    if wq_in (M.1 (q1 + 2) (M.1 50 3).toNatClampNeg) 6 then some (wq_sf 4 (M.1 (q1 + 2) (M.1 50 3).toNatClampNeg).toNatClampNeg) else none
  else
    if wq_in (M.1 (q1 + 2) (M.1 50 3).toNatClampNeg) 6 then some (wq_sf 5 (M.1 (q1 + 2) (M.1 50 3).toNatClampNeg).toNatClampNeg) else none) else none else none
set_option maxHeartbeats 4000000 in
set_option maxRecDepth 100000 in
theorem ctX1_bodyFor {l : Launch} {E : wq_E} {d : Nat} (hd0 : 0 ≤ d) {x1 : Int32} {M : wq_M} {r : Int32}  (h : fX1_bodyFor x1 M = some r) : wq_ct l E wq_yC yX1_bodyFor cX1_bodyFor 3 (some .int) d [.ref (E.2.1 50), .int x1] M (some (.int r)) M := by
  refine wq_ent (own := "WellPipes$Asks") (lv0 := [some (.ref (E.2.1 50)), some (.int x1), none]) (by decide +kernel) rfl (Nat.le_of_ble_eq_true rfl) rfl (fun g h1 h2 hC => ?_)
  have K : wq_ki g M r := ⟨h1, h2⟩
  unfold fX1_bodyFor at h
  refine wq_aload_n hC dX1_bodyFor_0 (i := 0) rfl rfl ?_
  obtain ⟨q1, hq2, h⟩ := wq_ob h
  obtain ⟨z3, h⟩ := wq_ii h
  refine gf_1 hC oC_50 2 (.ref (E.2.1 q1)) (by decide) (gm_1_2 hq2) tw_206 dX1_bodyFor_1 ?_
  refine gf_5 hC (W_ok z3).1 3 (.ref (E.2.1 (q1 + 2))) (by decide) rfl tw_121 dX1_bodyFor_4 ?_
  refine wq_aload_n hC dX1_bodyFor_7 (i := 0) rfl rfl ?_
  refine gf_1 hC oC_50 3 (.int (M.1 50 3)) (by decide) rfl tw_207 dX1_bodyFor_8 ?_
  obtain ⟨z4, h⟩ := wq_ii h
  refine wq_ald hC ((W_ok z3).2.2.1) z4 dX1_bodyFor_11 ?_
  refine wq_istore_n hC dX1_bodyFor_12 (i := 2) (lv' := [some (.ref (E.2.1 50)), some (.int x1), some (.int (M.1 (q1 + 2) (M.1 50 3).toNatClampNeg))]) rfl (by decide) rfl ?_
  refine wq_iload_n hC dX1_bodyFor_13 (i := 1) rfl rfl ?_
  refine wq_if_ne hC dX1_bodyFor_14 (tgt := 25) (by decide) (fun z5 => ?_) (fun z5 => ?_)
  · have h := wq_in_ z5 h
    refine wq_gets hC 5 (by decide) tw_681 dX1_bodyFor_25 ?_
    refine wq_iload_n hC dX1_bodyFor_28 (i := 2) rfl rfl ?_
    obtain ⟨z6, h⟩ := wq_ii h
    refine wq_tald hC 5 (by decide) rfl z6 dX1_bodyFor_29 ?_
    have h := Option.some.inj h
    subst h
    exact wq_iret hC dX1_bodyFor_30 K.1 K.2
  · have h := wq_ip z5 h
    refine wq_gets hC 4 (by decide) tw_679 dX1_bodyFor_17 ?_
    refine wq_iload_n hC dX1_bodyFor_20 (i := 2) rfl rfl ?_
    obtain ⟨z7, h⟩ := wq_ii h
    refine wq_tald hC 4 (by decide) rfl z7 dX1_bodyFor_21 ?_
    refine wq_goto hC dX1_bodyFor_22 (tgt := 30) (by decide) ?_
    have h := Option.some.inj h
    subst h
    exact wq_iret hC dX1_bodyFor_30 K.1 K.2
theorem npX1_begin : yX1_begin.cls ≠ "java/lang/invoke/MethodHandle" ∧ yX1_begin.cls ≠ "java/lang/invoke/VarHandle" ∧ (parseMethodDescriptor yX1_begin.desc).map (fun d => d.parameters.length) = some 2 := by decide +kernel
def fX1_begin_J37 (rc : Int32 → Int32 → wq_M → Option (Int32 × wq_M)) (x1 : Int32) (x2 : Int32) (M : wq_M) : Option (Int32 × wq_M) :=
  (if x1 = 10 then (M.2 50 2).bind fun q4 => if wq_okW q4 then (fX5_figure q4 (M.1 50 3) 4 M).bind fun r7 => some (r7, M) else none else if x1 = 11 then (rc 10 (x2 + 1) M).bind fun r10 => (fX1_bodyFor 1 r10.2).bind fun r12 => (rc r12 (x2 + 1) r10.2).bind fun r14 => some ((r10.1 + r14.1), r14.2) else if x1 = 12 then (rc 11 (x2 + 1) M).bind fun r17 => some ((-r17.1), r17.2) else if x1 = 13 then (rc 10 (x2 + 1) M).bind fun r20 => some ((r20.1 - 100), r20.2) else if x1 = 14 then (rc 13 (x2 + 1) M).bind fun r23 => some ((r23.1 * 2), r23.2) else if x1 = 15 then some (0, M) else if x1 = 16 then some (0, M) else if x1 = 17 then some (0, M) else if x1 = 18 then some (0, M) else if x1 = 19 then some (0, M) else if x1 = 20 then some ((M.1 50 3), M) else if x1 = 21 then (rc 20 (x2 + 1) M).bind fun r32 => (r32.2.2 50 2).bind fun q34 => if wq_okW q34 then (fX5_figure q34 (r32.2.1 50 3) 3 r32.2).bind fun r37 => some ((r32.1 + r37), r32.2) else none else if x1 = 22 then (rc 21 (x2 + 1) M).bind fun r40 => some ((r40.1 - 1000), r40.2) else if x1 = 23 then (rc 20 (x2 + 1) M).bind fun r43 => (fX1_bodyFor 0 r43.2).bind fun r45 => (rc r45 (x2 + 1) r43.2).bind fun r47 => some ((r43.1 - r47.1), r47.2) else if x1 = 24 then (rc 21 (x2 + 1) M).bind fun r50 => some ((r50.1 * 2), r50.2) else some (0, M))
set_option maxHeartbeats 4000000 in
set_option maxRecDepth 100000 in
theorem gX1_begin_J37 {g : wq_G} {E : wq_E} {d : Nat} {rc : Int32 → Int32 → wq_M → Option (Int32 × wq_M)} (rcH : ∀ {l : Launch} {E : wq_E} {x1 : Int32} {x2 : Int32} {M : wq_M} {r : (Int32 × wq_M)} , rc x1 x2 M = some r → wq_ct l E wq_yC yX1_begin cX1_begin 4 (some .int) (d - 1) [.ref (E.2.1 50), .int x1, .int x2] M (some (.int r.1)) r.2) (hC : wq_C g E wq_yC cX1_begin 4 "WellPipes$Asks" (some .int) d) (hd0 : 2 ≤ d) (x1 : Int32) (x2 : Int32) (M : wq_M)  {x : (Int32 × wq_M)} (h : fX1_begin_J37 rc x1 x2 M = some x) (K : (wq_kI g) x) : wq_g g E wq_yC 4 37 [some (.ref (E.2.1 50)), some (.int x1), some (.int x2), none] [] M := by
  unfold fX1_begin_J37 at h
  refine wq_iload_n hC dX1_begin_37 (i := 2) rfl rfl ?_
  refine wq_iconst hC (v := 1) dX1_begin_38 (by decide) ?_
  refine wq_iadd hC dX1_begin_39 ?_
  refine wq_istore_n hC dX1_begin_40 (i := 3) (lv' := [some (.ref (E.2.1 50)), some (.int x1), some (.int x2), some (.int (x2 + 1))]) rfl (by decide) rfl ?_
  refine wq_iload_n hC dX1_begin_41 (i := 1) rfl rfl ?_
  by_cases z3 : x1 = 10
  · have h := wq_ip z3 h
    refine wq_tableIn hC dX1_begin_42 (tgt := 116) (by rw [z3]; decide) (by rw [z3]; decide) (off := 74) (by rw [z3]; decide) (by decide) ?_
    refine wq_aload_n hC dX1_begin_116 (i := 0) rfl rfl ?_
    obtain ⟨q4, hq5, h⟩ := wq_ob h
    obtain ⟨z6, h⟩ := wq_ii h
    refine gf_1 hC oC_50 2 (.ref (E.2.1 q4)) (by decide) (gm_1_2 hq5) tw_206 dX1_begin_117 ?_
    refine wq_aload_n hC dX1_begin_120 (i := 0) rfl rfl ?_
    refine gf_1 hC oC_50 3 (.int (M.1 50 3)) (by decide) rfl tw_207 dX1_begin_121 ?_
    refine wq_iconst hC (v := 4) dX1_begin_124 (by decide) ?_
    obtain ⟨r7, hc8, h⟩ := wq_ob h
    refine cv_5 hC (ctX5_figure (d := d - 1) (by omega) (W_ok z6) hc8) (by omega) (by decide) (W_ok z6).1 rfl rfl npX5_figure tw_687 tw_452 tw_453 tw_454 (st := []) (Nat.le_of_ble_eq_true rfl) rfl dX1_begin_125 (st1 := [.int r7]) rfl ?_
    have h := Option.some.inj h
    subst h
    exact wq_iret hC dX1_begin_128 K.1 K.2
  · have h := wq_in_ z3 h
    by_cases z9 : x1 = 11
    · have h := wq_ip z9 h
      refine wq_tableIn hC dX1_begin_42 (tgt := 129) (by rw [z9]; decide) (by rw [z9]; decide) (off := 87) (by rw [z9]; decide) (by decide) ?_
      refine wq_aload_n hC dX1_begin_129 (i := 0) rfl rfl ?_
      refine wq_bipush hC (v := 10) dX1_begin_130 (by decide) ?_
      refine wq_iload_n hC dX1_begin_132 (i := 3) rfl rfl ?_
      obtain ⟨r10, hc11, h⟩ := wq_ob h
      refine cv_1 hC (rcH  hc11) (by omega) (by decide) oC_50 rfl rfl npX1_begin tw_683 tw_685 tw_20 tw_686 (st := []) (Nat.le_of_ble_eq_true rfl) rfl dX1_begin_133 (st1 := [.int r10.1]) rfl ?_
      refine wq_aload_n hC dX1_begin_136 (i := 0) rfl rfl ?_
      refine wq_aload_n hC dX1_begin_137 (i := 0) rfl rfl ?_
      refine wq_iconst hC (v := 1) dX1_begin_138 (by decide) ?_
      obtain ⟨r12, hc13, h⟩ := wq_ob h
      refine cv_1 hC (ctX1_bodyFor (d := d - 1) (by omega)  hc13) (by omega) (by decide) oC_50 rfl rfl npX1_bodyFor tw_675 tw_677 tw_19 tw_678 (st := [.ref (E.2.1 50), .int r10.1]) (Nat.le_of_ble_eq_true rfl) rfl dX1_begin_139 (st1 := [.int r12, .ref (E.2.1 50), .int r10.1]) rfl ?_
      refine wq_iload_n hC dX1_begin_142 (i := 3) rfl rfl ?_
      obtain ⟨r14, hc15, h⟩ := wq_ob h
      refine cv_1 hC (rcH  hc15) (by omega) (by decide) oC_50 rfl rfl npX1_begin tw_683 tw_685 tw_20 tw_686 (st := [.int r10.1]) (Nat.le_of_ble_eq_true rfl) rfl dX1_begin_143 (st1 := [.int r14.1, .int r10.1]) rfl ?_
      refine wq_iadd hC dX1_begin_146 ?_
      have h := Option.some.inj h
      subst h
      exact wq_iret hC dX1_begin_147 K.1 K.2
    · have h := wq_in_ z9 h
      by_cases z16 : x1 = 12
      · have h := wq_ip z16 h
        refine wq_tableIn hC dX1_begin_42 (tgt := 148) (by rw [z16]; decide) (by rw [z16]; decide) (off := 106) (by rw [z16]; decide) (by decide) ?_
        refine wq_aload_n hC dX1_begin_148 (i := 0) rfl rfl ?_
        refine wq_bipush hC (v := 11) dX1_begin_149 (by decide) ?_
        refine wq_iload_n hC dX1_begin_151 (i := 3) rfl rfl ?_
        obtain ⟨r17, hc18, h⟩ := wq_ob h
        refine cv_1 hC (rcH  hc18) (by omega) (by decide) oC_50 rfl rfl npX1_begin tw_683 tw_685 tw_20 tw_686 (st := []) (Nat.le_of_ble_eq_true rfl) rfl dX1_begin_152 (st1 := [.int r17.1]) rfl ?_
        refine wq_ineg hC dX1_begin_155 ?_
        have h := Option.some.inj h
        subst h
        exact wq_iret hC dX1_begin_156 K.1 K.2
      · have h := wq_in_ z16 h
        by_cases z19 : x1 = 13
        · have h := wq_ip z19 h
          refine wq_tableIn hC dX1_begin_42 (tgt := 157) (by rw [z19]; decide) (by rw [z19]; decide) (off := 115) (by rw [z19]; decide) (by decide) ?_
          refine wq_aload_n hC dX1_begin_157 (i := 0) rfl rfl ?_
          refine wq_bipush hC (v := 10) dX1_begin_158 (by decide) ?_
          refine wq_iload_n hC dX1_begin_160 (i := 3) rfl rfl ?_
          obtain ⟨r20, hc21, h⟩ := wq_ob h
          refine cv_1 hC (rcH  hc21) (by omega) (by decide) oC_50 rfl rfl npX1_begin tw_683 tw_685 tw_20 tw_686 (st := []) (Nat.le_of_ble_eq_true rfl) rfl dX1_begin_161 (st1 := [.int r20.1]) rfl ?_
          refine wq_bipush hC (v := 100) dX1_begin_164 (by decide) ?_
          refine wq_isub hC dX1_begin_166 ?_
          have h := Option.some.inj h
          subst h
          exact wq_iret hC dX1_begin_167 K.1 K.2
        · have h := wq_in_ z19 h
          by_cases z22 : x1 = 14
          · have h := wq_ip z22 h
            refine wq_tableIn hC dX1_begin_42 (tgt := 168) (by rw [z22]; decide) (by rw [z22]; decide) (off := 126) (by rw [z22]; decide) (by decide) ?_
            refine wq_aload_n hC dX1_begin_168 (i := 0) rfl rfl ?_
            refine wq_bipush hC (v := 13) dX1_begin_169 (by decide) ?_
            refine wq_iload_n hC dX1_begin_171 (i := 3) rfl rfl ?_
            obtain ⟨r23, hc24, h⟩ := wq_ob h
            refine cv_1 hC (rcH  hc24) (by omega) (by decide) oC_50 rfl rfl npX1_begin tw_683 tw_685 tw_20 tw_686 (st := []) (Nat.le_of_ble_eq_true rfl) rfl dX1_begin_172 (st1 := [.int r23.1]) rfl ?_
            refine wq_iconst hC (v := 2) dX1_begin_175 (by decide) ?_
            refine wq_imul hC dX1_begin_176 ?_
            have h := Option.some.inj h
            subst h
            exact wq_iret hC dX1_begin_177 K.1 K.2
          · have h := wq_in_ z22 h
            by_cases z25 : x1 = 15
            · have h := wq_ip z25 h
              refine wq_tableIn hC dX1_begin_42 (tgt := 245) (by rw [z25]; decide) (by rw [z25]; decide) (off := 203) (by rw [z25]; decide) (by decide) ?_
              refine wq_iconst hC (v := 0) dX1_begin_245 (by decide) ?_
              have h := Option.some.inj h
              subst h
              exact wq_iret hC dX1_begin_246 K.1 K.2
            · have h := wq_in_ z25 h
              by_cases z26 : x1 = 16
              · have h := wq_ip z26 h
                refine wq_tableIn hC dX1_begin_42 (tgt := 245) (by rw [z26]; decide) (by rw [z26]; decide) (off := 203) (by rw [z26]; decide) (by decide) ?_
                refine wq_iconst hC (v := 0) dX1_begin_245 (by decide) ?_
                have h := Option.some.inj h
                subst h
                exact wq_iret hC dX1_begin_246 K.1 K.2
              · have h := wq_in_ z26 h
                by_cases z27 : x1 = 17
                · have h := wq_ip z27 h
                  refine wq_tableIn hC dX1_begin_42 (tgt := 245) (by rw [z27]; decide) (by rw [z27]; decide) (off := 203) (by rw [z27]; decide) (by decide) ?_
                  refine wq_iconst hC (v := 0) dX1_begin_245 (by decide) ?_
                  have h := Option.some.inj h
                  subst h
                  exact wq_iret hC dX1_begin_246 K.1 K.2
                · have h := wq_in_ z27 h
                  by_cases z28 : x1 = 18
                  · have h := wq_ip z28 h
                    refine wq_tableIn hC dX1_begin_42 (tgt := 245) (by rw [z28]; decide) (by rw [z28]; decide) (off := 203) (by rw [z28]; decide) (by decide) ?_
                    refine wq_iconst hC (v := 0) dX1_begin_245 (by decide) ?_
                    have h := Option.some.inj h
                    subst h
                    exact wq_iret hC dX1_begin_246 K.1 K.2
                  · have h := wq_in_ z28 h
                    by_cases z29 : x1 = 19
                    · have h := wq_ip z29 h
                      refine wq_tableIn hC dX1_begin_42 (tgt := 245) (by rw [z29]; decide) (by rw [z29]; decide) (off := 203) (by rw [z29]; decide) (by decide) ?_
                      refine wq_iconst hC (v := 0) dX1_begin_245 (by decide) ?_
                      have h := Option.some.inj h
                      subst h
                      exact wq_iret hC dX1_begin_246 K.1 K.2
                    · have h := wq_in_ z29 h
                      by_cases z30 : x1 = 20
                      · have h := wq_ip z30 h
                        refine wq_tableIn hC dX1_begin_42 (tgt := 178) (by rw [z30]; decide) (by rw [z30]; decide) (off := 136) (by rw [z30]; decide) (by decide) ?_
                        refine wq_aload_n hC dX1_begin_178 (i := 0) rfl rfl ?_
                        refine gf_1 hC oC_50 3 (.int (M.1 50 3)) (by decide) rfl tw_207 dX1_begin_179 ?_
                        have h := Option.some.inj h
                        subst h
                        exact wq_iret hC dX1_begin_182 K.1 K.2
                      · have h := wq_in_ z30 h
                        by_cases z31 : x1 = 21
                        · have h := wq_ip z31 h
                          refine wq_tableIn hC dX1_begin_42 (tgt := 183) (by rw [z31]; decide) (by rw [z31]; decide) (off := 141) (by rw [z31]; decide) (by decide) ?_
                          refine wq_aload_n hC dX1_begin_183 (i := 0) rfl rfl ?_
                          refine wq_bipush hC (v := 20) dX1_begin_184 (by decide) ?_
                          refine wq_iload_n hC dX1_begin_186 (i := 3) rfl rfl ?_
                          obtain ⟨r32, hc33, h⟩ := wq_ob h
                          refine cv_1 hC (rcH  hc33) (by omega) (by decide) oC_50 rfl rfl npX1_begin tw_683 tw_685 tw_20 tw_686 (st := []) (Nat.le_of_ble_eq_true rfl) rfl dX1_begin_187 (st1 := [.int r32.1]) rfl ?_
                          refine wq_aload_n hC dX1_begin_190 (i := 0) rfl rfl ?_
                          obtain ⟨q34, hq35, h⟩ := wq_ob h
                          obtain ⟨z36, h⟩ := wq_ii h
                          refine gf_1 hC oC_50 2 (.ref (E.2.1 q34)) (by decide) (gm_1_2 hq35) tw_206 dX1_begin_191 ?_
                          refine wq_aload_n hC dX1_begin_194 (i := 0) rfl rfl ?_
                          refine gf_1 hC oC_50 3 (.int (r32.2.1 50 3)) (by decide) rfl tw_207 dX1_begin_195 ?_
                          refine wq_iconst hC (v := 3) dX1_begin_198 (by decide) ?_
                          obtain ⟨r37, hc38, h⟩ := wq_ob h
                          refine cv_5 hC (ctX5_figure (d := d - 1) (by omega) (W_ok z36) hc38) (by omega) (by decide) (W_ok z36).1 rfl rfl npX5_figure tw_687 tw_452 tw_453 tw_454 (st := [.int r32.1]) (Nat.le_of_ble_eq_true rfl) rfl dX1_begin_199 (st1 := [.int r37, .int r32.1]) rfl ?_
                          refine wq_iadd hC dX1_begin_202 ?_
                          have h := Option.some.inj h
                          subst h
                          exact wq_iret hC dX1_begin_203 K.1 K.2
                        · have h := wq_in_ z31 h
                          by_cases z39 : x1 = 22
                          · have h := wq_ip z39 h
                            refine wq_tableIn hC dX1_begin_42 (tgt := 204) (by rw [z39]; decide) (by rw [z39]; decide) (off := 162) (by rw [z39]; decide) (by decide) ?_
                            refine wq_aload_n hC dX1_begin_204 (i := 0) rfl rfl ?_
                            refine wq_bipush hC (v := 21) dX1_begin_205 (by decide) ?_
                            refine wq_iload_n hC dX1_begin_207 (i := 3) rfl rfl ?_
                            obtain ⟨r40, hc41, h⟩ := wq_ob h
                            refine cv_1 hC (rcH  hc41) (by omega) (by decide) oC_50 rfl rfl npX1_begin tw_683 tw_685 tw_20 tw_686 (st := []) (Nat.le_of_ble_eq_true rfl) rfl dX1_begin_208 (st1 := [.int r40.1]) rfl ?_
                            refine wq_sipush hC (v := 1000) dX1_begin_211 (by decide) ?_
                            refine wq_isub hC dX1_begin_214 ?_
                            have h := Option.some.inj h
                            subst h
                            exact wq_iret hC dX1_begin_215 K.1 K.2
                          · have h := wq_in_ z39 h
                            by_cases z42 : x1 = 23
                            · have h := wq_ip z42 h
                              refine wq_tableIn hC dX1_begin_42 (tgt := 216) (by rw [z42]; decide) (by rw [z42]; decide) (off := 174) (by rw [z42]; decide) (by decide) ?_
                              refine wq_aload_n hC dX1_begin_216 (i := 0) rfl rfl ?_
                              refine wq_bipush hC (v := 20) dX1_begin_217 (by decide) ?_
                              refine wq_iload_n hC dX1_begin_219 (i := 3) rfl rfl ?_
                              obtain ⟨r43, hc44, h⟩ := wq_ob h
                              refine cv_1 hC (rcH  hc44) (by omega) (by decide) oC_50 rfl rfl npX1_begin tw_683 tw_685 tw_20 tw_686 (st := []) (Nat.le_of_ble_eq_true rfl) rfl dX1_begin_220 (st1 := [.int r43.1]) rfl ?_
                              refine wq_aload_n hC dX1_begin_223 (i := 0) rfl rfl ?_
                              refine wq_aload_n hC dX1_begin_224 (i := 0) rfl rfl ?_
                              refine wq_iconst hC (v := 0) dX1_begin_225 (by decide) ?_
                              obtain ⟨r45, hc46, h⟩ := wq_ob h
                              refine cv_1 hC (ctX1_bodyFor (d := d - 1) (by omega)  hc46) (by omega) (by decide) oC_50 rfl rfl npX1_bodyFor tw_675 tw_677 tw_19 tw_678 (st := [.ref (E.2.1 50), .int r43.1]) (Nat.le_of_ble_eq_true rfl) rfl dX1_begin_226 (st1 := [.int r45, .ref (E.2.1 50), .int r43.1]) rfl ?_
                              refine wq_iload_n hC dX1_begin_229 (i := 3) rfl rfl ?_
                              obtain ⟨r47, hc48, h⟩ := wq_ob h
                              refine cv_1 hC (rcH  hc48) (by omega) (by decide) oC_50 rfl rfl npX1_begin tw_683 tw_685 tw_20 tw_686 (st := [.int r43.1]) (Nat.le_of_ble_eq_true rfl) rfl dX1_begin_230 (st1 := [.int r47.1, .int r43.1]) rfl ?_
                              refine wq_isub hC dX1_begin_233 ?_
                              have h := Option.some.inj h
                              subst h
                              exact wq_iret hC dX1_begin_234 K.1 K.2
                            · have h := wq_in_ z42 h
                              by_cases z49 : x1 = 24
                              · have h := wq_ip z49 h
                                refine wq_tableIn hC dX1_begin_42 (tgt := 235) (by rw [z49]; decide) (by rw [z49]; decide) (off := 193) (by rw [z49]; decide) (by decide) ?_
                                refine wq_aload_n hC dX1_begin_235 (i := 0) rfl rfl ?_
                                refine wq_bipush hC (v := 21) dX1_begin_236 (by decide) ?_
                                refine wq_iload_n hC dX1_begin_238 (i := 3) rfl rfl ?_
                                obtain ⟨r50, hc51, h⟩ := wq_ob h
                                refine cv_1 hC (rcH  hc51) (by omega) (by decide) oC_50 rfl rfl npX1_begin tw_683 tw_685 tw_20 tw_686 (st := []) (Nat.le_of_ble_eq_true rfl) rfl dX1_begin_239 (st1 := [.int r50.1]) rfl ?_
                                refine wq_iconst hC (v := 2) dX1_begin_242 (by decide) ?_
                                refine wq_imul hC dX1_begin_243 ?_
                                have h := Option.some.inj h
                                subst h
                                exact wq_iret hC dX1_begin_244 K.1 K.2
                              · have h := wq_in_ z49 h
                                refine wq_tableOut hC dX1_begin_42 (tgt := 245) (by have := lv_neT z3 (show (10 : Int32).toInt = 10 by decide); have := lv_neT z9 (show (11 : Int32).toInt = 11 by decide); have := lv_neT z16 (show (12 : Int32).toInt = 12 by decide); have := lv_neT z19 (show (13 : Int32).toInt = 13 by decide); have := lv_neT z22 (show (14 : Int32).toInt = 14 by decide); have := lv_neT z25 (show (15 : Int32).toInt = 15 by decide); have := lv_neT z26 (show (16 : Int32).toInt = 16 by decide); have := lv_neT z27 (show (17 : Int32).toInt = 17 by decide); have := lv_neT z28 (show (18 : Int32).toInt = 18 by decide); have := lv_neT z29 (show (19 : Int32).toInt = 19 by decide); have := lv_neT z30 (show (20 : Int32).toInt = 20 by decide); have := lv_neT z31 (show (21 : Int32).toInt = 21 by decide); have := lv_neT z39 (show (22 : Int32).toInt = 22 by decide); have := lv_neT z42 (show (23 : Int32).toInt = 23 by decide); have := lv_neT z49 (show (24 : Int32).toInt = 24 by decide); omega) (by decide) ?_
                                refine wq_iconst hC (v := 0) dX1_begin_245 (by decide) ?_
                                have h := Option.some.inj h
                                subst h
                                exact wq_iret hC dX1_begin_246 K.1 K.2
def fX1_begin_e (rc : Int32 → Int32 → wq_M → Option (Int32 × wq_M)) (x1 : Int32) (x2 : Int32) (M : wq_M) : Option (Int32 × wq_M) :=
  (if x2 ≤ 16 then
    (if 16 ≤ (M.1 50 1) then
      fX1_begin_J37 rc x1 x2 M
    else
      if wq_in (M.1 50 1) 16 then fX1_begin_J37 rc x1 x2 (wq_st (wq_st M 51 (M.1 50 1).toNatClampNeg x1) 50 1 (((wq_st M 51 (M.1 50 1).toNatClampNeg x1).1 50 1) + 1)) else none)
  else
    some (0, M))
def fX1_begin : Nat → Int32 → Int32 → wq_M → Option (Int32 × wq_M)
  | 0, _, _, _ => none
  | n + 1, x1, x2, M => fX1_begin_e (fX1_begin n) x1 x2 M
set_option maxHeartbeats 4000000 in
set_option maxRecDepth 100000 in
theorem ctX1_begin_e {l : Launch} {E : wq_E} {d : Nat} {rc : Int32 → Int32 → wq_M → Option (Int32 × wq_M)} (rcH : ∀ {l : Launch} {E : wq_E} {x1 : Int32} {x2 : Int32} {M : wq_M} {r : (Int32 × wq_M)} , rc x1 x2 M = some r → wq_ct l E wq_yC yX1_begin cX1_begin 4 (some .int) (d - 1) [.ref (E.2.1 50), .int x1, .int x2] M (some (.int r.1)) r.2) (hd0 : 2 ≤ d) {x1 : Int32} {x2 : Int32} {M : wq_M} {r : (Int32 × wq_M)}  (h : fX1_begin_e rc x1 x2 M = some r) : wq_ct l E wq_yC yX1_begin cX1_begin 4 (some .int) d [.ref (E.2.1 50), .int x1, .int x2] M (some (.int r.1)) r.2 := by
  refine wq_ent (own := "WellPipes$Asks") (lv0 := [some (.ref (E.2.1 50)), some (.int x1), some (.int x2), none]) (by decide +kernel) rfl (Nat.le_of_ble_eq_true rfl) rfl (fun g h1 h2 hC => ?_)
  have K : wq_kI g r := ⟨h1, h2⟩
  unfold fX1_begin_e at h
  refine wq_iload_n hC dX1_begin_0 (i := 2) rfl rfl ?_
  refine wq_bipush hC (v := 16) dX1_begin_1 (by decide) ?_
  refine wq_icmp_le hC dX1_begin_3 (tgt := 8) (by decide) (fun z1 => ?_) (fun z1 => ?_)
  · have h := wq_ip z1 h
    refine wq_aload_n hC dX1_begin_8 (i := 0) rfl rfl ?_
    refine gf_1 hC oC_50 1 (.int (M.1 50 1)) (by decide) rfl tw_204 dX1_begin_9 ?_
    refine wq_bipush hC (v := 16) dX1_begin_12 (by decide) ?_
    refine wq_icmp_ge hC dX1_begin_14 (tgt := 37) (by decide) (fun z2 => ?_) (fun z2 => ?_)
    · have h := wq_ip z2 h
      exact gX1_begin_J37 rcH hC hd0 x1 x2 M  h K
    · have h := wq_in_ z2 h
      refine wq_aload_n hC dX1_begin_17 (i := 0) rfl rfl ?_
      refine gf_1 hC oC_50 0 (.ref (E.2.1 51)) (by decide) rfl tw_202 dX1_begin_18 ?_
      refine wq_aload_n hC dX1_begin_21 (i := 0) rfl rfl ?_
      refine gf_1 hC oC_50 1 (.int (M.1 50 1)) (by decide) rfl tw_204 dX1_begin_22 ?_
      refine wq_iload_n hC dX1_begin_25 (i := 1) rfl rfl ?_
      obtain ⟨z52, h⟩ := wq_ii h
      refine wq_ast hC aC_51 z52 dX1_begin_26 ?_
      refine wq_aload_n hC dX1_begin_27 (i := 0) rfl rfl ?_
      refine wq_dup hC dX1_begin_28 rfl ?_
      refine gf_1 hC oC_50 1 (.int ((wq_st M 51 (M.1 50 1).toNatClampNeg x1).1 50 1)) (by decide) rfl tw_204 dX1_begin_29 ?_
      refine wq_iconst hC (v := 1) dX1_begin_32 (by decide) ?_
      refine wq_iadd hC dX1_begin_33 ?_
      refine pf_1_1 hC oC_50 tw_204 dX1_begin_34 ?_
      exact gX1_begin_J37 rcH hC hd0 x1 x2 (wq_st (wq_st M 51 (M.1 50 1).toNatClampNeg x1) 50 1 (((wq_st M 51 (M.1 50 1).toNatClampNeg x1).1 50 1) + 1))  h K
  · have h := wq_in_ z1 h
    refine wq_iconst hC (v := 0) dX1_begin_6 (by decide) ?_
    have h := Option.some.inj h
    subst h
    exact wq_iret hC dX1_begin_7 K.1 K.2
theorem ctX1_begin : ∀ (n : Nat) {l : Launch} {E : wq_E} {d : Nat} (hd0 : n + 2 ≤ d) {x1 : Int32} {x2 : Int32} {M : wq_M} {r : (Int32 × wq_M)}  (h : fX1_begin n x1 x2 M = some r), wq_ct l E wq_yC yX1_begin cX1_begin 4 (some .int) d [.ref (E.2.1 50), .int x1, .int x2] M (some (.int r.1)) r.2
  | 0, l, E, d, hd0, x1, x2, M, r, h => by simp [fX1_begin] at h
  | n + 1, l, E, d, hd0, x1, x2, M, r, h => ctX1_begin_e (rc := fX1_begin n) (fun h => ctX1_begin n (by omega) h) (by omega) h
theorem npX1_answer : yX1_answer.cls ≠ "java/lang/invoke/MethodHandle" ∧ yX1_answer.cls ≠ "java/lang/invoke/VarHandle" ∧ (parseMethodDescriptor yX1_answer.desc).map (fun d => d.parameters.length) = some 3 := by decide +kernel
def fX1_answer (p1 : Nat) (x2 : Int32) (x3 : Int32) (M : wq_M) : Option (Int32 × wq_M) :=
  (fX1_bodyFor x3 (wq_st (wq_st (wq_sr M 50 2 (some p1)) 50 3 x2) 50 1 0)).bind fun r1 => (fX1_begin wq_RF r1 0 (wq_st (wq_st (wq_sr M 50 2 (some p1)) 50 3 x2) 50 1 0)).bind fun r3 => some (r3.1, r3.2)
set_option maxHeartbeats 4000000 in
set_option maxRecDepth 100000 in
theorem ctX1_answer {l : Launch} {E : wq_E} {d : Nat} (hd0 : 43 ≤ d) {p1 : Nat} {x2 : Int32} {x3 : Int32} {M : wq_M} {r : (Int32 × wq_M)} (hp1 : wq_W p1) (h : fX1_answer p1 x2 x3 M = some r) : wq_ct l E wq_yC yX1_answer cX1_answer 4 (some .int) d [.ref (E.2.1 50), .ref (E.2.1 p1), .int x2, .int x3] M (some (.int r.1)) r.2 := by
  refine wq_ent (own := "WellPipes$Asks") (lv0 := [some (.ref (E.2.1 50)), some (.ref (E.2.1 p1)), some (.int x2), some (.int x3)]) (by decide +kernel) rfl (Nat.le_of_ble_eq_true rfl) rfl (fun g h1 h2 hC => ?_)
  have K : wq_kI g r := ⟨h1, h2⟩
  unfold fX1_answer at h
  refine wq_aload_n hC dX1_answer_0 (i := 0) rfl rfl ?_
  refine wq_aload_n hC dX1_answer_1 (i := 1) rfl rfl ?_
  refine pf_1_2 hC oC_50 tw_206 dX1_answer_2 ?_
  refine wq_aload_n hC dX1_answer_5 (i := 0) rfl rfl ?_
  refine wq_iload_n hC dX1_answer_6 (i := 2) rfl rfl ?_
  refine pf_1_3 hC oC_50 tw_207 dX1_answer_7 ?_
  refine wq_aload_n hC dX1_answer_10 (i := 0) rfl rfl ?_
  refine wq_iconst hC (v := 0) dX1_answer_11 (by decide) ?_
  refine pf_1_1 hC oC_50 tw_204 dX1_answer_12 ?_
  refine wq_aload_n hC dX1_answer_15 (i := 0) rfl rfl ?_
  refine wq_aload_n hC dX1_answer_16 (i := 0) rfl rfl ?_
  refine wq_iload_n hC dX1_answer_17 (i := 3) rfl rfl ?_
  obtain ⟨r1, hc2, h⟩ := wq_ob h
  refine cv_1 hC (ctX1_bodyFor (d := d - 1) (by omega)  hc2) (by omega) (by decide) oC_50 rfl rfl npX1_bodyFor tw_675 tw_677 tw_19 tw_678 (st := [.ref (E.2.1 50)]) (Nat.le_of_ble_eq_true rfl) rfl dX1_answer_18 (st1 := [.int r1, .ref (E.2.1 50)]) rfl ?_
  refine wq_iconst hC (v := 0) dX1_answer_21 (by decide) ?_
  obtain ⟨r3, hc4, h⟩ := wq_ob h
  refine cv_1 hC (ctX1_begin wq_RF (d := d - 1) (by unfold wq_RF; omega)  hc4) (by omega) (by decide) oC_50 rfl rfl npX1_begin tw_683 tw_685 tw_20 tw_686 (st := []) (Nat.le_of_ble_eq_true rfl) rfl dX1_answer_22 (st1 := [.int r3.1]) rfl ?_
  have h := Option.some.inj h
  subst h
  exact wq_iret hC dX1_answer_25 K.1 K.2
theorem npX3_isMissing : yX3_isMissing.cls ≠ "java/lang/invoke/MethodHandle" ∧ yX3_isMissing.cls ≠ "java/lang/invoke/VarHandle" ∧ (parseMethodDescriptor yX3_isMissing.desc).map (fun d => d.parameters.length) = some 0 := by decide +kernel
def fX3_isMissing (p0 : Nat) (M : wq_M) : Option Bool :=
  (if (M.1 p0 2) = (-1) then
    some true
  else
    some false)
set_option maxHeartbeats 4000000 in
set_option maxRecDepth 100000 in
theorem ctX3_isMissing {l : Launch} {E : wq_E} {d : Nat} (hd0 : 0 ≤ d) {p0 : Nat} {M : wq_M} {r : Bool} (hp0 : wq_Rw p0) (h : fX3_isMissing p0 M = some r) : wq_ct l E wq_yC yX3_isMissing cX3_isMissing 1 (some .boolean) d [.ref (E.2.1 p0)] M (some (.int (wq_b r))) M := by
  refine wq_ent (own := "WellPipes$Row") (lv0 := [some (.ref (E.2.1 p0))]) (by decide +kernel) rfl (Nat.le_of_ble_eq_true rfl) rfl (fun g h1 h2 hC => ?_)
  have K : wq_kb g M r := ⟨h1, h2⟩
  unfold fX3_isMissing at h
  refine wq_aload_n hC dX3_isMissing_0 (i := 0) rfl rfl ?_
  refine gf_3 hC hp0.1 2 (.int (M.1 p0 2)) (by decide) rfl tw_226 dX3_isMissing_1 ?_
  refine wq_iconst hC (v := (-1)) dX3_isMissing_4 (by decide) ?_
  refine wq_icmp_ne hC dX3_isMissing_5 (tgt := 12) (by decide) (fun z1 => ?_) (fun z1 => ?_)
  · have h := wq_in_ z1 h
    refine wq_iconst hC (v := 0) dX3_isMissing_12 (by decide) ?_
    have h := Option.some.inj h
    subst h
    exact wq_zret hC (b := false) dX3_isMissing_13 (by decide) K.1 K.2
  · have h := wq_ip z1 h
    refine wq_iconst hC (v := 1) dX3_isMissing_8 (by decide) ?_
    refine wq_goto hC dX3_isMissing_9 (tgt := 13) (by decide) ?_
    have h := Option.some.inj h
    subst h
    exact wq_zret hC (b := true) dX3_isMissing_13 (by decide) K.1 K.2
theorem npX3_begin : yX3_begin.cls ≠ "java/lang/invoke/MethodHandle" ∧ yX3_begin.cls ≠ "java/lang/invoke/VarHandle" ∧ (parseMethodDescriptor yX3_begin.desc).map (fun d => d.parameters.length) = some 2 := by decide +kernel
def fX3_begin (p0 : Nat) (x1 : Int32) (x2 : Int32) (M : wq_M) : Option wq_M :=
  (fJ7_fill_53178 (p0 + 1) 0 (wq_st (wq_st M p0 1 x1) p0 2 x2)).bind fun r1 => some r1
set_option maxHeartbeats 4000000 in
set_option maxRecDepth 100000 in
theorem ctX3_begin {l : Launch} {E : wq_E} {d : Nat} (hd0 : 1 ≤ d) {p0 : Nat} {x1 : Int32} {x2 : Int32} {M : wq_M} {r : wq_M} (hp0 : wq_Rw p0) (h : fX3_begin p0 x1 x2 M = some r) : wq_ct l E wq_yC yX3_begin cX3_begin 3 (none) d [.ref (E.2.1 p0), .int x1, .int x2] M (none) r := by
  refine wq_ent (own := "WellPipes$Row") (lv0 := [some (.ref (E.2.1 p0)), some (.int x1), some (.int x2)]) (by decide +kernel) rfl (Nat.le_of_ble_eq_true rfl) rfl (fun g h1 h2 hC => ?_)
  have K : wq_kV g r := ⟨h1, h2⟩
  unfold fX3_begin at h
  refine wq_aload_n hC dX3_begin_0 (i := 0) rfl rfl ?_
  refine wq_iload_n hC dX3_begin_1 (i := 1) rfl rfl ?_
  refine pf_3_1 hC hp0.1 tw_224 dX3_begin_2 ?_
  refine wq_aload_n hC dX3_begin_5 (i := 0) rfl rfl ?_
  refine wq_iload_n hC dX3_begin_6 (i := 2) rfl rfl ?_
  refine pf_3_2 hC hp0.1 tw_226 dX3_begin_7 ?_
  refine wq_aload_n hC dX3_begin_10 (i := 0) rfl rfl ?_
  refine gf_3 hC hp0.1 0 (.ref (E.2.1 (p0 + 1))) (by decide) rfl tw_222 dX3_begin_11 ?_
  refine wq_iconst hC (v := 0) dX3_begin_14 (by decide) ?_
  obtain ⟨r1, hc2, h⟩ := wq_ob h
  refine wq_callS hC (ctJ7_fill_53178 (d := d - 1) (by omega) (wq_aL hp0.2) hc2) (by omega) (by decide) rfl npJ7_fill_53178 tw_280 tw_281 tw_59 tw_282 (st := []) (Nat.le_of_ble_eq_true rfl) rfl dX3_begin_15 (st1 := []) rfl ?_
  have h := Option.some.inj h
  subst h
  exact wq_vret hC dX3_begin_18 K.1 K.2
theorem npX3_hasPlaces : yX3_hasPlaces.cls ≠ "java/lang/invoke/MethodHandle" ∧ yX3_hasPlaces.cls ≠ "java/lang/invoke/VarHandle" ∧ (parseMethodDescriptor yX3_hasPlaces.desc).map (fun d => d.parameters.length) = some 2 := by decide +kernel
def fX3_hasPlaces (p0 : Nat) (x1 : Int32) (x2 : Int32) (M : wq_M) : Option Bool :=
  (if x1 < 0 then
    some false
  else
    (if x2 < 0 then
      some false
    else
      (if ((M.1 p0 2) - x2) < x1 then
        some false
      else
        some true)))
set_option maxHeartbeats 4000000 in
set_option maxRecDepth 100000 in
theorem ctX3_hasPlaces {l : Launch} {E : wq_E} {d : Nat} (hd0 : 0 ≤ d) {p0 : Nat} {x1 : Int32} {x2 : Int32} {M : wq_M} {r : Bool} (hp0 : wq_Rw p0) (h : fX3_hasPlaces p0 x1 x2 M = some r) : wq_ct l E wq_yC yX3_hasPlaces cX3_hasPlaces 3 (some .boolean) d [.ref (E.2.1 p0), .int x1, .int x2] M (some (.int (wq_b r))) M := by
  refine wq_ent (own := "WellPipes$Row") (lv0 := [some (.ref (E.2.1 p0)), some (.int x1), some (.int x2)]) (by decide +kernel) rfl (Nat.le_of_ble_eq_true rfl) rfl (fun g h1 h2 hC => ?_)
  have K : wq_kb g M r := ⟨h1, h2⟩
  unfold fX3_hasPlaces at h
  refine wq_iload_n hC dX3_hasPlaces_0 (i := 1) rfl rfl ?_
  refine wq_if_lt hC dX3_hasPlaces_1 (tgt := 22) (by decide) (fun z1 => ?_) (fun z1 => ?_)
  · have h := wq_ip z1 h
    refine wq_iconst hC (v := 0) dX3_hasPlaces_22 (by decide) ?_
    have h := Option.some.inj h
    subst h
    exact wq_zret hC (b := false) dX3_hasPlaces_23 (by decide) K.1 K.2
  · have h := wq_in_ z1 h
    refine wq_iload_n hC dX3_hasPlaces_4 (i := 2) rfl rfl ?_
    refine wq_if_lt hC dX3_hasPlaces_5 (tgt := 22) (by decide) (fun z2 => ?_) (fun z2 => ?_)
    · have h := wq_ip z2 h
      refine wq_iconst hC (v := 0) dX3_hasPlaces_22 (by decide) ?_
      have h := Option.some.inj h
      subst h
      exact wq_zret hC (b := false) dX3_hasPlaces_23 (by decide) K.1 K.2
    · have h := wq_in_ z2 h
      refine wq_iload_n hC dX3_hasPlaces_8 (i := 1) rfl rfl ?_
      refine wq_aload_n hC dX3_hasPlaces_9 (i := 0) rfl rfl ?_
      refine gf_3 hC hp0.1 2 (.int (M.1 p0 2)) (by decide) rfl tw_226 dX3_hasPlaces_10 ?_
      refine wq_iload_n hC dX3_hasPlaces_13 (i := 2) rfl rfl ?_
      refine wq_isub hC dX3_hasPlaces_14 ?_
      refine wq_icmp_gt hC dX3_hasPlaces_15 (tgt := 22) (by decide) (fun z3 => ?_) (fun z3 => ?_)
      · have h := wq_ip z3 h
        refine wq_iconst hC (v := 0) dX3_hasPlaces_22 (by decide) ?_
        have h := Option.some.inj h
        subst h
        exact wq_zret hC (b := false) dX3_hasPlaces_23 (by decide) K.1 K.2
      · have h := wq_in_ z3 h
        refine wq_iconst hC (v := 1) dX3_hasPlaces_18 (by decide) ?_
        refine wq_goto hC dX3_hasPlaces_19 (tgt := 23) (by decide) ?_
        have h := Option.some.inj h
        subst h
        exact wq_zret hC (b := true) dX3_hasPlaces_23 (by decide) K.1 K.2
theorem npX3_put : yX3_put.cls ≠ "java/lang/invoke/MethodHandle" ∧ yX3_put.cls ≠ "java/lang/invoke/VarHandle" ∧ (parseMethodDescriptor yX3_put.desc).map (fun d => d.parameters.length) = some 2 := by decide +kernel
def fX3_put (p0 : Nat) (x1 : Int32) (x2 : Int32) (M : wq_M) : Option (Int32 × wq_M) :=
  (if (M.1 p0 1) = 0 then if wq_in x1 40 then if wq_in x1 40 then some (((wq_st M (p0 + 1) x1.toNatClampNeg x2.toInt8.toInt32).1 (p0 + 1) x1.toNatClampNeg), (wq_st M (p0 + 1) x1.toNatClampNeg x2.toInt8.toInt32)) else none else none else if (M.1 p0 1) = 1 then if wq_in x1 40 then if wq_in x1 40 then some (((wq_st M (p0 + 1) x1.toNatClampNeg x2.toInt16.toInt32).1 (p0 + 1) x1.toNatClampNeg), (wq_st M (p0 + 1) x1.toNatClampNeg x2.toInt16.toInt32)) else none else none else if wq_in x1 40 then if wq_in x1 40 then some (((wq_st M (p0 + 1) x1.toNatClampNeg x2).1 (p0 + 1) x1.toNatClampNeg), (wq_st M (p0 + 1) x1.toNatClampNeg x2)) else none else none)
set_option maxHeartbeats 4000000 in
set_option maxRecDepth 100000 in
theorem ctX3_put {l : Launch} {E : wq_E} {d : Nat} (hd0 : 0 ≤ d) {p0 : Nat} {x1 : Int32} {x2 : Int32} {M : wq_M} {r : (Int32 × wq_M)} (hp0 : wq_Rw p0) (h : fX3_put p0 x1 x2 M = some r) : wq_ct l E wq_yC yX3_put cX3_put 3 (some .int) d [.ref (E.2.1 p0), .int x1, .int x2] M (some (.int r.1)) r.2 := by
  refine wq_ent (own := "WellPipes$Row") (lv0 := [some (.ref (E.2.1 p0)), some (.int x1), some (.int x2)]) (by decide +kernel) rfl (Nat.le_of_ble_eq_true rfl) rfl (fun g h1 h2 hC => ?_)
  have K : wq_kI g r := ⟨h1, h2⟩
  unfold fX3_put at h
  refine wq_aload_n hC dX3_put_0 (i := 0) rfl rfl ?_
  refine gf_3 hC hp0.1 1 (.int (M.1 p0 1)) (by decide) rfl tw_224 dX3_put_1 ?_
  by_cases z1 : (M.1 p0 1) = 0
  · have h := wq_ip z1 h
    refine wq_lookup hC dX3_put_4 (tgt := 32) (by decide) (off := 28) (by rw [z1]; decide) (by decide) ?_
    refine wq_aload_n hC dX3_put_32 (i := 0) rfl rfl ?_
    refine gf_3 hC hp0.1 0 (.ref (E.2.1 (p0 + 1))) (by decide) rfl tw_222 dX3_put_33 ?_
    refine wq_iload_n hC dX3_put_36 (i := 1) rfl rfl ?_
    refine wq_iload_n hC dX3_put_37 (i := 2) rfl rfl ?_
    refine wq_i2b hC dX3_put_38 ?_
    obtain ⟨z2, h⟩ := wq_ii h
    refine wq_ast hC hp0.2 z2 dX3_put_39 ?_
    refine wq_goto hC dX3_put_40 (tgt := 61) (by decide) ?_
    refine wq_aload_n hC dX3_put_61 (i := 0) rfl rfl ?_
    refine gf_3 hC hp0.1 0 (.ref (E.2.1 (p0 + 1))) (by decide) rfl tw_222 dX3_put_62 ?_
    refine wq_iload_n hC dX3_put_65 (i := 1) rfl rfl ?_
    obtain ⟨z3, h⟩ := wq_ii h
    refine wq_ald hC hp0.2 z3 dX3_put_66 ?_
    have h := Option.some.inj h
    subst h
    exact wq_iret hC dX3_put_67 K.1 K.2
  · have h := wq_in_ z1 h
    by_cases z4 : (M.1 p0 1) = 1
    · have h := wq_ip z4 h
      refine wq_lookup hC dX3_put_4 (tgt := 43) (by decide) (off := 39) (by rw [z4]; decide) (by decide) ?_
      refine wq_aload_n hC dX3_put_43 (i := 0) rfl rfl ?_
      refine gf_3 hC hp0.1 0 (.ref (E.2.1 (p0 + 1))) (by decide) rfl tw_222 dX3_put_44 ?_
      refine wq_iload_n hC dX3_put_47 (i := 1) rfl rfl ?_
      refine wq_iload_n hC dX3_put_48 (i := 2) rfl rfl ?_
      refine wq_i2s hC dX3_put_49 ?_
      obtain ⟨z5, h⟩ := wq_ii h
      refine wq_ast hC hp0.2 z5 dX3_put_50 ?_
      refine wq_goto hC dX3_put_51 (tgt := 61) (by decide) ?_
      refine wq_aload_n hC dX3_put_61 (i := 0) rfl rfl ?_
      refine gf_3 hC hp0.1 0 (.ref (E.2.1 (p0 + 1))) (by decide) rfl tw_222 dX3_put_62 ?_
      refine wq_iload_n hC dX3_put_65 (i := 1) rfl rfl ?_
      obtain ⟨z6, h⟩ := wq_ii h
      refine wq_ald hC hp0.2 z6 dX3_put_66 ?_
      have h := Option.some.inj h
      subst h
      exact wq_iret hC dX3_put_67 K.1 K.2
    · have h := wq_in_ z4 h
      refine wq_lookup hC dX3_put_4 (tgt := 54) (by decide) (off := 50) (by show Op.lookupswitch.offset [(0, 28), (1, 39)] _ _ = _; rw [lv_osw z1 (by decide)]; rw [lv_osw z4 (by decide)]; rfl) (by decide) ?_
      refine wq_aload_n hC dX3_put_54 (i := 0) rfl rfl ?_
      refine gf_3 hC hp0.1 0 (.ref (E.2.1 (p0 + 1))) (by decide) rfl tw_222 dX3_put_55 ?_
      refine wq_iload_n hC dX3_put_58 (i := 1) rfl rfl ?_
      refine wq_iload_n hC dX3_put_59 (i := 2) rfl rfl ?_
      obtain ⟨z7, h⟩ := wq_ii h
      refine wq_ast hC hp0.2 z7 dX3_put_60 ?_
      refine wq_aload_n hC dX3_put_61 (i := 0) rfl rfl ?_
      refine gf_3 hC hp0.1 0 (.ref (E.2.1 (p0 + 1))) (by decide) rfl tw_222 dX3_put_62 ?_
      refine wq_iload_n hC dX3_put_65 (i := 1) rfl rfl ?_
      obtain ⟨z8, h⟩ := wq_ii h
      refine wq_ald hC hp0.2 z8 dX3_put_66 ?_
      have h := Option.some.inj h
      subst h
      exact wq_iret hC dX3_put_67 K.1 K.2
