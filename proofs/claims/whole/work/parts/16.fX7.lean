theorem npX7_in : yX7_in.cls ≠ "java/lang/invoke/MethodHandle" ∧ yX7_in.cls ≠ "java/lang/invoke/VarHandle" ∧ (parseMethodDescriptor yX7_in.desc).map (fun d => d.parameters.length) = some 3 := by decide +kernel
def fX7_in (x0 : Int64) (x2 : Int64) (x4 : Int64) (M : wq_M) : Option Bool :=
  (if (lg_cmp x0 x2) < 0 then
    some false
  else
    (if 0 < (lg_cmp x0 x4) then
      some false
    else
      some true))
set_option maxHeartbeats 4000000 in
set_option maxRecDepth 100000 in
theorem ctX7_in {l : Launch} {E : wq_E} {d : Nat} (hd0 : 0 ≤ d) {x0 : Int64} {x2 : Int64} {x4 : Int64} {M : wq_M} {r : Bool}  (h : fX7_in x0 x2 x4 M = some r) : wq_ct l E wq_yR yX7_in cX7_in 6 (some .boolean) d [.long x0, .long x2, .long x4] M (some (.int (wq_b r))) M := by
  refine wq_ent (own := "WellPipesModel") (lv0 := [some (.long x0), none, some (.long x2), none, some (.long x4), none]) (by decide +kernel) rfl (Nat.le_of_ble_eq_true rfl) rfl (fun g h1 h2 hC => ?_)
  have K : wq_kb g M r := ⟨h1, h2⟩
  unfold fX7_in at h
  refine wq_lload_n hC dX7_in_0 (i := 0) rfl rfl ?_
  refine wq_lload_n hC dX7_in_1 (i := 2) rfl rfl ?_
  refine wq_lcmp hC dX7_in_2 ?_
  refine wq_if_lt hC dX7_in_3 (tgt := 17) (by decide) (fun z1 => ?_) (fun z1 => ?_)
  · have h := wq_ip z1 h
    refine wq_iconst hC (v := 0) dX7_in_17 (by decide) ?_
    have h := Option.some.inj h
    subst h
    exact wq_zret hC (b := false) dX7_in_18 (by decide) K.1 K.2
  · have h := wq_in_ z1 h
    refine wq_lload_n hC dX7_in_6 (i := 0) rfl rfl ?_
    refine wq_lload hC dX7_in_7 rfl ?_
    refine wq_lcmp hC dX7_in_9 ?_
    refine wq_if_gt hC dX7_in_10 (tgt := 17) (by decide) (fun z2 => ?_) (fun z2 => ?_)
    · have h := wq_ip z2 h
      refine wq_iconst hC (v := 0) dX7_in_17 (by decide) ?_
      have h := Option.some.inj h
      subst h
      exact wq_zret hC (b := false) dX7_in_18 (by decide) K.1 K.2
    · have h := wq_in_ z2 h
      refine wq_iconst hC (v := 1) dX7_in_13 (by decide) ?_
      refine wq_goto hC dX7_in_14 (tgt := 18) (by decide) ?_
      have h := Option.some.inj h
      subst h
      exact wq_zret hC (b := true) dX7_in_18 (by decide) K.1 K.2
theorem npX7_finding : yX7_finding.cls ≠ "java/lang/invoke/MethodHandle" ∧ yX7_finding.cls ≠ "java/lang/invoke/VarHandle" ∧ (parseMethodDescriptor yX7_finding.desc).map (fun d => d.parameters.length) = some 1 := by decide +kernel
def fX7_finding (x1 : Int32) (M : wq_M) : Option (Int32 × wq_M) :=
  some (((-1000010) - x1), (wq_st M 0 1 x1))
set_option maxHeartbeats 4000000 in
set_option maxRecDepth 100000 in
theorem ctX7_finding {l : Launch} {E : wq_E} {d : Nat} (hd0 : 0 ≤ d) {x1 : Int32} {M : wq_M} {r : (Int32 × wq_M)}  (h : fX7_finding x1 M = some r) : wq_ct l E wq_yR yX7_finding cX7_finding 2 (some .int) d [.ref (E.2.1 0), .int x1] M (some (.int r.1)) r.2 := by
  refine wq_ent (own := "WellPipesModel") (lv0 := [some (.ref (E.2.1 0)), some (.int x1)]) (by decide +kernel) rfl (Nat.le_of_ble_eq_true rfl) rfl (fun g h1 h2 hC => ?_)
  have K : wq_kI g r := ⟨h1, h2⟩
  unfold fX7_finding at h
  refine wq_aload_n hC dX7_finding_0 (i := 0) rfl rfl ?_
  refine wq_iload_n hC dX7_finding_1 (i := 1) rfl rfl ?_
  refine pf_7_1 hC oR_0 tw_719 dX7_finding_2 ?_
  refine wq_ldc hC (v := (-1000010)) tw_815 dX7_finding_5 ?_
  refine wq_iload_n hC dX7_finding_7 (i := 1) rfl rfl ?_
  refine wq_isub hC dX7_finding_8 ?_
  have h := Option.some.inj h
  subst h
  exact wq_iret hC dX7_finding_9 K.1 K.2
theorem npX7_isRow : yX7_isRow.cls ≠ "java/lang/invoke/MethodHandle" ∧ yX7_isRow.cls ≠ "java/lang/invoke/VarHandle" ∧ (parseMethodDescriptor yX7_isRow.desc).map (fun d => d.parameters.length) = some 1 := by decide +kernel
def fX7_isRow (x0 : Int32) (M : wq_M) : Option Bool :=
  (fX7_in x0.toInt64 (0 : Int64) (7 : Int64) M).bind fun r1 => some r1
set_option maxHeartbeats 4000000 in
set_option maxRecDepth 100000 in
theorem ctX7_isRow {l : Launch} {E : wq_E} {d : Nat} (hd0 : 1 ≤ d) {x0 : Int32} {M : wq_M} {r : Bool}  (h : fX7_isRow x0 M = some r) : wq_ct l E wq_yR yX7_isRow cX7_isRow 1 (some .boolean) d [.int x0] M (some (.int (wq_b r))) M := by
  refine wq_ent (own := "WellPipesModel") (lv0 := [some (.int x0)]) (by decide +kernel) rfl (Nat.le_of_ble_eq_true rfl) rfl (fun g h1 h2 hC => ?_)
  have K : wq_kb g M r := ⟨h1, h2⟩
  unfold fX7_isRow at h
  refine wq_iload_n hC dX7_isRow_0 (i := 0) rfl rfl ?_
  refine wq_i2l hC dX7_isRow_1 ?_
  refine wq_lconst hC (v := 0) dX7_isRow_2 (by decide) ?_
  refine wq_ldc2 hC (v := (7 : Int64)) tw_805 dX7_isRow_3 ?_
  obtain ⟨r1, hc2, h⟩ := wq_ob h
  refine wq_callS hC (ctX7_in (d := d - 1) (by omega)  hc2) (by omega) (by decide) rfl npX7_in tw_806 tw_807 tw_58 tw_808 (st := []) (Nat.le_of_ble_eq_true rfl) rfl dX7_isRow_6 (st1 := [.int (wq_b r1)]) rfl ?_
  have h := Option.some.inj h
  subst h
  exact wq_zret hC dX7_isRow_9 rfl K.1 K.2
theorem npX7_row : yX7_row.cls ≠ "java/lang/invoke/MethodHandle" ∧ yX7_row.cls ≠ "java/lang/invoke/VarHandle" ∧ (parseMethodDescriptor yX7_row.desc).map (fun d => d.parameters.length) = some 3 := by decide +kernel
def fX7_row_L65 (x1 : Int32) (x3 : Int32) : (Int32 × wq_M) → Option ((Int32 × wq_M) ⊕ wq_M) := fun s =>
  (if 40 ≤ s.1 then
    some (.inr s.2)
  else
    if wq_in ((40 * x1) + s.1) 320 then some (.inl ((s.1 + 1), (wq_st s.2 3 ((40 * x1) + s.1).toNatClampNeg 0))) else none)
set_option maxHeartbeats 4000000 in
set_option maxRecDepth 100000 in
theorem gX7_row_L65 {g : wq_G} {E : wq_E} {d : Nat} (hC : wq_C g E wq_yR cX7_row 5 "WellPipesModel" (some .int) d) (hd0 : 2 ≤ d) (x1 : Int32) (x3 : Int32)  : ∀ (n : Nat) (s : (Int32 × wq_M)) (e : wq_M), wq_lp (fX7_row_L65 x1 x3) n s = some e → (fun (e : wq_M) => wq_g g E wq_yR 5 91 [none, none, none, some (.int x3), none] [] e) e → wq_g g E wq_yR 5 65 [some (.ref (E.2.1 0)), some (.int x1), none, some (.int x3), some (.int s.1)] [] s.2 := by
  refine wq_lq_ok (fun (s : (Int32 × wq_M)) => wq_g g E wq_yR 5 65 [some (.ref (E.2.1 0)), some (.int x1), none, some (.int x3), some (.int s.1)] [] s.2) (fun (e : wq_M) => wq_g g E wq_yR 5 91 [none, none, none, some (.int x3), none] [] e) (fun s x h K => ?_)
  unfold fX7_row_L65 at h
  refine wq_iload hC dX7_row_65 rfl ?_
  refine wq_bipush hC (v := 40) dX7_row_67 (by decide) ?_
  refine wq_icmp_ge hC dX7_row_69 (tgt := 91) (by decide) (fun z11 => ?_) (fun z11 => ?_)
  · have h := wq_ip z11 h
    have h := Option.some.inj h
    subst h
    refine wq_mask [false, false, false, true, false] (lv' := [none, none, none, some (.int x3), none]) rfl ?_
    exact K
  · have h := wq_in_ z11 h
    refine wq_aload_n hC dX7_row_72 (i := 0) rfl rfl ?_
    refine gf_7 hC oR_0 4 (.ref (E.2.1 3)) (by decide) rfl tw_722 dX7_row_73 ?_
    refine wq_bipush hC (v := 40) dX7_row_76 (by decide) ?_
    refine wq_iload_n hC dX7_row_78 (i := 1) rfl rfl ?_
    refine wq_imul hC dX7_row_79 ?_
    refine wq_iload hC dX7_row_80 rfl ?_
    refine wq_iadd hC dX7_row_82 ?_
    refine wq_iconst hC (v := 0) dX7_row_83 (by decide) ?_
    obtain ⟨z12, h⟩ := wq_ii h
    refine wq_ast hC aR_3 z12 dX7_row_84 ?_
    refine wq_iinc hC (v := (s.1 + 1)) dX7_row_85 (lv' := [some (.ref (E.2.1 0)), some (.int x1), none, some (.int x3), some (.int (s.1 + 1))]) rfl rfl (by decide) rfl ?_
    refine wq_goto hC dX7_row_88 (tgt := 65) (by decide) ?_
    have h := Option.some.inj h
    subst h
    exact K
def fX7_row (x1 : Int32) (x2 : Int32) (x3 : Int32) (M : wq_M) : Option (Int32 × wq_M) :=
  (fX7_isRow x1 (wq_st M 0 0 0)).bind fun r1 => (if r1 = true then
    (fX7_in x2.toInt64 (0 : Int64) (2 : Int64) (wq_st M 0 0 0)).bind fun r4 => (if r4 = true then
      (if x3 ≤ 40 then
        (if 0 ≤ x3 then
          if wq_in x1 8 then if wq_in x1 8 then (wq_lp (fX7_row_L65 x1 x3) wq_FU (0, (wq_st (wq_st (wq_st (wq_st M 0 0 0) 0 1 0) 1 x1.toNatClampNeg x2) 2 x1.toNatClampNeg x3))).bind fun e13 => some (x3, e13) else none else none
        else
          (fX7_finding 4 (wq_st (wq_st M 0 0 0) 0 1 0)).bind fun r15 => some (r15.1, r15.2))
      else
        some ((-1000001), (wq_st M 0 0 0)))
    else
      some ((-1000001), (wq_st M 0 0 0)))
  else
    some ((-1000001), (wq_st M 0 0 0)))
set_option maxHeartbeats 4000000 in
set_option maxRecDepth 100000 in
theorem ctX7_row {l : Launch} {E : wq_E} {d : Nat} (hd0 : 2 ≤ d) {x1 : Int32} {x2 : Int32} {x3 : Int32} {M : wq_M} {r : (Int32 × wq_M)}  (h : fX7_row x1 x2 x3 M = some r) : wq_ct l E wq_yR yX7_row cX7_row 5 (some .int) d [.ref (E.2.1 0), .int x1, .int x2, .int x3] M (some (.int r.1)) r.2 := by
  refine wq_ent (own := "WellPipesModel") (lv0 := [some (.ref (E.2.1 0)), some (.int x1), some (.int x2), some (.int x3), none]) (by decide +kernel) rfl (Nat.le_of_ble_eq_true rfl) rfl (fun g h1 h2 hC => ?_)
  have K : wq_kI g r := ⟨h1, h2⟩
  unfold fX7_row at h
  refine wq_aload_n hC dX7_row_0 (i := 0) rfl rfl ?_
  refine wq_iconst hC (v := 0) dX7_row_1 (by decide) ?_
  refine pf_7_0 hC oR_0 tw_718 dX7_row_2 ?_
  refine wq_iload_n hC dX7_row_5 (i := 1) rfl rfl ?_
  obtain ⟨r1, hc2, h⟩ := wq_ob h
  refine wq_callS hC (ctX7_isRow (d := d - 1) (by omega)  hc2) (by omega) (by decide) rfl npX7_isRow tw_802 tw_803 tw_58 tw_804 (st := []) (Nat.le_of_ble_eq_true rfl) rfl dX7_row_6 (st1 := [.int (wq_b r1)]) rfl ?_
  refine wq_bif_eq hC dX7_row_9 (tgt := 30) (by decide) (fun z3 => ?_) (fun z3 => ?_)
  · have h := wq_in_ z3 h
    refine wq_ldc hC (v := (-1000001)) tw_810 dX7_row_30 ?_
    have h := Option.some.inj h
    subst h
    exact wq_iret hC dX7_row_32 K.1 K.2
  · have h := wq_ip z3 h
    refine wq_iload_n hC dX7_row_12 (i := 2) rfl rfl ?_
    refine wq_i2l hC dX7_row_13 ?_
    refine wq_lconst hC (v := 0) dX7_row_14 (by decide) ?_
    refine wq_ldc2 hC (v := (2 : Int64)) tw_809 dX7_row_15 ?_
    obtain ⟨r4, hc5, h⟩ := wq_ob h
    refine wq_callS hC (ctX7_in (d := d - 1) (by omega)  hc5) (by omega) (by decide) rfl npX7_in tw_806 tw_807 tw_58 tw_808 (st := []) (Nat.le_of_ble_eq_true rfl) rfl dX7_row_18 (st1 := [.int (wq_b r4)]) rfl ?_
    refine wq_bif_eq hC dX7_row_21 (tgt := 30) (by decide) (fun z6 => ?_) (fun z6 => ?_)
    · have h := wq_in_ z6 h
      refine wq_ldc hC (v := (-1000001)) tw_810 dX7_row_30 ?_
      have h := Option.some.inj h
      subst h
      exact wq_iret hC dX7_row_32 K.1 K.2
    · have h := wq_ip z6 h
      refine wq_iload_n hC dX7_row_24 (i := 3) rfl rfl ?_
      refine wq_bipush hC (v := 40) dX7_row_25 (by decide) ?_
      refine wq_icmp_le hC dX7_row_27 (tgt := 33) (by decide) (fun z7 => ?_) (fun z7 => ?_)
      · have h := wq_ip z7 h
        refine wq_aload_n hC dX7_row_33 (i := 0) rfl rfl ?_
        refine wq_iconst hC (v := 0) dX7_row_34 (by decide) ?_
        refine pf_7_1 hC oR_0 tw_719 dX7_row_35 ?_
        refine wq_iload_n hC dX7_row_38 (i := 3) rfl rfl ?_
        refine wq_if_ge hC dX7_row_39 (tgt := 48) (by decide) (fun z8 => ?_) (fun z8 => ?_)
        · have h := wq_ip z8 h
          refine wq_aload_n hC dX7_row_48 (i := 0) rfl rfl ?_
          refine gf_7 hC oR_0 2 (.ref (E.2.1 1)) (by decide) rfl tw_720 dX7_row_49 ?_
          refine wq_iload_n hC dX7_row_52 (i := 1) rfl rfl ?_
          refine wq_iload_n hC dX7_row_53 (i := 2) rfl rfl ?_
          obtain ⟨z9, h⟩ := wq_ii h
          refine wq_ast hC aR_1 z9 dX7_row_54 ?_
          refine wq_aload_n hC dX7_row_55 (i := 0) rfl rfl ?_
          refine gf_7 hC oR_0 3 (.ref (E.2.1 2)) (by decide) rfl tw_721 dX7_row_56 ?_
          refine wq_iload_n hC dX7_row_59 (i := 1) rfl rfl ?_
          refine wq_iload_n hC dX7_row_60 (i := 3) rfl rfl ?_
          obtain ⟨z10, h⟩ := wq_ii h
          refine wq_ast hC aR_2 z10 dX7_row_61 ?_
          refine wq_iconst hC (v := 0) dX7_row_62 (by decide) ?_
          refine wq_istore hC dX7_row_63 (lv' := [some (.ref (E.2.1 0)), some (.int x1), some (.int x2), some (.int x3), some (.int 0)]) (by decide) rfl ?_
          obtain ⟨e13, hl14, h⟩ := wq_ob h
          refine wq_mask [true, true, false, true, true] (lv' := [some (.ref (E.2.1 0)), some (.int x1), none, some (.int x3), some (.int 0)]) rfl ?_
          refine gX7_row_L65 hC hd0 x1 x3  wq_FU _ _ hl14 ?_
          refine wq_iload_n hC dX7_row_91 (i := 3) rfl rfl ?_
          have h := Option.some.inj h
          subst h
          exact wq_iret hC dX7_row_92 K.1 K.2
        · have h := wq_in_ z8 h
          refine wq_aload_n hC dX7_row_42 (i := 0) rfl rfl ?_
          refine wq_iconst hC (v := 4) dX7_row_43 (by decide) ?_
          obtain ⟨r15, hc16, h⟩ := wq_ob h
          refine cv_7 hC (ctX7_finding (d := d - 1) (by omega)  hc16) (by omega) (by decide) oR_0 rfl rfl npX7_finding tw_811 tw_813 tw_22 tw_814 (st := []) (Nat.le_of_ble_eq_true rfl) rfl dX7_row_44 (st1 := [.int r15.1]) rfl ?_
          have h := Option.some.inj h
          subst h
          exact wq_iret hC dX7_row_47 K.1 K.2
      · have h := wq_in_ z7 h
        refine wq_ldc hC (v := (-1000001)) tw_810 dX7_row_30 ?_
        have h := Option.some.inj h
        subst h
        exact wq_iret hC dX7_row_32 K.1 K.2
theorem npX7_set : yX7_set.cls ≠ "java/lang/invoke/MethodHandle" ∧ yX7_set.cls ≠ "java/lang/invoke/VarHandle" ∧ (parseMethodDescriptor yX7_set.desc).map (fun d => d.parameters.length) = some 3 := by decide +kernel
def fX7_set_J99 (x1 : Int32) (x2 : Int32) (y0 : Int32) (y1 : Int32) (M : wq_M) : Option (Int32 × wq_M) :=
  if wq_in y1 320 then if wq_in ((40 * x1) + x2) 320 then some (((wq_st M 3 y1.toNatClampNeg y0).1 3 ((40 * x1) + x2).toNatClampNeg), (wq_st M 3 y1.toNatClampNeg y0)) else none else none
set_option maxHeartbeats 4000000 in
set_option maxRecDepth 100000 in
theorem gX7_set_J99 {g : wq_G} {E : wq_E} {d : Nat} (hC : wq_C g E wq_yR cX7_set 4 "WellPipesModel" (some .int) d) (hd0 : 2 ≤ d) (x1 : Int32) (x2 : Int32) (y0 : Int32) (y1 : Int32) (M : wq_M)  {x : (Int32 × wq_M)} (h : fX7_set_J99 x1 x2 y0 y1 M = some x) (K : (wq_kI g) x) : wq_g g E wq_yR 4 99 [some (.ref (E.2.1 0)), some (.int x1), some (.int x2), none] [.int y0, .int y1, .ref (E.2.1 3)] M := by
  unfold fX7_set_J99 at h
  obtain ⟨z14, h⟩ := wq_ii h
  refine wq_ast hC aR_3 z14 dX7_set_99 ?_
  refine wq_aload_n hC dX7_set_100 (i := 0) rfl rfl ?_
  refine gf_7 hC oR_0 4 (.ref (E.2.1 3)) (by decide) rfl tw_722 dX7_set_101 ?_
  refine wq_bipush hC (v := 40) dX7_set_104 (by decide) ?_
  refine wq_iload_n hC dX7_set_106 (i := 1) rfl rfl ?_
  refine wq_imul hC dX7_set_107 ?_
  refine wq_iload_n hC dX7_set_108 (i := 2) rfl rfl ?_
  refine wq_iadd hC dX7_set_109 ?_
  obtain ⟨z15, h⟩ := wq_ii h
  refine wq_ald hC aR_3 z15 dX7_set_110 ?_
  have h := Option.some.inj h
  subst h
  exact wq_iret hC dX7_set_111 K.1 K.2
def fX7_set (x1 : Int32) (x2 : Int32) (x3 : Int32) (M : wq_M) : Option (Int32 × wq_M) :=
  (fX7_isRow x1 (wq_st M 0 0 0)).bind fun r1 => (if r1 = true then
    if wq_in x1 8 then (if 0 ≤ ((wq_st (wq_st M 0 0 0) 0 1 0).1 1 x1.toNatClampNeg) then
      if wq_in x1 8 then (fX7_in x2.toInt64 (0 : Int64) ((((wq_st (wq_st M 0 0 0) 0 1 0).1 2 x1.toNatClampNeg) - 1).toInt64) (wq_st (wq_st M 0 0 0) 0 1 0)).bind fun r7 => (if r7 = true then
        if wq_in x1 8 then (if ((wq_st (wq_st M 0 0 0) 0 1 0).1 1 x1.toNatClampNeg) = 0 then
          fX7_set_J99 x1 x2 x3.toInt8.toInt32 ((40 * x1) + x2) (wq_st (wq_st M 0 0 0) 0 1 0)
        else
          if wq_in x1 8 then (if ((wq_st (wq_st M 0 0 0) 0 1 0).1 1 x1.toNatClampNeg) = 1 then
            fX7_set_J99 x1 x2 x3.toInt16.toInt32 ((40 * x1) + x2) (wq_st (wq_st M 0 0 0) 0 1 0)
          else
            fX7_set_J99 x1 x2 x3 ((40 * x1) + x2) (wq_st (wq_st M 0 0 0) 0 1 0)) else none) else none
      else
        (fX7_finding 2 (wq_st (wq_st M 0 0 0) 0 1 0)).bind fun r16 => some (r16.1, r16.2)) else none
    else
      (fX7_finding 1 (wq_st (wq_st M 0 0 0) 0 1 0)).bind fun r18 => some (r18.1, r18.2)) else none
  else
    some ((-1000001), (wq_st M 0 0 0)))
set_option maxHeartbeats 4000000 in
set_option maxRecDepth 100000 in
theorem ctX7_set {l : Launch} {E : wq_E} {d : Nat} (hd0 : 2 ≤ d) {x1 : Int32} {x2 : Int32} {x3 : Int32} {M : wq_M} {r : (Int32 × wq_M)}  (h : fX7_set x1 x2 x3 M = some r) : wq_ct l E wq_yR yX7_set cX7_set 4 (some .int) d [.ref (E.2.1 0), .int x1, .int x2, .int x3] M (some (.int r.1)) r.2 := by
  refine wq_ent (own := "WellPipesModel") (lv0 := [some (.ref (E.2.1 0)), some (.int x1), some (.int x2), some (.int x3)]) (by decide +kernel) rfl (Nat.le_of_ble_eq_true rfl) rfl (fun g h1 h2 hC => ?_)
  have K : wq_kI g r := ⟨h1, h2⟩
  unfold fX7_set at h
  refine wq_aload_n hC dX7_set_0 (i := 0) rfl rfl ?_
  refine wq_iconst hC (v := 0) dX7_set_1 (by decide) ?_
  refine pf_7_0 hC oR_0 tw_718 dX7_set_2 ?_
  refine wq_iload_n hC dX7_set_5 (i := 1) rfl rfl ?_
  obtain ⟨r1, hc2, h⟩ := wq_ob h
  refine wq_callS hC (ctX7_isRow (d := d - 1) (by omega)  hc2) (by omega) (by decide) rfl npX7_isRow tw_802 tw_803 tw_58 tw_804 (st := []) (Nat.le_of_ble_eq_true rfl) rfl dX7_set_6 (st1 := [.int (wq_b r1)]) rfl ?_
  refine wq_bif_ne hC dX7_set_9 (tgt := 15) (by decide) (fun z3 => ?_) (fun z3 => ?_)
  · have h := wq_ip z3 h
    refine wq_aload_n hC dX7_set_15 (i := 0) rfl rfl ?_
    refine wq_iconst hC (v := 0) dX7_set_16 (by decide) ?_
    refine pf_7_1 hC oR_0 tw_719 dX7_set_17 ?_
    refine wq_aload_n hC dX7_set_20 (i := 0) rfl rfl ?_
    refine gf_7 hC oR_0 2 (.ref (E.2.1 1)) (by decide) rfl tw_720 dX7_set_21 ?_
    refine wq_iload_n hC dX7_set_24 (i := 1) rfl rfl ?_
    obtain ⟨z4, h⟩ := wq_ii h
    refine wq_ald hC aR_1 z4 dX7_set_25 ?_
    refine wq_if_ge hC dX7_set_26 (tgt := 35) (by decide) (fun z5 => ?_) (fun z5 => ?_)
    · have h := wq_ip z5 h
      refine wq_iload_n hC dX7_set_35 (i := 2) rfl rfl ?_
      refine wq_i2l hC dX7_set_36 ?_
      refine wq_lconst hC (v := 0) dX7_set_37 (by decide) ?_
      refine wq_aload_n hC dX7_set_38 (i := 0) rfl rfl ?_
      refine gf_7 hC oR_0 3 (.ref (E.2.1 2)) (by decide) rfl tw_721 dX7_set_39 ?_
      refine wq_iload_n hC dX7_set_42 (i := 1) rfl rfl ?_
      obtain ⟨z6, h⟩ := wq_ii h
      refine wq_ald hC aR_2 z6 dX7_set_43 ?_
      refine wq_iconst hC (v := 1) dX7_set_44 (by decide) ?_
      refine wq_isub hC dX7_set_45 ?_
      refine wq_i2l hC dX7_set_46 ?_
      obtain ⟨r7, hc8, h⟩ := wq_ob h
      refine wq_callS hC (ctX7_in (d := d - 1) (by omega)  hc8) (by omega) (by decide) rfl npX7_in tw_806 tw_807 tw_58 tw_808 (st := []) (Nat.le_of_ble_eq_true rfl) rfl dX7_set_47 (st1 := [.int (wq_b r7)]) rfl ?_
      refine wq_bif_ne hC dX7_set_50 (tgt := 59) (by decide) (fun z9 => ?_) (fun z9 => ?_)
      · have h := wq_ip z9 h
        refine wq_aload_n hC dX7_set_59 (i := 0) rfl rfl ?_
        refine gf_7 hC oR_0 4 (.ref (E.2.1 3)) (by decide) rfl tw_722 dX7_set_60 ?_
        refine wq_bipush hC (v := 40) dX7_set_63 (by decide) ?_
        refine wq_iload_n hC dX7_set_65 (i := 1) rfl rfl ?_
        refine wq_imul hC dX7_set_66 ?_
        refine wq_iload_n hC dX7_set_67 (i := 2) rfl rfl ?_
        refine wq_iadd hC dX7_set_68 ?_
        refine wq_aload_n hC dX7_set_69 (i := 0) rfl rfl ?_
        refine gf_7 hC oR_0 2 (.ref (E.2.1 1)) (by decide) rfl tw_720 dX7_set_70 ?_
        refine wq_iload_n hC dX7_set_73 (i := 1) rfl rfl ?_
        obtain ⟨z10, h⟩ := wq_ii h
        refine wq_ald hC aR_1 z10 dX7_set_74 ?_
        refine wq_if_ne hC dX7_set_75 (tgt := 83) (by decide) (fun z11 => ?_) (fun z11 => ?_)
        · have h := wq_in_ z11 h
          refine wq_aload_n hC dX7_set_83 (i := 0) rfl rfl ?_
          refine gf_7 hC oR_0 2 (.ref (E.2.1 1)) (by decide) rfl tw_720 dX7_set_84 ?_
          refine wq_iload_n hC dX7_set_87 (i := 1) rfl rfl ?_
          obtain ⟨z12, h⟩ := wq_ii h
          refine wq_ald hC aR_1 z12 dX7_set_88 ?_
          refine wq_iconst hC (v := 1) dX7_set_89 (by decide) ?_
          refine wq_icmp_ne hC dX7_set_90 (tgt := 98) (by decide) (fun z13 => ?_) (fun z13 => ?_)
          · have h := wq_in_ z13 h
            refine wq_iload_n hC dX7_set_98 (i := 3) rfl rfl ?_
            refine wq_mask [true, true, true, false] (lv' := [some (.ref (E.2.1 0)), some (.int x1), some (.int x2), none]) rfl ?_
            exact gX7_set_J99 hC hd0 x1 x2 x3 ((40 * x1) + x2) (wq_st (wq_st M 0 0 0) 0 1 0)  h K
          · have h := wq_ip z13 h
            refine wq_iload_n hC dX7_set_93 (i := 3) rfl rfl ?_
            refine wq_i2s hC dX7_set_94 ?_
            refine wq_goto hC dX7_set_95 (tgt := 99) (by decide) ?_
            refine wq_mask [true, true, true, false] (lv' := [some (.ref (E.2.1 0)), some (.int x1), some (.int x2), none]) rfl ?_
            exact gX7_set_J99 hC hd0 x1 x2 x3.toInt16.toInt32 ((40 * x1) + x2) (wq_st (wq_st M 0 0 0) 0 1 0)  h K
        · have h := wq_ip z11 h
          refine wq_iload_n hC dX7_set_78 (i := 3) rfl rfl ?_
          refine wq_i2b hC dX7_set_79 ?_
          refine wq_goto hC dX7_set_80 (tgt := 99) (by decide) ?_
          refine wq_mask [true, true, true, false] (lv' := [some (.ref (E.2.1 0)), some (.int x1), some (.int x2), none]) rfl ?_
          exact gX7_set_J99 hC hd0 x1 x2 x3.toInt8.toInt32 ((40 * x1) + x2) (wq_st (wq_st M 0 0 0) 0 1 0)  h K
      · have h := wq_in_ z9 h
        refine wq_aload_n hC dX7_set_53 (i := 0) rfl rfl ?_
        refine wq_iconst hC (v := 2) dX7_set_54 (by decide) ?_
        obtain ⟨r16, hc17, h⟩ := wq_ob h
        refine cv_7 hC (ctX7_finding (d := d - 1) (by omega)  hc17) (by omega) (by decide) oR_0 rfl rfl npX7_finding tw_811 tw_813 tw_22 tw_814 (st := []) (Nat.le_of_ble_eq_true rfl) rfl dX7_set_55 (st1 := [.int r16.1]) rfl ?_
        have h := Option.some.inj h
        subst h
        exact wq_iret hC dX7_set_58 K.1 K.2
    · have h := wq_in_ z5 h
      refine wq_aload_n hC dX7_set_29 (i := 0) rfl rfl ?_
      refine wq_iconst hC (v := 1) dX7_set_30 (by decide) ?_
      obtain ⟨r18, hc19, h⟩ := wq_ob h
      refine cv_7 hC (ctX7_finding (d := d - 1) (by omega)  hc19) (by omega) (by decide) oR_0 rfl rfl npX7_finding tw_811 tw_813 tw_22 tw_814 (st := []) (Nat.le_of_ble_eq_true rfl) rfl dX7_set_31 (st1 := [.int r18.1]) rfl ?_
      have h := Option.some.inj h
      subst h
      exact wq_iret hC dX7_set_34 K.1 K.2
  · have h := wq_in_ z3 h
    refine wq_ldc hC (v := (-1000001)) tw_810 dX7_set_12 ?_
    have h := Option.some.inj h
    subst h
    exact wq_iret hC dX7_set_14 K.1 K.2
theorem npX7_copy : yX7_copy.cls ≠ "java/lang/invoke/MethodHandle" ∧ yX7_copy.cls ≠ "java/lang/invoke/VarHandle" ∧ (parseMethodDescriptor yX7_copy.desc).map (fun d => d.parameters.length) = some 5 := by decide +kernel
def fX7_copy_L143_J167 (x1 : Int32) (x2 : Int32) (x3 : Int32) (x4 : Int32) (x5 : Int32) (x6 : Int32) (x7 : Int32) (y0 : Int32) (M : wq_M) : Option ((Int32 × wq_M) ⊕ wq_M) :=
  if wq_in (((40 * x1) + x2) + y0) 320 then if wq_in (((40 * x3) + x4) + y0) 320 then some (.inl ((x7 + 1), (wq_st M 3 (((40 * x3) + x4) + y0).toNatClampNeg (M.1 3 (((40 * x1) + x2) + y0).toNatClampNeg)))) else none else none
set_option maxHeartbeats 4000000 in
set_option maxRecDepth 100000 in
theorem gX7_copy_L143_J167 {g : wq_G} {E : wq_E} {d : Nat} (hC : wq_C g E wq_yR cX7_copy 9 "WellPipesModel" (some .int) d) (hd0 : 2 ≤ d) (x1 : Int32) (x2 : Int32) (x3 : Int32) (x4 : Int32) (x5 : Int32) (x6 : Int32) (x7 : Int32) (y0 : Int32) (M : wq_M)  {x : ((Int32 × wq_M) ⊕ wq_M)} (h : fX7_copy_L143_J167 x1 x2 x3 x4 x5 x6 x7 y0 M = some x) (K : (Sum.elim (fun (s : (Int32 × wq_M)) => wq_g g E wq_yR 9 143 [some (.ref (E.2.1 0)), some (.int x1), some (.int x2), some (.int x3), some (.int x4), some (.int x5), some (.int x6), some (.int s.1), none] [] s.2) (fun (e : wq_M) => wq_g g E wq_yR 9 204 [none, none, none, none, none, some (.int x5), none, none, none] [] e)) x) : wq_g g E wq_yR 9 167 [some (.ref (E.2.1 0)), some (.int x1), some (.int x2), some (.int x3), some (.int x4), some (.int x5), some (.int x6), some (.int x7), none] [.int y0] M := by
  unfold fX7_copy_L143_J167 at h
  refine wq_istore hC dX7_copy_167 (lv' := [some (.ref (E.2.1 0)), some (.int x1), some (.int x2), some (.int x3), some (.int x4), some (.int x5), some (.int x6), some (.int x7), some (.int y0)]) (by decide) rfl ?_
  refine wq_aload_n hC dX7_copy_169 (i := 0) rfl rfl ?_
  refine gf_7 hC oR_0 4 (.ref (E.2.1 3)) (by decide) rfl tw_722 dX7_copy_170 ?_
  refine wq_bipush hC (v := 40) dX7_copy_173 (by decide) ?_
  refine wq_iload_n hC dX7_copy_175 (i := 3) rfl rfl ?_
  refine wq_imul hC dX7_copy_176 ?_
  refine wq_iload hC dX7_copy_177 rfl ?_
  refine wq_iadd hC dX7_copy_179 ?_
  refine wq_iload hC dX7_copy_180 rfl ?_
  refine wq_iadd hC dX7_copy_182 ?_
  refine wq_aload_n hC dX7_copy_183 (i := 0) rfl rfl ?_
  refine gf_7 hC oR_0 4 (.ref (E.2.1 3)) (by decide) rfl tw_722 dX7_copy_184 ?_
  refine wq_bipush hC (v := 40) dX7_copy_187 (by decide) ?_
  refine wq_iload_n hC dX7_copy_189 (i := 1) rfl rfl ?_
  refine wq_imul hC dX7_copy_190 ?_
  refine wq_iload_n hC dX7_copy_191 (i := 2) rfl rfl ?_
  refine wq_iadd hC dX7_copy_192 ?_
  refine wq_iload hC dX7_copy_193 rfl ?_
  refine wq_iadd hC dX7_copy_195 ?_
  obtain ⟨z34, h⟩ := wq_ii h
  refine wq_ald hC aR_3 z34 dX7_copy_196 ?_
  obtain ⟨z35, h⟩ := wq_ii h
  refine wq_ast hC aR_3 z35 dX7_copy_197 ?_
  refine wq_iinc hC (v := (x7 + 1)) dX7_copy_198 (lv' := [some (.ref (E.2.1 0)), some (.int x1), some (.int x2), some (.int x3), some (.int x4), some (.int x5), some (.int x6), some (.int (x7 + 1)), some (.int y0)]) rfl rfl (by decide) rfl ?_
  refine wq_goto hC dX7_copy_201 (tgt := 143) (by decide) ?_
  have h := Option.some.inj h
  subst h
  refine wq_mask [true, true, true, true, true, true, true, true, false] (lv' := [some (.ref (E.2.1 0)), some (.int x1), some (.int x2), some (.int x3), some (.int x4), some (.int x5), some (.int x6), some (.int (x7 + 1)), none]) rfl ?_
  exact K
def fX7_copy_L143 (x1 : Int32) (x2 : Int32) (x3 : Int32) (x4 : Int32) (x5 : Int32) (x6 : Int32) : (Int32 × wq_M) → Option ((Int32 × wq_M) ⊕ wq_M) := fun s =>
  (if x5 ≤ s.1 then
    some (.inr s.2)
  else
    (if x6 = 0 then
      fX7_copy_L143_J167 x1 x2 x3 x4 x5 x6 s.1 ((x5 - 1) - s.1) s.2
    else
      fX7_copy_L143_J167 x1 x2 x3 x4 x5 x6 s.1 s.1 s.2))
set_option maxHeartbeats 4000000 in
set_option maxRecDepth 100000 in
theorem gX7_copy_L143 {g : wq_G} {E : wq_E} {d : Nat} (hC : wq_C g E wq_yR cX7_copy 9 "WellPipesModel" (some .int) d) (hd0 : 2 ≤ d) (x1 : Int32) (x2 : Int32) (x3 : Int32) (x4 : Int32) (x5 : Int32) (x6 : Int32)  : ∀ (n : Nat) (s : (Int32 × wq_M)) (e : wq_M), wq_lp (fX7_copy_L143 x1 x2 x3 x4 x5 x6) n s = some e → (fun (e : wq_M) => wq_g g E wq_yR 9 204 [none, none, none, none, none, some (.int x5), none, none, none] [] e) e → wq_g g E wq_yR 9 143 [some (.ref (E.2.1 0)), some (.int x1), some (.int x2), some (.int x3), some (.int x4), some (.int x5), some (.int x6), some (.int s.1), none] [] s.2 := by
  refine wq_lq_ok (fun (s : (Int32 × wq_M)) => wq_g g E wq_yR 9 143 [some (.ref (E.2.1 0)), some (.int x1), some (.int x2), some (.int x3), some (.int x4), some (.int x5), some (.int x6), some (.int s.1), none] [] s.2) (fun (e : wq_M) => wq_g g E wq_yR 9 204 [none, none, none, none, none, some (.int x5), none, none, none] [] e) (fun s x h K => ?_)
  unfold fX7_copy_L143 at h
  refine wq_iload hC dX7_copy_143 rfl ?_
  refine wq_iload hC dX7_copy_145 rfl ?_
  refine wq_icmp_ge hC dX7_copy_147 (tgt := 204) (by decide) (fun z32 => ?_) (fun z32 => ?_)
  · have h := wq_ip z32 h
    have h := Option.some.inj h
    subst h
    refine wq_mask [false, false, false, false, false, true, false, false, false] (lv' := [none, none, none, none, none, some (.int x5), none, none, none]) rfl ?_
    exact K
  · have h := wq_in_ z32 h
    refine wq_iload hC dX7_copy_150 rfl ?_
    refine wq_if_eq hC dX7_copy_152 (tgt := 160) (by decide) (fun z33 => ?_) (fun z33 => ?_)
    · have h := wq_ip z33 h
      refine wq_iload hC dX7_copy_160 rfl ?_
      refine wq_iconst hC (v := 1) dX7_copy_162 (by decide) ?_
      refine wq_isub hC dX7_copy_163 ?_
      refine wq_iload hC dX7_copy_164 rfl ?_
      refine wq_isub hC dX7_copy_166 ?_
      exact gX7_copy_L143_J167 hC hd0 x1 x2 x3 x4 x5 x6 s.1 ((x5 - 1) - s.1) s.2  h K
    · have h := wq_in_ z33 h
      refine wq_iload hC dX7_copy_155 rfl ?_
      refine wq_goto hC dX7_copy_157 (tgt := 167) (by decide) ?_
      exact gX7_copy_L143_J167 hC hd0 x1 x2 x3 x4 x5 x6 s.1 s.1 s.2  h K
def fX7_copy_J138 (x1 : Int32) (x2 : Int32) (x3 : Int32) (x4 : Int32) (x5 : Int32) (y0 : Int32) (M : wq_M) : Option (Int32 × wq_M) :=
  (wq_lp (fX7_copy_L143 x1 x2 x3 x4 x5 y0) wq_FU (0, M)).bind fun e36 => some (x5, e36)
set_option maxHeartbeats 4000000 in
set_option maxRecDepth 100000 in
theorem gX7_copy_J138 {g : wq_G} {E : wq_E} {d : Nat} (hC : wq_C g E wq_yR cX7_copy 9 "WellPipesModel" (some .int) d) (hd0 : 2 ≤ d) (x1 : Int32) (x2 : Int32) (x3 : Int32) (x4 : Int32) (x5 : Int32) (y0 : Int32) (M : wq_M)  {x : (Int32 × wq_M)} (h : fX7_copy_J138 x1 x2 x3 x4 x5 y0 M = some x) (K : (wq_kI g) x) : wq_g g E wq_yR 9 138 [some (.ref (E.2.1 0)), some (.int x1), some (.int x2), some (.int x3), some (.int x4), some (.int x5), none, none, none] [.int y0] M := by
  unfold fX7_copy_J138 at h
  refine wq_istore hC dX7_copy_138 (lv' := [some (.ref (E.2.1 0)), some (.int x1), some (.int x2), some (.int x3), some (.int x4), some (.int x5), some (.int y0), none, none]) (by decide) rfl ?_
  refine wq_iconst hC (v := 0) dX7_copy_140 (by decide) ?_
  refine wq_istore hC dX7_copy_141 (lv' := [some (.ref (E.2.1 0)), some (.int x1), some (.int x2), some (.int x3), some (.int x4), some (.int x5), some (.int y0), some (.int 0), none]) (by decide) rfl ?_
  obtain ⟨e36, hl37, h⟩ := wq_ob h
  refine gX7_copy_L143 hC hd0 x1 x2 x3 x4 x5 y0  wq_FU _ _ hl37 ?_
  refine wq_iload hC dX7_copy_204 rfl ?_
  have h := Option.some.inj h
  subst h
  exact wq_iret hC dX7_copy_206 K.1 K.2
def fX7_copy (x1 : Int32) (x2 : Int32) (x3 : Int32) (x4 : Int32) (x5 : Int32) (M : wq_M) : Option (Int32 × wq_M) :=
  (fX7_isRow x1 (wq_st M 0 0 0)).bind fun r1 => (if r1 = true then
    (fX7_isRow x3 (wq_st M 0 0 0)).bind fun r4 => (if r4 = true then
      if wq_in x1 8 then (if ((wq_st (wq_st M 0 0 0) 0 1 0).1 1 x1.toNatClampNeg) < 0 then
        (fX7_finding 1 (wq_st (wq_st M 0 0 0) 0 1 0)).bind fun r9 => some (r9.1, r9.2)
      else
        if wq_in x3 8 then (if 0 ≤ ((wq_st (wq_st M 0 0 0) 0 1 0).1 1 x3.toNatClampNeg) then
          if wq_in x1 8 then if wq_in x3 8 then (if ((wq_st (wq_st M 0 0 0) 0 1 0).1 1 x1.toNatClampNeg) = ((wq_st (wq_st M 0 0 0) 0 1 0).1 1 x3.toNatClampNeg) then
            (if x2 < 0 then
              (fX7_finding 2 (wq_st (wq_st M 0 0 0) 0 1 0)).bind fun r17 => some (r17.1, r17.2)
            else
              (if x4 < 0 then
                (fX7_finding 2 (wq_st (wq_st M 0 0 0) 0 1 0)).bind fun r20 => some (r20.1, r20.2)
              else
                (if x5 < 0 then
                  (fX7_finding 2 (wq_st (wq_st M 0 0 0) 0 1 0)).bind fun r23 => some (r23.1, r23.2)
                else
                  if wq_in x1 8 then (if 0 < (lg_cmp (x2.toInt64 + x5.toInt64) (((wq_st (wq_st M 0 0 0) 0 1 0).1 2 x1.toNatClampNeg).toInt64)) then
                    (fX7_finding 2 (wq_st (wq_st M 0 0 0) 0 1 0)).bind fun r27 => some (r27.1, r27.2)
                  else
                    if wq_in x3 8 then (if (lg_cmp (x4.toInt64 + x5.toInt64) (((wq_st (wq_st M 0 0 0) 0 1 0).1 2 x3.toNatClampNeg).toInt64)) ≤ 0 then
                      (if x2 < x4 then
                        fX7_copy_J138 x1 x2 x3 x4 x5 0 (wq_st (wq_st M 0 0 0) 0 1 0)
                      else
                        fX7_copy_J138 x1 x2 x3 x4 x5 1 (wq_st (wq_st M 0 0 0) 0 1 0))
                    else
                      (fX7_finding 2 (wq_st (wq_st M 0 0 0) 0 1 0)).bind fun r38 => some (r38.1, r38.2)) else none) else none)))
          else
            (fX7_finding 5 (wq_st (wq_st M 0 0 0) 0 1 0)).bind fun r40 => some (r40.1, r40.2)) else none else none
        else
          (fX7_finding 1 (wq_st (wq_st M 0 0 0) 0 1 0)).bind fun r42 => some (r42.1, r42.2)) else none) else none
    else
      some ((-1000001), (wq_st M 0 0 0)))
  else
    some ((-1000001), (wq_st M 0 0 0)))
set_option maxHeartbeats 4000000 in
set_option maxRecDepth 100000 in
theorem ctX7_copy {l : Launch} {E : wq_E} {d : Nat} (hd0 : 2 ≤ d) {x1 : Int32} {x2 : Int32} {x3 : Int32} {x4 : Int32} {x5 : Int32} {M : wq_M} {r : (Int32 × wq_M)}  (h : fX7_copy x1 x2 x3 x4 x5 M = some r) : wq_ct l E wq_yR yX7_copy cX7_copy 9 (some .int) d [.ref (E.2.1 0), .int x1, .int x2, .int x3, .int x4, .int x5] M (some (.int r.1)) r.2 := by
  refine wq_ent (own := "WellPipesModel") (lv0 := [some (.ref (E.2.1 0)), some (.int x1), some (.int x2), some (.int x3), some (.int x4), some (.int x5), none, none, none]) (by decide +kernel) rfl (Nat.le_of_ble_eq_true rfl) rfl (fun g h1 h2 hC => ?_)
  have K : wq_kI g r := ⟨h1, h2⟩
  unfold fX7_copy at h
  refine wq_aload_n hC dX7_copy_0 (i := 0) rfl rfl ?_
  refine wq_iconst hC (v := 0) dX7_copy_1 (by decide) ?_
  refine pf_7_0 hC oR_0 tw_718 dX7_copy_2 ?_
  refine wq_iload_n hC dX7_copy_5 (i := 1) rfl rfl ?_
  obtain ⟨r1, hc2, h⟩ := wq_ob h
  refine wq_callS hC (ctX7_isRow (d := d - 1) (by omega)  hc2) (by omega) (by decide) rfl npX7_isRow tw_802 tw_803 tw_58 tw_804 (st := []) (Nat.le_of_ble_eq_true rfl) rfl dX7_copy_6 (st1 := [.int (wq_b r1)]) rfl ?_
  refine wq_bif_eq hC dX7_copy_9 (tgt := 19) (by decide) (fun z3 => ?_) (fun z3 => ?_)
  · have h := wq_in_ z3 h
    refine wq_ldc hC (v := (-1000001)) tw_810 dX7_copy_19 ?_
    have h := Option.some.inj h
    subst h
    exact wq_iret hC dX7_copy_21 K.1 K.2
  · have h := wq_ip z3 h
    refine wq_iload_n hC dX7_copy_12 (i := 3) rfl rfl ?_
    obtain ⟨r4, hc5, h⟩ := wq_ob h
    refine wq_callS hC (ctX7_isRow (d := d - 1) (by omega)  hc5) (by omega) (by decide) rfl npX7_isRow tw_802 tw_803 tw_58 tw_804 (st := []) (Nat.le_of_ble_eq_true rfl) rfl dX7_copy_13 (st1 := [.int (wq_b r4)]) rfl ?_
    refine wq_bif_ne hC dX7_copy_16 (tgt := 22) (by decide) (fun z6 => ?_) (fun z6 => ?_)
    · have h := wq_ip z6 h
      refine wq_aload_n hC dX7_copy_22 (i := 0) rfl rfl ?_
      refine wq_iconst hC (v := 0) dX7_copy_23 (by decide) ?_
      refine pf_7_1 hC oR_0 tw_719 dX7_copy_24 ?_
      refine wq_aload_n hC dX7_copy_27 (i := 0) rfl rfl ?_
      refine gf_7 hC oR_0 2 (.ref (E.2.1 1)) (by decide) rfl tw_720 dX7_copy_28 ?_
      refine wq_iload_n hC dX7_copy_31 (i := 1) rfl rfl ?_
      obtain ⟨z7, h⟩ := wq_ii h
      refine wq_ald hC aR_1 z7 dX7_copy_32 ?_
      refine wq_if_lt hC dX7_copy_33 (tgt := 45) (by decide) (fun z8 => ?_) (fun z8 => ?_)
      · have h := wq_ip z8 h
        refine wq_aload_n hC dX7_copy_45 (i := 0) rfl rfl ?_
        refine wq_iconst hC (v := 1) dX7_copy_46 (by decide) ?_
        obtain ⟨r9, hc10, h⟩ := wq_ob h
        refine cv_7 hC (ctX7_finding (d := d - 1) (by omega)  hc10) (by omega) (by decide) oR_0 rfl rfl npX7_finding tw_811 tw_813 tw_22 tw_814 (st := []) (Nat.le_of_ble_eq_true rfl) rfl dX7_copy_47 (st1 := [.int r9.1]) rfl ?_
        have h := Option.some.inj h
        subst h
        exact wq_iret hC dX7_copy_50 K.1 K.2
      · have h := wq_in_ z8 h
        refine wq_aload_n hC dX7_copy_36 (i := 0) rfl rfl ?_
        refine gf_7 hC oR_0 2 (.ref (E.2.1 1)) (by decide) rfl tw_720 dX7_copy_37 ?_
        refine wq_iload_n hC dX7_copy_40 (i := 3) rfl rfl ?_
        obtain ⟨z11, h⟩ := wq_ii h
        refine wq_ald hC aR_1 z11 dX7_copy_41 ?_
        refine wq_if_ge hC dX7_copy_42 (tgt := 51) (by decide) (fun z12 => ?_) (fun z12 => ?_)
        · have h := wq_ip z12 h
          refine wq_aload_n hC dX7_copy_51 (i := 0) rfl rfl ?_
          refine gf_7 hC oR_0 2 (.ref (E.2.1 1)) (by decide) rfl tw_720 dX7_copy_52 ?_
          refine wq_iload_n hC dX7_copy_55 (i := 1) rfl rfl ?_
          obtain ⟨z13, h⟩ := wq_ii h
          refine wq_ald hC aR_1 z13 dX7_copy_56 ?_
          refine wq_aload_n hC dX7_copy_57 (i := 0) rfl rfl ?_
          refine gf_7 hC oR_0 2 (.ref (E.2.1 1)) (by decide) rfl tw_720 dX7_copy_58 ?_
          refine wq_iload_n hC dX7_copy_61 (i := 3) rfl rfl ?_
          obtain ⟨z14, h⟩ := wq_ii h
          refine wq_ald hC aR_1 z14 dX7_copy_62 ?_
          refine wq_icmp_eq hC dX7_copy_63 (tgt := 72) (by decide) (fun z15 => ?_) (fun z15 => ?_)
          · have h := wq_ip z15 h
            refine wq_iload_n hC dX7_copy_72 (i := 2) rfl rfl ?_
            refine wq_if_lt hC dX7_copy_73 (tgt := 121) (by decide) (fun z16 => ?_) (fun z16 => ?_)
            · have h := wq_ip z16 h
              refine wq_aload_n hC dX7_copy_121 (i := 0) rfl rfl ?_
              refine wq_iconst hC (v := 2) dX7_copy_122 (by decide) ?_
              obtain ⟨r17, hc18, h⟩ := wq_ob h
              refine cv_7 hC (ctX7_finding (d := d - 1) (by omega)  hc18) (by omega) (by decide) oR_0 rfl rfl npX7_finding tw_811 tw_813 tw_22 tw_814 (st := []) (Nat.le_of_ble_eq_true rfl) rfl dX7_copy_123 (st1 := [.int r17.1]) rfl ?_
              have h := Option.some.inj h
              subst h
              exact wq_iret hC dX7_copy_126 K.1 K.2
            · have h := wq_in_ z16 h
              refine wq_iload hC dX7_copy_76 rfl ?_
              refine wq_if_lt hC dX7_copy_78 (tgt := 121) (by decide) (fun z19 => ?_) (fun z19 => ?_)
              · have h := wq_ip z19 h
                refine wq_aload_n hC dX7_copy_121 (i := 0) rfl rfl ?_
                refine wq_iconst hC (v := 2) dX7_copy_122 (by decide) ?_
                obtain ⟨r20, hc21, h⟩ := wq_ob h
                refine cv_7 hC (ctX7_finding (d := d - 1) (by omega)  hc21) (by omega) (by decide) oR_0 rfl rfl npX7_finding tw_811 tw_813 tw_22 tw_814 (st := []) (Nat.le_of_ble_eq_true rfl) rfl dX7_copy_123 (st1 := [.int r20.1]) rfl ?_
                have h := Option.some.inj h
                subst h
                exact wq_iret hC dX7_copy_126 K.1 K.2
              · have h := wq_in_ z19 h
                refine wq_iload hC dX7_copy_81 rfl ?_
                refine wq_if_lt hC dX7_copy_83 (tgt := 121) (by decide) (fun z22 => ?_) (fun z22 => ?_)
                · have h := wq_ip z22 h
                  refine wq_aload_n hC dX7_copy_121 (i := 0) rfl rfl ?_
                  refine wq_iconst hC (v := 2) dX7_copy_122 (by decide) ?_
                  obtain ⟨r23, hc24, h⟩ := wq_ob h
                  refine cv_7 hC (ctX7_finding (d := d - 1) (by omega)  hc24) (by omega) (by decide) oR_0 rfl rfl npX7_finding tw_811 tw_813 tw_22 tw_814 (st := []) (Nat.le_of_ble_eq_true rfl) rfl dX7_copy_123 (st1 := [.int r23.1]) rfl ?_
                  have h := Option.some.inj h
                  subst h
                  exact wq_iret hC dX7_copy_126 K.1 K.2
                · have h := wq_in_ z22 h
                  refine wq_iload_n hC dX7_copy_86 (i := 2) rfl rfl ?_
                  refine wq_i2l hC dX7_copy_87 ?_
                  refine wq_iload hC dX7_copy_88 rfl ?_
                  refine wq_i2l hC dX7_copy_90 ?_
                  refine wq_ladd hC dX7_copy_91 ?_
                  refine wq_aload_n hC dX7_copy_92 (i := 0) rfl rfl ?_
                  refine gf_7 hC oR_0 3 (.ref (E.2.1 2)) (by decide) rfl tw_721 dX7_copy_93 ?_
                  refine wq_iload_n hC dX7_copy_96 (i := 1) rfl rfl ?_
                  obtain ⟨z25, h⟩ := wq_ii h
                  refine wq_ald hC aR_2 z25 dX7_copy_97 ?_
                  refine wq_i2l hC dX7_copy_98 ?_
                  refine wq_lcmp hC dX7_copy_99 ?_
                  refine wq_if_gt hC dX7_copy_100 (tgt := 121) (by decide) (fun z26 => ?_) (fun z26 => ?_)
                  · have h := wq_ip z26 h
                    refine wq_aload_n hC dX7_copy_121 (i := 0) rfl rfl ?_
                    refine wq_iconst hC (v := 2) dX7_copy_122 (by decide) ?_
                    obtain ⟨r27, hc28, h⟩ := wq_ob h
                    refine cv_7 hC (ctX7_finding (d := d - 1) (by omega)  hc28) (by omega) (by decide) oR_0 rfl rfl npX7_finding tw_811 tw_813 tw_22 tw_814 (st := []) (Nat.le_of_ble_eq_true rfl) rfl dX7_copy_123 (st1 := [.int r27.1]) rfl ?_
                    have h := Option.some.inj h
                    subst h
                    exact wq_iret hC dX7_copy_126 K.1 K.2
                  · have h := wq_in_ z26 h
                    refine wq_iload hC dX7_copy_103 rfl ?_
                    refine wq_i2l hC dX7_copy_105 ?_
                    refine wq_iload hC dX7_copy_106 rfl ?_
                    refine wq_i2l hC dX7_copy_108 ?_
                    refine wq_ladd hC dX7_copy_109 ?_
                    refine wq_aload_n hC dX7_copy_110 (i := 0) rfl rfl ?_
                    refine gf_7 hC oR_0 3 (.ref (E.2.1 2)) (by decide) rfl tw_721 dX7_copy_111 ?_
                    refine wq_iload_n hC dX7_copy_114 (i := 3) rfl rfl ?_
                    obtain ⟨z29, h⟩ := wq_ii h
                    refine wq_ald hC aR_2 z29 dX7_copy_115 ?_
                    refine wq_i2l hC dX7_copy_116 ?_
                    refine wq_lcmp hC dX7_copy_117 ?_
                    refine wq_if_le hC dX7_copy_118 (tgt := 127) (by decide) (fun z30 => ?_) (fun z30 => ?_)
                    · have h := wq_ip z30 h
                      refine wq_iload_n hC dX7_copy_127 (i := 2) rfl rfl ?_
                      refine wq_iload hC dX7_copy_128 rfl ?_
                      refine wq_icmp_lt hC dX7_copy_130 (tgt := 137) (by decide) (fun z31 => ?_) (fun z31 => ?_)
                      · have h := wq_ip z31 h
                        refine wq_iconst hC (v := 0) dX7_copy_137 (by decide) ?_
                        exact gX7_copy_J138 hC hd0 x1 x2 x3 x4 x5 0 (wq_st (wq_st M 0 0 0) 0 1 0)  h K
                      · have h := wq_in_ z31 h
                        refine wq_iconst hC (v := 1) dX7_copy_133 (by decide) ?_
                        refine wq_goto hC dX7_copy_134 (tgt := 138) (by decide) ?_
                        exact gX7_copy_J138 hC hd0 x1 x2 x3 x4 x5 1 (wq_st (wq_st M 0 0 0) 0 1 0)  h K
                    · have h := wq_in_ z30 h
                      refine wq_aload_n hC dX7_copy_121 (i := 0) rfl rfl ?_
                      refine wq_iconst hC (v := 2) dX7_copy_122 (by decide) ?_
                      obtain ⟨r38, hc39, h⟩ := wq_ob h
                      refine cv_7 hC (ctX7_finding (d := d - 1) (by omega)  hc39) (by omega) (by decide) oR_0 rfl rfl npX7_finding tw_811 tw_813 tw_22 tw_814 (st := []) (Nat.le_of_ble_eq_true rfl) rfl dX7_copy_123 (st1 := [.int r38.1]) rfl ?_
                      have h := Option.some.inj h
                      subst h
                      exact wq_iret hC dX7_copy_126 K.1 K.2
          · have h := wq_in_ z15 h
            refine wq_aload_n hC dX7_copy_66 (i := 0) rfl rfl ?_
            refine wq_iconst hC (v := 5) dX7_copy_67 (by decide) ?_
            obtain ⟨r40, hc41, h⟩ := wq_ob h
            refine cv_7 hC (ctX7_finding (d := d - 1) (by omega)  hc41) (by omega) (by decide) oR_0 rfl rfl npX7_finding tw_811 tw_813 tw_22 tw_814 (st := []) (Nat.le_of_ble_eq_true rfl) rfl dX7_copy_68 (st1 := [.int r40.1]) rfl ?_
            have h := Option.some.inj h
            subst h
            exact wq_iret hC dX7_copy_71 K.1 K.2
        · have h := wq_in_ z12 h
          refine wq_aload_n hC dX7_copy_45 (i := 0) rfl rfl ?_
          refine wq_iconst hC (v := 1) dX7_copy_46 (by decide) ?_
          obtain ⟨r42, hc43, h⟩ := wq_ob h
          refine cv_7 hC (ctX7_finding (d := d - 1) (by omega)  hc43) (by omega) (by decide) oR_0 rfl rfl npX7_finding tw_811 tw_813 tw_22 tw_814 (st := []) (Nat.le_of_ble_eq_true rfl) rfl dX7_copy_47 (st1 := [.int r42.1]) rfl ?_
          have h := Option.some.inj h
          subst h
          exact wq_iret hC dX7_copy_50 K.1 K.2
    · have h := wq_in_ z6 h
      refine wq_ldc hC (v := (-1000001)) tw_810 dX7_copy_19 ?_
      have h := Option.some.inj h
      subst h
      exact wq_iret hC dX7_copy_21 K.1 K.2
theorem npX7_drop : yX7_drop.cls ≠ "java/lang/invoke/MethodHandle" ∧ yX7_drop.cls ≠ "java/lang/invoke/VarHandle" ∧ (parseMethodDescriptor yX7_drop.desc).map (fun d => d.parameters.length) = some 1 := by decide +kernel
def fX7_drop (x1 : Int32) (M : wq_M) : Option (Int32 × wq_M) :=
  (fX7_isRow x1 (wq_st M 0 0 0)).bind fun r1 => (if r1 = true then
    if wq_in x1 8 then (if 0 ≤ ((wq_st (wq_st M 0 0 0) 0 1 0).1 1 x1.toNatClampNeg) then
      if wq_in x1 8 then if wq_in x1 8 then some (((wq_st (wq_st (wq_st M 0 0 0) 0 1 0) 1 x1.toNatClampNeg (-1)).1 2 x1.toNatClampNeg), (wq_st (wq_st (wq_st M 0 0 0) 0 1 0) 1 x1.toNatClampNeg (-1))) else none else none
    else
      (fX7_finding 1 (wq_st (wq_st M 0 0 0) 0 1 0)).bind fun r8 => some (r8.1, r8.2)) else none
  else
    some ((-1000001), (wq_st M 0 0 0)))
set_option maxHeartbeats 4000000 in
set_option maxRecDepth 100000 in
theorem ctX7_drop {l : Launch} {E : wq_E} {d : Nat} (hd0 : 2 ≤ d) {x1 : Int32} {M : wq_M} {r : (Int32 × wq_M)}  (h : fX7_drop x1 M = some r) : wq_ct l E wq_yR yX7_drop cX7_drop 2 (some .int) d [.ref (E.2.1 0), .int x1] M (some (.int r.1)) r.2 := by
  refine wq_ent (own := "WellPipesModel") (lv0 := [some (.ref (E.2.1 0)), some (.int x1)]) (by decide +kernel) rfl (Nat.le_of_ble_eq_true rfl) rfl (fun g h1 h2 hC => ?_)
  have K : wq_kI g r := ⟨h1, h2⟩
  unfold fX7_drop at h
  refine wq_aload_n hC dX7_drop_0 (i := 0) rfl rfl ?_
  refine wq_iconst hC (v := 0) dX7_drop_1 (by decide) ?_
  refine pf_7_0 hC oR_0 tw_718 dX7_drop_2 ?_
  refine wq_iload_n hC dX7_drop_5 (i := 1) rfl rfl ?_
  obtain ⟨r1, hc2, h⟩ := wq_ob h
  refine wq_callS hC (ctX7_isRow (d := d - 1) (by omega)  hc2) (by omega) (by decide) rfl npX7_isRow tw_802 tw_803 tw_58 tw_804 (st := []) (Nat.le_of_ble_eq_true rfl) rfl dX7_drop_6 (st1 := [.int (wq_b r1)]) rfl ?_
  refine wq_bif_ne hC dX7_drop_9 (tgt := 15) (by decide) (fun z3 => ?_) (fun z3 => ?_)
  · have h := wq_ip z3 h
    refine wq_aload_n hC dX7_drop_15 (i := 0) rfl rfl ?_
    refine wq_iconst hC (v := 0) dX7_drop_16 (by decide) ?_
    refine pf_7_1 hC oR_0 tw_719 dX7_drop_17 ?_
    refine wq_aload_n hC dX7_drop_20 (i := 0) rfl rfl ?_
    refine gf_7 hC oR_0 2 (.ref (E.2.1 1)) (by decide) rfl tw_720 dX7_drop_21 ?_
    refine wq_iload_n hC dX7_drop_24 (i := 1) rfl rfl ?_
    obtain ⟨z4, h⟩ := wq_ii h
    refine wq_ald hC aR_1 z4 dX7_drop_25 ?_
    refine wq_if_ge hC dX7_drop_26 (tgt := 35) (by decide) (fun z5 => ?_) (fun z5 => ?_)
    · have h := wq_ip z5 h
      refine wq_aload_n hC dX7_drop_35 (i := 0) rfl rfl ?_
      refine gf_7 hC oR_0 2 (.ref (E.2.1 1)) (by decide) rfl tw_720 dX7_drop_36 ?_
      refine wq_iload_n hC dX7_drop_39 (i := 1) rfl rfl ?_
      refine wq_iconst hC (v := (-1)) dX7_drop_40 (by decide) ?_
      obtain ⟨z6, h⟩ := wq_ii h
      refine wq_ast hC aR_1 z6 dX7_drop_41 ?_
      refine wq_aload_n hC dX7_drop_42 (i := 0) rfl rfl ?_
      refine gf_7 hC oR_0 3 (.ref (E.2.1 2)) (by decide) rfl tw_721 dX7_drop_43 ?_
      refine wq_iload_n hC dX7_drop_46 (i := 1) rfl rfl ?_
      obtain ⟨z7, h⟩ := wq_ii h
      refine wq_ald hC aR_2 z7 dX7_drop_47 ?_
      have h := Option.some.inj h
      subst h
      exact wq_iret hC dX7_drop_48 K.1 K.2
    · have h := wq_in_ z5 h
      refine wq_aload_n hC dX7_drop_29 (i := 0) rfl rfl ?_
      refine wq_iconst hC (v := 1) dX7_drop_30 (by decide) ?_
      obtain ⟨r8, hc9, h⟩ := wq_ob h
      refine cv_7 hC (ctX7_finding (d := d - 1) (by omega)  hc9) (by omega) (by decide) oR_0 rfl rfl npX7_finding tw_811 tw_813 tw_22 tw_814 (st := []) (Nat.le_of_ble_eq_true rfl) rfl dX7_drop_31 (st1 := [.int r8.1]) rfl ?_
      have h := Option.some.inj h
      subst h
      exact wq_iret hC dX7_drop_34 K.1 K.2
  · have h := wq_in_ z3 h
    refine wq_ldc hC (v := (-1000001)) tw_810 dX7_drop_12 ?_
    have h := Option.some.inj h
    subst h
    exact wq_iret hC dX7_drop_14 K.1 K.2
theorem npX7_feed : yX7_feed.cls ≠ "java/lang/invoke/MethodHandle" ∧ yX7_feed.cls ≠ "java/lang/invoke/VarHandle" ∧ (parseMethodDescriptor yX7_feed.desc).map (fun d => d.parameters.length) = some 1 := by decide +kernel
def fX7_feed (x1 : Int32) (M : wq_M) : Option (Int32 × wq_M) :=
  (fX7_in x1.toInt64 (0 : Int64) (255 : Int64) (wq_st M 0 0 0)).bind fun r1 => (if r1 = true then
    (if ((wq_st M 0 0 0).1 0 11) = 130 then
      some ((-1000003), (wq_st M 0 0 0))
    else
      if wq_in ((wq_st M 0 0 0).1 0 11) 130 then some (((wq_st (wq_st (wq_st M 0 0 0) 8 ((wq_st M 0 0 0).1 0 11).toNatClampNeg x1) 0 11 (((wq_st (wq_st M 0 0 0) 8 ((wq_st M 0 0 0).1 0 11).toNatClampNeg x1).1 0 11) + 1)).1 0 11), (wq_st (wq_st (wq_st M 0 0 0) 8 ((wq_st M 0 0 0).1 0 11).toNatClampNeg x1) 0 11 (((wq_st (wq_st M 0 0 0) 8 ((wq_st M 0 0 0).1 0 11).toNatClampNeg x1).1 0 11) + 1))) else none)
  else
    some ((-1000001), (wq_st M 0 0 0)))
set_option maxHeartbeats 4000000 in
set_option maxRecDepth 100000 in
theorem ctX7_feed {l : Launch} {E : wq_E} {d : Nat} (hd0 : 1 ≤ d) {x1 : Int32} {M : wq_M} {r : (Int32 × wq_M)}  (h : fX7_feed x1 M = some r) : wq_ct l E wq_yR yX7_feed cX7_feed 2 (some .int) d [.ref (E.2.1 0), .int x1] M (some (.int r.1)) r.2 := by
  refine wq_ent (own := "WellPipesModel") (lv0 := [some (.ref (E.2.1 0)), some (.int x1)]) (by decide +kernel) rfl (Nat.le_of_ble_eq_true rfl) rfl (fun g h1 h2 hC => ?_)
  have K : wq_kI g r := ⟨h1, h2⟩
  unfold fX7_feed at h
  refine wq_aload_n hC dX7_feed_0 (i := 0) rfl rfl ?_
  refine wq_iconst hC (v := 0) dX7_feed_1 (by decide) ?_
  refine pf_7_0 hC oR_0 tw_718 dX7_feed_2 ?_
  refine wq_iload_n hC dX7_feed_5 (i := 1) rfl rfl ?_
  refine wq_i2l hC dX7_feed_6 ?_
  refine wq_lconst hC (v := 0) dX7_feed_7 (by decide) ?_
  refine wq_ldc2 hC (v := (255 : Int64)) tw_832 dX7_feed_8 ?_
  obtain ⟨r1, hc2, h⟩ := wq_ob h
  refine wq_callS hC (ctX7_in (d := d - 1) (by omega)  hc2) (by omega) (by decide) rfl npX7_in tw_806 tw_807 tw_58 tw_808 (st := []) (Nat.le_of_ble_eq_true rfl) rfl dX7_feed_11 (st1 := [.int (wq_b r1)]) rfl ?_
  refine wq_bif_ne hC dX7_feed_14 (tgt := 20) (by decide) (fun z3 => ?_) (fun z3 => ?_)
  · have h := wq_ip z3 h
    refine wq_aload_n hC dX7_feed_20 (i := 0) rfl rfl ?_
    refine gf_7 hC oR_0 11 (.int ((wq_st M 0 0 0).1 0 11)) (by decide) rfl tw_729 dX7_feed_21 ?_
    refine wq_sipush hC (v := 130) dX7_feed_24 (by decide) ?_
    refine wq_icmp_ne hC dX7_feed_27 (tgt := 33) (by decide) (fun z4 => ?_) (fun z4 => ?_)
    · have h := wq_in_ z4 h
      refine wq_aload_n hC dX7_feed_33 (i := 0) rfl rfl ?_
      refine gf_7 hC oR_0 10 (.ref (E.2.1 8)) (by decide) rfl tw_728 dX7_feed_34 ?_
      refine wq_aload_n hC dX7_feed_37 (i := 0) rfl rfl ?_
      refine gf_7 hC oR_0 11 (.int ((wq_st M 0 0 0).1 0 11)) (by decide) rfl tw_729 dX7_feed_38 ?_
      refine wq_iload_n hC dX7_feed_41 (i := 1) rfl rfl ?_
      obtain ⟨z5, h⟩ := wq_ii h
      refine wq_ast hC aR_8 z5 dX7_feed_42 ?_
      refine wq_aload_n hC dX7_feed_43 (i := 0) rfl rfl ?_
      refine wq_dup hC dX7_feed_44 rfl ?_
      refine gf_7 hC oR_0 11 (.int ((wq_st (wq_st M 0 0 0) 8 ((wq_st M 0 0 0).1 0 11).toNatClampNeg x1).1 0 11)) (by decide) rfl tw_729 dX7_feed_45 ?_
      refine wq_iconst hC (v := 1) dX7_feed_48 (by decide) ?_
      refine wq_iadd hC dX7_feed_49 ?_
      refine pf_7_11 hC oR_0 tw_729 dX7_feed_50 ?_
      refine wq_aload_n hC dX7_feed_53 (i := 0) rfl rfl ?_
      refine gf_7 hC oR_0 11 (.int ((wq_st (wq_st (wq_st M 0 0 0) 8 ((wq_st M 0 0 0).1 0 11).toNatClampNeg x1) 0 11 (((wq_st (wq_st M 0 0 0) 8 ((wq_st M 0 0 0).1 0 11).toNatClampNeg x1).1 0 11) + 1)).1 0 11)) (by decide) rfl tw_729 dX7_feed_54 ?_
      have h := Option.some.inj h
      subst h
      exact wq_iret hC dX7_feed_57 K.1 K.2
    · have h := wq_ip z4 h
      refine wq_ldc hC (v := (-1000003)) tw_833 dX7_feed_30 ?_
      have h := Option.some.inj h
      subst h
      exact wq_iret hC dX7_feed_32 K.1 K.2
  · have h := wq_in_ z3 h
    refine wq_ldc hC (v := (-1000001)) tw_810 dX7_feed_17 ?_
    have h := Option.some.inj h
    subst h
    exact wq_iret hC dX7_feed_19 K.1 K.2
theorem npX7_bad : yX7_bad.cls ≠ "java/lang/invoke/MethodHandle" ∧ yX7_bad.cls ≠ "java/lang/invoke/VarHandle" ∧ (parseMethodDescriptor yX7_bad.desc).map (fun d => d.parameters.length) = some 1 := by decide +kernel
def fX7_bad (x1 : Int32) (M : wq_M) : Option wq_M :=
  (if (M.1 0 16) = 0 then
    some (wq_st (wq_st M 0 16 x1) 0 17 ((wq_st M 0 16 x1).1 0 13))
  else
    some M)
set_option maxHeartbeats 4000000 in
set_option maxRecDepth 100000 in
theorem ctX7_bad {l : Launch} {E : wq_E} {d : Nat} (hd0 : 0 ≤ d) {x1 : Int32} {M : wq_M} {r : wq_M}  (h : fX7_bad x1 M = some r) : wq_ct l E wq_yR yX7_bad cX7_bad 2 (none) d [.ref (E.2.1 0), .int x1] M (none) r := by
  refine wq_ent (own := "WellPipesModel") (lv0 := [some (.ref (E.2.1 0)), some (.int x1)]) (by decide +kernel) rfl (Nat.le_of_ble_eq_true rfl) rfl (fun g h1 h2 hC => ?_)
  have K : wq_kV g r := ⟨h1, h2⟩
  unfold fX7_bad at h
  refine wq_aload_n hC dX7_bad_0 (i := 0) rfl rfl ?_
  refine gf_7 hC oR_0 16 (.int (M.1 0 16)) (by decide) rfl tw_734 dX7_bad_1 ?_
  refine wq_if_ne hC dX7_bad_4 (tgt := 20) (by decide) (fun z1 => ?_) (fun z1 => ?_)
  · have h := wq_in_ z1 h
    have h := Option.some.inj h
    subst h
    exact wq_vret hC dX7_bad_20 K.1 K.2
  · have h := wq_ip z1 h
    refine wq_aload_n hC dX7_bad_7 (i := 0) rfl rfl ?_
    refine wq_iload_n hC dX7_bad_8 (i := 1) rfl rfl ?_
    refine pf_7_16 hC oR_0 tw_734 dX7_bad_9 ?_
    refine wq_aload_n hC dX7_bad_12 (i := 0) rfl rfl ?_
    refine wq_aload_n hC dX7_bad_13 (i := 0) rfl rfl ?_
    refine gf_7 hC oR_0 13 (.int ((wq_st M 0 16 x1).1 0 13)) (by decide) rfl tw_731 dX7_bad_14 ?_
    refine pf_7_17 hC oR_0 tw_735 dX7_bad_17 ?_
    have h := Option.some.inj h
    subst h
    exact wq_vret hC dX7_bad_20 K.1 K.2
theorem npX7_nextToken : yX7_nextToken.cls ≠ "java/lang/invoke/MethodHandle" ∧ yX7_nextToken.cls ≠ "java/lang/invoke/VarHandle" ∧ (parseMethodDescriptor yX7_nextToken.desc).map (fun d => d.parameters.length) = some 0 := by decide +kernel
def fX7_nextToken_L165_J239 (y0 : Int32) (M : wq_M) : Option (wq_M ⊕ wq_M) :=
  some (.inl (wq_st (wq_st M 0 15 y0) 0 12 (((wq_st M 0 15 y0).1 0 12) + 1)))
set_option maxHeartbeats 4000000 in
set_option maxRecDepth 100000 in
theorem gX7_nextToken_L165_J239 {g : wq_G} {E : wq_E} {d : Nat} (hC : wq_C g E wq_yR cX7_nextToken 1 "WellPipesModel" (none) d) (hd0 : 1 ≤ d) (y0 : Int32) (M : wq_M)  {x : (wq_M ⊕ wq_M)} (h : fX7_nextToken_L165_J239 y0 M = some x) (K : (Sum.elim (fun (s : wq_M) => wq_g g E wq_yR 1 165 [some (.ref (E.2.1 0))] [] s) (fun (e : wq_M) => wq_g g E wq_yR 1 255 [some (.ref (E.2.1 0))] [] e)) x) : wq_g g E wq_yR 1 239 [some (.ref (E.2.1 0))] [.int y0, .ref (E.2.1 0)] M := by
  unfold fX7_nextToken_L165_J239 at h
  refine pf_7_15 hC oR_0 tw_733 dX7_nextToken_239 ?_
  refine wq_aload_n hC dX7_nextToken_242 (i := 0) rfl rfl ?_
  refine wq_dup hC dX7_nextToken_243 rfl ?_
  refine gf_7 hC oR_0 12 (.int ((wq_st M 0 15 y0).1 0 12)) (by decide) rfl tw_730 dX7_nextToken_244 ?_
  refine wq_iconst hC (v := 1) dX7_nextToken_247 (by decide) ?_
  refine wq_iadd hC dX7_nextToken_248 ?_
  refine pf_7_12 hC oR_0 tw_730 dX7_nextToken_249 ?_
  refine wq_goto hC dX7_nextToken_252 (tgt := 165) (by decide) ?_
  have h := Option.some.inj h
  subst h
  exact K
def fX7_nextToken_L165  : wq_M → Option (wq_M ⊕ wq_M) := fun s =>
  (if (s.1 0 11) ≤ (s.1 0 12) then
    some (.inr s)
  else
    if wq_in (s.1 0 12) 130 then (fX7_in ((s.1 8 (s.1 0 12).toNatClampNeg).toInt64) (48 : Int64) (57 : Int64) s).bind fun r14 => (if r14 = true then
      (if 2 ≤ ((s.1 0 12) - (s.1 0 13)) then
        fX7_nextToken_L165_J239 (s.1 0 15) s
      else
        if wq_in (s.1 0 12) 130 then fX7_nextToken_L165_J239 (((10 * (s.1 0 15)) + (s.1 8 (s.1 0 12).toNatClampNeg)) - 48) s else none)
    else
      some (.inr s)) else none)
set_option maxHeartbeats 4000000 in
set_option maxRecDepth 100000 in
theorem gX7_nextToken_L165 {g : wq_G} {E : wq_E} {d : Nat} (hC : wq_C g E wq_yR cX7_nextToken 1 "WellPipesModel" (none) d) (hd0 : 1 ≤ d)   : ∀ (n : Nat) (s : wq_M) (e : wq_M), wq_lp (fX7_nextToken_L165) n s = some e → (fun (e : wq_M) => wq_g g E wq_yR 1 255 [some (.ref (E.2.1 0))] [] e) e → wq_g g E wq_yR 1 165 [some (.ref (E.2.1 0))] [] s := by
  refine wq_lq_ok (fun (s : wq_M) => wq_g g E wq_yR 1 165 [some (.ref (E.2.1 0))] [] s) (fun (e : wq_M) => wq_g g E wq_yR 1 255 [some (.ref (E.2.1 0))] [] e) (fun s x h K => ?_)
  unfold fX7_nextToken_L165 at h
  refine wq_aload_n hC dX7_nextToken_165 (i := 0) rfl rfl ?_
  refine gf_7 hC oR_0 12 (.int (s.1 0 12)) (by decide) rfl tw_730 dX7_nextToken_166 ?_
  refine wq_aload_n hC dX7_nextToken_169 (i := 0) rfl rfl ?_
  refine gf_7 hC oR_0 11 (.int (s.1 0 11)) (by decide) rfl tw_729 dX7_nextToken_170 ?_
  refine wq_icmp_ge hC dX7_nextToken_173 (tgt := 255) (by decide) (fun z12 => ?_) (fun z12 => ?_)
  · have h := wq_ip z12 h
    have h := Option.some.inj h
    subst h
    exact K
  · have h := wq_in_ z12 h
    refine wq_aload_n hC dX7_nextToken_176 (i := 0) rfl rfl ?_
    refine gf_7 hC oR_0 10 (.ref (E.2.1 8)) (by decide) rfl tw_728 dX7_nextToken_177 ?_
    refine wq_aload_n hC dX7_nextToken_180 (i := 0) rfl rfl ?_
    refine gf_7 hC oR_0 12 (.int (s.1 0 12)) (by decide) rfl tw_730 dX7_nextToken_181 ?_
    obtain ⟨z13, h⟩ := wq_ii h
    refine wq_ald hC aR_8 z13 dX7_nextToken_184 ?_
    refine wq_i2l hC dX7_nextToken_185 ?_
    refine wq_ldc2 hC (v := (48 : Int64)) tw_853 dX7_nextToken_186 ?_
    refine wq_ldc2 hC (v := (57 : Int64)) tw_854 dX7_nextToken_189 ?_
    obtain ⟨r14, hc15, h⟩ := wq_ob h
    refine wq_callS hC (ctX7_in (d := d - 1) (by omega)  hc15) (by omega) (by decide) rfl npX7_in tw_806 tw_807 tw_58 tw_808 (st := []) (Nat.le_of_ble_eq_true rfl) rfl dX7_nextToken_192 (st1 := [.int (wq_b r14)]) rfl ?_
    refine wq_bif_eq hC dX7_nextToken_195 (tgt := 255) (by decide) (fun z16 => ?_) (fun z16 => ?_)
    · have h := wq_in_ z16 h
      have h := Option.some.inj h
      subst h
      exact K
    · have h := wq_ip z16 h
      refine wq_aload_n hC dX7_nextToken_198 (i := 0) rfl rfl ?_
      refine wq_aload_n hC dX7_nextToken_199 (i := 0) rfl rfl ?_
      refine gf_7 hC oR_0 12 (.int (s.1 0 12)) (by decide) rfl tw_730 dX7_nextToken_200 ?_
      refine wq_aload_n hC dX7_nextToken_203 (i := 0) rfl rfl ?_
      refine gf_7 hC oR_0 13 (.int (s.1 0 13)) (by decide) rfl tw_731 dX7_nextToken_204 ?_
      refine wq_isub hC dX7_nextToken_207 ?_
      refine wq_iconst hC (v := 2) dX7_nextToken_208 (by decide) ?_
      refine wq_icmp_ge hC dX7_nextToken_209 (tgt := 235) (by decide) (fun z17 => ?_) (fun z17 => ?_)
      · have h := wq_ip z17 h
        refine wq_aload_n hC dX7_nextToken_235 (i := 0) rfl rfl ?_
        refine gf_7 hC oR_0 15 (.int (s.1 0 15)) (by decide) rfl tw_733 dX7_nextToken_236 ?_
        exact gX7_nextToken_L165_J239 hC hd0 (s.1 0 15) s  h K
      · have h := wq_in_ z17 h
        refine wq_bipush hC (v := 10) dX7_nextToken_212 (by decide) ?_
        refine wq_aload_n hC dX7_nextToken_214 (i := 0) rfl rfl ?_
        refine gf_7 hC oR_0 15 (.int (s.1 0 15)) (by decide) rfl tw_733 dX7_nextToken_215 ?_
        refine wq_imul hC dX7_nextToken_218 ?_
        refine wq_aload_n hC dX7_nextToken_219 (i := 0) rfl rfl ?_
        refine gf_7 hC oR_0 10 (.ref (E.2.1 8)) (by decide) rfl tw_728 dX7_nextToken_220 ?_
        refine wq_aload_n hC dX7_nextToken_223 (i := 0) rfl rfl ?_
        refine gf_7 hC oR_0 12 (.int (s.1 0 12)) (by decide) rfl tw_730 dX7_nextToken_224 ?_
        obtain ⟨z18, h⟩ := wq_ii h
        refine wq_ald hC aR_8 z18 dX7_nextToken_227 ?_
        refine wq_iadd hC dX7_nextToken_228 ?_
        refine wq_bipush hC (v := 48) dX7_nextToken_229 (by decide) ?_
        refine wq_isub hC dX7_nextToken_231 ?_
        refine wq_goto hC dX7_nextToken_232 (tgt := 239) (by decide) ?_
        exact gX7_nextToken_L165_J239 hC hd0 (((10 * (s.1 0 15)) + (s.1 8 (s.1 0 12).toNatClampNeg)) - 48) s  h K
def fX7_nextToken_J255 (M : wq_M) : Option wq_M :=
  (if ((M.1 0 12) - (M.1 0 13)) ≤ 2 then
    some (wq_st M 0 14 3)
  else
    some (wq_st M 0 14 0))
set_option maxHeartbeats 4000000 in
set_option maxRecDepth 100000 in
theorem gX7_nextToken_J255 {g : wq_G} {E : wq_E} {d : Nat} (hC : wq_C g E wq_yR cX7_nextToken 1 "WellPipesModel" (none) d) (hd0 : 1 ≤ d) (M : wq_M)  {x : wq_M} (h : fX7_nextToken_J255 M = some x) (K : (wq_kV g) x) : wq_g g E wq_yR 1 255 [some (.ref (E.2.1 0))] [] M := by
  unfold fX7_nextToken_J255 at h
  refine wq_aload_n hC dX7_nextToken_255 (i := 0) rfl rfl ?_
  refine wq_aload_n hC dX7_nextToken_256 (i := 0) rfl rfl ?_
  refine gf_7 hC oR_0 12 (.int (M.1 0 12)) (by decide) rfl tw_730 dX7_nextToken_257 ?_
  refine wq_aload_n hC dX7_nextToken_260 (i := 0) rfl rfl ?_
  refine gf_7 hC oR_0 13 (.int (M.1 0 13)) (by decide) rfl tw_731 dX7_nextToken_261 ?_
  refine wq_isub hC dX7_nextToken_264 ?_
  refine wq_iconst hC (v := 2) dX7_nextToken_265 (by decide) ?_
  refine wq_icmp_le hC dX7_nextToken_266 (tgt := 273) (by decide) (fun z21 => ?_) (fun z21 => ?_)
  · have h := wq_ip z21 h
    refine wq_iconst hC (v := 3) dX7_nextToken_273 (by decide) ?_
    refine pf_7_14 hC oR_0 tw_732 dX7_nextToken_274 ?_
    have h := Option.some.inj h
    subst h
    exact wq_vret hC dX7_nextToken_277 K.1 K.2
  · have h := wq_in_ z21 h
    refine wq_iconst hC (v := 0) dX7_nextToken_269 (by decide) ?_
    refine wq_goto hC dX7_nextToken_270 (tgt := 274) (by decide) ?_
    refine pf_7_14 hC oR_0 tw_732 dX7_nextToken_274 ?_
    have h := Option.some.inj h
    subst h
    exact wq_vret hC dX7_nextToken_277 K.1 K.2
def fX7_nextToken_J142 (y0 : Int32) (y1 : Int32) (M : wq_M) : Option wq_M :=
  (if ((wq_st M 0 12 (y1 + y0)).1 0 14) = 3 then
    (wq_lp (fX7_nextToken_L165) wq_FU (wq_st (wq_st M 0 12 (y1 + y0)) 0 15 (((wq_st M 0 12 (y1 + y0)).1 0 15) - 48))).bind fun e19 => fX7_nextToken_J255 e19
  else
    some (wq_st M 0 12 (y1 + y0)))
set_option maxHeartbeats 4000000 in
set_option maxRecDepth 100000 in
theorem gX7_nextToken_J142 {g : wq_G} {E : wq_E} {d : Nat} (hC : wq_C g E wq_yR cX7_nextToken 1 "WellPipesModel" (none) d) (hd0 : 1 ≤ d) (y0 : Int32) (y1 : Int32) (M : wq_M)  {x : wq_M} (h : fX7_nextToken_J142 y0 y1 M = some x) (K : (wq_kV g) x) : wq_g g E wq_yR 1 142 [some (.ref (E.2.1 0))] [.int y0, .int y1, .ref (E.2.1 0)] M := by
  unfold fX7_nextToken_J142 at h
  refine wq_iadd hC dX7_nextToken_142 ?_
  refine pf_7_12 hC oR_0 tw_730 dX7_nextToken_143 ?_
  refine wq_aload_n hC dX7_nextToken_146 (i := 0) rfl rfl ?_
  refine gf_7 hC oR_0 14 (.int ((wq_st M 0 12 (y1 + y0)).1 0 14)) (by decide) rfl tw_732 dX7_nextToken_147 ?_
  refine wq_iconst hC (v := 3) dX7_nextToken_150 (by decide) ?_
  refine wq_icmp_ne hC dX7_nextToken_151 (tgt := 277) (by decide) (fun z11 => ?_) (fun z11 => ?_)
  · have h := wq_in_ z11 h
    have h := Option.some.inj h
    subst h
    exact wq_vret hC dX7_nextToken_277 K.1 K.2
  · have h := wq_ip z11 h
    refine wq_aload_n hC dX7_nextToken_154 (i := 0) rfl rfl ?_
    refine wq_dup hC dX7_nextToken_155 rfl ?_
    refine gf_7 hC oR_0 15 (.int ((wq_st M 0 12 (y1 + y0)).1 0 15)) (by decide) rfl tw_733 dX7_nextToken_156 ?_
    refine wq_bipush hC (v := 48) dX7_nextToken_159 (by decide) ?_
    refine wq_isub hC dX7_nextToken_161 ?_
    refine pf_7_15 hC oR_0 tw_733 dX7_nextToken_162 ?_
    obtain ⟨e19, hl20, h⟩ := wq_ob h
    refine gX7_nextToken_L165 hC hd0   wq_FU _ _ hl20 ?_
    exact gX7_nextToken_J255 hC hd0  e19  h K
def fX7_nextToken_J118 (y0 : Int32) (M : wq_M) : Option wq_M :=
  (if ((wq_st M 0 14 y0).1 0 11) ≤ ((wq_st M 0 14 y0).1 0 12) then
    fX7_nextToken_J142 0 ((wq_st M 0 14 y0).1 0 12) (wq_st M 0 14 y0)
  else
    fX7_nextToken_J142 1 ((wq_st M 0 14 y0).1 0 12) (wq_st M 0 14 y0))
set_option maxHeartbeats 4000000 in
set_option maxRecDepth 100000 in
theorem gX7_nextToken_J118 {g : wq_G} {E : wq_E} {d : Nat} (hC : wq_C g E wq_yR cX7_nextToken 1 "WellPipesModel" (none) d) (hd0 : 1 ≤ d) (y0 : Int32) (M : wq_M)  {x : wq_M} (h : fX7_nextToken_J118 y0 M = some x) (K : (wq_kV g) x) : wq_g g E wq_yR 1 118 [some (.ref (E.2.1 0))] [.int y0, .ref (E.2.1 0)] M := by
  unfold fX7_nextToken_J118 at h
  refine pf_7_14 hC oR_0 tw_732 dX7_nextToken_118 ?_
  refine wq_aload_n hC dX7_nextToken_121 (i := 0) rfl rfl ?_
  refine wq_dup hC dX7_nextToken_122 rfl ?_
  refine gf_7 hC oR_0 12 (.int ((wq_st M 0 14 y0).1 0 12)) (by decide) rfl tw_730 dX7_nextToken_123 ?_
  refine wq_aload_n hC dX7_nextToken_126 (i := 0) rfl rfl ?_
  refine gf_7 hC oR_0 12 (.int ((wq_st M 0 14 y0).1 0 12)) (by decide) rfl tw_730 dX7_nextToken_127 ?_
  refine wq_aload_n hC dX7_nextToken_130 (i := 0) rfl rfl ?_
  refine gf_7 hC oR_0 11 (.int ((wq_st M 0 14 y0).1 0 11)) (by decide) rfl tw_729 dX7_nextToken_131 ?_
  refine wq_icmp_ge hC dX7_nextToken_134 (tgt := 141) (by decide) (fun z10 => ?_) (fun z10 => ?_)
  · have h := wq_ip z10 h
    refine wq_iconst hC (v := 0) dX7_nextToken_141 (by decide) ?_
    exact gX7_nextToken_J142 hC hd0 0 ((wq_st M 0 14 y0).1 0 12) (wq_st M 0 14 y0)  h K
  · have h := wq_in_ z10 h
    refine wq_iconst hC (v := 1) dX7_nextToken_137 (by decide) ?_
    refine wq_goto hC dX7_nextToken_138 (tgt := 142) (by decide) ?_
    exact gX7_nextToken_J142 hC hd0 1 ((wq_st M 0 14 y0).1 0 12) (wq_st M 0 14 y0)  h K
def fX7_nextToken_J113 (M : wq_M) : Option wq_M :=
  fX7_nextToken_J118 4 M
set_option maxHeartbeats 4000000 in
set_option maxRecDepth 100000 in
theorem gX7_nextToken_J113 {g : wq_G} {E : wq_E} {d : Nat} (hC : wq_C g E wq_yR cX7_nextToken 1 "WellPipesModel" (none) d) (hd0 : 1 ≤ d) (M : wq_M)  {x : wq_M} (h : fX7_nextToken_J113 M = some x) (K : (wq_kV g) x) : wq_g g E wq_yR 1 113 [some (.ref (E.2.1 0))] [.ref (E.2.1 0)] M := by
  unfold fX7_nextToken_J113 at h
  refine wq_iconst hC (v := 4) dX7_nextToken_113 (by decide) ?_
  refine wq_goto hC dX7_nextToken_114 (tgt := 118) (by decide) ?_
  exact gX7_nextToken_J118 hC hd0 4 M  h K
def fX7_nextToken_J34 (y0 : Int32) (M : wq_M) : Option wq_M :=
  (if ((wq_st M 0 15 y0).1 0 12) = ((wq_st M 0 15 y0).1 0 11) then
    fX7_nextToken_J118 1 (wq_st M 0 15 y0)
  else
    (fX7_in (((wq_st M 0 15 y0).1 0 15).toInt64) (97 : Int64) (122 : Int64) (wq_st M 0 15 y0)).bind fun r3 => (if r3 = true then
      fX7_nextToken_J118 2 (wq_st M 0 15 y0)
    else
      (fX7_in (((wq_st M 0 15 y0).1 0 15).toInt64) (48 : Int64) (57 : Int64) (wq_st M 0 15 y0)).bind fun r6 => (if r6 = true then
        fX7_nextToken_J118 3 (wq_st M 0 15 y0)
      else
        (if ((wq_st M 0 15 y0).1 0 15) = 44 then
          fX7_nextToken_J113 (wq_st M 0 15 y0)
        else
          (if ((wq_st M 0 15 y0).1 0 15) = 59 then
            fX7_nextToken_J113 (wq_st M 0 15 y0)
          else
            fX7_nextToken_J118 0 (wq_st M 0 15 y0))))))
set_option maxHeartbeats 4000000 in
set_option maxRecDepth 100000 in
theorem gX7_nextToken_J34 {g : wq_G} {E : wq_E} {d : Nat} (hC : wq_C g E wq_yR cX7_nextToken 1 "WellPipesModel" (none) d) (hd0 : 1 ≤ d) (y0 : Int32) (M : wq_M)  {x : wq_M} (h : fX7_nextToken_J34 y0 M = some x) (K : (wq_kV g) x) : wq_g g E wq_yR 1 34 [some (.ref (E.2.1 0))] [.int y0, .ref (E.2.1 0)] M := by
  unfold fX7_nextToken_J34 at h
  refine pf_7_15 hC oR_0 tw_733 dX7_nextToken_34 ?_
  refine wq_aload_n hC dX7_nextToken_37 (i := 0) rfl rfl ?_
  refine wq_aload_n hC dX7_nextToken_38 (i := 0) rfl rfl ?_
  refine gf_7 hC oR_0 12 (.int ((wq_st M 0 15 y0).1 0 12)) (by decide) rfl tw_730 dX7_nextToken_39 ?_
  refine wq_aload_n hC dX7_nextToken_42 (i := 0) rfl rfl ?_
  refine gf_7 hC oR_0 11 (.int ((wq_st M 0 15 y0).1 0 11)) (by decide) rfl tw_729 dX7_nextToken_43 ?_
  refine wq_icmp_ne hC dX7_nextToken_46 (tgt := 53) (by decide) (fun z2 => ?_) (fun z2 => ?_)
  · have h := wq_in_ z2 h
    refine wq_aload_n hC dX7_nextToken_53 (i := 0) rfl rfl ?_
    refine gf_7 hC oR_0 15 (.int ((wq_st M 0 15 y0).1 0 15)) (by decide) rfl tw_733 dX7_nextToken_54 ?_
    refine wq_i2l hC dX7_nextToken_57 ?_
    refine wq_ldc2 hC (v := (97 : Int64)) tw_851 dX7_nextToken_58 ?_
    refine wq_ldc2 hC (v := (122 : Int64)) tw_852 dX7_nextToken_61 ?_
    obtain ⟨r3, hc4, h⟩ := wq_ob h
    refine wq_callS hC (ctX7_in (d := d - 1) (by omega)  hc4) (by omega) (by decide) rfl npX7_in tw_806 tw_807 tw_58 tw_808 (st := [.ref (E.2.1 0)]) (Nat.le_of_ble_eq_true rfl) rfl dX7_nextToken_64 (st1 := [.int (wq_b r3), .ref (E.2.1 0)]) rfl ?_
    refine wq_bif_eq hC dX7_nextToken_67 (tgt := 74) (by decide) (fun z5 => ?_) (fun z5 => ?_)
    · have h := wq_in_ z5 h
      refine wq_aload_n hC dX7_nextToken_74 (i := 0) rfl rfl ?_
      refine gf_7 hC oR_0 15 (.int ((wq_st M 0 15 y0).1 0 15)) (by decide) rfl tw_733 dX7_nextToken_75 ?_
      refine wq_i2l hC dX7_nextToken_78 ?_
      refine wq_ldc2 hC (v := (48 : Int64)) tw_853 dX7_nextToken_79 ?_
      refine wq_ldc2 hC (v := (57 : Int64)) tw_854 dX7_nextToken_82 ?_
      obtain ⟨r6, hc7, h⟩ := wq_ob h
      refine wq_callS hC (ctX7_in (d := d - 1) (by omega)  hc7) (by omega) (by decide) rfl npX7_in tw_806 tw_807 tw_58 tw_808 (st := [.ref (E.2.1 0)]) (Nat.le_of_ble_eq_true rfl) rfl dX7_nextToken_85 (st1 := [.int (wq_b r6), .ref (E.2.1 0)]) rfl ?_
      refine wq_bif_eq hC dX7_nextToken_88 (tgt := 95) (by decide) (fun z8 => ?_) (fun z8 => ?_)
      · have h := wq_in_ z8 h
        refine wq_aload_n hC dX7_nextToken_95 (i := 0) rfl rfl ?_
        refine gf_7 hC oR_0 15 (.int ((wq_st M 0 15 y0).1 0 15)) (by decide) rfl tw_733 dX7_nextToken_96 ?_
        refine wq_bipush hC (v := 44) dX7_nextToken_99 (by decide) ?_
        refine wq_icmp_eq hC dX7_nextToken_101 (tgt := 113) (by decide) (fun z9 => ?_) (fun z9 => ?_)
        · have h := wq_ip z9 h
          exact gX7_nextToken_J113 hC hd0  (wq_st M 0 15 y0)  h K
        · have h := wq_in_ z9 h
          refine wq_aload_n hC dX7_nextToken_104 (i := 0) rfl rfl ?_
          refine gf_7 hC oR_0 15 (.int ((wq_st M 0 15 y0).1 0 15)) (by decide) rfl tw_733 dX7_nextToken_105 ?_
          refine wq_bipush hC (v := 59) dX7_nextToken_108 (by decide) ?_
          refine wq_icmp_ne hC dX7_nextToken_110 (tgt := 117) (by decide) (fun z22 => ?_) (fun z22 => ?_)
          · have h := wq_in_ z22 h
            refine wq_iconst hC (v := 0) dX7_nextToken_117 (by decide) ?_
            exact gX7_nextToken_J118 hC hd0 0 (wq_st M 0 15 y0)  h K
          · have h := wq_ip z22 h
            exact gX7_nextToken_J113 hC hd0  (wq_st M 0 15 y0)  h K
      · have h := wq_ip z8 h
        refine wq_iconst hC (v := 3) dX7_nextToken_91 (by decide) ?_
        refine wq_goto hC dX7_nextToken_92 (tgt := 118) (by decide) ?_
        exact gX7_nextToken_J118 hC hd0 3 (wq_st M 0 15 y0)  h K
    · have h := wq_ip z5 h
      refine wq_iconst hC (v := 2) dX7_nextToken_70 (by decide) ?_
      refine wq_goto hC dX7_nextToken_71 (tgt := 118) (by decide) ?_
      exact gX7_nextToken_J118 hC hd0 2 (wq_st M 0 15 y0)  h K
  · have h := wq_ip z2 h
    refine wq_iconst hC (v := 1) dX7_nextToken_49 (by decide) ?_
    refine wq_goto hC dX7_nextToken_50 (tgt := 118) (by decide) ?_
    exact gX7_nextToken_J118 hC hd0 1 (wq_st M 0 15 y0)  h K
def fX7_nextToken  (M : wq_M) : Option wq_M :=
  (if ((wq_st M 0 13 (M.1 0 12)).1 0 11) ≤ ((wq_st M 0 13 (M.1 0 12)).1 0 12) then
    fX7_nextToken_J34 (-1000000) (wq_st M 0 13 (M.1 0 12))
  else
    if wq_in ((wq_st M 0 13 (M.1 0 12)).1 0 12) 130 then fX7_nextToken_J34 ((wq_st M 0 13 (M.1 0 12)).1 8 ((wq_st M 0 13 (M.1 0 12)).1 0 12).toNatClampNeg) (wq_st M 0 13 (M.1 0 12)) else none)
set_option maxHeartbeats 4000000 in
set_option maxRecDepth 100000 in
theorem ctX7_nextToken {l : Launch} {E : wq_E} {d : Nat} (hd0 : 1 ≤ d)  {M : wq_M} {r : wq_M}  (h : fX7_nextToken M = some r) : wq_ct l E wq_yR yX7_nextToken cX7_nextToken 1 (none) d [.ref (E.2.1 0)] M (none) r := by
  refine wq_ent (own := "WellPipesModel") (lv0 := [some (.ref (E.2.1 0))]) (by decide +kernel) rfl (Nat.le_of_ble_eq_true rfl) rfl (fun g h1 h2 hC => ?_)
  have K : wq_kV g r := ⟨h1, h2⟩
  unfold fX7_nextToken at h
  refine wq_aload_n hC dX7_nextToken_0 (i := 0) rfl rfl ?_
  refine wq_aload_n hC dX7_nextToken_1 (i := 0) rfl rfl ?_
  refine gf_7 hC oR_0 12 (.int (M.1 0 12)) (by decide) rfl tw_730 dX7_nextToken_2 ?_
  refine pf_7_13 hC oR_0 tw_731 dX7_nextToken_5 ?_
  refine wq_aload_n hC dX7_nextToken_8 (i := 0) rfl rfl ?_
  refine wq_aload_n hC dX7_nextToken_9 (i := 0) rfl rfl ?_
  refine gf_7 hC oR_0 12 (.int ((wq_st M 0 13 (M.1 0 12)).1 0 12)) (by decide) rfl tw_730 dX7_nextToken_10 ?_
  refine wq_aload_n hC dX7_nextToken_13 (i := 0) rfl rfl ?_
  refine gf_7 hC oR_0 11 (.int ((wq_st M 0 13 (M.1 0 12)).1 0 11)) (by decide) rfl tw_729 dX7_nextToken_14 ?_
  refine wq_icmp_ge hC dX7_nextToken_17 (tgt := 32) (by decide) (fun z1 => ?_) (fun z1 => ?_)
  · have h := wq_ip z1 h
    refine wq_ldc hC (v := (-1000000)) tw_850 dX7_nextToken_32 ?_
    exact gX7_nextToken_J34 hC hd0 (-1000000) (wq_st M 0 13 (M.1 0 12))  h K
  · have h := wq_in_ z1 h
    refine wq_aload_n hC dX7_nextToken_20 (i := 0) rfl rfl ?_
    refine gf_7 hC oR_0 10 (.ref (E.2.1 8)) (by decide) rfl tw_728 dX7_nextToken_21 ?_
    refine wq_aload_n hC dX7_nextToken_24 (i := 0) rfl rfl ?_
    refine gf_7 hC oR_0 12 (.int ((wq_st M 0 13 (M.1 0 12)).1 0 12)) (by decide) rfl tw_730 dX7_nextToken_25 ?_
    obtain ⟨z23, h⟩ := wq_ii h
    refine wq_ald hC aR_8 z23 dX7_nextToken_28 ?_
    refine wq_goto hC dX7_nextToken_29 (tgt := 34) (by decide) ?_
    exact gX7_nextToken_J34 hC hd0 ((wq_st M 0 13 (M.1 0 12)).1 8 ((wq_st M 0 13 (M.1 0 12)).1 0 12).toNatClampNeg) (wq_st M 0 13 (M.1 0 12))  h K
theorem npX7_must : yX7_must.cls ≠ "java/lang/invoke/MethodHandle" ∧ yX7_must.cls ≠ "java/lang/invoke/VarHandle" ∧ (parseMethodDescriptor yX7_must.desc).map (fun d => d.parameters.length) = some 1 := by decide +kernel
def fX7_must_J9 (M : wq_M) : Option wq_M :=
  (if (M.1 0 16) = 0 then
    (fX7_nextToken  M).bind fun r3 => some r3
  else
    some M)
set_option maxHeartbeats 4000000 in
set_option maxRecDepth 100000 in
theorem gX7_must_J9 {g : wq_G} {E : wq_E} {d : Nat} (hC : wq_C g E wq_yR cX7_must 2 "WellPipesModel" (none) d) (hd0 : 2 ≤ d) (M : wq_M)  {x : wq_M} (h : fX7_must_J9 M = some x) (K : (wq_kV g) x) : wq_g g E wq_yR 2 9 [some (.ref (E.2.1 0)), none] [] M := by
  unfold fX7_must_J9 at h
  refine wq_aload_n hC dX7_must_9 (i := 0) rfl rfl ?_
  refine gf_7 hC oR_0 16 (.int (M.1 0 16)) (by decide) rfl tw_734 dX7_must_10 ?_
  refine wq_if_ne hC dX7_must_13 (tgt := 20) (by decide) (fun z2 => ?_) (fun z2 => ?_)
  · have h := wq_in_ z2 h
    have h := Option.some.inj h
    subst h
    exact wq_vret hC dX7_must_20 K.1 K.2
  · have h := wq_ip z2 h
    refine wq_aload_n hC dX7_must_16 (i := 0) rfl rfl ?_
    obtain ⟨r3, hc4, h⟩ := wq_ob h
    refine cv_7 hC (ctX7_nextToken (d := d - 1) (by omega)  hc4) (by omega) (by decide) oR_0 rfl rfl npX7_nextToken tw_846 tw_848 tw_24 tw_849 (st := []) (Nat.le_of_ble_eq_true rfl) rfl dX7_must_17 (st1 := []) rfl ?_
    have h := Option.some.inj h
    subst h
    exact wq_vret hC dX7_must_20 K.1 K.2
def fX7_must (x1 : Int32) (M : wq_M) : Option wq_M :=
  (if x1 = 0 then
    (fX7_bad 1 M).bind fun r5 => fX7_must_J9 r5
  else
    fX7_must_J9 M)
set_option maxHeartbeats 4000000 in
set_option maxRecDepth 100000 in
theorem ctX7_must {l : Launch} {E : wq_E} {d : Nat} (hd0 : 2 ≤ d) {x1 : Int32} {M : wq_M} {r : wq_M}  (h : fX7_must x1 M = some r) : wq_ct l E wq_yR yX7_must cX7_must 2 (none) d [.ref (E.2.1 0), .int x1] M (none) r := by
  refine wq_ent (own := "WellPipesModel") (lv0 := [some (.ref (E.2.1 0)), some (.int x1)]) (by decide +kernel) rfl (Nat.le_of_ble_eq_true rfl) rfl (fun g h1 h2 hC => ?_)
  have K : wq_kV g r := ⟨h1, h2⟩
  unfold fX7_must at h
  refine wq_iload_n hC dX7_must_0 (i := 1) rfl rfl ?_
  refine wq_if_ne hC dX7_must_1 (tgt := 9) (by decide) (fun z1 => ?_) (fun z1 => ?_)
  · have h := wq_in_ z1 h
    refine wq_mask [true, false] (lv' := [some (.ref (E.2.1 0)), none]) rfl ?_
    exact gX7_must_J9 hC hd0  M  h K
  · have h := wq_ip z1 h
    refine wq_aload_n hC dX7_must_4 (i := 0) rfl rfl ?_
    refine wq_iconst hC (v := 1) dX7_must_5 (by decide) ?_
    obtain ⟨r5, hc6, h⟩ := wq_ob h
    refine cv_7 hC (ctX7_bad (d := d - 1) (by omega)  hc6) (by omega) (by decide) oR_0 rfl rfl npX7_bad tw_863 tw_865 tw_27 tw_866 (st := []) (Nat.le_of_ble_eq_true rfl) rfl dX7_must_6 (st1 := []) rfl ?_
    refine wq_mask [true, false] (lv' := [some (.ref (E.2.1 0)), none]) rfl ?_
    exact gX7_must_J9 hC hd0  r5  h K
theorem npX7_isLetter : yX7_isLetter.cls ≠ "java/lang/invoke/MethodHandle" ∧ yX7_isLetter.cls ≠ "java/lang/invoke/VarHandle" ∧ (parseMethodDescriptor yX7_isLetter.desc).map (fun d => d.parameters.length) = some 1 := by decide +kernel
def fX7_isLetter (x1 : Int32) (M : wq_M) : Option Bool :=
  (if (M.1 0 16) = 0 then
    (if (M.1 0 14) = 2 then
      (if (M.1 0 15) = x1 then
        some true
      else
        some false)
    else
      some false)
  else
    some false)
set_option maxHeartbeats 4000000 in
set_option maxRecDepth 100000 in
theorem ctX7_isLetter {l : Launch} {E : wq_E} {d : Nat} (hd0 : 0 ≤ d) {x1 : Int32} {M : wq_M} {r : Bool}  (h : fX7_isLetter x1 M = some r) : wq_ct l E wq_yR yX7_isLetter cX7_isLetter 2 (some .boolean) d [.ref (E.2.1 0), .int x1] M (some (.int (wq_b r))) M := by
  refine wq_ent (own := "WellPipesModel") (lv0 := [some (.ref (E.2.1 0)), some (.int x1)]) (by decide +kernel) rfl (Nat.le_of_ble_eq_true rfl) rfl (fun g h1 h2 hC => ?_)
  have K : wq_kb g M r := ⟨h1, h2⟩
  unfold fX7_isLetter at h
  refine wq_aload_n hC dX7_isLetter_0 (i := 0) rfl rfl ?_
  refine gf_7 hC oR_0 16 (.int (M.1 0 16)) (by decide) rfl tw_734 dX7_isLetter_1 ?_
  refine wq_if_ne hC dX7_isLetter_4 (tgt := 27) (by decide) (fun z1 => ?_) (fun z1 => ?_)
  · have h := wq_in_ z1 h
    refine wq_iconst hC (v := 0) dX7_isLetter_27 (by decide) ?_
    have h := Option.some.inj h
    subst h
    exact wq_zret hC (b := false) dX7_isLetter_28 (by decide) K.1 K.2
  · have h := wq_ip z1 h
    refine wq_aload_n hC dX7_isLetter_7 (i := 0) rfl rfl ?_
    refine gf_7 hC oR_0 14 (.int (M.1 0 14)) (by decide) rfl tw_732 dX7_isLetter_8 ?_
    refine wq_iconst hC (v := 2) dX7_isLetter_11 (by decide) ?_
    refine wq_icmp_ne hC dX7_isLetter_12 (tgt := 27) (by decide) (fun z2 => ?_) (fun z2 => ?_)
    · have h := wq_in_ z2 h
      refine wq_iconst hC (v := 0) dX7_isLetter_27 (by decide) ?_
      have h := Option.some.inj h
      subst h
      exact wq_zret hC (b := false) dX7_isLetter_28 (by decide) K.1 K.2
    · have h := wq_ip z2 h
      refine wq_aload_n hC dX7_isLetter_15 (i := 0) rfl rfl ?_
      refine gf_7 hC oR_0 15 (.int (M.1 0 15)) (by decide) rfl tw_733 dX7_isLetter_16 ?_
      refine wq_iload_n hC dX7_isLetter_19 (i := 1) rfl rfl ?_
      refine wq_icmp_ne hC dX7_isLetter_20 (tgt := 27) (by decide) (fun z3 => ?_) (fun z3 => ?_)
      · have h := wq_in_ z3 h
        refine wq_iconst hC (v := 0) dX7_isLetter_27 (by decide) ?_
        have h := Option.some.inj h
        subst h
        exact wq_zret hC (b := false) dX7_isLetter_28 (by decide) K.1 K.2
      · have h := wq_ip z3 h
        refine wq_iconst hC (v := 1) dX7_isLetter_23 (by decide) ?_
        refine wq_goto hC dX7_isLetter_24 (tgt := 28) (by decide) ?_
        have h := Option.some.inj h
        subst h
        exact wq_zret hC (b := true) dX7_isLetter_28 (by decide) K.1 K.2
theorem npX7_number : yX7_number.cls ≠ "java/lang/invoke/MethodHandle" ∧ yX7_number.cls ≠ "java/lang/invoke/VarHandle" ∧ (parseMethodDescriptor yX7_number.desc).map (fun d => d.parameters.length) = some 2 := by decide +kernel
def fX7_number_J62 (y0 : Int32) (M : wq_M) : Option (Int32 × wq_M) :=
  (fX7_must 1 M).bind fun r4 => some (y0, r4)
set_option maxHeartbeats 4000000 in
set_option maxRecDepth 100000 in
theorem gX7_number_J62 {g : wq_G} {E : wq_E} {d : Nat} (hC : wq_C g E wq_yR cX7_number 4 "WellPipesModel" (some .int) d) (hd0 : 3 ≤ d) (y0 : Int32) (M : wq_M)  {x : (Int32 × wq_M)} (h : fX7_number_J62 y0 M = some x) (K : (wq_kI g) x) : wq_g g E wq_yR 4 62 [some (.ref (E.2.1 0)), none, none, none] [.int y0] M := by
  unfold fX7_number_J62 at h
  refine wq_istore_n hC dX7_number_62 (i := 3) (lv' := [some (.ref (E.2.1 0)), none, none, some (.int y0)]) rfl (by decide) rfl ?_
  refine wq_aload_n hC dX7_number_63 (i := 0) rfl rfl ?_
  refine wq_iconst hC (v := 1) dX7_number_64 (by decide) ?_
  obtain ⟨r4, hc5, h⟩ := wq_ob h
  refine cv_7 hC (ctX7_must (d := d - 1) (by omega)  hc5) (by omega) (by decide) oR_0 rfl rfl npX7_must tw_859 tw_861 tw_26 tw_862 (st := []) (Nat.le_of_ble_eq_true rfl) rfl dX7_number_65 (st1 := []) rfl ?_
  refine wq_iload_n hC dX7_number_68 (i := 3) rfl rfl ?_
  have h := Option.some.inj h
  subst h
  exact wq_iret hC dX7_number_69 K.1 K.2
def fX7_number_J47 (x1 : Int32) (M : wq_M) : Option (Int32 × wq_M) :=
  (if (M.1 0 16) = 0 then
    fX7_number_J62 (M.1 0 15) M
  else
    fX7_number_J62 x1 M)
set_option maxHeartbeats 4000000 in
set_option maxRecDepth 100000 in
theorem gX7_number_J47 {g : wq_G} {E : wq_E} {d : Nat} (hC : wq_C g E wq_yR cX7_number 4 "WellPipesModel" (some .int) d) (hd0 : 3 ≤ d) (x1 : Int32) (M : wq_M)  {x : (Int32 × wq_M)} (h : fX7_number_J47 x1 M = some x) (K : (wq_kI g) x) : wq_g g E wq_yR 4 47 [some (.ref (E.2.1 0)), some (.int x1), none, none] [] M := by
  unfold fX7_number_J47 at h
  refine wq_aload_n hC dX7_number_47 (i := 0) rfl rfl ?_
  refine gf_7 hC oR_0 16 (.int (M.1 0 16)) (by decide) rfl tw_734 dX7_number_48 ?_
  refine wq_if_ne hC dX7_number_51 (tgt := 61) (by decide) (fun z3 => ?_) (fun z3 => ?_)
  · have h := wq_in_ z3 h
    refine wq_iload_n hC dX7_number_61 (i := 1) rfl rfl ?_
    refine wq_mask [true, false, false, false] (lv' := [some (.ref (E.2.1 0)), none, none, none]) rfl ?_
    exact gX7_number_J62 hC hd0 x1 M  h K
  · have h := wq_ip z3 h
    refine wq_aload_n hC dX7_number_54 (i := 0) rfl rfl ?_
    refine gf_7 hC oR_0 15 (.int (M.1 0 15)) (by decide) rfl tw_733 dX7_number_55 ?_
    refine wq_goto hC dX7_number_58 (tgt := 62) (by decide) ?_
    refine wq_mask [true, false, false, false] (lv' := [some (.ref (E.2.1 0)), none, none, none]) rfl ?_
    exact gX7_number_J62 hC hd0 (M.1 0 15) M  h K
def fX7_number_J20 (x1 : Int32) (x2 : Int32) (M : wq_M) : Option (Int32 × wq_M) :=
  (if (M.1 0 16) = 0 then
    (fX7_in ((M.1 0 15).toInt64) x1.toInt64 x2.toInt64 M).bind fun r6 => (if r6 = true then
      fX7_number_J47 x1 M
    else
      (fX7_bad 2 M).bind fun r9 => fX7_number_J47 x1 r9)
  else
    fX7_number_J47 x1 M)
set_option maxHeartbeats 4000000 in
set_option maxRecDepth 100000 in
theorem gX7_number_J20 {g : wq_G} {E : wq_E} {d : Nat} (hC : wq_C g E wq_yR cX7_number 4 "WellPipesModel" (some .int) d) (hd0 : 3 ≤ d) (x1 : Int32) (x2 : Int32) (M : wq_M)  {x : (Int32 × wq_M)} (h : fX7_number_J20 x1 x2 M = some x) (K : (wq_kI g) x) : wq_g g E wq_yR 4 20 [some (.ref (E.2.1 0)), some (.int x1), some (.int x2), none] [] M := by
  unfold fX7_number_J20 at h
  refine wq_aload_n hC dX7_number_20 (i := 0) rfl rfl ?_
  refine gf_7 hC oR_0 16 (.int (M.1 0 16)) (by decide) rfl tw_734 dX7_number_21 ?_
  refine wq_if_ne hC dX7_number_24 (tgt := 47) (by decide) (fun z2 => ?_) (fun z2 => ?_)
  · have h := wq_in_ z2 h
    refine wq_mask [true, true, false, false] (lv' := [some (.ref (E.2.1 0)), some (.int x1), none, none]) rfl ?_
    exact gX7_number_J47 hC hd0 x1 M  h K
  · have h := wq_ip z2 h
    refine wq_aload_n hC dX7_number_27 (i := 0) rfl rfl ?_
    refine gf_7 hC oR_0 15 (.int (M.1 0 15)) (by decide) rfl tw_733 dX7_number_28 ?_
    refine wq_i2l hC dX7_number_31 ?_
    refine wq_iload_n hC dX7_number_32 (i := 1) rfl rfl ?_
    refine wq_i2l hC dX7_number_33 ?_
    refine wq_iload_n hC dX7_number_34 (i := 2) rfl rfl ?_
    refine wq_i2l hC dX7_number_35 ?_
    obtain ⟨r6, hc7, h⟩ := wq_ob h
    refine wq_callS hC (ctX7_in (d := d - 1) (by omega)  hc7) (by omega) (by decide) rfl npX7_in tw_806 tw_807 tw_58 tw_808 (st := []) (Nat.le_of_ble_eq_true rfl) rfl dX7_number_36 (st1 := [.int (wq_b r6)]) rfl ?_
    refine wq_bif_ne hC dX7_number_39 (tgt := 47) (by decide) (fun z8 => ?_) (fun z8 => ?_)
    · have h := wq_ip z8 h
      refine wq_mask [true, true, false, false] (lv' := [some (.ref (E.2.1 0)), some (.int x1), none, none]) rfl ?_
      exact gX7_number_J47 hC hd0 x1 M  h K
    · have h := wq_in_ z8 h
      refine wq_aload_n hC dX7_number_42 (i := 0) rfl rfl ?_
      refine wq_iconst hC (v := 2) dX7_number_43 (by decide) ?_
      obtain ⟨r9, hc10, h⟩ := wq_ob h
      refine cv_7 hC (ctX7_bad (d := d - 1) (by omega)  hc10) (by omega) (by decide) oR_0 rfl rfl npX7_bad tw_863 tw_865 tw_27 tw_866 (st := []) (Nat.le_of_ble_eq_true rfl) rfl dX7_number_44 (st1 := []) rfl ?_
      refine wq_mask [true, true, false, false] (lv' := [some (.ref (E.2.1 0)), some (.int x1), none, none]) rfl ?_
      exact gX7_number_J47 hC hd0 x1 r9  h K
def fX7_number (x1 : Int32) (x2 : Int32) (M : wq_M) : Option (Int32 × wq_M) :=
  (if (M.1 0 16) = 0 then
    (if (M.1 0 14) = 3 then
      fX7_number_J20 x1 x2 M
    else
      (fX7_bad 1 M).bind fun r12 => fX7_number_J20 x1 x2 r12)
  else
    fX7_number_J20 x1 x2 M)
set_option maxHeartbeats 4000000 in
set_option maxRecDepth 100000 in
theorem ctX7_number {l : Launch} {E : wq_E} {d : Nat} (hd0 : 3 ≤ d) {x1 : Int32} {x2 : Int32} {M : wq_M} {r : (Int32 × wq_M)}  (h : fX7_number x1 x2 M = some r) : wq_ct l E wq_yR yX7_number cX7_number 4 (some .int) d [.ref (E.2.1 0), .int x1, .int x2] M (some (.int r.1)) r.2 := by
  refine wq_ent (own := "WellPipesModel") (lv0 := [some (.ref (E.2.1 0)), some (.int x1), some (.int x2), none]) (by decide +kernel) rfl (Nat.le_of_ble_eq_true rfl) rfl (fun g h1 h2 hC => ?_)
  have K : wq_kI g r := ⟨h1, h2⟩
  unfold fX7_number at h
  refine wq_aload_n hC dX7_number_0 (i := 0) rfl rfl ?_
  refine gf_7 hC oR_0 16 (.int (M.1 0 16)) (by decide) rfl tw_734 dX7_number_1 ?_
  refine wq_if_ne hC dX7_number_4 (tgt := 20) (by decide) (fun z1 => ?_) (fun z1 => ?_)
  · have h := wq_in_ z1 h
    exact gX7_number_J20 hC hd0 x1 x2 M  h K
  · have h := wq_ip z1 h
    refine wq_aload_n hC dX7_number_7 (i := 0) rfl rfl ?_
    refine gf_7 hC oR_0 14 (.int (M.1 0 14)) (by decide) rfl tw_732 dX7_number_8 ?_
    refine wq_iconst hC (v := 3) dX7_number_11 (by decide) ?_
    refine wq_icmp_eq hC dX7_number_12 (tgt := 20) (by decide) (fun z11 => ?_) (fun z11 => ?_)
    · have h := wq_ip z11 h
      exact gX7_number_J20 hC hd0 x1 x2 M  h K
    · have h := wq_in_ z11 h
      refine wq_aload_n hC dX7_number_15 (i := 0) rfl rfl ?_
      refine wq_iconst hC (v := 1) dX7_number_16 (by decide) ?_
      obtain ⟨r12, hc13, h⟩ := wq_ob h
      refine cv_7 hC (ctX7_bad (d := d - 1) (by omega)  hc13) (by omega) (by decide) oR_0 rfl rfl npX7_bad tw_863 tw_865 tw_27 tw_866 (st := []) (Nat.le_of_ble_eq_true rfl) rfl dX7_number_17 (st1 := []) rfl ?_
      exact gX7_number_J20 hC hd0 x1 x2 r12  h K
theorem npX7_mustSign : yX7_mustSign.cls ≠ "java/lang/invoke/MethodHandle" ∧ yX7_mustSign.cls ≠ "java/lang/invoke/VarHandle" ∧ (parseMethodDescriptor yX7_mustSign.desc).map (fun d => d.parameters.length) = some 1 := by decide +kernel
def fX7_mustSign (x1 : Int32) (M : wq_M) : Option wq_M :=
  (if (M.1 0 14) = 4 then
    (if (M.1 0 15) = x1 then
      (fX7_must 1 M).bind fun r7 => some r7
    else
      (fX7_must 0 M).bind fun r5 => some r5)
  else
    (fX7_must 0 M).bind fun r2 => some r2)
set_option maxHeartbeats 4000000 in
set_option maxRecDepth 100000 in
theorem ctX7_mustSign {l : Launch} {E : wq_E} {d : Nat} (hd0 : 3 ≤ d) {x1 : Int32} {M : wq_M} {r : wq_M}  (h : fX7_mustSign x1 M = some r) : wq_ct l E wq_yR yX7_mustSign cX7_mustSign 2 (none) d [.ref (E.2.1 0), .int x1] M (none) r := by
  refine wq_ent (own := "WellPipesModel") (lv0 := [some (.ref (E.2.1 0)), some (.int x1)]) (by decide +kernel) rfl (Nat.le_of_ble_eq_true rfl) rfl (fun g h1 h2 hC => ?_)
  have K : wq_kV g r := ⟨h1, h2⟩
  unfold fX7_mustSign at h
  refine wq_aload_n hC dX7_mustSign_0 (i := 0) rfl rfl ?_
  refine wq_aload_n hC dX7_mustSign_1 (i := 0) rfl rfl ?_
  refine gf_7 hC oR_0 14 (.int (M.1 0 14)) (by decide) rfl tw_732 dX7_mustSign_2 ?_
  refine wq_iconst hC (v := 4) dX7_mustSign_5 (by decide) ?_
  refine wq_icmp_ne hC dX7_mustSign_6 (tgt := 21) (by decide) (fun z1 => ?_) (fun z1 => ?_)
  · have h := wq_in_ z1 h
    refine wq_iconst hC (v := 0) dX7_mustSign_21 (by decide) ?_
    obtain ⟨r2, hc3, h⟩ := wq_ob h
    refine cv_7 hC (ctX7_must (d := d - 1) (by omega)  hc3) (by omega) (by decide) oR_0 rfl rfl npX7_must tw_859 tw_861 tw_26 tw_862 (st := []) (Nat.le_of_ble_eq_true rfl) rfl dX7_mustSign_22 (st1 := []) rfl ?_
    have h := Option.some.inj h
    subst h
    exact wq_vret hC dX7_mustSign_25 K.1 K.2
  · have h := wq_ip z1 h
    refine wq_aload_n hC dX7_mustSign_9 (i := 0) rfl rfl ?_
    refine gf_7 hC oR_0 15 (.int (M.1 0 15)) (by decide) rfl tw_733 dX7_mustSign_10 ?_
    refine wq_iload_n hC dX7_mustSign_13 (i := 1) rfl rfl ?_
    refine wq_icmp_ne hC dX7_mustSign_14 (tgt := 21) (by decide) (fun z4 => ?_) (fun z4 => ?_)
    · have h := wq_in_ z4 h
      refine wq_iconst hC (v := 0) dX7_mustSign_21 (by decide) ?_
      obtain ⟨r5, hc6, h⟩ := wq_ob h
      refine cv_7 hC (ctX7_must (d := d - 1) (by omega)  hc6) (by omega) (by decide) oR_0 rfl rfl npX7_must tw_859 tw_861 tw_26 tw_862 (st := []) (Nat.le_of_ble_eq_true rfl) rfl dX7_mustSign_22 (st1 := []) rfl ?_
      have h := Option.some.inj h
      subst h
      exact wq_vret hC dX7_mustSign_25 K.1 K.2
    · have h := wq_ip z4 h
      refine wq_iconst hC (v := 1) dX7_mustSign_17 (by decide) ?_
      refine wq_goto hC dX7_mustSign_18 (tgt := 22) (by decide) ?_
      obtain ⟨r7, hc8, h⟩ := wq_ob h
      refine cv_7 hC (ctX7_must (d := d - 1) (by omega)  hc8) (by omega) (by decide) oR_0 rfl rfl npX7_must tw_859 tw_861 tw_26 tw_862 (st := []) (Nat.le_of_ble_eq_true rfl) rfl dX7_mustSign_22 (st1 := []) rfl ?_
      have h := Option.some.inj h
      subst h
      exact wq_vret hC dX7_mustSign_25 K.1 K.2
theorem npX7_begin : yX7_begin.cls ≠ "java/lang/invoke/MethodHandle" ∧ yX7_begin.cls ≠ "java/lang/invoke/VarHandle" ∧ (parseMethodDescriptor yX7_begin.desc).map (fun d => d.parameters.length) = some 0 := by decide +kernel
def fX7_begin  (M : wq_M) : Option wq_M :=
  (fX7_nextToken  (wq_st (wq_st M 0 12 0) 0 16 0)).bind fun r1 => some r1
set_option maxHeartbeats 4000000 in
set_option maxRecDepth 100000 in
theorem ctX7_begin {l : Launch} {E : wq_E} {d : Nat} (hd0 : 2 ≤ d)  {M : wq_M} {r : wq_M}  (h : fX7_begin M = some r) : wq_ct l E wq_yR yX7_begin cX7_begin 1 (none) d [.ref (E.2.1 0)] M (none) r := by
  refine wq_ent (own := "WellPipesModel") (lv0 := [some (.ref (E.2.1 0))]) (by decide +kernel) rfl (Nat.le_of_ble_eq_true rfl) rfl (fun g h1 h2 hC => ?_)
  have K : wq_kV g r := ⟨h1, h2⟩
  unfold fX7_begin at h
  refine wq_aload_n hC dX7_begin_0 (i := 0) rfl rfl ?_
  refine wq_iconst hC (v := 0) dX7_begin_1 (by decide) ?_
  refine pf_7_12 hC oR_0 tw_730 dX7_begin_2 ?_
  refine wq_aload_n hC dX7_begin_5 (i := 0) rfl rfl ?_
  refine wq_iconst hC (v := 0) dX7_begin_6 (by decide) ?_
  refine pf_7_16 hC oR_0 tw_734 dX7_begin_7 ?_
  refine wq_aload_n hC dX7_begin_10 (i := 0) rfl rfl ?_
  obtain ⟨r1, hc2, h⟩ := wq_ob h
  refine cv_7 hC (ctX7_nextToken (d := d - 1) (by omega)  hc2) (by omega) (by decide) oR_0 rfl rfl npX7_nextToken tw_846 tw_848 tw_24 tw_849 (st := []) (Nat.le_of_ble_eq_true rfl) rfl dX7_begin_11 (st1 := []) rfl ?_
  have h := Option.some.inj h
  subst h
  exact wq_vret hC dX7_begin_14 K.1 K.2
theorem npX7_failed : yX7_failed.cls ≠ "java/lang/invoke/MethodHandle" ∧ yX7_failed.cls ≠ "java/lang/invoke/VarHandle" ∧ (parseMethodDescriptor yX7_failed.desc).map (fun d => d.parameters.length) = some 0 := by decide +kernel
def fX7_failed_J44 (y0 : Int32) (M : wq_M) : Option (Bool × wq_M) :=
  (if ((wq_st M 0 18 y0).1 0 16) ≤ 0 then
    some (false, (wq_st M 0 18 y0))
  else
    some (true, (wq_st M 0 18 y0)))
set_option maxHeartbeats 4000000 in
set_option maxRecDepth 100000 in
theorem gX7_failed_J44 {g : wq_G} {E : wq_E} {d : Nat} (hC : wq_C g E wq_yR cX7_failed 1 "WellPipesModel" (some .boolean) d) (hd0 : 1 ≤ d) (y0 : Int32) (M : wq_M)  {x : (Bool × wq_M)} (h : fX7_failed_J44 y0 M = some x) (K : (wq_kB g) x) : wq_g g E wq_yR 1 44 [some (.ref (E.2.1 0))] [.int y0, .ref (E.2.1 0)] M := by
  unfold fX7_failed_J44 at h
  refine pf_7_18 hC oR_0 tw_736 dX7_failed_44 ?_
  refine wq_aload_n hC dX7_failed_47 (i := 0) rfl rfl ?_
  refine gf_7 hC oR_0 16 (.int ((wq_st M 0 18 y0).1 0 16)) (by decide) rfl tw_734 dX7_failed_48 ?_
  refine wq_if_le hC dX7_failed_51 (tgt := 58) (by decide) (fun z3 => ?_) (fun z3 => ?_)
  · have h := wq_ip z3 h
    refine wq_iconst hC (v := 0) dX7_failed_58 (by decide) ?_
    have h := Option.some.inj h
    subst h
    exact wq_zret hC (b := false) dX7_failed_59 (by decide) K.1 K.2
  · have h := wq_in_ z3 h
    refine wq_iconst hC (v := 1) dX7_failed_54 (by decide) ?_
    refine wq_goto hC dX7_failed_55 (tgt := 59) (by decide) ?_
    have h := Option.some.inj h
    subst h
    exact wq_zret hC (b := true) dX7_failed_59 (by decide) K.1 K.2
def fX7_failed_J20 (M : wq_M) : Option (Bool × wq_M) :=
  (if ((wq_st M 0 11 0).1 0 16) ≤ 0 then
    fX7_failed_J44 ((wq_st M 0 11 0).1 0 18) (wq_st M 0 11 0)
  else
    fX7_failed_J44 ((wq_st M 0 11 0).1 0 16) (wq_st M 0 11 0))
set_option maxHeartbeats 4000000 in
set_option maxRecDepth 100000 in
theorem gX7_failed_J20 {g : wq_G} {E : wq_E} {d : Nat} (hC : wq_C g E wq_yR cX7_failed 1 "WellPipesModel" (some .boolean) d) (hd0 : 1 ≤ d) (M : wq_M)  {x : (Bool × wq_M)} (h : fX7_failed_J20 M = some x) (K : (wq_kB g) x) : wq_g g E wq_yR 1 20 [some (.ref (E.2.1 0))] [] M := by
  unfold fX7_failed_J20 at h
  refine wq_aload_n hC dX7_failed_20 (i := 0) rfl rfl ?_
  refine wq_iconst hC (v := 0) dX7_failed_21 (by decide) ?_
  refine pf_7_11 hC oR_0 tw_729 dX7_failed_22 ?_
  refine wq_aload_n hC dX7_failed_25 (i := 0) rfl rfl ?_
  refine wq_aload_n hC dX7_failed_26 (i := 0) rfl rfl ?_
  refine gf_7 hC oR_0 16 (.int ((wq_st M 0 11 0).1 0 16)) (by decide) rfl tw_734 dX7_failed_27 ?_
  refine wq_if_le hC dX7_failed_30 (tgt := 40) (by decide) (fun z2 => ?_) (fun z2 => ?_)
  · have h := wq_ip z2 h
    refine wq_aload_n hC dX7_failed_40 (i := 0) rfl rfl ?_
    refine gf_7 hC oR_0 18 (.int ((wq_st M 0 11 0).1 0 18)) (by decide) rfl tw_736 dX7_failed_41 ?_
    exact gX7_failed_J44 hC hd0 ((wq_st M 0 11 0).1 0 18) (wq_st M 0 11 0)  h K
  · have h := wq_in_ z2 h
    refine wq_aload_n hC dX7_failed_33 (i := 0) rfl rfl ?_
    refine gf_7 hC oR_0 16 (.int ((wq_st M 0 11 0).1 0 16)) (by decide) rfl tw_734 dX7_failed_34 ?_
    refine wq_goto hC dX7_failed_37 (tgt := 44) (by decide) ?_
    exact gX7_failed_J44 hC hd0 ((wq_st M 0 11 0).1 0 16) (wq_st M 0 11 0)  h K
def fX7_failed  (M : wq_M) : Option (Bool × wq_M) :=
  (if (M.1 0 16) = 0 then
    (if (M.1 0 14) = 1 then
      fX7_failed_J20 M
    else
      (fX7_bad 1 M).bind fun r5 => fX7_failed_J20 r5)
  else
    fX7_failed_J20 M)
set_option maxHeartbeats 4000000 in
set_option maxRecDepth 100000 in
theorem ctX7_failed {l : Launch} {E : wq_E} {d : Nat} (hd0 : 1 ≤ d)  {M : wq_M} {r : (Bool × wq_M)}  (h : fX7_failed M = some r) : wq_ct l E wq_yR yX7_failed cX7_failed 1 (some .boolean) d [.ref (E.2.1 0)] M (some (.int (wq_b r.1))) r.2 := by
  refine wq_ent (own := "WellPipesModel") (lv0 := [some (.ref (E.2.1 0))]) (by decide +kernel) rfl (Nat.le_of_ble_eq_true rfl) rfl (fun g h1 h2 hC => ?_)
  have K : wq_kB g r := ⟨h1, h2⟩
  unfold fX7_failed at h
  refine wq_aload_n hC dX7_failed_0 (i := 0) rfl rfl ?_
  refine gf_7 hC oR_0 16 (.int (M.1 0 16)) (by decide) rfl tw_734 dX7_failed_1 ?_
  refine wq_if_ne hC dX7_failed_4 (tgt := 20) (by decide) (fun z1 => ?_) (fun z1 => ?_)
  · have h := wq_in_ z1 h
    exact gX7_failed_J20 hC hd0  M  h K
  · have h := wq_ip z1 h
    refine wq_aload_n hC dX7_failed_7 (i := 0) rfl rfl ?_
    refine gf_7 hC oR_0 14 (.int (M.1 0 14)) (by decide) rfl tw_732 dX7_failed_8 ?_
    refine wq_iconst hC (v := 1) dX7_failed_11 (by decide) ?_
    refine wq_icmp_eq hC dX7_failed_12 (tgt := 20) (by decide) (fun z4 => ?_) (fun z4 => ?_)
    · have h := wq_ip z4 h
      exact gX7_failed_J20 hC hd0  M  h K
    · have h := wq_in_ z4 h
      refine wq_aload_n hC dX7_failed_15 (i := 0) rfl rfl ?_
      refine wq_iconst hC (v := 1) dX7_failed_16 (by decide) ?_
      obtain ⟨r5, hc6, h⟩ := wq_ob h
      refine cv_7 hC (ctX7_bad (d := d - 1) (by omega)  hc6) (by omega) (by decide) oR_0 rfl rfl npX7_bad tw_863 tw_865 tw_27 tw_866 (st := []) (Nat.le_of_ble_eq_true rfl) rfl dX7_failed_17 (st1 := []) rfl ?_
      exact gX7_failed_J20 hC hd0  r5  h K
theorem npX7_fault : yX7_fault.cls ≠ "java/lang/invoke/MethodHandle" ∧ yX7_fault.cls ≠ "java/lang/invoke/VarHandle" ∧ (parseMethodDescriptor yX7_fault.desc).map (fun d => d.parameters.length) = some 0 := by decide +kernel
def fX7_fault  (M : wq_M) : Option (Int32 × wq_M) :=
  some (((wq_st M 0 0 0).1 0 18), (wq_st M 0 0 0))
set_option maxHeartbeats 4000000 in
set_option maxRecDepth 100000 in
theorem ctX7_fault {l : Launch} {E : wq_E} {d : Nat} (hd0 : 0 ≤ d)  {M : wq_M} {r : (Int32 × wq_M)}  (h : fX7_fault M = some r) : wq_ct l E wq_yR yX7_fault cX7_fault 1 (some .int) d [.ref (E.2.1 0)] M (some (.int r.1)) r.2 := by
  refine wq_ent (own := "WellPipesModel") (lv0 := [some (.ref (E.2.1 0))]) (by decide +kernel) rfl (Nat.le_of_ble_eq_true rfl) rfl (fun g h1 h2 hC => ?_)
  have K : wq_kI g r := ⟨h1, h2⟩
  unfold fX7_fault at h
  refine wq_aload_n hC dX7_fault_0 (i := 0) rfl rfl ?_
  refine wq_iconst hC (v := 0) dX7_fault_1 (by decide) ?_
  refine pf_7_0 hC oR_0 tw_718 dX7_fault_2 ?_
  refine wq_aload_n hC dX7_fault_5 (i := 0) rfl rfl ?_
  refine gf_7 hC oR_0 18 (.int ((wq_st M 0 0 0).1 0 18)) (by decide) rfl tw_736 dX7_fault_6 ?_
  have h := Option.some.inj h
  subst h
  exact wq_iret hC dX7_fault_9 K.1 K.2
theorem npX7_kindBy : yX7_kindBy.cls ≠ "java/lang/invoke/MethodHandle" ∧ yX7_kindBy.cls ≠ "java/lang/invoke/VarHandle" ∧ (parseMethodDescriptor yX7_kindBy.desc).map (fun d => d.parameters.length) = some 1 := by decide +kernel
def fX7_kindBy (x0 : Int32) (M : wq_M) : Option Int32 :=
  (if x0 = 112 then
    some 1
  else
    (if x0 = 104 then
      some 2
    else
      (if x0 = 98 then
        some 3
      else
        (if x0 = 116 then
          some 4
        else
          (if x0 = 108 then
            some 5
          else
            some (-1000000))))))
set_option maxHeartbeats 4000000 in
set_option maxRecDepth 100000 in
theorem ctX7_kindBy {l : Launch} {E : wq_E} {d : Nat} (hd0 : 0 ≤ d) {x0 : Int32} {M : wq_M} {r : Int32}  (h : fX7_kindBy x0 M = some r) : wq_ct l E wq_yR yX7_kindBy cX7_kindBy 1 (some .int) d [.int x0] M (some (.int r)) M := by
  refine wq_ent (own := "WellPipesModel") (lv0 := [some (.int x0)]) (by decide +kernel) rfl (Nat.le_of_ble_eq_true rfl) rfl (fun g h1 h2 hC => ?_)
  have K : wq_ki g M r := ⟨h1, h2⟩
  unfold fX7_kindBy at h
  refine wq_iload_n hC dX7_kindBy_0 (i := 0) rfl rfl ?_
  refine wq_bipush hC (v := 112) dX7_kindBy_1 (by decide) ?_
  refine wq_icmp_ne hC dX7_kindBy_3 (tgt := 10) (by decide) (fun z1 => ?_) (fun z1 => ?_)
  · have h := wq_in_ z1 h
    refine wq_iload_n hC dX7_kindBy_10 (i := 0) rfl rfl ?_
    refine wq_bipush hC (v := 104) dX7_kindBy_11 (by decide) ?_
    refine wq_icmp_ne hC dX7_kindBy_13 (tgt := 20) (by decide) (fun z2 => ?_) (fun z2 => ?_)
    · have h := wq_in_ z2 h
      refine wq_iload_n hC dX7_kindBy_20 (i := 0) rfl rfl ?_
      refine wq_bipush hC (v := 98) dX7_kindBy_21 (by decide) ?_
      refine wq_icmp_ne hC dX7_kindBy_23 (tgt := 30) (by decide) (fun z3 => ?_) (fun z3 => ?_)
      · have h := wq_in_ z3 h
        refine wq_iload_n hC dX7_kindBy_30 (i := 0) rfl rfl ?_
        refine wq_bipush hC (v := 116) dX7_kindBy_31 (by decide) ?_
        refine wq_icmp_ne hC dX7_kindBy_33 (tgt := 40) (by decide) (fun z4 => ?_) (fun z4 => ?_)
        · have h := wq_in_ z4 h
          refine wq_iload_n hC dX7_kindBy_40 (i := 0) rfl rfl ?_
          refine wq_bipush hC (v := 108) dX7_kindBy_41 (by decide) ?_
          refine wq_icmp_ne hC dX7_kindBy_43 (tgt := 50) (by decide) (fun z5 => ?_) (fun z5 => ?_)
          · have h := wq_in_ z5 h
            refine wq_ldc hC (v := (-1000000)) tw_850 dX7_kindBy_50 ?_
            have h := Option.some.inj h
            subst h
            exact wq_iret hC dX7_kindBy_52 K.1 K.2
          · have h := wq_ip z5 h
            refine wq_iconst hC (v := 5) dX7_kindBy_46 (by decide) ?_
            refine wq_goto hC dX7_kindBy_47 (tgt := 52) (by decide) ?_
            have h := Option.some.inj h
            subst h
            exact wq_iret hC dX7_kindBy_52 K.1 K.2
        · have h := wq_ip z4 h
          refine wq_iconst hC (v := 4) dX7_kindBy_36 (by decide) ?_
          refine wq_goto hC dX7_kindBy_37 (tgt := 52) (by decide) ?_
          have h := Option.some.inj h
          subst h
          exact wq_iret hC dX7_kindBy_52 K.1 K.2
      · have h := wq_ip z3 h
        refine wq_iconst hC (v := 3) dX7_kindBy_26 (by decide) ?_
        refine wq_goto hC dX7_kindBy_27 (tgt := 52) (by decide) ?_
        have h := Option.some.inj h
        subst h
        exact wq_iret hC dX7_kindBy_52 K.1 K.2
    · have h := wq_ip z2 h
      refine wq_iconst hC (v := 2) dX7_kindBy_16 (by decide) ?_
      refine wq_goto hC dX7_kindBy_17 (tgt := 52) (by decide) ?_
      have h := Option.some.inj h
      subst h
      exact wq_iret hC dX7_kindBy_52 K.1 K.2
  · have h := wq_ip z1 h
    refine wq_iconst hC (v := 1) dX7_kindBy_6 (by decide) ?_
    refine wq_goto hC dX7_kindBy_7 (tgt := 52) (by decide) ?_
    have h := Option.some.inj h
    subst h
    exact wq_iret hC dX7_kindBy_52 K.1 K.2
theorem npX7_isSort : yX7_isSort.cls ≠ "java/lang/invoke/MethodHandle" ∧ yX7_isSort.cls ≠ "java/lang/invoke/VarHandle" ∧ (parseMethodDescriptor yX7_isSort.desc).map (fun d => d.parameters.length) = some 0 := by decide +kernel
def fX7_isSort  (M : wq_M) : Option Bool :=
  (if (M.1 0 16) = 0 then
    (if (M.1 0 14) = 2 then
      (fX7_kindBy (M.1 0 15) M).bind fun r3 => (if r3 = (-1000000) then
        some false
      else
        some true)
    else
      some false)
  else
    some false)
set_option maxHeartbeats 4000000 in
set_option maxRecDepth 100000 in
theorem ctX7_isSort {l : Launch} {E : wq_E} {d : Nat} (hd0 : 1 ≤ d)  {M : wq_M} {r : Bool}  (h : fX7_isSort M = some r) : wq_ct l E wq_yR yX7_isSort cX7_isSort 1 (some .boolean) d [.ref (E.2.1 0)] M (some (.int (wq_b r))) M := by
  refine wq_ent (own := "WellPipesModel") (lv0 := [some (.ref (E.2.1 0))]) (by decide +kernel) rfl (Nat.le_of_ble_eq_true rfl) rfl (fun g h1 h2 hC => ?_)
  have K : wq_kb g M r := ⟨h1, h2⟩
  unfold fX7_isSort at h
  refine wq_aload_n hC dX7_isSort_0 (i := 0) rfl rfl ?_
  refine gf_7 hC oR_0 16 (.int (M.1 0 16)) (by decide) rfl tw_734 dX7_isSort_1 ?_
  refine wq_if_ne hC dX7_isSort_4 (tgt := 31) (by decide) (fun z1 => ?_) (fun z1 => ?_)
  · have h := wq_in_ z1 h
    refine wq_iconst hC (v := 0) dX7_isSort_31 (by decide) ?_
    have h := Option.some.inj h
    subst h
    exact wq_zret hC (b := false) dX7_isSort_32 (by decide) K.1 K.2
  · have h := wq_ip z1 h
    refine wq_aload_n hC dX7_isSort_7 (i := 0) rfl rfl ?_
    refine gf_7 hC oR_0 14 (.int (M.1 0 14)) (by decide) rfl tw_732 dX7_isSort_8 ?_
    refine wq_iconst hC (v := 2) dX7_isSort_11 (by decide) ?_
    refine wq_icmp_ne hC dX7_isSort_12 (tgt := 31) (by decide) (fun z2 => ?_) (fun z2 => ?_)
    · have h := wq_in_ z2 h
      refine wq_iconst hC (v := 0) dX7_isSort_31 (by decide) ?_
      have h := Option.some.inj h
      subst h
      exact wq_zret hC (b := false) dX7_isSort_32 (by decide) K.1 K.2
    · have h := wq_ip z2 h
      refine wq_aload_n hC dX7_isSort_15 (i := 0) rfl rfl ?_
      refine gf_7 hC oR_0 15 (.int (M.1 0 15)) (by decide) rfl tw_733 dX7_isSort_16 ?_
      obtain ⟨r3, hc4, h⟩ := wq_ob h
      refine wq_callS hC (ctX7_kindBy (d := d - 1) (by omega)  hc4) (by omega) (by decide) rfl npX7_kindBy tw_879 tw_880 tw_58 tw_881 (st := []) (Nat.le_of_ble_eq_true rfl) rfl dX7_isSort_19 (st1 := [.int r3]) rfl ?_
      refine wq_ldc hC (v := (-1000000)) tw_850 dX7_isSort_22 ?_
      refine wq_icmp_eq hC dX7_isSort_24 (tgt := 31) (by decide) (fun z5 => ?_) (fun z5 => ?_)
      · have h := wq_ip z5 h
        refine wq_iconst hC (v := 0) dX7_isSort_31 (by decide) ?_
        have h := Option.some.inj h
        subst h
        exact wq_zret hC (b := false) dX7_isSort_32 (by decide) K.1 K.2
      · have h := wq_in_ z5 h
        refine wq_iconst hC (v := 1) dX7_isSort_27 (by decide) ?_
        refine wq_goto hC dX7_isSort_28 (tgt := 32) (by decide) ?_
        have h := Option.some.inj h
        subst h
        exact wq_zret hC (b := true) dX7_isSort_32 (by decide) K.1 K.2
theorem npX7_readGrade : yX7_readGrade.cls ≠ "java/lang/invoke/MethodHandle" ∧ yX7_readGrade.cls ≠ "java/lang/invoke/VarHandle" ∧ (parseMethodDescriptor yX7_readGrade.desc).map (fun d => d.parameters.length) = some 0 := by decide +kernel
def fX7_readGrade_J23 (x1 : Int32) (M : wq_M) : Option wq_M :=
  (fX7_must 1 M).bind fun r5 => (fX7_number 1 99 r5).bind fun r7 => (fX7_mustSign 44 r7.2).bind fun r9 => (fX7_number 1 99 r9).bind fun r11 => (fX7_mustSign 44 r11.2).bind fun r13 => (fX7_number 1 99 r13).bind fun r15 => (fX7_mustSign 44 r15.2).bind fun r17 => (fX7_number 1 9 r17).bind fun r19 => (fX7_mustSign 44 r19.2).bind fun r21 => (fX7_number 1 99 r21).bind fun r23 => (fX7_mustSign 59 r23.2).bind fun r25 => (if (r25.1 0 16) = 0 then
    if wq_in 5 44 then if wq_in ((6 + (6 * (r25.1 5 (5 : Int32).toNatClampNeg))) + 0) 44 then if wq_in ((6 + (6 * (r25.1 5 (5 : Int32).toNatClampNeg))) + 1) 44 then if wq_in ((6 + (6 * (r25.1 5 (5 : Int32).toNatClampNeg))) + 2) 44 then if wq_in ((6 + (6 * (r25.1 5 (5 : Int32).toNatClampNeg))) + 3) 44 then if wq_in ((6 + (6 * (r25.1 5 (5 : Int32).toNatClampNeg))) + 4) 44 then if wq_in ((6 + (6 * (r25.1 5 (5 : Int32).toNatClampNeg))) + 5) 44 then if wq_in 5 44 then if wq_in 5 44 then some (wq_st (wq_st (wq_st (wq_st (wq_st (wq_st (wq_st r25 5 ((6 + (6 * (r25.1 5 (5 : Int32).toNatClampNeg))) + 0).toNatClampNeg x1) 5 ((6 + (6 * (r25.1 5 (5 : Int32).toNatClampNeg))) + 1).toNatClampNeg r7.1) 5 ((6 + (6 * (r25.1 5 (5 : Int32).toNatClampNeg))) + 2).toNatClampNeg r11.1) 5 ((6 + (6 * (r25.1 5 (5 : Int32).toNatClampNeg))) + 3).toNatClampNeg r15.1) 5 ((6 + (6 * (r25.1 5 (5 : Int32).toNatClampNeg))) + 4).toNatClampNeg r19.1) 5 ((6 + (6 * (r25.1 5 (5 : Int32).toNatClampNeg))) + 5).toNatClampNeg r23.1) 5 (5 : Int32).toNatClampNeg (((wq_st (wq_st (wq_st (wq_st (wq_st (wq_st r25 5 ((6 + (6 * (r25.1 5 (5 : Int32).toNatClampNeg))) + 0).toNatClampNeg x1) 5 ((6 + (6 * (r25.1 5 (5 : Int32).toNatClampNeg))) + 1).toNatClampNeg r7.1) 5 ((6 + (6 * (r25.1 5 (5 : Int32).toNatClampNeg))) + 2).toNatClampNeg r11.1) 5 ((6 + (6 * (r25.1 5 (5 : Int32).toNatClampNeg))) + 3).toNatClampNeg r15.1) 5 ((6 + (6 * (r25.1 5 (5 : Int32).toNatClampNeg))) + 4).toNatClampNeg r19.1) 5 ((6 + (6 * (r25.1 5 (5 : Int32).toNatClampNeg))) + 5).toNatClampNeg r23.1).1 5 (5 : Int32).toNatClampNeg) + 1)) else none else none else none else none else none else none else none else none else none
  else
    some r25)
set_option maxHeartbeats 4000000 in
set_option maxRecDepth 100000 in
theorem gX7_readGrade_J23 {g : wq_G} {E : wq_E} {d : Nat} (hC : wq_C g E wq_yR cX7_readGrade 8 "WellPipesModel" (none) d) (hd0 : 4 ≤ d) (x1 : Int32) (M : wq_M)  {x : wq_M} (h : fX7_readGrade_J23 x1 M = some x) (K : (wq_kV g) x) : wq_g g E wq_yR 8 23 [some (.ref (E.2.1 0)), some (.int x1), none, none, none, none, none, none] [] M := by
  unfold fX7_readGrade_J23 at h
  refine wq_aload_n hC dX7_readGrade_23 (i := 0) rfl rfl ?_
  refine wq_iconst hC (v := 1) dX7_readGrade_24 (by decide) ?_
  obtain ⟨r5, hc6, h⟩ := wq_ob h
  refine cv_7 hC (ctX7_must (d := d - 1) (by omega)  hc6) (by omega) (by decide) oR_0 rfl rfl npX7_must tw_859 tw_861 tw_26 tw_862 (st := []) (Nat.le_of_ble_eq_true rfl) rfl dX7_readGrade_25 (st1 := []) rfl ?_
  refine wq_aload_n hC dX7_readGrade_28 (i := 0) rfl rfl ?_
  refine wq_iconst hC (v := 1) dX7_readGrade_29 (by decide) ?_
  refine wq_bipush hC (v := 99) dX7_readGrade_30 (by decide) ?_
  obtain ⟨r7, hc8, h⟩ := wq_ob h
  refine cv_7 hC (ctX7_number (d := d - 1) (by omega)  hc8) (by omega) (by decide) oR_0 rfl rfl npX7_number tw_867 tw_869 tw_28 tw_870 (st := []) (Nat.le_of_ble_eq_true rfl) rfl dX7_readGrade_32 (st1 := [.int r7.1]) rfl ?_
  refine wq_istore_n hC dX7_readGrade_35 (i := 2) (lv' := [some (.ref (E.2.1 0)), some (.int x1), some (.int r7.1), none, none, none, none, none]) rfl (by decide) rfl ?_
  refine wq_aload_n hC dX7_readGrade_36 (i := 0) rfl rfl ?_
  refine wq_bipush hC (v := 44) dX7_readGrade_37 (by decide) ?_
  obtain ⟨r9, hc10, h⟩ := wq_ob h
  refine cv_7 hC (ctX7_mustSign (d := d - 1) (by omega)  hc10) (by omega) (by decide) oR_0 rfl rfl npX7_mustSign tw_871 tw_873 tw_29 tw_874 (st := []) (Nat.le_of_ble_eq_true rfl) rfl dX7_readGrade_39 (st1 := []) rfl ?_
  refine wq_aload_n hC dX7_readGrade_42 (i := 0) rfl rfl ?_
  refine wq_iconst hC (v := 1) dX7_readGrade_43 (by decide) ?_
  refine wq_bipush hC (v := 99) dX7_readGrade_44 (by decide) ?_
  obtain ⟨r11, hc12, h⟩ := wq_ob h
  refine cv_7 hC (ctX7_number (d := d - 1) (by omega)  hc12) (by omega) (by decide) oR_0 rfl rfl npX7_number tw_867 tw_869 tw_28 tw_870 (st := []) (Nat.le_of_ble_eq_true rfl) rfl dX7_readGrade_46 (st1 := [.int r11.1]) rfl ?_
  refine wq_istore_n hC dX7_readGrade_49 (i := 3) (lv' := [some (.ref (E.2.1 0)), some (.int x1), some (.int r7.1), some (.int r11.1), none, none, none, none]) rfl (by decide) rfl ?_
  refine wq_aload_n hC dX7_readGrade_50 (i := 0) rfl rfl ?_
  refine wq_bipush hC (v := 44) dX7_readGrade_51 (by decide) ?_
  obtain ⟨r13, hc14, h⟩ := wq_ob h
  refine cv_7 hC (ctX7_mustSign (d := d - 1) (by omega)  hc14) (by omega) (by decide) oR_0 rfl rfl npX7_mustSign tw_871 tw_873 tw_29 tw_874 (st := []) (Nat.le_of_ble_eq_true rfl) rfl dX7_readGrade_53 (st1 := []) rfl ?_
  refine wq_aload_n hC dX7_readGrade_56 (i := 0) rfl rfl ?_
  refine wq_iconst hC (v := 1) dX7_readGrade_57 (by decide) ?_
  refine wq_bipush hC (v := 99) dX7_readGrade_58 (by decide) ?_
  obtain ⟨r15, hc16, h⟩ := wq_ob h
  refine cv_7 hC (ctX7_number (d := d - 1) (by omega)  hc16) (by omega) (by decide) oR_0 rfl rfl npX7_number tw_867 tw_869 tw_28 tw_870 (st := []) (Nat.le_of_ble_eq_true rfl) rfl dX7_readGrade_60 (st1 := [.int r15.1]) rfl ?_
  refine wq_istore hC dX7_readGrade_63 (lv' := [some (.ref (E.2.1 0)), some (.int x1), some (.int r7.1), some (.int r11.1), some (.int r15.1), none, none, none]) (by decide) rfl ?_
  refine wq_aload_n hC dX7_readGrade_65 (i := 0) rfl rfl ?_
  refine wq_bipush hC (v := 44) dX7_readGrade_66 (by decide) ?_
  obtain ⟨r17, hc18, h⟩ := wq_ob h
  refine cv_7 hC (ctX7_mustSign (d := d - 1) (by omega)  hc18) (by omega) (by decide) oR_0 rfl rfl npX7_mustSign tw_871 tw_873 tw_29 tw_874 (st := []) (Nat.le_of_ble_eq_true rfl) rfl dX7_readGrade_68 (st1 := []) rfl ?_
  refine wq_aload_n hC dX7_readGrade_71 (i := 0) rfl rfl ?_
  refine wq_iconst hC (v := 1) dX7_readGrade_72 (by decide) ?_
  refine wq_bipush hC (v := 9) dX7_readGrade_73 (by decide) ?_
  obtain ⟨r19, hc20, h⟩ := wq_ob h
  refine cv_7 hC (ctX7_number (d := d - 1) (by omega)  hc20) (by omega) (by decide) oR_0 rfl rfl npX7_number tw_867 tw_869 tw_28 tw_870 (st := []) (Nat.le_of_ble_eq_true rfl) rfl dX7_readGrade_75 (st1 := [.int r19.1]) rfl ?_
  refine wq_istore hC dX7_readGrade_78 (lv' := [some (.ref (E.2.1 0)), some (.int x1), some (.int r7.1), some (.int r11.1), some (.int r15.1), some (.int r19.1), none, none]) (by decide) rfl ?_
  refine wq_aload_n hC dX7_readGrade_80 (i := 0) rfl rfl ?_
  refine wq_bipush hC (v := 44) dX7_readGrade_81 (by decide) ?_
  obtain ⟨r21, hc22, h⟩ := wq_ob h
  refine cv_7 hC (ctX7_mustSign (d := d - 1) (by omega)  hc22) (by omega) (by decide) oR_0 rfl rfl npX7_mustSign tw_871 tw_873 tw_29 tw_874 (st := []) (Nat.le_of_ble_eq_true rfl) rfl dX7_readGrade_83 (st1 := []) rfl ?_
  refine wq_aload_n hC dX7_readGrade_86 (i := 0) rfl rfl ?_
  refine wq_iconst hC (v := 1) dX7_readGrade_87 (by decide) ?_
  refine wq_bipush hC (v := 99) dX7_readGrade_88 (by decide) ?_
  obtain ⟨r23, hc24, h⟩ := wq_ob h
  refine cv_7 hC (ctX7_number (d := d - 1) (by omega)  hc24) (by omega) (by decide) oR_0 rfl rfl npX7_number tw_867 tw_869 tw_28 tw_870 (st := []) (Nat.le_of_ble_eq_true rfl) rfl dX7_readGrade_90 (st1 := [.int r23.1]) rfl ?_
  refine wq_istore hC dX7_readGrade_93 (lv' := [some (.ref (E.2.1 0)), some (.int x1), some (.int r7.1), some (.int r11.1), some (.int r15.1), some (.int r19.1), some (.int r23.1), none]) (by decide) rfl ?_
  refine wq_aload_n hC dX7_readGrade_95 (i := 0) rfl rfl ?_
  refine wq_bipush hC (v := 59) dX7_readGrade_96 (by decide) ?_
  obtain ⟨r25, hc26, h⟩ := wq_ob h
  refine cv_7 hC (ctX7_mustSign (d := d - 1) (by omega)  hc26) (by omega) (by decide) oR_0 rfl rfl npX7_mustSign tw_871 tw_873 tw_29 tw_874 (st := []) (Nat.le_of_ble_eq_true rfl) rfl dX7_readGrade_98 (st1 := []) rfl ?_
  refine wq_aload_n hC dX7_readGrade_101 (i := 0) rfl rfl ?_
  refine gf_7 hC oR_0 16 (.int (r25.1 0 16)) (by decide) rfl tw_734 dX7_readGrade_102 ?_
  refine wq_if_ne hC dX7_readGrade_105 (tgt := 195) (by decide) (fun z27 => ?_) (fun z27 => ?_)
  · have h := wq_in_ z27 h
    have h := Option.some.inj h
    subst h
    exact wq_vret hC dX7_readGrade_195 K.1 K.2
  · have h := wq_ip z27 h
    refine wq_bipush hC (v := 6) dX7_readGrade_108 (by decide) ?_
    refine wq_bipush hC (v := 6) dX7_readGrade_110 (by decide) ?_
    refine wq_aload_n hC dX7_readGrade_112 (i := 0) rfl rfl ?_
    refine gf_7 hC oR_0 6 (.ref (E.2.1 5)) (by decide) rfl tw_724 dX7_readGrade_113 ?_
    refine wq_iconst hC (v := 5) dX7_readGrade_116 (by decide) ?_
    obtain ⟨z28, h⟩ := wq_ii h
    refine wq_ald hC aR_5 z28 dX7_readGrade_117 ?_
    refine wq_imul hC dX7_readGrade_118 ?_
    refine wq_iadd hC dX7_readGrade_119 ?_
    refine wq_istore hC dX7_readGrade_120 (lv' := [some (.ref (E.2.1 0)), some (.int x1), some (.int r7.1), some (.int r11.1), some (.int r15.1), some (.int r19.1), some (.int r23.1), some (.int (6 + (6 * (r25.1 5 (5 : Int32).toNatClampNeg))))]) (by decide) rfl ?_
    refine wq_aload_n hC dX7_readGrade_122 (i := 0) rfl rfl ?_
    refine gf_7 hC oR_0 6 (.ref (E.2.1 5)) (by decide) rfl tw_724 dX7_readGrade_123 ?_
    refine wq_iload hC dX7_readGrade_126 rfl ?_
    refine wq_iconst hC (v := 0) dX7_readGrade_128 (by decide) ?_
    refine wq_iadd hC dX7_readGrade_129 ?_
    refine wq_iload_n hC dX7_readGrade_130 (i := 1) rfl rfl ?_
    obtain ⟨z29, h⟩ := wq_ii h
    refine wq_ast hC aR_5 z29 dX7_readGrade_131 ?_
    refine wq_aload_n hC dX7_readGrade_132 (i := 0) rfl rfl ?_
    refine gf_7 hC oR_0 6 (.ref (E.2.1 5)) (by decide) rfl tw_724 dX7_readGrade_133 ?_
    refine wq_iload hC dX7_readGrade_136 rfl ?_
    refine wq_iconst hC (v := 1) dX7_readGrade_138 (by decide) ?_
    refine wq_iadd hC dX7_readGrade_139 ?_
    refine wq_iload_n hC dX7_readGrade_140 (i := 2) rfl rfl ?_
    obtain ⟨z30, h⟩ := wq_ii h
    refine wq_ast hC aR_5 z30 dX7_readGrade_141 ?_
    refine wq_aload_n hC dX7_readGrade_142 (i := 0) rfl rfl ?_
    refine gf_7 hC oR_0 6 (.ref (E.2.1 5)) (by decide) rfl tw_724 dX7_readGrade_143 ?_
    refine wq_iload hC dX7_readGrade_146 rfl ?_
    refine wq_iconst hC (v := 2) dX7_readGrade_148 (by decide) ?_
    refine wq_iadd hC dX7_readGrade_149 ?_
    refine wq_iload_n hC dX7_readGrade_150 (i := 3) rfl rfl ?_
    obtain ⟨z31, h⟩ := wq_ii h
    refine wq_ast hC aR_5 z31 dX7_readGrade_151 ?_
    refine wq_aload_n hC dX7_readGrade_152 (i := 0) rfl rfl ?_
    refine gf_7 hC oR_0 6 (.ref (E.2.1 5)) (by decide) rfl tw_724 dX7_readGrade_153 ?_
    refine wq_iload hC dX7_readGrade_156 rfl ?_
    refine wq_iconst hC (v := 3) dX7_readGrade_158 (by decide) ?_
    refine wq_iadd hC dX7_readGrade_159 ?_
    refine wq_iload hC dX7_readGrade_160 rfl ?_
    obtain ⟨z32, h⟩ := wq_ii h
    refine wq_ast hC aR_5 z32 dX7_readGrade_162 ?_
    refine wq_aload_n hC dX7_readGrade_163 (i := 0) rfl rfl ?_
    refine gf_7 hC oR_0 6 (.ref (E.2.1 5)) (by decide) rfl tw_724 dX7_readGrade_164 ?_
    refine wq_iload hC dX7_readGrade_167 rfl ?_
    refine wq_iconst hC (v := 4) dX7_readGrade_169 (by decide) ?_
    refine wq_iadd hC dX7_readGrade_170 ?_
    refine wq_iload hC dX7_readGrade_171 rfl ?_
    obtain ⟨z33, h⟩ := wq_ii h
    refine wq_ast hC aR_5 z33 dX7_readGrade_173 ?_
    refine wq_aload_n hC dX7_readGrade_174 (i := 0) rfl rfl ?_
    refine gf_7 hC oR_0 6 (.ref (E.2.1 5)) (by decide) rfl tw_724 dX7_readGrade_175 ?_
    refine wq_iload hC dX7_readGrade_178 rfl ?_
    refine wq_iconst hC (v := 5) dX7_readGrade_180 (by decide) ?_
    refine wq_iadd hC dX7_readGrade_181 ?_
    refine wq_iload hC dX7_readGrade_182 rfl ?_
    obtain ⟨z34, h⟩ := wq_ii h
    refine wq_ast hC aR_5 z34 dX7_readGrade_184 ?_
    refine wq_aload_n hC dX7_readGrade_185 (i := 0) rfl rfl ?_
    refine gf_7 hC oR_0 6 (.ref (E.2.1 5)) (by decide) rfl tw_724 dX7_readGrade_186 ?_
    refine wq_iconst hC (v := 5) dX7_readGrade_189 (by decide) ?_
    refine wq_dup2 hC dX7_readGrade_190 rfl rfl ?_
    obtain ⟨z35, h⟩ := wq_ii h
    refine wq_ald hC aR_5 z35 dX7_readGrade_191 ?_
    refine wq_iconst hC (v := 1) dX7_readGrade_192 (by decide) ?_
    refine wq_iadd hC dX7_readGrade_193 ?_
    obtain ⟨z36, h⟩ := wq_ii h
    refine wq_ast hC aR_5 z36 dX7_readGrade_194 ?_
    have h := Option.some.inj h
    subst h
    exact wq_vret hC dX7_readGrade_195 K.1 K.2
def fX7_readGrade  (M : wq_M) : Option wq_M :=
  (fX7_kindBy (M.1 0 15) M).bind fun r1 => if wq_in 5 44 then (if (M.1 5 (5 : Int32).toNatClampNeg) = 5 then
    (fX7_bad 3 M).bind fun r37 => fX7_readGrade_J23 r1 r37
  else
    fX7_readGrade_J23 r1 M) else none
set_option maxHeartbeats 4000000 in
set_option maxRecDepth 100000 in
theorem ctX7_readGrade {l : Launch} {E : wq_E} {d : Nat} (hd0 : 4 ≤ d)  {M : wq_M} {r : wq_M}  (h : fX7_readGrade M = some r) : wq_ct l E wq_yR yX7_readGrade cX7_readGrade 8 (none) d [.ref (E.2.1 0)] M (none) r := by
  refine wq_ent (own := "WellPipesModel") (lv0 := [some (.ref (E.2.1 0)), none, none, none, none, none, none, none]) (by decide +kernel) rfl (Nat.le_of_ble_eq_true rfl) rfl (fun g h1 h2 hC => ?_)
  have K : wq_kV g r := ⟨h1, h2⟩
  unfold fX7_readGrade at h
  refine wq_aload_n hC dX7_readGrade_0 (i := 0) rfl rfl ?_
  refine gf_7 hC oR_0 15 (.int (M.1 0 15)) (by decide) rfl tw_733 dX7_readGrade_1 ?_
  obtain ⟨r1, hc2, h⟩ := wq_ob h
  refine wq_callS hC (ctX7_kindBy (d := d - 1) (by omega)  hc2) (by omega) (by decide) rfl npX7_kindBy tw_879 tw_880 tw_58 tw_881 (st := []) (Nat.le_of_ble_eq_true rfl) rfl dX7_readGrade_4 (st1 := [.int r1]) rfl ?_
  refine wq_istore_n hC dX7_readGrade_7 (i := 1) (lv' := [some (.ref (E.2.1 0)), some (.int r1), none, none, none, none, none, none]) rfl (by decide) rfl ?_
  refine wq_aload_n hC dX7_readGrade_8 (i := 0) rfl rfl ?_
  refine gf_7 hC oR_0 6 (.ref (E.2.1 5)) (by decide) rfl tw_724 dX7_readGrade_9 ?_
  refine wq_iconst hC (v := 5) dX7_readGrade_12 (by decide) ?_
  obtain ⟨z3, h⟩ := wq_ii h
  refine wq_ald hC aR_5 z3 dX7_readGrade_13 ?_
  refine wq_iconst hC (v := 5) dX7_readGrade_14 (by decide) ?_
  refine wq_icmp_ne hC dX7_readGrade_15 (tgt := 23) (by decide) (fun z4 => ?_) (fun z4 => ?_)
  · have h := wq_in_ z4 h
    exact gX7_readGrade_J23 hC hd0 r1 M  h K
  · have h := wq_ip z4 h
    refine wq_aload_n hC dX7_readGrade_18 (i := 0) rfl rfl ?_
    refine wq_iconst hC (v := 3) dX7_readGrade_19 (by decide) ?_
    obtain ⟨r37, hc38, h⟩ := wq_ob h
    refine cv_7 hC (ctX7_bad (d := d - 1) (by omega)  hc38) (by omega) (by decide) oR_0 rfl rfl npX7_bad tw_863 tw_865 tw_27 tw_866 (st := []) (Nat.le_of_ble_eq_true rfl) rfl dX7_readGrade_20 (st1 := []) rfl ?_
    exact gX7_readGrade_J23 hC hd0 r1 r37  h K
theorem npX7_well : yX7_well.cls ≠ "java/lang/invoke/MethodHandle" ∧ yX7_well.cls ≠ "java/lang/invoke/VarHandle" ∧ (parseMethodDescriptor yX7_well.desc).map (fun d => d.parameters.length) = some 0 := by decide +kernel
def fX7_well_L11  : (Int32 × wq_M) → Option ((Int32 × wq_M) ⊕ wq_M) := fun s =>
  (if 44 ≤ s.1 then
    some (.inr s.2)
  else
    (if s.1 < 36 then
      if wq_in s.1 44 then some (.inl ((s.1 + 1), (wq_st s.2 5 s.1.toNatClampNeg 0))) else none
    else
      if wq_in s.1 44 then some (.inl ((s.1 + 1), (wq_st s.2 5 s.1.toNatClampNeg (-1)))) else none))
set_option maxHeartbeats 4000000 in
set_option maxRecDepth 100000 in
theorem gX7_well_L11 {g : wq_G} {E : wq_E} {d : Nat} (hC : wq_C g E wq_yR cX7_well 2 "WellPipesModel" (some .int) d) (hd0 : 5 ≤ d)   : ∀ (n : Nat) (s : (Int32 × wq_M)) (e : wq_M), wq_lp (fX7_well_L11) n s = some e → (fun (e : wq_M) => wq_g g E wq_yR 2 40 [some (.ref (E.2.1 0)), none] [] e) e → wq_g g E wq_yR 2 11 [some (.ref (E.2.1 0)), some (.int s.1)] [] s.2 := by
  refine wq_lq_ok (fun (s : (Int32 × wq_M)) => wq_g g E wq_yR 2 11 [some (.ref (E.2.1 0)), some (.int s.1)] [] s.2) (fun (e : wq_M) => wq_g g E wq_yR 2 40 [some (.ref (E.2.1 0)), none] [] e) (fun s x h K => ?_)
  unfold fX7_well_L11 at h
  refine wq_iload_n hC dX7_well_11 (i := 1) rfl rfl ?_
  refine wq_bipush hC (v := 44) dX7_well_12 (by decide) ?_
  refine wq_icmp_ge hC dX7_well_14 (tgt := 40) (by decide) (fun z3 => ?_) (fun z3 => ?_)
  · have h := wq_ip z3 h
    have h := Option.some.inj h
    subst h
    refine wq_mask [true, false] (lv' := [some (.ref (E.2.1 0)), none]) rfl ?_
    exact K
  · have h := wq_in_ z3 h
    refine wq_aload_n hC dX7_well_17 (i := 0) rfl rfl ?_
    refine gf_7 hC oR_0 6 (.ref (E.2.1 5)) (by decide) rfl tw_724 dX7_well_18 ?_
    refine wq_iload_n hC dX7_well_21 (i := 1) rfl rfl ?_
    refine wq_iload_n hC dX7_well_22 (i := 1) rfl rfl ?_
    refine wq_bipush hC (v := 36) dX7_well_23 (by decide) ?_
    refine wq_icmp_lt hC dX7_well_25 (tgt := 32) (by decide) (fun z4 => ?_) (fun z4 => ?_)
    · have h := wq_ip z4 h
      refine wq_iconst hC (v := 0) dX7_well_32 (by decide) ?_
      obtain ⟨z5, h⟩ := wq_ii h
      refine wq_ast hC aR_5 z5 dX7_well_33 ?_
      refine wq_iinc hC (v := (s.1 + 1)) dX7_well_34 (lv' := [some (.ref (E.2.1 0)), some (.int (s.1 + 1))]) rfl rfl (by decide) rfl ?_
      refine wq_goto hC dX7_well_37 (tgt := 11) (by decide) ?_
      have h := Option.some.inj h
      subst h
      exact K
    · have h := wq_in_ z4 h
      refine wq_iconst hC (v := (-1)) dX7_well_28 (by decide) ?_
      refine wq_goto hC dX7_well_29 (tgt := 33) (by decide) ?_
      obtain ⟨z6, h⟩ := wq_ii h
      refine wq_ast hC aR_5 z6 dX7_well_33 ?_
      refine wq_iinc hC (v := (s.1 + 1)) dX7_well_34 (lv' := [some (.ref (E.2.1 0)), some (.int (s.1 + 1))]) rfl rfl (by decide) rfl ?_
      refine wq_goto hC dX7_well_37 (tgt := 11) (by decide) ?_
      have h := Option.some.inj h
      subst h
      exact K
def fX7_well_L166  : wq_M → Option (wq_M ⊕ wq_M) := fun s =>
  (fX7_isSort  s).bind fun r45 => (if r45 = true then
    (fX7_readGrade  s).bind fun r48 => some (.inl r48)
  else
    some (.inr s))
set_option maxHeartbeats 4000000 in
set_option maxRecDepth 100000 in
theorem gX7_well_L166 {g : wq_G} {E : wq_E} {d : Nat} (hC : wq_C g E wq_yR cX7_well 2 "WellPipesModel" (some .int) d) (hd0 : 5 ≤ d)   : ∀ (n : Nat) (s : wq_M) (e : wq_M), wq_lp (fX7_well_L166) n s = some e → (fun (e : wq_M) => wq_g g E wq_yR 2 180 [some (.ref (E.2.1 0)), none] [] e) e → wq_g g E wq_yR 2 166 [some (.ref (E.2.1 0)), none] [] s := by
  refine wq_lq_ok (fun (s : wq_M) => wq_g g E wq_yR 2 166 [some (.ref (E.2.1 0)), none] [] s) (fun (e : wq_M) => wq_g g E wq_yR 2 180 [some (.ref (E.2.1 0)), none] [] e) (fun s x h K => ?_)
  unfold fX7_well_L166 at h
  refine wq_aload_n hC dX7_well_166 (i := 0) rfl rfl ?_
  obtain ⟨r45, hc46, h⟩ := wq_ob h
  refine cv_7 hC (ctX7_isSort (d := d - 1) (by omega)  hc46) (by omega) (by decide) oR_0 rfl rfl npX7_isSort tw_875 tw_877 tw_30 tw_878 (st := []) (Nat.le_of_ble_eq_true rfl) rfl dX7_well_167 (st1 := [.int (wq_b r45)]) rfl ?_
  refine wq_bif_eq hC dX7_well_170 (tgt := 180) (by decide) (fun z47 => ?_) (fun z47 => ?_)
  · have h := wq_in_ z47 h
    have h := Option.some.inj h
    subst h
    exact K
  · have h := wq_ip z47 h
    refine wq_aload_n hC dX7_well_173 (i := 0) rfl rfl ?_
    obtain ⟨r48, hc49, h⟩ := wq_ob h
    refine cv_7 hC (ctX7_readGrade (d := d - 1) (by omega)  hc49) (by omega) (by decide) oR_0 rfl rfl npX7_readGrade tw_882 tw_884 tw_31 tw_885 (st := []) (Nat.le_of_ble_eq_true rfl) rfl dX7_well_174 (st1 := []) rfl ?_
    refine wq_goto hC dX7_well_177 (tgt := 166) (by decide) ?_
    have h := Option.some.inj h
    subst h
    exact K
def fX7_well_L202  : (Int32 × wq_M) → Option ((Int32 × wq_M) ⊕ wq_M) := fun s =>
  (if 44 ≤ s.1 then
    some (.inr s.2)
  else
    if wq_in s.1 44 then if wq_in s.1 44 then some (.inl ((s.1 + 1), (wq_st s.2 4 s.1.toNatClampNeg (s.2.1 5 s.1.toNatClampNeg)))) else none else none)
set_option maxHeartbeats 4000000 in
set_option maxRecDepth 100000 in
theorem gX7_well_L202 {g : wq_G} {E : wq_E} {d : Nat} (hC : wq_C g E wq_yR cX7_well 2 "WellPipesModel" (some .int) d) (hd0 : 5 ≤ d)   : ∀ (n : Nat) (s : (Int32 × wq_M)) (e : wq_M), wq_lp (fX7_well_L202) n s = some e → (fun (e : wq_M) => wq_g g E wq_yR 2 226 [some (.ref (E.2.1 0)), none] [] e) e → wq_g g E wq_yR 2 202 [some (.ref (E.2.1 0)), some (.int s.1)] [] s.2 := by
  refine wq_lq_ok (fun (s : (Int32 × wq_M)) => wq_g g E wq_yR 2 202 [some (.ref (E.2.1 0)), some (.int s.1)] [] s.2) (fun (e : wq_M) => wq_g g E wq_yR 2 226 [some (.ref (E.2.1 0)), none] [] e) (fun s x h K => ?_)
  unfold fX7_well_L202 at h
  refine wq_iload_n hC dX7_well_202 (i := 1) rfl rfl ?_
  refine wq_bipush hC (v := 44) dX7_well_203 (by decide) ?_
  refine wq_icmp_ge hC dX7_well_205 (tgt := 226) (by decide) (fun z55 => ?_) (fun z55 => ?_)
  · have h := wq_ip z55 h
    have h := Option.some.inj h
    subst h
    refine wq_mask [true, false] (lv' := [some (.ref (E.2.1 0)), none]) rfl ?_
    exact K
  · have h := wq_in_ z55 h
    refine wq_aload_n hC dX7_well_208 (i := 0) rfl rfl ?_
    refine gf_7 hC oR_0 5 (.ref (E.2.1 4)) (by decide) rfl tw_723 dX7_well_209 ?_
    refine wq_iload_n hC dX7_well_212 (i := 1) rfl rfl ?_
    refine wq_aload_n hC dX7_well_213 (i := 0) rfl rfl ?_
    refine gf_7 hC oR_0 6 (.ref (E.2.1 5)) (by decide) rfl tw_724 dX7_well_214 ?_
    refine wq_iload_n hC dX7_well_217 (i := 1) rfl rfl ?_
    obtain ⟨z56, h⟩ := wq_ii h
    refine wq_ald hC aR_5 z56 dX7_well_218 ?_
    obtain ⟨z57, h⟩ := wq_ii h
    refine wq_ast hC aR_4 z57 dX7_well_219 ?_
    refine wq_iinc hC (v := (s.1 + 1)) dX7_well_220 (lv' := [some (.ref (E.2.1 0)), some (.int (s.1 + 1))]) rfl rfl (by decide) rfl ?_
    refine wq_goto hC dX7_well_223 (tgt := 202) (by decide) ?_
    have h := Option.some.inj h
    subst h
    exact K
def fX7_well  (M : wq_M) : Option (Int32 × wq_M) :=
  (fX7_begin  (wq_st M 0 0 0)).bind fun r1 => (wq_lp (fX7_well_L11) wq_FU (0, r1)).bind fun e7 => (fX7_isLetter 119 e7).bind fun r9 => (fX7_must (wq_b r9) e7).bind fun r11 => (fX7_number 2 8 r11).bind fun r13 => if wq_in 0 44 then (fX7_mustSign 44 (wq_st r13.2 5 (0 : Int32).toNatClampNeg r13.1)).bind fun r16 => (fX7_number 1 3 r16).bind fun r18 => if wq_in 1 44 then (fX7_mustSign 44 (wq_st r18.2 5 (1 : Int32).toNatClampNeg r18.1)).bind fun r21 => (fX7_number 0 20 r21).bind fun r23 => if wq_in 2 44 then (fX7_mustSign 59 (wq_st r23.2 5 (2 : Int32).toNatClampNeg r23.1)).bind fun r26 => (fX7_isLetter 103 r26).bind fun r28 => (fX7_must (wq_b r28) r26).bind fun r30 => (fX7_number 0 99 r30).bind fun r32 => if wq_in 3 44 then (fX7_mustSign 44 (wq_st r32.2 5 (3 : Int32).toNatClampNeg r32.1)).bind fun r35 => (fX7_number 0 20 r35).bind fun r37 => if wq_in 4 44 then (fX7_mustSign 59 (wq_st r37.2 5 (4 : Int32).toNatClampNeg r37.1)).bind fun r40 => (fX7_isSort  r40).bind fun r42 => (if r42 = true then
    (wq_lp (fX7_well_L166) wq_FU r40).bind fun e50 => (fX7_failed  e50).bind fun r52 => (if r52.1 = true then
      some (((-1000100) - (r52.2.1 0 17)), r52.2)
    else
      (wq_lp (fX7_well_L202) wq_FU (0, (wq_st r52.2 0 9 0))).bind fun e58 => if wq_in 5 44 then some ((e58.1 4 (5 : Int32).toNatClampNeg), e58) else none)
  else
    (fX7_bad 1 r40).bind fun r61 => (wq_lp (fX7_well_L166) wq_FU r61).bind fun e63 => (fX7_failed  e63).bind fun r65 => (if r65.1 = true then
      some (((-1000100) - (r65.2.1 0 17)), r65.2)
    else
      (wq_lp (fX7_well_L202) wq_FU (0, (wq_st r65.2 0 9 0))).bind fun e68 => if wq_in 5 44 then some ((e68.1 4 (5 : Int32).toNatClampNeg), e68) else none)) else none else none else none else none else none
set_option maxHeartbeats 4000000 in
set_option maxRecDepth 100000 in
theorem ctX7_well {l : Launch} {E : wq_E} {d : Nat} (hd0 : 5 ≤ d)  {M : wq_M} {r : (Int32 × wq_M)}  (h : fX7_well M = some r) : wq_ct l E wq_yR yX7_well cX7_well 2 (some .int) d [.ref (E.2.1 0)] M (some (.int r.1)) r.2 := by
  refine wq_ent (own := "WellPipesModel") (lv0 := [some (.ref (E.2.1 0)), none]) (by decide +kernel) rfl (Nat.le_of_ble_eq_true rfl) rfl (fun g h1 h2 hC => ?_)
  have K : wq_kI g r := ⟨h1, h2⟩
  unfold fX7_well at h
  refine wq_aload_n hC dX7_well_0 (i := 0) rfl rfl ?_
  refine wq_iconst hC (v := 0) dX7_well_1 (by decide) ?_
  refine pf_7_0 hC oR_0 tw_718 dX7_well_2 ?_
  refine wq_aload_n hC dX7_well_5 (i := 0) rfl rfl ?_
  obtain ⟨r1, hc2, h⟩ := wq_ob h
  refine cv_7 hC (ctX7_begin (d := d - 1) (by omega)  hc2) (by omega) (by decide) oR_0 rfl rfl npX7_begin tw_842 tw_844 tw_23 tw_845 (st := []) (Nat.le_of_ble_eq_true rfl) rfl dX7_well_6 (st1 := []) rfl ?_
  refine wq_iconst hC (v := 0) dX7_well_9 (by decide) ?_
  refine wq_istore_n hC dX7_well_10 (i := 1) (lv' := [some (.ref (E.2.1 0)), some (.int 0)]) rfl (by decide) rfl ?_
  obtain ⟨e7, hl8, h⟩ := wq_ob h
  refine gX7_well_L11 hC hd0   wq_FU _ _ hl8 ?_
  refine wq_aload_n hC dX7_well_40 (i := 0) rfl rfl ?_
  refine wq_aload_n hC dX7_well_41 (i := 0) rfl rfl ?_
  refine wq_bipush hC (v := 119) dX7_well_42 (by decide) ?_
  obtain ⟨r9, hc10, h⟩ := wq_ob h
  refine cv_7 hC (ctX7_isLetter (d := d - 1) (by omega)  hc10) (by omega) (by decide) oR_0 rfl rfl npX7_isLetter tw_855 tw_857 tw_25 tw_858 (st := [.ref (E.2.1 0)]) (Nat.le_of_ble_eq_true rfl) rfl dX7_well_44 (st1 := [.int (wq_b r9), .ref (E.2.1 0)]) rfl ?_
  obtain ⟨r11, hc12, h⟩ := wq_ob h
  refine cv_7 hC (ctX7_must (d := d - 1) (by omega)  hc12) (by omega) (by decide) oR_0 rfl rfl npX7_must tw_859 tw_861 tw_26 tw_862 (st := []) (Nat.le_of_ble_eq_true rfl) rfl dX7_well_47 (st1 := []) rfl ?_
  refine wq_aload_n hC dX7_well_50 (i := 0) rfl rfl ?_
  refine gf_7 hC oR_0 6 (.ref (E.2.1 5)) (by decide) rfl tw_724 dX7_well_51 ?_
  refine wq_iconst hC (v := 0) dX7_well_54 (by decide) ?_
  refine wq_aload_n hC dX7_well_55 (i := 0) rfl rfl ?_
  refine wq_iconst hC (v := 2) dX7_well_56 (by decide) ?_
  refine wq_bipush hC (v := 8) dX7_well_57 (by decide) ?_
  obtain ⟨r13, hc14, h⟩ := wq_ob h
  refine cv_7 hC (ctX7_number (d := d - 1) (by omega)  hc14) (by omega) (by decide) oR_0 rfl rfl npX7_number tw_867 tw_869 tw_28 tw_870 (st := [.int 0, .ref (E.2.1 5)]) (Nat.le_of_ble_eq_true rfl) rfl dX7_well_59 (st1 := [.int r13.1, .int 0, .ref (E.2.1 5)]) rfl ?_
  obtain ⟨z15, h⟩ := wq_ii h
  refine wq_ast hC aR_5 z15 dX7_well_62 ?_
  refine wq_aload_n hC dX7_well_63 (i := 0) rfl rfl ?_
  refine wq_bipush hC (v := 44) dX7_well_64 (by decide) ?_
  obtain ⟨r16, hc17, h⟩ := wq_ob h
  refine cv_7 hC (ctX7_mustSign (d := d - 1) (by omega)  hc17) (by omega) (by decide) oR_0 rfl rfl npX7_mustSign tw_871 tw_873 tw_29 tw_874 (st := []) (Nat.le_of_ble_eq_true rfl) rfl dX7_well_66 (st1 := []) rfl ?_
  refine wq_aload_n hC dX7_well_69 (i := 0) rfl rfl ?_
  refine gf_7 hC oR_0 6 (.ref (E.2.1 5)) (by decide) rfl tw_724 dX7_well_70 ?_
  refine wq_iconst hC (v := 1) dX7_well_73 (by decide) ?_
  refine wq_aload_n hC dX7_well_74 (i := 0) rfl rfl ?_
  refine wq_iconst hC (v := 1) dX7_well_75 (by decide) ?_
  refine wq_iconst hC (v := 3) dX7_well_76 (by decide) ?_
  obtain ⟨r18, hc19, h⟩ := wq_ob h
  refine cv_7 hC (ctX7_number (d := d - 1) (by omega)  hc19) (by omega) (by decide) oR_0 rfl rfl npX7_number tw_867 tw_869 tw_28 tw_870 (st := [.int 1, .ref (E.2.1 5)]) (Nat.le_of_ble_eq_true rfl) rfl dX7_well_77 (st1 := [.int r18.1, .int 1, .ref (E.2.1 5)]) rfl ?_
  obtain ⟨z20, h⟩ := wq_ii h
  refine wq_ast hC aR_5 z20 dX7_well_80 ?_
  refine wq_aload_n hC dX7_well_81 (i := 0) rfl rfl ?_
  refine wq_bipush hC (v := 44) dX7_well_82 (by decide) ?_
  obtain ⟨r21, hc22, h⟩ := wq_ob h
  refine cv_7 hC (ctX7_mustSign (d := d - 1) (by omega)  hc22) (by omega) (by decide) oR_0 rfl rfl npX7_mustSign tw_871 tw_873 tw_29 tw_874 (st := []) (Nat.le_of_ble_eq_true rfl) rfl dX7_well_84 (st1 := []) rfl ?_
  refine wq_aload_n hC dX7_well_87 (i := 0) rfl rfl ?_
  refine gf_7 hC oR_0 6 (.ref (E.2.1 5)) (by decide) rfl tw_724 dX7_well_88 ?_
  refine wq_iconst hC (v := 2) dX7_well_91 (by decide) ?_
  refine wq_aload_n hC dX7_well_92 (i := 0) rfl rfl ?_
  refine wq_iconst hC (v := 0) dX7_well_93 (by decide) ?_
  refine wq_bipush hC (v := 20) dX7_well_94 (by decide) ?_
  obtain ⟨r23, hc24, h⟩ := wq_ob h
  refine cv_7 hC (ctX7_number (d := d - 1) (by omega)  hc24) (by omega) (by decide) oR_0 rfl rfl npX7_number tw_867 tw_869 tw_28 tw_870 (st := [.int 2, .ref (E.2.1 5)]) (Nat.le_of_ble_eq_true rfl) rfl dX7_well_96 (st1 := [.int r23.1, .int 2, .ref (E.2.1 5)]) rfl ?_
  obtain ⟨z25, h⟩ := wq_ii h
  refine wq_ast hC aR_5 z25 dX7_well_99 ?_
  refine wq_aload_n hC dX7_well_100 (i := 0) rfl rfl ?_
  refine wq_bipush hC (v := 59) dX7_well_101 (by decide) ?_
  obtain ⟨r26, hc27, h⟩ := wq_ob h
  refine cv_7 hC (ctX7_mustSign (d := d - 1) (by omega)  hc27) (by omega) (by decide) oR_0 rfl rfl npX7_mustSign tw_871 tw_873 tw_29 tw_874 (st := []) (Nat.le_of_ble_eq_true rfl) rfl dX7_well_103 (st1 := []) rfl ?_
  refine wq_aload_n hC dX7_well_106 (i := 0) rfl rfl ?_
  refine wq_aload_n hC dX7_well_107 (i := 0) rfl rfl ?_
  refine wq_bipush hC (v := 103) dX7_well_108 (by decide) ?_
  obtain ⟨r28, hc29, h⟩ := wq_ob h
  refine cv_7 hC (ctX7_isLetter (d := d - 1) (by omega)  hc29) (by omega) (by decide) oR_0 rfl rfl npX7_isLetter tw_855 tw_857 tw_25 tw_858 (st := [.ref (E.2.1 0)]) (Nat.le_of_ble_eq_true rfl) rfl dX7_well_110 (st1 := [.int (wq_b r28), .ref (E.2.1 0)]) rfl ?_
  obtain ⟨r30, hc31, h⟩ := wq_ob h
  refine cv_7 hC (ctX7_must (d := d - 1) (by omega)  hc31) (by omega) (by decide) oR_0 rfl rfl npX7_must tw_859 tw_861 tw_26 tw_862 (st := []) (Nat.le_of_ble_eq_true rfl) rfl dX7_well_113 (st1 := []) rfl ?_
  refine wq_aload_n hC dX7_well_116 (i := 0) rfl rfl ?_
  refine gf_7 hC oR_0 6 (.ref (E.2.1 5)) (by decide) rfl tw_724 dX7_well_117 ?_
  refine wq_iconst hC (v := 3) dX7_well_120 (by decide) ?_
  refine wq_aload_n hC dX7_well_121 (i := 0) rfl rfl ?_
  refine wq_iconst hC (v := 0) dX7_well_122 (by decide) ?_
  refine wq_bipush hC (v := 99) dX7_well_123 (by decide) ?_
  obtain ⟨r32, hc33, h⟩ := wq_ob h
  refine cv_7 hC (ctX7_number (d := d - 1) (by omega)  hc33) (by omega) (by decide) oR_0 rfl rfl npX7_number tw_867 tw_869 tw_28 tw_870 (st := [.int 3, .ref (E.2.1 5)]) (Nat.le_of_ble_eq_true rfl) rfl dX7_well_125 (st1 := [.int r32.1, .int 3, .ref (E.2.1 5)]) rfl ?_
  obtain ⟨z34, h⟩ := wq_ii h
  refine wq_ast hC aR_5 z34 dX7_well_128 ?_
  refine wq_aload_n hC dX7_well_129 (i := 0) rfl rfl ?_
  refine wq_bipush hC (v := 44) dX7_well_130 (by decide) ?_
  obtain ⟨r35, hc36, h⟩ := wq_ob h
  refine cv_7 hC (ctX7_mustSign (d := d - 1) (by omega)  hc36) (by omega) (by decide) oR_0 rfl rfl npX7_mustSign tw_871 tw_873 tw_29 tw_874 (st := []) (Nat.le_of_ble_eq_true rfl) rfl dX7_well_132 (st1 := []) rfl ?_
  refine wq_aload_n hC dX7_well_135 (i := 0) rfl rfl ?_
  refine gf_7 hC oR_0 6 (.ref (E.2.1 5)) (by decide) rfl tw_724 dX7_well_136 ?_
  refine wq_iconst hC (v := 4) dX7_well_139 (by decide) ?_
  refine wq_aload_n hC dX7_well_140 (i := 0) rfl rfl ?_
  refine wq_iconst hC (v := 0) dX7_well_141 (by decide) ?_
  refine wq_bipush hC (v := 20) dX7_well_142 (by decide) ?_
  obtain ⟨r37, hc38, h⟩ := wq_ob h
  refine cv_7 hC (ctX7_number (d := d - 1) (by omega)  hc38) (by omega) (by decide) oR_0 rfl rfl npX7_number tw_867 tw_869 tw_28 tw_870 (st := [.int 4, .ref (E.2.1 5)]) (Nat.le_of_ble_eq_true rfl) rfl dX7_well_144 (st1 := [.int r37.1, .int 4, .ref (E.2.1 5)]) rfl ?_
  obtain ⟨z39, h⟩ := wq_ii h
  refine wq_ast hC aR_5 z39 dX7_well_147 ?_
  refine wq_aload_n hC dX7_well_148 (i := 0) rfl rfl ?_
  refine wq_bipush hC (v := 59) dX7_well_149 (by decide) ?_
  obtain ⟨r40, hc41, h⟩ := wq_ob h
  refine cv_7 hC (ctX7_mustSign (d := d - 1) (by omega)  hc41) (by omega) (by decide) oR_0 rfl rfl npX7_mustSign tw_871 tw_873 tw_29 tw_874 (st := []) (Nat.le_of_ble_eq_true rfl) rfl dX7_well_151 (st1 := []) rfl ?_
  refine wq_aload_n hC dX7_well_154 (i := 0) rfl rfl ?_
  obtain ⟨r42, hc43, h⟩ := wq_ob h
  refine cv_7 hC (ctX7_isSort (d := d - 1) (by omega)  hc43) (by omega) (by decide) oR_0 rfl rfl npX7_isSort tw_875 tw_877 tw_30 tw_878 (st := []) (Nat.le_of_ble_eq_true rfl) rfl dX7_well_155 (st1 := [.int (wq_b r42)]) rfl ?_
  refine wq_bif_ne hC dX7_well_158 (tgt := 166) (by decide) (fun z44 => ?_) (fun z44 => ?_)
  · have h := wq_ip z44 h
    obtain ⟨e50, hl51, h⟩ := wq_ob h
    refine gX7_well_L166 hC hd0   wq_FU _ _ hl51 ?_
    refine wq_aload_n hC dX7_well_180 (i := 0) rfl rfl ?_
    obtain ⟨r52, hc53, h⟩ := wq_ob h
    refine cv_7 hC (ctX7_failed (d := d - 1) (by omega)  hc53) (by omega) (by decide) oR_0 rfl rfl npX7_failed tw_886 tw_888 tw_32 tw_889 (st := []) (Nat.le_of_ble_eq_true rfl) rfl dX7_well_181 (st1 := [.int (wq_b r52.1)]) rfl ?_
    refine wq_bif_eq hC dX7_well_184 (tgt := 195) (by decide) (fun z54 => ?_) (fun z54 => ?_)
    · have h := wq_in_ z54 h
      refine wq_aload_n hC dX7_well_195 (i := 0) rfl rfl ?_
      refine wq_iconst hC (v := 0) dX7_well_196 (by decide) ?_
      refine pf_7_9 hC oR_0 tw_727 dX7_well_197 ?_
      refine wq_iconst hC (v := 0) dX7_well_200 (by decide) ?_
      refine wq_istore_n hC dX7_well_201 (i := 1) (lv' := [some (.ref (E.2.1 0)), some (.int 0)]) rfl (by decide) rfl ?_
      obtain ⟨e58, hl59, h⟩ := wq_ob h
      refine gX7_well_L202 hC hd0   wq_FU _ _ hl59 ?_
      refine wq_aload_n hC dX7_well_226 (i := 0) rfl rfl ?_
      refine gf_7 hC oR_0 5 (.ref (E.2.1 4)) (by decide) rfl tw_723 dX7_well_227 ?_
      refine wq_iconst hC (v := 5) dX7_well_230 (by decide) ?_
      obtain ⟨z60, h⟩ := wq_ii h
      refine wq_ald hC aR_4 z60 dX7_well_231 ?_
      have h := Option.some.inj h
      subst h
      exact wq_iret hC dX7_well_232 K.1 K.2
    · have h := wq_ip z54 h
      refine wq_ldc hC (v := (-1000100)) tw_890 dX7_well_187 ?_
      refine wq_aload_n hC dX7_well_189 (i := 0) rfl rfl ?_
      refine gf_7 hC oR_0 17 (.int (r52.2.1 0 17)) (by decide) rfl tw_735 dX7_well_190 ?_
      refine wq_isub hC dX7_well_193 ?_
      have h := Option.some.inj h
      subst h
      exact wq_iret hC dX7_well_194 K.1 K.2
  · have h := wq_in_ z44 h
    refine wq_aload_n hC dX7_well_161 (i := 0) rfl rfl ?_
    refine wq_iconst hC (v := 1) dX7_well_162 (by decide) ?_
    obtain ⟨r61, hc62, h⟩ := wq_ob h
    refine cv_7 hC (ctX7_bad (d := d - 1) (by omega)  hc62) (by omega) (by decide) oR_0 rfl rfl npX7_bad tw_863 tw_865 tw_27 tw_866 (st := []) (Nat.le_of_ble_eq_true rfl) rfl dX7_well_163 (st1 := []) rfl ?_
    obtain ⟨e63, hl64, h⟩ := wq_ob h
    refine gX7_well_L166 hC hd0   wq_FU _ _ hl64 ?_
    refine wq_aload_n hC dX7_well_180 (i := 0) rfl rfl ?_
    obtain ⟨r65, hc66, h⟩ := wq_ob h
    refine cv_7 hC (ctX7_failed (d := d - 1) (by omega)  hc66) (by omega) (by decide) oR_0 rfl rfl npX7_failed tw_886 tw_888 tw_32 tw_889 (st := []) (Nat.le_of_ble_eq_true rfl) rfl dX7_well_181 (st1 := [.int (wq_b r65.1)]) rfl ?_
    refine wq_bif_eq hC dX7_well_184 (tgt := 195) (by decide) (fun z67 => ?_) (fun z67 => ?_)
    · have h := wq_in_ z67 h
      refine wq_aload_n hC dX7_well_195 (i := 0) rfl rfl ?_
      refine wq_iconst hC (v := 0) dX7_well_196 (by decide) ?_
      refine pf_7_9 hC oR_0 tw_727 dX7_well_197 ?_
      refine wq_iconst hC (v := 0) dX7_well_200 (by decide) ?_
      refine wq_istore_n hC dX7_well_201 (i := 1) (lv' := [some (.ref (E.2.1 0)), some (.int 0)]) rfl (by decide) rfl ?_
      obtain ⟨e68, hl69, h⟩ := wq_ob h
      refine gX7_well_L202 hC hd0   wq_FU _ _ hl69 ?_
      refine wq_aload_n hC dX7_well_226 (i := 0) rfl rfl ?_
      refine gf_7 hC oR_0 5 (.ref (E.2.1 4)) (by decide) rfl tw_723 dX7_well_227 ?_
      refine wq_iconst hC (v := 5) dX7_well_230 (by decide) ?_
      obtain ⟨z70, h⟩ := wq_ii h
      refine wq_ald hC aR_4 z70 dX7_well_231 ?_
      have h := Option.some.inj h
      subst h
      exact wq_iret hC dX7_well_232 K.1 K.2
    · have h := wq_ip z67 h
      refine wq_ldc hC (v := (-1000100)) tw_890 dX7_well_187 ?_
      refine wq_aload_n hC dX7_well_189 (i := 0) rfl rfl ?_
      refine gf_7 hC oR_0 17 (.int (r65.2.1 0 17)) (by decide) rfl tw_735 dX7_well_190 ?_
      refine wq_isub hC dX7_well_193 ?_
      have h := Option.some.inj h
      subst h
      exact wq_iret hC dX7_well_194 K.1 K.2
theorem npX7_isThere : yX7_isThere.cls ≠ "java/lang/invoke/MethodHandle" ∧ yX7_isThere.cls ≠ "java/lang/invoke/VarHandle" ∧ (parseMethodDescriptor yX7_isThere.desc).map (fun d => d.parameters.length) = some 0 := by decide +kernel
def fX7_isThere  (M : wq_M) : Option Bool :=
  if wq_in 0 44 then (if (M.1 4 (0 : Int32).toNatClampNeg) ≤ 0 then
    some false
  else
    some true) else none
set_option maxHeartbeats 4000000 in
set_option maxRecDepth 100000 in
theorem ctX7_isThere {l : Launch} {E : wq_E} {d : Nat} (hd0 : 0 ≤ d)  {M : wq_M} {r : Bool}  (h : fX7_isThere M = some r) : wq_ct l E wq_yR yX7_isThere cX7_isThere 1 (some .boolean) d [.ref (E.2.1 0)] M (some (.int (wq_b r))) M := by
  refine wq_ent (own := "WellPipesModel") (lv0 := [some (.ref (E.2.1 0))]) (by decide +kernel) rfl (Nat.le_of_ble_eq_true rfl) rfl (fun g h1 h2 hC => ?_)
  have K : wq_kb g M r := ⟨h1, h2⟩
  unfold fX7_isThere at h
  refine wq_aload_n hC dX7_isThere_0 (i := 0) rfl rfl ?_
  refine gf_7 hC oR_0 5 (.ref (E.2.1 4)) (by decide) rfl tw_723 dX7_isThere_1 ?_
  refine wq_iconst hC (v := 0) dX7_isThere_4 (by decide) ?_
  obtain ⟨z1, h⟩ := wq_ii h
  refine wq_ald hC aR_4 z1 dX7_isThere_5 ?_
  refine wq_if_le hC dX7_isThere_6 (tgt := 13) (by decide) (fun z2 => ?_) (fun z2 => ?_)
  · have h := wq_ip z2 h
    refine wq_iconst hC (v := 0) dX7_isThere_13 (by decide) ?_
    have h := Option.some.inj h
    subst h
    exact wq_zret hC (b := false) dX7_isThere_14 (by decide) K.1 K.2
  · have h := wq_in_ z2 h
    refine wq_iconst hC (v := 1) dX7_isThere_9 (by decide) ?_
    refine wq_goto hC dX7_isThere_10 (tgt := 14) (by decide) ?_
    have h := Option.some.inj h
    subst h
    exact wq_zret hC (b := true) dX7_isThere_14 (by decide) K.1 K.2
theorem npX7_isStep : yX7_isStep.cls ≠ "java/lang/invoke/MethodHandle" ∧ yX7_isStep.cls ≠ "java/lang/invoke/VarHandle" ∧ (parseMethodDescriptor yX7_isStep.desc).map (fun d => d.parameters.length) = some 1 := by decide +kernel
def fX7_isStep (x1 : Int32) (M : wq_M) : Option Bool :=
  if wq_in 0 44 then (fX7_in x1.toInt64 (0 : Int64) (((M.1 4 (0 : Int32).toNatClampNeg) - 1).toInt64) M).bind fun r2 => some r2 else none
set_option maxHeartbeats 4000000 in
set_option maxRecDepth 100000 in
theorem ctX7_isStep {l : Launch} {E : wq_E} {d : Nat} (hd0 : 1 ≤ d) {x1 : Int32} {M : wq_M} {r : Bool}  (h : fX7_isStep x1 M = some r) : wq_ct l E wq_yR yX7_isStep cX7_isStep 2 (some .boolean) d [.ref (E.2.1 0), .int x1] M (some (.int (wq_b r))) M := by
  refine wq_ent (own := "WellPipesModel") (lv0 := [some (.ref (E.2.1 0)), some (.int x1)]) (by decide +kernel) rfl (Nat.le_of_ble_eq_true rfl) rfl (fun g h1 h2 hC => ?_)
  have K : wq_kb g M r := ⟨h1, h2⟩
  unfold fX7_isStep at h
  refine wq_iload_n hC dX7_isStep_0 (i := 1) rfl rfl ?_
  refine wq_i2l hC dX7_isStep_1 ?_
  refine wq_lconst hC (v := 0) dX7_isStep_2 (by decide) ?_
  refine wq_aload_n hC dX7_isStep_3 (i := 0) rfl rfl ?_
  refine gf_7 hC oR_0 5 (.ref (E.2.1 4)) (by decide) rfl tw_723 dX7_isStep_4 ?_
  refine wq_iconst hC (v := 0) dX7_isStep_7 (by decide) ?_
  obtain ⟨z1, h⟩ := wq_ii h
  refine wq_ald hC aR_4 z1 dX7_isStep_8 ?_
  refine wq_iconst hC (v := 1) dX7_isStep_9 (by decide) ?_
  refine wq_isub hC dX7_isStep_10 ?_
  refine wq_i2l hC dX7_isStep_11 ?_
  obtain ⟨r2, hc3, h⟩ := wq_ob h
  refine wq_callS hC (ctX7_in (d := d - 1) (by omega)  hc3) (by omega) (by decide) rfl npX7_in tw_806 tw_807 tw_58 tw_808 (st := []) (Nat.le_of_ble_eq_true rfl) rfl dX7_isStep_12 (st1 := [.int (wq_b r2)]) rfl ?_
  have h := Option.some.inj h
  subst h
  exact wq_zret hC dX7_isStep_15 rfl K.1 K.2
theorem npX7_isGrade : yX7_isGrade.cls ≠ "java/lang/invoke/MethodHandle" ∧ yX7_isGrade.cls ≠ "java/lang/invoke/VarHandle" ∧ (parseMethodDescriptor yX7_isGrade.desc).map (fun d => d.parameters.length) = some 1 := by decide +kernel
def fX7_isGrade (x1 : Int32) (M : wq_M) : Option Bool :=
  if wq_in 5 44 then (fX7_in x1.toInt64 (0 : Int64) (((M.1 4 (5 : Int32).toNatClampNeg) - 1).toInt64) M).bind fun r2 => some r2 else none
set_option maxHeartbeats 4000000 in
set_option maxRecDepth 100000 in
theorem ctX7_isGrade {l : Launch} {E : wq_E} {d : Nat} (hd0 : 1 ≤ d) {x1 : Int32} {M : wq_M} {r : Bool}  (h : fX7_isGrade x1 M = some r) : wq_ct l E wq_yR yX7_isGrade cX7_isGrade 2 (some .boolean) d [.ref (E.2.1 0), .int x1] M (some (.int (wq_b r))) M := by
  refine wq_ent (own := "WellPipesModel") (lv0 := [some (.ref (E.2.1 0)), some (.int x1)]) (by decide +kernel) rfl (Nat.le_of_ble_eq_true rfl) rfl (fun g h1 h2 hC => ?_)
  have K : wq_kb g M r := ⟨h1, h2⟩
  unfold fX7_isGrade at h
  refine wq_iload_n hC dX7_isGrade_0 (i := 1) rfl rfl ?_
  refine wq_i2l hC dX7_isGrade_1 ?_
  refine wq_lconst hC (v := 0) dX7_isGrade_2 (by decide) ?_
  refine wq_aload_n hC dX7_isGrade_3 (i := 0) rfl rfl ?_
  refine gf_7 hC oR_0 5 (.ref (E.2.1 4)) (by decide) rfl tw_723 dX7_isGrade_4 ?_
  refine wq_iconst hC (v := 5) dX7_isGrade_7 (by decide) ?_
  obtain ⟨z1, h⟩ := wq_ii h
  refine wq_ald hC aR_4 z1 dX7_isGrade_8 ?_
  refine wq_iconst hC (v := 1) dX7_isGrade_9 (by decide) ?_
  refine wq_isub hC dX7_isGrade_10 ?_
  refine wq_i2l hC dX7_isGrade_11 ?_
  obtain ⟨r2, hc3, h⟩ := wq_ob h
  refine wq_callS hC (ctX7_in (d := d - 1) (by omega)  hc3) (by omega) (by decide) rfl npX7_in tw_806 tw_807 tw_58 tw_808 (st := []) (Nat.le_of_ble_eq_true rfl) rfl dX7_isGrade_12 (st1 := [.int (wq_b r2)]) rfl ?_
  have h := Option.some.inj h
  subst h
  exact wq_zret hC dX7_isGrade_15 rfl K.1 K.2
theorem npX7_has : yX7_has.cls ≠ "java/lang/invoke/MethodHandle" ∧ yX7_has.cls ≠ "java/lang/invoke/VarHandle" ∧ (parseMethodDescriptor yX7_has.desc).map (fun d => d.parameters.length) = some 2 := by decide +kernel
def fX7_has (x0 : Int32) (x1 : Int32) (M : wq_M) : Option Bool :=
  (if ((x0 >>> (x1 &&& 31)) &&& 1) = 1 then
    some true
  else
    some false)
set_option maxHeartbeats 4000000 in
set_option maxRecDepth 100000 in
theorem ctX7_has {l : Launch} {E : wq_E} {d : Nat} (hd0 : 0 ≤ d) {x0 : Int32} {x1 : Int32} {M : wq_M} {r : Bool}  (h : fX7_has x0 x1 M = some r) : wq_ct l E wq_yR yX7_has cX7_has 2 (some .boolean) d [.int x0, .int x1] M (some (.int (wq_b r))) M := by
  refine wq_ent (own := "WellPipesModel") (lv0 := [some (.int x0), some (.int x1)]) (by decide +kernel) rfl (Nat.le_of_ble_eq_true rfl) rfl (fun g h1 h2 hC => ?_)
  have K : wq_kb g M r := ⟨h1, h2⟩
  unfold fX7_has at h
  refine wq_iload_n hC dX7_has_0 (i := 0) rfl rfl ?_
  refine wq_iload_n hC dX7_has_1 (i := 1) rfl rfl ?_
  refine wq_ishr hC dX7_has_2 ?_
  refine wq_iconst hC (v := 1) dX7_has_3 (by decide) ?_
  refine wq_iand hC dX7_has_4 ?_
  refine wq_iconst hC (v := 1) dX7_has_5 (by decide) ?_
  refine wq_icmp_ne hC dX7_has_6 (tgt := 13) (by decide) (fun z1 => ?_) (fun z1 => ?_)
  · have h := wq_in_ z1 h
    refine wq_iconst hC (v := 0) dX7_has_13 (by decide) ?_
    have h := Option.some.inj h
    subst h
    exact wq_zret hC (b := false) dX7_has_14 (by decide) K.1 K.2
  · have h := wq_ip z1 h
    refine wq_iconst hC (v := 1) dX7_has_9 (by decide) ?_
    refine wq_goto hC dX7_has_10 (tgt := 14) (by decide) ?_
    have h := Option.some.inj h
    subst h
    exact wq_zret hC (b := true) dX7_has_14 (by decide) K.1 K.2
theorem npX7_of : yX7_of.cls ≠ "java/lang/invoke/MethodHandle" ∧ yX7_of.cls ≠ "java/lang/invoke/VarHandle" ∧ (parseMethodDescriptor yX7_of.desc).map (fun d => d.parameters.length) = some 3 := by decide +kernel
def fX7_of (p0 : Nat) (x1 : Int32) (x2 : Int32) (M : wq_M) : Option Int32 :=
  if wq_in ((6 + (6 * x1)) + x2) 44 then some (M.1 p0 ((6 + (6 * x1)) + x2).toNatClampNeg) else none
set_option maxHeartbeats 4000000 in
set_option maxRecDepth 100000 in
theorem ctX7_of {l : Launch} {E : wq_E} {d : Nat} (hd0 : 0 ≤ d) {p0 : Nat} {x1 : Int32} {x2 : Int32} {M : wq_M} {r : Int32} (hp0 : wq_a wq_yR p0 44) (h : fX7_of p0 x1 x2 M = some r) : wq_ct l E wq_yR yX7_of cX7_of 3 (some .int) d [.ref (E.2.1 p0), .int x1, .int x2] M (some (.int r)) M := by
  refine wq_ent (own := "WellPipesModel") (lv0 := [some (.ref (E.2.1 p0)), some (.int x1), some (.int x2)]) (by decide +kernel) rfl (Nat.le_of_ble_eq_true rfl) rfl (fun g h1 h2 hC => ?_)
  have K : wq_ki g M r := ⟨h1, h2⟩
  unfold fX7_of at h
  refine wq_aload_n hC dX7_of_0 (i := 0) rfl rfl ?_
  refine wq_bipush hC (v := 6) dX7_of_1 (by decide) ?_
  refine wq_bipush hC (v := 6) dX7_of_3 (by decide) ?_
  refine wq_iload_n hC dX7_of_5 (i := 1) rfl rfl ?_
  refine wq_imul hC dX7_of_6 ?_
  refine wq_iadd hC dX7_of_7 ?_
  refine wq_iload_n hC dX7_of_8 (i := 2) rfl rfl ?_
  refine wq_iadd hC dX7_of_9 ?_
  obtain ⟨z1, h⟩ := wq_ii h
  refine wq_ald hC hp0 z1 dX7_of_10 ?_
  have h := Option.some.inj h
  subst h
  exact wq_iret hC dX7_of_11 K.1 K.2
theorem npX7_burstLoad : yX7_burstLoad.cls ≠ "java/lang/invoke/MethodHandle" ∧ yX7_burstLoad.cls ≠ "java/lang/invoke/VarHandle" ∧ (parseMethodDescriptor yX7_burstLoad.desc).map (fun d => d.parameters.length) = some 2 := by decide +kernel
def fX7_burstLoad (p0 : Nat) (x1 : Int32) (M : wq_M) : Option Int32 :=
  if wq_in 3 44 then if wq_in 4 44 then (if 0 ≤ ((M.1 p0 (3 : Int32).toNatClampNeg) - ((M.1 p0 (4 : Int32).toNatClampNeg) * x1)) then
    some ((M.1 p0 (3 : Int32).toNatClampNeg) - ((M.1 p0 (4 : Int32).toNatClampNeg) * x1))
  else
    some 0) else none else none
set_option maxHeartbeats 4000000 in
set_option maxRecDepth 100000 in
theorem ctX7_burstLoad {l : Launch} {E : wq_E} {d : Nat} (hd0 : 0 ≤ d) {p0 : Nat} {x1 : Int32} {M : wq_M} {r : Int32} (hp0 : wq_a wq_yR p0 44) (h : fX7_burstLoad p0 x1 M = some r) : wq_ct l E wq_yR yX7_burstLoad cX7_burstLoad 3 (some .int) d [.ref (E.2.1 p0), .int x1] M (some (.int r)) M := by
  refine wq_ent (own := "WellPipesModel") (lv0 := [some (.ref (E.2.1 p0)), some (.int x1), none]) (by decide +kernel) rfl (Nat.le_of_ble_eq_true rfl) rfl (fun g h1 h2 hC => ?_)
  have K : wq_ki g M r := ⟨h1, h2⟩
  unfold fX7_burstLoad at h
  refine wq_aload_n hC dX7_burstLoad_0 (i := 0) rfl rfl ?_
  refine wq_iconst hC (v := 3) dX7_burstLoad_1 (by decide) ?_
  obtain ⟨z1, h⟩ := wq_ii h
  refine wq_ald hC hp0 z1 dX7_burstLoad_2 ?_
  refine wq_aload_n hC dX7_burstLoad_3 (i := 0) rfl rfl ?_
  refine wq_iconst hC (v := 4) dX7_burstLoad_4 (by decide) ?_
  obtain ⟨z2, h⟩ := wq_ii h
  refine wq_ald hC hp0 z2 dX7_burstLoad_5 ?_
  refine wq_iload_n hC dX7_burstLoad_6 (i := 1) rfl rfl ?_
  refine wq_imul hC dX7_burstLoad_7 ?_
  refine wq_isub hC dX7_burstLoad_8 ?_
  refine wq_istore_n hC dX7_burstLoad_9 (i := 2) (lv' := [some (.ref (E.2.1 p0)), some (.int x1), some (.int ((M.1 p0 (3 : Int32).toNatClampNeg) - ((M.1 p0 (4 : Int32).toNatClampNeg) * x1)))]) rfl (by decide) rfl ?_
  refine wq_iload_n hC dX7_burstLoad_10 (i := 2) rfl rfl ?_
  refine wq_if_ge hC dX7_burstLoad_11 (tgt := 18) (by decide) (fun z3 => ?_) (fun z3 => ?_)
  · have h := wq_ip z3 h
    refine wq_iload_n hC dX7_burstLoad_18 (i := 2) rfl rfl ?_
    have h := Option.some.inj h
    subst h
    exact wq_iret hC dX7_burstLoad_19 K.1 K.2
  · have h := wq_in_ z3 h
    refine wq_iconst hC (v := 0) dX7_burstLoad_14 (by decide) ?_
    refine wq_goto hC dX7_burstLoad_15 (tgt := 19) (by decide) ?_
    have h := Option.some.inj h
    subst h
    exact wq_iret hC dX7_burstLoad_19 K.1 K.2
theorem npX7_crushLoad : yX7_crushLoad.cls ≠ "java/lang/invoke/MethodHandle" ∧ yX7_crushLoad.cls ≠ "java/lang/invoke/VarHandle" ∧ (parseMethodDescriptor yX7_crushLoad.desc).map (fun d => d.parameters.length) = some 2 := by decide +kernel
def fX7_crushLoad (p0 : Nat) (x1 : Int32) (M : wq_M) : Option Int32 :=
  if wq_in 2 44 then some ((M.1 p0 (2 : Int32).toNatClampNeg) * (x1 + 1)) else none
set_option maxHeartbeats 4000000 in
set_option maxRecDepth 100000 in
theorem ctX7_crushLoad {l : Launch} {E : wq_E} {d : Nat} (hd0 : 0 ≤ d) {p0 : Nat} {x1 : Int32} {M : wq_M} {r : Int32} (hp0 : wq_a wq_yR p0 44) (h : fX7_crushLoad p0 x1 M = some r) : wq_ct l E wq_yR yX7_crushLoad cX7_crushLoad 2 (some .int) d [.ref (E.2.1 p0), .int x1] M (some (.int r)) M := by
  refine wq_ent (own := "WellPipesModel") (lv0 := [some (.ref (E.2.1 p0)), some (.int x1)]) (by decide +kernel) rfl (Nat.le_of_ble_eq_true rfl) rfl (fun g h1 h2 hC => ?_)
  have K : wq_ki g M r := ⟨h1, h2⟩
  unfold fX7_crushLoad at h
  refine wq_aload_n hC dX7_crushLoad_0 (i := 0) rfl rfl ?_
  refine wq_iconst hC (v := 2) dX7_crushLoad_1 (by decide) ?_
  obtain ⟨z1, h⟩ := wq_ii h
  refine wq_ald hC hp0 z1 dX7_crushLoad_2 ?_
  refine wq_iload_n hC dX7_crushLoad_3 (i := 1) rfl rfl ?_
  refine wq_iconst hC (v := 1) dX7_crushLoad_4 (by decide) ?_
  refine wq_iadd hC dX7_crushLoad_5 ?_
  refine wq_imul hC dX7_crushLoad_6 ?_
  have h := Option.some.inj h
  subst h
  exact wq_iret hC dX7_crushLoad_7 K.1 K.2
theorem npX7_hangs : yX7_hangs.cls ≠ "java/lang/invoke/MethodHandle" ∧ yX7_hangs.cls ≠ "java/lang/invoke/VarHandle" ∧ (parseMethodDescriptor yX7_hangs.desc).map (fun d => d.parameters.length) = some 2 := by decide +kernel
def fX7_hangs_L4 (p0 : Nat) (M : wq_M) : (Int32 × Int32) → Option ((Int32 × Int32) ⊕ Int32) := fun s =>
  if wq_in 0 44 then (if (M.1 p0 (0 : Int32).toNatClampNeg) ≤ s.2 then
    some (.inr s.1)
  else
    if wq_in (36 + s.2) 44 then (if 0 ≤ (M.1 p0 (36 + s.2).toNatClampNeg) then
      if wq_in (36 + s.2) 44 then (fX7_of p0 (M.1 p0 (36 + s.2).toNatClampNeg) 4 M).bind fun r6 => some (.inl ((s.1 + r6), (s.2 + 1))) else none
    else
      some (.inl ((s.1 + 0), (s.2 + 1)))) else none) else none
set_option maxHeartbeats 4000000 in
set_option maxRecDepth 100000 in
theorem gX7_hangs_L4 {g : wq_G} {E : wq_E} {d : Nat} (hC : wq_C g E wq_yR cX7_hangs 4 "WellPipesModel" (some .int) d) (hd0 : 1 ≤ d) (p0 : Nat) (M : wq_M) (hp0 : wq_a wq_yR p0 44) : ∀ (n : Nat) (s : (Int32 × Int32)) (e : Int32), wq_lp (fX7_hangs_L4 p0 M) n s = some e → (fun (e : Int32) => wq_g g E wq_yR 4 44 [none, none, some (.int e), none] [] M) e → wq_g g E wq_yR 4 4 [some (.ref (E.2.1 p0)), none, some (.int s.1), some (.int s.2)] [] M := by
  refine wq_lq_ok (fun (s : (Int32 × Int32)) => wq_g g E wq_yR 4 4 [some (.ref (E.2.1 p0)), none, some (.int s.1), some (.int s.2)] [] M) (fun (e : Int32) => wq_g g E wq_yR 4 44 [none, none, some (.int e), none] [] M) (fun s x h K => ?_)
  unfold fX7_hangs_L4 at h
  refine wq_iload_n hC dX7_hangs_4 (i := 3) rfl rfl ?_
  refine wq_aload_n hC dX7_hangs_5 (i := 0) rfl rfl ?_
  refine wq_iconst hC (v := 0) dX7_hangs_6 (by decide) ?_
  obtain ⟨z1, h⟩ := wq_ii h
  refine wq_ald hC hp0 z1 dX7_hangs_7 ?_
  refine wq_icmp_ge hC dX7_hangs_8 (tgt := 44) (by decide) (fun z2 => ?_) (fun z2 => ?_)
  · have h := wq_ip z2 h
    have h := Option.some.inj h
    subst h
    refine wq_mask [false, false, true, false] (lv' := [none, none, some (.int s.1), none]) rfl ?_
    exact K
  · have h := wq_in_ z2 h
    refine wq_iload_n hC dX7_hangs_11 (i := 2) rfl rfl ?_
    refine wq_aload_n hC dX7_hangs_12 (i := 0) rfl rfl ?_
    refine wq_bipush hC (v := 36) dX7_hangs_13 (by decide) ?_
    refine wq_iload_n hC dX7_hangs_15 (i := 3) rfl rfl ?_
    refine wq_iadd hC dX7_hangs_16 ?_
    obtain ⟨z3, h⟩ := wq_ii h
    refine wq_ald hC hp0 z3 dX7_hangs_17 ?_
    refine wq_if_ge hC dX7_hangs_18 (tgt := 25) (by decide) (fun z4 => ?_) (fun z4 => ?_)
    · have h := wq_ip z4 h
      refine wq_aload_n hC dX7_hangs_25 (i := 0) rfl rfl ?_
      refine wq_aload_n hC dX7_hangs_26 (i := 0) rfl rfl ?_
      refine wq_bipush hC (v := 36) dX7_hangs_27 (by decide) ?_
      refine wq_iload_n hC dX7_hangs_29 (i := 3) rfl rfl ?_
      refine wq_iadd hC dX7_hangs_30 ?_
      obtain ⟨z5, h⟩ := wq_ii h
      refine wq_ald hC hp0 z5 dX7_hangs_31 ?_
      refine wq_iconst hC (v := 4) dX7_hangs_32 (by decide) ?_
      obtain ⟨r6, hc7, h⟩ := wq_ob h
      refine wq_callS hC (ctX7_of (d := d - 1) (by omega) hp0 hc7) (by omega) (by decide) rfl npX7_of tw_932 tw_933 tw_58 tw_934 (st := [.int s.1]) (Nat.le_of_ble_eq_true rfl) rfl dX7_hangs_33 (st1 := [.int r6, .int s.1]) rfl ?_
      refine wq_iadd hC dX7_hangs_36 ?_
      refine wq_istore_n hC dX7_hangs_37 (i := 2) (lv' := [some (.ref (E.2.1 p0)), none, some (.int (s.1 + r6)), some (.int s.2)]) rfl (by decide) rfl ?_
      refine wq_iinc hC (v := (s.2 + 1)) dX7_hangs_38 (lv' := [some (.ref (E.2.1 p0)), none, some (.int (s.1 + r6)), some (.int (s.2 + 1))]) rfl rfl (by decide) rfl ?_
      refine wq_goto hC dX7_hangs_41 (tgt := 4) (by decide) ?_
      have h := Option.some.inj h
      subst h
      exact K
    · have h := wq_in_ z4 h
      refine wq_iconst hC (v := 0) dX7_hangs_21 (by decide) ?_
      refine wq_goto hC dX7_hangs_22 (tgt := 36) (by decide) ?_
      refine wq_iadd hC dX7_hangs_36 ?_
      refine wq_istore_n hC dX7_hangs_37 (i := 2) (lv' := [some (.ref (E.2.1 p0)), none, some (.int (s.1 + 0)), some (.int s.2)]) rfl (by decide) rfl ?_
      refine wq_iinc hC (v := (s.2 + 1)) dX7_hangs_38 (lv' := [some (.ref (E.2.1 p0)), none, some (.int (s.1 + 0)), some (.int (s.2 + 1))]) rfl rfl (by decide) rfl ?_
      refine wq_goto hC dX7_hangs_41 (tgt := 4) (by decide) ?_
      have h := Option.some.inj h
      subst h
      exact K
def fX7_hangs (p0 : Nat) (x1 : Int32) (M : wq_M) : Option Int32 :=
  (wq_lp (fX7_hangs_L4 p0 M) wq_FU (0, x1)).bind fun e8 => some e8
set_option maxHeartbeats 4000000 in
set_option maxRecDepth 100000 in
theorem ctX7_hangs {l : Launch} {E : wq_E} {d : Nat} (hd0 : 1 ≤ d) {p0 : Nat} {x1 : Int32} {M : wq_M} {r : Int32} (hp0 : wq_a wq_yR p0 44) (h : fX7_hangs p0 x1 M = some r) : wq_ct l E wq_yR yX7_hangs cX7_hangs 4 (some .int) d [.ref (E.2.1 p0), .int x1] M (some (.int r)) M := by
  refine wq_ent (own := "WellPipesModel") (lv0 := [some (.ref (E.2.1 p0)), some (.int x1), none, none]) (by decide +kernel) rfl (Nat.le_of_ble_eq_true rfl) rfl (fun g h1 h2 hC => ?_)
  have K : wq_ki g M r := ⟨h1, h2⟩
  unfold fX7_hangs at h
  refine wq_iconst hC (v := 0) dX7_hangs_0 (by decide) ?_
  refine wq_istore_n hC dX7_hangs_1 (i := 2) (lv' := [some (.ref (E.2.1 p0)), some (.int x1), some (.int 0), none]) rfl (by decide) rfl ?_
  refine wq_iload_n hC dX7_hangs_2 (i := 1) rfl rfl ?_
  refine wq_istore_n hC dX7_hangs_3 (i := 3) (lv' := [some (.ref (E.2.1 p0)), some (.int x1), some (.int 0), some (.int x1)]) rfl (by decide) rfl ?_
  obtain ⟨e8, hl9, h⟩ := wq_ob h
  refine wq_mask [true, false, true, true] (lv' := [some (.ref (E.2.1 p0)), none, some (.int 0), some (.int x1)]) rfl ?_
  refine gX7_hangs_L4 hC hd0 p0 M hp0 wq_FU _ _ hl9 ?_
  refine wq_iload_n hC dX7_hangs_44 (i := 2) rfl rfl ?_
  have h := Option.some.inj h
  subst h
  exact wq_iret hC dX7_hangs_45 K.1 K.2
theorem npX7_bearsBurst : yX7_bearsBurst.cls ≠ "java/lang/invoke/MethodHandle" ∧ yX7_bearsBurst.cls ≠ "java/lang/invoke/VarHandle" ∧ (parseMethodDescriptor yX7_bearsBurst.desc).map (fun d => d.parameters.length) = some 2 := by decide +kernel
def fX7_bearsBurst (p0 : Nat) (x1 : Int32) (M : wq_M) : Option Int32 :=
  (fX7_of p0 x1 1 M).bind fun r1 => (fX7_of p0 x1 0 M).bind fun r3 => (if r3 = 5 then
    some (r1 + 10)
  else
    some (r1 + 0))
set_option maxHeartbeats 4000000 in
set_option maxRecDepth 100000 in
theorem ctX7_bearsBurst {l : Launch} {E : wq_E} {d : Nat} (hd0 : 1 ≤ d) {p0 : Nat} {x1 : Int32} {M : wq_M} {r : Int32} (hp0 : wq_a wq_yR p0 44) (h : fX7_bearsBurst p0 x1 M = some r) : wq_ct l E wq_yR yX7_bearsBurst cX7_bearsBurst 2 (some .int) d [.ref (E.2.1 p0), .int x1] M (some (.int r)) M := by
  refine wq_ent (own := "WellPipesModel") (lv0 := [some (.ref (E.2.1 p0)), some (.int x1)]) (by decide +kernel) rfl (Nat.le_of_ble_eq_true rfl) rfl (fun g h1 h2 hC => ?_)
  have K : wq_ki g M r := ⟨h1, h2⟩
  unfold fX7_bearsBurst at h
  refine wq_aload_n hC dX7_bearsBurst_0 (i := 0) rfl rfl ?_
  refine wq_iload_n hC dX7_bearsBurst_1 (i := 1) rfl rfl ?_
  refine wq_iconst hC (v := 1) dX7_bearsBurst_2 (by decide) ?_
  obtain ⟨r1, hc2, h⟩ := wq_ob h
  refine wq_callS hC (ctX7_of (d := d - 1) (by omega) hp0 hc2) (by omega) (by decide) rfl npX7_of tw_932 tw_933 tw_58 tw_934 (st := []) (Nat.le_of_ble_eq_true rfl) rfl dX7_bearsBurst_3 (st1 := [.int r1]) rfl ?_
  refine wq_aload_n hC dX7_bearsBurst_6 (i := 0) rfl rfl ?_
  refine wq_iload_n hC dX7_bearsBurst_7 (i := 1) rfl rfl ?_
  refine wq_iconst hC (v := 0) dX7_bearsBurst_8 (by decide) ?_
  obtain ⟨r3, hc4, h⟩ := wq_ob h
  refine wq_callS hC (ctX7_of (d := d - 1) (by omega) hp0 hc4) (by omega) (by decide) rfl npX7_of tw_932 tw_933 tw_58 tw_934 (st := [.int r1]) (Nat.le_of_ble_eq_true rfl) rfl dX7_bearsBurst_9 (st1 := [.int r3, .int r1]) rfl ?_
  refine wq_iconst hC (v := 5) dX7_bearsBurst_12 (by decide) ?_
  refine wq_icmp_ne hC dX7_bearsBurst_13 (tgt := 21) (by decide) (fun z5 => ?_) (fun z5 => ?_)
  · have h := wq_in_ z5 h
    refine wq_iconst hC (v := 0) dX7_bearsBurst_21 (by decide) ?_
    refine wq_iadd hC dX7_bearsBurst_22 ?_
    have h := Option.some.inj h
    subst h
    exact wq_iret hC dX7_bearsBurst_23 K.1 K.2
  · have h := wq_ip z5 h
    refine wq_bipush hC (v := 10) dX7_bearsBurst_16 (by decide) ?_
    refine wq_goto hC dX7_bearsBurst_18 (tgt := 22) (by decide) ?_
    refine wq_iadd hC dX7_bearsBurst_22 ?_
    have h := Option.some.inj h
    subst h
    exact wq_iret hC dX7_bearsBurst_23 K.1 K.2
theorem npX7_bearsPull : yX7_bearsPull.cls ≠ "java/lang/invoke/MethodHandle" ∧ yX7_bearsPull.cls ≠ "java/lang/invoke/VarHandle" ∧ (parseMethodDescriptor yX7_bearsPull.desc).map (fun d => d.parameters.length) = some 2 := by decide +kernel
def fX7_bearsPull (p0 : Nat) (x1 : Int32) (M : wq_M) : Option Int32 :=
  (fX7_of p0 x1 0 M).bind fun r1 => (if r1 = 3 then
    (fX7_of p0 x1 3 M).bind fun r6 => some ((r6 + 1) / 2)
  else
    (fX7_of p0 x1 3 M).bind fun r4 => some r4)
set_option maxHeartbeats 4000000 in
set_option maxRecDepth 100000 in
theorem ctX7_bearsPull {l : Launch} {E : wq_E} {d : Nat} (hd0 : 1 ≤ d) {p0 : Nat} {x1 : Int32} {M : wq_M} {r : Int32} (hp0 : wq_a wq_yR p0 44) (h : fX7_bearsPull p0 x1 M = some r) : wq_ct l E wq_yR yX7_bearsPull cX7_bearsPull 2 (some .int) d [.ref (E.2.1 p0), .int x1] M (some (.int r)) M := by
  refine wq_ent (own := "WellPipesModel") (lv0 := [some (.ref (E.2.1 p0)), some (.int x1)]) (by decide +kernel) rfl (Nat.le_of_ble_eq_true rfl) rfl (fun g h1 h2 hC => ?_)
  have K : wq_ki g M r := ⟨h1, h2⟩
  unfold fX7_bearsPull at h
  refine wq_aload_n hC dX7_bearsPull_0 (i := 0) rfl rfl ?_
  refine wq_iload_n hC dX7_bearsPull_1 (i := 1) rfl rfl ?_
  refine wq_iconst hC (v := 0) dX7_bearsPull_2 (by decide) ?_
  obtain ⟨r1, hc2, h⟩ := wq_ob h
  refine wq_callS hC (ctX7_of (d := d - 1) (by omega) hp0 hc2) (by omega) (by decide) rfl npX7_of tw_932 tw_933 tw_58 tw_934 (st := []) (Nat.le_of_ble_eq_true rfl) rfl dX7_bearsPull_3 (st1 := [.int r1]) rfl ?_
  refine wq_iconst hC (v := 3) dX7_bearsPull_6 (by decide) ?_
  refine wq_icmp_ne hC dX7_bearsPull_7 (tgt := 23) (by decide) (fun z3 => ?_) (fun z3 => ?_)
  · have h := wq_in_ z3 h
    refine wq_aload_n hC dX7_bearsPull_23 (i := 0) rfl rfl ?_
    refine wq_iload_n hC dX7_bearsPull_24 (i := 1) rfl rfl ?_
    refine wq_iconst hC (v := 3) dX7_bearsPull_25 (by decide) ?_
    obtain ⟨r4, hc5, h⟩ := wq_ob h
    refine wq_callS hC (ctX7_of (d := d - 1) (by omega) hp0 hc5) (by omega) (by decide) rfl npX7_of tw_932 tw_933 tw_58 tw_934 (st := []) (Nat.le_of_ble_eq_true rfl) rfl dX7_bearsPull_26 (st1 := [.int r4]) rfl ?_
    have h := Option.some.inj h
    subst h
    exact wq_iret hC dX7_bearsPull_29 K.1 K.2
  · have h := wq_ip z3 h
    refine wq_aload_n hC dX7_bearsPull_10 (i := 0) rfl rfl ?_
    refine wq_iload_n hC dX7_bearsPull_11 (i := 1) rfl rfl ?_
    refine wq_iconst hC (v := 3) dX7_bearsPull_12 (by decide) ?_
    obtain ⟨r6, hc7, h⟩ := wq_ob h
    refine wq_callS hC (ctX7_of (d := d - 1) (by omega) hp0 hc7) (by omega) (by decide) rfl npX7_of tw_932 tw_933 tw_58 tw_934 (st := []) (Nat.le_of_ble_eq_true rfl) rfl dX7_bearsPull_13 (st1 := [.int r6]) rfl ?_
    refine wq_iconst hC (v := 1) dX7_bearsPull_16 (by decide) ?_
    refine wq_iadd hC dX7_bearsPull_17 ?_
    refine wq_iconst hC (v := 2) dX7_bearsPull_18 (by decide) ?_
    refine wq_idiv hC dX7_bearsPull_19 (by decide) ?_
    refine wq_goto hC dX7_bearsPull_20 (tgt := 29) (by decide) ?_
    have h := Option.some.inj h
    subst h
    exact wq_iret hC dX7_bearsPull_29 K.1 K.2
theorem npX7_bearsCrush : yX7_bearsCrush.cls ≠ "java/lang/invoke/MethodHandle" ∧ yX7_bearsCrush.cls ≠ "java/lang/invoke/VarHandle" ∧ (parseMethodDescriptor yX7_bearsCrush.desc).map (fun d => d.parameters.length) = some 3 := by decide +kernel
def fX7_bearsCrush_J61 (p0 : Nat) (x1 : Int32) (y0 : Int32) (M : wq_M) : Option Int32 :=
  (fX7_of p0 x1 2 M).bind fun r9 => some ((r9 * (10 - y0)) / 10)
set_option maxHeartbeats 4000000 in
set_option maxRecDepth 100000 in
theorem gX7_bearsCrush_J61 {g : wq_G} {E : wq_E} {d : Nat} (hC : wq_C g E wq_yR cX7_bearsCrush 5 "WellPipesModel" (some .int) d) (hd0 : 2 ≤ d) (p0 : Nat) (x1 : Int32) (y0 : Int32) (M : wq_M) (hp0 : wq_a wq_yR p0 44) {x : Int32} (h : fX7_bearsCrush_J61 p0 x1 y0 M = some x) (K : (wq_ki g M) x) : wq_g g E wq_yR 5 61 [some (.ref (E.2.1 p0)), some (.int x1), none, none, none] [.int y0] M := by
  unfold fX7_bearsCrush_J61 at h
  refine wq_istore hC dX7_bearsCrush_61 (lv' := [some (.ref (E.2.1 p0)), some (.int x1), none, none, some (.int y0)]) (by decide) rfl ?_
  refine wq_aload_n hC dX7_bearsCrush_63 (i := 0) rfl rfl ?_
  refine wq_iload_n hC dX7_bearsCrush_64 (i := 1) rfl rfl ?_
  refine wq_iconst hC (v := 2) dX7_bearsCrush_65 (by decide) ?_
  obtain ⟨r9, hc10, h⟩ := wq_ob h
  refine wq_callS hC (ctX7_of (d := d - 1) (by omega) hp0 hc10) (by omega) (by decide) rfl npX7_of tw_932 tw_933 tw_58 tw_934 (st := []) (Nat.le_of_ble_eq_true rfl) rfl dX7_bearsCrush_66 (st1 := [.int r9]) rfl ?_
  refine wq_bipush hC (v := 10) dX7_bearsCrush_69 (by decide) ?_
  refine wq_iload hC dX7_bearsCrush_71 rfl ?_
  refine wq_isub hC dX7_bearsCrush_73 ?_
  refine wq_imul hC dX7_bearsCrush_74 ?_
  refine wq_bipush hC (v := 10) dX7_bearsCrush_75 (by decide) ?_
  refine wq_idiv hC dX7_bearsCrush_77 (by decide) ?_
  have h := Option.some.inj h
  subst h
  exact wq_iret hC dX7_bearsCrush_78 K.1 K.2
def fX7_bearsCrush_J45 (p0 : Nat) (x1 : Int32) (x3 : Int32) (y0 : Int32) (M : wq_M) : Option Int32 :=
  (if x3 = 2 then
    fX7_bearsCrush_J61 p0 x1 (y0 / 2) M
  else
    fX7_bearsCrush_J61 p0 x1 y0 M)
set_option maxHeartbeats 4000000 in
set_option maxRecDepth 100000 in
theorem gX7_bearsCrush_J45 {g : wq_G} {E : wq_E} {d : Nat} (hC : wq_C g E wq_yR cX7_bearsCrush 5 "WellPipesModel" (some .int) d) (hd0 : 2 ≤ d) (p0 : Nat) (x1 : Int32) (x3 : Int32) (y0 : Int32) (M : wq_M) (hp0 : wq_a wq_yR p0 44) {x : Int32} (h : fX7_bearsCrush_J45 p0 x1 x3 y0 M = some x) (K : (wq_ki g M) x) : wq_g g E wq_yR 5 45 [some (.ref (E.2.1 p0)), some (.int x1), none, some (.int x3), none] [.int y0] M := by
  unfold fX7_bearsCrush_J45 at h
  refine wq_istore hC dX7_bearsCrush_45 (lv' := [some (.ref (E.2.1 p0)), some (.int x1), none, some (.int x3), some (.int y0)]) (by decide) rfl ?_
  refine wq_iload_n hC dX7_bearsCrush_47 (i := 3) rfl rfl ?_
  refine wq_iconst hC (v := 2) dX7_bearsCrush_48 (by decide) ?_
  refine wq_icmp_ne hC dX7_bearsCrush_49 (tgt := 59) (by decide) (fun z8 => ?_) (fun z8 => ?_)
  · have h := wq_in_ z8 h
    refine wq_iload hC dX7_bearsCrush_59 rfl ?_
    refine wq_mask [true, true, false, false, false] (lv' := [some (.ref (E.2.1 p0)), some (.int x1), none, none, none]) rfl ?_
    exact gX7_bearsCrush_J61 hC hd0 p0 x1 y0 M hp0 h K
  · have h := wq_ip z8 h
    refine wq_iload hC dX7_bearsCrush_52 rfl ?_
    refine wq_iconst hC (v := 2) dX7_bearsCrush_54 (by decide) ?_
    refine wq_idiv hC dX7_bearsCrush_55 (by decide) ?_
    refine wq_goto hC dX7_bearsCrush_56 (tgt := 61) (by decide) ?_
    refine wq_mask [true, true, false, false, false] (lv' := [some (.ref (E.2.1 p0)), some (.int x1), none, none, none]) rfl ?_
    exact gX7_bearsCrush_J61 hC hd0 p0 x1 (y0 / 2) M hp0 h K
def fX7_bearsCrush (p0 : Nat) (x1 : Int32) (x2 : Int32) (M : wq_M) : Option Int32 :=
  (fX7_of p0 x1 0 M).bind fun r1 => (if r1 < 4 then
    (fX7_bearsPull p0 x1 M).bind fun r4 => if ¬ r4 = 0 then (if ((10 * x2) / r4) ≤ 10 then
      fX7_bearsCrush_J45 p0 x1 r1 ((10 * x2) / r4) M
    else
      fX7_bearsCrush_J45 p0 x1 r1 10 M) else none
  else
    (fX7_of p0 x1 2 M).bind fun r11 => some r11)
set_option maxHeartbeats 4000000 in
set_option maxRecDepth 100000 in
theorem ctX7_bearsCrush {l : Launch} {E : wq_E} {d : Nat} (hd0 : 2 ≤ d) {p0 : Nat} {x1 : Int32} {x2 : Int32} {M : wq_M} {r : Int32} (hp0 : wq_a wq_yR p0 44) (h : fX7_bearsCrush p0 x1 x2 M = some r) : wq_ct l E wq_yR yX7_bearsCrush cX7_bearsCrush 5 (some .int) d [.ref (E.2.1 p0), .int x1, .int x2] M (some (.int r)) M := by
  refine wq_ent (own := "WellPipesModel") (lv0 := [some (.ref (E.2.1 p0)), some (.int x1), some (.int x2), none, none]) (by decide +kernel) rfl (Nat.le_of_ble_eq_true rfl) rfl (fun g h1 h2 hC => ?_)
  have K : wq_ki g M r := ⟨h1, h2⟩
  unfold fX7_bearsCrush at h
  refine wq_aload_n hC dX7_bearsCrush_0 (i := 0) rfl rfl ?_
  refine wq_iload_n hC dX7_bearsCrush_1 (i := 1) rfl rfl ?_
  refine wq_iconst hC (v := 0) dX7_bearsCrush_2 (by decide) ?_
  obtain ⟨r1, hc2, h⟩ := wq_ob h
  refine wq_callS hC (ctX7_of (d := d - 1) (by omega) hp0 hc2) (by omega) (by decide) rfl npX7_of tw_932 tw_933 tw_58 tw_934 (st := []) (Nat.le_of_ble_eq_true rfl) rfl dX7_bearsCrush_3 (st1 := [.int r1]) rfl ?_
  refine wq_istore_n hC dX7_bearsCrush_6 (i := 3) (lv' := [some (.ref (E.2.1 p0)), some (.int x1), some (.int x2), some (.int r1), none]) rfl (by decide) rfl ?_
  refine wq_iload_n hC dX7_bearsCrush_7 (i := 3) rfl rfl ?_
  refine wq_iconst hC (v := 4) dX7_bearsCrush_8 (by decide) ?_
  refine wq_icmp_lt hC dX7_bearsCrush_9 (tgt := 19) (by decide) (fun z3 => ?_) (fun z3 => ?_)
  · have h := wq_ip z3 h
    refine wq_bipush hC (v := 10) dX7_bearsCrush_19 (by decide) ?_
    refine wq_iload_n hC dX7_bearsCrush_21 (i := 2) rfl rfl ?_
    refine wq_imul hC dX7_bearsCrush_22 ?_
    refine wq_aload_n hC dX7_bearsCrush_23 (i := 0) rfl rfl ?_
    refine wq_iload_n hC dX7_bearsCrush_24 (i := 1) rfl rfl ?_
    obtain ⟨r4, hc5, h⟩ := wq_ob h
    refine wq_callS hC (ctX7_bearsPull (d := d - 1) (by omega) hp0 hc5) (by omega) (by decide) rfl npX7_bearsPull tw_947 tw_948 tw_58 tw_949 (st := [.int (10 * x2)]) (Nat.le_of_ble_eq_true rfl) rfl dX7_bearsCrush_25 (st1 := [.int r4, .int (10 * x2)]) rfl ?_
    obtain ⟨z6, h⟩ := wq_ii h
    refine wq_idiv hC dX7_bearsCrush_28 z6 ?_
    refine wq_istore hC dX7_bearsCrush_29 (lv' := [some (.ref (E.2.1 p0)), some (.int x1), some (.int x2), some (.int r1), some (.int ((10 * x2) / r4))]) (by decide) rfl ?_
    refine wq_iload hC dX7_bearsCrush_31 rfl ?_
    refine wq_bipush hC (v := 10) dX7_bearsCrush_33 (by decide) ?_
    refine wq_icmp_le hC dX7_bearsCrush_35 (tgt := 43) (by decide) (fun z7 => ?_) (fun z7 => ?_)
    · have h := wq_ip z7 h
      refine wq_iload hC dX7_bearsCrush_43 rfl ?_
      refine wq_mask [true, true, false, true, false] (lv' := [some (.ref (E.2.1 p0)), some (.int x1), none, some (.int r1), none]) rfl ?_
      exact gX7_bearsCrush_J45 hC hd0 p0 x1 r1 ((10 * x2) / r4) M hp0 h K
    · have h := wq_in_ z7 h
      refine wq_bipush hC (v := 10) dX7_bearsCrush_38 (by decide) ?_
      refine wq_goto hC dX7_bearsCrush_40 (tgt := 45) (by decide) ?_
      refine wq_mask [true, true, false, true, false] (lv' := [some (.ref (E.2.1 p0)), some (.int x1), none, some (.int r1), none]) rfl ?_
      exact gX7_bearsCrush_J45 hC hd0 p0 x1 r1 10 M hp0 h K
  · have h := wq_in_ z3 h
    refine wq_aload_n hC dX7_bearsCrush_12 (i := 0) rfl rfl ?_
    refine wq_iload_n hC dX7_bearsCrush_13 (i := 1) rfl rfl ?_
    refine wq_iconst hC (v := 2) dX7_bearsCrush_14 (by decide) ?_
    obtain ⟨r11, hc12, h⟩ := wq_ob h
    refine wq_callS hC (ctX7_of (d := d - 1) (by omega) hp0 hc12) (by omega) (by decide) rfl npX7_of tw_932 tw_933 tw_58 tw_934 (st := []) (Nat.le_of_ble_eq_true rfl) rfl dX7_bearsCrush_15 (st1 := [.int r11]) rfl ?_
    have h := Option.some.inj h
    subst h
    exact wq_iret hC dX7_bearsCrush_18 K.1 K.2
theorem npX7_wouldHold : yX7_wouldHold.cls ≠ "java/lang/invoke/MethodHandle" ∧ yX7_wouldHold.cls ≠ "java/lang/invoke/VarHandle" ∧ (parseMethodDescriptor yX7_wouldHold.desc).map (fun d => d.parameters.length) = some 4 := by decide +kernel
def fX7_wouldHold (p0 : Nat) (x1 : Int32) (x2 : Int32) (x3 : Int32) (M : wq_M) : Option Bool :=
  (fX7_bearsBurst p0 x2 M).bind fun r1 => (fX7_burstLoad p0 x1 M).bind fun r3 => (if r1 < r3 then
    some false
  else
    (fX7_bearsCrush p0 x2 x3 M).bind fun r6 => (fX7_crushLoad p0 x1 M).bind fun r8 => (if r6 < r8 then
      some false
    else
      (fX7_bearsPull p0 x2 M).bind fun r11 => (if r11 < x3 then
        some false
      else
        some true)))
set_option maxHeartbeats 4000000 in
set_option maxRecDepth 100000 in
theorem ctX7_wouldHold {l : Launch} {E : wq_E} {d : Nat} (hd0 : 3 ≤ d) {p0 : Nat} {x1 : Int32} {x2 : Int32} {x3 : Int32} {M : wq_M} {r : Bool} (hp0 : wq_a wq_yR p0 44) (h : fX7_wouldHold p0 x1 x2 x3 M = some r) : wq_ct l E wq_yR yX7_wouldHold cX7_wouldHold 4 (some .boolean) d [.ref (E.2.1 p0), .int x1, .int x2, .int x3] M (some (.int (wq_b r))) M := by
  refine wq_ent (own := "WellPipesModel") (lv0 := [some (.ref (E.2.1 p0)), some (.int x1), some (.int x2), some (.int x3)]) (by decide +kernel) rfl (Nat.le_of_ble_eq_true rfl) rfl (fun g h1 h2 hC => ?_)
  have K : wq_kb g M r := ⟨h1, h2⟩
  unfold fX7_wouldHold at h
  refine wq_aload_n hC dX7_wouldHold_0 (i := 0) rfl rfl ?_
  refine wq_iload_n hC dX7_wouldHold_1 (i := 2) rfl rfl ?_
  obtain ⟨r1, hc2, h⟩ := wq_ob h
  refine wq_callS hC (ctX7_bearsBurst (d := d - 1) (by omega) hp0 hc2) (by omega) (by decide) rfl npX7_bearsBurst tw_938 tw_939 tw_58 tw_940 (st := []) (Nat.le_of_ble_eq_true rfl) rfl dX7_wouldHold_2 (st1 := [.int r1]) rfl ?_
  refine wq_aload_n hC dX7_wouldHold_5 (i := 0) rfl rfl ?_
  refine wq_iload_n hC dX7_wouldHold_6 (i := 1) rfl rfl ?_
  obtain ⟨r3, hc4, h⟩ := wq_ob h
  refine wq_callS hC (ctX7_burstLoad (d := d - 1) (by omega) hp0 hc4) (by omega) (by decide) rfl npX7_burstLoad tw_941 tw_942 tw_58 tw_943 (st := [.int r1]) (Nat.le_of_ble_eq_true rfl) rfl dX7_wouldHold_7 (st1 := [.int r3, .int r1]) rfl ?_
  refine wq_icmp_lt hC dX7_wouldHold_10 (tgt := 40) (by decide) (fun z5 => ?_) (fun z5 => ?_)
  · have h := wq_ip z5 h
    refine wq_iconst hC (v := 0) dX7_wouldHold_40 (by decide) ?_
    have h := Option.some.inj h
    subst h
    exact wq_zret hC (b := false) dX7_wouldHold_41 (by decide) K.1 K.2
  · have h := wq_in_ z5 h
    refine wq_aload_n hC dX7_wouldHold_13 (i := 0) rfl rfl ?_
    refine wq_iload_n hC dX7_wouldHold_14 (i := 2) rfl rfl ?_
    refine wq_iload_n hC dX7_wouldHold_15 (i := 3) rfl rfl ?_
    obtain ⟨r6, hc7, h⟩ := wq_ob h
    refine wq_callS hC (ctX7_bearsCrush (d := d - 1) (by omega) hp0 hc7) (by omega) (by decide) rfl npX7_bearsCrush tw_944 tw_945 tw_58 tw_946 (st := []) (Nat.le_of_ble_eq_true rfl) rfl dX7_wouldHold_16 (st1 := [.int r6]) rfl ?_
    refine wq_aload_n hC dX7_wouldHold_19 (i := 0) rfl rfl ?_
    refine wq_iload_n hC dX7_wouldHold_20 (i := 1) rfl rfl ?_
    obtain ⟨r8, hc9, h⟩ := wq_ob h
    refine wq_callS hC (ctX7_crushLoad (d := d - 1) (by omega) hp0 hc9) (by omega) (by decide) rfl npX7_crushLoad tw_950 tw_951 tw_58 tw_952 (st := [.int r6]) (Nat.le_of_ble_eq_true rfl) rfl dX7_wouldHold_21 (st1 := [.int r8, .int r6]) rfl ?_
    refine wq_icmp_lt hC dX7_wouldHold_24 (tgt := 40) (by decide) (fun z10 => ?_) (fun z10 => ?_)
    · have h := wq_ip z10 h
      refine wq_iconst hC (v := 0) dX7_wouldHold_40 (by decide) ?_
      have h := Option.some.inj h
      subst h
      exact wq_zret hC (b := false) dX7_wouldHold_41 (by decide) K.1 K.2
    · have h := wq_in_ z10 h
      refine wq_aload_n hC dX7_wouldHold_27 (i := 0) rfl rfl ?_
      refine wq_iload_n hC dX7_wouldHold_28 (i := 2) rfl rfl ?_
      obtain ⟨r11, hc12, h⟩ := wq_ob h
      refine wq_callS hC (ctX7_bearsPull (d := d - 1) (by omega) hp0 hc12) (by omega) (by decide) rfl npX7_bearsPull tw_947 tw_948 tw_58 tw_949 (st := []) (Nat.le_of_ble_eq_true rfl) rfl dX7_wouldHold_29 (st1 := [.int r11]) rfl ?_
      refine wq_iload_n hC dX7_wouldHold_32 (i := 3) rfl rfl ?_
      refine wq_icmp_lt hC dX7_wouldHold_33 (tgt := 40) (by decide) (fun z13 => ?_) (fun z13 => ?_)
      · have h := wq_ip z13 h
        refine wq_iconst hC (v := 0) dX7_wouldHold_40 (by decide) ?_
        have h := Option.some.inj h
        subst h
        exact wq_zret hC (b := false) dX7_wouldHold_41 (by decide) K.1 K.2
      · have h := wq_in_ z13 h
        refine wq_iconst hC (v := 1) dX7_wouldHold_36 (by decide) ?_
        refine wq_goto hC dX7_wouldHold_37 (tgt := 41) (by decide) ?_
        have h := Option.some.inj h
        subst h
        exact wq_zret hC (b := true) dX7_wouldHold_41 (by decide) K.1 K.2
theorem npX7_holds : yX7_holds.cls ≠ "java/lang/invoke/MethodHandle" ∧ yX7_holds.cls ≠ "java/lang/invoke/VarHandle" ∧ (parseMethodDescriptor yX7_holds.desc).map (fun d => d.parameters.length) = some 2 := by decide +kernel
def fX7_holds (p0 : Nat) (x1 : Int32) (M : wq_M) : Option Bool :=
  if wq_in (36 + x1) 44 then (if (M.1 p0 (36 + x1).toNatClampNeg) < 0 then
    some false
  else
    if wq_in (36 + x1) 44 then (fX7_hangs p0 x1 M).bind fun r4 => (fX7_wouldHold p0 x1 (M.1 p0 (36 + x1).toNatClampNeg) r4 M).bind fun r6 => (if r6 = true then
      some true
    else
      some false) else none) else none
set_option maxHeartbeats 4000000 in
set_option maxRecDepth 100000 in
theorem ctX7_holds {l : Launch} {E : wq_E} {d : Nat} (hd0 : 4 ≤ d) {p0 : Nat} {x1 : Int32} {M : wq_M} {r : Bool} (hp0 : wq_a wq_yR p0 44) (h : fX7_holds p0 x1 M = some r) : wq_ct l E wq_yR yX7_holds cX7_holds 2 (some .boolean) d [.ref (E.2.1 p0), .int x1] M (some (.int (wq_b r))) M := by
  refine wq_ent (own := "WellPipesModel") (lv0 := [some (.ref (E.2.1 p0)), some (.int x1)]) (by decide +kernel) rfl (Nat.le_of_ble_eq_true rfl) rfl (fun g h1 h2 hC => ?_)
  have K : wq_kb g M r := ⟨h1, h2⟩
  unfold fX7_holds at h
  refine wq_aload_n hC dX7_holds_0 (i := 0) rfl rfl ?_
  refine wq_bipush hC (v := 36) dX7_holds_1 (by decide) ?_
  refine wq_iload_n hC dX7_holds_3 (i := 1) rfl rfl ?_
  refine wq_iadd hC dX7_holds_4 ?_
  obtain ⟨z1, h⟩ := wq_ii h
  refine wq_ald hC hp0 z1 dX7_holds_5 ?_
  refine wq_if_lt hC dX7_holds_6 (tgt := 32) (by decide) (fun z2 => ?_) (fun z2 => ?_)
  · have h := wq_ip z2 h
    refine wq_iconst hC (v := 0) dX7_holds_32 (by decide) ?_
    have h := Option.some.inj h
    subst h
    exact wq_zret hC (b := false) dX7_holds_33 (by decide) K.1 K.2
  · have h := wq_in_ z2 h
    refine wq_aload_n hC dX7_holds_9 (i := 0) rfl rfl ?_
    refine wq_iload_n hC dX7_holds_10 (i := 1) rfl rfl ?_
    refine wq_aload_n hC dX7_holds_11 (i := 0) rfl rfl ?_
    refine wq_bipush hC (v := 36) dX7_holds_12 (by decide) ?_
    refine wq_iload_n hC dX7_holds_14 (i := 1) rfl rfl ?_
    refine wq_iadd hC dX7_holds_15 ?_
    obtain ⟨z3, h⟩ := wq_ii h
    refine wq_ald hC hp0 z3 dX7_holds_16 ?_
    refine wq_aload_n hC dX7_holds_17 (i := 0) rfl rfl ?_
    refine wq_iload_n hC dX7_holds_18 (i := 1) rfl rfl ?_
    obtain ⟨r4, hc5, h⟩ := wq_ob h
    refine wq_callS hC (ctX7_hangs (d := d - 1) (by omega) hp0 hc5) (by omega) (by decide) rfl npX7_hangs tw_980 tw_981 tw_58 tw_982 (st := [.int (M.1 p0 (36 + x1).toNatClampNeg), .int x1, .ref (E.2.1 p0)]) (Nat.le_of_ble_eq_true rfl) rfl dX7_holds_19 (st1 := [.int r4, .int (M.1 p0 (36 + x1).toNatClampNeg), .int x1, .ref (E.2.1 p0)]) rfl ?_
    obtain ⟨r6, hc7, h⟩ := wq_ob h
    refine wq_callS hC (ctX7_wouldHold (d := d - 1) (by omega) hp0 hc7) (by omega) (by decide) rfl npX7_wouldHold tw_935 tw_936 tw_58 tw_937 (st := []) (Nat.le_of_ble_eq_true rfl) rfl dX7_holds_22 (st1 := [.int (wq_b r6)]) rfl ?_
    refine wq_bif_eq hC dX7_holds_25 (tgt := 32) (by decide) (fun z8 => ?_) (fun z8 => ?_)
    · have h := wq_in_ z8 h
      refine wq_iconst hC (v := 0) dX7_holds_32 (by decide) ?_
      have h := Option.some.inj h
      subst h
      exact wq_zret hC (b := false) dX7_holds_33 (by decide) K.1 K.2
    · have h := wq_ip z8 h
      refine wq_iconst hC (v := 1) dX7_holds_28 (by decide) ?_
      refine wq_goto hC dX7_holds_29 (tgt := 33) (by decide) ?_
      have h := Option.some.inj h
      subst h
      exact wq_zret hC (b := true) dX7_holds_33 (by decide) K.1 K.2
theorem npX7_manyHold : yX7_manyHold.cls ≠ "java/lang/invoke/MethodHandle" ∧ yX7_manyHold.cls ≠ "java/lang/invoke/VarHandle" ∧ (parseMethodDescriptor yX7_manyHold.desc).map (fun d => d.parameters.length) = some 1 := by decide +kernel
def fX7_manyHold_L4 (p0 : Nat) (M : wq_M) : (Int32 × Int32) → Option ((Int32 × Int32) ⊕ Int32) := fun s =>
  if wq_in 0 44 then (if (M.1 p0 (0 : Int32).toNatClampNeg) ≤ s.2 then
    some (.inr s.1)
  else
    (fX7_holds p0 s.2 M).bind fun r3 => (if r3 = true then
      some (.inl ((s.1 + 1), (s.2 + 1)))
    else
      some (.inl ((s.1 + 0), (s.2 + 1))))) else none
set_option maxHeartbeats 4000000 in
set_option maxRecDepth 100000 in
theorem gX7_manyHold_L4 {g : wq_G} {E : wq_E} {d : Nat} (hC : wq_C g E wq_yR cX7_manyHold 3 "WellPipesModel" (some .int) d) (hd0 : 5 ≤ d) (p0 : Nat) (M : wq_M) (hp0 : wq_a wq_yR p0 44) : ∀ (n : Nat) (s : (Int32 × Int32)) (e : Int32), wq_lp (fX7_manyHold_L4 p0 M) n s = some e → (fun (e : Int32) => wq_g g E wq_yR 3 33 [none, some (.int e), none] [] M) e → wq_g g E wq_yR 3 4 [some (.ref (E.2.1 p0)), some (.int s.1), some (.int s.2)] [] M := by
  refine wq_lq_ok (fun (s : (Int32 × Int32)) => wq_g g E wq_yR 3 4 [some (.ref (E.2.1 p0)), some (.int s.1), some (.int s.2)] [] M) (fun (e : Int32) => wq_g g E wq_yR 3 33 [none, some (.int e), none] [] M) (fun s x h K => ?_)
  unfold fX7_manyHold_L4 at h
  refine wq_iload_n hC dX7_manyHold_4 (i := 2) rfl rfl ?_
  refine wq_aload_n hC dX7_manyHold_5 (i := 0) rfl rfl ?_
  refine wq_iconst hC (v := 0) dX7_manyHold_6 (by decide) ?_
  obtain ⟨z1, h⟩ := wq_ii h
  refine wq_ald hC hp0 z1 dX7_manyHold_7 ?_
  refine wq_icmp_ge hC dX7_manyHold_8 (tgt := 33) (by decide) (fun z2 => ?_) (fun z2 => ?_)
  · have h := wq_ip z2 h
    have h := Option.some.inj h
    subst h
    refine wq_mask [false, true, false] (lv' := [none, some (.int s.1), none]) rfl ?_
    exact K
  · have h := wq_in_ z2 h
    refine wq_iload_n hC dX7_manyHold_11 (i := 1) rfl rfl ?_
    refine wq_aload_n hC dX7_manyHold_12 (i := 0) rfl rfl ?_
    refine wq_iload_n hC dX7_manyHold_13 (i := 2) rfl rfl ?_
    obtain ⟨r3, hc4, h⟩ := wq_ob h
    refine wq_callS hC (ctX7_holds (d := d - 1) (by omega) hp0 hc4) (by omega) (by decide) rfl npX7_holds tw_983 tw_984 tw_58 tw_985 (st := [.int s.1]) (Nat.le_of_ble_eq_true rfl) rfl dX7_manyHold_14 (st1 := [.int (wq_b r3), .int s.1]) rfl ?_
    refine wq_bif_eq hC dX7_manyHold_17 (tgt := 24) (by decide) (fun z5 => ?_) (fun z5 => ?_)
    · have h := wq_in_ z5 h
      refine wq_iconst hC (v := 0) dX7_manyHold_24 (by decide) ?_
      refine wq_iadd hC dX7_manyHold_25 ?_
      refine wq_istore_n hC dX7_manyHold_26 (i := 1) (lv' := [some (.ref (E.2.1 p0)), some (.int (s.1 + 0)), some (.int s.2)]) rfl (by decide) rfl ?_
      refine wq_iinc hC (v := (s.2 + 1)) dX7_manyHold_27 (lv' := [some (.ref (E.2.1 p0)), some (.int (s.1 + 0)), some (.int (s.2 + 1))]) rfl rfl (by decide) rfl ?_
      refine wq_goto hC dX7_manyHold_30 (tgt := 4) (by decide) ?_
      have h := Option.some.inj h
      subst h
      exact K
    · have h := wq_ip z5 h
      refine wq_iconst hC (v := 1) dX7_manyHold_20 (by decide) ?_
      refine wq_goto hC dX7_manyHold_21 (tgt := 25) (by decide) ?_
      refine wq_iadd hC dX7_manyHold_25 ?_
      refine wq_istore_n hC dX7_manyHold_26 (i := 1) (lv' := [some (.ref (E.2.1 p0)), some (.int (s.1 + 1)), some (.int s.2)]) rfl (by decide) rfl ?_
      refine wq_iinc hC (v := (s.2 + 1)) dX7_manyHold_27 (lv' := [some (.ref (E.2.1 p0)), some (.int (s.1 + 1)), some (.int (s.2 + 1))]) rfl rfl (by decide) rfl ?_
      refine wq_goto hC dX7_manyHold_30 (tgt := 4) (by decide) ?_
      have h := Option.some.inj h
      subst h
      exact K
def fX7_manyHold (p0 : Nat) (M : wq_M) : Option Int32 :=
  (wq_lp (fX7_manyHold_L4 p0 M) wq_FU (0, 0)).bind fun e6 => some e6
set_option maxHeartbeats 4000000 in
set_option maxRecDepth 100000 in
theorem ctX7_manyHold {l : Launch} {E : wq_E} {d : Nat} (hd0 : 5 ≤ d) {p0 : Nat} {M : wq_M} {r : Int32} (hp0 : wq_a wq_yR p0 44) (h : fX7_manyHold p0 M = some r) : wq_ct l E wq_yR yX7_manyHold cX7_manyHold 3 (some .int) d [.ref (E.2.1 p0)] M (some (.int r)) M := by
  refine wq_ent (own := "WellPipesModel") (lv0 := [some (.ref (E.2.1 p0)), none, none]) (by decide +kernel) rfl (Nat.le_of_ble_eq_true rfl) rfl (fun g h1 h2 hC => ?_)
  have K : wq_ki g M r := ⟨h1, h2⟩
  unfold fX7_manyHold at h
  refine wq_iconst hC (v := 0) dX7_manyHold_0 (by decide) ?_
  refine wq_istore_n hC dX7_manyHold_1 (i := 1) (lv' := [some (.ref (E.2.1 p0)), some (.int 0), none]) rfl (by decide) rfl ?_
  refine wq_iconst hC (v := 0) dX7_manyHold_2 (by decide) ?_
  refine wq_istore_n hC dX7_manyHold_3 (i := 2) (lv' := [some (.ref (E.2.1 p0)), some (.int 0), some (.int 0)]) rfl (by decide) rfl ?_
  obtain ⟨e6, hl7, h⟩ := wq_ob h
  refine gX7_manyHold_L4 hC hd0 p0 M hp0 wq_FU _ _ hl7 ?_
  refine wq_iload_n hC dX7_manyHold_33 (i := 1) rfl rfl ?_
  have h := Option.some.inj h
  subst h
  exact wq_iret hC dX7_manyHold_34 K.1 K.2
theorem npX7_costOf : yX7_costOf.cls ≠ "java/lang/invoke/MethodHandle" ∧ yX7_costOf.cls ≠ "java/lang/invoke/VarHandle" ∧ (parseMethodDescriptor yX7_costOf.desc).map (fun d => d.parameters.length) = some 1 := by decide +kernel
def fX7_costOf_L4 (p0 : Nat) (M : wq_M) : (Int32 × Int32) → Option ((Int32 × Int32) ⊕ Int32) := fun s =>
  if wq_in 0 44 then (if (M.1 p0 (0 : Int32).toNatClampNeg) ≤ s.2 then
    some (.inr s.1)
  else
    if wq_in (36 + s.2) 44 then (if 0 ≤ (M.1 p0 (36 + s.2).toNatClampNeg) then
      if wq_in (36 + s.2) 44 then (fX7_of p0 (M.1 p0 (36 + s.2).toNatClampNeg) 5 M).bind fun r6 => some (.inl ((s.1 + r6), (s.2 + 1))) else none
    else
      some (.inl ((s.1 + 0), (s.2 + 1)))) else none) else none
set_option maxHeartbeats 4000000 in
set_option maxRecDepth 100000 in
theorem gX7_costOf_L4 {g : wq_G} {E : wq_E} {d : Nat} (hC : wq_C g E wq_yR cX7_costOf 3 "WellPipesModel" (some .int) d) (hd0 : 1 ≤ d) (p0 : Nat) (M : wq_M) (hp0 : wq_a wq_yR p0 44) : ∀ (n : Nat) (s : (Int32 × Int32)) (e : Int32), wq_lp (fX7_costOf_L4 p0 M) n s = some e → (fun (e : Int32) => wq_g g E wq_yR 3 44 [none, some (.int e), none] [] M) e → wq_g g E wq_yR 3 4 [some (.ref (E.2.1 p0)), some (.int s.1), some (.int s.2)] [] M := by
  refine wq_lq_ok (fun (s : (Int32 × Int32)) => wq_g g E wq_yR 3 4 [some (.ref (E.2.1 p0)), some (.int s.1), some (.int s.2)] [] M) (fun (e : Int32) => wq_g g E wq_yR 3 44 [none, some (.int e), none] [] M) (fun s x h K => ?_)
  unfold fX7_costOf_L4 at h
  refine wq_iload_n hC dX7_costOf_4 (i := 2) rfl rfl ?_
  refine wq_aload_n hC dX7_costOf_5 (i := 0) rfl rfl ?_
  refine wq_iconst hC (v := 0) dX7_costOf_6 (by decide) ?_
  obtain ⟨z1, h⟩ := wq_ii h
  refine wq_ald hC hp0 z1 dX7_costOf_7 ?_
  refine wq_icmp_ge hC dX7_costOf_8 (tgt := 44) (by decide) (fun z2 => ?_) (fun z2 => ?_)
  · have h := wq_ip z2 h
    have h := Option.some.inj h
    subst h
    refine wq_mask [false, true, false] (lv' := [none, some (.int s.1), none]) rfl ?_
    exact K
  · have h := wq_in_ z2 h
    refine wq_iload_n hC dX7_costOf_11 (i := 1) rfl rfl ?_
    refine wq_aload_n hC dX7_costOf_12 (i := 0) rfl rfl ?_
    refine wq_bipush hC (v := 36) dX7_costOf_13 (by decide) ?_
    refine wq_iload_n hC dX7_costOf_15 (i := 2) rfl rfl ?_
    refine wq_iadd hC dX7_costOf_16 ?_
    obtain ⟨z3, h⟩ := wq_ii h
    refine wq_ald hC hp0 z3 dX7_costOf_17 ?_
    refine wq_if_ge hC dX7_costOf_18 (tgt := 25) (by decide) (fun z4 => ?_) (fun z4 => ?_)
    · have h := wq_ip z4 h
      refine wq_aload_n hC dX7_costOf_25 (i := 0) rfl rfl ?_
      refine wq_aload_n hC dX7_costOf_26 (i := 0) rfl rfl ?_
      refine wq_bipush hC (v := 36) dX7_costOf_27 (by decide) ?_
      refine wq_iload_n hC dX7_costOf_29 (i := 2) rfl rfl ?_
      refine wq_iadd hC dX7_costOf_30 ?_
      obtain ⟨z5, h⟩ := wq_ii h
      refine wq_ald hC hp0 z5 dX7_costOf_31 ?_
      refine wq_iconst hC (v := 5) dX7_costOf_32 (by decide) ?_
      obtain ⟨r6, hc7, h⟩ := wq_ob h
      refine wq_callS hC (ctX7_of (d := d - 1) (by omega) hp0 hc7) (by omega) (by decide) rfl npX7_of tw_932 tw_933 tw_58 tw_934 (st := [.int s.1]) (Nat.le_of_ble_eq_true rfl) rfl dX7_costOf_33 (st1 := [.int r6, .int s.1]) rfl ?_
      refine wq_iadd hC dX7_costOf_36 ?_
      refine wq_istore_n hC dX7_costOf_37 (i := 1) (lv' := [some (.ref (E.2.1 p0)), some (.int (s.1 + r6)), some (.int s.2)]) rfl (by decide) rfl ?_
      refine wq_iinc hC (v := (s.2 + 1)) dX7_costOf_38 (lv' := [some (.ref (E.2.1 p0)), some (.int (s.1 + r6)), some (.int (s.2 + 1))]) rfl rfl (by decide) rfl ?_
      refine wq_goto hC dX7_costOf_41 (tgt := 4) (by decide) ?_
      have h := Option.some.inj h
      subst h
      exact K
    · have h := wq_in_ z4 h
      refine wq_iconst hC (v := 0) dX7_costOf_21 (by decide) ?_
      refine wq_goto hC dX7_costOf_22 (tgt := 36) (by decide) ?_
      refine wq_iadd hC dX7_costOf_36 ?_
      refine wq_istore_n hC dX7_costOf_37 (i := 1) (lv' := [some (.ref (E.2.1 p0)), some (.int (s.1 + 0)), some (.int s.2)]) rfl (by decide) rfl ?_
      refine wq_iinc hC (v := (s.2 + 1)) dX7_costOf_38 (lv' := [some (.ref (E.2.1 p0)), some (.int (s.1 + 0)), some (.int (s.2 + 1))]) rfl rfl (by decide) rfl ?_
      refine wq_goto hC dX7_costOf_41 (tgt := 4) (by decide) ?_
      have h := Option.some.inj h
      subst h
      exact K
def fX7_costOf (p0 : Nat) (M : wq_M) : Option Int32 :=
  (wq_lp (fX7_costOf_L4 p0 M) wq_FU (0, 0)).bind fun e8 => some e8
set_option maxHeartbeats 4000000 in
set_option maxRecDepth 100000 in
theorem ctX7_costOf {l : Launch} {E : wq_E} {d : Nat} (hd0 : 1 ≤ d) {p0 : Nat} {M : wq_M} {r : Int32} (hp0 : wq_a wq_yR p0 44) (h : fX7_costOf p0 M = some r) : wq_ct l E wq_yR yX7_costOf cX7_costOf 3 (some .int) d [.ref (E.2.1 p0)] M (some (.int r)) M := by
  refine wq_ent (own := "WellPipesModel") (lv0 := [some (.ref (E.2.1 p0)), none, none]) (by decide +kernel) rfl (Nat.le_of_ble_eq_true rfl) rfl (fun g h1 h2 hC => ?_)
  have K : wq_ki g M r := ⟨h1, h2⟩
  unfold fX7_costOf at h
  refine wq_iconst hC (v := 0) dX7_costOf_0 (by decide) ?_
  refine wq_istore_n hC dX7_costOf_1 (i := 1) (lv' := [some (.ref (E.2.1 p0)), some (.int 0), none]) rfl (by decide) rfl ?_
  refine wq_iconst hC (v := 0) dX7_costOf_2 (by decide) ?_
  refine wq_istore_n hC dX7_costOf_3 (i := 2) (lv' := [some (.ref (E.2.1 p0)), some (.int 0), some (.int 0)]) rfl (by decide) rfl ?_
  obtain ⟨e8, hl9, h⟩ := wq_ob h
  refine gX7_costOf_L4 hC hd0 p0 M hp0 wq_FU _ _ hl9 ?_
  refine wq_iload_n hC dX7_costOf_44 (i := 1) rfl rfl ?_
  have h := Option.some.inj h
  subst h
  exact wq_iret hC dX7_costOf_45 K.1 K.2
theorem npX7_sectionOf : yX7_sectionOf.cls ≠ "java/lang/invoke/MethodHandle" ∧ yX7_sectionOf.cls ≠ "java/lang/invoke/VarHandle" ∧ (parseMethodDescriptor yX7_sectionOf.desc).map (fun d => d.parameters.length) = some 2 := by decide +kernel
def fX7_sectionOf_L15 (p0 : Nat) (x1 : Int32) (x2 : Int32) (M : wq_M) : Int32 → Option (Int32 ⊕ Int32) := fun s =>
  (if s ≤ 0 then
    some (.inr s)
  else
    if wq_in ((36 + s) - 1) 44 then (if (M.1 p0 ((36 + s) - 1).toNatClampNeg) = x2 then
      some (.inl (s + (-1)))
    else
      some (.inr s)) else none)
set_option maxHeartbeats 4000000 in
set_option maxRecDepth 100000 in
theorem gX7_sectionOf_L15 {g : wq_G} {E : wq_E} {d : Nat} (hC : wq_C g E wq_yR cX7_sectionOf 5 "WellPipesModel" (some .int) d) (hd0 : 0 ≤ d) (p0 : Nat) (x1 : Int32) (x2 : Int32) (M : wq_M) (hp0 : wq_a wq_yR p0 44) : ∀ (n : Nat) (s : Int32) (e : Int32), wq_lp (fX7_sectionOf_L15 p0 x1 x2 M) n s = some e → (fun (e : Int32) => wq_g g E wq_yR 5 37 [some (.ref (E.2.1 p0)), some (.int x1), some (.int x2), some (.int e), none] [] M) e → wq_g g E wq_yR 5 15 [some (.ref (E.2.1 p0)), some (.int x1), some (.int x2), some (.int s), none] [] M := by
  refine wq_lq_ok (fun (s : Int32) => wq_g g E wq_yR 5 15 [some (.ref (E.2.1 p0)), some (.int x1), some (.int x2), some (.int s), none] [] M) (fun (e : Int32) => wq_g g E wq_yR 5 37 [some (.ref (E.2.1 p0)), some (.int x1), some (.int x2), some (.int e), none] [] M) (fun s x h K => ?_)
  unfold fX7_sectionOf_L15 at h
  refine wq_iload_n hC dX7_sectionOf_15 (i := 3) rfl rfl ?_
  refine wq_if_le hC dX7_sectionOf_16 (tgt := 37) (by decide) (fun z3 => ?_) (fun z3 => ?_)
  · have h := wq_ip z3 h
    have h := Option.some.inj h
    subst h
    exact K
  · have h := wq_in_ z3 h
    refine wq_aload_n hC dX7_sectionOf_19 (i := 0) rfl rfl ?_
    refine wq_bipush hC (v := 36) dX7_sectionOf_20 (by decide) ?_
    refine wq_iload_n hC dX7_sectionOf_22 (i := 3) rfl rfl ?_
    refine wq_iadd hC dX7_sectionOf_23 ?_
    refine wq_iconst hC (v := 1) dX7_sectionOf_24 (by decide) ?_
    refine wq_isub hC dX7_sectionOf_25 ?_
    obtain ⟨z4, h⟩ := wq_ii h
    refine wq_ald hC hp0 z4 dX7_sectionOf_26 ?_
    refine wq_iload_n hC dX7_sectionOf_27 (i := 2) rfl rfl ?_
    refine wq_icmp_ne hC dX7_sectionOf_28 (tgt := 37) (by decide) (fun z5 => ?_) (fun z5 => ?_)
    · have h := wq_in_ z5 h
      have h := Option.some.inj h
      subst h
      exact K
    · have h := wq_ip z5 h
      refine wq_iinc hC (v := (s + (-1))) dX7_sectionOf_31 (lv' := [some (.ref (E.2.1 p0)), some (.int x1), some (.int x2), some (.int (s + (-1))), none]) rfl rfl (by decide) rfl ?_
      refine wq_goto hC dX7_sectionOf_34 (tgt := 15) (by decide) ?_
      have h := Option.some.inj h
      subst h
      exact K
def fX7_sectionOf_L40 (p0 : Nat) (x2 : Int32) (x3 : Int32) (M : wq_M) : Int32 → Option (Int32 ⊕ Int32) := fun s =>
  if wq_in 0 44 then (if (M.1 p0 (0 : Int32).toNatClampNeg) ≤ (s + 1) then
    some (.inr s)
  else
    if wq_in ((36 + s) + 1) 44 then (if (M.1 p0 ((36 + s) + 1).toNatClampNeg) = x2 then
      some (.inl (s + 1))
    else
      some (.inr s)) else none) else none
set_option maxHeartbeats 4000000 in
set_option maxRecDepth 100000 in
theorem gX7_sectionOf_L40 {g : wq_G} {E : wq_E} {d : Nat} (hC : wq_C g E wq_yR cX7_sectionOf 5 "WellPipesModel" (some .int) d) (hd0 : 0 ≤ d) (p0 : Nat) (x2 : Int32) (x3 : Int32) (M : wq_M) (hp0 : wq_a wq_yR p0 44) : ∀ (n : Nat) (s : Int32) (e : Int32), wq_lp (fX7_sectionOf_L40 p0 x2 x3 M) n s = some e → (fun (e : Int32) => wq_g g E wq_yR 5 69 [none, none, none, some (.int x3), some (.int e)] [] M) e → wq_g g E wq_yR 5 40 [some (.ref (E.2.1 p0)), none, some (.int x2), some (.int x3), some (.int s)] [] M := by
  refine wq_lq_ok (fun (s : Int32) => wq_g g E wq_yR 5 40 [some (.ref (E.2.1 p0)), none, some (.int x2), some (.int x3), some (.int s)] [] M) (fun (e : Int32) => wq_g g E wq_yR 5 69 [none, none, none, some (.int x3), some (.int e)] [] M) (fun s x h K => ?_)
  unfold fX7_sectionOf_L40 at h
  refine wq_iload hC dX7_sectionOf_40 rfl ?_
  refine wq_iconst hC (v := 1) dX7_sectionOf_42 (by decide) ?_
  refine wq_iadd hC dX7_sectionOf_43 ?_
  refine wq_aload_n hC dX7_sectionOf_44 (i := 0) rfl rfl ?_
  refine wq_iconst hC (v := 0) dX7_sectionOf_45 (by decide) ?_
  obtain ⟨z8, h⟩ := wq_ii h
  refine wq_ald hC hp0 z8 dX7_sectionOf_46 ?_
  refine wq_icmp_ge hC dX7_sectionOf_47 (tgt := 69) (by decide) (fun z9 => ?_) (fun z9 => ?_)
  · have h := wq_ip z9 h
    have h := Option.some.inj h
    subst h
    refine wq_mask [false, false, false, true, true] (lv' := [none, none, none, some (.int x3), some (.int s)]) rfl ?_
    exact K
  · have h := wq_in_ z9 h
    refine wq_aload_n hC dX7_sectionOf_50 (i := 0) rfl rfl ?_
    refine wq_bipush hC (v := 36) dX7_sectionOf_51 (by decide) ?_
    refine wq_iload hC dX7_sectionOf_53 rfl ?_
    refine wq_iadd hC dX7_sectionOf_55 ?_
    refine wq_iconst hC (v := 1) dX7_sectionOf_56 (by decide) ?_
    refine wq_iadd hC dX7_sectionOf_57 ?_
    obtain ⟨z10, h⟩ := wq_ii h
    refine wq_ald hC hp0 z10 dX7_sectionOf_58 ?_
    refine wq_iload_n hC dX7_sectionOf_59 (i := 2) rfl rfl ?_
    refine wq_icmp_ne hC dX7_sectionOf_60 (tgt := 69) (by decide) (fun z11 => ?_) (fun z11 => ?_)
    · have h := wq_in_ z11 h
      have h := Option.some.inj h
      subst h
      refine wq_mask [false, false, false, true, true] (lv' := [none, none, none, some (.int x3), some (.int s)]) rfl ?_
      exact K
    · have h := wq_ip z11 h
      refine wq_iinc hC (v := (s + 1)) dX7_sectionOf_63 (lv' := [some (.ref (E.2.1 p0)), none, some (.int x2), some (.int x3), some (.int (s + 1))]) rfl rfl (by decide) rfl ?_
      refine wq_goto hC dX7_sectionOf_66 (tgt := 40) (by decide) ?_
      have h := Option.some.inj h
      subst h
      exact K
def fX7_sectionOf_J37 (p0 : Nat) (x1 : Int32) (x2 : Int32) (x3 : Int32) (M : wq_M) : Option Int32 :=
  (wq_lp (fX7_sectionOf_L40 p0 x2 x3 M) wq_FU x1).bind fun e12 => some ((e12 - x3) + 1)
set_option maxHeartbeats 4000000 in
set_option maxRecDepth 100000 in
theorem gX7_sectionOf_J37 {g : wq_G} {E : wq_E} {d : Nat} (hC : wq_C g E wq_yR cX7_sectionOf 5 "WellPipesModel" (some .int) d) (hd0 : 0 ≤ d) (p0 : Nat) (x1 : Int32) (x2 : Int32) (x3 : Int32) (M : wq_M) (hp0 : wq_a wq_yR p0 44) {x : Int32} (h : fX7_sectionOf_J37 p0 x1 x2 x3 M = some x) (K : (wq_ki g M) x) : wq_g g E wq_yR 5 37 [some (.ref (E.2.1 p0)), some (.int x1), some (.int x2), some (.int x3), none] [] M := by
  unfold fX7_sectionOf_J37 at h
  refine wq_iload_n hC dX7_sectionOf_37 (i := 1) rfl rfl ?_
  refine wq_istore hC dX7_sectionOf_38 (lv' := [some (.ref (E.2.1 p0)), some (.int x1), some (.int x2), some (.int x3), some (.int x1)]) (by decide) rfl ?_
  obtain ⟨e12, hl13, h⟩ := wq_ob h
  refine wq_mask [true, false, true, true, true] (lv' := [some (.ref (E.2.1 p0)), none, some (.int x2), some (.int x3), some (.int x1)]) rfl ?_
  refine gX7_sectionOf_L40 hC hd0 p0 x2 x3 M hp0 wq_FU _ _ hl13 ?_
  refine wq_iload hC dX7_sectionOf_69 rfl ?_
  refine wq_iload_n hC dX7_sectionOf_71 (i := 3) rfl rfl ?_
  refine wq_isub hC dX7_sectionOf_72 ?_
  refine wq_iconst hC (v := 1) dX7_sectionOf_73 (by decide) ?_
  refine wq_iadd hC dX7_sectionOf_74 ?_
  have h := Option.some.inj h
  subst h
  exact wq_iret hC dX7_sectionOf_75 K.1 K.2
def fX7_sectionOf (p0 : Nat) (x1 : Int32) (M : wq_M) : Option Int32 :=
  if wq_in (36 + x1) 44 then (if 0 ≤ (M.1 p0 (36 + x1).toNatClampNeg) then
    (wq_lp (fX7_sectionOf_L15 p0 x1 (M.1 p0 (36 + x1).toNatClampNeg) M) wq_FU x1).bind fun e6 => fX7_sectionOf_J37 p0 x1 (M.1 p0 (36 + x1).toNatClampNeg) e6 M
  else
    some 0) else none
set_option maxHeartbeats 4000000 in
set_option maxRecDepth 100000 in
theorem ctX7_sectionOf {l : Launch} {E : wq_E} {d : Nat} (hd0 : 0 ≤ d) {p0 : Nat} {x1 : Int32} {M : wq_M} {r : Int32} (hp0 : wq_a wq_yR p0 44) (h : fX7_sectionOf p0 x1 M = some r) : wq_ct l E wq_yR yX7_sectionOf cX7_sectionOf 5 (some .int) d [.ref (E.2.1 p0), .int x1] M (some (.int r)) M := by
  refine wq_ent (own := "WellPipesModel") (lv0 := [some (.ref (E.2.1 p0)), some (.int x1), none, none, none]) (by decide +kernel) rfl (Nat.le_of_ble_eq_true rfl) rfl (fun g h1 h2 hC => ?_)
  have K : wq_ki g M r := ⟨h1, h2⟩
  unfold fX7_sectionOf at h
  refine wq_aload_n hC dX7_sectionOf_0 (i := 0) rfl rfl ?_
  refine wq_bipush hC (v := 36) dX7_sectionOf_1 (by decide) ?_
  refine wq_iload_n hC dX7_sectionOf_3 (i := 1) rfl rfl ?_
  refine wq_iadd hC dX7_sectionOf_4 ?_
  obtain ⟨z1, h⟩ := wq_ii h
  refine wq_ald hC hp0 z1 dX7_sectionOf_5 ?_
  refine wq_istore_n hC dX7_sectionOf_6 (i := 2) (lv' := [some (.ref (E.2.1 p0)), some (.int x1), some (.int (M.1 p0 (36 + x1).toNatClampNeg)), none, none]) rfl (by decide) rfl ?_
  refine wq_iload_n hC dX7_sectionOf_7 (i := 2) rfl rfl ?_
  refine wq_if_ge hC dX7_sectionOf_8 (tgt := 13) (by decide) (fun z2 => ?_) (fun z2 => ?_)
  · have h := wq_ip z2 h
    refine wq_iload_n hC dX7_sectionOf_13 (i := 1) rfl rfl ?_
    refine wq_istore_n hC dX7_sectionOf_14 (i := 3) (lv' := [some (.ref (E.2.1 p0)), some (.int x1), some (.int (M.1 p0 (36 + x1).toNatClampNeg)), some (.int x1), none]) rfl (by decide) rfl ?_
    obtain ⟨e6, hl7, h⟩ := wq_ob h
    refine gX7_sectionOf_L15 hC hd0 p0 x1 (M.1 p0 (36 + x1).toNatClampNeg) M hp0 wq_FU _ _ hl7 ?_
    exact gX7_sectionOf_J37 hC hd0 p0 x1 (M.1 p0 (36 + x1).toNatClampNeg) e6 M hp0 h K
  · have h := wq_in_ z2 h
    refine wq_iconst hC (v := 0) dX7_sectionOf_11 (by decide) ?_
    have h := Option.some.inj h
    subst h
    exact wq_iret hC dX7_sectionOf_12 K.1 K.2
theorem npX7_sections : yX7_sections.cls ≠ "java/lang/invoke/MethodHandle" ∧ yX7_sections.cls ≠ "java/lang/invoke/VarHandle" ∧ (parseMethodDescriptor yX7_sections.desc).map (fun d => d.parameters.length) = some 1 := by decide +kernel
def fX7_sections_L4 (p0 : Nat) (M : wq_M) : (Int32 × Int32) → Option ((Int32 × Int32) ⊕ Int32) := fun s =>
  if wq_in 0 44 then (if (M.1 p0 (0 : Int32).toNatClampNeg) ≤ s.2 then
    some (.inr s.1)
  else
    if wq_in (36 + s.2) 44 then (if (M.1 p0 (36 + s.2).toNatClampNeg) < 0 then
      some (.inl ((s.1 + 0), (s.2 + 1)))
    else
      (if s.2 = 0 then
        some (.inl ((s.1 + 1), (s.2 + 1)))
      else
        if wq_in ((36 + s.2) - 1) 44 then if wq_in (36 + s.2) 44 then (if (M.1 p0 ((36 + s.2) - 1).toNatClampNeg) = (M.1 p0 (36 + s.2).toNatClampNeg) then
          some (.inl ((s.1 + 0), (s.2 + 1)))
        else
          some (.inl ((s.1 + 1), (s.2 + 1)))) else none else none)) else none) else none
set_option maxHeartbeats 4000000 in
set_option maxRecDepth 100000 in
theorem gX7_sections_L4 {g : wq_G} {E : wq_E} {d : Nat} (hC : wq_C g E wq_yR cX7_sections 3 "WellPipesModel" (some .int) d) (hd0 : 0 ≤ d) (p0 : Nat) (M : wq_M) (hp0 : wq_a wq_yR p0 44) : ∀ (n : Nat) (s : (Int32 × Int32)) (e : Int32), wq_lp (fX7_sections_L4 p0 M) n s = some e → (fun (e : Int32) => wq_g g E wq_yR 3 55 [none, some (.int e), none] [] M) e → wq_g g E wq_yR 3 4 [some (.ref (E.2.1 p0)), some (.int s.1), some (.int s.2)] [] M := by
  refine wq_lq_ok (fun (s : (Int32 × Int32)) => wq_g g E wq_yR 3 4 [some (.ref (E.2.1 p0)), some (.int s.1), some (.int s.2)] [] M) (fun (e : Int32) => wq_g g E wq_yR 3 55 [none, some (.int e), none] [] M) (fun s x h K => ?_)
  unfold fX7_sections_L4 at h
  refine wq_iload_n hC dX7_sections_4 (i := 2) rfl rfl ?_
  refine wq_aload_n hC dX7_sections_5 (i := 0) rfl rfl ?_
  refine wq_iconst hC (v := 0) dX7_sections_6 (by decide) ?_
  obtain ⟨z1, h⟩ := wq_ii h
  refine wq_ald hC hp0 z1 dX7_sections_7 ?_
  refine wq_icmp_ge hC dX7_sections_8 (tgt := 55) (by decide) (fun z2 => ?_) (fun z2 => ?_)
  · have h := wq_ip z2 h
    have h := Option.some.inj h
    subst h
    refine wq_mask [false, true, false] (lv' := [none, some (.int s.1), none]) rfl ?_
    exact K
  · have h := wq_in_ z2 h
    refine wq_iload_n hC dX7_sections_11 (i := 1) rfl rfl ?_
    refine wq_aload_n hC dX7_sections_12 (i := 0) rfl rfl ?_
    refine wq_bipush hC (v := 36) dX7_sections_13 (by decide) ?_
    refine wq_iload_n hC dX7_sections_15 (i := 2) rfl rfl ?_
    refine wq_iadd hC dX7_sections_16 ?_
    obtain ⟨z3, h⟩ := wq_ii h
    refine wq_ald hC hp0 z3 dX7_sections_17 ?_
    refine wq_if_lt hC dX7_sections_18 (tgt := 46) (by decide) (fun z4 => ?_) (fun z4 => ?_)
    · have h := wq_ip z4 h
      refine wq_iconst hC (v := 0) dX7_sections_46 (by decide) ?_
      refine wq_iadd hC dX7_sections_47 ?_
      refine wq_istore_n hC dX7_sections_48 (i := 1) (lv' := [some (.ref (E.2.1 p0)), some (.int (s.1 + 0)), some (.int s.2)]) rfl (by decide) rfl ?_
      refine wq_iinc hC (v := (s.2 + 1)) dX7_sections_49 (lv' := [some (.ref (E.2.1 p0)), some (.int (s.1 + 0)), some (.int (s.2 + 1))]) rfl rfl (by decide) rfl ?_
      refine wq_goto hC dX7_sections_52 (tgt := 4) (by decide) ?_
      have h := Option.some.inj h
      subst h
      exact K
    · have h := wq_in_ z4 h
      refine wq_iload_n hC dX7_sections_21 (i := 2) rfl rfl ?_
      refine wq_if_eq hC dX7_sections_22 (tgt := 42) (by decide) (fun z5 => ?_) (fun z5 => ?_)
      · have h := wq_ip z5 h
        refine wq_iconst hC (v := 1) dX7_sections_42 (by decide) ?_
        refine wq_goto hC dX7_sections_43 (tgt := 47) (by decide) ?_
        refine wq_iadd hC dX7_sections_47 ?_
        refine wq_istore_n hC dX7_sections_48 (i := 1) (lv' := [some (.ref (E.2.1 p0)), some (.int (s.1 + 1)), some (.int s.2)]) rfl (by decide) rfl ?_
        refine wq_iinc hC (v := (s.2 + 1)) dX7_sections_49 (lv' := [some (.ref (E.2.1 p0)), some (.int (s.1 + 1)), some (.int (s.2 + 1))]) rfl rfl (by decide) rfl ?_
        refine wq_goto hC dX7_sections_52 (tgt := 4) (by decide) ?_
        have h := Option.some.inj h
        subst h
        exact K
      · have h := wq_in_ z5 h
        refine wq_aload_n hC dX7_sections_25 (i := 0) rfl rfl ?_
        refine wq_bipush hC (v := 36) dX7_sections_26 (by decide) ?_
        refine wq_iload_n hC dX7_sections_28 (i := 2) rfl rfl ?_
        refine wq_iadd hC dX7_sections_29 ?_
        refine wq_iconst hC (v := 1) dX7_sections_30 (by decide) ?_
        refine wq_isub hC dX7_sections_31 ?_
        obtain ⟨z6, h⟩ := wq_ii h
        refine wq_ald hC hp0 z6 dX7_sections_32 ?_
        refine wq_aload_n hC dX7_sections_33 (i := 0) rfl rfl ?_
        refine wq_bipush hC (v := 36) dX7_sections_34 (by decide) ?_
        refine wq_iload_n hC dX7_sections_36 (i := 2) rfl rfl ?_
        refine wq_iadd hC dX7_sections_37 ?_
        obtain ⟨z7, h⟩ := wq_ii h
        refine wq_ald hC hp0 z7 dX7_sections_38 ?_
        refine wq_icmp_eq hC dX7_sections_39 (tgt := 46) (by decide) (fun z8 => ?_) (fun z8 => ?_)
        · have h := wq_ip z8 h
          refine wq_iconst hC (v := 0) dX7_sections_46 (by decide) ?_
          refine wq_iadd hC dX7_sections_47 ?_
          refine wq_istore_n hC dX7_sections_48 (i := 1) (lv' := [some (.ref (E.2.1 p0)), some (.int (s.1 + 0)), some (.int s.2)]) rfl (by decide) rfl ?_
          refine wq_iinc hC (v := (s.2 + 1)) dX7_sections_49 (lv' := [some (.ref (E.2.1 p0)), some (.int (s.1 + 0)), some (.int (s.2 + 1))]) rfl rfl (by decide) rfl ?_
          refine wq_goto hC dX7_sections_52 (tgt := 4) (by decide) ?_
          have h := Option.some.inj h
          subst h
          exact K
        · have h := wq_in_ z8 h
          refine wq_iconst hC (v := 1) dX7_sections_42 (by decide) ?_
          refine wq_goto hC dX7_sections_43 (tgt := 47) (by decide) ?_
          refine wq_iadd hC dX7_sections_47 ?_
          refine wq_istore_n hC dX7_sections_48 (i := 1) (lv' := [some (.ref (E.2.1 p0)), some (.int (s.1 + 1)), some (.int s.2)]) rfl (by decide) rfl ?_
          refine wq_iinc hC (v := (s.2 + 1)) dX7_sections_49 (lv' := [some (.ref (E.2.1 p0)), some (.int (s.1 + 1)), some (.int (s.2 + 1))]) rfl rfl (by decide) rfl ?_
          refine wq_goto hC dX7_sections_52 (tgt := 4) (by decide) ?_
          have h := Option.some.inj h
          subst h
          exact K
def fX7_sections (p0 : Nat) (M : wq_M) : Option Int32 :=
  (wq_lp (fX7_sections_L4 p0 M) wq_FU (0, 0)).bind fun e9 => some e9
set_option maxHeartbeats 4000000 in
set_option maxRecDepth 100000 in
theorem ctX7_sections {l : Launch} {E : wq_E} {d : Nat} (hd0 : 0 ≤ d) {p0 : Nat} {M : wq_M} {r : Int32} (hp0 : wq_a wq_yR p0 44) (h : fX7_sections p0 M = some r) : wq_ct l E wq_yR yX7_sections cX7_sections 3 (some .int) d [.ref (E.2.1 p0)] M (some (.int r)) M := by
  refine wq_ent (own := "WellPipesModel") (lv0 := [some (.ref (E.2.1 p0)), none, none]) (by decide +kernel) rfl (Nat.le_of_ble_eq_true rfl) rfl (fun g h1 h2 hC => ?_)
  have K : wq_ki g M r := ⟨h1, h2⟩
  unfold fX7_sections at h
  refine wq_iconst hC (v := 0) dX7_sections_0 (by decide) ?_
  refine wq_istore_n hC dX7_sections_1 (i := 1) (lv' := [some (.ref (E.2.1 p0)), some (.int 0), none]) rfl (by decide) rfl ?_
  refine wq_iconst hC (v := 0) dX7_sections_2 (by decide) ?_
  refine wq_istore_n hC dX7_sections_3 (i := 2) (lv' := [some (.ref (E.2.1 p0)), some (.int 0), some (.int 0)]) rfl (by decide) rfl ?_
  obtain ⟨e9, hl10, h⟩ := wq_ob h
  refine gX7_sections_L4 hC hd0 p0 M hp0 wq_FU _ _ hl10 ?_
  refine wq_iload_n hC dX7_sections_55 (i := 1) rfl rfl ?_
  have h := Option.some.inj h
  subst h
  exact wq_iret hC dX7_sections_56 K.1 K.2
theorem npX7_isSound : yX7_isSound.cls ≠ "java/lang/invoke/MethodHandle" ∧ yX7_isSound.cls ≠ "java/lang/invoke/VarHandle" ∧ (parseMethodDescriptor yX7_isSound.desc).map (fun d => d.parameters.length) = some 1 := by decide +kernel
def fX7_isSound_L4 (p0 : Nat) (M : wq_M) : (Int32 × Int32) → Option ((Int32 × Int32) ⊕ Int32) := fun s =>
  if wq_in 0 44 then (if (M.1 p0 (0 : Int32).toNatClampNeg) ≤ s.2 then
    some (.inr s.1)
  else
    (if s.1 = 0 then
      some (.inl (0, (s.2 + 1)))
    else
      (fX7_holds p0 s.2 M).bind fun r4 => (if r4 = true then
        (fX7_sectionOf p0 s.2 M).bind fun r7 => if wq_in 1 44 then (if r7 < (M.1 p0 (1 : Int32).toNatClampNeg) then
          some (.inl (0, (s.2 + 1)))
        else
          some (.inl (1, (s.2 + 1)))) else none
      else
        some (.inl (0, (s.2 + 1)))))) else none
set_option maxHeartbeats 4000000 in
set_option maxRecDepth 100000 in
theorem gX7_isSound_L4 {g : wq_G} {E : wq_E} {d : Nat} (hC : wq_C g E wq_yR cX7_isSound 3 "WellPipesModel" (some .boolean) d) (hd0 : 5 ≤ d) (p0 : Nat) (M : wq_M) (hp0 : wq_a wq_yR p0 44) : ∀ (n : Nat) (s : (Int32 × Int32)) (e : Int32), wq_lp (fX7_isSound_L4 p0 M) n s = some e → (fun (e : Int32) => wq_g g E wq_yR 3 46 [none, some (.int e), none] [] M) e → wq_g g E wq_yR 3 4 [some (.ref (E.2.1 p0)), some (.int s.1), some (.int s.2)] [] M := by
  refine wq_lq_ok (fun (s : (Int32 × Int32)) => wq_g g E wq_yR 3 4 [some (.ref (E.2.1 p0)), some (.int s.1), some (.int s.2)] [] M) (fun (e : Int32) => wq_g g E wq_yR 3 46 [none, some (.int e), none] [] M) (fun s x h K => ?_)
  unfold fX7_isSound_L4 at h
  refine wq_iload_n hC dX7_isSound_4 (i := 2) rfl rfl ?_
  refine wq_aload_n hC dX7_isSound_5 (i := 0) rfl rfl ?_
  refine wq_iconst hC (v := 0) dX7_isSound_6 (by decide) ?_
  obtain ⟨z1, h⟩ := wq_ii h
  refine wq_ald hC hp0 z1 dX7_isSound_7 ?_
  refine wq_icmp_ge hC dX7_isSound_8 (tgt := 46) (by decide) (fun z2 => ?_) (fun z2 => ?_)
  · have h := wq_ip z2 h
    have h := Option.some.inj h
    subst h
    refine wq_mask [false, true, false] (lv' := [none, some (.int s.1), none]) rfl ?_
    exact K
  · have h := wq_in_ z2 h
    refine wq_iload_n hC dX7_isSound_11 (i := 1) rfl rfl ?_
    refine wq_if_eq hC dX7_isSound_12 (tgt := 38) (by decide) (fun z3 => ?_) (fun z3 => ?_)
    · have h := wq_ip z3 h
      refine wq_iconst hC (v := 0) dX7_isSound_38 (by decide) ?_
      refine wq_istore_n hC dX7_isSound_39 (i := 1) (lv' := [some (.ref (E.2.1 p0)), some (.int 0), some (.int s.2)]) rfl (by decide) rfl ?_
      refine wq_iinc hC (v := (s.2 + 1)) dX7_isSound_40 (lv' := [some (.ref (E.2.1 p0)), some (.int 0), some (.int (s.2 + 1))]) rfl rfl (by decide) rfl ?_
      refine wq_goto hC dX7_isSound_43 (tgt := 4) (by decide) ?_
      have h := Option.some.inj h
      subst h
      exact K
    · have h := wq_in_ z3 h
      refine wq_aload_n hC dX7_isSound_15 (i := 0) rfl rfl ?_
      refine wq_iload_n hC dX7_isSound_16 (i := 2) rfl rfl ?_
      obtain ⟨r4, hc5, h⟩ := wq_ob h
      refine wq_callS hC (ctX7_holds (d := d - 1) (by omega) hp0 hc5) (by omega) (by decide) rfl npX7_holds tw_983 tw_984 tw_58 tw_985 (st := []) (Nat.le_of_ble_eq_true rfl) rfl dX7_isSound_17 (st1 := [.int (wq_b r4)]) rfl ?_
      refine wq_bif_eq hC dX7_isSound_20 (tgt := 38) (by decide) (fun z6 => ?_) (fun z6 => ?_)
      · have h := wq_in_ z6 h
        refine wq_iconst hC (v := 0) dX7_isSound_38 (by decide) ?_
        refine wq_istore_n hC dX7_isSound_39 (i := 1) (lv' := [some (.ref (E.2.1 p0)), some (.int 0), some (.int s.2)]) rfl (by decide) rfl ?_
        refine wq_iinc hC (v := (s.2 + 1)) dX7_isSound_40 (lv' := [some (.ref (E.2.1 p0)), some (.int 0), some (.int (s.2 + 1))]) rfl rfl (by decide) rfl ?_
        refine wq_goto hC dX7_isSound_43 (tgt := 4) (by decide) ?_
        have h := Option.some.inj h
        subst h
        exact K
      · have h := wq_ip z6 h
        refine wq_aload_n hC dX7_isSound_23 (i := 0) rfl rfl ?_
        refine wq_iload_n hC dX7_isSound_24 (i := 2) rfl rfl ?_
        obtain ⟨r7, hc8, h⟩ := wq_ob h
        refine wq_callS hC (ctX7_sectionOf (d := d - 1) (by omega) hp0 hc8) (by omega) (by decide) rfl npX7_sectionOf tw_986 tw_987 tw_58 tw_988 (st := []) (Nat.le_of_ble_eq_true rfl) rfl dX7_isSound_25 (st1 := [.int r7]) rfl ?_
        refine wq_aload_n hC dX7_isSound_28 (i := 0) rfl rfl ?_
        refine wq_iconst hC (v := 1) dX7_isSound_29 (by decide) ?_
        obtain ⟨z9, h⟩ := wq_ii h
        refine wq_ald hC hp0 z9 dX7_isSound_30 ?_
        refine wq_icmp_lt hC dX7_isSound_31 (tgt := 38) (by decide) (fun z10 => ?_) (fun z10 => ?_)
        · have h := wq_ip z10 h
          refine wq_iconst hC (v := 0) dX7_isSound_38 (by decide) ?_
          refine wq_istore_n hC dX7_isSound_39 (i := 1) (lv' := [some (.ref (E.2.1 p0)), some (.int 0), some (.int s.2)]) rfl (by decide) rfl ?_
          refine wq_iinc hC (v := (s.2 + 1)) dX7_isSound_40 (lv' := [some (.ref (E.2.1 p0)), some (.int 0), some (.int (s.2 + 1))]) rfl rfl (by decide) rfl ?_
          refine wq_goto hC dX7_isSound_43 (tgt := 4) (by decide) ?_
          have h := Option.some.inj h
          subst h
          exact K
        · have h := wq_in_ z10 h
          refine wq_iconst hC (v := 1) dX7_isSound_34 (by decide) ?_
          refine wq_goto hC dX7_isSound_35 (tgt := 39) (by decide) ?_
          refine wq_istore_n hC dX7_isSound_39 (i := 1) (lv' := [some (.ref (E.2.1 p0)), some (.int 1), some (.int s.2)]) rfl (by decide) rfl ?_
          refine wq_iinc hC (v := (s.2 + 1)) dX7_isSound_40 (lv' := [some (.ref (E.2.1 p0)), some (.int 1), some (.int (s.2 + 1))]) rfl rfl (by decide) rfl ?_
          refine wq_goto hC dX7_isSound_43 (tgt := 4) (by decide) ?_
          have h := Option.some.inj h
          subst h
          exact K
def fX7_isSound (p0 : Nat) (M : wq_M) : Option Bool :=
  (wq_lp (fX7_isSound_L4 p0 M) wq_FU (1, 0)).bind fun e11 => (if e11 = 0 then some false else if e11 = 1 then some true else none)
set_option maxHeartbeats 4000000 in
set_option maxRecDepth 100000 in
theorem ctX7_isSound {l : Launch} {E : wq_E} {d : Nat} (hd0 : 5 ≤ d) {p0 : Nat} {M : wq_M} {r : Bool} (hp0 : wq_a wq_yR p0 44) (h : fX7_isSound p0 M = some r) : wq_ct l E wq_yR yX7_isSound cX7_isSound 3 (some .boolean) d [.ref (E.2.1 p0)] M (some (.int (wq_b r))) M := by
  refine wq_ent (own := "WellPipesModel") (lv0 := [some (.ref (E.2.1 p0)), none, none]) (by decide +kernel) rfl (Nat.le_of_ble_eq_true rfl) rfl (fun g h1 h2 hC => ?_)
  have K : wq_kb g M r := ⟨h1, h2⟩
  unfold fX7_isSound at h
  refine wq_iconst hC (v := 1) dX7_isSound_0 (by decide) ?_
  refine wq_istore_n hC dX7_isSound_1 (i := 1) (lv' := [some (.ref (E.2.1 p0)), some (.int 1), none]) rfl (by decide) rfl ?_
  refine wq_iconst hC (v := 0) dX7_isSound_2 (by decide) ?_
  refine wq_istore_n hC dX7_isSound_3 (i := 2) (lv' := [some (.ref (E.2.1 p0)), some (.int 1), some (.int 0)]) rfl (by decide) rfl ?_
  obtain ⟨e11, hl12, h⟩ := wq_ob h
  refine gX7_isSound_L4 hC hd0 p0 M hp0 wq_FU _ _ hl12 ?_
  refine wq_iload_n hC dX7_isSound_46 (i := 1) rfl rfl ?_
  by_cases z13 : e11 = 0
  · have h := wq_ip z13 h
    have h := Option.some.inj h
    subst h
    exact wq_zret hC (b := false) dX7_isSound_47 (by rw [z13]; decide) K.1 K.2
  · have h := wq_in_ z13 h
    obtain ⟨z14, h⟩ := wq_ii h
    have h := Option.some.inj h
    subst h
    exact wq_zret hC (b := true) dX7_isSound_47 (by rw [z14]; decide) K.1 K.2
theorem npX7_layThen : yX7_layThen.cls ≠ "java/lang/invoke/MethodHandle" ∧ yX7_layThen.cls ≠ "java/lang/invoke/VarHandle" ∧ (parseMethodDescriptor yX7_layThen.desc).map (fun d => d.parameters.length) = some 0 := by decide +kernel
def fX7_layThen_L2  : (Int32 × wq_M) → Option ((Int32 × wq_M) ⊕ wq_M) := fun s =>
  (if 44 ≤ s.1 then
    some (.inr s.2)
  else
    if wq_in s.1 44 then if wq_in s.1 44 then some (.inl ((s.1 + 1), (wq_st s.2 6 s.1.toNatClampNeg (s.2.1 4 s.1.toNatClampNeg)))) else none else none)
set_option maxHeartbeats 4000000 in
set_option maxRecDepth 100000 in
theorem gX7_layThen_L2 {g : wq_G} {E : wq_E} {d : Nat} (hC : wq_C g E wq_yR cX7_layThen 2 "WellPipesModel" (none) d) (hd0 : 0 ≤ d)   : ∀ (n : Nat) (s : (Int32 × wq_M)) (e : wq_M), wq_lp (fX7_layThen_L2) n s = some e → (fun (e : wq_M) => wq_g g E wq_yR 2 26 [none, none] [] e) e → wq_g g E wq_yR 2 2 [some (.ref (E.2.1 0)), some (.int s.1)] [] s.2 := by
  refine wq_lq_ok (fun (s : (Int32 × wq_M)) => wq_g g E wq_yR 2 2 [some (.ref (E.2.1 0)), some (.int s.1)] [] s.2) (fun (e : wq_M) => wq_g g E wq_yR 2 26 [none, none] [] e) (fun s x h K => ?_)
  unfold fX7_layThen_L2 at h
  refine wq_iload_n hC dX7_layThen_2 (i := 1) rfl rfl ?_
  refine wq_bipush hC (v := 44) dX7_layThen_3 (by decide) ?_
  refine wq_icmp_ge hC dX7_layThen_5 (tgt := 26) (by decide) (fun z1 => ?_) (fun z1 => ?_)
  · have h := wq_ip z1 h
    have h := Option.some.inj h
    subst h
    refine wq_mask [false, false] (lv' := [none, none]) rfl ?_
    exact K
  · have h := wq_in_ z1 h
    refine wq_aload_n hC dX7_layThen_8 (i := 0) rfl rfl ?_
    refine gf_7 hC oR_0 7 (.ref (E.2.1 6)) (by decide) rfl tw_725 dX7_layThen_9 ?_
    refine wq_iload_n hC dX7_layThen_12 (i := 1) rfl rfl ?_
    refine wq_aload_n hC dX7_layThen_13 (i := 0) rfl rfl ?_
    refine gf_7 hC oR_0 5 (.ref (E.2.1 4)) (by decide) rfl tw_723 dX7_layThen_14 ?_
    refine wq_iload_n hC dX7_layThen_17 (i := 1) rfl rfl ?_
    obtain ⟨z2, h⟩ := wq_ii h
    refine wq_ald hC aR_4 z2 dX7_layThen_18 ?_
    obtain ⟨z3, h⟩ := wq_ii h
    refine wq_ast hC aR_6 z3 dX7_layThen_19 ?_
    refine wq_iinc hC (v := (s.1 + 1)) dX7_layThen_20 (lv' := [some (.ref (E.2.1 0)), some (.int (s.1 + 1))]) rfl rfl (by decide) rfl ?_
    refine wq_goto hC dX7_layThen_23 (tgt := 2) (by decide) ?_
    have h := Option.some.inj h
    subst h
    exact K
def fX7_layThen  (M : wq_M) : Option wq_M :=
  (wq_lp (fX7_layThen_L2) wq_FU (0, M)).bind fun e4 => some e4
set_option maxHeartbeats 4000000 in
set_option maxRecDepth 100000 in
theorem ctX7_layThen {l : Launch} {E : wq_E} {d : Nat} (hd0 : 0 ≤ d)  {M : wq_M} {r : wq_M}  (h : fX7_layThen M = some r) : wq_ct l E wq_yR yX7_layThen cX7_layThen 2 (none) d [.ref (E.2.1 0)] M (none) r := by
  refine wq_ent (own := "WellPipesModel") (lv0 := [some (.ref (E.2.1 0)), none]) (by decide +kernel) rfl (Nat.le_of_ble_eq_true rfl) rfl (fun g h1 h2 hC => ?_)
  have K : wq_kV g r := ⟨h1, h2⟩
  unfold fX7_layThen at h
  refine wq_iconst hC (v := 0) dX7_layThen_0 (by decide) ?_
  refine wq_istore_n hC dX7_layThen_1 (i := 1) (lv' := [some (.ref (E.2.1 0)), some (.int 0)]) rfl (by decide) rfl ?_
  obtain ⟨e4, hl5, h⟩ := wq_ob h
  refine gX7_layThen_L2 hC hd0   wq_FU _ _ hl5 ?_
  have h := Option.some.inj h
  subst h
  exact wq_vret hC dX7_layThen_26 K.1 K.2
theorem npX7_at : yX7_at.cls ≠ "java/lang/invoke/MethodHandle" ∧ yX7_at.cls ≠ "java/lang/invoke/VarHandle" ∧ (parseMethodDescriptor yX7_at.desc).map (fun d => d.parameters.length) = some 4 := by decide +kernel
def fX7_at (x0 : Int32) (x1 : Int32) (x2 : Int32) (x3 : Int32) (M : wq_M) : Option Int32 :=
  some (((((((x0 * 73) + x1) * 6) + x2) + 1) * 4) + x3)
set_option maxHeartbeats 4000000 in
set_option maxRecDepth 100000 in
theorem ctX7_at {l : Launch} {E : wq_E} {d : Nat} (hd0 : 0 ≤ d) {x0 : Int32} {x1 : Int32} {x2 : Int32} {x3 : Int32} {M : wq_M} {r : Int32}  (h : fX7_at x0 x1 x2 x3 M = some r) : wq_ct l E wq_yR yX7_at cX7_at 4 (some .int) d [.int x0, .int x1, .int x2, .int x3] M (some (.int r)) M := by
  refine wq_ent (own := "WellPipesModel") (lv0 := [some (.int x0), some (.int x1), some (.int x2), some (.int x3)]) (by decide +kernel) rfl (Nat.le_of_ble_eq_true rfl) rfl (fun g h1 h2 hC => ?_)
  have K : wq_ki g M r := ⟨h1, h2⟩
  unfold fX7_at at h
  refine wq_iload_n hC dX7_at_0 (i := 0) rfl rfl ?_
  refine wq_bipush hC (v := 73) dX7_at_1 (by decide) ?_
  refine wq_imul hC dX7_at_3 ?_
  refine wq_iload_n hC dX7_at_4 (i := 1) rfl rfl ?_
  refine wq_iadd hC dX7_at_5 ?_
  refine wq_bipush hC (v := 6) dX7_at_6 (by decide) ?_
  refine wq_imul hC dX7_at_8 ?_
  refine wq_iload_n hC dX7_at_9 (i := 2) rfl rfl ?_
  refine wq_iadd hC dX7_at_10 ?_
  refine wq_iconst hC (v := 1) dX7_at_11 (by decide) ?_
  refine wq_iadd hC dX7_at_12 ?_
  refine wq_iconst hC (v := 4) dX7_at_13 (by decide) ?_
  refine wq_imul hC dX7_at_14 ?_
  refine wq_iload_n hC dX7_at_15 (i := 3) rfl rfl ?_
  refine wq_iadd hC dX7_at_16 ?_
  have h := Option.some.inj h
  subst h
  exact wq_iret hC dX7_at_17 K.1 K.2
theorem npX7_through : yX7_through.cls ≠ "java/lang/invoke/MethodHandle" ∧ yX7_through.cls ≠ "java/lang/invoke/VarHandle" ∧ (parseMethodDescriptor yX7_through.desc).map (fun d => d.parameters.length) = some 6 := by decide +kernel
def fX7_through_J121 (p1 : Nat) (x6 : Int32) (y0 : Int32) (M : wq_M) : Option Int32 :=
  (if y0 = 1000000000 then
    some 1000000000
  else
    (fX7_of p1 x6 5 M).bind fun r14 => (fX7_of p1 x6 4 M).bind fun r16 => some ((y0 + (100 * r14)) + r16))
set_option maxHeartbeats 4000000 in
set_option maxRecDepth 100000 in
theorem gX7_through_J121 {g : wq_G} {E : wq_E} {d : Nat} (hC : wq_C g E wq_yR cX7_through 11 "WellPipesModel" (some .int) d) (hd0 : 4 ≤ d) (p1 : Nat) (x6 : Int32) (y0 : Int32) (M : wq_M) (hp1 : wq_a wq_yR p1 44) {x : Int32} (h : fX7_through_J121 p1 x6 y0 M = some x) (K : (wq_ki g M) x) : wq_g g E wq_yR 11 121 [none, some (.ref (E.2.1 p1)), none, none, none, none, some (.int x6), none, none, none, none] [.int y0] M := by
  unfold fX7_through_J121 at h
  refine wq_istore hC dX7_through_121 (lv' := [none, some (.ref (E.2.1 p1)), none, none, none, none, some (.int x6), none, none, none, some (.int y0)]) (by decide) rfl ?_
  refine wq_iload hC dX7_through_123 rfl ?_
  refine wq_ldc hC (v := 1000000000) tw_927 dX7_through_125 ?_
  refine wq_icmp_ne hC dX7_through_127 (tgt := 135) (by decide) (fun z13 => ?_) (fun z13 => ?_)
  · have h := wq_in_ z13 h
    refine wq_iload hC dX7_through_135 rfl ?_
    refine wq_bipush hC (v := 100) dX7_through_137 (by decide) ?_
    refine wq_aload_n hC dX7_through_139 (i := 1) rfl rfl ?_
    refine wq_iload hC dX7_through_140 rfl ?_
    refine wq_iconst hC (v := 5) dX7_through_142 (by decide) ?_
    obtain ⟨r14, hc15, h⟩ := wq_ob h
    refine wq_callS hC (ctX7_of (d := d - 1) (by omega) hp1 hc15) (by omega) (by decide) rfl npX7_of tw_932 tw_933 tw_58 tw_934 (st := [.int 100, .int y0]) (Nat.le_of_ble_eq_true rfl) rfl dX7_through_143 (st1 := [.int r14, .int 100, .int y0]) rfl ?_
    refine wq_imul hC dX7_through_146 ?_
    refine wq_iadd hC dX7_through_147 ?_
    refine wq_aload_n hC dX7_through_148 (i := 1) rfl rfl ?_
    refine wq_iload hC dX7_through_149 rfl ?_
    refine wq_iconst hC (v := 4) dX7_through_151 (by decide) ?_
    obtain ⟨r16, hc17, h⟩ := wq_ob h
    refine wq_callS hC (ctX7_of (d := d - 1) (by omega) hp1 hc17) (by omega) (by decide) rfl npX7_of tw_932 tw_933 tw_58 tw_934 (st := [.int (y0 + (100 * r14))]) (Nat.le_of_ble_eq_true rfl) rfl dX7_through_152 (st1 := [.int r16, .int (y0 + (100 * r14))]) rfl ?_
    refine wq_iadd hC dX7_through_155 ?_
    have h := Option.some.inj h
    subst h
    exact wq_iret hC dX7_through_156 K.1 K.2
  · have h := wq_ip z13 h
    refine wq_ldc hC (v := 1000000000) tw_927 dX7_through_130 ?_
    refine wq_goto hC dX7_through_132 (tgt := 156) (by decide) ?_
    have h := Option.some.inj h
    subst h
    exact wq_iret hC dX7_through_156 K.1 K.2
def fX7_through_J81 (p1 : Nat) (x2 : Int32) (x6 : Int32) (x7 : Int32) (y0 : Int32) (M : wq_M) : Option Int32 :=
  (if x2 ≤ 0 then
    if wq_in 1 44 then (if (M.1 p1 (1 : Int32).toNatClampNeg) ≤ y0 then
      fX7_through_J121 p1 x6 0 M
    else
      fX7_through_J121 p1 x6 1000000000 M) else none
  else
    (fX7_at (x2 - 1) x7 x6 y0 M).bind fun r18 => if wq_in r18 14016 then fX7_through_J121 p1 x6 (M.1 9 r18.toNatClampNeg) M else none)
set_option maxHeartbeats 4000000 in
set_option maxRecDepth 100000 in
theorem gX7_through_J81 {g : wq_G} {E : wq_E} {d : Nat} (hC : wq_C g E wq_yR cX7_through 11 "WellPipesModel" (some .int) d) (hd0 : 4 ≤ d) (p1 : Nat) (x2 : Int32) (x6 : Int32) (x7 : Int32) (y0 : Int32) (M : wq_M) (hp1 : wq_a wq_yR p1 44) {x : Int32} (h : fX7_through_J81 p1 x2 x6 x7 y0 M = some x) (K : (wq_ki g M) x) : wq_g g E wq_yR 11 81 [some (.ref (E.2.1 0)), some (.ref (E.2.1 p1)), some (.int x2), none, none, none, some (.int x6), some (.int x7), none, none, none] [.int y0] M := by
  unfold fX7_through_J81 at h
  refine wq_istore hC dX7_through_81 (lv' := [some (.ref (E.2.1 0)), some (.ref (E.2.1 p1)), some (.int x2), none, none, none, some (.int x6), some (.int x7), none, some (.int y0), none]) (by decide) rfl ?_
  refine wq_iload_n hC dX7_through_83 (i := 2) rfl rfl ?_
  refine wq_if_le hC dX7_through_84 (tgt := 107) (by decide) (fun z10 => ?_) (fun z10 => ?_)
  · have h := wq_ip z10 h
    refine wq_iload hC dX7_through_107 rfl ?_
    refine wq_aload_n hC dX7_through_109 (i := 1) rfl rfl ?_
    refine wq_iconst hC (v := 1) dX7_through_110 (by decide) ?_
    obtain ⟨z11, h⟩ := wq_ii h
    refine wq_ald hC hp1 z11 dX7_through_111 ?_
    refine wq_icmp_ge hC dX7_through_112 (tgt := 120) (by decide) (fun z12 => ?_) (fun z12 => ?_)
    · have h := wq_ip z12 h
      refine wq_iconst hC (v := 0) dX7_through_120 (by decide) ?_
      refine wq_mask [false, true, false, false, false, false, true, false, false, false, false] (lv' := [none, some (.ref (E.2.1 p1)), none, none, none, none, some (.int x6), none, none, none, none]) rfl ?_
      exact gX7_through_J121 hC hd0 p1 x6 0 M hp1 h K
    · have h := wq_in_ z12 h
      refine wq_ldc hC (v := 1000000000) tw_927 dX7_through_115 ?_
      refine wq_goto hC dX7_through_117 (tgt := 121) (by decide) ?_
      refine wq_mask [false, true, false, false, false, false, true, false, false, false, false] (lv' := [none, some (.ref (E.2.1 p1)), none, none, none, none, some (.int x6), none, none, none, none]) rfl ?_
      exact gX7_through_J121 hC hd0 p1 x6 1000000000 M hp1 h K
  · have h := wq_in_ z10 h
    refine wq_aload_n hC dX7_through_87 (i := 0) rfl rfl ?_
    refine gf_7 hC oR_0 19 (.ref (E.2.1 9)) (by decide) rfl tw_737 dX7_through_88 ?_
    refine wq_iload_n hC dX7_through_91 (i := 2) rfl rfl ?_
    refine wq_iconst hC (v := 1) dX7_through_92 (by decide) ?_
    refine wq_isub hC dX7_through_93 ?_
    refine wq_iload hC dX7_through_94 rfl ?_
    refine wq_iload hC dX7_through_96 rfl ?_
    refine wq_iload hC dX7_through_98 rfl ?_
    obtain ⟨r18, hc19, h⟩ := wq_ob h
    refine wq_callS hC (ctX7_at (d := d - 1) (by omega)  hc19) (by omega) (by decide) rfl npX7_at tw_920 tw_921 tw_58 tw_922 (st := [.ref (E.2.1 9)]) (Nat.le_of_ble_eq_true rfl) rfl dX7_through_100 (st1 := [.int r18, .ref (E.2.1 9)]) rfl ?_
    obtain ⟨z20, h⟩ := wq_ii h
    refine wq_ald hC aR_9 z20 dX7_through_103 ?_
    refine wq_goto hC dX7_through_104 (tgt := 121) (by decide) ?_
    refine wq_mask [false, true, false, false, false, false, true, false, false, false, false] (lv' := [none, some (.ref (E.2.1 p1)), none, none, none, none, some (.int x6), none, none, none, none]) rfl ?_
    exact gX7_through_J121 hC hd0 p1 x6 (M.1 9 r18.toNatClampNeg) M hp1 h K
def fX7_through_J43 (p1 : Nat) (x2 : Int32) (x5 : Int32) (x6 : Int32) (x7 : Int32) (x8 : Int32) (M : wq_M) : Option Int32 :=
  (fX7_wouldHold p1 x2 x6 x7 M).bind fun r5 => (if r5 = true then
    (if x8 = 0 then
      (if 3 ≤ x5 then
        fX7_through_J81 p1 x2 x6 x7 3 M
      else
        fX7_through_J81 p1 x2 x6 x7 (x5 + 1) M)
    else
      fX7_through_J81 p1 x2 x6 x7 1 M)
  else
    some 1000000000)
set_option maxHeartbeats 4000000 in
set_option maxRecDepth 100000 in
theorem gX7_through_J43 {g : wq_G} {E : wq_E} {d : Nat} (hC : wq_C g E wq_yR cX7_through 11 "WellPipesModel" (some .int) d) (hd0 : 4 ≤ d) (p1 : Nat) (x2 : Int32) (x5 : Int32) (x6 : Int32) (x7 : Int32) (x8 : Int32) (M : wq_M) (hp1 : wq_a wq_yR p1 44) {x : Int32} (h : fX7_through_J43 p1 x2 x5 x6 x7 x8 M = some x) (K : (wq_ki g M) x) : wq_g g E wq_yR 11 43 [some (.ref (E.2.1 0)), some (.ref (E.2.1 p1)), some (.int x2), none, none, some (.int x5), some (.int x6), some (.int x7), some (.int x8), none, none] [] M := by
  unfold fX7_through_J43 at h
  refine wq_aload_n hC dX7_through_43 (i := 1) rfl rfl ?_
  refine wq_iload_n hC dX7_through_44 (i := 2) rfl rfl ?_
  refine wq_iload hC dX7_through_45 rfl ?_
  refine wq_iload hC dX7_through_47 rfl ?_
  obtain ⟨r5, hc6, h⟩ := wq_ob h
  refine wq_callS hC (ctX7_wouldHold (d := d - 1) (by omega) hp1 hc6) (by omega) (by decide) rfl npX7_wouldHold tw_935 tw_936 tw_58 tw_937 (st := []) (Nat.le_of_ble_eq_true rfl) rfl dX7_through_49 (st1 := [.int (wq_b r5)]) rfl ?_
  refine wq_bif_ne hC dX7_through_52 (tgt := 58) (by decide) (fun z7 => ?_) (fun z7 => ?_)
  · have h := wq_ip z7 h
    refine wq_iload hC dX7_through_58 rfl ?_
    refine wq_if_eq hC dX7_through_60 (tgt := 67) (by decide) (fun z8 => ?_) (fun z8 => ?_)
    · have h := wq_ip z8 h
      refine wq_iload hC dX7_through_67 rfl ?_
      refine wq_iconst hC (v := 3) dX7_through_69 (by decide) ?_
      refine wq_icmp_ge hC dX7_through_70 (tgt := 80) (by decide) (fun z9 => ?_) (fun z9 => ?_)
      · have h := wq_ip z9 h
        refine wq_iconst hC (v := 3) dX7_through_80 (by decide) ?_
        refine wq_mask [true, true, true, false, false, false, true, true, false, false, false] (lv' := [some (.ref (E.2.1 0)), some (.ref (E.2.1 p1)), some (.int x2), none, none, none, some (.int x6), some (.int x7), none, none, none]) rfl ?_
        exact gX7_through_J81 hC hd0 p1 x2 x6 x7 3 M hp1 h K
      · have h := wq_in_ z9 h
        refine wq_iload hC dX7_through_73 rfl ?_
        refine wq_iconst hC (v := 1) dX7_through_75 (by decide) ?_
        refine wq_iadd hC dX7_through_76 ?_
        refine wq_goto hC dX7_through_77 (tgt := 81) (by decide) ?_
        refine wq_mask [true, true, true, false, false, false, true, true, false, false, false] (lv' := [some (.ref (E.2.1 0)), some (.ref (E.2.1 p1)), some (.int x2), none, none, none, some (.int x6), some (.int x7), none, none, none]) rfl ?_
        exact gX7_through_J81 hC hd0 p1 x2 x6 x7 (x5 + 1) M hp1 h K
    · have h := wq_in_ z8 h
      refine wq_iconst hC (v := 1) dX7_through_63 (by decide) ?_
      refine wq_goto hC dX7_through_64 (tgt := 81) (by decide) ?_
      refine wq_mask [true, true, true, false, false, false, true, true, false, false, false] (lv' := [some (.ref (E.2.1 0)), some (.ref (E.2.1 p1)), some (.int x2), none, none, none, some (.int x6), some (.int x7), none, none, none]) rfl ?_
      exact gX7_through_J81 hC hd0 p1 x2 x6 x7 1 M hp1 h K
  · have h := wq_in_ z7 h
    refine wq_ldc hC (v := 1000000000) tw_927 dX7_through_55 ?_
    have h := Option.some.inj h
    subst h
    exact wq_iret hC dX7_through_57 K.1 K.2
def fX7_through_J23 (p1 : Nat) (x2 : Int32) (x4 : Int32) (x5 : Int32) (x6 : Int32) (x7 : Int32) (y0 : Int32) (M : wq_M) : Option Int32 :=
  (if y0 = 0 then
    fX7_through_J43 p1 x2 x5 x6 x7 y0 M
  else
    (if x4 < 0 then
      fX7_through_J43 p1 x2 x5 x6 x7 y0 M
    else
      if wq_in 1 44 then (if x5 < (M.1 p1 (1 : Int32).toNatClampNeg) then
        some 1000000000
      else
        fX7_through_J43 p1 x2 x5 x6 x7 y0 M) else none))
set_option maxHeartbeats 4000000 in
set_option maxRecDepth 100000 in
theorem gX7_through_J23 {g : wq_G} {E : wq_E} {d : Nat} (hC : wq_C g E wq_yR cX7_through 11 "WellPipesModel" (some .int) d) (hd0 : 4 ≤ d) (p1 : Nat) (x2 : Int32) (x4 : Int32) (x5 : Int32) (x6 : Int32) (x7 : Int32) (y0 : Int32) (M : wq_M) (hp1 : wq_a wq_yR p1 44) {x : Int32} (h : fX7_through_J23 p1 x2 x4 x5 x6 x7 y0 M = some x) (K : (wq_ki g M) x) : wq_g g E wq_yR 11 23 [some (.ref (E.2.1 0)), some (.ref (E.2.1 p1)), some (.int x2), none, some (.int x4), some (.int x5), some (.int x6), some (.int x7), none, none, none] [.int y0] M := by
  unfold fX7_through_J23 at h
  refine wq_istore hC dX7_through_23 (lv' := [some (.ref (E.2.1 0)), some (.ref (E.2.1 p1)), some (.int x2), none, some (.int x4), some (.int x5), some (.int x6), some (.int x7), some (.int y0), none, none]) (by decide) rfl ?_
  refine wq_iload hC dX7_through_25 rfl ?_
  refine wq_if_eq hC dX7_through_27 (tgt := 43) (by decide) (fun z4 => ?_) (fun z4 => ?_)
  · have h := wq_ip z4 h
    refine wq_mask [true, true, true, false, false, true, true, true, true, false, false] (lv' := [some (.ref (E.2.1 0)), some (.ref (E.2.1 p1)), some (.int x2), none, none, some (.int x5), some (.int x6), some (.int x7), some (.int y0), none, none]) rfl ?_
    exact gX7_through_J43 hC hd0 p1 x2 x5 x6 x7 y0 M hp1 h K
  · have h := wq_in_ z4 h
    refine wq_iload hC dX7_through_30 rfl ?_
    refine wq_if_lt hC dX7_through_32 (tgt := 43) (by decide) (fun z21 => ?_) (fun z21 => ?_)
    · have h := wq_ip z21 h
      refine wq_mask [true, true, true, false, false, true, true, true, true, false, false] (lv' := [some (.ref (E.2.1 0)), some (.ref (E.2.1 p1)), some (.int x2), none, none, some (.int x5), some (.int x6), some (.int x7), some (.int y0), none, none]) rfl ?_
      exact gX7_through_J43 hC hd0 p1 x2 x5 x6 x7 y0 M hp1 h K
    · have h := wq_in_ z21 h
      refine wq_iload hC dX7_through_35 rfl ?_
      refine wq_aload_n hC dX7_through_37 (i := 1) rfl rfl ?_
      refine wq_iconst hC (v := 1) dX7_through_38 (by decide) ?_
      obtain ⟨z22, h⟩ := wq_ii h
      refine wq_ald hC hp1 z22 dX7_through_39 ?_
      refine wq_icmp_lt hC dX7_through_40 (tgt := 55) (by decide) (fun z23 => ?_) (fun z23 => ?_)
      · have h := wq_ip z23 h
        refine wq_ldc hC (v := 1000000000) tw_927 dX7_through_55 ?_
        have h := Option.some.inj h
        subst h
        exact wq_iret hC dX7_through_57 K.1 K.2
      · have h := wq_in_ z23 h
        refine wq_mask [true, true, true, false, false, true, true, true, true, false, false] (lv' := [some (.ref (E.2.1 0)), some (.ref (E.2.1 p1)), some (.int x2), none, none, some (.int x5), some (.int x6), some (.int x7), some (.int y0), none, none]) rfl ?_
        exact gX7_through_J43 hC hd0 p1 x2 x5 x6 x7 y0 M hp1 h K
def fX7_through (p1 : Nat) (x2 : Int32) (x3 : Int32) (x4 : Int32) (x5 : Int32) (x6 : Int32) (M : wq_M) : Option Int32 :=
  (fX7_of p1 x6 4 M).bind fun r1 => (if x6 = x4 then
    fX7_through_J23 p1 x2 x4 x5 x6 (x3 + r1) 0 M
  else
    fX7_through_J23 p1 x2 x4 x5 x6 (x3 + r1) 1 M)
set_option maxHeartbeats 4000000 in
set_option maxRecDepth 100000 in
theorem ctX7_through {l : Launch} {E : wq_E} {d : Nat} (hd0 : 4 ≤ d) {p1 : Nat} {x2 : Int32} {x3 : Int32} {x4 : Int32} {x5 : Int32} {x6 : Int32} {M : wq_M} {r : Int32} (hp1 : wq_a wq_yR p1 44) (h : fX7_through p1 x2 x3 x4 x5 x6 M = some r) : wq_ct l E wq_yR yX7_through cX7_through 11 (some .int) d [.ref (E.2.1 0), .ref (E.2.1 p1), .int x2, .int x3, .int x4, .int x5, .int x6] M (some (.int r)) M := by
  refine wq_ent (own := "WellPipesModel") (lv0 := [some (.ref (E.2.1 0)), some (.ref (E.2.1 p1)), some (.int x2), some (.int x3), some (.int x4), some (.int x5), some (.int x6), none, none, none, none]) (by decide +kernel) rfl (Nat.le_of_ble_eq_true rfl) rfl (fun g h1 h2 hC => ?_)
  have K : wq_ki g M r := ⟨h1, h2⟩
  unfold fX7_through at h
  refine wq_iload_n hC dX7_through_0 (i := 3) rfl rfl ?_
  refine wq_aload_n hC dX7_through_1 (i := 1) rfl rfl ?_
  refine wq_iload hC dX7_through_2 rfl ?_
  refine wq_iconst hC (v := 4) dX7_through_4 (by decide) ?_
  obtain ⟨r1, hc2, h⟩ := wq_ob h
  refine wq_callS hC (ctX7_of (d := d - 1) (by omega) hp1 hc2) (by omega) (by decide) rfl npX7_of tw_932 tw_933 tw_58 tw_934 (st := [.int x3]) (Nat.le_of_ble_eq_true rfl) rfl dX7_through_5 (st1 := [.int r1, .int x3]) rfl ?_
  refine wq_iadd hC dX7_through_8 ?_
  refine wq_istore hC dX7_through_9 (lv' := [some (.ref (E.2.1 0)), some (.ref (E.2.1 p1)), some (.int x2), some (.int x3), some (.int x4), some (.int x5), some (.int x6), some (.int (x3 + r1)), none, none, none]) (by decide) rfl ?_
  refine wq_iload hC dX7_through_11 rfl ?_
  refine wq_iload hC dX7_through_13 rfl ?_
  refine wq_icmp_eq hC dX7_through_15 (tgt := 22) (by decide) (fun z3 => ?_) (fun z3 => ?_)
  · have h := wq_ip z3 h
    refine wq_iconst hC (v := 0) dX7_through_22 (by decide) ?_
    refine wq_mask [true, true, true, false, true, true, true, true, false, false, false] (lv' := [some (.ref (E.2.1 0)), some (.ref (E.2.1 p1)), some (.int x2), none, some (.int x4), some (.int x5), some (.int x6), some (.int (x3 + r1)), none, none, none]) rfl ?_
    exact gX7_through_J23 hC hd0 p1 x2 x4 x5 x6 (x3 + r1) 0 M hp1 h K
  · have h := wq_in_ z3 h
    refine wq_iconst hC (v := 1) dX7_through_18 (by decide) ?_
    refine wq_goto hC dX7_through_19 (tgt := 23) (by decide) ?_
    refine wq_mask [true, true, true, false, true, true, true, true, false, false, false] (lv' := [some (.ref (E.2.1 0)), some (.ref (E.2.1 p1)), some (.int x2), none, some (.int x4), some (.int x5), some (.int x6), some (.int (x3 + r1)), none, none, none]) rfl ?_
    exact gX7_through_J23 hC hd0 p1 x2 x4 x5 x6 (x3 + r1) 1 M hp1 h K
theorem npX7_leastAt : yX7_leastAt.cls ≠ "java/lang/invoke/MethodHandle" ∧ yX7_leastAt.cls ≠ "java/lang/invoke/VarHandle" ∧ (parseMethodDescriptor yX7_leastAt.desc).map (fun d => d.parameters.length) = some 6 := by decide +kernel
def fX7_leastAt_L7_J40 (p1 : Nat) (x2 : Int32) (x3 : Int32) (x4 : Int32) (x5 : Int32) (x6 : Int32) (x7 : Int32) (x8 : Int32) (y0 : Int32) (M : wq_M) : Option ((Int32 × Int32) ⊕ Int32) :=
  (if x7 ≤ y0 then
    some (.inl (x7, (x8 + 1)))
  else
    some (.inl (y0, (x8 + 1))))
set_option maxHeartbeats 4000000 in
set_option maxRecDepth 100000 in
theorem gX7_leastAt_L7_J40 {g : wq_G} {E : wq_E} {d : Nat} (hC : wq_C g E wq_yR cX7_leastAt 10 "WellPipesModel" (some .int) d) (hd0 : 5 ≤ d) (p1 : Nat) (x2 : Int32) (x3 : Int32) (x4 : Int32) (x5 : Int32) (x6 : Int32) (x7 : Int32) (x8 : Int32) (y0 : Int32) (M : wq_M) (hp1 : wq_a wq_yR p1 44) {x : ((Int32 × Int32) ⊕ Int32)} (h : fX7_leastAt_L7_J40 p1 x2 x3 x4 x5 x6 x7 x8 y0 M = some x) (K : (Sum.elim (fun (s : (Int32 × Int32)) => wq_g g E wq_yR 10 7 [some (.ref (E.2.1 0)), some (.ref (E.2.1 p1)), some (.int x2), some (.int x3), some (.int x4), some (.int x5), some (.int x6), some (.int s.1), some (.int s.2), none] [] M) (fun (e : Int32) => wq_g g E wq_yR 10 64 [none, none, none, none, none, none, none, some (.int e), none, none] [] M)) x) : wq_g g E wq_yR 10 40 [some (.ref (E.2.1 0)), some (.ref (E.2.1 p1)), some (.int x2), some (.int x3), some (.int x4), some (.int x5), some (.int x6), some (.int x7), some (.int x8), none] [.int y0] M := by
  unfold fX7_leastAt_L7_J40 at h
  refine wq_istore hC dX7_leastAt_40 (lv' := [some (.ref (E.2.1 0)), some (.ref (E.2.1 p1)), some (.int x2), some (.int x3), some (.int x4), some (.int x5), some (.int x6), some (.int x7), some (.int x8), some (.int y0)]) (by decide) rfl ?_
  refine wq_iload hC dX7_leastAt_42 rfl ?_
  refine wq_iload hC dX7_leastAt_44 rfl ?_
  refine wq_icmp_ge hC dX7_leastAt_46 (tgt := 54) (by decide) (fun z6 => ?_) (fun z6 => ?_)
  · have h := wq_ip z6 h
    refine wq_iload hC dX7_leastAt_54 rfl ?_
    refine wq_istore hC dX7_leastAt_56 (lv' := [some (.ref (E.2.1 0)), some (.ref (E.2.1 p1)), some (.int x2), some (.int x3), some (.int x4), some (.int x5), some (.int x6), some (.int x7), some (.int x8), some (.int y0)]) (by decide) rfl ?_
    refine wq_iinc hC (v := (x8 + 1)) dX7_leastAt_58 (lv' := [some (.ref (E.2.1 0)), some (.ref (E.2.1 p1)), some (.int x2), some (.int x3), some (.int x4), some (.int x5), some (.int x6), some (.int x7), some (.int (x8 + 1)), some (.int y0)]) rfl rfl (by decide) rfl ?_
    refine wq_goto hC dX7_leastAt_61 (tgt := 7) (by decide) ?_
    have h := Option.some.inj h
    subst h
    refine wq_mask [true, true, true, true, true, true, true, true, true, false] (lv' := [some (.ref (E.2.1 0)), some (.ref (E.2.1 p1)), some (.int x2), some (.int x3), some (.int x4), some (.int x5), some (.int x6), some (.int x7), some (.int (x8 + 1)), none]) rfl ?_
    exact K
  · have h := wq_in_ z6 h
    refine wq_iload hC dX7_leastAt_49 rfl ?_
    refine wq_goto hC dX7_leastAt_51 (tgt := 56) (by decide) ?_
    refine wq_istore hC dX7_leastAt_56 (lv' := [some (.ref (E.2.1 0)), some (.ref (E.2.1 p1)), some (.int x2), some (.int x3), some (.int x4), some (.int x5), some (.int x6), some (.int y0), some (.int x8), some (.int y0)]) (by decide) rfl ?_
    refine wq_iinc hC (v := (x8 + 1)) dX7_leastAt_58 (lv' := [some (.ref (E.2.1 0)), some (.ref (E.2.1 p1)), some (.int x2), some (.int x3), some (.int x4), some (.int x5), some (.int x6), some (.int y0), some (.int (x8 + 1)), some (.int y0)]) rfl rfl (by decide) rfl ?_
    refine wq_goto hC dX7_leastAt_61 (tgt := 7) (by decide) ?_
    have h := Option.some.inj h
    subst h
    refine wq_mask [true, true, true, true, true, true, true, true, true, false] (lv' := [some (.ref (E.2.1 0)), some (.ref (E.2.1 p1)), some (.int x2), some (.int x3), some (.int x4), some (.int x5), some (.int x6), some (.int y0), some (.int (x8 + 1)), none]) rfl ?_
    exact K
def fX7_leastAt_L7 (p1 : Nat) (x2 : Int32) (x3 : Int32) (x4 : Int32) (x5 : Int32) (x6 : Int32) (M : wq_M) : (Int32 × Int32) → Option ((Int32 × Int32) ⊕ Int32) := fun s =>
  if wq_in 5 44 then (if (M.1 p1 (5 : Int32).toNatClampNeg) ≤ s.2 then
    some (.inr s.1)
  else
    (if s.2 = x6 then
      fX7_leastAt_L7_J40 p1 x2 x3 x4 x5 x6 s.1 s.2 1000000000 M
    else
      (fX7_through p1 x2 x3 x4 x5 s.2 M).bind fun r4 => fX7_leastAt_L7_J40 p1 x2 x3 x4 x5 x6 s.1 s.2 r4 M)) else none
set_option maxHeartbeats 4000000 in
set_option maxRecDepth 100000 in
theorem gX7_leastAt_L7 {g : wq_G} {E : wq_E} {d : Nat} (hC : wq_C g E wq_yR cX7_leastAt 10 "WellPipesModel" (some .int) d) (hd0 : 5 ≤ d) (p1 : Nat) (x2 : Int32) (x3 : Int32) (x4 : Int32) (x5 : Int32) (x6 : Int32) (M : wq_M) (hp1 : wq_a wq_yR p1 44) : ∀ (n : Nat) (s : (Int32 × Int32)) (e : Int32), wq_lp (fX7_leastAt_L7 p1 x2 x3 x4 x5 x6 M) n s = some e → (fun (e : Int32) => wq_g g E wq_yR 10 64 [none, none, none, none, none, none, none, some (.int e), none, none] [] M) e → wq_g g E wq_yR 10 7 [some (.ref (E.2.1 0)), some (.ref (E.2.1 p1)), some (.int x2), some (.int x3), some (.int x4), some (.int x5), some (.int x6), some (.int s.1), some (.int s.2), none] [] M := by
  refine wq_lq_ok (fun (s : (Int32 × Int32)) => wq_g g E wq_yR 10 7 [some (.ref (E.2.1 0)), some (.ref (E.2.1 p1)), some (.int x2), some (.int x3), some (.int x4), some (.int x5), some (.int x6), some (.int s.1), some (.int s.2), none] [] M) (fun (e : Int32) => wq_g g E wq_yR 10 64 [none, none, none, none, none, none, none, some (.int e), none, none] [] M) (fun s x h K => ?_)
  unfold fX7_leastAt_L7 at h
  refine wq_iload hC dX7_leastAt_7 rfl ?_
  refine wq_aload_n hC dX7_leastAt_9 (i := 1) rfl rfl ?_
  refine wq_iconst hC (v := 5) dX7_leastAt_10 (by decide) ?_
  obtain ⟨z1, h⟩ := wq_ii h
  refine wq_ald hC hp1 z1 dX7_leastAt_11 ?_
  refine wq_icmp_ge hC dX7_leastAt_12 (tgt := 64) (by decide) (fun z2 => ?_) (fun z2 => ?_)
  · have h := wq_ip z2 h
    have h := Option.some.inj h
    subst h
    refine wq_mask [false, false, false, false, false, false, false, true, false, false] (lv' := [none, none, none, none, none, none, none, some (.int s.1), none, none]) rfl ?_
    exact K
  · have h := wq_in_ z2 h
    refine wq_iload hC dX7_leastAt_15 rfl ?_
    refine wq_iload hC dX7_leastAt_17 rfl ?_
    refine wq_icmp_ne hC dX7_leastAt_19 (tgt := 27) (by decide) (fun z3 => ?_) (fun z3 => ?_)
    · have h := wq_in_ z3 h
      refine wq_aload_n hC dX7_leastAt_27 (i := 0) rfl rfl ?_
      refine wq_aload_n hC dX7_leastAt_28 (i := 1) rfl rfl ?_
      refine wq_iload_n hC dX7_leastAt_29 (i := 2) rfl rfl ?_
      refine wq_iload_n hC dX7_leastAt_30 (i := 3) rfl rfl ?_
      refine wq_iload hC dX7_leastAt_31 rfl ?_
      refine wq_iload hC dX7_leastAt_33 rfl ?_
      refine wq_iload hC dX7_leastAt_35 rfl ?_
      obtain ⟨r4, hc5, h⟩ := wq_ob h
      refine cv_7 hC (ctX7_through (d := d - 1) (by omega) hp1 hc5) (by omega) (by decide) oR_0 rfl rfl npX7_through tw_928 tw_930 tw_39 tw_931 (st := []) (Nat.le_of_ble_eq_true rfl) rfl dX7_leastAt_37 (st1 := [.int r4]) rfl ?_
      exact gX7_leastAt_L7_J40 hC hd0 p1 x2 x3 x4 x5 x6 s.1 s.2 r4 M hp1 h K
    · have h := wq_ip z3 h
      refine wq_ldc hC (v := 1000000000) tw_927 dX7_leastAt_22 ?_
      refine wq_goto hC dX7_leastAt_24 (tgt := 40) (by decide) ?_
      exact gX7_leastAt_L7_J40 hC hd0 p1 x2 x3 x4 x5 x6 s.1 s.2 1000000000 M hp1 h K
def fX7_leastAt (p1 : Nat) (x2 : Int32) (x3 : Int32) (x4 : Int32) (x5 : Int32) (x6 : Int32) (M : wq_M) : Option Int32 :=
  (wq_lp (fX7_leastAt_L7 p1 x2 x3 x4 x5 x6 M) wq_FU (1000000000, 0)).bind fun e7 => some e7
set_option maxHeartbeats 4000000 in
set_option maxRecDepth 100000 in
theorem ctX7_leastAt {l : Launch} {E : wq_E} {d : Nat} (hd0 : 5 ≤ d) {p1 : Nat} {x2 : Int32} {x3 : Int32} {x4 : Int32} {x5 : Int32} {x6 : Int32} {M : wq_M} {r : Int32} (hp1 : wq_a wq_yR p1 44) (h : fX7_leastAt p1 x2 x3 x4 x5 x6 M = some r) : wq_ct l E wq_yR yX7_leastAt cX7_leastAt 10 (some .int) d [.ref (E.2.1 0), .ref (E.2.1 p1), .int x2, .int x3, .int x4, .int x5, .int x6] M (some (.int r)) M := by
  refine wq_ent (own := "WellPipesModel") (lv0 := [some (.ref (E.2.1 0)), some (.ref (E.2.1 p1)), some (.int x2), some (.int x3), some (.int x4), some (.int x5), some (.int x6), none, none, none]) (by decide +kernel) rfl (Nat.le_of_ble_eq_true rfl) rfl (fun g h1 h2 hC => ?_)
  have K : wq_ki g M r := ⟨h1, h2⟩
  unfold fX7_leastAt at h
  refine wq_ldc hC (v := 1000000000) tw_927 dX7_leastAt_0 ?_
  refine wq_istore hC dX7_leastAt_2 (lv' := [some (.ref (E.2.1 0)), some (.ref (E.2.1 p1)), some (.int x2), some (.int x3), some (.int x4), some (.int x5), some (.int x6), some (.int 1000000000), none, none]) (by decide) rfl ?_
  refine wq_iconst hC (v := 0) dX7_leastAt_4 (by decide) ?_
  refine wq_istore hC dX7_leastAt_5 (lv' := [some (.ref (E.2.1 0)), some (.ref (E.2.1 p1)), some (.int x2), some (.int x3), some (.int x4), some (.int x5), some (.int x6), some (.int 1000000000), some (.int 0), none]) (by decide) rfl ?_
  obtain ⟨e7, hl8, h⟩ := wq_ob h
  refine gX7_leastAt_L7 hC hd0 p1 x2 x3 x4 x5 x6 M hp1 wq_FU _ _ hl8 ?_
  refine wq_iload hC dX7_leastAt_64 rfl ?_
  have h := Option.some.inj h
  subst h
  exact wq_iret hC dX7_leastAt_66 K.1 K.2
theorem npX7_laysBest : yX7_laysBest.cls ≠ "java/lang/invoke/MethodHandle" ∧ yX7_laysBest.cls ≠ "java/lang/invoke/VarHandle" ∧ (parseMethodDescriptor yX7_laysBest.desc).map (fun d => d.parameters.length) = some 2 := by decide +kernel
def fX7_laysBest_L9_L18_L33_L44 (p1 : Nat) (x2 : Int32) (x3 : Int32) (x4 : Int32) (x5 : Int32) (x6 : Int32) : (Int32 × wq_M) → Option ((Int32 × wq_M) ⊕ wq_M) := fun s =>
  (if 4 ≤ s.1 then
    some (.inr s.2)
  else
    (fX7_at x4 x5 x6 s.1 s.2).bind fun r7 => (fX7_leastAt p1 x4 x5 x6 s.1 x2 s.2).bind fun r9 => if wq_in r7 14016 then some (.inl ((s.1 + 1), (wq_st s.2 9 r7.toNatClampNeg r9))) else none)
set_option maxHeartbeats 4000000 in
set_option maxRecDepth 100000 in
theorem gX7_laysBest_L9_L18_L33_L44 {g : wq_G} {E : wq_E} {d : Nat} (hC : wq_C g E wq_yR cX7_laysBest 11 "WellPipesModel" (some .int) d) (hd0 : 6 ≤ d) (p1 : Nat) (x2 : Int32) (x3 : Int32) (x4 : Int32) (x5 : Int32) (x6 : Int32) (hp1 : wq_a wq_yR p1 44) : ∀ (n : Nat) (s : (Int32 × wq_M)) (e : wq_M), wq_lp (fX7_laysBest_L9_L18_L33_L44 p1 x2 x3 x4 x5 x6) n s = some e → (fun (e : wq_M) => wq_g g E wq_yR 11 86 [some (.ref (E.2.1 0)), some (.ref (E.2.1 p1)), some (.int x2), some (.int x3), some (.int x4), some (.int x5), some (.int x6), none, none, none, none] [] e) e → wq_g g E wq_yR 11 44 [some (.ref (E.2.1 0)), some (.ref (E.2.1 p1)), some (.int x2), some (.int x3), some (.int x4), some (.int x5), some (.int x6), some (.int s.1), none, none, none] [] s.2 := by
  refine wq_lq_ok (fun (s : (Int32 × wq_M)) => wq_g g E wq_yR 11 44 [some (.ref (E.2.1 0)), some (.ref (E.2.1 p1)), some (.int x2), some (.int x3), some (.int x4), some (.int x5), some (.int x6), some (.int s.1), none, none, none] [] s.2) (fun (e : wq_M) => wq_g g E wq_yR 11 86 [some (.ref (E.2.1 0)), some (.ref (E.2.1 p1)), some (.int x2), some (.int x3), some (.int x4), some (.int x5), some (.int x6), none, none, none, none] [] e) (fun s x h K => ?_)
  unfold fX7_laysBest_L9_L18_L33_L44 at h
  refine wq_iload hC dX7_laysBest_44 rfl ?_
  refine wq_iconst hC (v := 4) dX7_laysBest_46 (by decide) ?_
  refine wq_icmp_ge hC dX7_laysBest_47 (tgt := 86) (by decide) (fun z6 => ?_) (fun z6 => ?_)
  · have h := wq_ip z6 h
    have h := Option.some.inj h
    subst h
    refine wq_mask [true, true, true, true, true, true, true, false, false, false, false] (lv' := [some (.ref (E.2.1 0)), some (.ref (E.2.1 p1)), some (.int x2), some (.int x3), some (.int x4), some (.int x5), some (.int x6), none, none, none, none]) rfl ?_
    exact K
  · have h := wq_in_ z6 h
    refine wq_aload_n hC dX7_laysBest_50 (i := 0) rfl rfl ?_
    refine gf_7 hC oR_0 19 (.ref (E.2.1 9)) (by decide) rfl tw_737 dX7_laysBest_51 ?_
    refine wq_iload hC dX7_laysBest_54 rfl ?_
    refine wq_iload hC dX7_laysBest_56 rfl ?_
    refine wq_iload hC dX7_laysBest_58 rfl ?_
    refine wq_iload hC dX7_laysBest_60 rfl ?_
    obtain ⟨r7, hc8, h⟩ := wq_ob h
    refine wq_callS hC (ctX7_at (d := d - 1) (by omega)  hc8) (by omega) (by decide) rfl npX7_at tw_920 tw_921 tw_58 tw_922 (st := [.ref (E.2.1 9)]) (Nat.le_of_ble_eq_true rfl) rfl dX7_laysBest_62 (st1 := [.int r7, .ref (E.2.1 9)]) rfl ?_
    refine wq_aload_n hC dX7_laysBest_65 (i := 0) rfl rfl ?_
    refine wq_aload_n hC dX7_laysBest_66 (i := 1) rfl rfl ?_
    refine wq_iload hC dX7_laysBest_67 rfl ?_
    refine wq_iload hC dX7_laysBest_69 rfl ?_
    refine wq_iload hC dX7_laysBest_71 rfl ?_
    refine wq_iload hC dX7_laysBest_73 rfl ?_
    refine wq_iload_n hC dX7_laysBest_75 (i := 2) rfl rfl ?_
    obtain ⟨r9, hc10, h⟩ := wq_ob h
    refine cv_7 hC (ctX7_leastAt (d := d - 1) (by omega) hp1 hc10) (by omega) (by decide) oR_0 rfl rfl npX7_leastAt tw_923 tw_925 tw_38 tw_926 (st := [.int r7, .ref (E.2.1 9)]) (Nat.le_of_ble_eq_true rfl) rfl dX7_laysBest_76 (st1 := [.int r9, .int r7, .ref (E.2.1 9)]) rfl ?_
    obtain ⟨z11, h⟩ := wq_ii h
    refine wq_ast hC aR_9 z11 dX7_laysBest_79 ?_
    refine wq_iinc hC (v := (s.1 + 1)) dX7_laysBest_80 (lv' := [some (.ref (E.2.1 0)), some (.ref (E.2.1 p1)), some (.int x2), some (.int x3), some (.int x4), some (.int x5), some (.int x6), some (.int (s.1 + 1)), none, none, none]) rfl rfl (by decide) rfl ?_
    refine wq_goto hC dX7_laysBest_83 (tgt := 44) (by decide) ?_
    have h := Option.some.inj h
    subst h
    exact K
def fX7_laysBest_L9_L18_L33 (p1 : Nat) (x2 : Int32) (x3 : Int32) (x4 : Int32) (x5 : Int32) : (Int32 × wq_M) → Option ((Int32 × wq_M) ⊕ wq_M) := fun s =>
  if wq_in 5 44 then (if (s.2.1 p1 (5 : Int32).toNatClampNeg) ≤ s.1 then
    some (.inr s.2)
  else
    (wq_lp (fX7_laysBest_L9_L18_L33_L44 p1 x2 x3 x4 x5 s.1) wq_FU (1, s.2)).bind fun e12 => some (.inl ((s.1 + 1), e12))) else none
set_option maxHeartbeats 4000000 in
set_option maxRecDepth 100000 in
theorem gX7_laysBest_L9_L18_L33 {g : wq_G} {E : wq_E} {d : Nat} (hC : wq_C g E wq_yR cX7_laysBest 11 "WellPipesModel" (some .int) d) (hd0 : 6 ≤ d) (p1 : Nat) (x2 : Int32) (x3 : Int32) (x4 : Int32) (x5 : Int32) (hp1 : wq_a wq_yR p1 44) : ∀ (n : Nat) (s : (Int32 × wq_M)) (e : wq_M), wq_lp (fX7_laysBest_L9_L18_L33 p1 x2 x3 x4 x5) n s = some e → (fun (e : wq_M) => wq_g g E wq_yR 11 92 [some (.ref (E.2.1 0)), some (.ref (E.2.1 p1)), some (.int x2), some (.int x3), some (.int x4), some (.int x5), none, none, none, none, none] [] e) e → wq_g g E wq_yR 11 33 [some (.ref (E.2.1 0)), some (.ref (E.2.1 p1)), some (.int x2), some (.int x3), some (.int x4), some (.int x5), some (.int s.1), none, none, none, none] [] s.2 := by
  refine wq_lq_ok (fun (s : (Int32 × wq_M)) => wq_g g E wq_yR 11 33 [some (.ref (E.2.1 0)), some (.ref (E.2.1 p1)), some (.int x2), some (.int x3), some (.int x4), some (.int x5), some (.int s.1), none, none, none, none] [] s.2) (fun (e : wq_M) => wq_g g E wq_yR 11 92 [some (.ref (E.2.1 0)), some (.ref (E.2.1 p1)), some (.int x2), some (.int x3), some (.int x4), some (.int x5), none, none, none, none, none] [] e) (fun s x h K => ?_)
  unfold fX7_laysBest_L9_L18_L33 at h
  refine wq_iload hC dX7_laysBest_33 rfl ?_
  refine wq_aload_n hC dX7_laysBest_35 (i := 1) rfl rfl ?_
  refine wq_iconst hC (v := 5) dX7_laysBest_36 (by decide) ?_
  obtain ⟨z4, h⟩ := wq_ii h
  refine wq_ald hC hp1 z4 dX7_laysBest_37 ?_
  refine wq_icmp_ge hC dX7_laysBest_38 (tgt := 92) (by decide) (fun z5 => ?_) (fun z5 => ?_)
  · have h := wq_ip z5 h
    have h := Option.some.inj h
    subst h
    refine wq_mask [true, true, true, true, true, true, false, false, false, false, false] (lv' := [some (.ref (E.2.1 0)), some (.ref (E.2.1 p1)), some (.int x2), some (.int x3), some (.int x4), some (.int x5), none, none, none, none, none]) rfl ?_
    exact K
  · have h := wq_in_ z5 h
    refine wq_iconst hC (v := 1) dX7_laysBest_41 (by decide) ?_
    refine wq_istore hC dX7_laysBest_42 (lv' := [some (.ref (E.2.1 0)), some (.ref (E.2.1 p1)), some (.int x2), some (.int x3), some (.int x4), some (.int x5), some (.int s.1), some (.int 1), none, none, none]) (by decide) rfl ?_
    obtain ⟨e12, hl13, h⟩ := wq_ob h
    refine gX7_laysBest_L9_L18_L33_L44 hC hd0 p1 x2 x3 x4 x5 s.1 hp1 wq_FU _ _ hl13 ?_
    refine wq_iinc hC (v := (s.1 + 1)) dX7_laysBest_86 (lv' := [some (.ref (E.2.1 0)), some (.ref (E.2.1 p1)), some (.int x2), some (.int x3), some (.int x4), some (.int x5), some (.int (s.1 + 1)), none, none, none, none]) rfl rfl (by decide) rfl ?_
    refine wq_goto hC dX7_laysBest_89 (tgt := 33) (by decide) ?_
    have h := Option.some.inj h
    subst h
    exact K
def fX7_laysBest_L9_L18 (p1 : Nat) (x2 : Int32) (x3 : Int32) (x4 : Int32) : (Int32 × wq_M) → Option ((Int32 × wq_M) ⊕ wq_M) := fun s =>
  (if (9 * (x3 - x4)) < s.1 then
    some (.inr s.2)
  else
    (wq_lp (fX7_laysBest_L9_L18_L33 p1 x2 x3 x4 s.1) wq_FU (0, s.2)).bind fun e14 => some (.inl ((s.1 + 1), e14)))
set_option maxHeartbeats 4000000 in
set_option maxRecDepth 100000 in
theorem gX7_laysBest_L9_L18 {g : wq_G} {E : wq_E} {d : Nat} (hC : wq_C g E wq_yR cX7_laysBest 11 "WellPipesModel" (some .int) d) (hd0 : 6 ≤ d) (p1 : Nat) (x2 : Int32) (x3 : Int32) (x4 : Int32) (hp1 : wq_a wq_yR p1 44) : ∀ (n : Nat) (s : (Int32 × wq_M)) (e : wq_M), wq_lp (fX7_laysBest_L9_L18 p1 x2 x3 x4) n s = some e → (fun (e : wq_M) => wq_g g E wq_yR 11 98 [some (.ref (E.2.1 0)), some (.ref (E.2.1 p1)), some (.int x2), some (.int x3), some (.int x4), none, none, none, none, none, none] [] e) e → wq_g g E wq_yR 11 18 [some (.ref (E.2.1 0)), some (.ref (E.2.1 p1)), some (.int x2), some (.int x3), some (.int x4), some (.int s.1), none, none, none, none, none] [] s.2 := by
  refine wq_lq_ok (fun (s : (Int32 × wq_M)) => wq_g g E wq_yR 11 18 [some (.ref (E.2.1 0)), some (.ref (E.2.1 p1)), some (.int x2), some (.int x3), some (.int x4), some (.int s.1), none, none, none, none, none] [] s.2) (fun (e : wq_M) => wq_g g E wq_yR 11 98 [some (.ref (E.2.1 0)), some (.ref (E.2.1 p1)), some (.int x2), some (.int x3), some (.int x4), none, none, none, none, none, none] [] e) (fun s x h K => ?_)
  unfold fX7_laysBest_L9_L18 at h
  refine wq_iload hC dX7_laysBest_18 rfl ?_
  refine wq_bipush hC (v := 9) dX7_laysBest_20 (by decide) ?_
  refine wq_iload_n hC dX7_laysBest_22 (i := 3) rfl rfl ?_
  refine wq_iload hC dX7_laysBest_23 rfl ?_
  refine wq_isub hC dX7_laysBest_25 ?_
  refine wq_imul hC dX7_laysBest_26 ?_
  refine wq_icmp_gt hC dX7_laysBest_27 (tgt := 98) (by decide) (fun z3 => ?_) (fun z3 => ?_)
  · have h := wq_ip z3 h
    have h := Option.some.inj h
    subst h
    refine wq_mask [true, true, true, true, true, false, false, false, false, false, false] (lv' := [some (.ref (E.2.1 0)), some (.ref (E.2.1 p1)), some (.int x2), some (.int x3), some (.int x4), none, none, none, none, none, none]) rfl ?_
    exact K
  · have h := wq_in_ z3 h
    refine wq_iconst hC (v := 0) dX7_laysBest_30 (by decide) ?_
    refine wq_istore hC dX7_laysBest_31 (lv' := [some (.ref (E.2.1 0)), some (.ref (E.2.1 p1)), some (.int x2), some (.int x3), some (.int x4), some (.int s.1), some (.int 0), none, none, none, none]) (by decide) rfl ?_
    obtain ⟨e14, hl15, h⟩ := wq_ob h
    refine gX7_laysBest_L9_L18_L33 hC hd0 p1 x2 x3 x4 s.1 hp1 wq_FU _ _ hl15 ?_
    refine wq_iinc hC (v := (s.1 + 1)) dX7_laysBest_92 (lv' := [some (.ref (E.2.1 0)), some (.ref (E.2.1 p1)), some (.int x2), some (.int x3), some (.int x4), some (.int (s.1 + 1)), none, none, none, none, none]) rfl rfl (by decide) rfl ?_
    refine wq_goto hC dX7_laysBest_95 (tgt := 18) (by decide) ?_
    have h := Option.some.inj h
    subst h
    exact K
def fX7_laysBest_L9 (p1 : Nat) (x2 : Int32) (x3 : Int32) : (Int32 × wq_M) → Option ((Int32 × wq_M) ⊕ wq_M) := fun s =>
  (if x3 ≤ s.1 then
    some (.inr s.2)
  else
    (wq_lp (fX7_laysBest_L9_L18 p1 x2 x3 s.1) wq_FU (0, s.2)).bind fun e16 => some (.inl ((s.1 + 1), e16)))
set_option maxHeartbeats 4000000 in
set_option maxRecDepth 100000 in
theorem gX7_laysBest_L9 {g : wq_G} {E : wq_E} {d : Nat} (hC : wq_C g E wq_yR cX7_laysBest 11 "WellPipesModel" (some .int) d) (hd0 : 6 ≤ d) (p1 : Nat) (x2 : Int32) (x3 : Int32) (hp1 : wq_a wq_yR p1 44) : ∀ (n : Nat) (s : (Int32 × wq_M)) (e : wq_M), wq_lp (fX7_laysBest_L9 p1 x2 x3) n s = some e → (fun (e : wq_M) => wq_g g E wq_yR 11 104 [some (.ref (E.2.1 0)), some (.ref (E.2.1 p1)), some (.int x2), some (.int x3), none, none, none, none, none, none, none] [] e) e → wq_g g E wq_yR 11 9 [some (.ref (E.2.1 0)), some (.ref (E.2.1 p1)), some (.int x2), some (.int x3), some (.int s.1), none, none, none, none, none, none] [] s.2 := by
  refine wq_lq_ok (fun (s : (Int32 × wq_M)) => wq_g g E wq_yR 11 9 [some (.ref (E.2.1 0)), some (.ref (E.2.1 p1)), some (.int x2), some (.int x3), some (.int s.1), none, none, none, none, none, none] [] s.2) (fun (e : wq_M) => wq_g g E wq_yR 11 104 [some (.ref (E.2.1 0)), some (.ref (E.2.1 p1)), some (.int x2), some (.int x3), none, none, none, none, none, none, none] [] e) (fun s x h K => ?_)
  unfold fX7_laysBest_L9 at h
  refine wq_iload hC dX7_laysBest_9 rfl ?_
  refine wq_iload_n hC dX7_laysBest_11 (i := 3) rfl rfl ?_
  refine wq_icmp_ge hC dX7_laysBest_12 (tgt := 104) (by decide) (fun z2 => ?_) (fun z2 => ?_)
  · have h := wq_ip z2 h
    have h := Option.some.inj h
    subst h
    refine wq_mask [true, true, true, true, false, false, false, false, false, false, false] (lv' := [some (.ref (E.2.1 0)), some (.ref (E.2.1 p1)), some (.int x2), some (.int x3), none, none, none, none, none, none, none]) rfl ?_
    exact K
  · have h := wq_in_ z2 h
    refine wq_iconst hC (v := 0) dX7_laysBest_15 (by decide) ?_
    refine wq_istore hC dX7_laysBest_16 (lv' := [some (.ref (E.2.1 0)), some (.ref (E.2.1 p1)), some (.int x2), some (.int x3), some (.int s.1), some (.int 0), none, none, none, none, none]) (by decide) rfl ?_
    obtain ⟨e16, hl17, h⟩ := wq_ob h
    refine gX7_laysBest_L9_L18 hC hd0 p1 x2 x3 s.1 hp1 wq_FU _ _ hl17 ?_
    refine wq_iinc hC (v := (s.1 + 1)) dX7_laysBest_98 (lv' := [some (.ref (E.2.1 0)), some (.ref (E.2.1 p1)), some (.int x2), some (.int x3), some (.int (s.1 + 1)), none, none, none, none, none, none]) rfl rfl (by decide) rfl ?_
    refine wq_goto hC dX7_laysBest_101 (tgt := 9) (by decide) ?_
    have h := Option.some.inj h
    subst h
    exact K
def fX7_laysBest_L132_L147 (p1 : Nat) (x2 : Int32) (x4 : Int32) (x5 : Int32) (x6 : Int32) (x7 : Int32) (x8 : Int32) (x9 : Int32) (M : wq_M) : Int32 → Option (Int32 ⊕ Int32) := fun s =>
  (if s = x2 then
    some (.inl (s + 1))
  else
    (fX7_through p1 x9 x6 x7 x8 s M).bind fun r25 => (if r25 = x5 then
      some (.inr s)
    else
      some (.inl (s + 1))))
set_option maxHeartbeats 4000000 in
set_option maxRecDepth 100000 in
theorem gX7_laysBest_L132_L147 {g : wq_G} {E : wq_E} {d : Nat} (hC : wq_C g E wq_yR cX7_laysBest 11 "WellPipesModel" (some .int) d) (hd0 : 6 ≤ d) (p1 : Nat) (x2 : Int32) (x4 : Int32) (x5 : Int32) (x6 : Int32) (x7 : Int32) (x8 : Int32) (x9 : Int32) (M : wq_M) (hp1 : wq_a wq_yR p1 44) : ∀ (n : Nat) (s : Int32) (e : Int32), wq_lp (fX7_laysBest_L132_L147 p1 x2 x4 x5 x6 x7 x8 x9 M) n s = some e → (fun (e : Int32) => wq_g g E wq_yR 11 179 [some (.ref (E.2.1 0)), some (.ref (E.2.1 p1)), some (.int x2), none, some (.int x4), some (.int x5), some (.int x6), some (.int x7), some (.int x8), some (.int x9), some (.int e)] [] M) e → wq_g g E wq_yR 11 147 [some (.ref (E.2.1 0)), some (.ref (E.2.1 p1)), some (.int x2), none, some (.int x4), some (.int x5), some (.int x6), some (.int x7), some (.int x8), some (.int x9), some (.int s)] [] M := by
  refine wq_lq_ok (fun (s : Int32) => wq_g g E wq_yR 11 147 [some (.ref (E.2.1 0)), some (.ref (E.2.1 p1)), some (.int x2), none, some (.int x4), some (.int x5), some (.int x6), some (.int x7), some (.int x8), some (.int x9), some (.int s)] [] M) (fun (e : Int32) => wq_g g E wq_yR 11 179 [some (.ref (E.2.1 0)), some (.ref (E.2.1 p1)), some (.int x2), none, some (.int x4), some (.int x5), some (.int x6), some (.int x7), some (.int x8), some (.int x9), some (.int e)] [] M) (fun s x h K => ?_)
  unfold fX7_laysBest_L132_L147 at h
  refine wq_iload hC dX7_laysBest_147 rfl ?_
  refine wq_iload_n hC dX7_laysBest_149 (i := 2) rfl rfl ?_
  refine wq_icmp_eq hC dX7_laysBest_150 (tgt := 173) (by decide) (fun z24 => ?_) (fun z24 => ?_)
  · have h := wq_ip z24 h
    refine wq_iinc hC (v := (s + 1)) dX7_laysBest_173 (lv' := [some (.ref (E.2.1 0)), some (.ref (E.2.1 p1)), some (.int x2), none, some (.int x4), some (.int x5), some (.int x6), some (.int x7), some (.int x8), some (.int x9), some (.int (s + 1))]) rfl rfl (by decide) rfl ?_
    refine wq_goto hC dX7_laysBest_176 (tgt := 147) (by decide) ?_
    have h := Option.some.inj h
    subst h
    exact K
  · have h := wq_in_ z24 h
    refine wq_aload_n hC dX7_laysBest_153 (i := 0) rfl rfl ?_
    refine wq_aload_n hC dX7_laysBest_154 (i := 1) rfl rfl ?_
    refine wq_iload hC dX7_laysBest_155 rfl ?_
    refine wq_iload hC dX7_laysBest_157 rfl ?_
    refine wq_iload hC dX7_laysBest_159 rfl ?_
    refine wq_iload hC dX7_laysBest_161 rfl ?_
    refine wq_iload hC dX7_laysBest_163 rfl ?_
    obtain ⟨r25, hc26, h⟩ := wq_ob h
    refine cv_7 hC (ctX7_through (d := d - 1) (by omega) hp1 hc26) (by omega) (by decide) oR_0 rfl rfl npX7_through tw_928 tw_930 tw_39 tw_931 (st := []) (Nat.le_of_ble_eq_true rfl) rfl dX7_laysBest_165 (st1 := [.int r25]) rfl ?_
    refine wq_iload hC dX7_laysBest_168 rfl ?_
    refine wq_icmp_eq hC dX7_laysBest_170 (tgt := 179) (by decide) (fun z27 => ?_) (fun z27 => ?_)
    · have h := wq_ip z27 h
      have h := Option.some.inj h
      subst h
      exact K
    · have h := wq_in_ z27 h
      refine wq_iinc hC (v := (s + 1)) dX7_laysBest_173 (lv' := [some (.ref (E.2.1 0)), some (.ref (E.2.1 p1)), some (.int x2), none, some (.int x4), some (.int x5), some (.int x6), some (.int x7), some (.int x8), some (.int x9), some (.int (s + 1))]) rfl rfl (by decide) rfl ?_
      refine wq_goto hC dX7_laysBest_176 (tgt := 147) (by decide) ?_
      have h := Option.some.inj h
      subst h
      exact K
def fX7_laysBest_L132_J213 (p1 : Nat) (x2 : Int32) (x4 : Int32) (x5 : Int32) (x6 : Int32) (x9 : Int32) (x10 : Int32) (y0 : Int32) (M : wq_M) : Option ((Int32 × Int32 × Int32 × Int32 × Int32 × wq_M) ⊕ wq_M) :=
  (fX7_of p1 x10 4 M).bind fun r33 => (fX7_of p1 x10 5 M).bind fun r35 => (fX7_of p1 x10 4 M).bind fun r37 => some (.inl ((x5 - ((100 * r35) + r37)), (x6 + r33), x10, y0, (x9 + (-1)), M))
set_option maxHeartbeats 4000000 in
set_option maxRecDepth 100000 in
theorem gX7_laysBest_L132_J213 {g : wq_G} {E : wq_E} {d : Nat} (hC : wq_C g E wq_yR cX7_laysBest 11 "WellPipesModel" (some .int) d) (hd0 : 6 ≤ d) (p1 : Nat) (x2 : Int32) (x4 : Int32) (x5 : Int32) (x6 : Int32) (x9 : Int32) (x10 : Int32) (y0 : Int32) (M : wq_M) (hp1 : wq_a wq_yR p1 44) {x : ((Int32 × Int32 × Int32 × Int32 × Int32 × wq_M) ⊕ wq_M)} (h : fX7_laysBest_L132_J213 p1 x2 x4 x5 x6 x9 x10 y0 M = some x) (K : (Sum.elim (fun (s : (Int32 × Int32 × Int32 × Int32 × Int32 × wq_M)) => wq_g g E wq_yR 11 132 [some (.ref (E.2.1 0)), some (.ref (E.2.1 p1)), some (.int x2), none, some (.int x4), some (.int s.1), some (.int s.2.1), some (.int s.2.2.1), some (.int s.2.2.2.1), some (.int s.2.2.2.2.1), none] [] s.2.2.2.2.2) (fun (e : wq_M) => wq_g g E wq_yR 11 260 [none, none, none, none, some (.int x4), none, none, none, none, none, none] [] e)) x) : wq_g g E wq_yR 11 213 [some (.ref (E.2.1 0)), some (.ref (E.2.1 p1)), some (.int x2), none, some (.int x4), some (.int x5), some (.int x6), none, none, some (.int x9), some (.int x10)] [.int y0] M := by
  unfold fX7_laysBest_L132_J213 at h
  refine wq_istore hC dX7_laysBest_213 (lv' := [some (.ref (E.2.1 0)), some (.ref (E.2.1 p1)), some (.int x2), none, some (.int x4), some (.int x5), some (.int x6), none, some (.int y0), some (.int x9), some (.int x10)]) (by decide) rfl ?_
  refine wq_iload hC dX7_laysBest_215 rfl ?_
  refine wq_istore hC dX7_laysBest_217 (lv' := [some (.ref (E.2.1 0)), some (.ref (E.2.1 p1)), some (.int x2), none, some (.int x4), some (.int x5), some (.int x6), some (.int x10), some (.int y0), some (.int x9), some (.int x10)]) (by decide) rfl ?_
  refine wq_iload hC dX7_laysBest_219 rfl ?_
  refine wq_aload_n hC dX7_laysBest_221 (i := 1) rfl rfl ?_
  refine wq_iload hC dX7_laysBest_222 rfl ?_
  refine wq_iconst hC (v := 4) dX7_laysBest_224 (by decide) ?_
  obtain ⟨r33, hc34, h⟩ := wq_ob h
  refine wq_callS hC (ctX7_of (d := d - 1) (by omega) hp1 hc34) (by omega) (by decide) rfl npX7_of tw_932 tw_933 tw_58 tw_934 (st := [.int x6]) (Nat.le_of_ble_eq_true rfl) rfl dX7_laysBest_225 (st1 := [.int r33, .int x6]) rfl ?_
  refine wq_iadd hC dX7_laysBest_228 ?_
  refine wq_istore hC dX7_laysBest_229 (lv' := [some (.ref (E.2.1 0)), some (.ref (E.2.1 p1)), some (.int x2), none, some (.int x4), some (.int x5), some (.int (x6 + r33)), some (.int x10), some (.int y0), some (.int x9), some (.int x10)]) (by decide) rfl ?_
  refine wq_iload hC dX7_laysBest_231 rfl ?_
  refine wq_bipush hC (v := 100) dX7_laysBest_233 (by decide) ?_
  refine wq_aload_n hC dX7_laysBest_235 (i := 1) rfl rfl ?_
  refine wq_iload hC dX7_laysBest_236 rfl ?_
  refine wq_iconst hC (v := 5) dX7_laysBest_238 (by decide) ?_
  obtain ⟨r35, hc36, h⟩ := wq_ob h
  refine wq_callS hC (ctX7_of (d := d - 1) (by omega) hp1 hc36) (by omega) (by decide) rfl npX7_of tw_932 tw_933 tw_58 tw_934 (st := [.int 100, .int x5]) (Nat.le_of_ble_eq_true rfl) rfl dX7_laysBest_239 (st1 := [.int r35, .int 100, .int x5]) rfl ?_
  refine wq_imul hC dX7_laysBest_242 ?_
  refine wq_aload_n hC dX7_laysBest_243 (i := 1) rfl rfl ?_
  refine wq_iload hC dX7_laysBest_244 rfl ?_
  refine wq_iconst hC (v := 4) dX7_laysBest_246 (by decide) ?_
  obtain ⟨r37, hc38, h⟩ := wq_ob h
  refine wq_callS hC (ctX7_of (d := d - 1) (by omega) hp1 hc38) (by omega) (by decide) rfl npX7_of tw_932 tw_933 tw_58 tw_934 (st := [.int (100 * r35), .int x5]) (Nat.le_of_ble_eq_true rfl) rfl dX7_laysBest_247 (st1 := [.int r37, .int (100 * r35), .int x5]) rfl ?_
  refine wq_iadd hC dX7_laysBest_250 ?_
  refine wq_isub hC dX7_laysBest_251 ?_
  refine wq_istore hC dX7_laysBest_252 (lv' := [some (.ref (E.2.1 0)), some (.ref (E.2.1 p1)), some (.int x2), none, some (.int x4), some (.int (x5 - ((100 * r35) + r37))), some (.int (x6 + r33)), some (.int x10), some (.int y0), some (.int x9), some (.int x10)]) (by decide) rfl ?_
  refine wq_iinc hC (v := (x9 + (-1))) dX7_laysBest_254 (lv' := [some (.ref (E.2.1 0)), some (.ref (E.2.1 p1)), some (.int x2), none, some (.int x4), some (.int (x5 - ((100 * r35) + r37))), some (.int (x6 + r33)), some (.int x10), some (.int y0), some (.int (x9 + (-1))), some (.int x10)]) rfl rfl (by decide) rfl ?_
  refine wq_goto hC dX7_laysBest_257 (tgt := 132) (by decide) ?_
  have h := Option.some.inj h
  subst h
  refine wq_mask [true, true, true, false, true, true, true, true, true, true, false] (lv' := [some (.ref (E.2.1 0)), some (.ref (E.2.1 p1)), some (.int x2), none, some (.int x4), some (.int (x5 - ((100 * r35) + r37))), some (.int (x6 + r33)), some (.int x10), some (.int y0), some (.int (x9 + (-1))), none]) rfl ?_
  exact K
def fX7_laysBest_L132 (p1 : Nat) (x2 : Int32) (x4 : Int32) : (Int32 × Int32 × Int32 × Int32 × Int32 × wq_M) → Option ((Int32 × Int32 × Int32 × Int32 × Int32 × wq_M) ⊕ wq_M) := fun s =>
  (if s.2.2.2.2.1 < 0 then
    some (.inr s.2.2.2.2.2)
  else
    (if 1000000000 ≤ x4 then
      some (.inr s.2.2.2.2.2)
    else
      (wq_lp (fX7_laysBest_L132_L147 p1 x2 x4 s.1 s.2.1 s.2.2.1 s.2.2.2.1 s.2.2.2.2.1 s.2.2.2.2.2) wq_FU 0).bind fun e28 => if wq_in s.2.2.2.2.1 8 then (if e28 = s.2.2.1 then
        (if 3 ≤ s.2.2.2.1 then
          fX7_laysBest_L132_J213 p1 x2 x4 s.1 s.2.1 s.2.2.2.2.1 e28 3 (wq_st s.2.2.2.2.2 10 s.2.2.2.2.1.toNatClampNeg e28)
        else
          fX7_laysBest_L132_J213 p1 x2 x4 s.1 s.2.1 s.2.2.2.2.1 e28 (s.2.2.2.1 + 1) (wq_st s.2.2.2.2.2 10 s.2.2.2.2.1.toNatClampNeg e28))
      else
        fX7_laysBest_L132_J213 p1 x2 x4 s.1 s.2.1 s.2.2.2.2.1 e28 1 (wq_st s.2.2.2.2.2 10 s.2.2.2.2.1.toNatClampNeg e28)) else none))
set_option maxHeartbeats 4000000 in
set_option maxRecDepth 100000 in
theorem gX7_laysBest_L132 {g : wq_G} {E : wq_E} {d : Nat} (hC : wq_C g E wq_yR cX7_laysBest 11 "WellPipesModel" (some .int) d) (hd0 : 6 ≤ d) (p1 : Nat) (x2 : Int32) (x4 : Int32) (hp1 : wq_a wq_yR p1 44) : ∀ (n : Nat) (s : (Int32 × Int32 × Int32 × Int32 × Int32 × wq_M)) (e : wq_M), wq_lp (fX7_laysBest_L132 p1 x2 x4) n s = some e → (fun (e : wq_M) => wq_g g E wq_yR 11 260 [none, none, none, none, some (.int x4), none, none, none, none, none, none] [] e) e → wq_g g E wq_yR 11 132 [some (.ref (E.2.1 0)), some (.ref (E.2.1 p1)), some (.int x2), none, some (.int x4), some (.int s.1), some (.int s.2.1), some (.int s.2.2.1), some (.int s.2.2.2.1), some (.int s.2.2.2.2.1), none] [] s.2.2.2.2.2 := by
  refine wq_lq_ok (fun (s : (Int32 × Int32 × Int32 × Int32 × Int32 × wq_M)) => wq_g g E wq_yR 11 132 [some (.ref (E.2.1 0)), some (.ref (E.2.1 p1)), some (.int x2), none, some (.int x4), some (.int s.1), some (.int s.2.1), some (.int s.2.2.1), some (.int s.2.2.2.1), some (.int s.2.2.2.2.1), none] [] s.2.2.2.2.2) (fun (e : wq_M) => wq_g g E wq_yR 11 260 [none, none, none, none, some (.int x4), none, none, none, none, none, none] [] e) (fun s x h K => ?_)
  unfold fX7_laysBest_L132 at h
  refine wq_iload hC dX7_laysBest_132 rfl ?_
  refine wq_if_lt hC dX7_laysBest_134 (tgt := 260) (by decide) (fun z22 => ?_) (fun z22 => ?_)
  · have h := wq_ip z22 h
    have h := Option.some.inj h
    subst h
    refine wq_mask [false, false, false, false, true, false, false, false, false, false, false] (lv' := [none, none, none, none, some (.int x4), none, none, none, none, none, none]) rfl ?_
    exact K
  · have h := wq_in_ z22 h
    refine wq_iload hC dX7_laysBest_137 rfl ?_
    refine wq_ldc hC (v := 1000000000) tw_927 dX7_laysBest_139 ?_
    refine wq_icmp_ge hC dX7_laysBest_141 (tgt := 260) (by decide) (fun z23 => ?_) (fun z23 => ?_)
    · have h := wq_ip z23 h
      have h := Option.some.inj h
      subst h
      refine wq_mask [false, false, false, false, true, false, false, false, false, false, false] (lv' := [none, none, none, none, some (.int x4), none, none, none, none, none, none]) rfl ?_
      exact K
    · have h := wq_in_ z23 h
      refine wq_iconst hC (v := 0) dX7_laysBest_144 (by decide) ?_
      refine wq_istore hC dX7_laysBest_145 (lv' := [some (.ref (E.2.1 0)), some (.ref (E.2.1 p1)), some (.int x2), none, some (.int x4), some (.int s.1), some (.int s.2.1), some (.int s.2.2.1), some (.int s.2.2.2.1), some (.int s.2.2.2.2.1), some (.int 0)]) (by decide) rfl ?_
      obtain ⟨e28, hl29, h⟩ := wq_ob h
      refine gX7_laysBest_L132_L147 hC hd0 p1 x2 x4 s.1 s.2.1 s.2.2.1 s.2.2.2.1 s.2.2.2.2.1 s.2.2.2.2.2 hp1 wq_FU _ _ hl29 ?_
      refine wq_aload_n hC dX7_laysBest_179 (i := 0) rfl rfl ?_
      refine gf_7 hC oR_0 20 (.ref (E.2.1 10)) (by decide) rfl tw_738 dX7_laysBest_180 ?_
      refine wq_iload hC dX7_laysBest_183 rfl ?_
      refine wq_iload hC dX7_laysBest_185 rfl ?_
      obtain ⟨z30, h⟩ := wq_ii h
      refine wq_ast hC aR_10 z30 dX7_laysBest_187 ?_
      refine wq_iload hC dX7_laysBest_188 rfl ?_
      refine wq_iload hC dX7_laysBest_190 rfl ?_
      refine wq_icmp_eq hC dX7_laysBest_192 (tgt := 199) (by decide) (fun z31 => ?_) (fun z31 => ?_)
      · have h := wq_ip z31 h
        refine wq_iload hC dX7_laysBest_199 rfl ?_
        refine wq_iconst hC (v := 3) dX7_laysBest_201 (by decide) ?_
        refine wq_icmp_ge hC dX7_laysBest_202 (tgt := 212) (by decide) (fun z32 => ?_) (fun z32 => ?_)
        · have h := wq_ip z32 h
          refine wq_iconst hC (v := 3) dX7_laysBest_212 (by decide) ?_
          refine wq_mask [true, true, true, false, true, true, true, false, false, true, true] (lv' := [some (.ref (E.2.1 0)), some (.ref (E.2.1 p1)), some (.int x2), none, some (.int x4), some (.int s.1), some (.int s.2.1), none, none, some (.int s.2.2.2.2.1), some (.int e28)]) rfl ?_
          exact gX7_laysBest_L132_J213 hC hd0 p1 x2 x4 s.1 s.2.1 s.2.2.2.2.1 e28 3 (wq_st s.2.2.2.2.2 10 s.2.2.2.2.1.toNatClampNeg e28) hp1 h K
        · have h := wq_in_ z32 h
          refine wq_iload hC dX7_laysBest_205 rfl ?_
          refine wq_iconst hC (v := 1) dX7_laysBest_207 (by decide) ?_
          refine wq_iadd hC dX7_laysBest_208 ?_
          refine wq_goto hC dX7_laysBest_209 (tgt := 213) (by decide) ?_
          refine wq_mask [true, true, true, false, true, true, true, false, false, true, true] (lv' := [some (.ref (E.2.1 0)), some (.ref (E.2.1 p1)), some (.int x2), none, some (.int x4), some (.int s.1), some (.int s.2.1), none, none, some (.int s.2.2.2.2.1), some (.int e28)]) rfl ?_
          exact gX7_laysBest_L132_J213 hC hd0 p1 x2 x4 s.1 s.2.1 s.2.2.2.2.1 e28 (s.2.2.2.1 + 1) (wq_st s.2.2.2.2.2 10 s.2.2.2.2.1.toNatClampNeg e28) hp1 h K
      · have h := wq_in_ z31 h
        refine wq_iconst hC (v := 1) dX7_laysBest_195 (by decide) ?_
        refine wq_goto hC dX7_laysBest_196 (tgt := 213) (by decide) ?_
        refine wq_mask [true, true, true, false, true, true, true, false, false, true, true] (lv' := [some (.ref (E.2.1 0)), some (.ref (E.2.1 p1)), some (.int x2), none, some (.int x4), some (.int s.1), some (.int s.2.1), none, none, some (.int s.2.2.2.2.1), some (.int e28)]) rfl ?_
        exact gX7_laysBest_L132_J213 hC hd0 p1 x2 x4 s.1 s.2.1 s.2.2.2.2.1 e28 1 (wq_st s.2.2.2.2.2 10 s.2.2.2.2.1.toNatClampNeg e28) hp1 h K
def fX7_laysBest (p1 : Nat) (x2 : Int32) (M : wq_M) : Option (Int32 × wq_M) :=
  if wq_in 0 44 then (wq_lp (fX7_laysBest_L9 p1 x2 ((M.1 p1 (0 : Int32).toNatClampNeg) - 1)) wq_FU (0, M)).bind fun e18 => (fX7_leastAt p1 ((M.1 p1 (0 : Int32).toNatClampNeg) - 1) 0 (-1) 0 x2 e18).bind fun r20 => (wq_lp (fX7_laysBest_L132 p1 x2 r20) wq_FU (r20, 0, (-1), 0, ((M.1 p1 (0 : Int32).toNatClampNeg) - 1), e18)).bind fun e39 => some (r20, e39) else none
set_option maxHeartbeats 4000000 in
set_option maxRecDepth 100000 in
theorem ctX7_laysBest {l : Launch} {E : wq_E} {d : Nat} (hd0 : 6 ≤ d) {p1 : Nat} {x2 : Int32} {M : wq_M} {r : (Int32 × wq_M)} (hp1 : wq_a wq_yR p1 44) (h : fX7_laysBest p1 x2 M = some r) : wq_ct l E wq_yR yX7_laysBest cX7_laysBest 11 (some .int) d [.ref (E.2.1 0), .ref (E.2.1 p1), .int x2] M (some (.int r.1)) r.2 := by
  refine wq_ent (own := "WellPipesModel") (lv0 := [some (.ref (E.2.1 0)), some (.ref (E.2.1 p1)), some (.int x2), none, none, none, none, none, none, none, none]) (by decide +kernel) rfl (Nat.le_of_ble_eq_true rfl) rfl (fun g h1 h2 hC => ?_)
  have K : wq_kI g r := ⟨h1, h2⟩
  unfold fX7_laysBest at h
  refine wq_aload_n hC dX7_laysBest_0 (i := 1) rfl rfl ?_
  refine wq_iconst hC (v := 0) dX7_laysBest_1 (by decide) ?_
  obtain ⟨z1, h⟩ := wq_ii h
  refine wq_ald hC hp1 z1 dX7_laysBest_2 ?_
  refine wq_iconst hC (v := 1) dX7_laysBest_3 (by decide) ?_
  refine wq_isub hC dX7_laysBest_4 ?_
  refine wq_istore_n hC dX7_laysBest_5 (i := 3) (lv' := [some (.ref (E.2.1 0)), some (.ref (E.2.1 p1)), some (.int x2), some (.int ((M.1 p1 (0 : Int32).toNatClampNeg) - 1)), none, none, none, none, none, none, none]) rfl (by decide) rfl ?_
  refine wq_iconst hC (v := 0) dX7_laysBest_6 (by decide) ?_
  refine wq_istore hC dX7_laysBest_7 (lv' := [some (.ref (E.2.1 0)), some (.ref (E.2.1 p1)), some (.int x2), some (.int ((M.1 p1 (0 : Int32).toNatClampNeg) - 1)), some (.int 0), none, none, none, none, none, none]) (by decide) rfl ?_
  obtain ⟨e18, hl19, h⟩ := wq_ob h
  refine gX7_laysBest_L9 hC hd0 p1 x2 ((M.1 p1 (0 : Int32).toNatClampNeg) - 1) hp1 wq_FU _ _ hl19 ?_
  refine wq_aload_n hC dX7_laysBest_104 (i := 0) rfl rfl ?_
  refine wq_aload_n hC dX7_laysBest_105 (i := 1) rfl rfl ?_
  refine wq_iload_n hC dX7_laysBest_106 (i := 3) rfl rfl ?_
  refine wq_iconst hC (v := 0) dX7_laysBest_107 (by decide) ?_
  refine wq_iconst hC (v := (-1)) dX7_laysBest_108 (by decide) ?_
  refine wq_iconst hC (v := 0) dX7_laysBest_109 (by decide) ?_
  refine wq_iload_n hC dX7_laysBest_110 (i := 2) rfl rfl ?_
  obtain ⟨r20, hc21, h⟩ := wq_ob h
  refine cv_7 hC (ctX7_leastAt (d := d - 1) (by omega) hp1 hc21) (by omega) (by decide) oR_0 rfl rfl npX7_leastAt tw_923 tw_925 tw_38 tw_926 (st := []) (Nat.le_of_ble_eq_true rfl) rfl dX7_laysBest_111 (st1 := [.int r20]) rfl ?_
  refine wq_istore hC dX7_laysBest_114 (lv' := [some (.ref (E.2.1 0)), some (.ref (E.2.1 p1)), some (.int x2), some (.int ((M.1 p1 (0 : Int32).toNatClampNeg) - 1)), some (.int r20), none, none, none, none, none, none]) (by decide) rfl ?_
  refine wq_iload hC dX7_laysBest_116 rfl ?_
  refine wq_istore hC dX7_laysBest_118 (lv' := [some (.ref (E.2.1 0)), some (.ref (E.2.1 p1)), some (.int x2), some (.int ((M.1 p1 (0 : Int32).toNatClampNeg) - 1)), some (.int r20), some (.int r20), none, none, none, none, none]) (by decide) rfl ?_
  refine wq_iconst hC (v := 0) dX7_laysBest_120 (by decide) ?_
  refine wq_istore hC dX7_laysBest_121 (lv' := [some (.ref (E.2.1 0)), some (.ref (E.2.1 p1)), some (.int x2), some (.int ((M.1 p1 (0 : Int32).toNatClampNeg) - 1)), some (.int r20), some (.int r20), some (.int 0), none, none, none, none]) (by decide) rfl ?_
  refine wq_iconst hC (v := (-1)) dX7_laysBest_123 (by decide) ?_
  refine wq_istore hC dX7_laysBest_124 (lv' := [some (.ref (E.2.1 0)), some (.ref (E.2.1 p1)), some (.int x2), some (.int ((M.1 p1 (0 : Int32).toNatClampNeg) - 1)), some (.int r20), some (.int r20), some (.int 0), some (.int (-1)), none, none, none]) (by decide) rfl ?_
  refine wq_iconst hC (v := 0) dX7_laysBest_126 (by decide) ?_
  refine wq_istore hC dX7_laysBest_127 (lv' := [some (.ref (E.2.1 0)), some (.ref (E.2.1 p1)), some (.int x2), some (.int ((M.1 p1 (0 : Int32).toNatClampNeg) - 1)), some (.int r20), some (.int r20), some (.int 0), some (.int (-1)), some (.int 0), none, none]) (by decide) rfl ?_
  refine wq_iload_n hC dX7_laysBest_129 (i := 3) rfl rfl ?_
  refine wq_istore hC dX7_laysBest_130 (lv' := [some (.ref (E.2.1 0)), some (.ref (E.2.1 p1)), some (.int x2), some (.int ((M.1 p1 (0 : Int32).toNatClampNeg) - 1)), some (.int r20), some (.int r20), some (.int 0), some (.int (-1)), some (.int 0), some (.int ((M.1 p1 (0 : Int32).toNatClampNeg) - 1)), none]) (by decide) rfl ?_
  obtain ⟨e39, hl40, h⟩ := wq_ob h
  refine wq_mask [true, true, true, false, true, true, true, true, true, true, false] (lv' := [some (.ref (E.2.1 0)), some (.ref (E.2.1 p1)), some (.int x2), none, some (.int r20), some (.int r20), some (.int 0), some (.int (-1)), some (.int 0), some (.int ((M.1 p1 (0 : Int32).toNatClampNeg) - 1)), none]) rfl ?_
  refine gX7_laysBest_L132 hC hd0 p1 x2 r20 hp1 wq_FU _ _ hl40 ?_
  refine wq_iload hC dX7_laysBest_260 rfl ?_
  have h := Option.some.inj h
  subst h
  exact wq_iret hC dX7_laysBest_262 K.1 K.2
theorem npX7_keep : yX7_keep.cls ≠ "java/lang/invoke/MethodHandle" ∧ yX7_keep.cls ≠ "java/lang/invoke/VarHandle" ∧ (parseMethodDescriptor yX7_keep.desc).map (fun d => d.parameters.length) = some 0 := by decide +kernel
def fX7_keep_L51  : (Int32 × wq_M) → Option ((Int32 × wq_M) ⊕ wq_M) := fun s =>
  (if 44 ≤ s.1 then
    some (.inr s.2)
  else
    if wq_in s.1 44 then if wq_in ((44 * (s.2.1 0 9)) + s.1) 1056 then some (.inl ((s.1 + 1), (wq_st s.2 7 ((44 * (s.2.1 0 9)) + s.1).toNatClampNeg (s.2.1 4 s.1.toNatClampNeg)))) else none else none)
set_option maxHeartbeats 4000000 in
set_option maxRecDepth 100000 in
theorem gX7_keep_L51 {g : wq_G} {E : wq_E} {d : Nat} (hC : wq_C g E wq_yR cX7_keep 2 "WellPipesModel" (none) d) (hd0 : 0 ≤ d)   : ∀ (n : Nat) (s : (Int32 × wq_M)) (e : wq_M), wq_lp (fX7_keep_L51) n s = some e → (fun (e : wq_M) => wq_g g E wq_yR 2 83 [some (.ref (E.2.1 0)), none] [] e) e → wq_g g E wq_yR 2 51 [some (.ref (E.2.1 0)), some (.int s.1)] [] s.2 := by
  refine wq_lq_ok (fun (s : (Int32 × wq_M)) => wq_g g E wq_yR 2 51 [some (.ref (E.2.1 0)), some (.int s.1)] [] s.2) (fun (e : wq_M) => wq_g g E wq_yR 2 83 [some (.ref (E.2.1 0)), none] [] e) (fun s x h K => ?_)
  unfold fX7_keep_L51 at h
  refine wq_iload_n hC dX7_keep_51 (i := 1) rfl rfl ?_
  refine wq_bipush hC (v := 44) dX7_keep_52 (by decide) ?_
  refine wq_icmp_ge hC dX7_keep_54 (tgt := 83) (by decide) (fun z2 => ?_) (fun z2 => ?_)
  · have h := wq_ip z2 h
    have h := Option.some.inj h
    subst h
    refine wq_mask [true, false] (lv' := [some (.ref (E.2.1 0)), none]) rfl ?_
    exact K
  · have h := wq_in_ z2 h
    refine wq_aload_n hC dX7_keep_57 (i := 0) rfl rfl ?_
    refine gf_7 hC oR_0 8 (.ref (E.2.1 7)) (by decide) rfl tw_726 dX7_keep_58 ?_
    refine wq_bipush hC (v := 44) dX7_keep_61 (by decide) ?_
    refine wq_aload_n hC dX7_keep_63 (i := 0) rfl rfl ?_
    refine gf_7 hC oR_0 9 (.int (s.2.1 0 9)) (by decide) rfl tw_727 dX7_keep_64 ?_
    refine wq_imul hC dX7_keep_67 ?_
    refine wq_iload_n hC dX7_keep_68 (i := 1) rfl rfl ?_
    refine wq_iadd hC dX7_keep_69 ?_
    refine wq_aload_n hC dX7_keep_70 (i := 0) rfl rfl ?_
    refine gf_7 hC oR_0 5 (.ref (E.2.1 4)) (by decide) rfl tw_723 dX7_keep_71 ?_
    refine wq_iload_n hC dX7_keep_74 (i := 1) rfl rfl ?_
    obtain ⟨z3, h⟩ := wq_ii h
    refine wq_ald hC aR_4 z3 dX7_keep_75 ?_
    obtain ⟨z4, h⟩ := wq_ii h
    refine wq_ast hC aR_7 z4 dX7_keep_76 ?_
    refine wq_iinc hC (v := (s.1 + 1)) dX7_keep_77 (lv' := [some (.ref (E.2.1 0)), some (.int (s.1 + 1))]) rfl rfl (by decide) rfl ?_
    refine wq_goto hC dX7_keep_80 (tgt := 51) (by decide) ?_
    have h := Option.some.inj h
    subst h
    exact K
def fX7_keep_J49 (M : wq_M) : Option wq_M :=
  (wq_lp (fX7_keep_L51) wq_FU (0, M)).bind fun e5 => some (wq_st e5 0 9 ((e5.1 0 9) + 1))
set_option maxHeartbeats 4000000 in
set_option maxRecDepth 100000 in
theorem gX7_keep_J49 {g : wq_G} {E : wq_E} {d : Nat} (hC : wq_C g E wq_yR cX7_keep 2 "WellPipesModel" (none) d) (hd0 : 0 ≤ d) (M : wq_M)  {x : wq_M} (h : fX7_keep_J49 M = some x) (K : (wq_kV g) x) : wq_g g E wq_yR 2 49 [some (.ref (E.2.1 0)), none] [] M := by
  unfold fX7_keep_J49 at h
  refine wq_iconst hC (v := 0) dX7_keep_49 (by decide) ?_
  refine wq_istore_n hC dX7_keep_50 (i := 1) (lv' := [some (.ref (E.2.1 0)), some (.int 0)]) rfl (by decide) rfl ?_
  obtain ⟨e5, hl6, h⟩ := wq_ob h
  refine gX7_keep_L51 hC hd0   wq_FU _ _ hl6 ?_
  refine wq_aload_n hC dX7_keep_83 (i := 0) rfl rfl ?_
  refine wq_dup hC dX7_keep_84 rfl ?_
  refine gf_7 hC oR_0 9 (.int (e5.1 0 9)) (by decide) rfl tw_727 dX7_keep_85 ?_
  refine wq_iconst hC (v := 1) dX7_keep_88 (by decide) ?_
  refine wq_iadd hC dX7_keep_89 ?_
  refine pf_7_9 hC oR_0 tw_727 dX7_keep_90 ?_
  have h := Option.some.inj h
  subst h
  exact wq_vret hC dX7_keep_93 K.1 K.2
def fX7_keep_L11  : (Int32 × wq_M) → Option ((Int32 × wq_M) ⊕ wq_M) := fun s =>
  (if 1012 ≤ s.1 then
    some (.inr s.2)
  else
    if wq_in (s.1 + 44) 1056 then if wq_in s.1 1056 then some (.inl ((s.1 + 1), (wq_st s.2 7 s.1.toNatClampNeg (s.2.1 7 (s.1 + 44).toNatClampNeg)))) else none else none)
set_option maxHeartbeats 4000000 in
set_option maxRecDepth 100000 in
theorem gX7_keep_L11 {g : wq_G} {E : wq_E} {d : Nat} (hC : wq_C g E wq_yR cX7_keep 2 "WellPipesModel" (none) d) (hd0 : 0 ≤ d)   : ∀ (n : Nat) (s : (Int32 × wq_M)) (e : wq_M), wq_lp (fX7_keep_L11) n s = some e → (fun (e : wq_M) => wq_g g E wq_yR 2 39 [some (.ref (E.2.1 0)), none] [] e) e → wq_g g E wq_yR 2 11 [some (.ref (E.2.1 0)), some (.int s.1)] [] s.2 := by
  refine wq_lq_ok (fun (s : (Int32 × wq_M)) => wq_g g E wq_yR 2 11 [some (.ref (E.2.1 0)), some (.int s.1)] [] s.2) (fun (e : wq_M) => wq_g g E wq_yR 2 39 [some (.ref (E.2.1 0)), none] [] e) (fun s x h K => ?_)
  unfold fX7_keep_L11 at h
  refine wq_iload_n hC dX7_keep_11 (i := 1) rfl rfl ?_
  refine wq_sipush hC (v := 1012) dX7_keep_12 (by decide) ?_
  refine wq_icmp_ge hC dX7_keep_15 (tgt := 39) (by decide) (fun z7 => ?_) (fun z7 => ?_)
  · have h := wq_ip z7 h
    have h := Option.some.inj h
    subst h
    refine wq_mask [true, false] (lv' := [some (.ref (E.2.1 0)), none]) rfl ?_
    exact K
  · have h := wq_in_ z7 h
    refine wq_aload_n hC dX7_keep_18 (i := 0) rfl rfl ?_
    refine gf_7 hC oR_0 8 (.ref (E.2.1 7)) (by decide) rfl tw_726 dX7_keep_19 ?_
    refine wq_iload_n hC dX7_keep_22 (i := 1) rfl rfl ?_
    refine wq_aload_n hC dX7_keep_23 (i := 0) rfl rfl ?_
    refine gf_7 hC oR_0 8 (.ref (E.2.1 7)) (by decide) rfl tw_726 dX7_keep_24 ?_
    refine wq_iload_n hC dX7_keep_27 (i := 1) rfl rfl ?_
    refine wq_bipush hC (v := 44) dX7_keep_28 (by decide) ?_
    refine wq_iadd hC dX7_keep_30 ?_
    obtain ⟨z8, h⟩ := wq_ii h
    refine wq_ald hC aR_7 z8 dX7_keep_31 ?_
    obtain ⟨z9, h⟩ := wq_ii h
    refine wq_ast hC aR_7 z9 dX7_keep_32 ?_
    refine wq_iinc hC (v := (s.1 + 1)) dX7_keep_33 (lv' := [some (.ref (E.2.1 0)), some (.int (s.1 + 1))]) rfl rfl (by decide) rfl ?_
    refine wq_goto hC dX7_keep_36 (tgt := 11) (by decide) ?_
    have h := Option.some.inj h
    subst h
    exact K
def fX7_keep  (M : wq_M) : Option wq_M :=
  (if (M.1 0 9) = 24 then
    (wq_lp (fX7_keep_L11) wq_FU (0, M)).bind fun e10 => fX7_keep_J49 (wq_st e10 0 9 ((e10.1 0 9) - 1))
  else
    fX7_keep_J49 M)
set_option maxHeartbeats 4000000 in
set_option maxRecDepth 100000 in
theorem ctX7_keep {l : Launch} {E : wq_E} {d : Nat} (hd0 : 0 ≤ d)  {M : wq_M} {r : wq_M}  (h : fX7_keep M = some r) : wq_ct l E wq_yR yX7_keep cX7_keep 2 (none) d [.ref (E.2.1 0)] M (none) r := by
  refine wq_ent (own := "WellPipesModel") (lv0 := [some (.ref (E.2.1 0)), none]) (by decide +kernel) rfl (Nat.le_of_ble_eq_true rfl) rfl (fun g h1 h2 hC => ?_)
  have K : wq_kV g r := ⟨h1, h2⟩
  unfold fX7_keep at h
  refine wq_aload_n hC dX7_keep_0 (i := 0) rfl rfl ?_
  refine gf_7 hC oR_0 9 (.int (M.1 0 9)) (by decide) rfl tw_727 dX7_keep_1 ?_
  refine wq_bipush hC (v := 24) dX7_keep_4 (by decide) ?_
  refine wq_icmp_ne hC dX7_keep_6 (tgt := 49) (by decide) (fun z1 => ?_) (fun z1 => ?_)
  · have h := wq_in_ z1 h
    exact gX7_keep_J49 hC hd0  M  h K
  · have h := wq_ip z1 h
    refine wq_iconst hC (v := 0) dX7_keep_9 (by decide) ?_
    refine wq_istore_n hC dX7_keep_10 (i := 1) (lv' := [some (.ref (E.2.1 0)), some (.int 0)]) rfl (by decide) rfl ?_
    obtain ⟨e10, hl11, h⟩ := wq_ob h
    refine gX7_keep_L11 hC hd0   wq_FU _ _ hl11 ?_
    refine wq_aload_n hC dX7_keep_39 (i := 0) rfl rfl ?_
    refine wq_dup hC dX7_keep_40 rfl ?_
    refine gf_7 hC oR_0 9 (.int (e10.1 0 9)) (by decide) rfl tw_727 dX7_keep_41 ?_
    refine wq_iconst hC (v := 1) dX7_keep_44 (by decide) ?_
    refine wq_isub hC dX7_keep_45 ?_
    refine pf_7_9 hC oR_0 tw_727 dX7_keep_46 ?_
    exact gX7_keep_J49 hC hd0  (wq_st e10 0 9 ((e10.1 0 9) - 1))  h K
theorem npX7_lay : yX7_lay.cls ≠ "java/lang/invoke/MethodHandle" ∧ yX7_lay.cls ≠ "java/lang/invoke/VarHandle" ∧ (parseMethodDescriptor yX7_lay.desc).map (fun d => d.parameters.length) = some 2 := by decide +kernel
def fX7_lay_J29 (x1 : Int32) (x2 : Int32) (M : wq_M) : Option (Int32 × wq_M) :=
  if wq_in (36 + x1) 44 then (if (M.1 4 (36 + x1).toNatClampNeg) = x2 then
    some ((-1000002), M)
  else
    (fX7_keep  M).bind fun r7 => if wq_in (36 + x1) 44 then some ((M.1 4 (36 + x1).toNatClampNeg), (wq_st r7 4 (36 + x1).toNatClampNeg x2)) else none) else none
set_option maxHeartbeats 4000000 in
set_option maxRecDepth 100000 in
theorem gX7_lay_J29 {g : wq_G} {E : wq_E} {d : Nat} (hC : wq_C g E wq_yR cX7_lay 4 "WellPipesModel" (some .int) d) (hd0 : 2 ≤ d) (x1 : Int32) (x2 : Int32) (M : wq_M)  {x : (Int32 × wq_M)} (h : fX7_lay_J29 x1 x2 M = some x) (K : (wq_kI g) x) : wq_g g E wq_yR 4 29 [some (.ref (E.2.1 0)), some (.int x1), some (.int x2), none] [] M := by
  unfold fX7_lay_J29 at h
  refine wq_aload_n hC dX7_lay_29 (i := 0) rfl rfl ?_
  refine gf_7 hC oR_0 5 (.ref (E.2.1 4)) (by decide) rfl tw_723 dX7_lay_30 ?_
  refine wq_bipush hC (v := 36) dX7_lay_33 (by decide) ?_
  refine wq_iload_n hC dX7_lay_35 (i := 1) rfl rfl ?_
  refine wq_iadd hC dX7_lay_36 ?_
  obtain ⟨z5, h⟩ := wq_ii h
  refine wq_ald hC aR_4 z5 dX7_lay_37 ?_
  refine wq_istore_n hC dX7_lay_38 (i := 3) (lv' := [some (.ref (E.2.1 0)), some (.int x1), some (.int x2), some (.int (M.1 4 (36 + x1).toNatClampNeg))]) rfl (by decide) rfl ?_
  refine wq_iload_n hC dX7_lay_39 (i := 3) rfl rfl ?_
  refine wq_iload_n hC dX7_lay_40 (i := 2) rfl rfl ?_
  refine wq_icmp_ne hC dX7_lay_41 (tgt := 47) (by decide) (fun z6 => ?_) (fun z6 => ?_)
  · have h := wq_in_ z6 h
    refine wq_aload_n hC dX7_lay_47 (i := 0) rfl rfl ?_
    obtain ⟨r7, hc8, h⟩ := wq_ob h
    refine cv_7 hC (ctX7_keep (d := d - 1) (by omega)  hc8) (by omega) (by decide) oR_0 rfl rfl npX7_keep tw_904 tw_906 tw_35 tw_907 (st := []) (Nat.le_of_ble_eq_true rfl) rfl dX7_lay_48 (st1 := []) rfl ?_
    refine wq_aload_n hC dX7_lay_51 (i := 0) rfl rfl ?_
    refine gf_7 hC oR_0 5 (.ref (E.2.1 4)) (by decide) rfl tw_723 dX7_lay_52 ?_
    refine wq_bipush hC (v := 36) dX7_lay_55 (by decide) ?_
    refine wq_iload_n hC dX7_lay_57 (i := 1) rfl rfl ?_
    refine wq_iadd hC dX7_lay_58 ?_
    refine wq_iload_n hC dX7_lay_59 (i := 2) rfl rfl ?_
    obtain ⟨z9, h⟩ := wq_ii h
    refine wq_ast hC aR_4 z9 dX7_lay_60 ?_
    refine wq_iload_n hC dX7_lay_61 (i := 3) rfl rfl ?_
    have h := Option.some.inj h
    subst h
    exact wq_iret hC dX7_lay_62 K.1 K.2
  · have h := wq_ip z6 h
    refine wq_ldc hC (v := (-1000002)) tw_903 dX7_lay_44 ?_
    have h := Option.some.inj h
    subst h
    exact wq_iret hC dX7_lay_46 K.1 K.2
def fX7_lay (x1 : Int32) (x2 : Int32) (M : wq_M) : Option (Int32 × wq_M) :=
  (fX7_isStep x1 (wq_st M 0 0 0)).bind fun r1 => (if r1 = true then
    (if x2 = (-1) then
      fX7_lay_J29 x1 x2 (wq_st M 0 0 0)
    else
      (fX7_isGrade x2 (wq_st M 0 0 0)).bind fun r10 => (if r10 = true then
        fX7_lay_J29 x1 x2 (wq_st M 0 0 0)
      else
        some ((-1000001), (wq_st M 0 0 0))))
  else
    some ((-1000001), (wq_st M 0 0 0)))
set_option maxHeartbeats 4000000 in
set_option maxRecDepth 100000 in
theorem ctX7_lay {l : Launch} {E : wq_E} {d : Nat} (hd0 : 2 ≤ d) {x1 : Int32} {x2 : Int32} {M : wq_M} {r : (Int32 × wq_M)}  (h : fX7_lay x1 x2 M = some r) : wq_ct l E wq_yR yX7_lay cX7_lay 4 (some .int) d [.ref (E.2.1 0), .int x1, .int x2] M (some (.int r.1)) r.2 := by
  refine wq_ent (own := "WellPipesModel") (lv0 := [some (.ref (E.2.1 0)), some (.int x1), some (.int x2), none]) (by decide +kernel) rfl (Nat.le_of_ble_eq_true rfl) rfl (fun g h1 h2 hC => ?_)
  have K : wq_kI g r := ⟨h1, h2⟩
  unfold fX7_lay at h
  refine wq_aload_n hC dX7_lay_0 (i := 0) rfl rfl ?_
  refine wq_iconst hC (v := 0) dX7_lay_1 (by decide) ?_
  refine pf_7_0 hC oR_0 tw_718 dX7_lay_2 ?_
  refine wq_aload_n hC dX7_lay_5 (i := 0) rfl rfl ?_
  refine wq_iload_n hC dX7_lay_6 (i := 1) rfl rfl ?_
  obtain ⟨r1, hc2, h⟩ := wq_ob h
  refine cv_7 hC (ctX7_isStep (d := d - 1) (by omega)  hc2) (by omega) (by decide) oR_0 rfl rfl npX7_isStep tw_895 tw_897 tw_33 tw_898 (st := []) (Nat.le_of_ble_eq_true rfl) rfl dX7_lay_7 (st1 := [.int (wq_b r1)]) rfl ?_
  refine wq_bif_eq hC dX7_lay_10 (tgt := 26) (by decide) (fun z3 => ?_) (fun z3 => ?_)
  · have h := wq_in_ z3 h
    refine wq_ldc hC (v := (-1000001)) tw_810 dX7_lay_26 ?_
    have h := Option.some.inj h
    subst h
    exact wq_iret hC dX7_lay_28 K.1 K.2
  · have h := wq_ip z3 h
    refine wq_iload_n hC dX7_lay_13 (i := 2) rfl rfl ?_
    refine wq_iconst hC (v := (-1)) dX7_lay_14 (by decide) ?_
    refine wq_icmp_eq hC dX7_lay_15 (tgt := 29) (by decide) (fun z4 => ?_) (fun z4 => ?_)
    · have h := wq_ip z4 h
      exact gX7_lay_J29 hC hd0 x1 x2 (wq_st M 0 0 0)  h K
    · have h := wq_in_ z4 h
      refine wq_aload_n hC dX7_lay_18 (i := 0) rfl rfl ?_
      refine wq_iload_n hC dX7_lay_19 (i := 2) rfl rfl ?_
      obtain ⟨r10, hc11, h⟩ := wq_ob h
      refine cv_7 hC (ctX7_isGrade (d := d - 1) (by omega)  hc11) (by omega) (by decide) oR_0 rfl rfl npX7_isGrade tw_899 tw_901 tw_34 tw_902 (st := []) (Nat.le_of_ble_eq_true rfl) rfl dX7_lay_20 (st1 := [.int (wq_b r10)]) rfl ?_
      refine wq_bif_ne hC dX7_lay_23 (tgt := 29) (by decide) (fun z12 => ?_) (fun z12 => ?_)
      · have h := wq_ip z12 h
        exact gX7_lay_J29 hC hd0 x1 x2 (wq_st M 0 0 0)  h K
      · have h := wq_in_ z12 h
        refine wq_ldc hC (v := (-1000001)) tw_810 dX7_lay_26 ?_
        have h := Option.some.inj h
        subst h
        exact wq_iret hC dX7_lay_28 K.1 K.2
theorem npX7_layBest : yX7_layBest.cls ≠ "java/lang/invoke/MethodHandle" ∧ yX7_layBest.cls ≠ "java/lang/invoke/VarHandle" ∧ (parseMethodDescriptor yX7_layBest.desc).map (fun d => d.parameters.length) = some 0 := by decide +kernel
def fX7_layBest_L38  : (Int32 × wq_M) → Option ((Int32 × wq_M) ⊕ wq_M) := fun s =>
  if wq_in 0 44 then (if (s.2.1 4 (0 : Int32).toNatClampNeg) ≤ s.1 then
    some (.inr s.2)
  else
    if wq_in s.1 8 then if wq_in (36 + s.1) 44 then some (.inl ((s.1 + 1), (wq_st s.2 4 (36 + s.1).toNatClampNeg (s.2.1 10 s.1.toNatClampNeg)))) else none else none) else none
set_option maxHeartbeats 4000000 in
set_option maxRecDepth 100000 in
theorem gX7_layBest_L38 {g : wq_G} {E : wq_E} {d : Nat} (hC : wq_C g E wq_yR cX7_layBest 2 "WellPipesModel" (some .int) d) (hd0 : 7 ≤ d)   : ∀ (n : Nat) (s : (Int32 × wq_M)) (e : wq_M), wq_lp (fX7_layBest_L38) n s = some e → (fun (e : wq_M) => wq_g g E wq_yR 2 69 [some (.ref (E.2.1 0)), none] [] e) e → wq_g g E wq_yR 2 38 [some (.ref (E.2.1 0)), some (.int s.1)] [] s.2 := by
  refine wq_lq_ok (fun (s : (Int32 × wq_M)) => wq_g g E wq_yR 2 38 [some (.ref (E.2.1 0)), some (.int s.1)] [] s.2) (fun (e : wq_M) => wq_g g E wq_yR 2 69 [some (.ref (E.2.1 0)), none] [] e) (fun s x h K => ?_)
  unfold fX7_layBest_L38 at h
  refine wq_iload_n hC dX7_layBest_38 (i := 1) rfl rfl ?_
  refine wq_aload_n hC dX7_layBest_39 (i := 0) rfl rfl ?_
  refine gf_7 hC oR_0 5 (.ref (E.2.1 4)) (by decide) rfl tw_723 dX7_layBest_40 ?_
  refine wq_iconst hC (v := 0) dX7_layBest_43 (by decide) ?_
  obtain ⟨z9, h⟩ := wq_ii h
  refine wq_ald hC aR_4 z9 dX7_layBest_44 ?_
  refine wq_icmp_ge hC dX7_layBest_45 (tgt := 69) (by decide) (fun z10 => ?_) (fun z10 => ?_)
  · have h := wq_ip z10 h
    have h := Option.some.inj h
    subst h
    refine wq_mask [true, false] (lv' := [some (.ref (E.2.1 0)), none]) rfl ?_
    exact K
  · have h := wq_in_ z10 h
    refine wq_aload_n hC dX7_layBest_48 (i := 0) rfl rfl ?_
    refine gf_7 hC oR_0 5 (.ref (E.2.1 4)) (by decide) rfl tw_723 dX7_layBest_49 ?_
    refine wq_bipush hC (v := 36) dX7_layBest_52 (by decide) ?_
    refine wq_iload_n hC dX7_layBest_54 (i := 1) rfl rfl ?_
    refine wq_iadd hC dX7_layBest_55 ?_
    refine wq_aload_n hC dX7_layBest_56 (i := 0) rfl rfl ?_
    refine gf_7 hC oR_0 20 (.ref (E.2.1 10)) (by decide) rfl tw_738 dX7_layBest_57 ?_
    refine wq_iload_n hC dX7_layBest_60 (i := 1) rfl rfl ?_
    obtain ⟨z11, h⟩ := wq_ii h
    refine wq_ald hC aR_10 z11 dX7_layBest_61 ?_
    obtain ⟨z12, h⟩ := wq_ii h
    refine wq_ast hC aR_4 z12 dX7_layBest_62 ?_
    refine wq_iinc hC (v := (s.1 + 1)) dX7_layBest_63 (lv' := [some (.ref (E.2.1 0)), some (.int (s.1 + 1))]) rfl rfl (by decide) rfl ?_
    refine wq_goto hC dX7_layBest_66 (tgt := 38) (by decide) ?_
    have h := Option.some.inj h
    subst h
    exact K
def fX7_layBest  (M : wq_M) : Option (Int32 × wq_M) :=
  (fX7_isThere  (wq_st M 0 0 0)).bind fun r1 => (if r1 = true then
    (fX7_laysBest 4 (-1) (wq_st M 0 0 0)).bind fun r4 => (if r4.1 = 1000000000 then
      some ((-1000000), r4.2)
    else
      (fX7_keep  r4.2).bind fun r7 => (wq_lp (fX7_layBest_L38) wq_FU (0, r7)).bind fun e13 => (fX7_costOf 4 e13).bind fun r15 => some (r15, e13))
  else
    some ((-1000002), (wq_st M 0 0 0)))
set_option maxHeartbeats 4000000 in
set_option maxRecDepth 100000 in
theorem ctX7_layBest {l : Launch} {E : wq_E} {d : Nat} (hd0 : 7 ≤ d)  {M : wq_M} {r : (Int32 × wq_M)}  (h : fX7_layBest M = some r) : wq_ct l E wq_yR yX7_layBest cX7_layBest 2 (some .int) d [.ref (E.2.1 0)] M (some (.int r.1)) r.2 := by
  refine wq_ent (own := "WellPipesModel") (lv0 := [some (.ref (E.2.1 0)), none]) (by decide +kernel) rfl (Nat.le_of_ble_eq_true rfl) rfl (fun g h1 h2 hC => ?_)
  have K : wq_kI g r := ⟨h1, h2⟩
  unfold fX7_layBest at h
  refine wq_aload_n hC dX7_layBest_0 (i := 0) rfl rfl ?_
  refine wq_iconst hC (v := 0) dX7_layBest_1 (by decide) ?_
  refine pf_7_0 hC oR_0 tw_718 dX7_layBest_2 ?_
  refine wq_aload_n hC dX7_layBest_5 (i := 0) rfl rfl ?_
  obtain ⟨r1, hc2, h⟩ := wq_ob h
  refine cv_7 hC (ctX7_isThere (d := d - 1) (by omega)  hc2) (by omega) (by decide) oR_0 rfl rfl npX7_isThere tw_912 tw_914 tw_36 tw_915 (st := []) (Nat.le_of_ble_eq_true rfl) rfl dX7_layBest_6 (st1 := [.int (wq_b r1)]) rfl ?_
  refine wq_bif_ne hC dX7_layBest_9 (tgt := 15) (by decide) (fun z3 => ?_) (fun z3 => ?_)
  · have h := wq_ip z3 h
    refine wq_aload_n hC dX7_layBest_15 (i := 0) rfl rfl ?_
    refine wq_aload_n hC dX7_layBest_16 (i := 0) rfl rfl ?_
    refine gf_7 hC oR_0 5 (.ref (E.2.1 4)) (by decide) rfl tw_723 dX7_layBest_17 ?_
    refine wq_iconst hC (v := (-1)) dX7_layBest_20 (by decide) ?_
    obtain ⟨r4, hc5, h⟩ := wq_ob h
    refine cv_7 hC (ctX7_laysBest (d := d - 1) (by omega) aR_4 hc5) (by omega) (by decide) oR_0 rfl rfl npX7_laysBest tw_916 tw_918 tw_37 tw_919 (st := []) (Nat.le_of_ble_eq_true rfl) rfl dX7_layBest_21 (st1 := [.int r4.1]) rfl ?_
    refine wq_ldc hC (v := 1000000000) tw_927 dX7_layBest_24 ?_
    refine wq_icmp_ne hC dX7_layBest_26 (tgt := 32) (by decide) (fun z6 => ?_) (fun z6 => ?_)
    · have h := wq_in_ z6 h
      refine wq_aload_n hC dX7_layBest_32 (i := 0) rfl rfl ?_
      obtain ⟨r7, hc8, h⟩ := wq_ob h
      refine cv_7 hC (ctX7_keep (d := d - 1) (by omega)  hc8) (by omega) (by decide) oR_0 rfl rfl npX7_keep tw_904 tw_906 tw_35 tw_907 (st := []) (Nat.le_of_ble_eq_true rfl) rfl dX7_layBest_33 (st1 := []) rfl ?_
      refine wq_iconst hC (v := 0) dX7_layBest_36 (by decide) ?_
      refine wq_istore_n hC dX7_layBest_37 (i := 1) (lv' := [some (.ref (E.2.1 0)), some (.int 0)]) rfl (by decide) rfl ?_
      obtain ⟨e13, hl14, h⟩ := wq_ob h
      refine gX7_layBest_L38 hC hd0   wq_FU _ _ hl14 ?_
      refine wq_aload_n hC dX7_layBest_69 (i := 0) rfl rfl ?_
      refine gf_7 hC oR_0 5 (.ref (E.2.1 4)) (by decide) rfl tw_723 dX7_layBest_70 ?_
      obtain ⟨r15, hc16, h⟩ := wq_ob h
      refine wq_callS hC (ctX7_costOf (d := d - 1) (by omega) aR_4 hc16) (by omega) (by decide) rfl npX7_costOf tw_953 tw_954 tw_58 tw_955 (st := []) (Nat.le_of_ble_eq_true rfl) rfl dX7_layBest_73 (st1 := [.int r15]) rfl ?_
      have h := Option.some.inj h
      subst h
      exact wq_iret hC dX7_layBest_76 K.1 K.2
    · have h := wq_ip z6 h
      refine wq_ldc hC (v := (-1000000)) tw_850 dX7_layBest_29 ?_
      have h := Option.some.inj h
      subst h
      exact wq_iret hC dX7_layBest_31 K.1 K.2
  · have h := wq_in_ z3 h
    refine wq_ldc hC (v := (-1000002)) tw_903 dX7_layBest_12 ?_
    have h := Option.some.inj h
    subst h
    exact wq_iret hC dX7_layBest_14 K.1 K.2
theorem npX7_rule : yX7_rule.cls ≠ "java/lang/invoke/MethodHandle" ∧ yX7_rule.cls ≠ "java/lang/invoke/VarHandle" ∧ (parseMethodDescriptor yX7_rule.desc).map (fun d => d.parameters.length) = some 2 := by decide +kernel
def fX7_rule_J107 (x2 : Int32) (y0 : Int32) (M : wq_M) : Option (Int32 × wq_M) :=
  (fX7_keep  M).bind fun r10 => if wq_in y0 44 then if wq_in y0 44 then some ((r10.1 4 y0.toNatClampNeg), (wq_st r10 4 y0.toNatClampNeg x2)) else none else none
set_option maxHeartbeats 4000000 in
set_option maxRecDepth 100000 in
theorem gX7_rule_J107 {g : wq_G} {E : wq_E} {d : Nat} (hC : wq_C g E wq_yR cX7_rule 6 "WellPipesModel" (some .int) d) (hd0 : 1 ≤ d) (x2 : Int32) (y0 : Int32) (M : wq_M)  {x : (Int32 × wq_M)} (h : fX7_rule_J107 x2 y0 M = some x) (K : (wq_kI g) x) : wq_g g E wq_yR 6 107 [some (.ref (E.2.1 0)), none, some (.int x2), none, none, none] [.int y0] M := by
  unfold fX7_rule_J107 at h
  refine wq_istore hC dX7_rule_107 (lv' := [some (.ref (E.2.1 0)), none, some (.int x2), none, some (.int y0), none]) (by decide) rfl ?_
  refine wq_aload_n hC dX7_rule_109 (i := 0) rfl rfl ?_
  obtain ⟨r10, hc11, h⟩ := wq_ob h
  refine cv_7 hC (ctX7_keep (d := d - 1) (by omega)  hc11) (by omega) (by decide) oR_0 rfl rfl npX7_keep tw_904 tw_906 tw_35 tw_907 (st := []) (Nat.le_of_ble_eq_true rfl) rfl dX7_rule_110 (st1 := []) rfl ?_
  refine wq_aload_n hC dX7_rule_113 (i := 0) rfl rfl ?_
  refine gf_7 hC oR_0 5 (.ref (E.2.1 4)) (by decide) rfl tw_723 dX7_rule_114 ?_
  refine wq_iload hC dX7_rule_117 rfl ?_
  obtain ⟨z12, h⟩ := wq_ii h
  refine wq_ald hC aR_4 z12 dX7_rule_119 ?_
  refine wq_istore hC dX7_rule_120 (lv' := [some (.ref (E.2.1 0)), none, some (.int x2), none, some (.int y0), some (.int (r10.1 4 y0.toNatClampNeg))]) (by decide) rfl ?_
  refine wq_aload_n hC dX7_rule_122 (i := 0) rfl rfl ?_
  refine gf_7 hC oR_0 5 (.ref (E.2.1 4)) (by decide) rfl tw_723 dX7_rule_123 ?_
  refine wq_iload hC dX7_rule_126 rfl ?_
  refine wq_iload_n hC dX7_rule_128 (i := 2) rfl rfl ?_
  obtain ⟨z13, h⟩ := wq_ii h
  refine wq_ast hC aR_4 z13 dX7_rule_129 ?_
  refine wq_iload hC dX7_rule_130 rfl ?_
  have h := Option.some.inj h
  subst h
  exact wq_iret hC dX7_rule_132 K.1 K.2
def fX7_rule_J87 (x1 : Int32) (x2 : Int32) (y0 : Int32) (M : wq_M) : Option (Int32 × wq_M) :=
  (if y0 = 0 then
    some ((-1000001), M)
  else
    (if x1 = 3 then
      fX7_rule_J107 x2 1 M
    else
      fX7_rule_J107 x2 (2 + x1) M))
set_option maxHeartbeats 4000000 in
set_option maxRecDepth 100000 in
theorem gX7_rule_J87 {g : wq_G} {E : wq_E} {d : Nat} (hC : wq_C g E wq_yR cX7_rule 6 "WellPipesModel" (some .int) d) (hd0 : 1 ≤ d) (x1 : Int32) (x2 : Int32) (y0 : Int32) (M : wq_M)  {x : (Int32 × wq_M)} (h : fX7_rule_J87 x1 x2 y0 M = some x) (K : (wq_kI g) x) : wq_g g E wq_yR 6 87 [some (.ref (E.2.1 0)), some (.int x1), some (.int x2), none, none, none] [.int y0] M := by
  unfold fX7_rule_J87 at h
  refine wq_istore_n hC dX7_rule_87 (i := 3) (lv' := [some (.ref (E.2.1 0)), some (.int x1), some (.int x2), some (.int y0), none, none]) rfl (by decide) rfl ?_
  refine wq_iload_n hC dX7_rule_88 (i := 3) rfl rfl ?_
  refine wq_if_ne hC dX7_rule_89 (tgt := 95) (by decide) (fun z8 => ?_) (fun z8 => ?_)
  · have h := wq_in_ z8 h
    refine wq_iload_n hC dX7_rule_95 (i := 1) rfl rfl ?_
    refine wq_iconst hC (v := 3) dX7_rule_96 (by decide) ?_
    refine wq_icmp_ne hC dX7_rule_97 (tgt := 104) (by decide) (fun z9 => ?_) (fun z9 => ?_)
    · have h := wq_in_ z9 h
      refine wq_iconst hC (v := 2) dX7_rule_104 (by decide) ?_
      refine wq_iload_n hC dX7_rule_105 (i := 1) rfl rfl ?_
      refine wq_iadd hC dX7_rule_106 ?_
      refine wq_mask [true, false, true, false, false, false] (lv' := [some (.ref (E.2.1 0)), none, some (.int x2), none, none, none]) rfl ?_
      exact gX7_rule_J107 hC hd0 x2 (2 + x1) M  h K
    · have h := wq_ip z9 h
      refine wq_iconst hC (v := 1) dX7_rule_100 (by decide) ?_
      refine wq_goto hC dX7_rule_101 (tgt := 107) (by decide) ?_
      refine wq_mask [true, false, true, false, false, false] (lv' := [some (.ref (E.2.1 0)), none, some (.int x2), none, none, none]) rfl ?_
      exact gX7_rule_J107 hC hd0 x2 1 M  h K
  · have h := wq_ip z8 h
    refine wq_ldc hC (v := (-1000001)) tw_810 dX7_rule_92 ?_
    have h := Option.some.inj h
    subst h
    exact wq_iret hC dX7_rule_94 K.1 K.2
def fX7_rule_J86 (x1 : Int32) (x2 : Int32) (M : wq_M) : Option (Int32 × wq_M) :=
  fX7_rule_J87 x1 x2 0 M
set_option maxHeartbeats 4000000 in
set_option maxRecDepth 100000 in
theorem gX7_rule_J86 {g : wq_G} {E : wq_E} {d : Nat} (hC : wq_C g E wq_yR cX7_rule 6 "WellPipesModel" (some .int) d) (hd0 : 1 ≤ d) (x1 : Int32) (x2 : Int32) (M : wq_M)  {x : (Int32 × wq_M)} (h : fX7_rule_J86 x1 x2 M = some x) (K : (wq_kI g) x) : wq_g g E wq_yR 6 86 [some (.ref (E.2.1 0)), some (.int x1), some (.int x2), none, none, none] [] M := by
  unfold fX7_rule_J86 at h
  refine wq_iconst hC (v := 0) dX7_rule_86 (by decide) ?_
  exact gX7_rule_J87 hC hd0 x1 x2 0 M  h K
def fX7_rule_J82 (x1 : Int32) (x2 : Int32) (M : wq_M) : Option (Int32 × wq_M) :=
  fX7_rule_J87 x1 x2 1 M
set_option maxHeartbeats 4000000 in
set_option maxRecDepth 100000 in
theorem gX7_rule_J82 {g : wq_G} {E : wq_E} {d : Nat} (hC : wq_C g E wq_yR cX7_rule 6 "WellPipesModel" (some .int) d) (hd0 : 1 ≤ d) (x1 : Int32) (x2 : Int32) (M : wq_M)  {x : (Int32 × wq_M)} (h : fX7_rule_J82 x1 x2 M = some x) (K : (wq_kI g) x) : wq_g g E wq_yR 6 82 [some (.ref (E.2.1 0)), some (.int x1), some (.int x2), none, none, none] [] M := by
  unfold fX7_rule_J82 at h
  refine wq_iconst hC (v := 1) dX7_rule_82 (by decide) ?_
  refine wq_goto hC dX7_rule_83 (tgt := 87) (by decide) ?_
  exact gX7_rule_J87 hC hd0 x1 x2 1 M  h K
def fX7_rule_J65 (x1 : Int32) (x2 : Int32) (M : wq_M) : Option (Int32 × wq_M) :=
  (if x1 = 3 then
    (fX7_in x2.toInt64 (1 : Int64) (3 : Int64) M).bind fun r14 => (if r14 = true then
      fX7_rule_J82 x1 x2 M
    else
      fX7_rule_J86 x1 x2 M)
  else
    fX7_rule_J86 x1 x2 M)
set_option maxHeartbeats 4000000 in
set_option maxRecDepth 100000 in
theorem gX7_rule_J65 {g : wq_G} {E : wq_E} {d : Nat} (hC : wq_C g E wq_yR cX7_rule 6 "WellPipesModel" (some .int) d) (hd0 : 1 ≤ d) (x1 : Int32) (x2 : Int32) (M : wq_M)  {x : (Int32 × wq_M)} (h : fX7_rule_J65 x1 x2 M = some x) (K : (wq_kI g) x) : wq_g g E wq_yR 6 65 [some (.ref (E.2.1 0)), some (.int x1), some (.int x2), none, none, none] [] M := by
  unfold fX7_rule_J65 at h
  refine wq_iload_n hC dX7_rule_65 (i := 1) rfl rfl ?_
  refine wq_iconst hC (v := 3) dX7_rule_66 (by decide) ?_
  refine wq_icmp_ne hC dX7_rule_67 (tgt := 86) (by decide) (fun z7 => ?_) (fun z7 => ?_)
  · have h := wq_in_ z7 h
    exact gX7_rule_J86 hC hd0 x1 x2 M  h K
  · have h := wq_ip z7 h
    refine wq_iload_n hC dX7_rule_70 (i := 2) rfl rfl ?_
    refine wq_i2l hC dX7_rule_71 ?_
    refine wq_lconst hC (v := 1) dX7_rule_72 (by decide) ?_
    refine wq_ldc2 hC (v := (3 : Int64)) tw_962 dX7_rule_73 ?_
    obtain ⟨r14, hc15, h⟩ := wq_ob h
    refine wq_callS hC (ctX7_in (d := d - 1) (by omega)  hc15) (by omega) (by decide) rfl npX7_in tw_806 tw_807 tw_58 tw_808 (st := []) (Nat.le_of_ble_eq_true rfl) rfl dX7_rule_76 (st1 := [.int (wq_b r14)]) rfl ?_
    refine wq_bif_eq hC dX7_rule_79 (tgt := 86) (by decide) (fun z16 => ?_) (fun z16 => ?_)
    · have h := wq_in_ z16 h
      exact gX7_rule_J86 hC hd0 x1 x2 M  h K
    · have h := wq_ip z16 h
      exact gX7_rule_J82 hC hd0 x1 x2 M  h K
def fX7_rule_J48 (x1 : Int32) (x2 : Int32) (M : wq_M) : Option (Int32 × wq_M) :=
  (if x1 = 2 then
    (fX7_in x2.toInt64 (0 : Int64) (20 : Int64) M).bind fun r17 => (if r17 = true then
      fX7_rule_J82 x1 x2 M
    else
      fX7_rule_J65 x1 x2 M)
  else
    fX7_rule_J65 x1 x2 M)
set_option maxHeartbeats 4000000 in
set_option maxRecDepth 100000 in
theorem gX7_rule_J48 {g : wq_G} {E : wq_E} {d : Nat} (hC : wq_C g E wq_yR cX7_rule 6 "WellPipesModel" (some .int) d) (hd0 : 1 ≤ d) (x1 : Int32) (x2 : Int32) (M : wq_M)  {x : (Int32 × wq_M)} (h : fX7_rule_J48 x1 x2 M = some x) (K : (wq_kI g) x) : wq_g g E wq_yR 6 48 [some (.ref (E.2.1 0)), some (.int x1), some (.int x2), none, none, none] [] M := by
  unfold fX7_rule_J48 at h
  refine wq_iload_n hC dX7_rule_48 (i := 1) rfl rfl ?_
  refine wq_iconst hC (v := 2) dX7_rule_49 (by decide) ?_
  refine wq_icmp_ne hC dX7_rule_50 (tgt := 65) (by decide) (fun z6 => ?_) (fun z6 => ?_)
  · have h := wq_in_ z6 h
    exact gX7_rule_J65 hC hd0 x1 x2 M  h K
  · have h := wq_ip z6 h
    refine wq_iload_n hC dX7_rule_53 (i := 2) rfl rfl ?_
    refine wq_i2l hC dX7_rule_54 ?_
    refine wq_lconst hC (v := 0) dX7_rule_55 (by decide) ?_
    refine wq_ldc2 hC (v := (20 : Int64)) tw_960 dX7_rule_56 ?_
    obtain ⟨r17, hc18, h⟩ := wq_ob h
    refine wq_callS hC (ctX7_in (d := d - 1) (by omega)  hc18) (by omega) (by decide) rfl npX7_in tw_806 tw_807 tw_58 tw_808 (st := []) (Nat.le_of_ble_eq_true rfl) rfl dX7_rule_59 (st1 := [.int (wq_b r17)]) rfl ?_
    refine wq_bif_ne hC dX7_rule_62 (tgt := 82) (by decide) (fun z19 => ?_) (fun z19 => ?_)
    · have h := wq_ip z19 h
      exact gX7_rule_J82 hC hd0 x1 x2 M  h K
    · have h := wq_in_ z19 h
      exact gX7_rule_J65 hC hd0 x1 x2 M  h K
def fX7_rule_J31 (x1 : Int32) (x2 : Int32) (M : wq_M) : Option (Int32 × wq_M) :=
  (if x1 = 1 then
    (fX7_in x2.toInt64 (0 : Int64) (99 : Int64) M).bind fun r20 => (if r20 = true then
      fX7_rule_J82 x1 x2 M
    else
      fX7_rule_J48 x1 x2 M)
  else
    fX7_rule_J48 x1 x2 M)
set_option maxHeartbeats 4000000 in
set_option maxRecDepth 100000 in
theorem gX7_rule_J31 {g : wq_G} {E : wq_E} {d : Nat} (hC : wq_C g E wq_yR cX7_rule 6 "WellPipesModel" (some .int) d) (hd0 : 1 ≤ d) (x1 : Int32) (x2 : Int32) (M : wq_M)  {x : (Int32 × wq_M)} (h : fX7_rule_J31 x1 x2 M = some x) (K : (wq_kI g) x) : wq_g g E wq_yR 6 31 [some (.ref (E.2.1 0)), some (.int x1), some (.int x2), none, none, none] [] M := by
  unfold fX7_rule_J31 at h
  refine wq_iload_n hC dX7_rule_31 (i := 1) rfl rfl ?_
  refine wq_iconst hC (v := 1) dX7_rule_32 (by decide) ?_
  refine wq_icmp_ne hC dX7_rule_33 (tgt := 48) (by decide) (fun z5 => ?_) (fun z5 => ?_)
  · have h := wq_in_ z5 h
    exact gX7_rule_J48 hC hd0 x1 x2 M  h K
  · have h := wq_ip z5 h
    refine wq_iload_n hC dX7_rule_36 (i := 2) rfl rfl ?_
    refine wq_i2l hC dX7_rule_37 ?_
    refine wq_lconst hC (v := 0) dX7_rule_38 (by decide) ?_
    refine wq_ldc2 hC (v := (99 : Int64)) tw_961 dX7_rule_39 ?_
    obtain ⟨r20, hc21, h⟩ := wq_ob h
    refine wq_callS hC (ctX7_in (d := d - 1) (by omega)  hc21) (by omega) (by decide) rfl npX7_in tw_806 tw_807 tw_58 tw_808 (st := []) (Nat.le_of_ble_eq_true rfl) rfl dX7_rule_42 (st1 := [.int (wq_b r20)]) rfl ?_
    refine wq_bif_ne hC dX7_rule_45 (tgt := 82) (by decide) (fun z22 => ?_) (fun z22 => ?_)
    · have h := wq_ip z22 h
      exact gX7_rule_J82 hC hd0 x1 x2 M  h K
    · have h := wq_in_ z22 h
      exact gX7_rule_J48 hC hd0 x1 x2 M  h K
def fX7_rule (x1 : Int32) (x2 : Int32) (M : wq_M) : Option (Int32 × wq_M) :=
  (fX7_isThere  (wq_st M 0 0 0)).bind fun r1 => (if r1 = true then
    (if x1 = 0 then
      (fX7_in x2.toInt64 (0 : Int64) (20 : Int64) (wq_st M 0 0 0)).bind fun r23 => (if r23 = true then
        fX7_rule_J82 x1 x2 (wq_st M 0 0 0)
      else
        fX7_rule_J31 x1 x2 (wq_st M 0 0 0))
    else
      fX7_rule_J31 x1 x2 (wq_st M 0 0 0))
  else
    some ((-1000002), (wq_st M 0 0 0)))
set_option maxHeartbeats 4000000 in
set_option maxRecDepth 100000 in
theorem ctX7_rule {l : Launch} {E : wq_E} {d : Nat} (hd0 : 1 ≤ d) {x1 : Int32} {x2 : Int32} {M : wq_M} {r : (Int32 × wq_M)}  (h : fX7_rule x1 x2 M = some r) : wq_ct l E wq_yR yX7_rule cX7_rule 6 (some .int) d [.ref (E.2.1 0), .int x1, .int x2] M (some (.int r.1)) r.2 := by
  refine wq_ent (own := "WellPipesModel") (lv0 := [some (.ref (E.2.1 0)), some (.int x1), some (.int x2), none, none, none]) (by decide +kernel) rfl (Nat.le_of_ble_eq_true rfl) rfl (fun g h1 h2 hC => ?_)
  have K : wq_kI g r := ⟨h1, h2⟩
  unfold fX7_rule at h
  refine wq_aload_n hC dX7_rule_0 (i := 0) rfl rfl ?_
  refine wq_iconst hC (v := 0) dX7_rule_1 (by decide) ?_
  refine pf_7_0 hC oR_0 tw_718 dX7_rule_2 ?_
  refine wq_aload_n hC dX7_rule_5 (i := 0) rfl rfl ?_
  obtain ⟨r1, hc2, h⟩ := wq_ob h
  refine cv_7 hC (ctX7_isThere (d := d - 1) (by omega)  hc2) (by omega) (by decide) oR_0 rfl rfl npX7_isThere tw_912 tw_914 tw_36 tw_915 (st := []) (Nat.le_of_ble_eq_true rfl) rfl dX7_rule_6 (st1 := [.int (wq_b r1)]) rfl ?_
  refine wq_bif_ne hC dX7_rule_9 (tgt := 15) (by decide) (fun z3 => ?_) (fun z3 => ?_)
  · have h := wq_ip z3 h
    refine wq_iload_n hC dX7_rule_15 (i := 1) rfl rfl ?_
    refine wq_if_ne hC dX7_rule_16 (tgt := 31) (by decide) (fun z4 => ?_) (fun z4 => ?_)
    · have h := wq_in_ z4 h
      exact gX7_rule_J31 hC hd0 x1 x2 (wq_st M 0 0 0)  h K
    · have h := wq_ip z4 h
      refine wq_iload_n hC dX7_rule_19 (i := 2) rfl rfl ?_
      refine wq_i2l hC dX7_rule_20 ?_
      refine wq_lconst hC (v := 0) dX7_rule_21 (by decide) ?_
      refine wq_ldc2 hC (v := (20 : Int64)) tw_960 dX7_rule_22 ?_
      obtain ⟨r23, hc24, h⟩ := wq_ob h
      refine wq_callS hC (ctX7_in (d := d - 1) (by omega)  hc24) (by omega) (by decide) rfl npX7_in tw_806 tw_807 tw_58 tw_808 (st := []) (Nat.le_of_ble_eq_true rfl) rfl dX7_rule_25 (st1 := [.int (wq_b r23)]) rfl ?_
      refine wq_bif_ne hC dX7_rule_28 (tgt := 82) (by decide) (fun z25 => ?_) (fun z25 => ?_)
      · have h := wq_ip z25 h
        exact gX7_rule_J82 hC hd0 x1 x2 (wq_st M 0 0 0)  h K
      · have h := wq_in_ z25 h
        exact gX7_rule_J31 hC hd0 x1 x2 (wq_st M 0 0 0)  h K
  · have h := wq_in_ z3 h
    refine wq_ldc hC (v := (-1000002)) tw_903 dX7_rule_12 ?_
    have h := Option.some.inj h
    subst h
    exact wq_iret hC dX7_rule_14 K.1 K.2
theorem npX7_price : yX7_price.cls ≠ "java/lang/invoke/MethodHandle" ∧ yX7_price.cls ≠ "java/lang/invoke/VarHandle" ∧ (parseMethodDescriptor yX7_price.desc).map (fun d => d.parameters.length) = some 2 := by decide +kernel
def fX7_price (x1 : Int32) (x2 : Int32) (M : wq_M) : Option (Int32 × wq_M) :=
  (fX7_isGrade x1 (wq_st M 0 0 0)).bind fun r1 => (if r1 = true then
    (fX7_in x2.toInt64 (1 : Int64) (99 : Int64) (wq_st M 0 0 0)).bind fun r4 => (if r4 = true then
      (fX7_keep  (wq_st M 0 0 0)).bind fun r7 => (fX7_of 4 x1 5 r7).bind fun r9 => if wq_in ((6 + (6 * x1)) + 5) 44 then some (r9, (wq_st r7 4 ((6 + (6 * x1)) + 5).toNatClampNeg x2)) else none
    else
      some ((-1000001), (wq_st M 0 0 0)))
  else
    some ((-1000001), (wq_st M 0 0 0)))
set_option maxHeartbeats 4000000 in
set_option maxRecDepth 100000 in
theorem ctX7_price {l : Launch} {E : wq_E} {d : Nat} (hd0 : 2 ≤ d) {x1 : Int32} {x2 : Int32} {M : wq_M} {r : (Int32 × wq_M)}  (h : fX7_price x1 x2 M = some r) : wq_ct l E wq_yR yX7_price cX7_price 4 (some .int) d [.ref (E.2.1 0), .int x1, .int x2] M (some (.int r.1)) r.2 := by
  refine wq_ent (own := "WellPipesModel") (lv0 := [some (.ref (E.2.1 0)), some (.int x1), some (.int x2), none]) (by decide +kernel) rfl (Nat.le_of_ble_eq_true rfl) rfl (fun g h1 h2 hC => ?_)
  have K : wq_kI g r := ⟨h1, h2⟩
  unfold fX7_price at h
  refine wq_aload_n hC dX7_price_0 (i := 0) rfl rfl ?_
  refine wq_iconst hC (v := 0) dX7_price_1 (by decide) ?_
  refine pf_7_0 hC oR_0 tw_718 dX7_price_2 ?_
  refine wq_aload_n hC dX7_price_5 (i := 0) rfl rfl ?_
  refine wq_iload_n hC dX7_price_6 (i := 1) rfl rfl ?_
  obtain ⟨r1, hc2, h⟩ := wq_ob h
  refine cv_7 hC (ctX7_isGrade (d := d - 1) (by omega)  hc2) (by omega) (by decide) oR_0 rfl rfl npX7_isGrade tw_899 tw_901 tw_34 tw_902 (st := []) (Nat.le_of_ble_eq_true rfl) rfl dX7_price_7 (st1 := [.int (wq_b r1)]) rfl ?_
  refine wq_bif_eq hC dX7_price_10 (tgt := 25) (by decide) (fun z3 => ?_) (fun z3 => ?_)
  · have h := wq_in_ z3 h
    refine wq_ldc hC (v := (-1000001)) tw_810 dX7_price_25 ?_
    have h := Option.some.inj h
    subst h
    exact wq_iret hC dX7_price_27 K.1 K.2
  · have h := wq_ip z3 h
    refine wq_iload_n hC dX7_price_13 (i := 2) rfl rfl ?_
    refine wq_i2l hC dX7_price_14 ?_
    refine wq_lconst hC (v := 1) dX7_price_15 (by decide) ?_
    refine wq_ldc2 hC (v := (99 : Int64)) tw_961 dX7_price_16 ?_
    obtain ⟨r4, hc5, h⟩ := wq_ob h
    refine wq_callS hC (ctX7_in (d := d - 1) (by omega)  hc5) (by omega) (by decide) rfl npX7_in tw_806 tw_807 tw_58 tw_808 (st := []) (Nat.le_of_ble_eq_true rfl) rfl dX7_price_19 (st1 := [.int (wq_b r4)]) rfl ?_
    refine wq_bif_ne hC dX7_price_22 (tgt := 28) (by decide) (fun z6 => ?_) (fun z6 => ?_)
    · have h := wq_ip z6 h
      refine wq_aload_n hC dX7_price_28 (i := 0) rfl rfl ?_
      obtain ⟨r7, hc8, h⟩ := wq_ob h
      refine cv_7 hC (ctX7_keep (d := d - 1) (by omega)  hc8) (by omega) (by decide) oR_0 rfl rfl npX7_keep tw_904 tw_906 tw_35 tw_907 (st := []) (Nat.le_of_ble_eq_true rfl) rfl dX7_price_29 (st1 := []) rfl ?_
      refine wq_aload_n hC dX7_price_32 (i := 0) rfl rfl ?_
      refine gf_7 hC oR_0 5 (.ref (E.2.1 4)) (by decide) rfl tw_723 dX7_price_33 ?_
      refine wq_iload_n hC dX7_price_36 (i := 1) rfl rfl ?_
      refine wq_iconst hC (v := 5) dX7_price_37 (by decide) ?_
      obtain ⟨r9, hc10, h⟩ := wq_ob h
      refine wq_callS hC (ctX7_of (d := d - 1) (by omega) aR_4 hc10) (by omega) (by decide) rfl npX7_of tw_932 tw_933 tw_58 tw_934 (st := []) (Nat.le_of_ble_eq_true rfl) rfl dX7_price_38 (st1 := [.int r9]) rfl ?_
      refine wq_istore_n hC dX7_price_41 (i := 3) (lv' := [some (.ref (E.2.1 0)), some (.int x1), some (.int x2), some (.int r9)]) rfl (by decide) rfl ?_
      refine wq_aload_n hC dX7_price_42 (i := 0) rfl rfl ?_
      refine gf_7 hC oR_0 5 (.ref (E.2.1 4)) (by decide) rfl tw_723 dX7_price_43 ?_
      refine wq_bipush hC (v := 6) dX7_price_46 (by decide) ?_
      refine wq_bipush hC (v := 6) dX7_price_48 (by decide) ?_
      refine wq_iload_n hC dX7_price_50 (i := 1) rfl rfl ?_
      refine wq_imul hC dX7_price_51 ?_
      refine wq_iadd hC dX7_price_52 ?_
      refine wq_iconst hC (v := 5) dX7_price_53 (by decide) ?_
      refine wq_iadd hC dX7_price_54 ?_
      refine wq_iload_n hC dX7_price_55 (i := 2) rfl rfl ?_
      obtain ⟨z11, h⟩ := wq_ii h
      refine wq_ast hC aR_4 z11 dX7_price_56 ?_
      refine wq_iload_n hC dX7_price_57 (i := 3) rfl rfl ?_
      have h := Option.some.inj h
      subst h
      exact wq_iret hC dX7_price_58 K.1 K.2
    · have h := wq_in_ z6 h
      refine wq_ldc hC (v := (-1000001)) tw_810 dX7_price_25 ?_
      have h := Option.some.inj h
      subst h
      exact wq_iret hC dX7_price_27 K.1 K.2
theorem npX7_undo : yX7_undo.cls ≠ "java/lang/invoke/MethodHandle" ∧ yX7_undo.cls ≠ "java/lang/invoke/VarHandle" ∧ (parseMethodDescriptor yX7_undo.desc).map (fun d => d.parameters.length) = some 0 := by decide +kernel
def fX7_undo_L27  : (Int32 × wq_M) → Option ((Int32 × wq_M) ⊕ wq_M) := fun s =>
  (if 44 ≤ s.1 then
    some (.inr s.2)
  else
    if wq_in ((44 * (s.2.1 0 9)) + s.1) 1056 then if wq_in s.1 44 then some (.inl ((s.1 + 1), (wq_st s.2 4 s.1.toNatClampNeg (s.2.1 7 ((44 * (s.2.1 0 9)) + s.1).toNatClampNeg)))) else none else none)
set_option maxHeartbeats 4000000 in
set_option maxRecDepth 100000 in
theorem gX7_undo_L27 {g : wq_G} {E : wq_E} {d : Nat} (hC : wq_C g E wq_yR cX7_undo 2 "WellPipesModel" (some .int) d) (hd0 : 0 ≤ d)   : ∀ (n : Nat) (s : (Int32 × wq_M)) (e : wq_M), wq_lp (fX7_undo_L27) n s = some e → (fun (e : wq_M) => wq_g g E wq_yR 2 59 [some (.ref (E.2.1 0)), none] [] e) e → wq_g g E wq_yR 2 27 [some (.ref (E.2.1 0)), some (.int s.1)] [] s.2 := by
  refine wq_lq_ok (fun (s : (Int32 × wq_M)) => wq_g g E wq_yR 2 27 [some (.ref (E.2.1 0)), some (.int s.1)] [] s.2) (fun (e : wq_M) => wq_g g E wq_yR 2 59 [some (.ref (E.2.1 0)), none] [] e) (fun s x h K => ?_)
  unfold fX7_undo_L27 at h
  refine wq_iload_n hC dX7_undo_27 (i := 1) rfl rfl ?_
  refine wq_bipush hC (v := 44) dX7_undo_28 (by decide) ?_
  refine wq_icmp_ge hC dX7_undo_30 (tgt := 59) (by decide) (fun z2 => ?_) (fun z2 => ?_)
  · have h := wq_ip z2 h
    have h := Option.some.inj h
    subst h
    refine wq_mask [true, false] (lv' := [some (.ref (E.2.1 0)), none]) rfl ?_
    exact K
  · have h := wq_in_ z2 h
    refine wq_aload_n hC dX7_undo_33 (i := 0) rfl rfl ?_
    refine gf_7 hC oR_0 5 (.ref (E.2.1 4)) (by decide) rfl tw_723 dX7_undo_34 ?_
    refine wq_iload_n hC dX7_undo_37 (i := 1) rfl rfl ?_
    refine wq_aload_n hC dX7_undo_38 (i := 0) rfl rfl ?_
    refine gf_7 hC oR_0 8 (.ref (E.2.1 7)) (by decide) rfl tw_726 dX7_undo_39 ?_
    refine wq_bipush hC (v := 44) dX7_undo_42 (by decide) ?_
    refine wq_aload_n hC dX7_undo_44 (i := 0) rfl rfl ?_
    refine gf_7 hC oR_0 9 (.int (s.2.1 0 9)) (by decide) rfl tw_727 dX7_undo_45 ?_
    refine wq_imul hC dX7_undo_48 ?_
    refine wq_iload_n hC dX7_undo_49 (i := 1) rfl rfl ?_
    refine wq_iadd hC dX7_undo_50 ?_
    obtain ⟨z3, h⟩ := wq_ii h
    refine wq_ald hC aR_7 z3 dX7_undo_51 ?_
    obtain ⟨z4, h⟩ := wq_ii h
    refine wq_ast hC aR_4 z4 dX7_undo_52 ?_
    refine wq_iinc hC (v := (s.1 + 1)) dX7_undo_53 (lv' := [some (.ref (E.2.1 0)), some (.int (s.1 + 1))]) rfl rfl (by decide) rfl ?_
    refine wq_goto hC dX7_undo_56 (tgt := 27) (by decide) ?_
    have h := Option.some.inj h
    subst h
    exact K
def fX7_undo  (M : wq_M) : Option (Int32 × wq_M) :=
  (if ((wq_st M 0 0 0).1 0 9) = 0 then
    some ((-1000002), (wq_st M 0 0 0))
  else
    (wq_lp (fX7_undo_L27) wq_FU (0, (wq_st (wq_st M 0 0 0) 0 9 (((wq_st M 0 0 0).1 0 9) - 1)))).bind fun e5 => some ((e5.1 0 9), e5))
set_option maxHeartbeats 4000000 in
set_option maxRecDepth 100000 in
theorem ctX7_undo {l : Launch} {E : wq_E} {d : Nat} (hd0 : 0 ≤ d)  {M : wq_M} {r : (Int32 × wq_M)}  (h : fX7_undo M = some r) : wq_ct l E wq_yR yX7_undo cX7_undo 2 (some .int) d [.ref (E.2.1 0)] M (some (.int r.1)) r.2 := by
  refine wq_ent (own := "WellPipesModel") (lv0 := [some (.ref (E.2.1 0)), none]) (by decide +kernel) rfl (Nat.le_of_ble_eq_true rfl) rfl (fun g h1 h2 hC => ?_)
  have K : wq_kI g r := ⟨h1, h2⟩
  unfold fX7_undo at h
  refine wq_aload_n hC dX7_undo_0 (i := 0) rfl rfl ?_
  refine wq_iconst hC (v := 0) dX7_undo_1 (by decide) ?_
  refine pf_7_0 hC oR_0 tw_718 dX7_undo_2 ?_
  refine wq_aload_n hC dX7_undo_5 (i := 0) rfl rfl ?_
  refine gf_7 hC oR_0 9 (.int ((wq_st M 0 0 0).1 0 9)) (by decide) rfl tw_727 dX7_undo_6 ?_
  refine wq_if_ne hC dX7_undo_9 (tgt := 15) (by decide) (fun z1 => ?_) (fun z1 => ?_)
  · have h := wq_in_ z1 h
    refine wq_aload_n hC dX7_undo_15 (i := 0) rfl rfl ?_
    refine wq_dup hC dX7_undo_16 rfl ?_
    refine gf_7 hC oR_0 9 (.int ((wq_st M 0 0 0).1 0 9)) (by decide) rfl tw_727 dX7_undo_17 ?_
    refine wq_iconst hC (v := 1) dX7_undo_20 (by decide) ?_
    refine wq_isub hC dX7_undo_21 ?_
    refine pf_7_9 hC oR_0 tw_727 dX7_undo_22 ?_
    refine wq_iconst hC (v := 0) dX7_undo_25 (by decide) ?_
    refine wq_istore_n hC dX7_undo_26 (i := 1) (lv' := [some (.ref (E.2.1 0)), some (.int 0)]) rfl (by decide) rfl ?_
    obtain ⟨e5, hl6, h⟩ := wq_ob h
    refine gX7_undo_L27 hC hd0   wq_FU _ _ hl6 ?_
    refine wq_aload_n hC dX7_undo_59 (i := 0) rfl rfl ?_
    refine gf_7 hC oR_0 9 (.int (e5.1 0 9)) (by decide) rfl tw_727 dX7_undo_60 ?_
    have h := Option.some.inj h
    subst h
    exact wq_iret hC dX7_undo_63 K.1 K.2
  · have h := wq_ip z1 h
    refine wq_ldc hC (v := (-1000002)) tw_903 dX7_undo_12 ?_
    have h := Option.some.inj h
    subst h
    exact wq_iret hC dX7_undo_14 K.1 K.2
theorem npX7_grade : yX7_grade.cls ≠ "java/lang/invoke/MethodHandle" ∧ yX7_grade.cls ≠ "java/lang/invoke/VarHandle" ∧ (parseMethodDescriptor yX7_grade.desc).map (fun d => d.parameters.length) = some 2 := by decide +kernel
def fX7_grade (x1 : Int32) (x2 : Int32) (M : wq_M) : Option (Int32 × wq_M) :=
  (fX7_isGrade x1 (wq_st M 0 0 0)).bind fun r1 => (if r1 = true then
    (fX7_in x2.toInt64 (0 : Int64) (4 : Int64) (wq_st M 0 0 0)).bind fun r4 => (if r4 = true then
      (fX7_of 4 x1 (1 + x2) (wq_st M 0 0 0)).bind fun r7 => some (r7, (wq_st M 0 0 0))
    else
      some ((-1000001), (wq_st M 0 0 0)))
  else
    some ((-1000001), (wq_st M 0 0 0)))
set_option maxHeartbeats 4000000 in
set_option maxRecDepth 100000 in
theorem ctX7_grade {l : Launch} {E : wq_E} {d : Nat} (hd0 : 2 ≤ d) {x1 : Int32} {x2 : Int32} {M : wq_M} {r : (Int32 × wq_M)}  (h : fX7_grade x1 x2 M = some r) : wq_ct l E wq_yR yX7_grade cX7_grade 3 (some .int) d [.ref (E.2.1 0), .int x1, .int x2] M (some (.int r.1)) r.2 := by
  refine wq_ent (own := "WellPipesModel") (lv0 := [some (.ref (E.2.1 0)), some (.int x1), some (.int x2)]) (by decide +kernel) rfl (Nat.le_of_ble_eq_true rfl) rfl (fun g h1 h2 hC => ?_)
  have K : wq_kI g r := ⟨h1, h2⟩
  unfold fX7_grade at h
  refine wq_aload_n hC dX7_grade_0 (i := 0) rfl rfl ?_
  refine wq_iconst hC (v := 0) dX7_grade_1 (by decide) ?_
  refine pf_7_0 hC oR_0 tw_718 dX7_grade_2 ?_
  refine wq_aload_n hC dX7_grade_5 (i := 0) rfl rfl ?_
  refine wq_iload_n hC dX7_grade_6 (i := 1) rfl rfl ?_
  obtain ⟨r1, hc2, h⟩ := wq_ob h
  refine cv_7 hC (ctX7_isGrade (d := d - 1) (by omega)  hc2) (by omega) (by decide) oR_0 rfl rfl npX7_isGrade tw_899 tw_901 tw_34 tw_902 (st := []) (Nat.le_of_ble_eq_true rfl) rfl dX7_grade_7 (st1 := [.int (wq_b r1)]) rfl ?_
  refine wq_bif_eq hC dX7_grade_10 (tgt := 39) (by decide) (fun z3 => ?_) (fun z3 => ?_)
  · have h := wq_in_ z3 h
    refine wq_ldc hC (v := (-1000001)) tw_810 dX7_grade_39 ?_
    have h := Option.some.inj h
    subst h
    exact wq_iret hC dX7_grade_41 K.1 K.2
  · have h := wq_ip z3 h
    refine wq_iload_n hC dX7_grade_13 (i := 2) rfl rfl ?_
    refine wq_i2l hC dX7_grade_14 ?_
    refine wq_lconst hC (v := 0) dX7_grade_15 (by decide) ?_
    refine wq_ldc2 hC (v := (4 : Int64)) tw_975 dX7_grade_16 ?_
    obtain ⟨r4, hc5, h⟩ := wq_ob h
    refine wq_callS hC (ctX7_in (d := d - 1) (by omega)  hc5) (by omega) (by decide) rfl npX7_in tw_806 tw_807 tw_58 tw_808 (st := []) (Nat.le_of_ble_eq_true rfl) rfl dX7_grade_19 (st1 := [.int (wq_b r4)]) rfl ?_
    refine wq_bif_eq hC dX7_grade_22 (tgt := 39) (by decide) (fun z6 => ?_) (fun z6 => ?_)
    · have h := wq_in_ z6 h
      refine wq_ldc hC (v := (-1000001)) tw_810 dX7_grade_39 ?_
      have h := Option.some.inj h
      subst h
      exact wq_iret hC dX7_grade_41 K.1 K.2
    · have h := wq_ip z6 h
      refine wq_aload_n hC dX7_grade_25 (i := 0) rfl rfl ?_
      refine gf_7 hC oR_0 5 (.ref (E.2.1 4)) (by decide) rfl tw_723 dX7_grade_26 ?_
      refine wq_iload_n hC dX7_grade_29 (i := 1) rfl rfl ?_
      refine wq_iconst hC (v := 1) dX7_grade_30 (by decide) ?_
      refine wq_iload_n hC dX7_grade_31 (i := 2) rfl rfl ?_
      refine wq_iadd hC dX7_grade_32 ?_
      obtain ⟨r7, hc8, h⟩ := wq_ob h
      refine wq_callS hC (ctX7_of (d := d - 1) (by omega) aR_4 hc8) (by omega) (by decide) rfl npX7_of tw_932 tw_933 tw_58 tw_934 (st := []) (Nat.le_of_ble_eq_true rfl) rfl dX7_grade_33 (st1 := [.int r7]) rfl ?_
      refine wq_goto hC dX7_grade_36 (tgt := 41) (by decide) ?_
      have h := Option.some.inj h
      subst h
      exact wq_iret hC dX7_grade_41 K.1 K.2
theorem npX7_step : yX7_step.cls ≠ "java/lang/invoke/MethodHandle" ∧ yX7_step.cls ≠ "java/lang/invoke/VarHandle" ∧ (parseMethodDescriptor yX7_step.desc).map (fun d => d.parameters.length) = some 2 := by decide +kernel
def fX7_step (x1 : Int32) (x2 : Int32) (M : wq_M) : Option (Int32 × wq_M) :=
  (fX7_isStep x1 (wq_st M 0 0 0)).bind fun r1 => (if r1 = true then
    (if x2 = 0 then if wq_in (36 + x1) 44 then some (((wq_st M 0 0 0).1 4 (36 + x1).toNatClampNeg), (wq_st M 0 0 0)) else none else if x2 = 1 then (fX7_burstLoad 4 x1 (wq_st M 0 0 0)).bind fun r7 => some (r7, (wq_st M 0 0 0)) else if x2 = 2 then (fX7_crushLoad 4 x1 (wq_st M 0 0 0)).bind fun r10 => some (r10, (wq_st M 0 0 0)) else if x2 = 3 then if wq_in (36 + x1) 44 then (if 0 ≤ ((wq_st M 0 0 0).1 4 (36 + x1).toNatClampNeg) then
              (fX7_hangs 4 x1 (wq_st M 0 0 0)).bind fun r15 => some (r15, (wq_st M 0 0 0))
            else
              some (0, (wq_st M 0 0 0))) else none else if x2 = 4 then (fX7_holds 4 x1 (wq_st M 0 0 0)).bind fun r18 => (if r18 = true then
                some (1, (wq_st M 0 0 0))
              else
                some (0, (wq_st M 0 0 0))) else if x2 = 5 then (fX7_sectionOf 4 x1 (wq_st M 0 0 0)).bind fun r22 => some (r22, (wq_st M 0 0 0)) else some ((-1000001), (wq_st M 0 0 0)))
  else
    some ((-1000001), (wq_st M 0 0 0)))
set_option maxHeartbeats 4000000 in
set_option maxRecDepth 100000 in
theorem ctX7_step {l : Launch} {E : wq_E} {d : Nat} (hd0 : 5 ≤ d) {x1 : Int32} {x2 : Int32} {M : wq_M} {r : (Int32 × wq_M)}  (h : fX7_step x1 x2 M = some r) : wq_ct l E wq_yR yX7_step cX7_step 3 (some .int) d [.ref (E.2.1 0), .int x1, .int x2] M (some (.int r.1)) r.2 := by
  refine wq_ent (own := "WellPipesModel") (lv0 := [some (.ref (E.2.1 0)), some (.int x1), some (.int x2)]) (by decide +kernel) rfl (Nat.le_of_ble_eq_true rfl) rfl (fun g h1 h2 hC => ?_)
  have K : wq_kI g r := ⟨h1, h2⟩
  unfold fX7_step at h
  refine wq_aload_n hC dX7_step_0 (i := 0) rfl rfl ?_
  refine wq_iconst hC (v := 0) dX7_step_1 (by decide) ?_
  refine pf_7_0 hC oR_0 tw_718 dX7_step_2 ?_
  refine wq_aload_n hC dX7_step_5 (i := 0) rfl rfl ?_
  refine wq_iload_n hC dX7_step_6 (i := 1) rfl rfl ?_
  obtain ⟨r1, hc2, h⟩ := wq_ob h
  refine cv_7 hC (ctX7_isStep (d := d - 1) (by omega)  hc2) (by omega) (by decide) oR_0 rfl rfl npX7_isStep tw_895 tw_897 tw_33 tw_898 (st := []) (Nat.le_of_ble_eq_true rfl) rfl dX7_step_7 (st1 := [.int (wq_b r1)]) rfl ?_
  refine wq_bif_ne hC dX7_step_10 (tgt := 16) (by decide) (fun z3 => ?_) (fun z3 => ?_)
  · have h := wq_ip z3 h
    refine wq_iload_n hC dX7_step_16 (i := 2) rfl rfl ?_
    by_cases z4 : x2 = 0
    · have h := wq_ip z4 h
      refine wq_tableIn hC dX7_step_17 (tgt := 56) (by rw [z4]; decide) (by rw [z4]; decide) (off := 39) (by rw [z4]; decide) (by decide) ?_
      refine wq_aload_n hC dX7_step_56 (i := 0) rfl rfl ?_
      refine gf_7 hC oR_0 5 (.ref (E.2.1 4)) (by decide) rfl tw_723 dX7_step_57 ?_
      refine wq_bipush hC (v := 36) dX7_step_60 (by decide) ?_
      refine wq_iload_n hC dX7_step_62 (i := 1) rfl rfl ?_
      refine wq_iadd hC dX7_step_63 ?_
      obtain ⟨z5, h⟩ := wq_ii h
      refine wq_ald hC aR_4 z5 dX7_step_64 ?_
      have h := Option.some.inj h
      subst h
      exact wq_iret hC dX7_step_65 K.1 K.2
    · have h := wq_in_ z4 h
      by_cases z6 : x2 = 1
      · have h := wq_ip z6 h
        refine wq_tableIn hC dX7_step_17 (tgt := 66) (by rw [z6]; decide) (by rw [z6]; decide) (off := 49) (by rw [z6]; decide) (by decide) ?_
        refine wq_aload_n hC dX7_step_66 (i := 0) rfl rfl ?_
        refine gf_7 hC oR_0 5 (.ref (E.2.1 4)) (by decide) rfl tw_723 dX7_step_67 ?_
        refine wq_iload_n hC dX7_step_70 (i := 1) rfl rfl ?_
        obtain ⟨r7, hc8, h⟩ := wq_ob h
        refine wq_callS hC (ctX7_burstLoad (d := d - 1) (by omega) aR_4 hc8) (by omega) (by decide) rfl npX7_burstLoad tw_941 tw_942 tw_58 tw_943 (st := []) (Nat.le_of_ble_eq_true rfl) rfl dX7_step_71 (st1 := [.int r7]) rfl ?_
        have h := Option.some.inj h
        subst h
        exact wq_iret hC dX7_step_74 K.1 K.2
      · have h := wq_in_ z6 h
        by_cases z9 : x2 = 2
        · have h := wq_ip z9 h
          refine wq_tableIn hC dX7_step_17 (tgt := 75) (by rw [z9]; decide) (by rw [z9]; decide) (off := 58) (by rw [z9]; decide) (by decide) ?_
          refine wq_aload_n hC dX7_step_75 (i := 0) rfl rfl ?_
          refine gf_7 hC oR_0 5 (.ref (E.2.1 4)) (by decide) rfl tw_723 dX7_step_76 ?_
          refine wq_iload_n hC dX7_step_79 (i := 1) rfl rfl ?_
          obtain ⟨r10, hc11, h⟩ := wq_ob h
          refine wq_callS hC (ctX7_crushLoad (d := d - 1) (by omega) aR_4 hc11) (by omega) (by decide) rfl npX7_crushLoad tw_950 tw_951 tw_58 tw_952 (st := []) (Nat.le_of_ble_eq_true rfl) rfl dX7_step_80 (st1 := [.int r10]) rfl ?_
          have h := Option.some.inj h
          subst h
          exact wq_iret hC dX7_step_83 K.1 K.2
        · have h := wq_in_ z9 h
          by_cases z12 : x2 = 3
          · have h := wq_ip z12 h
            refine wq_tableIn hC dX7_step_17 (tgt := 84) (by rw [z12]; decide) (by rw [z12]; decide) (off := 67) (by rw [z12]; decide) (by decide) ?_
            refine wq_aload_n hC dX7_step_84 (i := 0) rfl rfl ?_
            refine gf_7 hC oR_0 5 (.ref (E.2.1 4)) (by decide) rfl tw_723 dX7_step_85 ?_
            refine wq_bipush hC (v := 36) dX7_step_88 (by decide) ?_
            refine wq_iload_n hC dX7_step_90 (i := 1) rfl rfl ?_
            refine wq_iadd hC dX7_step_91 ?_
            obtain ⟨z13, h⟩ := wq_ii h
            refine wq_ald hC aR_4 z13 dX7_step_92 ?_
            refine wq_if_ge hC dX7_step_93 (tgt := 100) (by decide) (fun z14 => ?_) (fun z14 => ?_)
            · have h := wq_ip z14 h
              refine wq_aload_n hC dX7_step_100 (i := 0) rfl rfl ?_
              refine gf_7 hC oR_0 5 (.ref (E.2.1 4)) (by decide) rfl tw_723 dX7_step_101 ?_
              refine wq_iload_n hC dX7_step_104 (i := 1) rfl rfl ?_
              obtain ⟨r15, hc16, h⟩ := wq_ob h
              refine wq_callS hC (ctX7_hangs (d := d - 1) (by omega) aR_4 hc16) (by omega) (by decide) rfl npX7_hangs tw_980 tw_981 tw_58 tw_982 (st := []) (Nat.le_of_ble_eq_true rfl) rfl dX7_step_105 (st1 := [.int r15]) rfl ?_
              have h := Option.some.inj h
              subst h
              exact wq_iret hC dX7_step_108 K.1 K.2
            · have h := wq_in_ z14 h
              refine wq_iconst hC (v := 0) dX7_step_96 (by decide) ?_
              refine wq_goto hC dX7_step_97 (tgt := 108) (by decide) ?_
              have h := Option.some.inj h
              subst h
              exact wq_iret hC dX7_step_108 K.1 K.2
          · have h := wq_in_ z12 h
            by_cases z17 : x2 = 4
            · have h := wq_ip z17 h
              refine wq_tableIn hC dX7_step_17 (tgt := 109) (by rw [z17]; decide) (by rw [z17]; decide) (off := 92) (by rw [z17]; decide) (by decide) ?_
              refine wq_aload_n hC dX7_step_109 (i := 0) rfl rfl ?_
              refine gf_7 hC oR_0 5 (.ref (E.2.1 4)) (by decide) rfl tw_723 dX7_step_110 ?_
              refine wq_iload_n hC dX7_step_113 (i := 1) rfl rfl ?_
              obtain ⟨r18, hc19, h⟩ := wq_ob h
              refine wq_callS hC (ctX7_holds (d := d - 1) (by omega) aR_4 hc19) (by omega) (by decide) rfl npX7_holds tw_983 tw_984 tw_58 tw_985 (st := []) (Nat.le_of_ble_eq_true rfl) rfl dX7_step_114 (st1 := [.int (wq_b r18)]) rfl ?_
              refine wq_bif_eq hC dX7_step_117 (tgt := 124) (by decide) (fun z20 => ?_) (fun z20 => ?_)
              · have h := wq_in_ z20 h
                refine wq_iconst hC (v := 0) dX7_step_124 (by decide) ?_
                have h := Option.some.inj h
                subst h
                exact wq_iret hC dX7_step_125 K.1 K.2
              · have h := wq_ip z20 h
                refine wq_iconst hC (v := 1) dX7_step_120 (by decide) ?_
                refine wq_goto hC dX7_step_121 (tgt := 125) (by decide) ?_
                have h := Option.some.inj h
                subst h
                exact wq_iret hC dX7_step_125 K.1 K.2
            · have h := wq_in_ z17 h
              by_cases z21 : x2 = 5
              · have h := wq_ip z21 h
                refine wq_tableIn hC dX7_step_17 (tgt := 126) (by rw [z21]; decide) (by rw [z21]; decide) (off := 109) (by rw [z21]; decide) (by decide) ?_
                refine wq_aload_n hC dX7_step_126 (i := 0) rfl rfl ?_
                refine gf_7 hC oR_0 5 (.ref (E.2.1 4)) (by decide) rfl tw_723 dX7_step_127 ?_
                refine wq_iload_n hC dX7_step_130 (i := 1) rfl rfl ?_
                obtain ⟨r22, hc23, h⟩ := wq_ob h
                refine wq_callS hC (ctX7_sectionOf (d := d - 1) (by omega) aR_4 hc23) (by omega) (by decide) rfl npX7_sectionOf tw_986 tw_987 tw_58 tw_988 (st := []) (Nat.le_of_ble_eq_true rfl) rfl dX7_step_131 (st1 := [.int r22]) rfl ?_
                have h := Option.some.inj h
                subst h
                exact wq_iret hC dX7_step_134 K.1 K.2
              · have h := wq_in_ z21 h
                refine wq_tableOut hC dX7_step_17 (tgt := 135) (by have := lv_neT z4 (show (0 : Int32).toInt = 0 by decide); have := lv_neT z6 (show (1 : Int32).toInt = 1 by decide); have := lv_neT z9 (show (2 : Int32).toInt = 2 by decide); have := lv_neT z12 (show (3 : Int32).toInt = 3 by decide); have := lv_neT z17 (show (4 : Int32).toInt = 4 by decide); have := lv_neT z21 (show (5 : Int32).toInt = 5 by decide); omega) (by decide) ?_
                refine wq_ldc hC (v := (-1000001)) tw_810 dX7_step_135 ?_
                have h := Option.some.inj h
                subst h
                exact wq_iret hC dX7_step_137 K.1 K.2
  · have h := wq_in_ z3 h
    refine wq_ldc hC (v := (-1000001)) tw_810 dX7_step_13 ?_
    have h := Option.some.inj h
    subst h
    exact wq_iret hC dX7_step_15 K.1 K.2
theorem npX7_bears : yX7_bears.cls ≠ "java/lang/invoke/MethodHandle" ∧ yX7_bears.cls ≠ "java/lang/invoke/VarHandle" ∧ (parseMethodDescriptor yX7_bears.desc).map (fun d => d.parameters.length) = some 2 := by decide +kernel
def fX7_bears (x1 : Int32) (x2 : Int32) (M : wq_M) : Option (Int32 × wq_M) :=
  (fX7_isStep x1 (wq_st M 0 0 0)).bind fun r1 => (if r1 = true then
    (fX7_in x2.toInt64 (0 : Int64) (2 : Int64) (wq_st M 0 0 0)).bind fun r4 => (if r4 = true then
      if wq_in (36 + x1) 44 then (if 0 ≤ ((wq_st M 0 0 0).1 4 (36 + x1).toNatClampNeg) then
        (if x2 = 0 then
          (fX7_bearsBurst 4 ((wq_st M 0 0 0).1 4 (36 + x1).toNatClampNeg) (wq_st M 0 0 0)).bind fun r17 => some (r17, (wq_st M 0 0 0))
        else
          (if x2 = 1 then
            (fX7_hangs 4 x1 (wq_st M 0 0 0)).bind fun r13 => (fX7_bearsCrush 4 ((wq_st M 0 0 0).1 4 (36 + x1).toNatClampNeg) r13 (wq_st M 0 0 0)).bind fun r15 => some (r15, (wq_st M 0 0 0))
          else
            (fX7_bearsPull 4 ((wq_st M 0 0 0).1 4 (36 + x1).toNatClampNeg) (wq_st M 0 0 0)).bind fun r11 => some (r11, (wq_st M 0 0 0))))
      else
        some ((-1000002), (wq_st M 0 0 0))) else none
    else
      some ((-1000001), (wq_st M 0 0 0)))
  else
    some ((-1000001), (wq_st M 0 0 0)))
set_option maxHeartbeats 4000000 in
set_option maxRecDepth 100000 in
theorem ctX7_bears {l : Launch} {E : wq_E} {d : Nat} (hd0 : 3 ≤ d) {x1 : Int32} {x2 : Int32} {M : wq_M} {r : (Int32 × wq_M)}  (h : fX7_bears x1 x2 M = some r) : wq_ct l E wq_yR yX7_bears cX7_bears 4 (some .int) d [.ref (E.2.1 0), .int x1, .int x2] M (some (.int r.1)) r.2 := by
  refine wq_ent (own := "WellPipesModel") (lv0 := [some (.ref (E.2.1 0)), some (.int x1), some (.int x2), none]) (by decide +kernel) rfl (Nat.le_of_ble_eq_true rfl) rfl (fun g h1 h2 hC => ?_)
  have K : wq_kI g r := ⟨h1, h2⟩
  unfold fX7_bears at h
  refine wq_aload_n hC dX7_bears_0 (i := 0) rfl rfl ?_
  refine wq_iconst hC (v := 0) dX7_bears_1 (by decide) ?_
  refine pf_7_0 hC oR_0 tw_718 dX7_bears_2 ?_
  refine wq_aload_n hC dX7_bears_5 (i := 0) rfl rfl ?_
  refine wq_iload_n hC dX7_bears_6 (i := 1) rfl rfl ?_
  obtain ⟨r1, hc2, h⟩ := wq_ob h
  refine cv_7 hC (ctX7_isStep (d := d - 1) (by omega)  hc2) (by omega) (by decide) oR_0 rfl rfl npX7_isStep tw_895 tw_897 tw_33 tw_898 (st := []) (Nat.le_of_ble_eq_true rfl) rfl dX7_bears_7 (st1 := [.int (wq_b r1)]) rfl ?_
  refine wq_bif_eq hC dX7_bears_10 (tgt := 25) (by decide) (fun z3 => ?_) (fun z3 => ?_)
  · have h := wq_in_ z3 h
    refine wq_ldc hC (v := (-1000001)) tw_810 dX7_bears_25 ?_
    have h := Option.some.inj h
    subst h
    exact wq_iret hC dX7_bears_27 K.1 K.2
  · have h := wq_ip z3 h
    refine wq_iload_n hC dX7_bears_13 (i := 2) rfl rfl ?_
    refine wq_i2l hC dX7_bears_14 ?_
    refine wq_lconst hC (v := 0) dX7_bears_15 (by decide) ?_
    refine wq_ldc2 hC (v := (2 : Int64)) tw_809 dX7_bears_16 ?_
    obtain ⟨r4, hc5, h⟩ := wq_ob h
    refine wq_callS hC (ctX7_in (d := d - 1) (by omega)  hc5) (by omega) (by decide) rfl npX7_in tw_806 tw_807 tw_58 tw_808 (st := []) (Nat.le_of_ble_eq_true rfl) rfl dX7_bears_19 (st1 := [.int (wq_b r4)]) rfl ?_
    refine wq_bif_ne hC dX7_bears_22 (tgt := 28) (by decide) (fun z6 => ?_) (fun z6 => ?_)
    · have h := wq_ip z6 h
      refine wq_aload_n hC dX7_bears_28 (i := 0) rfl rfl ?_
      refine gf_7 hC oR_0 5 (.ref (E.2.1 4)) (by decide) rfl tw_723 dX7_bears_29 ?_
      refine wq_bipush hC (v := 36) dX7_bears_32 (by decide) ?_
      refine wq_iload_n hC dX7_bears_34 (i := 1) rfl rfl ?_
      refine wq_iadd hC dX7_bears_35 ?_
      obtain ⟨z7, h⟩ := wq_ii h
      refine wq_ald hC aR_4 z7 dX7_bears_36 ?_
      refine wq_istore_n hC dX7_bears_37 (i := 3) (lv' := [some (.ref (E.2.1 0)), some (.int x1), some (.int x2), some (.int ((wq_st M 0 0 0).1 4 (36 + x1).toNatClampNeg))]) rfl (by decide) rfl ?_
      refine wq_iload_n hC dX7_bears_38 (i := 3) rfl rfl ?_
      refine wq_if_ge hC dX7_bears_39 (tgt := 45) (by decide) (fun z8 => ?_) (fun z8 => ?_)
      · have h := wq_ip z8 h
        refine wq_iload_n hC dX7_bears_45 (i := 2) rfl rfl ?_
        refine wq_if_ne hC dX7_bears_46 (tgt := 60) (by decide) (fun z9 => ?_) (fun z9 => ?_)
        · have h := wq_in_ z9 h
          refine wq_iload_n hC dX7_bears_60 (i := 2) rfl rfl ?_
          refine wq_iconst hC (v := 1) dX7_bears_61 (by decide) ?_
          refine wq_icmp_ne hC dX7_bears_62 (tgt := 84) (by decide) (fun z10 => ?_) (fun z10 => ?_)
          · have h := wq_in_ z10 h
            refine wq_aload_n hC dX7_bears_84 (i := 0) rfl rfl ?_
            refine gf_7 hC oR_0 5 (.ref (E.2.1 4)) (by decide) rfl tw_723 dX7_bears_85 ?_
            refine wq_iload_n hC dX7_bears_88 (i := 3) rfl rfl ?_
            obtain ⟨r11, hc12, h⟩ := wq_ob h
            refine wq_callS hC (ctX7_bearsPull (d := d - 1) (by omega) aR_4 hc12) (by omega) (by decide) rfl npX7_bearsPull tw_947 tw_948 tw_58 tw_949 (st := []) (Nat.le_of_ble_eq_true rfl) rfl dX7_bears_89 (st1 := [.int r11]) rfl ?_
            have h := Option.some.inj h
            subst h
            exact wq_iret hC dX7_bears_92 K.1 K.2
          · have h := wq_ip z10 h
            refine wq_aload_n hC dX7_bears_65 (i := 0) rfl rfl ?_
            refine gf_7 hC oR_0 5 (.ref (E.2.1 4)) (by decide) rfl tw_723 dX7_bears_66 ?_
            refine wq_iload_n hC dX7_bears_69 (i := 3) rfl rfl ?_
            refine wq_aload_n hC dX7_bears_70 (i := 0) rfl rfl ?_
            refine gf_7 hC oR_0 5 (.ref (E.2.1 4)) (by decide) rfl tw_723 dX7_bears_71 ?_
            refine wq_iload_n hC dX7_bears_74 (i := 1) rfl rfl ?_
            obtain ⟨r13, hc14, h⟩ := wq_ob h
            refine wq_callS hC (ctX7_hangs (d := d - 1) (by omega) aR_4 hc14) (by omega) (by decide) rfl npX7_hangs tw_980 tw_981 tw_58 tw_982 (st := [.int ((wq_st M 0 0 0).1 4 (36 + x1).toNatClampNeg), .ref (E.2.1 4)]) (Nat.le_of_ble_eq_true rfl) rfl dX7_bears_75 (st1 := [.int r13, .int ((wq_st M 0 0 0).1 4 (36 + x1).toNatClampNeg), .ref (E.2.1 4)]) rfl ?_
            obtain ⟨r15, hc16, h⟩ := wq_ob h
            refine wq_callS hC (ctX7_bearsCrush (d := d - 1) (by omega) aR_4 hc16) (by omega) (by decide) rfl npX7_bearsCrush tw_944 tw_945 tw_58 tw_946 (st := []) (Nat.le_of_ble_eq_true rfl) rfl dX7_bears_78 (st1 := [.int r15]) rfl ?_
            refine wq_goto hC dX7_bears_81 (tgt := 92) (by decide) ?_
            have h := Option.some.inj h
            subst h
            exact wq_iret hC dX7_bears_92 K.1 K.2
        · have h := wq_ip z9 h
          refine wq_aload_n hC dX7_bears_49 (i := 0) rfl rfl ?_
          refine gf_7 hC oR_0 5 (.ref (E.2.1 4)) (by decide) rfl tw_723 dX7_bears_50 ?_
          refine wq_iload_n hC dX7_bears_53 (i := 3) rfl rfl ?_
          obtain ⟨r17, hc18, h⟩ := wq_ob h
          refine wq_callS hC (ctX7_bearsBurst (d := d - 1) (by omega) aR_4 hc18) (by omega) (by decide) rfl npX7_bearsBurst tw_938 tw_939 tw_58 tw_940 (st := []) (Nat.le_of_ble_eq_true rfl) rfl dX7_bears_54 (st1 := [.int r17]) rfl ?_
          refine wq_goto hC dX7_bears_57 (tgt := 92) (by decide) ?_
          have h := Option.some.inj h
          subst h
          exact wq_iret hC dX7_bears_92 K.1 K.2
      · have h := wq_in_ z8 h
        refine wq_ldc hC (v := (-1000002)) tw_903 dX7_bears_42 ?_
        have h := Option.some.inj h
        subst h
        exact wq_iret hC dX7_bears_44 K.1 K.2
    · have h := wq_in_ z6 h
      refine wq_ldc hC (v := (-1000001)) tw_810 dX7_bears_25 ?_
      have h := Option.some.inj h
      subst h
      exact wq_iret hC dX7_bears_27 K.1 K.2
theorem npX7_firstLoose : yX7_firstLoose.cls ≠ "java/lang/invoke/MethodHandle" ∧ yX7_firstLoose.cls ≠ "java/lang/invoke/VarHandle" ∧ (parseMethodDescriptor yX7_firstLoose.desc).map (fun d => d.parameters.length) = some 0 := by decide +kernel
def fX7_firstLoose_L2 (M : wq_M) : Int32 → Option (Int32 ⊕ (Int32 ⊕ Unit)) := fun s =>
  if wq_in 0 44 then (if (M.1 4 (0 : Int32).toNatClampNeg) ≤ s then
    some (.inr (.inr ()))
  else
    (fX7_holds 4 s M).bind fun r3 => (if r3 = true then
      some (.inl (s + 1))
    else
      some (.inr (.inl s)))) else none
set_option maxHeartbeats 4000000 in
set_option maxRecDepth 100000 in
theorem gX7_firstLoose_L2 {g : wq_G} {E : wq_E} {d : Nat} (hC : wq_C g E wq_yR cX7_firstLoose 2 "WellPipesModel" (some .int) d) (hd0 : 5 ≤ d) (M : wq_M)  : ∀ (n : Nat) (s : Int32) (e : (Int32 ⊕ Unit)), wq_lp (fX7_firstLoose_L2 M) n s = some e → (Sum.elim (wq_ki g M) (fun (e : Unit) => wq_g g E wq_yR 2 31 [none, none] [] M)) e → wq_g g E wq_yR 2 2 [some (.ref (E.2.1 0)), some (.int s)] [] M := by
  refine wq_lq_ok (fun (s : Int32) => wq_g g E wq_yR 2 2 [some (.ref (E.2.1 0)), some (.int s)] [] M) (Sum.elim (wq_ki g M) (fun (e : Unit) => wq_g g E wq_yR 2 31 [none, none] [] M)) (fun s x h K => ?_)
  unfold fX7_firstLoose_L2 at h
  refine wq_iload_n hC dX7_firstLoose_2 (i := 1) rfl rfl ?_
  refine wq_aload_n hC dX7_firstLoose_3 (i := 0) rfl rfl ?_
  refine gf_7 hC oR_0 5 (.ref (E.2.1 4)) (by decide) rfl tw_723 dX7_firstLoose_4 ?_
  refine wq_iconst hC (v := 0) dX7_firstLoose_7 (by decide) ?_
  obtain ⟨z1, h⟩ := wq_ii h
  refine wq_ald hC aR_4 z1 dX7_firstLoose_8 ?_
  refine wq_icmp_ge hC dX7_firstLoose_9 (tgt := 31) (by decide) (fun z2 => ?_) (fun z2 => ?_)
  · have h := wq_ip z2 h
    have h := Option.some.inj h
    subst h
    refine wq_mask [false, false] (lv' := [none, none]) rfl ?_
    exact K
  · have h := wq_in_ z2 h
    refine wq_aload_n hC dX7_firstLoose_12 (i := 0) rfl rfl ?_
    refine gf_7 hC oR_0 5 (.ref (E.2.1 4)) (by decide) rfl tw_723 dX7_firstLoose_13 ?_
    refine wq_iload_n hC dX7_firstLoose_16 (i := 1) rfl rfl ?_
    obtain ⟨r3, hc4, h⟩ := wq_ob h
    refine wq_callS hC (ctX7_holds (d := d - 1) (by omega) aR_4 hc4) (by omega) (by decide) rfl npX7_holds tw_983 tw_984 tw_58 tw_985 (st := []) (Nat.le_of_ble_eq_true rfl) rfl dX7_firstLoose_17 (st1 := [.int (wq_b r3)]) rfl ?_
    refine wq_bif_ne hC dX7_firstLoose_20 (tgt := 25) (by decide) (fun z5 => ?_) (fun z5 => ?_)
    · have h := wq_ip z5 h
      refine wq_iinc hC (v := (s + 1)) dX7_firstLoose_25 (lv' := [some (.ref (E.2.1 0)), some (.int (s + 1))]) rfl rfl (by decide) rfl ?_
      refine wq_goto hC dX7_firstLoose_28 (tgt := 2) (by decide) ?_
      have h := Option.some.inj h
      subst h
      exact K
    · have h := wq_in_ z5 h
      refine wq_iload_n hC dX7_firstLoose_23 (i := 1) rfl rfl ?_
      have h := Option.some.inj h
      subst h
      exact wq_iret hC dX7_firstLoose_24 K.1 K.2
def fX7_firstLoose  (M : wq_M) : Option Int32 :=
  (wq_lp (fX7_firstLoose_L2 M) wq_FU 0).bind fun e6 => Sum.elim (fun x => some x) (fun e6n => some (-1000000)) e6
set_option maxHeartbeats 4000000 in
set_option maxRecDepth 100000 in
theorem ctX7_firstLoose {l : Launch} {E : wq_E} {d : Nat} (hd0 : 5 ≤ d)  {M : wq_M} {r : Int32}  (h : fX7_firstLoose M = some r) : wq_ct l E wq_yR yX7_firstLoose cX7_firstLoose 2 (some .int) d [.ref (E.2.1 0)] M (some (.int r)) M := by
  refine wq_ent (own := "WellPipesModel") (lv0 := [some (.ref (E.2.1 0)), none]) (by decide +kernel) rfl (Nat.le_of_ble_eq_true rfl) rfl (fun g h1 h2 hC => ?_)
  have K : wq_ki g M r := ⟨h1, h2⟩
  unfold fX7_firstLoose at h
  refine wq_iconst hC (v := 0) dX7_firstLoose_0 (by decide) ?_
  refine wq_istore_n hC dX7_firstLoose_1 (i := 1) (lv' := [some (.ref (E.2.1 0)), some (.int 0)]) rfl (by decide) rfl ?_
  obtain ⟨e6, hl7, h⟩ := wq_ob h
  refine gX7_firstLoose_L2 hC hd0  M  wq_FU _ _ hl7 ?_
  rcases e6 with e6x | e6n
  · have h := Option.some.inj h
    subst h
    exact K
  · refine wq_ldc hC (v := (-1000000)) tw_850 dX7_firstLoose_31 ?_
    have h := Option.some.inj h
    subst h
    exact wq_iret hC dX7_firstLoose_33 K.1 K.2
theorem npX7_stand : yX7_stand.cls ≠ "java/lang/invoke/MethodHandle" ∧ yX7_stand.cls ≠ "java/lang/invoke/VarHandle" ∧ (parseMethodDescriptor yX7_stand.desc).map (fun d => d.parameters.length) = some 1 := by decide +kernel
def fX7_stand (x1 : Int32) (M : wq_M) : Option (Int32 × wq_M) :=
  (fX7_isThere  (wq_st M 0 0 0)).bind fun r1 => (if r1 = true then
    (if x1 = 0 then if wq_in x1 44 then some (((wq_st M 0 0 0).1 4 x1.toNatClampNeg), (wq_st M 0 0 0)) else none else if x1 = 1 then if wq_in x1 44 then some (((wq_st M 0 0 0).1 4 x1.toNatClampNeg), (wq_st M 0 0 0)) else none else if x1 = 2 then if wq_in x1 44 then some (((wq_st M 0 0 0).1 4 x1.toNatClampNeg), (wq_st M 0 0 0)) else none else if x1 = 3 then if wq_in x1 44 then some (((wq_st M 0 0 0).1 4 x1.toNatClampNeg), (wq_st M 0 0 0)) else none else if x1 = 4 then if wq_in x1 44 then some (((wq_st M 0 0 0).1 4 x1.toNatClampNeg), (wq_st M 0 0 0)) else none else if x1 = 5 then (fX7_costOf 4 (wq_st M 0 0 0)).bind fun r15 => some (r15, (wq_st M 0 0 0)) else if x1 = 6 then (fX7_hangs 4 0 (wq_st M 0 0 0)).bind fun r18 => some (r18, (wq_st M 0 0 0)) else if x1 = 7 then (fX7_firstLoose  (wq_st M 0 0 0)).bind fun r21 => some (r21, (wq_st M 0 0 0)) else if x1 = 8 then (fX7_isSound 4 (wq_st M 0 0 0)).bind fun r24 => (if r24 = true then
                        some (1, (wq_st M 0 0 0))
                      else
                        some (0, (wq_st M 0 0 0))) else some ((-1000001), (wq_st M 0 0 0)))
  else
    some ((-1000002), (wq_st M 0 0 0)))
set_option maxHeartbeats 4000000 in
set_option maxRecDepth 100000 in
theorem ctX7_stand {l : Launch} {E : wq_E} {d : Nat} (hd0 : 6 ≤ d) {x1 : Int32} {M : wq_M} {r : (Int32 × wq_M)}  (h : fX7_stand x1 M = some r) : wq_ct l E wq_yR yX7_stand cX7_stand 2 (some .int) d [.ref (E.2.1 0), .int x1] M (some (.int r.1)) r.2 := by
  refine wq_ent (own := "WellPipesModel") (lv0 := [some (.ref (E.2.1 0)), some (.int x1)]) (by decide +kernel) rfl (Nat.le_of_ble_eq_true rfl) rfl (fun g h1 h2 hC => ?_)
  have K : wq_kI g r := ⟨h1, h2⟩
  unfold fX7_stand at h
  refine wq_aload_n hC dX7_stand_0 (i := 0) rfl rfl ?_
  refine wq_iconst hC (v := 0) dX7_stand_1 (by decide) ?_
  refine pf_7_0 hC oR_0 tw_718 dX7_stand_2 ?_
  refine wq_aload_n hC dX7_stand_5 (i := 0) rfl rfl ?_
  obtain ⟨r1, hc2, h⟩ := wq_ob h
  refine cv_7 hC (ctX7_isThere (d := d - 1) (by omega)  hc2) (by omega) (by decide) oR_0 rfl rfl npX7_isThere tw_912 tw_914 tw_36 tw_915 (st := []) (Nat.le_of_ble_eq_true rfl) rfl dX7_stand_6 (st1 := [.int (wq_b r1)]) rfl ?_
  refine wq_bif_ne hC dX7_stand_9 (tgt := 15) (by decide) (fun z3 => ?_) (fun z3 => ?_)
  · have h := wq_ip z3 h
    refine wq_iload_n hC dX7_stand_15 (i := 1) rfl rfl ?_
    by_cases z4 : x1 = 0
    · have h := wq_ip z4 h
      refine wq_tableIn hC dX7_stand_16 (tgt := 68) (by rw [z4]; decide) (by rw [z4]; decide) (off := 52) (by rw [z4]; decide) (by decide) ?_
      refine wq_aload_n hC dX7_stand_68 (i := 0) rfl rfl ?_
      refine gf_7 hC oR_0 5 (.ref (E.2.1 4)) (by decide) rfl tw_723 dX7_stand_69 ?_
      refine wq_iload_n hC dX7_stand_72 (i := 1) rfl rfl ?_
      obtain ⟨z5, h⟩ := wq_ii h
      refine wq_ald hC aR_4 z5 dX7_stand_73 ?_
      have h := Option.some.inj h
      subst h
      exact wq_iret hC dX7_stand_74 K.1 K.2
    · have h := wq_in_ z4 h
      by_cases z6 : x1 = 1
      · have h := wq_ip z6 h
        refine wq_tableIn hC dX7_stand_16 (tgt := 68) (by rw [z6]; decide) (by rw [z6]; decide) (off := 52) (by rw [z6]; decide) (by decide) ?_
        refine wq_aload_n hC dX7_stand_68 (i := 0) rfl rfl ?_
        refine gf_7 hC oR_0 5 (.ref (E.2.1 4)) (by decide) rfl tw_723 dX7_stand_69 ?_
        refine wq_iload_n hC dX7_stand_72 (i := 1) rfl rfl ?_
        obtain ⟨z7, h⟩ := wq_ii h
        refine wq_ald hC aR_4 z7 dX7_stand_73 ?_
        have h := Option.some.inj h
        subst h
        exact wq_iret hC dX7_stand_74 K.1 K.2
      · have h := wq_in_ z6 h
        by_cases z8 : x1 = 2
        · have h := wq_ip z8 h
          refine wq_tableIn hC dX7_stand_16 (tgt := 68) (by rw [z8]; decide) (by rw [z8]; decide) (off := 52) (by rw [z8]; decide) (by decide) ?_
          refine wq_aload_n hC dX7_stand_68 (i := 0) rfl rfl ?_
          refine gf_7 hC oR_0 5 (.ref (E.2.1 4)) (by decide) rfl tw_723 dX7_stand_69 ?_
          refine wq_iload_n hC dX7_stand_72 (i := 1) rfl rfl ?_
          obtain ⟨z9, h⟩ := wq_ii h
          refine wq_ald hC aR_4 z9 dX7_stand_73 ?_
          have h := Option.some.inj h
          subst h
          exact wq_iret hC dX7_stand_74 K.1 K.2
        · have h := wq_in_ z8 h
          by_cases z10 : x1 = 3
          · have h := wq_ip z10 h
            refine wq_tableIn hC dX7_stand_16 (tgt := 68) (by rw [z10]; decide) (by rw [z10]; decide) (off := 52) (by rw [z10]; decide) (by decide) ?_
            refine wq_aload_n hC dX7_stand_68 (i := 0) rfl rfl ?_
            refine gf_7 hC oR_0 5 (.ref (E.2.1 4)) (by decide) rfl tw_723 dX7_stand_69 ?_
            refine wq_iload_n hC dX7_stand_72 (i := 1) rfl rfl ?_
            obtain ⟨z11, h⟩ := wq_ii h
            refine wq_ald hC aR_4 z11 dX7_stand_73 ?_
            have h := Option.some.inj h
            subst h
            exact wq_iret hC dX7_stand_74 K.1 K.2
          · have h := wq_in_ z10 h
            by_cases z12 : x1 = 4
            · have h := wq_ip z12 h
              refine wq_tableIn hC dX7_stand_16 (tgt := 68) (by rw [z12]; decide) (by rw [z12]; decide) (off := 52) (by rw [z12]; decide) (by decide) ?_
              refine wq_aload_n hC dX7_stand_68 (i := 0) rfl rfl ?_
              refine gf_7 hC oR_0 5 (.ref (E.2.1 4)) (by decide) rfl tw_723 dX7_stand_69 ?_
              refine wq_iload_n hC dX7_stand_72 (i := 1) rfl rfl ?_
              obtain ⟨z13, h⟩ := wq_ii h
              refine wq_ald hC aR_4 z13 dX7_stand_73 ?_
              have h := Option.some.inj h
              subst h
              exact wq_iret hC dX7_stand_74 K.1 K.2
            · have h := wq_in_ z12 h
              by_cases z14 : x1 = 5
              · have h := wq_ip z14 h
                refine wq_tableIn hC dX7_stand_16 (tgt := 75) (by rw [z14]; decide) (by rw [z14]; decide) (off := 59) (by rw [z14]; decide) (by decide) ?_
                refine wq_aload_n hC dX7_stand_75 (i := 0) rfl rfl ?_
                refine gf_7 hC oR_0 5 (.ref (E.2.1 4)) (by decide) rfl tw_723 dX7_stand_76 ?_
                obtain ⟨r15, hc16, h⟩ := wq_ob h
                refine wq_callS hC (ctX7_costOf (d := d - 1) (by omega) aR_4 hc16) (by omega) (by decide) rfl npX7_costOf tw_953 tw_954 tw_58 tw_955 (st := []) (Nat.le_of_ble_eq_true rfl) rfl dX7_stand_79 (st1 := [.int r15]) rfl ?_
                have h := Option.some.inj h
                subst h
                exact wq_iret hC dX7_stand_82 K.1 K.2
              · have h := wq_in_ z14 h
                by_cases z17 : x1 = 6
                · have h := wq_ip z17 h
                  refine wq_tableIn hC dX7_stand_16 (tgt := 83) (by rw [z17]; decide) (by rw [z17]; decide) (off := 67) (by rw [z17]; decide) (by decide) ?_
                  refine wq_aload_n hC dX7_stand_83 (i := 0) rfl rfl ?_
                  refine gf_7 hC oR_0 5 (.ref (E.2.1 4)) (by decide) rfl tw_723 dX7_stand_84 ?_
                  refine wq_iconst hC (v := 0) dX7_stand_87 (by decide) ?_
                  obtain ⟨r18, hc19, h⟩ := wq_ob h
                  refine wq_callS hC (ctX7_hangs (d := d - 1) (by omega) aR_4 hc19) (by omega) (by decide) rfl npX7_hangs tw_980 tw_981 tw_58 tw_982 (st := []) (Nat.le_of_ble_eq_true rfl) rfl dX7_stand_88 (st1 := [.int r18]) rfl ?_
                  have h := Option.some.inj h
                  subst h
                  exact wq_iret hC dX7_stand_91 K.1 K.2
                · have h := wq_in_ z17 h
                  by_cases z20 : x1 = 7
                  · have h := wq_ip z20 h
                    refine wq_tableIn hC dX7_stand_16 (tgt := 92) (by rw [z20]; decide) (by rw [z20]; decide) (off := 76) (by rw [z20]; decide) (by decide) ?_
                    refine wq_aload_n hC dX7_stand_92 (i := 0) rfl rfl ?_
                    obtain ⟨r21, hc22, h⟩ := wq_ob h
                    refine cv_7 hC (ctX7_firstLoose (d := d - 1) (by omega)  hc22) (by omega) (by decide) oR_0 rfl rfl npX7_firstLoose tw_997 tw_999 tw_40 tw_1000 (st := []) (Nat.le_of_ble_eq_true rfl) rfl dX7_stand_93 (st1 := [.int r21]) rfl ?_
                    have h := Option.some.inj h
                    subst h
                    exact wq_iret hC dX7_stand_96 K.1 K.2
                  · have h := wq_in_ z20 h
                    by_cases z23 : x1 = 8
                    · have h := wq_ip z23 h
                      refine wq_tableIn hC dX7_stand_16 (tgt := 97) (by rw [z23]; decide) (by rw [z23]; decide) (off := 81) (by rw [z23]; decide) (by decide) ?_
                      refine wq_aload_n hC dX7_stand_97 (i := 0) rfl rfl ?_
                      refine gf_7 hC oR_0 5 (.ref (E.2.1 4)) (by decide) rfl tw_723 dX7_stand_98 ?_
                      obtain ⟨r24, hc25, h⟩ := wq_ob h
                      refine wq_callS hC (ctX7_isSound (d := d - 1) (by omega) aR_4 hc25) (by omega) (by decide) rfl npX7_isSound tw_1001 tw_1002 tw_58 tw_1003 (st := []) (Nat.le_of_ble_eq_true rfl) rfl dX7_stand_101 (st1 := [.int (wq_b r24)]) rfl ?_
                      refine wq_bif_eq hC dX7_stand_104 (tgt := 111) (by decide) (fun z26 => ?_) (fun z26 => ?_)
                      · have h := wq_in_ z26 h
                        refine wq_iconst hC (v := 0) dX7_stand_111 (by decide) ?_
                        have h := Option.some.inj h
                        subst h
                        exact wq_iret hC dX7_stand_112 K.1 K.2
                      · have h := wq_ip z26 h
                        refine wq_iconst hC (v := 1) dX7_stand_107 (by decide) ?_
                        refine wq_goto hC dX7_stand_108 (tgt := 112) (by decide) ?_
                        have h := Option.some.inj h
                        subst h
                        exact wq_iret hC dX7_stand_112 K.1 K.2
                    · have h := wq_in_ z23 h
                      refine wq_tableOut hC dX7_stand_16 (tgt := 113) (by have := lv_neT z4 (show (0 : Int32).toInt = 0 by decide); have := lv_neT z6 (show (1 : Int32).toInt = 1 by decide); have := lv_neT z8 (show (2 : Int32).toInt = 2 by decide); have := lv_neT z10 (show (3 : Int32).toInt = 3 by decide); have := lv_neT z12 (show (4 : Int32).toInt = 4 by decide); have := lv_neT z14 (show (5 : Int32).toInt = 5 by decide); have := lv_neT z17 (show (6 : Int32).toInt = 6 by decide); have := lv_neT z20 (show (7 : Int32).toInt = 7 by decide); have := lv_neT z23 (show (8 : Int32).toInt = 8 by decide); omega) (by decide) ?_
                      refine wq_ldc hC (v := (-1000001)) tw_810 dX7_stand_113 ?_
                      have h := Option.some.inj h
                      subst h
                      exact wq_iret hC dX7_stand_115 K.1 K.2
  · have h := wq_in_ z3 h
    refine wq_ldc hC (v := (-1000002)) tw_903 dX7_stand_12 ?_
    have h := Option.some.inj h
    subst h
    exact wq_iret hC dX7_stand_14 K.1 K.2
theorem npX7_best : yX7_best.cls ≠ "java/lang/invoke/MethodHandle" ∧ yX7_best.cls ≠ "java/lang/invoke/VarHandle" ∧ (parseMethodDescriptor yX7_best.desc).map (fun d => d.parameters.length) = some 1 := by decide +kernel
def fX7_best_J39 (x1 : Int32) (M : wq_M) : Option (Int32 × wq_M) :=
  (fX7_laysBest 4 (-1) M).bind fun r7 => (if r7.1 = 1000000000 then
    some ((-1000000), r7.2)
  else
    (if x1 = 0 then
      some ((r7.1 / 100), r7.2)
    else
      (if x1 = 1 then
        some ((r7.1 - r7.1 / 100 * 100), r7.2)
      else
        if wq_in (x1 - 10) 8 then some ((r7.2.1 10 (x1 - 10).toNatClampNeg), r7.2) else none)))
set_option maxHeartbeats 4000000 in
set_option maxRecDepth 100000 in
theorem gX7_best_J39 {g : wq_G} {E : wq_E} {d : Nat} (hC : wq_C g E wq_yR cX7_best 3 "WellPipesModel" (some .int) d) (hd0 : 7 ≤ d) (x1 : Int32) (M : wq_M)  {x : (Int32 × wq_M)} (h : fX7_best_J39 x1 M = some x) (K : (wq_kI g) x) : wq_g g E wq_yR 3 39 [some (.ref (E.2.1 0)), some (.int x1), none] [] M := by
  unfold fX7_best_J39 at h
  refine wq_aload_n hC dX7_best_39 (i := 0) rfl rfl ?_
  refine wq_aload_n hC dX7_best_40 (i := 0) rfl rfl ?_
  refine gf_7 hC oR_0 5 (.ref (E.2.1 4)) (by decide) rfl tw_723 dX7_best_41 ?_
  refine wq_iconst hC (v := (-1)) dX7_best_44 (by decide) ?_
  obtain ⟨r7, hc8, h⟩ := wq_ob h
  refine cv_7 hC (ctX7_laysBest (d := d - 1) (by omega) aR_4 hc8) (by omega) (by decide) oR_0 rfl rfl npX7_laysBest tw_916 tw_918 tw_37 tw_919 (st := []) (Nat.le_of_ble_eq_true rfl) rfl dX7_best_45 (st1 := [.int r7.1]) rfl ?_
  refine wq_istore_n hC dX7_best_48 (i := 2) (lv' := [some (.ref (E.2.1 0)), some (.int x1), some (.int r7.1)]) rfl (by decide) rfl ?_
  refine wq_iload_n hC dX7_best_49 (i := 2) rfl rfl ?_
  refine wq_ldc hC (v := 1000000000) tw_927 dX7_best_50 ?_
  refine wq_icmp_ne hC dX7_best_52 (tgt := 58) (by decide) (fun z9 => ?_) (fun z9 => ?_)
  · have h := wq_in_ z9 h
    refine wq_iload_n hC dX7_best_58 (i := 1) rfl rfl ?_
    refine wq_if_ne hC dX7_best_59 (tgt := 69) (by decide) (fun z10 => ?_) (fun z10 => ?_)
    · have h := wq_in_ z10 h
      refine wq_iload_n hC dX7_best_69 (i := 1) rfl rfl ?_
      refine wq_iconst hC (v := 1) dX7_best_70 (by decide) ?_
      refine wq_icmp_ne hC dX7_best_71 (tgt := 81) (by decide) (fun z11 => ?_) (fun z11 => ?_)
      · have h := wq_in_ z11 h
        refine wq_aload_n hC dX7_best_81 (i := 0) rfl rfl ?_
        refine gf_7 hC oR_0 20 (.ref (E.2.1 10)) (by decide) rfl tw_738 dX7_best_82 ?_
        refine wq_iload_n hC dX7_best_85 (i := 1) rfl rfl ?_
        refine wq_bipush hC (v := 10) dX7_best_86 (by decide) ?_
        refine wq_isub hC dX7_best_88 ?_
        obtain ⟨z12, h⟩ := wq_ii h
        refine wq_ald hC aR_10 z12 dX7_best_89 ?_
        have h := Option.some.inj h
        subst h
        exact wq_iret hC dX7_best_90 K.1 K.2
      · have h := wq_ip z11 h
        refine wq_iload_n hC dX7_best_74 (i := 2) rfl rfl ?_
        refine wq_bipush hC (v := 100) dX7_best_75 (by decide) ?_
        refine wq_irem hC dX7_best_77 (by decide) ?_
        refine wq_goto hC dX7_best_78 (tgt := 90) (by decide) ?_
        have h := Option.some.inj h
        subst h
        exact wq_iret hC dX7_best_90 K.1 K.2
    · have h := wq_ip z10 h
      refine wq_iload_n hC dX7_best_62 (i := 2) rfl rfl ?_
      refine wq_bipush hC (v := 100) dX7_best_63 (by decide) ?_
      refine wq_idiv hC dX7_best_65 (by decide) ?_
      refine wq_goto hC dX7_best_66 (tgt := 90) (by decide) ?_
      have h := Option.some.inj h
      subst h
      exact wq_iret hC dX7_best_90 K.1 K.2
  · have h := wq_ip z9 h
    refine wq_ldc hC (v := (-1000000)) tw_850 dX7_best_55 ?_
    have h := Option.some.inj h
    subst h
    exact wq_iret hC dX7_best_57 K.1 K.2
def fX7_best (x1 : Int32) (M : wq_M) : Option (Int32 × wq_M) :=
  (fX7_isThere  (wq_st M 0 0 0)).bind fun r1 => (if r1 = true then
    (fX7_in x1.toInt64 (0 : Int64) (1 : Int64) (wq_st M 0 0 0)).bind fun r4 => (if r4 = true then
      fX7_best_J39 x1 (wq_st M 0 0 0)
    else
      (fX7_isStep (x1 - 10) (wq_st M 0 0 0)).bind fun r13 => (if r13 = true then
        fX7_best_J39 x1 (wq_st M 0 0 0)
      else
        some ((-1000001), (wq_st M 0 0 0))))
  else
    some ((-1000002), (wq_st M 0 0 0)))
set_option maxHeartbeats 4000000 in
set_option maxRecDepth 100000 in
theorem ctX7_best {l : Launch} {E : wq_E} {d : Nat} (hd0 : 7 ≤ d) {x1 : Int32} {M : wq_M} {r : (Int32 × wq_M)}  (h : fX7_best x1 M = some r) : wq_ct l E wq_yR yX7_best cX7_best 3 (some .int) d [.ref (E.2.1 0), .int x1] M (some (.int r.1)) r.2 := by
  refine wq_ent (own := "WellPipesModel") (lv0 := [some (.ref (E.2.1 0)), some (.int x1), none]) (by decide +kernel) rfl (Nat.le_of_ble_eq_true rfl) rfl (fun g h1 h2 hC => ?_)
  have K : wq_kI g r := ⟨h1, h2⟩
  unfold fX7_best at h
  refine wq_aload_n hC dX7_best_0 (i := 0) rfl rfl ?_
  refine wq_iconst hC (v := 0) dX7_best_1 (by decide) ?_
  refine pf_7_0 hC oR_0 tw_718 dX7_best_2 ?_
  refine wq_aload_n hC dX7_best_5 (i := 0) rfl rfl ?_
  obtain ⟨r1, hc2, h⟩ := wq_ob h
  refine cv_7 hC (ctX7_isThere (d := d - 1) (by omega)  hc2) (by omega) (by decide) oR_0 rfl rfl npX7_isThere tw_912 tw_914 tw_36 tw_915 (st := []) (Nat.le_of_ble_eq_true rfl) rfl dX7_best_6 (st1 := [.int (wq_b r1)]) rfl ?_
  refine wq_bif_ne hC dX7_best_9 (tgt := 15) (by decide) (fun z3 => ?_) (fun z3 => ?_)
  · have h := wq_ip z3 h
    refine wq_iload_n hC dX7_best_15 (i := 1) rfl rfl ?_
    refine wq_i2l hC dX7_best_16 ?_
    refine wq_lconst hC (v := 0) dX7_best_17 (by decide) ?_
    refine wq_lconst hC (v := 1) dX7_best_18 (by decide) ?_
    obtain ⟨r4, hc5, h⟩ := wq_ob h
    refine wq_callS hC (ctX7_in (d := d - 1) (by omega)  hc5) (by omega) (by decide) rfl npX7_in tw_806 tw_807 tw_58 tw_808 (st := []) (Nat.le_of_ble_eq_true rfl) rfl dX7_best_19 (st1 := [.int (wq_b r4)]) rfl ?_
    refine wq_bif_ne hC dX7_best_22 (tgt := 39) (by decide) (fun z6 => ?_) (fun z6 => ?_)
    · have h := wq_ip z6 h
      exact gX7_best_J39 hC hd0 x1 (wq_st M 0 0 0)  h K
    · have h := wq_in_ z6 h
      refine wq_aload_n hC dX7_best_25 (i := 0) rfl rfl ?_
      refine wq_iload_n hC dX7_best_26 (i := 1) rfl rfl ?_
      refine wq_bipush hC (v := 10) dX7_best_27 (by decide) ?_
      refine wq_isub hC dX7_best_29 ?_
      obtain ⟨r13, hc14, h⟩ := wq_ob h
      refine cv_7 hC (ctX7_isStep (d := d - 1) (by omega)  hc14) (by omega) (by decide) oR_0 rfl rfl npX7_isStep tw_895 tw_897 tw_33 tw_898 (st := []) (Nat.le_of_ble_eq_true rfl) rfl dX7_best_30 (st1 := [.int (wq_b r13)]) rfl ?_
      refine wq_bif_ne hC dX7_best_33 (tgt := 39) (by decide) (fun z15 => ?_) (fun z15 => ?_)
      · have h := wq_ip z15 h
        exact gX7_best_J39 hC hd0 x1 (wq_st M 0 0 0)  h K
      · have h := wq_in_ z15 h
        refine wq_ldc hC (v := (-1000001)) tw_810 dX7_best_36 ?_
        have h := Option.some.inj h
        subst h
        exact wq_iret hC dX7_best_38 K.1 K.2
  · have h := wq_in_ z3 h
    refine wq_ldc hC (v := (-1000002)) tw_903 dX7_best_12 ?_
    have h := Option.some.inj h
    subst h
    exact wq_iret hC dX7_best_14 K.1 K.2
theorem npX7_without : yX7_without.cls ≠ "java/lang/invoke/MethodHandle" ∧ yX7_without.cls ≠ "java/lang/invoke/VarHandle" ∧ (parseMethodDescriptor yX7_without.desc).map (fun d => d.parameters.length) = some 1 := by decide +kernel
def fX7_without (x1 : Int32) (M : wq_M) : Option (Int32 × wq_M) :=
  (fX7_isGrade x1 (wq_st M 0 0 0)).bind fun r1 => (if r1 = true then
    (fX7_laysBest 4 x1 (wq_st M 0 0 0)).bind fun r4 => (if r4.1 = 1000000000 then
      some ((-1000000), r4.2)
    else
      some ((r4.1 / 100), r4.2))
  else
    some ((-1000001), (wq_st M 0 0 0)))
set_option maxHeartbeats 4000000 in
set_option maxRecDepth 100000 in
theorem ctX7_without {l : Launch} {E : wq_E} {d : Nat} (hd0 : 7 ≤ d) {x1 : Int32} {M : wq_M} {r : (Int32 × wq_M)}  (h : fX7_without x1 M = some r) : wq_ct l E wq_yR yX7_without cX7_without 3 (some .int) d [.ref (E.2.1 0), .int x1] M (some (.int r.1)) r.2 := by
  refine wq_ent (own := "WellPipesModel") (lv0 := [some (.ref (E.2.1 0)), some (.int x1), none]) (by decide +kernel) rfl (Nat.le_of_ble_eq_true rfl) rfl (fun g h1 h2 hC => ?_)
  have K : wq_kI g r := ⟨h1, h2⟩
  unfold fX7_without at h
  refine wq_aload_n hC dX7_without_0 (i := 0) rfl rfl ?_
  refine wq_iconst hC (v := 0) dX7_without_1 (by decide) ?_
  refine pf_7_0 hC oR_0 tw_718 dX7_without_2 ?_
  refine wq_aload_n hC dX7_without_5 (i := 0) rfl rfl ?_
  refine wq_iload_n hC dX7_without_6 (i := 1) rfl rfl ?_
  obtain ⟨r1, hc2, h⟩ := wq_ob h
  refine cv_7 hC (ctX7_isGrade (d := d - 1) (by omega)  hc2) (by omega) (by decide) oR_0 rfl rfl npX7_isGrade tw_899 tw_901 tw_34 tw_902 (st := []) (Nat.le_of_ble_eq_true rfl) rfl dX7_without_7 (st1 := [.int (wq_b r1)]) rfl ?_
  refine wq_bif_ne hC dX7_without_10 (tgt := 16) (by decide) (fun z3 => ?_) (fun z3 => ?_)
  · have h := wq_ip z3 h
    refine wq_aload_n hC dX7_without_16 (i := 0) rfl rfl ?_
    refine wq_aload_n hC dX7_without_17 (i := 0) rfl rfl ?_
    refine gf_7 hC oR_0 5 (.ref (E.2.1 4)) (by decide) rfl tw_723 dX7_without_18 ?_
    refine wq_iload_n hC dX7_without_21 (i := 1) rfl rfl ?_
    obtain ⟨r4, hc5, h⟩ := wq_ob h
    refine cv_7 hC (ctX7_laysBest (d := d - 1) (by omega) aR_4 hc5) (by omega) (by decide) oR_0 rfl rfl npX7_laysBest tw_916 tw_918 tw_37 tw_919 (st := []) (Nat.le_of_ble_eq_true rfl) rfl dX7_without_22 (st1 := [.int r4.1]) rfl ?_
    refine wq_istore_n hC dX7_without_25 (i := 2) (lv' := [some (.ref (E.2.1 0)), some (.int x1), some (.int r4.1)]) rfl (by decide) rfl ?_
    refine wq_iload_n hC dX7_without_26 (i := 2) rfl rfl ?_
    refine wq_ldc hC (v := 1000000000) tw_927 dX7_without_27 ?_
    refine wq_icmp_ne hC dX7_without_29 (tgt := 37) (by decide) (fun z6 => ?_) (fun z6 => ?_)
    · have h := wq_in_ z6 h
      refine wq_iload_n hC dX7_without_37 (i := 2) rfl rfl ?_
      refine wq_bipush hC (v := 100) dX7_without_38 (by decide) ?_
      refine wq_idiv hC dX7_without_40 (by decide) ?_
      have h := Option.some.inj h
      subst h
      exact wq_iret hC dX7_without_41 K.1 K.2
    · have h := wq_ip z6 h
      refine wq_ldc hC (v := (-1000000)) tw_850 dX7_without_32 ?_
      refine wq_goto hC dX7_without_34 (tgt := 41) (by decide) ?_
      have h := Option.some.inj h
      subst h
      exact wq_iret hC dX7_without_41 K.1 K.2
  · have h := wq_in_ z3 h
    refine wq_ldc hC (v := (-1000001)) tw_810 dX7_without_13 ?_
    have h := Option.some.inj h
    subst h
    exact wq_iret hC dX7_without_15 K.1 K.2
theorem npX7_most : yX7_most.cls ≠ "java/lang/invoke/MethodHandle" ∧ yX7_most.cls ≠ "java/lang/invoke/VarHandle" ∧ (parseMethodDescriptor yX7_most.desc).map (fun d => d.parameters.length) = some 1 := by decide +kernel
def fX7_most_L44_J61 (x1 : Int32) (x2 : Int32) (y0 : Int32) (M : wq_M) : Option ((Int32 × wq_M) ⊕ ((Int32 × wq_M) ⊕ wq_M)) :=
  if wq_in y0 44 then (fX7_manyHold 6 (wq_st M 6 y0.toNatClampNeg x2)).bind fun r13 => if wq_in 0 44 then (if r13 = ((wq_st M 6 y0.toNatClampNeg x2).1 6 (0 : Int32).toNatClampNeg) then
    some (.inr (.inl (x2, (wq_st M 6 y0.toNatClampNeg x2))))
  else
    some (.inl ((x2 + (-1)), (wq_st M 6 y0.toNatClampNeg x2)))) else none else none
set_option maxHeartbeats 4000000 in
set_option maxRecDepth 100000 in
theorem gX7_most_L44_J61 {g : wq_G} {E : wq_E} {d : Nat} (hC : wq_C g E wq_yR cX7_most 3 "WellPipesModel" (some .int) d) (hd0 : 6 ≤ d) (x1 : Int32) (x2 : Int32) (y0 : Int32) (M : wq_M)  {x : ((Int32 × wq_M) ⊕ ((Int32 × wq_M) ⊕ wq_M))} (h : fX7_most_L44_J61 x1 x2 y0 M = some x) (K : (Sum.elim (fun (s : (Int32 × wq_M)) => wq_g g E wq_yR 3 44 [some (.ref (E.2.1 0)), some (.int x1), some (.int s.1)] [] s.2) (Sum.elim (wq_kI g) (fun (e : wq_M) => wq_g g E wq_yR 3 87 [none, none, none] [] e))) x) : wq_g g E wq_yR 3 61 [some (.ref (E.2.1 0)), some (.int x1), some (.int x2)] [.int y0, .ref (E.2.1 6)] M := by
  unfold fX7_most_L44_J61 at h
  refine wq_iload_n hC dX7_most_61 (i := 2) rfl rfl ?_
  obtain ⟨z12, h⟩ := wq_ii h
  refine wq_ast hC aR_6 z12 dX7_most_62 ?_
  refine wq_aload_n hC dX7_most_63 (i := 0) rfl rfl ?_
  refine gf_7 hC oR_0 7 (.ref (E.2.1 6)) (by decide) rfl tw_725 dX7_most_64 ?_
  obtain ⟨r13, hc14, h⟩ := wq_ob h
  refine wq_callS hC (ctX7_manyHold (d := d - 1) (by omega) aR_6 hc14) (by omega) (by decide) rfl npX7_manyHold tw_1020 tw_1021 tw_58 tw_1022 (st := []) (Nat.le_of_ble_eq_true rfl) rfl dX7_most_67 (st1 := [.int r13]) rfl ?_
  refine wq_aload_n hC dX7_most_70 (i := 0) rfl rfl ?_
  refine gf_7 hC oR_0 7 (.ref (E.2.1 6)) (by decide) rfl tw_725 dX7_most_71 ?_
  refine wq_iconst hC (v := 0) dX7_most_74 (by decide) ?_
  obtain ⟨z15, h⟩ := wq_ii h
  refine wq_ald hC aR_6 z15 dX7_most_75 ?_
  refine wq_icmp_ne hC dX7_most_76 (tgt := 81) (by decide) (fun z16 => ?_) (fun z16 => ?_)
  · have h := wq_in_ z16 h
    refine wq_iinc hC (v := (x2 + (-1))) dX7_most_81 (lv' := [some (.ref (E.2.1 0)), some (.int x1), some (.int (x2 + (-1)))]) rfl rfl (by decide) rfl ?_
    refine wq_goto hC dX7_most_84 (tgt := 44) (by decide) ?_
    have h := Option.some.inj h
    subst h
    exact K
  · have h := wq_ip z16 h
    refine wq_iload_n hC dX7_most_79 (i := 2) rfl rfl ?_
    have h := Option.some.inj h
    subst h
    exact wq_iret hC dX7_most_80 K.1 K.2
def fX7_most_L44 (x1 : Int32) : (Int32 × wq_M) → Option ((Int32 × wq_M) ⊕ ((Int32 × wq_M) ⊕ wq_M)) := fun s =>
  (if s.1 < 0 then
    some (.inr (.inr s.2))
  else
    (if x1 = 0 then
      fX7_most_L44_J61 x1 s.1 2 s.2
    else
      fX7_most_L44_J61 x1 s.1 3 s.2))
set_option maxHeartbeats 4000000 in
set_option maxRecDepth 100000 in
theorem gX7_most_L44 {g : wq_G} {E : wq_E} {d : Nat} (hC : wq_C g E wq_yR cX7_most 3 "WellPipesModel" (some .int) d) (hd0 : 6 ≤ d) (x1 : Int32)  : ∀ (n : Nat) (s : (Int32 × wq_M)) (e : ((Int32 × wq_M) ⊕ wq_M)), wq_lp (fX7_most_L44 x1) n s = some e → (Sum.elim (wq_kI g) (fun (e : wq_M) => wq_g g E wq_yR 3 87 [none, none, none] [] e)) e → wq_g g E wq_yR 3 44 [some (.ref (E.2.1 0)), some (.int x1), some (.int s.1)] [] s.2 := by
  refine wq_lq_ok (fun (s : (Int32 × wq_M)) => wq_g g E wq_yR 3 44 [some (.ref (E.2.1 0)), some (.int x1), some (.int s.1)] [] s.2) (Sum.elim (wq_kI g) (fun (e : wq_M) => wq_g g E wq_yR 3 87 [none, none, none] [] e)) (fun s x h K => ?_)
  unfold fX7_most_L44 at h
  refine wq_iload_n hC dX7_most_44 (i := 2) rfl rfl ?_
  refine wq_if_lt hC dX7_most_45 (tgt := 87) (by decide) (fun z10 => ?_) (fun z10 => ?_)
  · have h := wq_ip z10 h
    have h := Option.some.inj h
    subst h
    refine wq_mask [false, false, false] (lv' := [none, none, none]) rfl ?_
    exact K
  · have h := wq_in_ z10 h
    refine wq_aload_n hC dX7_most_48 (i := 0) rfl rfl ?_
    refine gf_7 hC oR_0 7 (.ref (E.2.1 6)) (by decide) rfl tw_725 dX7_most_49 ?_
    refine wq_iload_n hC dX7_most_52 (i := 1) rfl rfl ?_
    refine wq_if_ne hC dX7_most_53 (tgt := 60) (by decide) (fun z11 => ?_) (fun z11 => ?_)
    · have h := wq_in_ z11 h
      refine wq_iconst hC (v := 3) dX7_most_60 (by decide) ?_
      exact gX7_most_L44_J61 hC hd0 x1 s.1 3 s.2  h K
    · have h := wq_ip z11 h
      refine wq_iconst hC (v := 2) dX7_most_56 (by decide) ?_
      refine wq_goto hC dX7_most_57 (tgt := 61) (by decide) ?_
      exact gX7_most_L44_J61 hC hd0 x1 s.1 2 s.2  h K
def fX7_most_J43 (x1 : Int32) (y0 : Int32) (M : wq_M) : Option (Int32 × wq_M) :=
  (wq_lp (fX7_most_L44 x1) wq_FU (y0, M)).bind fun e17 => Sum.elim (fun x => some x) (fun e17n => some ((-1000000), e17n)) e17
set_option maxHeartbeats 4000000 in
set_option maxRecDepth 100000 in
theorem gX7_most_J43 {g : wq_G} {E : wq_E} {d : Nat} (hC : wq_C g E wq_yR cX7_most 3 "WellPipesModel" (some .int) d) (hd0 : 6 ≤ d) (x1 : Int32) (y0 : Int32) (M : wq_M)  {x : (Int32 × wq_M)} (h : fX7_most_J43 x1 y0 M = some x) (K : (wq_kI g) x) : wq_g g E wq_yR 3 43 [some (.ref (E.2.1 0)), some (.int x1), none] [.int y0] M := by
  unfold fX7_most_J43 at h
  refine wq_istore_n hC dX7_most_43 (i := 2) (lv' := [some (.ref (E.2.1 0)), some (.int x1), some (.int y0)]) rfl (by decide) rfl ?_
  obtain ⟨e17, hl18, h⟩ := wq_ob h
  refine gX7_most_L44 hC hd0 x1  wq_FU _ _ hl18 ?_
  rcases e17 with e17x | e17n
  · have h := Option.some.inj h
    subst h
    exact K
  · refine wq_ldc hC (v := (-1000000)) tw_850 dX7_most_87 ?_
    have h := Option.some.inj h
    subst h
    exact wq_iret hC dX7_most_89 K.1 K.2
def fX7_most (x1 : Int32) (M : wq_M) : Option (Int32 × wq_M) :=
  (fX7_isThere  (wq_st M 0 0 0)).bind fun r1 => (if r1 = true then
    (fX7_in x1.toInt64 (0 : Int64) (1 : Int64) (wq_st M 0 0 0)).bind fun r4 => (if r4 = true then
      (fX7_layThen  (wq_st M 0 0 0)).bind fun r7 => (if x1 = 0 then
        fX7_most_J43 x1 40 r7
      else
        fX7_most_J43 x1 99 r7)
    else
      some ((-1000001), (wq_st M 0 0 0)))
  else
    some ((-1000002), (wq_st M 0 0 0)))
set_option maxHeartbeats 4000000 in
set_option maxRecDepth 100000 in
theorem ctX7_most {l : Launch} {E : wq_E} {d : Nat} (hd0 : 6 ≤ d) {x1 : Int32} {M : wq_M} {r : (Int32 × wq_M)}  (h : fX7_most x1 M = some r) : wq_ct l E wq_yR yX7_most cX7_most 3 (some .int) d [.ref (E.2.1 0), .int x1] M (some (.int r.1)) r.2 := by
  refine wq_ent (own := "WellPipesModel") (lv0 := [some (.ref (E.2.1 0)), some (.int x1), none]) (by decide +kernel) rfl (Nat.le_of_ble_eq_true rfl) rfl (fun g h1 h2 hC => ?_)
  have K : wq_kI g r := ⟨h1, h2⟩
  unfold fX7_most at h
  refine wq_aload_n hC dX7_most_0 (i := 0) rfl rfl ?_
  refine wq_iconst hC (v := 0) dX7_most_1 (by decide) ?_
  refine pf_7_0 hC oR_0 tw_718 dX7_most_2 ?_
  refine wq_aload_n hC dX7_most_5 (i := 0) rfl rfl ?_
  obtain ⟨r1, hc2, h⟩ := wq_ob h
  refine cv_7 hC (ctX7_isThere (d := d - 1) (by omega)  hc2) (by omega) (by decide) oR_0 rfl rfl npX7_isThere tw_912 tw_914 tw_36 tw_915 (st := []) (Nat.le_of_ble_eq_true rfl) rfl dX7_most_6 (st1 := [.int (wq_b r1)]) rfl ?_
  refine wq_bif_ne hC dX7_most_9 (tgt := 15) (by decide) (fun z3 => ?_) (fun z3 => ?_)
  · have h := wq_ip z3 h
    refine wq_iload_n hC dX7_most_15 (i := 1) rfl rfl ?_
    refine wq_i2l hC dX7_most_16 ?_
    refine wq_lconst hC (v := 0) dX7_most_17 (by decide) ?_
    refine wq_lconst hC (v := 1) dX7_most_18 (by decide) ?_
    obtain ⟨r4, hc5, h⟩ := wq_ob h
    refine wq_callS hC (ctX7_in (d := d - 1) (by omega)  hc5) (by omega) (by decide) rfl npX7_in tw_806 tw_807 tw_58 tw_808 (st := []) (Nat.le_of_ble_eq_true rfl) rfl dX7_most_19 (st1 := [.int (wq_b r4)]) rfl ?_
    refine wq_bif_ne hC dX7_most_22 (tgt := 28) (by decide) (fun z6 => ?_) (fun z6 => ?_)
    · have h := wq_ip z6 h
      refine wq_aload_n hC dX7_most_28 (i := 0) rfl rfl ?_
      obtain ⟨r7, hc8, h⟩ := wq_ob h
      refine cv_7 hC (ctX7_layThen (d := d - 1) (by omega)  hc8) (by omega) (by decide) oR_0 rfl rfl npX7_layThen tw_1016 tw_1018 tw_41 tw_1019 (st := []) (Nat.le_of_ble_eq_true rfl) rfl dX7_most_29 (st1 := []) rfl ?_
      refine wq_iload_n hC dX7_most_32 (i := 1) rfl rfl ?_
      refine wq_if_ne hC dX7_most_33 (tgt := 41) (by decide) (fun z9 => ?_) (fun z9 => ?_)
      · have h := wq_in_ z9 h
        refine wq_bipush hC (v := 99) dX7_most_41 (by decide) ?_
        exact gX7_most_J43 hC hd0 x1 99 r7  h K
      · have h := wq_ip z9 h
        refine wq_bipush hC (v := 40) dX7_most_36 (by decide) ?_
        refine wq_goto hC dX7_most_38 (tgt := 43) (by decide) ?_
        exact gX7_most_J43 hC hd0 x1 40 r7  h K
    · have h := wq_in_ z6 h
      refine wq_ldc hC (v := (-1000001)) tw_810 dX7_most_25 ?_
      have h := Option.some.inj h
      subst h
      exact wq_iret hC dX7_most_27 K.1 K.2
  · have h := wq_in_ z3 h
    refine wq_ldc hC (v := (-1000002)) tw_903 dX7_most_12 ?_
    have h := Option.some.inj h
    subst h
    exact wq_iret hC dX7_most_14 K.1 K.2
theorem npX7_need : yX7_need.cls ≠ "java/lang/invoke/MethodHandle" ∧ yX7_need.cls ≠ "java/lang/invoke/VarHandle" ∧ (parseMethodDescriptor yX7_need.desc).map (fun d => d.parameters.length) = some 1 := by decide +kernel
def fX7_need_L24 (x1 : Int32) : (Int32 × Int32 × wq_M) → Option ((Int32 × Int32 × wq_M) ⊕ (Int32 × wq_M)) := fun s =>
  if wq_in 5 44 then (if (s.2.2.1 4 (5 : Int32).toNatClampNeg) ≤ s.2.1 then
    some (.inr (s.1, s.2.2))
  else
    if wq_in (36 + x1) 44 then (fX7_holds 6 x1 (wq_st s.2.2 6 (36 + x1).toNatClampNeg s.2.1)).bind fun r9 => (if r9 = true then
      some (.inl ((s.1 ||| (1 <<< (s.2.1 &&& 31))), (s.2.1 + 1), (wq_st s.2.2 6 (36 + x1).toNatClampNeg s.2.1)))
    else
      some (.inl ((s.1 ||| 0), (s.2.1 + 1), (wq_st s.2.2 6 (36 + x1).toNatClampNeg s.2.1)))) else none) else none
set_option maxHeartbeats 4000000 in
set_option maxRecDepth 100000 in
theorem gX7_need_L24 {g : wq_G} {E : wq_E} {d : Nat} (hC : wq_C g E wq_yR cX7_need 4 "WellPipesModel" (some .int) d) (hd0 : 5 ≤ d) (x1 : Int32)  : ∀ (n : Nat) (s : (Int32 × Int32 × wq_M)) (e : (Int32 × wq_M)), wq_lp (fX7_need_L24 x1) n s = some e → (fun (e : (Int32 × wq_M)) => wq_g g E wq_yR 4 71 [none, none, some (.int e.1), none] [] e.2) e → wq_g g E wq_yR 4 24 [some (.ref (E.2.1 0)), some (.int x1), some (.int s.1), some (.int s.2.1)] [] s.2.2 := by
  refine wq_lq_ok (fun (s : (Int32 × Int32 × wq_M)) => wq_g g E wq_yR 4 24 [some (.ref (E.2.1 0)), some (.int x1), some (.int s.1), some (.int s.2.1)] [] s.2.2) (fun (e : (Int32 × wq_M)) => wq_g g E wq_yR 4 71 [none, none, some (.int e.1), none] [] e.2) (fun s x h K => ?_)
  unfold fX7_need_L24 at h
  refine wq_iload_n hC dX7_need_24 (i := 3) rfl rfl ?_
  refine wq_aload_n hC dX7_need_25 (i := 0) rfl rfl ?_
  refine gf_7 hC oR_0 5 (.ref (E.2.1 4)) (by decide) rfl tw_723 dX7_need_26 ?_
  refine wq_iconst hC (v := 5) dX7_need_29 (by decide) ?_
  obtain ⟨z6, h⟩ := wq_ii h
  refine wq_ald hC aR_4 z6 dX7_need_30 ?_
  refine wq_icmp_ge hC dX7_need_31 (tgt := 71) (by decide) (fun z7 => ?_) (fun z7 => ?_)
  · have h := wq_ip z7 h
    have h := Option.some.inj h
    subst h
    refine wq_mask [false, false, true, false] (lv' := [none, none, some (.int s.1), none]) rfl ?_
    exact K
  · have h := wq_in_ z7 h
    refine wq_aload_n hC dX7_need_34 (i := 0) rfl rfl ?_
    refine gf_7 hC oR_0 7 (.ref (E.2.1 6)) (by decide) rfl tw_725 dX7_need_35 ?_
    refine wq_bipush hC (v := 36) dX7_need_38 (by decide) ?_
    refine wq_iload_n hC dX7_need_40 (i := 1) rfl rfl ?_
    refine wq_iadd hC dX7_need_41 ?_
    refine wq_iload_n hC dX7_need_42 (i := 3) rfl rfl ?_
    obtain ⟨z8, h⟩ := wq_ii h
    refine wq_ast hC aR_6 z8 dX7_need_43 ?_
    refine wq_iload_n hC dX7_need_44 (i := 2) rfl rfl ?_
    refine wq_aload_n hC dX7_need_45 (i := 0) rfl rfl ?_
    refine gf_7 hC oR_0 7 (.ref (E.2.1 6)) (by decide) rfl tw_725 dX7_need_46 ?_
    refine wq_iload_n hC dX7_need_49 (i := 1) rfl rfl ?_
    obtain ⟨r9, hc10, h⟩ := wq_ob h
    refine wq_callS hC (ctX7_holds (d := d - 1) (by omega) aR_6 hc10) (by omega) (by decide) rfl npX7_holds tw_983 tw_984 tw_58 tw_985 (st := [.int s.1]) (Nat.le_of_ble_eq_true rfl) rfl dX7_need_50 (st1 := [.int (wq_b r9), .int s.1]) rfl ?_
    refine wq_bif_eq hC dX7_need_53 (tgt := 62) (by decide) (fun z11 => ?_) (fun z11 => ?_)
    · have h := wq_in_ z11 h
      refine wq_iconst hC (v := 0) dX7_need_62 (by decide) ?_
      refine wq_ior hC dX7_need_63 ?_
      refine wq_istore_n hC dX7_need_64 (i := 2) (lv' := [some (.ref (E.2.1 0)), some (.int x1), some (.int (s.1 ||| 0)), some (.int s.2.1)]) rfl (by decide) rfl ?_
      refine wq_iinc hC (v := (s.2.1 + 1)) dX7_need_65 (lv' := [some (.ref (E.2.1 0)), some (.int x1), some (.int (s.1 ||| 0)), some (.int (s.2.1 + 1))]) rfl rfl (by decide) rfl ?_
      refine wq_goto hC dX7_need_68 (tgt := 24) (by decide) ?_
      have h := Option.some.inj h
      subst h
      exact K
    · have h := wq_ip z11 h
      refine wq_iconst hC (v := 1) dX7_need_56 (by decide) ?_
      refine wq_iload_n hC dX7_need_57 (i := 3) rfl rfl ?_
      refine wq_ishl hC dX7_need_58 ?_
      refine wq_goto hC dX7_need_59 (tgt := 63) (by decide) ?_
      refine wq_ior hC dX7_need_63 ?_
      refine wq_istore_n hC dX7_need_64 (i := 2) (lv' := [some (.ref (E.2.1 0)), some (.int x1), some (.int (s.1 ||| (1 <<< (s.2.1 &&& 31)))), some (.int s.2.1)]) rfl (by decide) rfl ?_
      refine wq_iinc hC (v := (s.2.1 + 1)) dX7_need_65 (lv' := [some (.ref (E.2.1 0)), some (.int x1), some (.int (s.1 ||| (1 <<< (s.2.1 &&& 31)))), some (.int (s.2.1 + 1))]) rfl rfl (by decide) rfl ?_
      refine wq_goto hC dX7_need_68 (tgt := 24) (by decide) ?_
      have h := Option.some.inj h
      subst h
      exact K
def fX7_need (x1 : Int32) (M : wq_M) : Option (Int32 × wq_M) :=
  (fX7_isStep x1 (wq_st M 0 0 0)).bind fun r1 => (if r1 = true then
    (fX7_layThen  (wq_st M 0 0 0)).bind fun r4 => (wq_lp (fX7_need_L24 x1) wq_FU (0, 0, r4)).bind fun e12 => some (e12.1, e12.2)
  else
    some ((-1000001), (wq_st M 0 0 0)))
set_option maxHeartbeats 4000000 in
set_option maxRecDepth 100000 in
theorem ctX7_need {l : Launch} {E : wq_E} {d : Nat} (hd0 : 5 ≤ d) {x1 : Int32} {M : wq_M} {r : (Int32 × wq_M)}  (h : fX7_need x1 M = some r) : wq_ct l E wq_yR yX7_need cX7_need 4 (some .int) d [.ref (E.2.1 0), .int x1] M (some (.int r.1)) r.2 := by
  refine wq_ent (own := "WellPipesModel") (lv0 := [some (.ref (E.2.1 0)), some (.int x1), none, none]) (by decide +kernel) rfl (Nat.le_of_ble_eq_true rfl) rfl (fun g h1 h2 hC => ?_)
  have K : wq_kI g r := ⟨h1, h2⟩
  unfold fX7_need at h
  refine wq_aload_n hC dX7_need_0 (i := 0) rfl rfl ?_
  refine wq_iconst hC (v := 0) dX7_need_1 (by decide) ?_
  refine pf_7_0 hC oR_0 tw_718 dX7_need_2 ?_
  refine wq_aload_n hC dX7_need_5 (i := 0) rfl rfl ?_
  refine wq_iload_n hC dX7_need_6 (i := 1) rfl rfl ?_
  obtain ⟨r1, hc2, h⟩ := wq_ob h
  refine cv_7 hC (ctX7_isStep (d := d - 1) (by omega)  hc2) (by omega) (by decide) oR_0 rfl rfl npX7_isStep tw_895 tw_897 tw_33 tw_898 (st := []) (Nat.le_of_ble_eq_true rfl) rfl dX7_need_7 (st1 := [.int (wq_b r1)]) rfl ?_
  refine wq_bif_ne hC dX7_need_10 (tgt := 16) (by decide) (fun z3 => ?_) (fun z3 => ?_)
  · have h := wq_ip z3 h
    refine wq_iconst hC (v := 0) dX7_need_16 (by decide) ?_
    refine wq_istore_n hC dX7_need_17 (i := 2) (lv' := [some (.ref (E.2.1 0)), some (.int x1), some (.int 0), none]) rfl (by decide) rfl ?_
    refine wq_aload_n hC dX7_need_18 (i := 0) rfl rfl ?_
    obtain ⟨r4, hc5, h⟩ := wq_ob h
    refine cv_7 hC (ctX7_layThen (d := d - 1) (by omega)  hc5) (by omega) (by decide) oR_0 rfl rfl npX7_layThen tw_1016 tw_1018 tw_41 tw_1019 (st := []) (Nat.le_of_ble_eq_true rfl) rfl dX7_need_19 (st1 := []) rfl ?_
    refine wq_iconst hC (v := 0) dX7_need_22 (by decide) ?_
    refine wq_istore_n hC dX7_need_23 (i := 3) (lv' := [some (.ref (E.2.1 0)), some (.int x1), some (.int 0), some (.int 0)]) rfl (by decide) rfl ?_
    obtain ⟨e12, hl13, h⟩ := wq_ob h
    refine gX7_need_L24 hC hd0 x1  wq_FU _ _ hl13 ?_
    refine wq_iload_n hC dX7_need_71 (i := 2) rfl rfl ?_
    have h := Option.some.inj h
    subst h
    exact wq_iret hC dX7_need_72 K.1 K.2
  · have h := wq_in_ z3 h
    refine wq_ldc hC (v := (-1000001)) tw_810 dX7_need_13 ?_
    have h := Option.some.inj h
    subst h
    exact wq_iret hC dX7_need_15 K.1 K.2
theorem npX7_sets : yX7_sets.cls ≠ "java/lang/invoke/MethodHandle" ∧ yX7_sets.cls ≠ "java/lang/invoke/VarHandle" ∧ (parseMethodDescriptor yX7_sets.desc).map (fun d => d.parameters.length) = some 2 := by decide +kernel
def fX7_sets_L53_L75_J145 (x1 : Int32) (x2 : Int32) (x3 : Int32) (x4 : Int32) (x5 : Int32) (x6 : Int32) (x8 : Int32) (x9 : Int32) (x10 : Int32) (y0 : Int32) (y1 : Int32) (M : wq_M) : Option ((Int32 × Int32 × Int32) ⊕ (Int32 × Int32)) :=
  (if x8 = 0 then
    some (.inl ((y1 + y0), 0, (x9 + 1)))
  else
    (fX7_has x6 x9 M).bind fun r20 => (if r20 = true then
      (if x10 = 0 then
        some (.inl ((y1 + y0), 1, (x9 + 1)))
      else
        some (.inl ((y1 + y0), 0, (x9 + 1))))
    else
      some (.inl ((y1 + y0), 1, (x9 + 1)))))
set_option maxHeartbeats 4000000 in
set_option maxRecDepth 100000 in
theorem gX7_sets_L53_L75_J145 {g : wq_G} {E : wq_E} {d : Nat} (hC : wq_C g E wq_yR cX7_sets 11 "WellPipesModel" (some .int) d) (hd0 : 1 ≤ d) (x1 : Int32) (x2 : Int32) (x3 : Int32) (x4 : Int32) (x5 : Int32) (x6 : Int32) (x8 : Int32) (x9 : Int32) (x10 : Int32) (y0 : Int32) (y1 : Int32) (M : wq_M)  {x : ((Int32 × Int32 × Int32) ⊕ (Int32 × Int32))} (h : fX7_sets_L53_L75_J145 x1 x2 x3 x4 x5 x6 x8 x9 x10 y0 y1 M = some x) (K : (Sum.elim (fun (s : (Int32 × Int32 × Int32)) => wq_g g E wq_yR 11 75 [some (.ref (E.2.1 0)), some (.int x1), some (.int x2), some (.int x3), some (.int x4), some (.int x5), some (.int x6), some (.int s.1), some (.int s.2.1), some (.int s.2.2), none] [] M) (fun (e : (Int32 × Int32)) => wq_g g E wq_yR 11 181 [some (.ref (E.2.1 0)), some (.int x1), some (.int x2), some (.int x3), some (.int x4), some (.int x5), some (.int x6), some (.int e.1), some (.int e.2), none, none] [] M)) x) : wq_g g E wq_yR 11 145 [some (.ref (E.2.1 0)), some (.int x1), some (.int x2), some (.int x3), some (.int x4), some (.int x5), some (.int x6), none, some (.int x8), some (.int x9), some (.int x10)] [.int y0, .int y1] M := by
  unfold fX7_sets_L53_L75_J145 at h
  refine wq_iadd hC dX7_sets_145 ?_
  refine wq_istore hC dX7_sets_146 (lv' := [some (.ref (E.2.1 0)), some (.int x1), some (.int x2), some (.int x3), some (.int x4), some (.int x5), some (.int x6), some (.int (y1 + y0)), some (.int x8), some (.int x9), some (.int x10)]) (by decide) rfl ?_
  refine wq_iload hC dX7_sets_148 rfl ?_
  refine wq_if_eq hC dX7_sets_150 (tgt := 172) (by decide) (fun z19 => ?_) (fun z19 => ?_)
  · have h := wq_ip z19 h
    refine wq_iconst hC (v := 0) dX7_sets_172 (by decide) ?_
    refine wq_istore hC dX7_sets_173 (lv' := [some (.ref (E.2.1 0)), some (.int x1), some (.int x2), some (.int x3), some (.int x4), some (.int x5), some (.int x6), some (.int (y1 + y0)), some (.int 0), some (.int x9), some (.int x10)]) (by decide) rfl ?_
    refine wq_iinc hC (v := (x9 + 1)) dX7_sets_175 (lv' := [some (.ref (E.2.1 0)), some (.int x1), some (.int x2), some (.int x3), some (.int x4), some (.int x5), some (.int x6), some (.int (y1 + y0)), some (.int 0), some (.int (x9 + 1)), some (.int x10)]) rfl rfl (by decide) rfl ?_
    refine wq_goto hC dX7_sets_178 (tgt := 75) (by decide) ?_
    have h := Option.some.inj h
    subst h
    refine wq_mask [true, true, true, true, true, true, true, true, true, true, false] (lv' := [some (.ref (E.2.1 0)), some (.int x1), some (.int x2), some (.int x3), some (.int x4), some (.int x5), some (.int x6), some (.int (y1 + y0)), some (.int 0), some (.int (x9 + 1)), none]) rfl ?_
    exact K
  · have h := wq_in_ z19 h
    refine wq_iload hC dX7_sets_153 rfl ?_
    refine wq_iload hC dX7_sets_155 rfl ?_
    obtain ⟨r20, hc21, h⟩ := wq_ob h
    refine wq_callS hC (ctX7_has (d := d - 1) (by omega)  hc21) (by omega) (by decide) rfl npX7_has tw_1032 tw_1033 tw_58 tw_1034 (st := []) (Nat.le_of_ble_eq_true rfl) rfl dX7_sets_157 (st1 := [.int (wq_b r20)]) rfl ?_
    refine wq_bif_eq hC dX7_sets_160 (tgt := 168) (by decide) (fun z22 => ?_) (fun z22 => ?_)
    · have h := wq_in_ z22 h
      refine wq_iconst hC (v := 1) dX7_sets_168 (by decide) ?_
      refine wq_goto hC dX7_sets_169 (tgt := 173) (by decide) ?_
      refine wq_istore hC dX7_sets_173 (lv' := [some (.ref (E.2.1 0)), some (.int x1), some (.int x2), some (.int x3), some (.int x4), some (.int x5), some (.int x6), some (.int (y1 + y0)), some (.int 1), some (.int x9), some (.int x10)]) (by decide) rfl ?_
      refine wq_iinc hC (v := (x9 + 1)) dX7_sets_175 (lv' := [some (.ref (E.2.1 0)), some (.int x1), some (.int x2), some (.int x3), some (.int x4), some (.int x5), some (.int x6), some (.int (y1 + y0)), some (.int 1), some (.int (x9 + 1)), some (.int x10)]) rfl rfl (by decide) rfl ?_
      refine wq_goto hC dX7_sets_178 (tgt := 75) (by decide) ?_
      have h := Option.some.inj h
      subst h
      refine wq_mask [true, true, true, true, true, true, true, true, true, true, false] (lv' := [some (.ref (E.2.1 0)), some (.int x1), some (.int x2), some (.int x3), some (.int x4), some (.int x5), some (.int x6), some (.int (y1 + y0)), some (.int 1), some (.int (x9 + 1)), none]) rfl ?_
      exact K
    · have h := wq_ip z22 h
      refine wq_iload hC dX7_sets_163 rfl ?_
      refine wq_if_ne hC dX7_sets_165 (tgt := 172) (by decide) (fun z23 => ?_) (fun z23 => ?_)
      · have h := wq_in_ z23 h
        refine wq_iconst hC (v := 0) dX7_sets_172 (by decide) ?_
        refine wq_istore hC dX7_sets_173 (lv' := [some (.ref (E.2.1 0)), some (.int x1), some (.int x2), some (.int x3), some (.int x4), some (.int x5), some (.int x6), some (.int (y1 + y0)), some (.int 0), some (.int x9), some (.int x10)]) (by decide) rfl ?_
        refine wq_iinc hC (v := (x9 + 1)) dX7_sets_175 (lv' := [some (.ref (E.2.1 0)), some (.int x1), some (.int x2), some (.int x3), some (.int x4), some (.int x5), some (.int x6), some (.int (y1 + y0)), some (.int 0), some (.int (x9 + 1)), some (.int x10)]) rfl rfl (by decide) rfl ?_
        refine wq_goto hC dX7_sets_178 (tgt := 75) (by decide) ?_
        have h := Option.some.inj h
        subst h
        refine wq_mask [true, true, true, true, true, true, true, true, true, true, false] (lv' := [some (.ref (E.2.1 0)), some (.int x1), some (.int x2), some (.int x3), some (.int x4), some (.int x5), some (.int x6), some (.int (y1 + y0)), some (.int 0), some (.int (x9 + 1)), none]) rfl ?_
        exact K
      · have h := wq_ip z23 h
        refine wq_iconst hC (v := 1) dX7_sets_168 (by decide) ?_
        refine wq_goto hC dX7_sets_169 (tgt := 173) (by decide) ?_
        refine wq_istore hC dX7_sets_173 (lv' := [some (.ref (E.2.1 0)), some (.int x1), some (.int x2), some (.int x3), some (.int x4), some (.int x5), some (.int x6), some (.int (y1 + y0)), some (.int 1), some (.int x9), some (.int x10)]) (by decide) rfl ?_
        refine wq_iinc hC (v := (x9 + 1)) dX7_sets_175 (lv' := [some (.ref (E.2.1 0)), some (.int x1), some (.int x2), some (.int x3), some (.int x4), some (.int x5), some (.int x6), some (.int (y1 + y0)), some (.int 1), some (.int (x9 + 1)), some (.int x10)]) rfl rfl (by decide) rfl ?_
        refine wq_goto hC dX7_sets_178 (tgt := 75) (by decide) ?_
        have h := Option.some.inj h
        subst h
        refine wq_mask [true, true, true, true, true, true, true, true, true, true, false] (lv' := [some (.ref (E.2.1 0)), some (.int x1), some (.int x2), some (.int x3), some (.int x4), some (.int x5), some (.int x6), some (.int (y1 + y0)), some (.int 1), some (.int (x9 + 1)), none]) rfl ?_
        exact K
def fX7_sets_L53_L75_J144 (x1 : Int32) (x2 : Int32) (x3 : Int32) (x4 : Int32) (x5 : Int32) (x6 : Int32) (x8 : Int32) (x9 : Int32) (x10 : Int32) (y0 : Int32) (M : wq_M) : Option ((Int32 × Int32 × Int32) ⊕ (Int32 × Int32)) :=
  fX7_sets_L53_L75_J145 x1 x2 x3 x4 x5 x6 x8 x9 x10 0 y0 M
set_option maxHeartbeats 4000000 in
set_option maxRecDepth 100000 in
theorem gX7_sets_L53_L75_J144 {g : wq_G} {E : wq_E} {d : Nat} (hC : wq_C g E wq_yR cX7_sets 11 "WellPipesModel" (some .int) d) (hd0 : 1 ≤ d) (x1 : Int32) (x2 : Int32) (x3 : Int32) (x4 : Int32) (x5 : Int32) (x6 : Int32) (x8 : Int32) (x9 : Int32) (x10 : Int32) (y0 : Int32) (M : wq_M)  {x : ((Int32 × Int32 × Int32) ⊕ (Int32 × Int32))} (h : fX7_sets_L53_L75_J144 x1 x2 x3 x4 x5 x6 x8 x9 x10 y0 M = some x) (K : (Sum.elim (fun (s : (Int32 × Int32 × Int32)) => wq_g g E wq_yR 11 75 [some (.ref (E.2.1 0)), some (.int x1), some (.int x2), some (.int x3), some (.int x4), some (.int x5), some (.int x6), some (.int s.1), some (.int s.2.1), some (.int s.2.2), none] [] M) (fun (e : (Int32 × Int32)) => wq_g g E wq_yR 11 181 [some (.ref (E.2.1 0)), some (.int x1), some (.int x2), some (.int x3), some (.int x4), some (.int x5), some (.int x6), some (.int e.1), some (.int e.2), none, none] [] M)) x) : wq_g g E wq_yR 11 144 [some (.ref (E.2.1 0)), some (.int x1), some (.int x2), some (.int x3), some (.int x4), some (.int x5), some (.int x6), none, some (.int x8), some (.int x9), some (.int x10)] [.int y0] M := by
  unfold fX7_sets_L53_L75_J144 at h
  refine wq_iconst hC (v := 0) dX7_sets_144 (by decide) ?_
  exact gX7_sets_L53_L75_J145 hC hd0 x1 x2 x3 x4 x5 x6 x8 x9 x10 0 y0 M  h K
def fX7_sets_L53_L75_J104 (x1 : Int32) (x2 : Int32) (x3 : Int32) (x4 : Int32) (x5 : Int32) (x6 : Int32) (x7 : Int32) (x8 : Int32) (x9 : Int32) (y0 : Int32) (M : wq_M) : Option ((Int32 × Int32 × Int32) ⊕ (Int32 × Int32)) :=
  (fX7_has x6 x9 M).bind fun r16 => (if r16 = true then
    (if y0 = 0 then
      if wq_in (36 + x9) 44 then (fX7_of 4 (M.1 4 (36 + x9).toNatClampNeg) 5 M).bind fun r26 => fX7_sets_L53_L75_J145 x1 x2 x3 x4 x5 x6 x8 x9 y0 r26 x7 M else none
    else
      fX7_sets_L53_L75_J144 x1 x2 x3 x4 x5 x6 x8 x9 y0 x7 M)
  else
    fX7_sets_L53_L75_J144 x1 x2 x3 x4 x5 x6 x8 x9 y0 x7 M)
set_option maxHeartbeats 4000000 in
set_option maxRecDepth 100000 in
theorem gX7_sets_L53_L75_J104 {g : wq_G} {E : wq_E} {d : Nat} (hC : wq_C g E wq_yR cX7_sets 11 "WellPipesModel" (some .int) d) (hd0 : 1 ≤ d) (x1 : Int32) (x2 : Int32) (x3 : Int32) (x4 : Int32) (x5 : Int32) (x6 : Int32) (x7 : Int32) (x8 : Int32) (x9 : Int32) (y0 : Int32) (M : wq_M)  {x : ((Int32 × Int32 × Int32) ⊕ (Int32 × Int32))} (h : fX7_sets_L53_L75_J104 x1 x2 x3 x4 x5 x6 x7 x8 x9 y0 M = some x) (K : (Sum.elim (fun (s : (Int32 × Int32 × Int32)) => wq_g g E wq_yR 11 75 [some (.ref (E.2.1 0)), some (.int x1), some (.int x2), some (.int x3), some (.int x4), some (.int x5), some (.int x6), some (.int s.1), some (.int s.2.1), some (.int s.2.2), none] [] M) (fun (e : (Int32 × Int32)) => wq_g g E wq_yR 11 181 [some (.ref (E.2.1 0)), some (.int x1), some (.int x2), some (.int x3), some (.int x4), some (.int x5), some (.int x6), some (.int e.1), some (.int e.2), none, none] [] M)) x) : wq_g g E wq_yR 11 104 [some (.ref (E.2.1 0)), some (.int x1), some (.int x2), some (.int x3), some (.int x4), some (.int x5), some (.int x6), some (.int x7), some (.int x8), some (.int x9), none] [.int y0] M := by
  unfold fX7_sets_L53_L75_J104 at h
  refine wq_istore hC dX7_sets_104 (lv' := [some (.ref (E.2.1 0)), some (.int x1), some (.int x2), some (.int x3), some (.int x4), some (.int x5), some (.int x6), some (.int x7), some (.int x8), some (.int x9), some (.int y0)]) (by decide) rfl ?_
  refine wq_iload hC dX7_sets_106 rfl ?_
  refine wq_iload hC dX7_sets_108 rfl ?_
  refine wq_iload hC dX7_sets_110 rfl ?_
  obtain ⟨r16, hc17, h⟩ := wq_ob h
  refine wq_callS hC (ctX7_has (d := d - 1) (by omega)  hc17) (by omega) (by decide) rfl npX7_has tw_1032 tw_1033 tw_58 tw_1034 (st := [.int x7]) (Nat.le_of_ble_eq_true rfl) rfl dX7_sets_112 (st1 := [.int (wq_b r16), .int x7]) rfl ?_
  refine wq_bif_eq hC dX7_sets_115 (tgt := 144) (by decide) (fun z18 => ?_) (fun z18 => ?_)
  · have h := wq_in_ z18 h
    refine wq_mask [true, true, true, true, true, true, true, false, true, true, true] (lv' := [some (.ref (E.2.1 0)), some (.int x1), some (.int x2), some (.int x3), some (.int x4), some (.int x5), some (.int x6), none, some (.int x8), some (.int x9), some (.int y0)]) rfl ?_
    exact gX7_sets_L53_L75_J144 hC hd0 x1 x2 x3 x4 x5 x6 x8 x9 y0 x7 M  h K
  · have h := wq_ip z18 h
    refine wq_iload hC dX7_sets_118 rfl ?_
    refine wq_if_ne hC dX7_sets_120 (tgt := 144) (by decide) (fun z24 => ?_) (fun z24 => ?_)
    · have h := wq_in_ z24 h
      refine wq_mask [true, true, true, true, true, true, true, false, true, true, true] (lv' := [some (.ref (E.2.1 0)), some (.int x1), some (.int x2), some (.int x3), some (.int x4), some (.int x5), some (.int x6), none, some (.int x8), some (.int x9), some (.int y0)]) rfl ?_
      exact gX7_sets_L53_L75_J144 hC hd0 x1 x2 x3 x4 x5 x6 x8 x9 y0 x7 M  h K
    · have h := wq_ip z24 h
      refine wq_aload_n hC dX7_sets_123 (i := 0) rfl rfl ?_
      refine gf_7 hC oR_0 5 (.ref (E.2.1 4)) (by decide) rfl tw_723 dX7_sets_124 ?_
      refine wq_aload_n hC dX7_sets_127 (i := 0) rfl rfl ?_
      refine gf_7 hC oR_0 5 (.ref (E.2.1 4)) (by decide) rfl tw_723 dX7_sets_128 ?_
      refine wq_bipush hC (v := 36) dX7_sets_131 (by decide) ?_
      refine wq_iload hC dX7_sets_133 rfl ?_
      refine wq_iadd hC dX7_sets_135 ?_
      obtain ⟨z25, h⟩ := wq_ii h
      refine wq_ald hC aR_4 z25 dX7_sets_136 ?_
      refine wq_iconst hC (v := 5) dX7_sets_137 (by decide) ?_
      obtain ⟨r26, hc27, h⟩ := wq_ob h
      refine wq_callS hC (ctX7_of (d := d - 1) (by omega) aR_4 hc27) (by omega) (by decide) rfl npX7_of tw_932 tw_933 tw_58 tw_934 (st := [.int x7]) (Nat.le_of_ble_eq_true rfl) rfl dX7_sets_138 (st1 := [.int r26, .int x7]) rfl ?_
      refine wq_goto hC dX7_sets_141 (tgt := 145) (by decide) ?_
      refine wq_mask [true, true, true, true, true, true, true, false, true, true, true] (lv' := [some (.ref (E.2.1 0)), some (.int x1), some (.int x2), some (.int x3), some (.int x4), some (.int x5), some (.int x6), none, some (.int x8), some (.int x9), some (.int y0)]) rfl ?_
      exact gX7_sets_L53_L75_J145 hC hd0 x1 x2 x3 x4 x5 x6 x8 x9 y0 r26 x7 M  h K
def fX7_sets_L53_L75 (x1 : Int32) (x2 : Int32) (x3 : Int32) (x4 : Int32) (x5 : Int32) (x6 : Int32) (M : wq_M) : (Int32 × Int32 × Int32) → Option ((Int32 × Int32 × Int32) ⊕ (Int32 × Int32)) := fun s =>
  if wq_in 0 44 then (if (M.1 4 (0 : Int32).toNatClampNeg) ≤ s.2.2 then
    some (.inr (s.1, s.2.1))
  else
    if wq_in (36 + s.2.2) 44 then (if 0 ≤ (M.1 4 (36 + s.2.2).toNatClampNeg) then
      fX7_sets_L53_L75_J104 x1 x2 x3 x4 x5 x6 s.1 s.2.1 s.2.2 0 M
    else
      fX7_sets_L53_L75_J104 x1 x2 x3 x4 x5 x6 s.1 s.2.1 s.2.2 1 M) else none) else none
set_option maxHeartbeats 4000000 in
set_option maxRecDepth 100000 in
theorem gX7_sets_L53_L75 {g : wq_G} {E : wq_E} {d : Nat} (hC : wq_C g E wq_yR cX7_sets 11 "WellPipesModel" (some .int) d) (hd0 : 1 ≤ d) (x1 : Int32) (x2 : Int32) (x3 : Int32) (x4 : Int32) (x5 : Int32) (x6 : Int32) (M : wq_M)  : ∀ (n : Nat) (s : (Int32 × Int32 × Int32)) (e : (Int32 × Int32)), wq_lp (fX7_sets_L53_L75 x1 x2 x3 x4 x5 x6 M) n s = some e → (fun (e : (Int32 × Int32)) => wq_g g E wq_yR 11 181 [some (.ref (E.2.1 0)), some (.int x1), some (.int x2), some (.int x3), some (.int x4), some (.int x5), some (.int x6), some (.int e.1), some (.int e.2), none, none] [] M) e → wq_g g E wq_yR 11 75 [some (.ref (E.2.1 0)), some (.int x1), some (.int x2), some (.int x3), some (.int x4), some (.int x5), some (.int x6), some (.int s.1), some (.int s.2.1), some (.int s.2.2), none] [] M := by
  refine wq_lq_ok (fun (s : (Int32 × Int32 × Int32)) => wq_g g E wq_yR 11 75 [some (.ref (E.2.1 0)), some (.int x1), some (.int x2), some (.int x3), some (.int x4), some (.int x5), some (.int x6), some (.int s.1), some (.int s.2.1), some (.int s.2.2), none] [] M) (fun (e : (Int32 × Int32)) => wq_g g E wq_yR 11 181 [some (.ref (E.2.1 0)), some (.int x1), some (.int x2), some (.int x3), some (.int x4), some (.int x5), some (.int x6), some (.int e.1), some (.int e.2), none, none] [] M) (fun s x h K => ?_)
  unfold fX7_sets_L53_L75 at h
  refine wq_iload hC dX7_sets_75 rfl ?_
  refine wq_aload_n hC dX7_sets_77 (i := 0) rfl rfl ?_
  refine gf_7 hC oR_0 5 (.ref (E.2.1 4)) (by decide) rfl tw_723 dX7_sets_78 ?_
  refine wq_iconst hC (v := 0) dX7_sets_81 (by decide) ?_
  obtain ⟨z12, h⟩ := wq_ii h
  refine wq_ald hC aR_4 z12 dX7_sets_82 ?_
  refine wq_icmp_ge hC dX7_sets_83 (tgt := 181) (by decide) (fun z13 => ?_) (fun z13 => ?_)
  · have h := wq_ip z13 h
    have h := Option.some.inj h
    subst h
    refine wq_mask [true, true, true, true, true, true, true, true, true, false, false] (lv' := [some (.ref (E.2.1 0)), some (.int x1), some (.int x2), some (.int x3), some (.int x4), some (.int x5), some (.int x6), some (.int s.1), some (.int s.2.1), none, none]) rfl ?_
    exact K
  · have h := wq_in_ z13 h
    refine wq_aload_n hC dX7_sets_86 (i := 0) rfl rfl ?_
    refine gf_7 hC oR_0 5 (.ref (E.2.1 4)) (by decide) rfl tw_723 dX7_sets_87 ?_
    refine wq_bipush hC (v := 36) dX7_sets_90 (by decide) ?_
    refine wq_iload hC dX7_sets_92 rfl ?_
    refine wq_iadd hC dX7_sets_94 ?_
    obtain ⟨z14, h⟩ := wq_ii h
    refine wq_ald hC aR_4 z14 dX7_sets_95 ?_
    refine wq_if_ge hC dX7_sets_96 (tgt := 103) (by decide) (fun z15 => ?_) (fun z15 => ?_)
    · have h := wq_ip z15 h
      refine wq_iconst hC (v := 0) dX7_sets_103 (by decide) ?_
      exact gX7_sets_L53_L75_J104 hC hd0 x1 x2 x3 x4 x5 x6 s.1 s.2.1 s.2.2 0 M  h K
    · have h := wq_in_ z15 h
      refine wq_iconst hC (v := 1) dX7_sets_99 (by decide) ?_
      refine wq_goto hC dX7_sets_100 (tgt := 104) (by decide) ?_
      exact gX7_sets_L53_L75_J104 hC hd0 x1 x2 x3 x4 x5 x6 s.1 s.2.1 s.2.2 1 M  h K
def fX7_sets_L53_J206 (x1 : Int32) (x2 : Int32) (x3 : Int32) (x5 : Int32) (x6 : Int32) (y0 : Int32) (M : wq_M) : Option ((Int32 × Int32 × Int32 × Int32) ⊕ (Int32 × Int32 × Int32)) :=
  some (.inl ((x3 + 1), y0, (x5 ||| x6), (x6 + 1)))
set_option maxHeartbeats 4000000 in
set_option maxRecDepth 100000 in
theorem gX7_sets_L53_J206 {g : wq_G} {E : wq_E} {d : Nat} (hC : wq_C g E wq_yR cX7_sets 11 "WellPipesModel" (some .int) d) (hd0 : 1 ≤ d) (x1 : Int32) (x2 : Int32) (x3 : Int32) (x5 : Int32) (x6 : Int32) (y0 : Int32) (M : wq_M)  {x : ((Int32 × Int32 × Int32 × Int32) ⊕ (Int32 × Int32 × Int32))} (h : fX7_sets_L53_J206 x1 x2 x3 x5 x6 y0 M = some x) (K : (Sum.elim (fun (s : (Int32 × Int32 × Int32 × Int32)) => wq_g g E wq_yR 11 53 [some (.ref (E.2.1 0)), some (.int x1), some (.int x2), some (.int s.1), some (.int s.2.1), some (.int s.2.2.1), some (.int s.2.2.2), none, none, none, none] [] M) (fun (e : (Int32 × Int32 × Int32)) => wq_g g E wq_yR 11 224 [none, none, some (.int x2), some (.int e.1), some (.int e.2.1), some (.int e.2.2), none, none, none, none, none] [] M)) x) : wq_g g E wq_yR 11 206 [some (.ref (E.2.1 0)), some (.int x1), some (.int x2), some (.int x3), none, some (.int x5), some (.int x6), none, none, none, none] [.int y0] M := by
  unfold fX7_sets_L53_J206 at h
  refine wq_istore hC dX7_sets_206 (lv' := [some (.ref (E.2.1 0)), some (.int x1), some (.int x2), some (.int x3), some (.int y0), some (.int x5), some (.int x6), none, none, none, none]) (by decide) rfl ?_
  refine wq_iload hC dX7_sets_208 rfl ?_
  refine wq_iload hC dX7_sets_210 rfl ?_
  refine wq_ior hC dX7_sets_212 ?_
  refine wq_istore hC dX7_sets_213 (lv' := [some (.ref (E.2.1 0)), some (.int x1), some (.int x2), some (.int x3), some (.int y0), some (.int (x5 ||| x6)), some (.int x6), none, none, none, none]) (by decide) rfl ?_
  refine wq_iinc hC (v := (x3 + 1)) dX7_sets_215 (lv' := [some (.ref (E.2.1 0)), some (.int x1), some (.int x2), some (.int (x3 + 1)), some (.int y0), some (.int (x5 ||| x6)), some (.int x6), none, none, none, none]) rfl rfl (by decide) rfl ?_
  refine wq_iinc hC (v := (x6 + 1)) dX7_sets_218 (lv' := [some (.ref (E.2.1 0)), some (.int x1), some (.int x2), some (.int (x3 + 1)), some (.int y0), some (.int (x5 ||| x6)), some (.int (x6 + 1)), none, none, none, none]) rfl rfl (by decide) rfl ?_
  refine wq_goto hC dX7_sets_221 (tgt := 53) (by decide) ?_
  have h := Option.some.inj h
  subst h
  exact K
def fX7_sets_L53 (x1 : Int32) (x2 : Int32) (M : wq_M) : (Int32 × Int32 × Int32 × Int32) → Option ((Int32 × Int32 × Int32 × Int32) ⊕ (Int32 × Int32 × Int32)) := fun s =>
  if wq_in 0 44 then (if (1 <<< ((M.1 4 (0 : Int32).toNatClampNeg) &&& 31)) ≤ s.2.2.2 then
    some (.inr (s.1, s.2.1, s.2.2.1))
  else
    (wq_lp (fX7_sets_L53_L75 x1 x2 s.1 s.2.1 s.2.2.1 s.2.2.2 M) wq_FU (0, 1, 0)).bind fun e28 => (if e28.2 = 0 then
      some (.inl (s.1, s.2.1, s.2.2.1, (s.2.2.2 + 1)))
    else
      (if e28.1 = x1 then
        (if s.1 = 0 then
          fX7_sets_L53_J206 x1 x2 s.1 s.2.2.1 s.2.2.2 s.2.2.2 M
        else
          fX7_sets_L53_J206 x1 x2 s.1 s.2.2.1 s.2.2.2 (s.2.1 &&& s.2.2.2) M)
      else
        some (.inl (s.1, s.2.1, s.2.2.1, (s.2.2.2 + 1)))))) else none
set_option maxHeartbeats 4000000 in
set_option maxRecDepth 100000 in
theorem gX7_sets_L53 {g : wq_G} {E : wq_E} {d : Nat} (hC : wq_C g E wq_yR cX7_sets 11 "WellPipesModel" (some .int) d) (hd0 : 1 ≤ d) (x1 : Int32) (x2 : Int32) (M : wq_M)  : ∀ (n : Nat) (s : (Int32 × Int32 × Int32 × Int32)) (e : (Int32 × Int32 × Int32)), wq_lp (fX7_sets_L53 x1 x2 M) n s = some e → (fun (e : (Int32 × Int32 × Int32)) => wq_g g E wq_yR 11 224 [none, none, some (.int x2), some (.int e.1), some (.int e.2.1), some (.int e.2.2), none, none, none, none, none] [] M) e → wq_g g E wq_yR 11 53 [some (.ref (E.2.1 0)), some (.int x1), some (.int x2), some (.int s.1), some (.int s.2.1), some (.int s.2.2.1), some (.int s.2.2.2), none, none, none, none] [] M := by
  refine wq_lq_ok (fun (s : (Int32 × Int32 × Int32 × Int32)) => wq_g g E wq_yR 11 53 [some (.ref (E.2.1 0)), some (.int x1), some (.int x2), some (.int s.1), some (.int s.2.1), some (.int s.2.2.1), some (.int s.2.2.2), none, none, none, none] [] M) (fun (e : (Int32 × Int32 × Int32)) => wq_g g E wq_yR 11 224 [none, none, some (.int x2), some (.int e.1), some (.int e.2.1), some (.int e.2.2), none, none, none, none, none] [] M) (fun s x h K => ?_)
  unfold fX7_sets_L53 at h
  refine wq_iload hC dX7_sets_53 rfl ?_
  refine wq_iconst hC (v := 1) dX7_sets_55 (by decide) ?_
  refine wq_aload_n hC dX7_sets_56 (i := 0) rfl rfl ?_
  refine gf_7 hC oR_0 5 (.ref (E.2.1 4)) (by decide) rfl tw_723 dX7_sets_57 ?_
  refine wq_iconst hC (v := 0) dX7_sets_60 (by decide) ?_
  obtain ⟨z10, h⟩ := wq_ii h
  refine wq_ald hC aR_4 z10 dX7_sets_61 ?_
  refine wq_ishl hC dX7_sets_62 ?_
  refine wq_icmp_ge hC dX7_sets_63 (tgt := 224) (by decide) (fun z11 => ?_) (fun z11 => ?_)
  · have h := wq_ip z11 h
    have h := Option.some.inj h
    subst h
    refine wq_mask [false, false, true, true, true, true, false, false, false, false, false] (lv' := [none, none, some (.int x2), some (.int s.1), some (.int s.2.1), some (.int s.2.2.1), none, none, none, none, none]) rfl ?_
    exact K
  · have h := wq_in_ z11 h
    refine wq_iconst hC (v := 0) dX7_sets_66 (by decide) ?_
    refine wq_istore hC dX7_sets_67 (lv' := [some (.ref (E.2.1 0)), some (.int x1), some (.int x2), some (.int s.1), some (.int s.2.1), some (.int s.2.2.1), some (.int s.2.2.2), some (.int 0), none, none, none]) (by decide) rfl ?_
    refine wq_iconst hC (v := 1) dX7_sets_69 (by decide) ?_
    refine wq_istore hC dX7_sets_70 (lv' := [some (.ref (E.2.1 0)), some (.int x1), some (.int x2), some (.int s.1), some (.int s.2.1), some (.int s.2.2.1), some (.int s.2.2.2), some (.int 0), some (.int 1), none, none]) (by decide) rfl ?_
    refine wq_iconst hC (v := 0) dX7_sets_72 (by decide) ?_
    refine wq_istore hC dX7_sets_73 (lv' := [some (.ref (E.2.1 0)), some (.int x1), some (.int x2), some (.int s.1), some (.int s.2.1), some (.int s.2.2.1), some (.int s.2.2.2), some (.int 0), some (.int 1), some (.int 0), none]) (by decide) rfl ?_
    obtain ⟨e28, hl29, h⟩ := wq_ob h
    refine gX7_sets_L53_L75 hC hd0 x1 x2 s.1 s.2.1 s.2.2.1 s.2.2.2 M  wq_FU _ _ hl29 ?_
    refine wq_iload hC dX7_sets_181 rfl ?_
    refine wq_if_eq hC dX7_sets_183 (tgt := 218) (by decide) (fun z30 => ?_) (fun z30 => ?_)
    · have h := wq_ip z30 h
      refine wq_iinc hC (v := (s.2.2.2 + 1)) dX7_sets_218 (lv' := [some (.ref (E.2.1 0)), some (.int x1), some (.int x2), some (.int s.1), some (.int s.2.1), some (.int s.2.2.1), some (.int (s.2.2.2 + 1)), some (.int e28.1), some (.int e28.2), none, none]) rfl rfl (by decide) rfl ?_
      refine wq_goto hC dX7_sets_221 (tgt := 53) (by decide) ?_
      have h := Option.some.inj h
      subst h
      refine wq_mask [true, true, true, true, true, true, true, false, false, false, false] (lv' := [some (.ref (E.2.1 0)), some (.int x1), some (.int x2), some (.int s.1), some (.int s.2.1), some (.int s.2.2.1), some (.int (s.2.2.2 + 1)), none, none, none, none]) rfl ?_
      exact K
    · have h := wq_in_ z30 h
      refine wq_iload hC dX7_sets_186 rfl ?_
      refine wq_iload_n hC dX7_sets_188 (i := 1) rfl rfl ?_
      refine wq_icmp_ne hC dX7_sets_189 (tgt := 218) (by decide) (fun z31 => ?_) (fun z31 => ?_)
      · have h := wq_in_ z31 h
        refine wq_iinc hC (v := (s.2.2.2 + 1)) dX7_sets_218 (lv' := [some (.ref (E.2.1 0)), some (.int x1), some (.int x2), some (.int s.1), some (.int s.2.1), some (.int s.2.2.1), some (.int (s.2.2.2 + 1)), some (.int e28.1), some (.int e28.2), none, none]) rfl rfl (by decide) rfl ?_
        refine wq_goto hC dX7_sets_221 (tgt := 53) (by decide) ?_
        have h := Option.some.inj h
        subst h
        refine wq_mask [true, true, true, true, true, true, true, false, false, false, false] (lv' := [some (.ref (E.2.1 0)), some (.int x1), some (.int x2), some (.int s.1), some (.int s.2.1), some (.int s.2.2.1), some (.int (s.2.2.2 + 1)), none, none, none, none]) rfl ?_
        exact K
      · have h := wq_ip z31 h
        refine wq_iload_n hC dX7_sets_192 (i := 3) rfl rfl ?_
        refine wq_if_ne hC dX7_sets_193 (tgt := 201) (by decide) (fun z32 => ?_) (fun z32 => ?_)
        · have h := wq_in_ z32 h
          refine wq_iload hC dX7_sets_201 rfl ?_
          refine wq_iload hC dX7_sets_203 rfl ?_
          refine wq_iand hC dX7_sets_205 ?_
          refine wq_mask [true, true, true, true, false, true, true, false, false, false, false] (lv' := [some (.ref (E.2.1 0)), some (.int x1), some (.int x2), some (.int s.1), none, some (.int s.2.2.1), some (.int s.2.2.2), none, none, none, none]) rfl ?_
          exact gX7_sets_L53_J206 hC hd0 x1 x2 s.1 s.2.2.1 s.2.2.2 (s.2.1 &&& s.2.2.2) M  h K
        · have h := wq_ip z32 h
          refine wq_iload hC dX7_sets_196 rfl ?_
          refine wq_goto hC dX7_sets_198 (tgt := 206) (by decide) ?_
          refine wq_mask [true, true, true, true, false, true, true, false, false, false, false] (lv' := [some (.ref (E.2.1 0)), some (.int x1), some (.int x2), some (.int s.1), none, some (.int s.2.2.1), some (.int s.2.2.2), none, none, none, none]) rfl ?_
          exact gX7_sets_L53_J206 hC hd0 x1 x2 s.1 s.2.2.1 s.2.2.2 s.2.2.2 M  h K
def fX7_sets (x1 : Int32) (x2 : Int32) (M : wq_M) : Option (Int32 × wq_M) :=
  (fX7_isThere  (wq_st M 0 0 0)).bind fun r1 => (if r1 = true then
    (fX7_in x1.toInt64 (0 : Int64) (792 : Int64) (wq_st M 0 0 0)).bind fun r4 => (if r4 = true then
      (fX7_in x2.toInt64 (0 : Int64) (2 : Int64) (wq_st M 0 0 0)).bind fun r7 => (if r7 = true then
        (wq_lp (fX7_sets_L53 x1 x2 (wq_st M 0 0 0)) wq_FU (0, 0, 0, 0)).bind fun e33 => (if x2 = 0 then
          some (e33.1, (wq_st M 0 0 0))
        else
          (if x2 = 1 then
            some (e33.2.1, (wq_st M 0 0 0))
          else
            some (e33.2.2, (wq_st M 0 0 0))))
      else
        some ((-1000001), (wq_st M 0 0 0)))
    else
      some ((-1000001), (wq_st M 0 0 0)))
  else
    some ((-1000002), (wq_st M 0 0 0)))
set_option maxHeartbeats 4000000 in
set_option maxRecDepth 100000 in
theorem ctX7_sets {l : Launch} {E : wq_E} {d : Nat} (hd0 : 1 ≤ d) {x1 : Int32} {x2 : Int32} {M : wq_M} {r : (Int32 × wq_M)}  (h : fX7_sets x1 x2 M = some r) : wq_ct l E wq_yR yX7_sets cX7_sets 11 (some .int) d [.ref (E.2.1 0), .int x1, .int x2] M (some (.int r.1)) r.2 := by
  refine wq_ent (own := "WellPipesModel") (lv0 := [some (.ref (E.2.1 0)), some (.int x1), some (.int x2), none, none, none, none, none, none, none, none]) (by decide +kernel) rfl (Nat.le_of_ble_eq_true rfl) rfl (fun g h1 h2 hC => ?_)
  have K : wq_kI g r := ⟨h1, h2⟩
  unfold fX7_sets at h
  refine wq_aload_n hC dX7_sets_0 (i := 0) rfl rfl ?_
  refine wq_iconst hC (v := 0) dX7_sets_1 (by decide) ?_
  refine pf_7_0 hC oR_0 tw_718 dX7_sets_2 ?_
  refine wq_aload_n hC dX7_sets_5 (i := 0) rfl rfl ?_
  obtain ⟨r1, hc2, h⟩ := wq_ob h
  refine cv_7 hC (ctX7_isThere (d := d - 1) (by omega)  hc2) (by omega) (by decide) oR_0 rfl rfl npX7_isThere tw_912 tw_914 tw_36 tw_915 (st := []) (Nat.le_of_ble_eq_true rfl) rfl dX7_sets_6 (st1 := [.int (wq_b r1)]) rfl ?_
  refine wq_bif_ne hC dX7_sets_9 (tgt := 15) (by decide) (fun z3 => ?_) (fun z3 => ?_)
  · have h := wq_ip z3 h
    refine wq_iload_n hC dX7_sets_15 (i := 1) rfl rfl ?_
    refine wq_i2l hC dX7_sets_16 ?_
    refine wq_lconst hC (v := 0) dX7_sets_17 (by decide) ?_
    refine wq_ldc2 hC (v := (792 : Int64)) tw_1031 dX7_sets_18 ?_
    obtain ⟨r4, hc5, h⟩ := wq_ob h
    refine wq_callS hC (ctX7_in (d := d - 1) (by omega)  hc5) (by omega) (by decide) rfl npX7_in tw_806 tw_807 tw_58 tw_808 (st := []) (Nat.le_of_ble_eq_true rfl) rfl dX7_sets_21 (st1 := [.int (wq_b r4)]) rfl ?_
    refine wq_bif_eq hC dX7_sets_24 (tgt := 39) (by decide) (fun z6 => ?_) (fun z6 => ?_)
    · have h := wq_in_ z6 h
      refine wq_ldc hC (v := (-1000001)) tw_810 dX7_sets_39 ?_
      have h := Option.some.inj h
      subst h
      exact wq_iret hC dX7_sets_41 K.1 K.2
    · have h := wq_ip z6 h
      refine wq_iload_n hC dX7_sets_27 (i := 2) rfl rfl ?_
      refine wq_i2l hC dX7_sets_28 ?_
      refine wq_lconst hC (v := 0) dX7_sets_29 (by decide) ?_
      refine wq_ldc2 hC (v := (2 : Int64)) tw_809 dX7_sets_30 ?_
      obtain ⟨r7, hc8, h⟩ := wq_ob h
      refine wq_callS hC (ctX7_in (d := d - 1) (by omega)  hc8) (by omega) (by decide) rfl npX7_in tw_806 tw_807 tw_58 tw_808 (st := []) (Nat.le_of_ble_eq_true rfl) rfl dX7_sets_33 (st1 := [.int (wq_b r7)]) rfl ?_
      refine wq_bif_ne hC dX7_sets_36 (tgt := 42) (by decide) (fun z9 => ?_) (fun z9 => ?_)
      · have h := wq_ip z9 h
        refine wq_iconst hC (v := 0) dX7_sets_42 (by decide) ?_
        refine wq_istore_n hC dX7_sets_43 (i := 3) (lv' := [some (.ref (E.2.1 0)), some (.int x1), some (.int x2), some (.int 0), none, none, none, none, none, none, none]) rfl (by decide) rfl ?_
        refine wq_iconst hC (v := 0) dX7_sets_44 (by decide) ?_
        refine wq_istore hC dX7_sets_45 (lv' := [some (.ref (E.2.1 0)), some (.int x1), some (.int x2), some (.int 0), some (.int 0), none, none, none, none, none, none]) (by decide) rfl ?_
        refine wq_iconst hC (v := 0) dX7_sets_47 (by decide) ?_
        refine wq_istore hC dX7_sets_48 (lv' := [some (.ref (E.2.1 0)), some (.int x1), some (.int x2), some (.int 0), some (.int 0), some (.int 0), none, none, none, none, none]) (by decide) rfl ?_
        refine wq_iconst hC (v := 0) dX7_sets_50 (by decide) ?_
        refine wq_istore hC dX7_sets_51 (lv' := [some (.ref (E.2.1 0)), some (.int x1), some (.int x2), some (.int 0), some (.int 0), some (.int 0), some (.int 0), none, none, none, none]) (by decide) rfl ?_
        obtain ⟨e33, hl34, h⟩ := wq_ob h
        refine gX7_sets_L53 hC hd0 x1 x2 (wq_st M 0 0 0)  wq_FU _ _ hl34 ?_
        refine wq_iload_n hC dX7_sets_224 (i := 2) rfl rfl ?_
        refine wq_if_ne hC dX7_sets_225 (tgt := 232) (by decide) (fun z35 => ?_) (fun z35 => ?_)
        · have h := wq_in_ z35 h
          refine wq_iload_n hC dX7_sets_232 (i := 2) rfl rfl ?_
          refine wq_iconst hC (v := 1) dX7_sets_233 (by decide) ?_
          refine wq_icmp_ne hC dX7_sets_234 (tgt := 242) (by decide) (fun z36 => ?_) (fun z36 => ?_)
          · have h := wq_in_ z36 h
            refine wq_iload hC dX7_sets_242 rfl ?_
            have h := Option.some.inj h
            subst h
            exact wq_iret hC dX7_sets_244 K.1 K.2
          · have h := wq_ip z36 h
            refine wq_iload hC dX7_sets_237 rfl ?_
            refine wq_goto hC dX7_sets_239 (tgt := 244) (by decide) ?_
            have h := Option.some.inj h
            subst h
            exact wq_iret hC dX7_sets_244 K.1 K.2
        · have h := wq_ip z35 h
          refine wq_iload_n hC dX7_sets_228 (i := 3) rfl rfl ?_
          refine wq_goto hC dX7_sets_229 (tgt := 244) (by decide) ?_
          have h := Option.some.inj h
          subst h
          exact wq_iret hC dX7_sets_244 K.1 K.2
      · have h := wq_in_ z9 h
        refine wq_ldc hC (v := (-1000001)) tw_810 dX7_sets_39 ?_
        have h := Option.some.inj h
        subst h
        exact wq_iret hC dX7_sets_41 K.1 K.2
  · have h := wq_in_ z3 h
    refine wq_ldc hC (v := (-1000002)) tw_903 dX7_sets_12 ?_
    have h := Option.some.inj h
    subst h
    exact wq_iret hC dX7_sets_14 K.1 K.2
theorem npX7_heftAt : yX7_heftAt.cls ≠ "java/lang/invoke/MethodHandle" ∧ yX7_heftAt.cls ≠ "java/lang/invoke/VarHandle" ∧ (parseMethodDescriptor yX7_heftAt.desc).map (fun d => d.parameters.length) = some 1 := by decide +kernel
def fX7_heftAt (x1 : Int32) (M : wq_M) : Option Int32 :=
  if wq_in (36 + x1) 44 then (if 0 ≤ (M.1 4 (36 + x1).toNatClampNeg) then
    if wq_in (36 + x1) 44 then (fX7_of 4 (M.1 4 (36 + x1).toNatClampNeg) 4 M).bind fun r4 => some r4 else none
  else
    some 0) else none
set_option maxHeartbeats 4000000 in
set_option maxRecDepth 100000 in
theorem ctX7_heftAt {l : Launch} {E : wq_E} {d : Nat} (hd0 : 1 ≤ d) {x1 : Int32} {M : wq_M} {r : Int32}  (h : fX7_heftAt x1 M = some r) : wq_ct l E wq_yR yX7_heftAt cX7_heftAt 2 (some .int) d [.ref (E.2.1 0), .int x1] M (some (.int r)) M := by
  refine wq_ent (own := "WellPipesModel") (lv0 := [some (.ref (E.2.1 0)), some (.int x1)]) (by decide +kernel) rfl (Nat.le_of_ble_eq_true rfl) rfl (fun g h1 h2 hC => ?_)
  have K : wq_ki g M r := ⟨h1, h2⟩
  unfold fX7_heftAt at h
  refine wq_aload_n hC dX7_heftAt_0 (i := 0) rfl rfl ?_
  refine gf_7 hC oR_0 5 (.ref (E.2.1 4)) (by decide) rfl tw_723 dX7_heftAt_1 ?_
  refine wq_bipush hC (v := 36) dX7_heftAt_4 (by decide) ?_
  refine wq_iload_n hC dX7_heftAt_6 (i := 1) rfl rfl ?_
  refine wq_iadd hC dX7_heftAt_7 ?_
  obtain ⟨z1, h⟩ := wq_ii h
  refine wq_ald hC aR_4 z1 dX7_heftAt_8 ?_
  refine wq_if_ge hC dX7_heftAt_9 (tgt := 16) (by decide) (fun z2 => ?_) (fun z2 => ?_)
  · have h := wq_ip z2 h
    refine wq_aload_n hC dX7_heftAt_16 (i := 0) rfl rfl ?_
    refine gf_7 hC oR_0 5 (.ref (E.2.1 4)) (by decide) rfl tw_723 dX7_heftAt_17 ?_
    refine wq_aload_n hC dX7_heftAt_20 (i := 0) rfl rfl ?_
    refine gf_7 hC oR_0 5 (.ref (E.2.1 4)) (by decide) rfl tw_723 dX7_heftAt_21 ?_
    refine wq_bipush hC (v := 36) dX7_heftAt_24 (by decide) ?_
    refine wq_iload_n hC dX7_heftAt_26 (i := 1) rfl rfl ?_
    refine wq_iadd hC dX7_heftAt_27 ?_
    obtain ⟨z3, h⟩ := wq_ii h
    refine wq_ald hC aR_4 z3 dX7_heftAt_28 ?_
    refine wq_iconst hC (v := 4) dX7_heftAt_29 (by decide) ?_
    obtain ⟨r4, hc5, h⟩ := wq_ob h
    refine wq_callS hC (ctX7_of (d := d - 1) (by omega) aR_4 hc5) (by omega) (by decide) rfl npX7_of tw_932 tw_933 tw_58 tw_934 (st := []) (Nat.le_of_ble_eq_true rfl) rfl dX7_heftAt_30 (st1 := [.int r4]) rfl ?_
    have h := Option.some.inj h
    subst h
    exact wq_iret hC dX7_heftAt_33 K.1 K.2
  · have h := wq_in_ z2 h
    refine wq_iconst hC (v := 0) dX7_heftAt_12 (by decide) ?_
    refine wq_goto hC dX7_heftAt_13 (tgt := 33) (by decide) ?_
    have h := Option.some.inj h
    subst h
    exact wq_iret hC dX7_heftAt_33 K.1 K.2
theorem npX7_share : yX7_share.cls ≠ "java/lang/invoke/MethodHandle" ∧ yX7_share.cls ≠ "java/lang/invoke/VarHandle" ∧ (parseMethodDescriptor yX7_share.desc).map (fun d => d.parameters.length) = some 2 := by decide +kernel
def fX7_share_L60 (x1 : Int32) (x2 : Int32) (x3 : Int32) (x4 : Int32) (M : wq_M) : (Int32 × Int32 × Int32) → Option ((Int32 × Int32 × Int32) ⊕ (Int32 × Int32)) := fun s =>
  if wq_in 0 44 then (if (M.1 4 (0 : Int32).toNatClampNeg) ≤ s.2.2 then
    some (.inr (s.1, s.2.1))
  else
    (fX7_heftAt s.2.2 M).bind fun r14 => if ¬ x3 = 0 then (if x1 ≤ s.2.2 then
      some (.inl ((s.1 - ((x2 * r14) / x3)), (s.2.1 + 0), (s.2.2 + 1)))
    else
      (fX7_heftAt s.2.2 M).bind fun r18 => (if r18 ≤ 0 then
        some (.inl ((s.1 - ((x2 * r14) / x3)), (s.2.1 + 0), (s.2.2 + 1)))
      else
        some (.inl ((s.1 - ((x2 * r14) / x3)), (s.2.1 + 1), (s.2.2 + 1))))) else none) else none
set_option maxHeartbeats 4000000 in
set_option maxRecDepth 100000 in
theorem gX7_share_L60 {g : wq_G} {E : wq_E} {d : Nat} (hC : wq_C g E wq_yR cX7_share 8 "WellPipesModel" (some .int) d) (hd0 : 2 ≤ d) (x1 : Int32) (x2 : Int32) (x3 : Int32) (x4 : Int32) (M : wq_M)  : ∀ (n : Nat) (s : (Int32 × Int32 × Int32)) (e : (Int32 × Int32)), wq_lp (fX7_share_L60 x1 x2 x3 x4 M) n s = some e → (fun (e : (Int32 × Int32)) => wq_g g E wq_yR 8 117 [none, none, some (.int x2), some (.int x3), some (.int x4), some (.int e.1), some (.int e.2), none] [] M) e → wq_g g E wq_yR 8 60 [some (.ref (E.2.1 0)), some (.int x1), some (.int x2), some (.int x3), some (.int x4), some (.int s.1), some (.int s.2.1), some (.int s.2.2)] [] M := by
  refine wq_lq_ok (fun (s : (Int32 × Int32 × Int32)) => wq_g g E wq_yR 8 60 [some (.ref (E.2.1 0)), some (.int x1), some (.int x2), some (.int x3), some (.int x4), some (.int s.1), some (.int s.2.1), some (.int s.2.2)] [] M) (fun (e : (Int32 × Int32)) => wq_g g E wq_yR 8 117 [none, none, some (.int x2), some (.int x3), some (.int x4), some (.int e.1), some (.int e.2), none] [] M) (fun s x h K => ?_)
  unfold fX7_share_L60 at h
  refine wq_iload hC dX7_share_60 rfl ?_
  refine wq_aload_n hC dX7_share_62 (i := 0) rfl rfl ?_
  refine gf_7 hC oR_0 5 (.ref (E.2.1 4)) (by decide) rfl tw_723 dX7_share_63 ?_
  refine wq_iconst hC (v := 0) dX7_share_66 (by decide) ?_
  obtain ⟨z12, h⟩ := wq_ii h
  refine wq_ald hC aR_4 z12 dX7_share_67 ?_
  refine wq_icmp_ge hC dX7_share_68 (tgt := 117) (by decide) (fun z13 => ?_) (fun z13 => ?_)
  · have h := wq_ip z13 h
    have h := Option.some.inj h
    subst h
    refine wq_mask [false, false, true, true, true, true, true, false] (lv' := [none, none, some (.int x2), some (.int x3), some (.int x4), some (.int s.1), some (.int s.2.1), none]) rfl ?_
    exact K
  · have h := wq_in_ z13 h
    refine wq_iload hC dX7_share_71 rfl ?_
    refine wq_iload_n hC dX7_share_73 (i := 2) rfl rfl ?_
    refine wq_aload_n hC dX7_share_74 (i := 0) rfl rfl ?_
    refine wq_iload hC dX7_share_75 rfl ?_
    obtain ⟨r14, hc15, h⟩ := wq_ob h
    refine cv_7 hC (ctX7_heftAt (d := d - 1) (by omega)  hc15) (by omega) (by decide) oR_0 rfl rfl npX7_heftAt tw_1040 tw_1042 tw_42 tw_1043 (st := [.int x2, .int s.1]) (Nat.le_of_ble_eq_true rfl) rfl dX7_share_77 (st1 := [.int r14, .int x2, .int s.1]) rfl ?_
    refine wq_imul hC dX7_share_80 ?_
    refine wq_iload_n hC dX7_share_81 (i := 3) rfl rfl ?_
    obtain ⟨z16, h⟩ := wq_ii h
    refine wq_idiv hC dX7_share_82 z16 ?_
    refine wq_isub hC dX7_share_83 ?_
    refine wq_istore hC dX7_share_84 (lv' := [some (.ref (E.2.1 0)), some (.int x1), some (.int x2), some (.int x3), some (.int x4), some (.int (s.1 - ((x2 * r14) / x3))), some (.int s.2.1), some (.int s.2.2)]) (by decide) rfl ?_
    refine wq_iload hC dX7_share_86 rfl ?_
    refine wq_iload hC dX7_share_88 rfl ?_
    refine wq_iload_n hC dX7_share_90 (i := 1) rfl rfl ?_
    refine wq_icmp_ge hC dX7_share_91 (tgt := 107) (by decide) (fun z17 => ?_) (fun z17 => ?_)
    · have h := wq_ip z17 h
      refine wq_iconst hC (v := 0) dX7_share_107 (by decide) ?_
      refine wq_iadd hC dX7_share_108 ?_
      refine wq_istore hC dX7_share_109 (lv' := [some (.ref (E.2.1 0)), some (.int x1), some (.int x2), some (.int x3), some (.int x4), some (.int (s.1 - ((x2 * r14) / x3))), some (.int (s.2.1 + 0)), some (.int s.2.2)]) (by decide) rfl ?_
      refine wq_iinc hC (v := (s.2.2 + 1)) dX7_share_111 (lv' := [some (.ref (E.2.1 0)), some (.int x1), some (.int x2), some (.int x3), some (.int x4), some (.int (s.1 - ((x2 * r14) / x3))), some (.int (s.2.1 + 0)), some (.int (s.2.2 + 1))]) rfl rfl (by decide) rfl ?_
      refine wq_goto hC dX7_share_114 (tgt := 60) (by decide) ?_
      have h := Option.some.inj h
      subst h
      exact K
    · have h := wq_in_ z17 h
      refine wq_aload_n hC dX7_share_94 (i := 0) rfl rfl ?_
      refine wq_iload hC dX7_share_95 rfl ?_
      obtain ⟨r18, hc19, h⟩ := wq_ob h
      refine cv_7 hC (ctX7_heftAt (d := d - 1) (by omega)  hc19) (by omega) (by decide) oR_0 rfl rfl npX7_heftAt tw_1040 tw_1042 tw_42 tw_1043 (st := [.int s.2.1]) (Nat.le_of_ble_eq_true rfl) rfl dX7_share_97 (st1 := [.int r18, .int s.2.1]) rfl ?_
      refine wq_if_le hC dX7_share_100 (tgt := 107) (by decide) (fun z20 => ?_) (fun z20 => ?_)
      · have h := wq_ip z20 h
        refine wq_iconst hC (v := 0) dX7_share_107 (by decide) ?_
        refine wq_iadd hC dX7_share_108 ?_
        refine wq_istore hC dX7_share_109 (lv' := [some (.ref (E.2.1 0)), some (.int x1), some (.int x2), some (.int x3), some (.int x4), some (.int (s.1 - ((x2 * r14) / x3))), some (.int (s.2.1 + 0)), some (.int s.2.2)]) (by decide) rfl ?_
        refine wq_iinc hC (v := (s.2.2 + 1)) dX7_share_111 (lv' := [some (.ref (E.2.1 0)), some (.int x1), some (.int x2), some (.int x3), some (.int x4), some (.int (s.1 - ((x2 * r14) / x3))), some (.int (s.2.1 + 0)), some (.int (s.2.2 + 1))]) rfl rfl (by decide) rfl ?_
        refine wq_goto hC dX7_share_114 (tgt := 60) (by decide) ?_
        have h := Option.some.inj h
        subst h
        exact K
      · have h := wq_in_ z20 h
        refine wq_iconst hC (v := 1) dX7_share_103 (by decide) ?_
        refine wq_goto hC dX7_share_104 (tgt := 108) (by decide) ?_
        refine wq_iadd hC dX7_share_108 ?_
        refine wq_istore hC dX7_share_109 (lv' := [some (.ref (E.2.1 0)), some (.int x1), some (.int x2), some (.int x3), some (.int x4), some (.int (s.1 - ((x2 * r14) / x3))), some (.int (s.2.1 + 1)), some (.int s.2.2)]) (by decide) rfl ?_
        refine wq_iinc hC (v := (s.2.2 + 1)) dX7_share_111 (lv' := [some (.ref (E.2.1 0)), some (.int x1), some (.int x2), some (.int x3), some (.int x4), some (.int (s.1 - ((x2 * r14) / x3))), some (.int (s.2.1 + 1)), some (.int (s.2.2 + 1))]) rfl rfl (by decide) rfl ?_
        refine wq_goto hC dX7_share_114 (tgt := 60) (by decide) ?_
        have h := Option.some.inj h
        subst h
        exact K
def fX7_share (x1 : Int32) (x2 : Int32) (M : wq_M) : Option (Int32 × wq_M) :=
  (fX7_isStep x1 (wq_st M 0 0 0)).bind fun r1 => (if r1 = true then
    (fX7_in x2.toInt64 (0 : Int64) (999 : Int64) (wq_st M 0 0 0)).bind fun r4 => (if r4 = true then
      (fX7_hangs 4 0 (wq_st M 0 0 0)).bind fun r7 => (fX7_heftAt x1 (wq_st M 0 0 0)).bind fun r9 => (if r9 = 0 then
        some (0, (wq_st M 0 0 0))
      else
        (wq_lp (fX7_share_L60 x1 x2 r7 r9 (wq_st M 0 0 0)) wq_FU (x2, 0, 0)).bind fun e21 => if ¬ r7 = 0 then (if e21.1 ≤ e21.2 then
          some ((((x2 * r9) / r7) + 0), (wq_st M 0 0 0))
        else
          some ((((x2 * r9) / r7) + 1), (wq_st M 0 0 0))) else none)
    else
      some ((-1000001), (wq_st M 0 0 0)))
  else
    some ((-1000001), (wq_st M 0 0 0)))
set_option maxHeartbeats 4000000 in
set_option maxRecDepth 100000 in
theorem ctX7_share {l : Launch} {E : wq_E} {d : Nat} (hd0 : 2 ≤ d) {x1 : Int32} {x2 : Int32} {M : wq_M} {r : (Int32 × wq_M)}  (h : fX7_share x1 x2 M = some r) : wq_ct l E wq_yR yX7_share cX7_share 8 (some .int) d [.ref (E.2.1 0), .int x1, .int x2] M (some (.int r.1)) r.2 := by
  refine wq_ent (own := "WellPipesModel") (lv0 := [some (.ref (E.2.1 0)), some (.int x1), some (.int x2), none, none, none, none, none]) (by decide +kernel) rfl (Nat.le_of_ble_eq_true rfl) rfl (fun g h1 h2 hC => ?_)
  have K : wq_kI g r := ⟨h1, h2⟩
  unfold fX7_share at h
  refine wq_aload_n hC dX7_share_0 (i := 0) rfl rfl ?_
  refine wq_iconst hC (v := 0) dX7_share_1 (by decide) ?_
  refine pf_7_0 hC oR_0 tw_718 dX7_share_2 ?_
  refine wq_aload_n hC dX7_share_5 (i := 0) rfl rfl ?_
  refine wq_iload_n hC dX7_share_6 (i := 1) rfl rfl ?_
  obtain ⟨r1, hc2, h⟩ := wq_ob h
  refine cv_7 hC (ctX7_isStep (d := d - 1) (by omega)  hc2) (by omega) (by decide) oR_0 rfl rfl npX7_isStep tw_895 tw_897 tw_33 tw_898 (st := []) (Nat.le_of_ble_eq_true rfl) rfl dX7_share_7 (st1 := [.int (wq_b r1)]) rfl ?_
  refine wq_bif_eq hC dX7_share_10 (tgt := 25) (by decide) (fun z3 => ?_) (fun z3 => ?_)
  · have h := wq_in_ z3 h
    refine wq_ldc hC (v := (-1000001)) tw_810 dX7_share_25 ?_
    have h := Option.some.inj h
    subst h
    exact wq_iret hC dX7_share_27 K.1 K.2
  · have h := wq_ip z3 h
    refine wq_iload_n hC dX7_share_13 (i := 2) rfl rfl ?_
    refine wq_i2l hC dX7_share_14 ?_
    refine wq_lconst hC (v := 0) dX7_share_15 (by decide) ?_
    refine wq_ldc2 hC (v := (999 : Int64)) tw_1039 dX7_share_16 ?_
    obtain ⟨r4, hc5, h⟩ := wq_ob h
    refine wq_callS hC (ctX7_in (d := d - 1) (by omega)  hc5) (by omega) (by decide) rfl npX7_in tw_806 tw_807 tw_58 tw_808 (st := []) (Nat.le_of_ble_eq_true rfl) rfl dX7_share_19 (st1 := [.int (wq_b r4)]) rfl ?_
    refine wq_bif_ne hC dX7_share_22 (tgt := 28) (by decide) (fun z6 => ?_) (fun z6 => ?_)
    · have h := wq_ip z6 h
      refine wq_aload_n hC dX7_share_28 (i := 0) rfl rfl ?_
      refine gf_7 hC oR_0 5 (.ref (E.2.1 4)) (by decide) rfl tw_723 dX7_share_29 ?_
      refine wq_iconst hC (v := 0) dX7_share_32 (by decide) ?_
      obtain ⟨r7, hc8, h⟩ := wq_ob h
      refine wq_callS hC (ctX7_hangs (d := d - 1) (by omega) aR_4 hc8) (by omega) (by decide) rfl npX7_hangs tw_980 tw_981 tw_58 tw_982 (st := []) (Nat.le_of_ble_eq_true rfl) rfl dX7_share_33 (st1 := [.int r7]) rfl ?_
      refine wq_istore_n hC dX7_share_36 (i := 3) (lv' := [some (.ref (E.2.1 0)), some (.int x1), some (.int x2), some (.int r7), none, none, none, none]) rfl (by decide) rfl ?_
      refine wq_aload_n hC dX7_share_37 (i := 0) rfl rfl ?_
      refine wq_iload_n hC dX7_share_38 (i := 1) rfl rfl ?_
      obtain ⟨r9, hc10, h⟩ := wq_ob h
      refine cv_7 hC (ctX7_heftAt (d := d - 1) (by omega)  hc10) (by omega) (by decide) oR_0 rfl rfl npX7_heftAt tw_1040 tw_1042 tw_42 tw_1043 (st := []) (Nat.le_of_ble_eq_true rfl) rfl dX7_share_39 (st1 := [.int r9]) rfl ?_
      refine wq_istore hC dX7_share_42 (lv' := [some (.ref (E.2.1 0)), some (.int x1), some (.int x2), some (.int r7), some (.int r9), none, none, none]) (by decide) rfl ?_
      refine wq_iload hC dX7_share_44 rfl ?_
      refine wq_if_ne hC dX7_share_46 (tgt := 51) (by decide) (fun z11 => ?_) (fun z11 => ?_)
      · have h := wq_in_ z11 h
        refine wq_iload_n hC dX7_share_51 (i := 2) rfl rfl ?_
        refine wq_istore hC dX7_share_52 (lv' := [some (.ref (E.2.1 0)), some (.int x1), some (.int x2), some (.int r7), some (.int r9), some (.int x2), none, none]) (by decide) rfl ?_
        refine wq_iconst hC (v := 0) dX7_share_54 (by decide) ?_
        refine wq_istore hC dX7_share_55 (lv' := [some (.ref (E.2.1 0)), some (.int x1), some (.int x2), some (.int r7), some (.int r9), some (.int x2), some (.int 0), none]) (by decide) rfl ?_
        refine wq_iconst hC (v := 0) dX7_share_57 (by decide) ?_
        refine wq_istore hC dX7_share_58 (lv' := [some (.ref (E.2.1 0)), some (.int x1), some (.int x2), some (.int r7), some (.int r9), some (.int x2), some (.int 0), some (.int 0)]) (by decide) rfl ?_
        obtain ⟨e21, hl22, h⟩ := wq_ob h
        refine gX7_share_L60 hC hd0 x1 x2 r7 r9 (wq_st M 0 0 0)  wq_FU _ _ hl22 ?_
        refine wq_iload_n hC dX7_share_117 (i := 2) rfl rfl ?_
        refine wq_iload hC dX7_share_118 rfl ?_
        refine wq_imul hC dX7_share_120 ?_
        refine wq_iload_n hC dX7_share_121 (i := 3) rfl rfl ?_
        obtain ⟨z23, h⟩ := wq_ii h
        refine wq_idiv hC dX7_share_122 z23 ?_
        refine wq_iload hC dX7_share_123 rfl ?_
        refine wq_iload hC dX7_share_125 rfl ?_
        refine wq_icmp_ge hC dX7_share_127 (tgt := 134) (by decide) (fun z24 => ?_) (fun z24 => ?_)
        · have h := wq_ip z24 h
          refine wq_iconst hC (v := 0) dX7_share_134 (by decide) ?_
          refine wq_iadd hC dX7_share_135 ?_
          have h := Option.some.inj h
          subst h
          exact wq_iret hC dX7_share_136 K.1 K.2
        · have h := wq_in_ z24 h
          refine wq_iconst hC (v := 1) dX7_share_130 (by decide) ?_
          refine wq_goto hC dX7_share_131 (tgt := 135) (by decide) ?_
          refine wq_iadd hC dX7_share_135 ?_
          have h := Option.some.inj h
          subst h
          exact wq_iret hC dX7_share_136 K.1 K.2
      · have h := wq_ip z11 h
        refine wq_iconst hC (v := 0) dX7_share_49 (by decide) ?_
        have h := Option.some.inj h
        subst h
        exact wq_iret hC dX7_share_50 K.1 K.2
    · have h := wq_in_ z6 h
      refine wq_ldc hC (v := (-1000001)) tw_810 dX7_share_25 ?_
      have h := Option.some.inj h
      subst h
      exact wq_iret hC dX7_share_27 K.1 K.2
theorem npX7_bestTurn : yX7_bestTurn.cls ≠ "java/lang/invoke/MethodHandle" ∧ yX7_bestTurn.cls ≠ "java/lang/invoke/VarHandle" ∧ (parseMethodDescriptor yX7_bestTurn.desc).map (fun d => d.parameters.length) = some 2 := by decide +kernel
def fX7_bestTurn_L6_J114 (x1 : Int32) (x2 : Int32) (x3 : Int32) (x4 : Int32) (x6 : Int32) (y0 : Int32) (M : wq_M) : Option ((Int32 × Int32) ⊕ Int32) :=
  (if y0 = 0 then
    some (.inl (x3, (x4 + 1)))
  else
    some (.inl (x6, (x4 + 1))))
set_option maxHeartbeats 4000000 in
set_option maxRecDepth 100000 in
theorem gX7_bestTurn_L6_J114 {g : wq_G} {E : wq_E} {d : Nat} (hC : wq_C g E wq_yR cX7_bestTurn 8 "WellPipesModel" (some .int) d) (hd0 : 4 ≤ d) (x1 : Int32) (x2 : Int32) (x3 : Int32) (x4 : Int32) (x6 : Int32) (y0 : Int32) (M : wq_M)  {x : ((Int32 × Int32) ⊕ Int32)} (h : fX7_bestTurn_L6_J114 x1 x2 x3 x4 x6 y0 M = some x) (K : (Sum.elim (fun (s : (Int32 × Int32)) => wq_g g E wq_yR 8 6 [some (.ref (E.2.1 0)), some (.int x1), some (.int x2), some (.int s.1), some (.int s.2), none, none, none] [] M) (fun (e : Int32) => wq_g g E wq_yR 8 134 [none, none, none, some (.int e), none, none, none, none] [] M)) x) : wq_g g E wq_yR 8 114 [some (.ref (E.2.1 0)), some (.int x1), some (.int x2), some (.int x3), some (.int x4), none, some (.int x6), none] [.int y0] M := by
  unfold fX7_bestTurn_L6_J114 at h
  refine wq_istore hC dX7_bestTurn_114 (lv' := [some (.ref (E.2.1 0)), some (.int x1), some (.int x2), some (.int x3), some (.int x4), none, some (.int x6), some (.int y0)]) (by decide) rfl ?_
  refine wq_iload hC dX7_bestTurn_116 rfl ?_
  refine wq_if_eq hC dX7_bestTurn_118 (tgt := 126) (by decide) (fun z13 => ?_) (fun z13 => ?_)
  · have h := wq_ip z13 h
    refine wq_iload_n hC dX7_bestTurn_126 (i := 3) rfl rfl ?_
    refine wq_istore_n hC dX7_bestTurn_127 (i := 3) (lv' := [some (.ref (E.2.1 0)), some (.int x1), some (.int x2), some (.int x3), some (.int x4), none, some (.int x6), some (.int y0)]) rfl (by decide) rfl ?_
    refine wq_iinc hC (v := (x4 + 1)) dX7_bestTurn_128 (lv' := [some (.ref (E.2.1 0)), some (.int x1), some (.int x2), some (.int x3), some (.int (x4 + 1)), none, some (.int x6), some (.int y0)]) rfl rfl (by decide) rfl ?_
    refine wq_goto hC dX7_bestTurn_131 (tgt := 6) (by decide) ?_
    have h := Option.some.inj h
    subst h
    refine wq_mask [true, true, true, true, true, false, false, false] (lv' := [some (.ref (E.2.1 0)), some (.int x1), some (.int x2), some (.int x3), some (.int (x4 + 1)), none, none, none]) rfl ?_
    exact K
  · have h := wq_in_ z13 h
    refine wq_iload hC dX7_bestTurn_121 rfl ?_
    refine wq_goto hC dX7_bestTurn_123 (tgt := 127) (by decide) ?_
    refine wq_istore_n hC dX7_bestTurn_127 (i := 3) (lv' := [some (.ref (E.2.1 0)), some (.int x1), some (.int x2), some (.int x6), some (.int x4), none, some (.int x6), some (.int y0)]) rfl (by decide) rfl ?_
    refine wq_iinc hC (v := (x4 + 1)) dX7_bestTurn_128 (lv' := [some (.ref (E.2.1 0)), some (.int x1), some (.int x2), some (.int x6), some (.int (x4 + 1)), none, some (.int x6), some (.int y0)]) rfl rfl (by decide) rfl ?_
    refine wq_goto hC dX7_bestTurn_131 (tgt := 6) (by decide) ?_
    have h := Option.some.inj h
    subst h
    refine wq_mask [true, true, true, true, true, false, false, false] (lv' := [some (.ref (E.2.1 0)), some (.int x1), some (.int x2), some (.int x6), some (.int (x4 + 1)), none, none, none]) rfl ?_
    exact K
def fX7_bestTurn_L6_J109 (x1 : Int32) (x2 : Int32) (x3 : Int32) (x4 : Int32) (x6 : Int32) (M : wq_M) : Option ((Int32 × Int32) ⊕ Int32) :=
  fX7_bestTurn_L6_J114 x1 x2 x3 x4 x6 1 M
set_option maxHeartbeats 4000000 in
set_option maxRecDepth 100000 in
theorem gX7_bestTurn_L6_J109 {g : wq_G} {E : wq_E} {d : Nat} (hC : wq_C g E wq_yR cX7_bestTurn 8 "WellPipesModel" (some .int) d) (hd0 : 4 ≤ d) (x1 : Int32) (x2 : Int32) (x3 : Int32) (x4 : Int32) (x6 : Int32) (M : wq_M)  {x : ((Int32 × Int32) ⊕ Int32)} (h : fX7_bestTurn_L6_J109 x1 x2 x3 x4 x6 M = some x) (K : (Sum.elim (fun (s : (Int32 × Int32)) => wq_g g E wq_yR 8 6 [some (.ref (E.2.1 0)), some (.int x1), some (.int x2), some (.int s.1), some (.int s.2), none, none, none] [] M) (fun (e : Int32) => wq_g g E wq_yR 8 134 [none, none, none, some (.int e), none, none, none, none] [] M)) x) : wq_g g E wq_yR 8 109 [some (.ref (E.2.1 0)), some (.int x1), some (.int x2), some (.int x3), some (.int x4), none, some (.int x6), none] [] M := by
  unfold fX7_bestTurn_L6_J109 at h
  refine wq_iconst hC (v := 1) dX7_bestTurn_109 (by decide) ?_
  refine wq_goto hC dX7_bestTurn_110 (tgt := 114) (by decide) ?_
  exact gX7_bestTurn_L6_J114 hC hd0 x1 x2 x3 x4 x6 1 M  h K
def fX7_bestTurn_L6_J113 (x1 : Int32) (x2 : Int32) (x3 : Int32) (x4 : Int32) (x6 : Int32) (M : wq_M) : Option ((Int32 × Int32) ⊕ Int32) :=
  fX7_bestTurn_L6_J114 x1 x2 x3 x4 x6 0 M
set_option maxHeartbeats 4000000 in
set_option maxRecDepth 100000 in
theorem gX7_bestTurn_L6_J113 {g : wq_G} {E : wq_E} {d : Nat} (hC : wq_C g E wq_yR cX7_bestTurn 8 "WellPipesModel" (some .int) d) (hd0 : 4 ≤ d) (x1 : Int32) (x2 : Int32) (x3 : Int32) (x4 : Int32) (x6 : Int32) (M : wq_M)  {x : ((Int32 × Int32) ⊕ Int32)} (h : fX7_bestTurn_L6_J113 x1 x2 x3 x4 x6 M = some x) (K : (Sum.elim (fun (s : (Int32 × Int32)) => wq_g g E wq_yR 8 6 [some (.ref (E.2.1 0)), some (.int x1), some (.int x2), some (.int s.1), some (.int s.2), none, none, none] [] M) (fun (e : Int32) => wq_g g E wq_yR 8 134 [none, none, none, some (.int e), none, none, none, none] [] M)) x) : wq_g g E wq_yR 8 113 [some (.ref (E.2.1 0)), some (.int x1), some (.int x2), some (.int x3), some (.int x4), none, some (.int x6), none] [] M := by
  unfold fX7_bestTurn_L6_J113 at h
  refine wq_iconst hC (v := 0) dX7_bestTurn_113 (by decide) ?_
  exact gX7_bestTurn_L6_J114 hC hd0 x1 x2 x3 x4 x6 0 M  h K
def fX7_bestTurn_L6 (x1 : Int32) (x2 : Int32) (M : wq_M) : (Int32 × Int32) → Option ((Int32 × Int32) ⊕ Int32) := fun s =>
  if wq_in 5 44 then (if (M.1 4 (5 : Int32).toNatClampNeg) ≤ s.2 then
    some (.inr s.1)
  else
    (fX7_of 4 s.2 4 M).bind fun r3 => if wq_in 0 44 then (fX7_wouldHold 4 (((M.1 4 (0 : Int32).toNatClampNeg) - 1) - x1) s.2 (x2 + r3) M).bind fun r6 => (if r6 = true then
      (fX7_of 4 s.2 5 M).bind fun r9 => if wq_in ((40 * (x1 + 1)) + (x2 + r3)) 200 then (if s.1 = (-1000000) then
        fX7_bestTurn_L6_J109 x1 x2 s.1 s.2 (r9 + (M.1 11 ((40 * (x1 + 1)) + (x2 + r3)).toNatClampNeg)) M
      else
        (if (x1 - x1 / 2 * 2) = 0 then
          (if s.1 ≤ (r9 + (M.1 11 ((40 * (x1 + 1)) + (x2 + r3)).toNatClampNeg)) then
            fX7_bestTurn_L6_J113 x1 x2 s.1 s.2 (r9 + (M.1 11 ((40 * (x1 + 1)) + (x2 + r3)).toNatClampNeg)) M
          else
            fX7_bestTurn_L6_J109 x1 x2 s.1 s.2 (r9 + (M.1 11 ((40 * (x1 + 1)) + (x2 + r3)).toNatClampNeg)) M)
        else
          (if (r9 + (M.1 11 ((40 * (x1 + 1)) + (x2 + r3)).toNatClampNeg)) ≤ s.1 then
            fX7_bestTurn_L6_J113 x1 x2 s.1 s.2 (r9 + (M.1 11 ((40 * (x1 + 1)) + (x2 + r3)).toNatClampNeg)) M
          else
            fX7_bestTurn_L6_J109 x1 x2 s.1 s.2 (r9 + (M.1 11 ((40 * (x1 + 1)) + (x2 + r3)).toNatClampNeg)) M))) else none
    else
      some (.inl (s.1, (s.2 + 1)))) else none) else none
set_option maxHeartbeats 4000000 in
set_option maxRecDepth 100000 in
theorem gX7_bestTurn_L6 {g : wq_G} {E : wq_E} {d : Nat} (hC : wq_C g E wq_yR cX7_bestTurn 8 "WellPipesModel" (some .int) d) (hd0 : 4 ≤ d) (x1 : Int32) (x2 : Int32) (M : wq_M)  : ∀ (n : Nat) (s : (Int32 × Int32)) (e : Int32), wq_lp (fX7_bestTurn_L6 x1 x2 M) n s = some e → (fun (e : Int32) => wq_g g E wq_yR 8 134 [none, none, none, some (.int e), none, none, none, none] [] M) e → wq_g g E wq_yR 8 6 [some (.ref (E.2.1 0)), some (.int x1), some (.int x2), some (.int s.1), some (.int s.2), none, none, none] [] M := by
  refine wq_lq_ok (fun (s : (Int32 × Int32)) => wq_g g E wq_yR 8 6 [some (.ref (E.2.1 0)), some (.int x1), some (.int x2), some (.int s.1), some (.int s.2), none, none, none] [] M) (fun (e : Int32) => wq_g g E wq_yR 8 134 [none, none, none, some (.int e), none, none, none, none] [] M) (fun s x h K => ?_)
  unfold fX7_bestTurn_L6 at h
  refine wq_iload hC dX7_bestTurn_6 rfl ?_
  refine wq_aload_n hC dX7_bestTurn_8 (i := 0) rfl rfl ?_
  refine gf_7 hC oR_0 5 (.ref (E.2.1 4)) (by decide) rfl tw_723 dX7_bestTurn_9 ?_
  refine wq_iconst hC (v := 5) dX7_bestTurn_12 (by decide) ?_
  obtain ⟨z1, h⟩ := wq_ii h
  refine wq_ald hC aR_4 z1 dX7_bestTurn_13 ?_
  refine wq_icmp_ge hC dX7_bestTurn_14 (tgt := 134) (by decide) (fun z2 => ?_) (fun z2 => ?_)
  · have h := wq_ip z2 h
    have h := Option.some.inj h
    subst h
    refine wq_mask [false, false, false, true, false, false, false, false] (lv' := [none, none, none, some (.int s.1), none, none, none, none]) rfl ?_
    exact K
  · have h := wq_in_ z2 h
    refine wq_iload_n hC dX7_bestTurn_17 (i := 2) rfl rfl ?_
    refine wq_aload_n hC dX7_bestTurn_18 (i := 0) rfl rfl ?_
    refine gf_7 hC oR_0 5 (.ref (E.2.1 4)) (by decide) rfl tw_723 dX7_bestTurn_19 ?_
    refine wq_iload hC dX7_bestTurn_22 rfl ?_
    refine wq_iconst hC (v := 4) dX7_bestTurn_24 (by decide) ?_
    obtain ⟨r3, hc4, h⟩ := wq_ob h
    refine wq_callS hC (ctX7_of (d := d - 1) (by omega) aR_4 hc4) (by omega) (by decide) rfl npX7_of tw_932 tw_933 tw_58 tw_934 (st := [.int x2]) (Nat.le_of_ble_eq_true rfl) rfl dX7_bestTurn_25 (st1 := [.int r3, .int x2]) rfl ?_
    refine wq_iadd hC dX7_bestTurn_28 ?_
    refine wq_istore hC dX7_bestTurn_29 (lv' := [some (.ref (E.2.1 0)), some (.int x1), some (.int x2), some (.int s.1), some (.int s.2), some (.int (x2 + r3)), none, none]) (by decide) rfl ?_
    refine wq_aload_n hC dX7_bestTurn_31 (i := 0) rfl rfl ?_
    refine gf_7 hC oR_0 5 (.ref (E.2.1 4)) (by decide) rfl tw_723 dX7_bestTurn_32 ?_
    refine wq_aload_n hC dX7_bestTurn_35 (i := 0) rfl rfl ?_
    refine gf_7 hC oR_0 5 (.ref (E.2.1 4)) (by decide) rfl tw_723 dX7_bestTurn_36 ?_
    refine wq_iconst hC (v := 0) dX7_bestTurn_39 (by decide) ?_
    obtain ⟨z5, h⟩ := wq_ii h
    refine wq_ald hC aR_4 z5 dX7_bestTurn_40 ?_
    refine wq_iconst hC (v := 1) dX7_bestTurn_41 (by decide) ?_
    refine wq_isub hC dX7_bestTurn_42 ?_
    refine wq_iload_n hC dX7_bestTurn_43 (i := 1) rfl rfl ?_
    refine wq_isub hC dX7_bestTurn_44 ?_
    refine wq_iload hC dX7_bestTurn_45 rfl ?_
    refine wq_iload hC dX7_bestTurn_47 rfl ?_
    obtain ⟨r6, hc7, h⟩ := wq_ob h
    refine wq_callS hC (ctX7_wouldHold (d := d - 1) (by omega) aR_4 hc7) (by omega) (by decide) rfl npX7_wouldHold tw_935 tw_936 tw_58 tw_937 (st := []) (Nat.le_of_ble_eq_true rfl) rfl dX7_bestTurn_49 (st1 := [.int (wq_b r6)]) rfl ?_
    refine wq_bif_eq hC dX7_bestTurn_52 (tgt := 128) (by decide) (fun z8 => ?_) (fun z8 => ?_)
    · have h := wq_in_ z8 h
      refine wq_iinc hC (v := (s.2 + 1)) dX7_bestTurn_128 (lv' := [some (.ref (E.2.1 0)), some (.int x1), some (.int x2), some (.int s.1), some (.int (s.2 + 1)), some (.int (x2 + r3)), none, none]) rfl rfl (by decide) rfl ?_
      refine wq_goto hC dX7_bestTurn_131 (tgt := 6) (by decide) ?_
      have h := Option.some.inj h
      subst h
      refine wq_mask [true, true, true, true, true, false, false, false] (lv' := [some (.ref (E.2.1 0)), some (.int x1), some (.int x2), some (.int s.1), some (.int (s.2 + 1)), none, none, none]) rfl ?_
      exact K
    · have h := wq_ip z8 h
      refine wq_aload_n hC dX7_bestTurn_55 (i := 0) rfl rfl ?_
      refine gf_7 hC oR_0 5 (.ref (E.2.1 4)) (by decide) rfl tw_723 dX7_bestTurn_56 ?_
      refine wq_iload hC dX7_bestTurn_59 rfl ?_
      refine wq_iconst hC (v := 5) dX7_bestTurn_61 (by decide) ?_
      obtain ⟨r9, hc10, h⟩ := wq_ob h
      refine wq_callS hC (ctX7_of (d := d - 1) (by omega) aR_4 hc10) (by omega) (by decide) rfl npX7_of tw_932 tw_933 tw_58 tw_934 (st := []) (Nat.le_of_ble_eq_true rfl) rfl dX7_bestTurn_62 (st1 := [.int r9]) rfl ?_
      refine wq_aload_n hC dX7_bestTurn_65 (i := 0) rfl rfl ?_
      refine gf_7 hC oR_0 21 (.ref (E.2.1 11)) (by decide) rfl tw_739 dX7_bestTurn_66 ?_
      refine wq_bipush hC (v := 40) dX7_bestTurn_69 (by decide) ?_
      refine wq_iload_n hC dX7_bestTurn_71 (i := 1) rfl rfl ?_
      refine wq_iconst hC (v := 1) dX7_bestTurn_72 (by decide) ?_
      refine wq_iadd hC dX7_bestTurn_73 ?_
      refine wq_imul hC dX7_bestTurn_74 ?_
      refine wq_iload hC dX7_bestTurn_75 rfl ?_
      refine wq_iadd hC dX7_bestTurn_77 ?_
      obtain ⟨z11, h⟩ := wq_ii h
      refine wq_ald hC aR_11 z11 dX7_bestTurn_78 ?_
      refine wq_iadd hC dX7_bestTurn_79 ?_
      refine wq_istore hC dX7_bestTurn_80 (lv' := [some (.ref (E.2.1 0)), some (.int x1), some (.int x2), some (.int s.1), some (.int s.2), some (.int (x2 + r3)), some (.int (r9 + (M.1 11 ((40 * (x1 + 1)) + (x2 + r3)).toNatClampNeg))), none]) (by decide) rfl ?_
      refine wq_iload_n hC dX7_bestTurn_82 (i := 3) rfl rfl ?_
      refine wq_ldc hC (v := (-1000000)) tw_850 dX7_bestTurn_83 ?_
      refine wq_icmp_eq hC dX7_bestTurn_85 (tgt := 109) (by decide) (fun z12 => ?_) (fun z12 => ?_)
      · have h := wq_ip z12 h
        refine wq_mask [true, true, true, true, true, false, true, false] (lv' := [some (.ref (E.2.1 0)), some (.int x1), some (.int x2), some (.int s.1), some (.int s.2), none, some (.int (r9 + (M.1 11 ((40 * (x1 + 1)) + (x2 + r3)).toNatClampNeg))), none]) rfl ?_
        exact gX7_bestTurn_L6_J109 hC hd0 x1 x2 s.1 s.2 (r9 + (M.1 11 ((40 * (x1 + 1)) + (x2 + r3)).toNatClampNeg)) M  h K
      · have h := wq_in_ z12 h
        refine wq_iload_n hC dX7_bestTurn_88 (i := 1) rfl rfl ?_
        refine wq_iconst hC (v := 2) dX7_bestTurn_89 (by decide) ?_
        refine wq_irem hC dX7_bestTurn_90 (by decide) ?_
        refine wq_if_ne hC dX7_bestTurn_91 (tgt := 103) (by decide) (fun z14 => ?_) (fun z14 => ?_)
        · have h := wq_in_ z14 h
          refine wq_iload hC dX7_bestTurn_103 rfl ?_
          refine wq_iload_n hC dX7_bestTurn_105 (i := 3) rfl rfl ?_
          refine wq_icmp_le hC dX7_bestTurn_106 (tgt := 113) (by decide) (fun z15 => ?_) (fun z15 => ?_)
          · have h := wq_ip z15 h
            refine wq_mask [true, true, true, true, true, false, true, false] (lv' := [some (.ref (E.2.1 0)), some (.int x1), some (.int x2), some (.int s.1), some (.int s.2), none, some (.int (r9 + (M.1 11 ((40 * (x1 + 1)) + (x2 + r3)).toNatClampNeg))), none]) rfl ?_
            exact gX7_bestTurn_L6_J113 hC hd0 x1 x2 s.1 s.2 (r9 + (M.1 11 ((40 * (x1 + 1)) + (x2 + r3)).toNatClampNeg)) M  h K
          · have h := wq_in_ z15 h
            refine wq_mask [true, true, true, true, true, false, true, false] (lv' := [some (.ref (E.2.1 0)), some (.int x1), some (.int x2), some (.int s.1), some (.int s.2), none, some (.int (r9 + (M.1 11 ((40 * (x1 + 1)) + (x2 + r3)).toNatClampNeg))), none]) rfl ?_
            exact gX7_bestTurn_L6_J109 hC hd0 x1 x2 s.1 s.2 (r9 + (M.1 11 ((40 * (x1 + 1)) + (x2 + r3)).toNatClampNeg)) M  h K
        · have h := wq_ip z14 h
          refine wq_iload hC dX7_bestTurn_94 rfl ?_
          refine wq_iload_n hC dX7_bestTurn_96 (i := 3) rfl rfl ?_
          refine wq_icmp_ge hC dX7_bestTurn_97 (tgt := 113) (by decide) (fun z16 => ?_) (fun z16 => ?_)
          · have h := wq_ip z16 h
            refine wq_mask [true, true, true, true, true, false, true, false] (lv' := [some (.ref (E.2.1 0)), some (.int x1), some (.int x2), some (.int s.1), some (.int s.2), none, some (.int (r9 + (M.1 11 ((40 * (x1 + 1)) + (x2 + r3)).toNatClampNeg))), none]) rfl ?_
            exact gX7_bestTurn_L6_J113 hC hd0 x1 x2 s.1 s.2 (r9 + (M.1 11 ((40 * (x1 + 1)) + (x2 + r3)).toNatClampNeg)) M  h K
          · have h := wq_in_ z16 h
            refine wq_goto hC dX7_bestTurn_100 (tgt := 109) (by decide) ?_
            refine wq_mask [true, true, true, true, true, false, true, false] (lv' := [some (.ref (E.2.1 0)), some (.int x1), some (.int x2), some (.int s.1), some (.int s.2), none, some (.int (r9 + (M.1 11 ((40 * (x1 + 1)) + (x2 + r3)).toNatClampNeg))), none]) rfl ?_
            exact gX7_bestTurn_L6_J109 hC hd0 x1 x2 s.1 s.2 (r9 + (M.1 11 ((40 * (x1 + 1)) + (x2 + r3)).toNatClampNeg)) M  h K
def fX7_bestTurn (x1 : Int32) (x2 : Int32) (M : wq_M) : Option Int32 :=
  (wq_lp (fX7_bestTurn_L6 x1 x2 M) wq_FU ((-1000000), 0)).bind fun e17 => (if e17 = (-1000000) then
    some 0
  else
    some e17)
set_option maxHeartbeats 4000000 in
set_option maxRecDepth 100000 in
theorem ctX7_bestTurn {l : Launch} {E : wq_E} {d : Nat} (hd0 : 4 ≤ d) {x1 : Int32} {x2 : Int32} {M : wq_M} {r : Int32}  (h : fX7_bestTurn x1 x2 M = some r) : wq_ct l E wq_yR yX7_bestTurn cX7_bestTurn 8 (some .int) d [.ref (E.2.1 0), .int x1, .int x2] M (some (.int r)) M := by
  refine wq_ent (own := "WellPipesModel") (lv0 := [some (.ref (E.2.1 0)), some (.int x1), some (.int x2), none, none, none, none, none]) (by decide +kernel) rfl (Nat.le_of_ble_eq_true rfl) rfl (fun g h1 h2 hC => ?_)
  have K : wq_ki g M r := ⟨h1, h2⟩
  unfold fX7_bestTurn at h
  refine wq_ldc hC (v := (-1000000)) tw_850 dX7_bestTurn_0 ?_
  refine wq_istore_n hC dX7_bestTurn_2 (i := 3) (lv' := [some (.ref (E.2.1 0)), some (.int x1), some (.int x2), some (.int (-1000000)), none, none, none, none]) rfl (by decide) rfl ?_
  refine wq_iconst hC (v := 0) dX7_bestTurn_3 (by decide) ?_
  refine wq_istore hC dX7_bestTurn_4 (lv' := [some (.ref (E.2.1 0)), some (.int x1), some (.int x2), some (.int (-1000000)), some (.int 0), none, none, none]) (by decide) rfl ?_
  obtain ⟨e17, hl18, h⟩ := wq_ob h
  refine gX7_bestTurn_L6 hC hd0 x1 x2 M  wq_FU _ _ hl18 ?_
  refine wq_iload_n hC dX7_bestTurn_134 (i := 3) rfl rfl ?_
  refine wq_ldc hC (v := (-1000000)) tw_850 dX7_bestTurn_135 ?_
  refine wq_icmp_ne hC dX7_bestTurn_137 (tgt := 144) (by decide) (fun z19 => ?_) (fun z19 => ?_)
  · have h := wq_in_ z19 h
    refine wq_iload_n hC dX7_bestTurn_144 (i := 3) rfl rfl ?_
    have h := Option.some.inj h
    subst h
    exact wq_iret hC dX7_bestTurn_145 K.1 K.2
  · have h := wq_ip z19 h
    refine wq_iconst hC (v := 0) dX7_bestTurn_140 (by decide) ?_
    refine wq_goto hC dX7_bestTurn_141 (tgt := 145) (by decide) ?_
    have h := Option.some.inj h
    subst h
    exact wq_iret hC dX7_bestTurn_145 K.1 K.2
theorem npX7_byTurns : yX7_byTurns.cls ≠ "java/lang/invoke/MethodHandle" ∧ yX7_byTurns.cls ≠ "java/lang/invoke/VarHandle" ∧ (parseMethodDescriptor yX7_byTurns.desc).map (fun d => d.parameters.length) = some 1 := by decide +kernel
def fX7_byTurns_L42 (x1 : Int32) : (Int32 × wq_M) → Option ((Int32 × wq_M) ⊕ wq_M) := fun s =>
  (if 40 ≤ s.1 then
    some (.inr s.2)
  else
    if wq_in ((40 * x1) + s.1) 200 then some (.inl ((s.1 + 1), (wq_st s.2 11 ((40 * x1) + s.1).toNatClampNeg 0))) else none)
set_option maxHeartbeats 4000000 in
set_option maxRecDepth 100000 in
theorem gX7_byTurns_L42 {g : wq_G} {E : wq_E} {d : Nat} (hC : wq_C g E wq_yR cX7_byTurns 4 "WellPipesModel" (some .int) d) (hd0 : 5 ≤ d) (x1 : Int32)  : ∀ (n : Nat) (s : (Int32 × wq_M)) (e : wq_M), wq_lp (fX7_byTurns_L42 x1) n s = some e → (fun (e : wq_M) => wq_g g E wq_yR 4 66 [some (.ref (E.2.1 0)), some (.int x1), none, none] [] e) e → wq_g g E wq_yR 4 42 [some (.ref (E.2.1 0)), some (.int x1), some (.int s.1), none] [] s.2 := by
  refine wq_lq_ok (fun (s : (Int32 × wq_M)) => wq_g g E wq_yR 4 42 [some (.ref (E.2.1 0)), some (.int x1), some (.int s.1), none] [] s.2) (fun (e : wq_M) => wq_g g E wq_yR 4 66 [some (.ref (E.2.1 0)), some (.int x1), none, none] [] e) (fun s x h K => ?_)
  unfold fX7_byTurns_L42 at h
  refine wq_iload_n hC dX7_byTurns_42 (i := 2) rfl rfl ?_
  refine wq_bipush hC (v := 40) dX7_byTurns_43 (by decide) ?_
  refine wq_icmp_ge hC dX7_byTurns_45 (tgt := 66) (by decide) (fun z9 => ?_) (fun z9 => ?_)
  · have h := wq_ip z9 h
    have h := Option.some.inj h
    subst h
    refine wq_mask [true, true, false, false] (lv' := [some (.ref (E.2.1 0)), some (.int x1), none, none]) rfl ?_
    exact K
  · have h := wq_in_ z9 h
    refine wq_aload_n hC dX7_byTurns_48 (i := 0) rfl rfl ?_
    refine gf_7 hC oR_0 21 (.ref (E.2.1 11)) (by decide) rfl tw_739 dX7_byTurns_49 ?_
    refine wq_bipush hC (v := 40) dX7_byTurns_52 (by decide) ?_
    refine wq_iload_n hC dX7_byTurns_54 (i := 1) rfl rfl ?_
    refine wq_imul hC dX7_byTurns_55 ?_
    refine wq_iload_n hC dX7_byTurns_56 (i := 2) rfl rfl ?_
    refine wq_iadd hC dX7_byTurns_57 ?_
    refine wq_iconst hC (v := 0) dX7_byTurns_58 (by decide) ?_
    obtain ⟨z10, h⟩ := wq_ii h
    refine wq_ast hC aR_11 z10 dX7_byTurns_59 ?_
    refine wq_iinc hC (v := (s.1 + 1)) dX7_byTurns_60 (lv' := [some (.ref (E.2.1 0)), some (.int x1), some (.int (s.1 + 1)), none]) rfl rfl (by decide) rfl ?_
    refine wq_goto hC dX7_byTurns_63 (tgt := 42) (by decide) ?_
    have h := Option.some.inj h
    subst h
    exact K
def fX7_byTurns_L70_L76 (x2 : Int32) : (Int32 × wq_M) → Option ((Int32 × wq_M) ⊕ wq_M) := fun s =>
  (if (9 * x2) < s.1 then
    some (.inr s.2)
  else
    (fX7_bestTurn x2 s.1 s.2).bind fun r15 => if wq_in ((40 * x2) + s.1) 200 then some (.inl ((s.1 + 1), (wq_st s.2 11 ((40 * x2) + s.1).toNatClampNeg r15))) else none)
set_option maxHeartbeats 4000000 in
set_option maxRecDepth 100000 in
theorem gX7_byTurns_L70_L76 {g : wq_G} {E : wq_E} {d : Nat} (hC : wq_C g E wq_yR cX7_byTurns 4 "WellPipesModel" (some .int) d) (hd0 : 5 ≤ d) (x2 : Int32)  : ∀ (n : Nat) (s : (Int32 × wq_M)) (e : wq_M), wq_lp (fX7_byTurns_L70_L76 x2) n s = some e → (fun (e : wq_M) => wq_g g E wq_yR 4 107 [some (.ref (E.2.1 0)), none, some (.int x2), none] [] e) e → wq_g g E wq_yR 4 76 [some (.ref (E.2.1 0)), none, some (.int x2), some (.int s.1)] [] s.2 := by
  refine wq_lq_ok (fun (s : (Int32 × wq_M)) => wq_g g E wq_yR 4 76 [some (.ref (E.2.1 0)), none, some (.int x2), some (.int s.1)] [] s.2) (fun (e : wq_M) => wq_g g E wq_yR 4 107 [some (.ref (E.2.1 0)), none, some (.int x2), none] [] e) (fun s x h K => ?_)
  unfold fX7_byTurns_L70_L76 at h
  refine wq_iload_n hC dX7_byTurns_76 (i := 3) rfl rfl ?_
  refine wq_bipush hC (v := 9) dX7_byTurns_77 (by decide) ?_
  refine wq_iload_n hC dX7_byTurns_79 (i := 2) rfl rfl ?_
  refine wq_imul hC dX7_byTurns_80 ?_
  refine wq_icmp_gt hC dX7_byTurns_81 (tgt := 107) (by decide) (fun z14 => ?_) (fun z14 => ?_)
  · have h := wq_ip z14 h
    have h := Option.some.inj h
    subst h
    refine wq_mask [true, false, true, false] (lv' := [some (.ref (E.2.1 0)), none, some (.int x2), none]) rfl ?_
    exact K
  · have h := wq_in_ z14 h
    refine wq_aload_n hC dX7_byTurns_84 (i := 0) rfl rfl ?_
    refine gf_7 hC oR_0 21 (.ref (E.2.1 11)) (by decide) rfl tw_739 dX7_byTurns_85 ?_
    refine wq_bipush hC (v := 40) dX7_byTurns_88 (by decide) ?_
    refine wq_iload_n hC dX7_byTurns_90 (i := 2) rfl rfl ?_
    refine wq_imul hC dX7_byTurns_91 ?_
    refine wq_iload_n hC dX7_byTurns_92 (i := 3) rfl rfl ?_
    refine wq_iadd hC dX7_byTurns_93 ?_
    refine wq_aload_n hC dX7_byTurns_94 (i := 0) rfl rfl ?_
    refine wq_iload_n hC dX7_byTurns_95 (i := 2) rfl rfl ?_
    refine wq_iload_n hC dX7_byTurns_96 (i := 3) rfl rfl ?_
    obtain ⟨r15, hc16, h⟩ := wq_ob h
    refine cv_7 hC (ctX7_bestTurn (d := d - 1) (by omega)  hc16) (by omega) (by decide) oR_0 rfl rfl npX7_bestTurn tw_1048 tw_1050 tw_43 tw_1051 (st := [.int ((40 * x2) + s.1), .ref (E.2.1 11)]) (Nat.le_of_ble_eq_true rfl) rfl dX7_byTurns_97 (st1 := [.int r15, .int ((40 * x2) + s.1), .ref (E.2.1 11)]) rfl ?_
    obtain ⟨z17, h⟩ := wq_ii h
    refine wq_ast hC aR_11 z17 dX7_byTurns_100 ?_
    refine wq_iinc hC (v := (s.1 + 1)) dX7_byTurns_101 (lv' := [some (.ref (E.2.1 0)), none, some (.int x2), some (.int (s.1 + 1))]) rfl rfl (by decide) rfl ?_
    refine wq_goto hC dX7_byTurns_104 (tgt := 76) (by decide) ?_
    have h := Option.some.inj h
    subst h
    exact K
def fX7_byTurns_L70  : (Int32 × wq_M) → Option ((Int32 × wq_M) ⊕ wq_M) := fun s =>
  (if s.1 < 0 then
    some (.inr s.2)
  else
    (wq_lp (fX7_byTurns_L70_L76 s.1) wq_FU (0, s.2)).bind fun e18 => some (.inl ((s.1 + (-1)), e18)))
set_option maxHeartbeats 4000000 in
set_option maxRecDepth 100000 in
theorem gX7_byTurns_L70 {g : wq_G} {E : wq_E} {d : Nat} (hC : wq_C g E wq_yR cX7_byTurns 4 "WellPipesModel" (some .int) d) (hd0 : 5 ≤ d)   : ∀ (n : Nat) (s : (Int32 × wq_M)) (e : wq_M), wq_lp (fX7_byTurns_L70) n s = some e → (fun (e : wq_M) => wq_g g E wq_yR 4 113 [some (.ref (E.2.1 0)), none, none, none] [] e) e → wq_g g E wq_yR 4 70 [some (.ref (E.2.1 0)), none, some (.int s.1), none] [] s.2 := by
  refine wq_lq_ok (fun (s : (Int32 × wq_M)) => wq_g g E wq_yR 4 70 [some (.ref (E.2.1 0)), none, some (.int s.1), none] [] s.2) (fun (e : wq_M) => wq_g g E wq_yR 4 113 [some (.ref (E.2.1 0)), none, none, none] [] e) (fun s x h K => ?_)
  unfold fX7_byTurns_L70 at h
  refine wq_iload_n hC dX7_byTurns_70 (i := 2) rfl rfl ?_
  refine wq_if_lt hC dX7_byTurns_71 (tgt := 113) (by decide) (fun z13 => ?_) (fun z13 => ?_)
  · have h := wq_ip z13 h
    have h := Option.some.inj h
    subst h
    refine wq_mask [true, false, false, false] (lv' := [some (.ref (E.2.1 0)), none, none, none]) rfl ?_
    exact K
  · have h := wq_in_ z13 h
    refine wq_iconst hC (v := 0) dX7_byTurns_74 (by decide) ?_
    refine wq_istore_n hC dX7_byTurns_75 (i := 3) (lv' := [some (.ref (E.2.1 0)), none, some (.int s.1), some (.int 0)]) rfl (by decide) rfl ?_
    obtain ⟨e18, hl19, h⟩ := wq_ob h
    refine gX7_byTurns_L70_L76 hC hd0 s.1  wq_FU _ _ hl19 ?_
    refine wq_iinc hC (v := (s.1 + (-1))) dX7_byTurns_107 (lv' := [some (.ref (E.2.1 0)), none, some (.int (s.1 + (-1))), none]) rfl rfl (by decide) rfl ?_
    refine wq_goto hC dX7_byTurns_110 (tgt := 70) (by decide) ?_
    have h := Option.some.inj h
    subst h
    exact K
def fX7_byTurns (x1 : Int32) (M : wq_M) : Option (Int32 × wq_M) :=
  (fX7_isThere  (wq_st M 0 0 0)).bind fun r1 => (if r1 = true then
    (fX7_in x1.toInt64 (0 : Int64) (4 : Int64) (wq_st M 0 0 0)).bind fun r4 => (if r4 = true then
      if wq_in 0 44 then (if x1 ≤ ((wq_st M 0 0 0).1 4 (0 : Int32).toNatClampNeg) then
        (wq_lp (fX7_byTurns_L42 x1) wq_FU (0, (wq_st M 0 0 0))).bind fun e11 => (wq_lp (fX7_byTurns_L70) wq_FU ((x1 - 1), e11)).bind fun e20 => if wq_in 0 200 then some ((e20.1 11 (0 : Int32).toNatClampNeg), e20) else none
      else
        some ((-1000001), (wq_st M 0 0 0))) else none
    else
      some ((-1000001), (wq_st M 0 0 0)))
  else
    some ((-1000002), (wq_st M 0 0 0)))
set_option maxHeartbeats 4000000 in
set_option maxRecDepth 100000 in
theorem ctX7_byTurns {l : Launch} {E : wq_E} {d : Nat} (hd0 : 5 ≤ d) {x1 : Int32} {M : wq_M} {r : (Int32 × wq_M)}  (h : fX7_byTurns x1 M = some r) : wq_ct l E wq_yR yX7_byTurns cX7_byTurns 4 (some .int) d [.ref (E.2.1 0), .int x1] M (some (.int r.1)) r.2 := by
  refine wq_ent (own := "WellPipesModel") (lv0 := [some (.ref (E.2.1 0)), some (.int x1), none, none]) (by decide +kernel) rfl (Nat.le_of_ble_eq_true rfl) rfl (fun g h1 h2 hC => ?_)
  have K : wq_kI g r := ⟨h1, h2⟩
  unfold fX7_byTurns at h
  refine wq_aload_n hC dX7_byTurns_0 (i := 0) rfl rfl ?_
  refine wq_iconst hC (v := 0) dX7_byTurns_1 (by decide) ?_
  refine pf_7_0 hC oR_0 tw_718 dX7_byTurns_2 ?_
  refine wq_aload_n hC dX7_byTurns_5 (i := 0) rfl rfl ?_
  obtain ⟨r1, hc2, h⟩ := wq_ob h
  refine cv_7 hC (ctX7_isThere (d := d - 1) (by omega)  hc2) (by omega) (by decide) oR_0 rfl rfl npX7_isThere tw_912 tw_914 tw_36 tw_915 (st := []) (Nat.le_of_ble_eq_true rfl) rfl dX7_byTurns_6 (st1 := [.int (wq_b r1)]) rfl ?_
  refine wq_bif_ne hC dX7_byTurns_9 (tgt := 15) (by decide) (fun z3 => ?_) (fun z3 => ?_)
  · have h := wq_ip z3 h
    refine wq_iload_n hC dX7_byTurns_15 (i := 1) rfl rfl ?_
    refine wq_i2l hC dX7_byTurns_16 ?_
    refine wq_lconst hC (v := 0) dX7_byTurns_17 (by decide) ?_
    refine wq_ldc2 hC (v := (4 : Int64)) tw_975 dX7_byTurns_18 ?_
    obtain ⟨r4, hc5, h⟩ := wq_ob h
    refine wq_callS hC (ctX7_in (d := d - 1) (by omega)  hc5) (by omega) (by decide) rfl npX7_in tw_806 tw_807 tw_58 tw_808 (st := []) (Nat.le_of_ble_eq_true rfl) rfl dX7_byTurns_21 (st1 := [.int (wq_b r4)]) rfl ?_
    refine wq_bif_eq hC dX7_byTurns_24 (tgt := 37) (by decide) (fun z6 => ?_) (fun z6 => ?_)
    · have h := wq_in_ z6 h
      refine wq_ldc hC (v := (-1000001)) tw_810 dX7_byTurns_37 ?_
      have h := Option.some.inj h
      subst h
      exact wq_iret hC dX7_byTurns_39 K.1 K.2
    · have h := wq_ip z6 h
      refine wq_iload_n hC dX7_byTurns_27 (i := 1) rfl rfl ?_
      refine wq_aload_n hC dX7_byTurns_28 (i := 0) rfl rfl ?_
      refine gf_7 hC oR_0 5 (.ref (E.2.1 4)) (by decide) rfl tw_723 dX7_byTurns_29 ?_
      refine wq_iconst hC (v := 0) dX7_byTurns_32 (by decide) ?_
      obtain ⟨z7, h⟩ := wq_ii h
      refine wq_ald hC aR_4 z7 dX7_byTurns_33 ?_
      refine wq_icmp_le hC dX7_byTurns_34 (tgt := 40) (by decide) (fun z8 => ?_) (fun z8 => ?_)
      · have h := wq_ip z8 h
        refine wq_iconst hC (v := 0) dX7_byTurns_40 (by decide) ?_
        refine wq_istore_n hC dX7_byTurns_41 (i := 2) (lv' := [some (.ref (E.2.1 0)), some (.int x1), some (.int 0), none]) rfl (by decide) rfl ?_
        obtain ⟨e11, hl12, h⟩ := wq_ob h
        refine gX7_byTurns_L42 hC hd0 x1  wq_FU _ _ hl12 ?_
        refine wq_iload_n hC dX7_byTurns_66 (i := 1) rfl rfl ?_
        refine wq_iconst hC (v := 1) dX7_byTurns_67 (by decide) ?_
        refine wq_isub hC dX7_byTurns_68 ?_
        refine wq_istore_n hC dX7_byTurns_69 (i := 2) (lv' := [some (.ref (E.2.1 0)), some (.int x1), some (.int (x1 - 1)), none]) rfl (by decide) rfl ?_
        obtain ⟨e20, hl21, h⟩ := wq_ob h
        refine wq_mask [true, false, true, false] (lv' := [some (.ref (E.2.1 0)), none, some (.int (x1 - 1)), none]) rfl ?_
        refine gX7_byTurns_L70 hC hd0   wq_FU _ _ hl21 ?_
        refine wq_aload_n hC dX7_byTurns_113 (i := 0) rfl rfl ?_
        refine gf_7 hC oR_0 21 (.ref (E.2.1 11)) (by decide) rfl tw_739 dX7_byTurns_114 ?_
        refine wq_iconst hC (v := 0) dX7_byTurns_117 (by decide) ?_
        obtain ⟨z22, h⟩ := wq_ii h
        refine wq_ald hC aR_11 z22 dX7_byTurns_118 ?_
        have h := Option.some.inj h
        subst h
        exact wq_iret hC dX7_byTurns_119 K.1 K.2
      · have h := wq_in_ z8 h
        refine wq_ldc hC (v := (-1000001)) tw_810 dX7_byTurns_37 ?_
        have h := Option.some.inj h
        subst h
        exact wq_iret hC dX7_byTurns_39 K.1 K.2
  · have h := wq_in_ z3 h
    refine wq_ldc hC (v := (-1000002)) tw_903 dX7_byTurns_12 ?_
    have h := Option.some.inj h
    subst h
    exact wq_iret hC dX7_byTurns_14 K.1 K.2
theorem npX7_rowFound : yX7_rowFound.cls ≠ "java/lang/invoke/MethodHandle" ∧ yX7_rowFound.cls ≠ "java/lang/invoke/VarHandle" ∧ (parseMethodDescriptor yX7_rowFound.desc).map (fun d => d.parameters.length) = some 3 := by decide +kernel
def fX7_rowFound (x1 : Int32) (x2 : Int32) (x3 : Int32) (M : wq_M) : Option (Int32 × wq_M) :=
  if wq_in x1 8 then (if 0 ≤ (M.1 1 x1.toNatClampNeg) then
    (if x2 < 0 then
      (fX7_finding 2 M).bind fun r4 => some (r4.1, r4.2)
    else
      if wq_in x1 8 then (if (lg_cmp (x2.toInt64 + x3.toInt64) ((M.1 2 x1.toNatClampNeg).toInt64)) ≤ 0 then
        some (0, (wq_st M 0 1 0))
      else
        (fX7_finding 2 M).bind fun r8 => some (r8.1, r8.2)) else none)
  else
    (fX7_finding 1 M).bind fun r10 => some (r10.1, r10.2)) else none
set_option maxHeartbeats 4000000 in
set_option maxRecDepth 100000 in
theorem ctX7_rowFound {l : Launch} {E : wq_E} {d : Nat} (hd0 : 1 ≤ d) {x1 : Int32} {x2 : Int32} {x3 : Int32} {M : wq_M} {r : (Int32 × wq_M)}  (h : fX7_rowFound x1 x2 x3 M = some r) : wq_ct l E wq_yR yX7_rowFound cX7_rowFound 4 (some .int) d [.ref (E.2.1 0), .int x1, .int x2, .int x3] M (some (.int r.1)) r.2 := by
  refine wq_ent (own := "WellPipesModel") (lv0 := [some (.ref (E.2.1 0)), some (.int x1), some (.int x2), some (.int x3)]) (by decide +kernel) rfl (Nat.le_of_ble_eq_true rfl) rfl (fun g h1 h2 hC => ?_)
  have K : wq_kI g r := ⟨h1, h2⟩
  unfold fX7_rowFound at h
  refine wq_aload_n hC dX7_rowFound_0 (i := 0) rfl rfl ?_
  refine gf_7 hC oR_0 2 (.ref (E.2.1 1)) (by decide) rfl tw_720 dX7_rowFound_1 ?_
  refine wq_iload_n hC dX7_rowFound_4 (i := 1) rfl rfl ?_
  obtain ⟨z1, h⟩ := wq_ii h
  refine wq_ald hC aR_1 z1 dX7_rowFound_5 ?_
  refine wq_if_ge hC dX7_rowFound_6 (tgt := 15) (by decide) (fun z2 => ?_) (fun z2 => ?_)
  · have h := wq_ip z2 h
    refine wq_iload_n hC dX7_rowFound_15 (i := 2) rfl rfl ?_
    refine wq_if_lt hC dX7_rowFound_16 (tgt := 35) (by decide) (fun z3 => ?_) (fun z3 => ?_)
    · have h := wq_ip z3 h
      refine wq_aload_n hC dX7_rowFound_35 (i := 0) rfl rfl ?_
      refine wq_iconst hC (v := 2) dX7_rowFound_36 (by decide) ?_
      obtain ⟨r4, hc5, h⟩ := wq_ob h
      refine cv_7 hC (ctX7_finding (d := d - 1) (by omega)  hc5) (by omega) (by decide) oR_0 rfl rfl npX7_finding tw_811 tw_813 tw_22 tw_814 (st := []) (Nat.le_of_ble_eq_true rfl) rfl dX7_rowFound_37 (st1 := [.int r4.1]) rfl ?_
      have h := Option.some.inj h
      subst h
      exact wq_iret hC dX7_rowFound_40 K.1 K.2
    · have h := wq_in_ z3 h
      refine wq_iload_n hC dX7_rowFound_19 (i := 2) rfl rfl ?_
      refine wq_i2l hC dX7_rowFound_20 ?_
      refine wq_iload_n hC dX7_rowFound_21 (i := 3) rfl rfl ?_
      refine wq_i2l hC dX7_rowFound_22 ?_
      refine wq_ladd hC dX7_rowFound_23 ?_
      refine wq_aload_n hC dX7_rowFound_24 (i := 0) rfl rfl ?_
      refine gf_7 hC oR_0 3 (.ref (E.2.1 2)) (by decide) rfl tw_721 dX7_rowFound_25 ?_
      refine wq_iload_n hC dX7_rowFound_28 (i := 1) rfl rfl ?_
      obtain ⟨z6, h⟩ := wq_ii h
      refine wq_ald hC aR_2 z6 dX7_rowFound_29 ?_
      refine wq_i2l hC dX7_rowFound_30 ?_
      refine wq_lcmp hC dX7_rowFound_31 ?_
      refine wq_if_le hC dX7_rowFound_32 (tgt := 41) (by decide) (fun z7 => ?_) (fun z7 => ?_)
      · have h := wq_ip z7 h
        refine wq_aload_n hC dX7_rowFound_41 (i := 0) rfl rfl ?_
        refine wq_iconst hC (v := 0) dX7_rowFound_42 (by decide) ?_
        refine pf_7_1 hC oR_0 tw_719 dX7_rowFound_43 ?_
        refine wq_iconst hC (v := 0) dX7_rowFound_46 (by decide) ?_
        have h := Option.some.inj h
        subst h
        exact wq_iret hC dX7_rowFound_47 K.1 K.2
      · have h := wq_in_ z7 h
        refine wq_aload_n hC dX7_rowFound_35 (i := 0) rfl rfl ?_
        refine wq_iconst hC (v := 2) dX7_rowFound_36 (by decide) ?_
        obtain ⟨r8, hc9, h⟩ := wq_ob h
        refine cv_7 hC (ctX7_finding (d := d - 1) (by omega)  hc9) (by omega) (by decide) oR_0 rfl rfl npX7_finding tw_811 tw_813 tw_22 tw_814 (st := []) (Nat.le_of_ble_eq_true rfl) rfl dX7_rowFound_37 (st1 := [.int r8.1]) rfl ?_
        have h := Option.some.inj h
        subst h
        exact wq_iret hC dX7_rowFound_40 K.1 K.2
  · have h := wq_in_ z2 h
    refine wq_aload_n hC dX7_rowFound_9 (i := 0) rfl rfl ?_
    refine wq_iconst hC (v := 1) dX7_rowFound_10 (by decide) ?_
    obtain ⟨r10, hc11, h⟩ := wq_ob h
    refine cv_7 hC (ctX7_finding (d := d - 1) (by omega)  hc11) (by omega) (by decide) oR_0 rfl rfl npX7_finding tw_811 tw_813 tw_22 tw_814 (st := []) (Nat.le_of_ble_eq_true rfl) rfl dX7_rowFound_11 (st1 := [.int r10.1]) rfl ?_
    have h := Option.some.inj h
    subst h
    exact wq_iret hC dX7_rowFound_14 K.1 K.2
theorem npX7_who : yX7_who.cls ≠ "java/lang/invoke/MethodHandle" ∧ yX7_who.cls ≠ "java/lang/invoke/VarHandle" ∧ (parseMethodDescriptor yX7_who.desc).map (fun d => d.parameters.length) = some 4 := by decide +kernel
def fX7_who_L62_L128 (x1 : Int32) (x2 : Int32) (x3 : Int32) (x4 : Int32) (x6 : Int32) (x7 : Int32) (M : wq_M) : (Int32 × Int32) → Option ((Int32 × Int32) ⊕ Int32) := fun s =>
  if wq_in 0 44 then (if (M.1 4 (0 : Int32).toNatClampNeg) ≤ s.2 then
    some (.inr s.1)
  else
    (if s.1 = 0 then
      some (.inl (0, (s.2 + 1)))
    else
      if wq_in s.2 8 then if wq_in (((40 * x3) + x4) + s.2) 320 then (if (M.1 10 s.2.toNatClampNeg) = (M.1 3 (((40 * x3) + x4) + s.2).toNatClampNeg) then
        some (.inl (1, (s.2 + 1)))
      else
        some (.inl (0, (s.2 + 1)))) else none else none)) else none
set_option maxHeartbeats 4000000 in
set_option maxRecDepth 100000 in
theorem gX7_who_L62_L128 {g : wq_G} {E : wq_E} {d : Nat} (hC : wq_C g E wq_yR cX7_who 10 "WellPipesModel" (some .int) d) (hd0 : 7 ≤ d) (x1 : Int32) (x2 : Int32) (x3 : Int32) (x4 : Int32) (x6 : Int32) (x7 : Int32) (M : wq_M)  : ∀ (n : Nat) (s : (Int32 × Int32)) (e : Int32), wq_lp (fX7_who_L62_L128 x1 x2 x3 x4 x6 x7 M) n s = some e → (fun (e : Int32) => wq_g g E wq_yR 10 182 [some (.ref (E.2.1 0)), some (.int x1), some (.int x2), some (.int x3), some (.int x4), none, some (.int x6), some (.int x7), some (.int e), none] [] M) e → wq_g g E wq_yR 10 128 [some (.ref (E.2.1 0)), some (.int x1), some (.int x2), some (.int x3), some (.int x4), none, some (.int x6), some (.int x7), some (.int s.1), some (.int s.2)] [] M := by
  refine wq_lq_ok (fun (s : (Int32 × Int32)) => wq_g g E wq_yR 10 128 [some (.ref (E.2.1 0)), some (.int x1), some (.int x2), some (.int x3), some (.int x4), none, some (.int x6), some (.int x7), some (.int s.1), some (.int s.2)] [] M) (fun (e : Int32) => wq_g g E wq_yR 10 182 [some (.ref (E.2.1 0)), some (.int x1), some (.int x2), some (.int x3), some (.int x4), none, some (.int x6), some (.int x7), some (.int e), none] [] M) (fun s x h K => ?_)
  unfold fX7_who_L62_L128 at h
  refine wq_iload hC dX7_who_128 rfl ?_
  refine wq_aload_n hC dX7_who_130 (i := 0) rfl rfl ?_
  refine gf_7 hC oR_0 5 (.ref (E.2.1 4)) (by decide) rfl tw_723 dX7_who_131 ?_
  refine wq_iconst hC (v := 0) dX7_who_134 (by decide) ?_
  obtain ⟨z23, h⟩ := wq_ii h
  refine wq_ald hC aR_4 z23 dX7_who_135 ?_
  refine wq_icmp_ge hC dX7_who_136 (tgt := 182) (by decide) (fun z24 => ?_) (fun z24 => ?_)
  · have h := wq_ip z24 h
    have h := Option.some.inj h
    subst h
    refine wq_mask [true, true, true, true, true, false, true, true, true, false] (lv' := [some (.ref (E.2.1 0)), some (.int x1), some (.int x2), some (.int x3), some (.int x4), none, some (.int x6), some (.int x7), some (.int s.1), none]) rfl ?_
    exact K
  · have h := wq_in_ z24 h
    refine wq_iload hC dX7_who_139 rfl ?_
    refine wq_if_eq hC dX7_who_141 (tgt := 173) (by decide) (fun z25 => ?_) (fun z25 => ?_)
    · have h := wq_ip z25 h
      refine wq_iconst hC (v := 0) dX7_who_173 (by decide) ?_
      refine wq_istore hC dX7_who_174 (lv' := [some (.ref (E.2.1 0)), some (.int x1), some (.int x2), some (.int x3), some (.int x4), none, some (.int x6), some (.int x7), some (.int 0), some (.int s.2)]) (by decide) rfl ?_
      refine wq_iinc hC (v := (s.2 + 1)) dX7_who_176 (lv' := [some (.ref (E.2.1 0)), some (.int x1), some (.int x2), some (.int x3), some (.int x4), none, some (.int x6), some (.int x7), some (.int 0), some (.int (s.2 + 1))]) rfl rfl (by decide) rfl ?_
      refine wq_goto hC dX7_who_179 (tgt := 128) (by decide) ?_
      have h := Option.some.inj h
      subst h
      exact K
    · have h := wq_in_ z25 h
      refine wq_aload_n hC dX7_who_144 (i := 0) rfl rfl ?_
      refine gf_7 hC oR_0 20 (.ref (E.2.1 10)) (by decide) rfl tw_738 dX7_who_145 ?_
      refine wq_iload hC dX7_who_148 rfl ?_
      obtain ⟨z26, h⟩ := wq_ii h
      refine wq_ald hC aR_10 z26 dX7_who_150 ?_
      refine wq_aload_n hC dX7_who_151 (i := 0) rfl rfl ?_
      refine gf_7 hC oR_0 4 (.ref (E.2.1 3)) (by decide) rfl tw_722 dX7_who_152 ?_
      refine wq_bipush hC (v := 40) dX7_who_155 (by decide) ?_
      refine wq_iload_n hC dX7_who_157 (i := 3) rfl rfl ?_
      refine wq_imul hC dX7_who_158 ?_
      refine wq_iload hC dX7_who_159 rfl ?_
      refine wq_iadd hC dX7_who_161 ?_
      refine wq_iload hC dX7_who_162 rfl ?_
      refine wq_iadd hC dX7_who_164 ?_
      obtain ⟨z27, h⟩ := wq_ii h
      refine wq_ald hC aR_3 z27 dX7_who_165 ?_
      refine wq_icmp_ne hC dX7_who_166 (tgt := 173) (by decide) (fun z28 => ?_) (fun z28 => ?_)
      · have h := wq_in_ z28 h
        refine wq_iconst hC (v := 0) dX7_who_173 (by decide) ?_
        refine wq_istore hC dX7_who_174 (lv' := [some (.ref (E.2.1 0)), some (.int x1), some (.int x2), some (.int x3), some (.int x4), none, some (.int x6), some (.int x7), some (.int 0), some (.int s.2)]) (by decide) rfl ?_
        refine wq_iinc hC (v := (s.2 + 1)) dX7_who_176 (lv' := [some (.ref (E.2.1 0)), some (.int x1), some (.int x2), some (.int x3), some (.int x4), none, some (.int x6), some (.int x7), some (.int 0), some (.int (s.2 + 1))]) rfl rfl (by decide) rfl ?_
        refine wq_goto hC dX7_who_179 (tgt := 128) (by decide) ?_
        have h := Option.some.inj h
        subst h
        exact K
      · have h := wq_ip z28 h
        refine wq_iconst hC (v := 1) dX7_who_169 (by decide) ?_
        refine wq_goto hC dX7_who_170 (tgt := 174) (by decide) ?_
        refine wq_istore hC dX7_who_174 (lv' := [some (.ref (E.2.1 0)), some (.int x1), some (.int x2), some (.int x3), some (.int x4), none, some (.int x6), some (.int x7), some (.int 1), some (.int s.2)]) (by decide) rfl ?_
        refine wq_iinc hC (v := (s.2 + 1)) dX7_who_176 (lv' := [some (.ref (E.2.1 0)), some (.int x1), some (.int x2), some (.int x3), some (.int x4), none, some (.int x6), some (.int x7), some (.int 1), some (.int (s.2 + 1))]) rfl rfl (by decide) rfl ?_
        refine wq_goto hC dX7_who_179 (tgt := 128) (by decide) ?_
        have h := Option.some.inj h
        subst h
        exact K
def fX7_who_L62_J123 (x1 : Int32) (x2 : Int32) (x3 : Int32) (x4 : Int32) (x6 : Int32) (x7 : Int32) (y0 : Int32) (M : wq_M) : Option ((Int32 × Int32 × wq_M) ⊕ (Int32 × wq_M)) :=
  (wq_lp (fX7_who_L62_L128 x1 x2 x3 x4 x6 x7 M) wq_FU (y0, 0)).bind fun e29 => (if e29 = 0 then
    some (.inl ((x6 ||| 0), (x7 + 1), M))
  else
    some (.inl ((x6 ||| (1 <<< (x7 &&& 31))), (x7 + 1), M)))
set_option maxHeartbeats 4000000 in
set_option maxRecDepth 100000 in
theorem gX7_who_L62_J123 {g : wq_G} {E : wq_E} {d : Nat} (hC : wq_C g E wq_yR cX7_who 10 "WellPipesModel" (some .int) d) (hd0 : 7 ≤ d) (x1 : Int32) (x2 : Int32) (x3 : Int32) (x4 : Int32) (x6 : Int32) (x7 : Int32) (y0 : Int32) (M : wq_M)  {x : ((Int32 × Int32 × wq_M) ⊕ (Int32 × wq_M))} (h : fX7_who_L62_J123 x1 x2 x3 x4 x6 x7 y0 M = some x) (K : (Sum.elim (fun (s : (Int32 × Int32 × wq_M)) => wq_g g E wq_yR 10 62 [some (.ref (E.2.1 0)), some (.int x1), some (.int x2), some (.int x3), some (.int x4), none, some (.int s.1), some (.int s.2.1), none, none] [] s.2.2) (fun (e : (Int32 × wq_M)) => wq_g g E wq_yR 10 206 [none, none, none, none, none, none, some (.int e.1), none, none, none] [] e.2)) x) : wq_g g E wq_yR 10 123 [some (.ref (E.2.1 0)), some (.int x1), some (.int x2), some (.int x3), some (.int x4), none, some (.int x6), some (.int x7), none, none] [.int y0] M := by
  unfold fX7_who_L62_J123 at h
  refine wq_istore hC dX7_who_123 (lv' := [some (.ref (E.2.1 0)), some (.int x1), some (.int x2), some (.int x3), some (.int x4), none, some (.int x6), some (.int x7), some (.int y0), none]) (by decide) rfl ?_
  refine wq_iconst hC (v := 0) dX7_who_125 (by decide) ?_
  refine wq_istore hC dX7_who_126 (lv' := [some (.ref (E.2.1 0)), some (.int x1), some (.int x2), some (.int x3), some (.int x4), none, some (.int x6), some (.int x7), some (.int y0), some (.int 0)]) (by decide) rfl ?_
  obtain ⟨e29, hl30, h⟩ := wq_ob h
  refine gX7_who_L62_L128 hC hd0 x1 x2 x3 x4 x6 x7 M  wq_FU _ _ hl30 ?_
  refine wq_iload hC dX7_who_182 rfl ?_
  refine wq_iload hC dX7_who_184 rfl ?_
  refine wq_if_eq hC dX7_who_186 (tgt := 196) (by decide) (fun z31 => ?_) (fun z31 => ?_)
  · have h := wq_ip z31 h
    refine wq_iconst hC (v := 0) dX7_who_196 (by decide) ?_
    refine wq_ior hC dX7_who_197 ?_
    refine wq_istore hC dX7_who_198 (lv' := [some (.ref (E.2.1 0)), some (.int x1), some (.int x2), some (.int x3), some (.int x4), none, some (.int (x6 ||| 0)), some (.int x7), some (.int e29), none]) (by decide) rfl ?_
    refine wq_iinc hC (v := (x7 + 1)) dX7_who_200 (lv' := [some (.ref (E.2.1 0)), some (.int x1), some (.int x2), some (.int x3), some (.int x4), none, some (.int (x6 ||| 0)), some (.int (x7 + 1)), some (.int e29), none]) rfl rfl (by decide) rfl ?_
    refine wq_goto hC dX7_who_203 (tgt := 62) (by decide) ?_
    have h := Option.some.inj h
    subst h
    refine wq_mask [true, true, true, true, true, false, true, true, false, false] (lv' := [some (.ref (E.2.1 0)), some (.int x1), some (.int x2), some (.int x3), some (.int x4), none, some (.int (x6 ||| 0)), some (.int (x7 + 1)), none, none]) rfl ?_
    exact K
  · have h := wq_in_ z31 h
    refine wq_iconst hC (v := 1) dX7_who_189 (by decide) ?_
    refine wq_iload hC dX7_who_190 rfl ?_
    refine wq_ishl hC dX7_who_192 ?_
    refine wq_goto hC dX7_who_193 (tgt := 197) (by decide) ?_
    refine wq_ior hC dX7_who_197 ?_
    refine wq_istore hC dX7_who_198 (lv' := [some (.ref (E.2.1 0)), some (.int x1), some (.int x2), some (.int x3), some (.int x4), none, some (.int (x6 ||| (1 <<< (x7 &&& 31)))), some (.int x7), some (.int e29), none]) (by decide) rfl ?_
    refine wq_iinc hC (v := (x7 + 1)) dX7_who_200 (lv' := [some (.ref (E.2.1 0)), some (.int x1), some (.int x2), some (.int x3), some (.int x4), none, some (.int (x6 ||| (1 <<< (x7 &&& 31)))), some (.int (x7 + 1)), some (.int e29), none]) rfl rfl (by decide) rfl ?_
    refine wq_goto hC dX7_who_203 (tgt := 62) (by decide) ?_
    have h := Option.some.inj h
    subst h
    refine wq_mask [true, true, true, true, true, false, true, true, false, false] (lv' := [some (.ref (E.2.1 0)), some (.int x1), some (.int x2), some (.int x3), some (.int x4), none, some (.int (x6 ||| (1 <<< (x7 &&& 31)))), some (.int (x7 + 1)), none, none]) rfl ?_
    exact K
def fX7_who_L62_J101 (x1 : Int32) (x2 : Int32) (x3 : Int32) (x4 : Int32) (x6 : Int32) (x7 : Int32) (y0 : Int32) (M : wq_M) : Option ((Int32 × Int32 × wq_M) ⊕ (Int32 × wq_M)) :=
  if wq_in y0 44 then (fX7_laysBest 6 (-1) (wq_st M 6 y0.toNatClampNeg x7)).bind fun r20 => (if 1000000000 ≤ r20.1 then
    fX7_who_L62_J123 x1 x2 x3 x4 x6 x7 0 r20.2
  else
    fX7_who_L62_J123 x1 x2 x3 x4 x6 x7 1 r20.2) else none
set_option maxHeartbeats 4000000 in
set_option maxRecDepth 100000 in
theorem gX7_who_L62_J101 {g : wq_G} {E : wq_E} {d : Nat} (hC : wq_C g E wq_yR cX7_who 10 "WellPipesModel" (some .int) d) (hd0 : 7 ≤ d) (x1 : Int32) (x2 : Int32) (x3 : Int32) (x4 : Int32) (x6 : Int32) (x7 : Int32) (y0 : Int32) (M : wq_M)  {x : ((Int32 × Int32 × wq_M) ⊕ (Int32 × wq_M))} (h : fX7_who_L62_J101 x1 x2 x3 x4 x6 x7 y0 M = some x) (K : (Sum.elim (fun (s : (Int32 × Int32 × wq_M)) => wq_g g E wq_yR 10 62 [some (.ref (E.2.1 0)), some (.int x1), some (.int x2), some (.int x3), some (.int x4), none, some (.int s.1), some (.int s.2.1), none, none] [] s.2.2) (fun (e : (Int32 × wq_M)) => wq_g g E wq_yR 10 206 [none, none, none, none, none, none, some (.int e.1), none, none, none] [] e.2)) x) : wq_g g E wq_yR 10 101 [some (.ref (E.2.1 0)), some (.int x1), some (.int x2), some (.int x3), some (.int x4), none, some (.int x6), some (.int x7), none, none] [.int y0, .ref (E.2.1 6)] M := by
  unfold fX7_who_L62_J101 at h
  refine wq_iload hC dX7_who_101 rfl ?_
  obtain ⟨z19, h⟩ := wq_ii h
  refine wq_ast hC aR_6 z19 dX7_who_103 ?_
  refine wq_aload_n hC dX7_who_104 (i := 0) rfl rfl ?_
  refine wq_aload_n hC dX7_who_105 (i := 0) rfl rfl ?_
  refine gf_7 hC oR_0 7 (.ref (E.2.1 6)) (by decide) rfl tw_725 dX7_who_106 ?_
  refine wq_iconst hC (v := (-1)) dX7_who_109 (by decide) ?_
  obtain ⟨r20, hc21, h⟩ := wq_ob h
  refine cv_7 hC (ctX7_laysBest (d := d - 1) (by omega) aR_6 hc21) (by omega) (by decide) oR_0 rfl rfl npX7_laysBest tw_916 tw_918 tw_37 tw_919 (st := []) (Nat.le_of_ble_eq_true rfl) rfl dX7_who_110 (st1 := [.int r20.1]) rfl ?_
  refine wq_ldc hC (v := 1000000000) tw_927 dX7_who_113 ?_
  refine wq_icmp_ge hC dX7_who_115 (tgt := 122) (by decide) (fun z22 => ?_) (fun z22 => ?_)
  · have h := wq_ip z22 h
    refine wq_iconst hC (v := 0) dX7_who_122 (by decide) ?_
    exact gX7_who_L62_J123 hC hd0 x1 x2 x3 x4 x6 x7 0 r20.2  h K
  · have h := wq_in_ z22 h
    refine wq_iconst hC (v := 1) dX7_who_118 (by decide) ?_
    refine wq_goto hC dX7_who_119 (tgt := 123) (by decide) ?_
    exact gX7_who_L62_J123 hC hd0 x1 x2 x3 x4 x6 x7 1 r20.2  h K
def fX7_who_L62_J73 (x1 : Int32) (x2 : Int32) (x3 : Int32) (x4 : Int32) (x6 : Int32) (x7 : Int32) (y0 : Int32) (y1 : Int32) (M : wq_M) : Option ((Int32 × Int32 × wq_M) ⊕ (Int32 × wq_M)) :=
  (if y0 < y1 then
    some (.inr (x6, M))
  else
    (fX7_layThen  M).bind fun r16 => (if x2 = 0 then
      fX7_who_L62_J101 x1 x2 x3 x4 x6 x7 ((6 + (6 * x1)) + 0) r16
    else
      fX7_who_L62_J101 x1 x2 x3 x4 x6 x7 1 r16))
set_option maxHeartbeats 4000000 in
set_option maxRecDepth 100000 in
theorem gX7_who_L62_J73 {g : wq_G} {E : wq_E} {d : Nat} (hC : wq_C g E wq_yR cX7_who 10 "WellPipesModel" (some .int) d) (hd0 : 7 ≤ d) (x1 : Int32) (x2 : Int32) (x3 : Int32) (x4 : Int32) (x6 : Int32) (x7 : Int32) (y0 : Int32) (y1 : Int32) (M : wq_M)  {x : ((Int32 × Int32 × wq_M) ⊕ (Int32 × wq_M))} (h : fX7_who_L62_J73 x1 x2 x3 x4 x6 x7 y0 y1 M = some x) (K : (Sum.elim (fun (s : (Int32 × Int32 × wq_M)) => wq_g g E wq_yR 10 62 [some (.ref (E.2.1 0)), some (.int x1), some (.int x2), some (.int x3), some (.int x4), none, some (.int s.1), some (.int s.2.1), none, none] [] s.2.2) (fun (e : (Int32 × wq_M)) => wq_g g E wq_yR 10 206 [none, none, none, none, none, none, some (.int e.1), none, none, none] [] e.2)) x) : wq_g g E wq_yR 10 73 [some (.ref (E.2.1 0)), some (.int x1), some (.int x2), some (.int x3), some (.int x4), none, some (.int x6), some (.int x7), none, none] [.int y0, .int y1] M := by
  unfold fX7_who_L62_J73 at h
  refine wq_icmp_gt hC dX7_who_73 (tgt := 206) (by decide) (fun z15 => ?_) (fun z15 => ?_)
  · have h := wq_ip z15 h
    have h := Option.some.inj h
    subst h
    refine wq_mask [false, false, false, false, false, false, true, false, false, false] (lv' := [none, none, none, none, none, none, some (.int x6), none, none, none]) rfl ?_
    exact K
  · have h := wq_in_ z15 h
    refine wq_aload_n hC dX7_who_76 (i := 0) rfl rfl ?_
    obtain ⟨r16, hc17, h⟩ := wq_ob h
    refine cv_7 hC (ctX7_layThen (d := d - 1) (by omega)  hc17) (by omega) (by decide) oR_0 rfl rfl npX7_layThen tw_1016 tw_1018 tw_41 tw_1019 (st := []) (Nat.le_of_ble_eq_true rfl) rfl dX7_who_77 (st1 := []) rfl ?_
    refine wq_aload_n hC dX7_who_80 (i := 0) rfl rfl ?_
    refine gf_7 hC oR_0 7 (.ref (E.2.1 6)) (by decide) rfl tw_725 dX7_who_81 ?_
    refine wq_iload_n hC dX7_who_84 (i := 2) rfl rfl ?_
    refine wq_if_ne hC dX7_who_85 (tgt := 100) (by decide) (fun z18 => ?_) (fun z18 => ?_)
    · have h := wq_in_ z18 h
      refine wq_iconst hC (v := 1) dX7_who_100 (by decide) ?_
      exact gX7_who_L62_J101 hC hd0 x1 x2 x3 x4 x6 x7 1 r16  h K
    · have h := wq_ip z18 h
      refine wq_bipush hC (v := 6) dX7_who_88 (by decide) ?_
      refine wq_bipush hC (v := 6) dX7_who_90 (by decide) ?_
      refine wq_iload_n hC dX7_who_92 (i := 1) rfl rfl ?_
      refine wq_imul hC dX7_who_93 ?_
      refine wq_iadd hC dX7_who_94 ?_
      refine wq_iconst hC (v := 0) dX7_who_95 (by decide) ?_
      refine wq_iadd hC dX7_who_96 ?_
      refine wq_goto hC dX7_who_97 (tgt := 101) (by decide) ?_
      exact gX7_who_L62_J101 hC hd0 x1 x2 x3 x4 x6 x7 ((6 + (6 * x1)) + 0) r16  h K
def fX7_who_L62 (x1 : Int32) (x2 : Int32) (x3 : Int32) (x4 : Int32) : (Int32 × Int32 × wq_M) → Option ((Int32 × Int32 × wq_M) ⊕ (Int32 × wq_M)) := fun s =>
  (if x2 = 0 then
    fX7_who_L62_J73 x1 x2 x3 x4 s.1 s.2.1 5 s.2.1 s.2.2
  else
    fX7_who_L62_J73 x1 x2 x3 x4 s.1 s.2.1 3 s.2.1 s.2.2)
set_option maxHeartbeats 4000000 in
set_option maxRecDepth 100000 in
theorem gX7_who_L62 {g : wq_G} {E : wq_E} {d : Nat} (hC : wq_C g E wq_yR cX7_who 10 "WellPipesModel" (some .int) d) (hd0 : 7 ≤ d) (x1 : Int32) (x2 : Int32) (x3 : Int32) (x4 : Int32)  : ∀ (n : Nat) (s : (Int32 × Int32 × wq_M)) (e : (Int32 × wq_M)), wq_lp (fX7_who_L62 x1 x2 x3 x4) n s = some e → (fun (e : (Int32 × wq_M)) => wq_g g E wq_yR 10 206 [none, none, none, none, none, none, some (.int e.1), none, none, none] [] e.2) e → wq_g g E wq_yR 10 62 [some (.ref (E.2.1 0)), some (.int x1), some (.int x2), some (.int x3), some (.int x4), none, some (.int s.1), some (.int s.2.1), none, none] [] s.2.2 := by
  refine wq_lq_ok (fun (s : (Int32 × Int32 × wq_M)) => wq_g g E wq_yR 10 62 [some (.ref (E.2.1 0)), some (.int x1), some (.int x2), some (.int x3), some (.int x4), none, some (.int s.1), some (.int s.2.1), none, none] [] s.2.2) (fun (e : (Int32 × wq_M)) => wq_g g E wq_yR 10 206 [none, none, none, none, none, none, some (.int e.1), none, none, none] [] e.2) (fun s x h K => ?_)
  unfold fX7_who_L62 at h
  refine wq_iload hC dX7_who_62 rfl ?_
  refine wq_iload_n hC dX7_who_64 (i := 2) rfl rfl ?_
  refine wq_if_ne hC dX7_who_65 (tgt := 72) (by decide) (fun z14 => ?_) (fun z14 => ?_)
  · have h := wq_in_ z14 h
    refine wq_iconst hC (v := 3) dX7_who_72 (by decide) ?_
    exact gX7_who_L62_J73 hC hd0 x1 x2 x3 x4 s.1 s.2.1 3 s.2.1 s.2.2  h K
  · have h := wq_ip z14 h
    refine wq_iconst hC (v := 5) dX7_who_68 (by decide) ?_
    refine wq_goto hC dX7_who_69 (tgt := 73) (by decide) ?_
    exact gX7_who_L62_J73 hC hd0 x1 x2 x3 x4 s.1 s.2.1 5 s.2.1 s.2.2  h K
def fX7_who (x1 : Int32) (x2 : Int32) (x3 : Int32) (x4 : Int32) (M : wq_M) : Option (Int32 × wq_M) :=
  (fX7_isGrade x1 (wq_st M 0 0 0)).bind fun r1 => (if r1 = true then
    (fX7_in x2.toInt64 (0 : Int64) (1 : Int64) (wq_st M 0 0 0)).bind fun r4 => (if r4 = true then
      (fX7_isRow x3 (wq_st M 0 0 0)).bind fun r7 => (if r7 = true then
        if wq_in 0 44 then (fX7_rowFound x3 x4 ((wq_st M 0 0 0).1 4 (0 : Int32).toNatClampNeg) (wq_st M 0 0 0)).bind fun r11 => (if r11.1 = 0 then
          (wq_lp (fX7_who_L62 x1 x2 x3 x4) wq_FU (0, 1, r11.2)).bind fun e32 => some (e32.1, e32.2)
        else
          some (r11.1, r11.2)) else none
      else
        some ((-1000001), (wq_st M 0 0 0)))
    else
      some ((-1000001), (wq_st M 0 0 0)))
  else
    some ((-1000001), (wq_st M 0 0 0)))
set_option maxHeartbeats 4000000 in
set_option maxRecDepth 100000 in
theorem ctX7_who {l : Launch} {E : wq_E} {d : Nat} (hd0 : 7 ≤ d) {x1 : Int32} {x2 : Int32} {x3 : Int32} {x4 : Int32} {M : wq_M} {r : (Int32 × wq_M)}  (h : fX7_who x1 x2 x3 x4 M = some r) : wq_ct l E wq_yR yX7_who cX7_who 10 (some .int) d [.ref (E.2.1 0), .int x1, .int x2, .int x3, .int x4] M (some (.int r.1)) r.2 := by
  refine wq_ent (own := "WellPipesModel") (lv0 := [some (.ref (E.2.1 0)), some (.int x1), some (.int x2), some (.int x3), some (.int x4), none, none, none, none, none]) (by decide +kernel) rfl (Nat.le_of_ble_eq_true rfl) rfl (fun g h1 h2 hC => ?_)
  have K : wq_kI g r := ⟨h1, h2⟩
  unfold fX7_who at h
  refine wq_aload_n hC dX7_who_0 (i := 0) rfl rfl ?_
  refine wq_iconst hC (v := 0) dX7_who_1 (by decide) ?_
  refine pf_7_0 hC oR_0 tw_718 dX7_who_2 ?_
  refine wq_aload_n hC dX7_who_5 (i := 0) rfl rfl ?_
  refine wq_iload_n hC dX7_who_6 (i := 1) rfl rfl ?_
  obtain ⟨r1, hc2, h⟩ := wq_ob h
  refine cv_7 hC (ctX7_isGrade (d := d - 1) (by omega)  hc2) (by omega) (by decide) oR_0 rfl rfl npX7_isGrade tw_899 tw_901 tw_34 tw_902 (st := []) (Nat.le_of_ble_eq_true rfl) rfl dX7_who_7 (st1 := [.int (wq_b r1)]) rfl ?_
  refine wq_bif_eq hC dX7_who_10 (tgt := 30) (by decide) (fun z3 => ?_) (fun z3 => ?_)
  · have h := wq_in_ z3 h
    refine wq_ldc hC (v := (-1000001)) tw_810 dX7_who_30 ?_
    have h := Option.some.inj h
    subst h
    exact wq_iret hC dX7_who_32 K.1 K.2
  · have h := wq_ip z3 h
    refine wq_iload_n hC dX7_who_13 (i := 2) rfl rfl ?_
    refine wq_i2l hC dX7_who_14 ?_
    refine wq_lconst hC (v := 0) dX7_who_15 (by decide) ?_
    refine wq_lconst hC (v := 1) dX7_who_16 (by decide) ?_
    obtain ⟨r4, hc5, h⟩ := wq_ob h
    refine wq_callS hC (ctX7_in (d := d - 1) (by omega)  hc5) (by omega) (by decide) rfl npX7_in tw_806 tw_807 tw_58 tw_808 (st := []) (Nat.le_of_ble_eq_true rfl) rfl dX7_who_17 (st1 := [.int (wq_b r4)]) rfl ?_
    refine wq_bif_eq hC dX7_who_20 (tgt := 30) (by decide) (fun z6 => ?_) (fun z6 => ?_)
    · have h := wq_in_ z6 h
      refine wq_ldc hC (v := (-1000001)) tw_810 dX7_who_30 ?_
      have h := Option.some.inj h
      subst h
      exact wq_iret hC dX7_who_32 K.1 K.2
    · have h := wq_ip z6 h
      refine wq_iload_n hC dX7_who_23 (i := 3) rfl rfl ?_
      obtain ⟨r7, hc8, h⟩ := wq_ob h
      refine wq_callS hC (ctX7_isRow (d := d - 1) (by omega)  hc8) (by omega) (by decide) rfl npX7_isRow tw_802 tw_803 tw_58 tw_804 (st := []) (Nat.le_of_ble_eq_true rfl) rfl dX7_who_24 (st1 := [.int (wq_b r7)]) rfl ?_
      refine wq_bif_ne hC dX7_who_27 (tgt := 33) (by decide) (fun z9 => ?_) (fun z9 => ?_)
      · have h := wq_ip z9 h
        refine wq_aload_n hC dX7_who_33 (i := 0) rfl rfl ?_
        refine wq_iload_n hC dX7_who_34 (i := 3) rfl rfl ?_
        refine wq_iload hC dX7_who_35 rfl ?_
        refine wq_aload_n hC dX7_who_37 (i := 0) rfl rfl ?_
        refine gf_7 hC oR_0 5 (.ref (E.2.1 4)) (by decide) rfl tw_723 dX7_who_38 ?_
        refine wq_iconst hC (v := 0) dX7_who_41 (by decide) ?_
        obtain ⟨z10, h⟩ := wq_ii h
        refine wq_ald hC aR_4 z10 dX7_who_42 ?_
        obtain ⟨r11, hc12, h⟩ := wq_ob h
        refine cv_7 hC (ctX7_rowFound (d := d - 1) (by omega)  hc12) (by omega) (by decide) oR_0 rfl rfl npX7_rowFound tw_1056 tw_1058 tw_44 tw_1059 (st := []) (Nat.le_of_ble_eq_true rfl) rfl dX7_who_43 (st1 := [.int r11.1]) rfl ?_
        refine wq_istore hC dX7_who_46 (lv' := [some (.ref (E.2.1 0)), some (.int x1), some (.int x2), some (.int x3), some (.int x4), some (.int r11.1), none, none, none, none]) (by decide) rfl ?_
        refine wq_iload hC dX7_who_48 rfl ?_
        refine wq_if_eq hC dX7_who_50 (tgt := 56) (by decide) (fun z13 => ?_) (fun z13 => ?_)
        · have h := wq_ip z13 h
          refine wq_iconst hC (v := 0) dX7_who_56 (by decide) ?_
          refine wq_istore hC dX7_who_57 (lv' := [some (.ref (E.2.1 0)), some (.int x1), some (.int x2), some (.int x3), some (.int x4), some (.int r11.1), some (.int 0), none, none, none]) (by decide) rfl ?_
          refine wq_iconst hC (v := 1) dX7_who_59 (by decide) ?_
          refine wq_istore hC dX7_who_60 (lv' := [some (.ref (E.2.1 0)), some (.int x1), some (.int x2), some (.int x3), some (.int x4), some (.int r11.1), some (.int 0), some (.int 1), none, none]) (by decide) rfl ?_
          obtain ⟨e32, hl33, h⟩ := wq_ob h
          refine wq_mask [true, true, true, true, true, false, true, true, false, false] (lv' := [some (.ref (E.2.1 0)), some (.int x1), some (.int x2), some (.int x3), some (.int x4), none, some (.int 0), some (.int 1), none, none]) rfl ?_
          refine gX7_who_L62 hC hd0 x1 x2 x3 x4  wq_FU _ _ hl33 ?_
          refine wq_iload hC dX7_who_206 rfl ?_
          have h := Option.some.inj h
          subst h
          exact wq_iret hC dX7_who_208 K.1 K.2
        · have h := wq_in_ z13 h
          refine wq_iload hC dX7_who_53 rfl ?_
          have h := Option.some.inj h
          subst h
          exact wq_iret hC dX7_who_55 K.1 K.2
      · have h := wq_in_ z9 h
        refine wq_ldc hC (v := (-1000001)) tw_810 dX7_who_30 ?_
        have h := Option.some.inj h
        subst h
        exact wq_iret hC dX7_who_32 K.1 K.2
theorem npX7_flaws : yX7_flaws.cls ≠ "java/lang/invoke/MethodHandle" ∧ yX7_flaws.cls ≠ "java/lang/invoke/VarHandle" ∧ (parseMethodDescriptor yX7_flaws.desc).map (fun d => d.parameters.length) = some 2 := by decide +kernel
def fX7_flaws_L50_J143 (x1 : Int32) (x2 : Int32) (x5 : Int64) (x7 : Int32) (y0 : Int64) (y1 : Int64) (M : wq_M) : Option ((Int64 × Int64 × Int32) ⊕ (Int64 × Int64)) :=
  some (.inl ((y1 * y0), (x5 * (10 : Int64)), (x7 + 1)))
set_option maxHeartbeats 4000000 in
set_option maxRecDepth 100000 in
theorem gX7_flaws_L50_J143 {g : wq_G} {E : wq_E} {d : Nat} (hC : wq_C g E wq_yR cX7_flaws 13 "WellPipesModel" (some .long) d) (hd0 : 5 ≤ d) (x1 : Int32) (x2 : Int32) (x5 : Int64) (x7 : Int32) (y0 : Int64) (y1 : Int64) (M : wq_M)  {x : ((Int64 × Int64 × Int32) ⊕ (Int64 × Int64))} (h : fX7_flaws_L50_J143 x1 x2 x5 x7 y0 y1 M = some x) (K : (Sum.elim (fun (s : (Int64 × Int64 × Int32)) => wq_g g E wq_yR 13 50 [some (.ref (E.2.1 0)), some (.int x1), some (.int x2), some (.long s.1), none, some (.long s.2.1), none, some (.int s.2.2), none, none, none, none, none] [] M) (fun (e : (Int64 × Int64)) => wq_g g E wq_yR 13 159 [none, none, some (.int x2), some (.long e.1), none, some (.long e.2), none, none, none, none, none, none, none] [] M)) x) : wq_g g E wq_yR 13 143 [some (.ref (E.2.1 0)), some (.int x1), some (.int x2), none, none, some (.long x5), none, some (.int x7), none, none, none, none, none] [.long y0, .long y1] M := by
  unfold fX7_flaws_L50_J143 at h
  refine wq_lmul hC dX7_flaws_143 ?_
  refine wq_lstore_n hC dX7_flaws_144 (i := 3) (lv' := [some (.ref (E.2.1 0)), some (.int x1), some (.int x2), some (.long (y1 * y0)), none, some (.long x5), none, some (.int x7), none, none, none, none, none]) rfl (by decide) rfl ?_
  refine wq_lload hC dX7_flaws_145 rfl ?_
  refine wq_ldc2 hC (v := (10 : Int64)) tw_1065 dX7_flaws_147 ?_
  refine wq_lmul hC dX7_flaws_150 ?_
  refine wq_lstore hC dX7_flaws_151 (lv' := [some (.ref (E.2.1 0)), some (.int x1), some (.int x2), some (.long (y1 * y0)), none, some (.long (x5 * (10 : Int64))), none, some (.int x7), none, none, none, none, none]) (by decide) rfl ?_
  refine wq_iinc hC (v := (x7 + 1)) dX7_flaws_153 (lv' := [some (.ref (E.2.1 0)), some (.int x1), some (.int x2), some (.long (y1 * y0)), none, some (.long (x5 * (10 : Int64))), none, some (.int (x7 + 1)), none, none, none, none, none]) rfl rfl (by decide) rfl ?_
  refine wq_goto hC dX7_flaws_156 (tgt := 50) (by decide) ?_
  have h := Option.some.inj h
  subst h
  exact K
def fX7_flaws_L50_J138 (x1 : Int32) (x2 : Int32) (x5 : Int64) (x7 : Int32) (y0 : Int64) (y1 : Int64) (y2 : Int64) (M : wq_M) : Option ((Int64 × Int64 × Int32) ⊕ (Int64 × Int64)) :=
  fX7_flaws_L50_J143 x1 x2 x5 x7 (y1 + y0) y2 M
set_option maxHeartbeats 4000000 in
set_option maxRecDepth 100000 in
theorem gX7_flaws_L50_J138 {g : wq_G} {E : wq_E} {d : Nat} (hC : wq_C g E wq_yR cX7_flaws 13 "WellPipesModel" (some .long) d) (hd0 : 5 ≤ d) (x1 : Int32) (x2 : Int32) (x5 : Int64) (x7 : Int32) (y0 : Int64) (y1 : Int64) (y2 : Int64) (M : wq_M)  {x : ((Int64 × Int64 × Int32) ⊕ (Int64 × Int64))} (h : fX7_flaws_L50_J138 x1 x2 x5 x7 y0 y1 y2 M = some x) (K : (Sum.elim (fun (s : (Int64 × Int64 × Int32)) => wq_g g E wq_yR 13 50 [some (.ref (E.2.1 0)), some (.int x1), some (.int x2), some (.long s.1), none, some (.long s.2.1), none, some (.int s.2.2), none, none, none, none, none] [] M) (fun (e : (Int64 × Int64)) => wq_g g E wq_yR 13 159 [none, none, some (.int x2), some (.long e.1), none, some (.long e.2), none, none, none, none, none, none, none] [] M)) x) : wq_g g E wq_yR 13 138 [some (.ref (E.2.1 0)), some (.int x1), some (.int x2), none, none, some (.long x5), none, some (.int x7), none, none, none, none, none] [.long y0, .long y1, .long y2] M := by
  unfold fX7_flaws_L50_J138 at h
  refine wq_ladd hC dX7_flaws_138 ?_
  refine wq_goto hC dX7_flaws_139 (tgt := 143) (by decide) ?_
  exact gX7_flaws_L50_J143 hC hd0 x1 x2 x5 x7 (y1 + y0) y2 M  h K
def fX7_flaws_L50_J106 (x1 : Int32) (x2 : Int32) (x3 : Int64) (x5 : Int64) (x7 : Int32) (y0 : Int32) (M : wq_M) : Option ((Int64 × Int64 × Int32) ⊕ (Int64 × Int64)) :=
  (fX7_holds 4 x7 M).bind fun r14 => (if r14 = true then
    (if y0 = 0 then
      fX7_flaws_L50_J138 x1 x2 x5 x7 (0 : Int64) ((10 : Int64) - x1.toInt64) x3 M
    else
      fX7_flaws_L50_J138 x1 x2 x5 x7 x1.toInt64 ((10 : Int64) - x1.toInt64) x3 M)
  else
    fX7_flaws_L50_J143 x1 x2 x5 x7 (0 : Int64) x3 M)
set_option maxHeartbeats 4000000 in
set_option maxRecDepth 100000 in
theorem gX7_flaws_L50_J106 {g : wq_G} {E : wq_E} {d : Nat} (hC : wq_C g E wq_yR cX7_flaws 13 "WellPipesModel" (some .long) d) (hd0 : 5 ≤ d) (x1 : Int32) (x2 : Int32) (x3 : Int64) (x5 : Int64) (x7 : Int32) (y0 : Int32) (M : wq_M)  {x : ((Int64 × Int64 × Int32) ⊕ (Int64 × Int64))} (h : fX7_flaws_L50_J106 x1 x2 x3 x5 x7 y0 M = some x) (K : (Sum.elim (fun (s : (Int64 × Int64 × Int32)) => wq_g g E wq_yR 13 50 [some (.ref (E.2.1 0)), some (.int x1), some (.int x2), some (.long s.1), none, some (.long s.2.1), none, some (.int s.2.2), none, none, none, none, none] [] M) (fun (e : (Int64 × Int64)) => wq_g g E wq_yR 13 159 [none, none, some (.int x2), some (.long e.1), none, some (.long e.2), none, none, none, none, none, none, none] [] M)) x) : wq_g g E wq_yR 13 106 [some (.ref (E.2.1 0)), some (.int x1), some (.int x2), some (.long x3), none, some (.long x5), none, some (.int x7), none, none, none, none, none] [.int y0] M := by
  unfold fX7_flaws_L50_J106 at h
  refine wq_istore hC dX7_flaws_106 (lv' := [some (.ref (E.2.1 0)), some (.int x1), some (.int x2), some (.long x3), none, some (.long x5), none, some (.int x7), none, some (.int y0), none, none, none]) (by decide) rfl ?_
  refine wq_lload_n hC dX7_flaws_108 (i := 3) rfl rfl ?_
  refine wq_aload_n hC dX7_flaws_109 (i := 0) rfl rfl ?_
  refine gf_7 hC oR_0 5 (.ref (E.2.1 4)) (by decide) rfl tw_723 dX7_flaws_110 ?_
  refine wq_iload hC dX7_flaws_113 rfl ?_
  obtain ⟨r14, hc15, h⟩ := wq_ob h
  refine wq_callS hC (ctX7_holds (d := d - 1) (by omega) aR_4 hc15) (by omega) (by decide) rfl npX7_holds tw_983 tw_984 tw_58 tw_985 (st := [.long x3]) (Nat.le_of_ble_eq_true rfl) rfl dX7_flaws_115 (st1 := [.int (wq_b r14), .long x3]) rfl ?_
  refine wq_bif_eq hC dX7_flaws_118 (tgt := 142) (by decide) (fun z16 => ?_) (fun z16 => ?_)
  · have h := wq_in_ z16 h
    refine wq_lconst hC (v := 0) dX7_flaws_142 (by decide) ?_
    refine wq_mask [true, true, true, false, false, true, false, true, false, false, false, false, false] (lv' := [some (.ref (E.2.1 0)), some (.int x1), some (.int x2), none, none, some (.long x5), none, some (.int x7), none, none, none, none, none]) rfl ?_
    exact gX7_flaws_L50_J143 hC hd0 x1 x2 x5 x7 (0 : Int64) x3 M  h K
  · have h := wq_ip z16 h
    refine wq_ldc2 hC (v := (10 : Int64)) tw_1065 dX7_flaws_121 ?_
    refine wq_iload_n hC dX7_flaws_124 (i := 1) rfl rfl ?_
    refine wq_i2l hC dX7_flaws_125 ?_
    refine wq_lsub hC dX7_flaws_126 ?_
    refine wq_iload hC dX7_flaws_127 rfl ?_
    refine wq_if_eq hC dX7_flaws_129 (tgt := 137) (by decide) (fun z17 => ?_) (fun z17 => ?_)
    · have h := wq_ip z17 h
      refine wq_lconst hC (v := 0) dX7_flaws_137 (by decide) ?_
      refine wq_mask [true, true, true, false, false, true, false, true, false, false, false, false, false] (lv' := [some (.ref (E.2.1 0)), some (.int x1), some (.int x2), none, none, some (.long x5), none, some (.int x7), none, none, none, none, none]) rfl ?_
      exact gX7_flaws_L50_J138 hC hd0 x1 x2 x5 x7 (0 : Int64) ((10 : Int64) - x1.toInt64) x3 M  h K
    · have h := wq_in_ z17 h
      refine wq_iload_n hC dX7_flaws_132 (i := 1) rfl rfl ?_
      refine wq_i2l hC dX7_flaws_133 ?_
      refine wq_goto hC dX7_flaws_134 (tgt := 138) (by decide) ?_
      refine wq_mask [true, true, true, false, false, true, false, true, false, false, false, false, false] (lv' := [some (.ref (E.2.1 0)), some (.int x1), some (.int x2), none, none, some (.long x5), none, some (.int x7), none, none, none, none, none]) rfl ?_
      exact gX7_flaws_L50_J138 hC hd0 x1 x2 x5 x7 x1.toInt64 ((10 : Int64) - x1.toInt64) x3 M  h K
def fX7_flaws_L50_J105 (x1 : Int32) (x2 : Int32) (x3 : Int64) (x5 : Int64) (x7 : Int32) (M : wq_M) : Option ((Int64 × Int64 × Int32) ⊕ (Int64 × Int64)) :=
  fX7_flaws_L50_J106 x1 x2 x3 x5 x7 0 M
set_option maxHeartbeats 4000000 in
set_option maxRecDepth 100000 in
theorem gX7_flaws_L50_J105 {g : wq_G} {E : wq_E} {d : Nat} (hC : wq_C g E wq_yR cX7_flaws 13 "WellPipesModel" (some .long) d) (hd0 : 5 ≤ d) (x1 : Int32) (x2 : Int32) (x3 : Int64) (x5 : Int64) (x7 : Int32) (M : wq_M)  {x : ((Int64 × Int64 × Int32) ⊕ (Int64 × Int64))} (h : fX7_flaws_L50_J105 x1 x2 x3 x5 x7 M = some x) (K : (Sum.elim (fun (s : (Int64 × Int64 × Int32)) => wq_g g E wq_yR 13 50 [some (.ref (E.2.1 0)), some (.int x1), some (.int x2), some (.long s.1), none, some (.long s.2.1), none, some (.int s.2.2), none, none, none, none, none] [] M) (fun (e : (Int64 × Int64)) => wq_g g E wq_yR 13 159 [none, none, some (.int x2), some (.long e.1), none, some (.long e.2), none, none, none, none, none, none, none] [] M)) x) : wq_g g E wq_yR 13 105 [some (.ref (E.2.1 0)), some (.int x1), some (.int x2), some (.long x3), none, some (.long x5), none, some (.int x7), none, none, none, none, none] [] M := by
  unfold fX7_flaws_L50_J105 at h
  refine wq_iconst hC (v := 0) dX7_flaws_105 (by decide) ?_
  exact gX7_flaws_L50_J106 hC hd0 x1 x2 x3 x5 x7 0 M  h K
def fX7_flaws_L50 (x1 : Int32) (x2 : Int32) (M : wq_M) : (Int64 × Int64 × Int32) → Option ((Int64 × Int64 × Int32) ⊕ (Int64 × Int64)) := fun s =>
  if wq_in 0 44 then (if (M.1 4 (0 : Int32).toNatClampNeg) ≤ s.2.2 then
    some (.inr (s.1, s.2.1))
  else
    if wq_in (36 + s.2.2) 44 then (if (M.1 4 (36 + s.2.2).toNatClampNeg) < 0 then
      fX7_flaws_L50_J105 x1 x2 s.1 s.2.1 s.2.2 M
    else
      (fX7_bearsBurst 4 (M.1 4 (36 + s.2.2).toNatClampNeg) M).bind fun r18 => (fX7_burstLoad 4 s.2.2 M).bind fun r20 => (if (r18 / 2) < r20 then
        fX7_flaws_L50_J105 x1 x2 s.1 s.2.1 s.2.2 M
      else
        fX7_flaws_L50_J106 x1 x2 s.1 s.2.1 s.2.2 1 M)) else none) else none
set_option maxHeartbeats 4000000 in
set_option maxRecDepth 100000 in
theorem gX7_flaws_L50 {g : wq_G} {E : wq_E} {d : Nat} (hC : wq_C g E wq_yR cX7_flaws 13 "WellPipesModel" (some .long) d) (hd0 : 5 ≤ d) (x1 : Int32) (x2 : Int32) (M : wq_M)  : ∀ (n : Nat) (s : (Int64 × Int64 × Int32)) (e : (Int64 × Int64)), wq_lp (fX7_flaws_L50 x1 x2 M) n s = some e → (fun (e : (Int64 × Int64)) => wq_g g E wq_yR 13 159 [none, none, some (.int x2), some (.long e.1), none, some (.long e.2), none, none, none, none, none, none, none] [] M) e → wq_g g E wq_yR 13 50 [some (.ref (E.2.1 0)), some (.int x1), some (.int x2), some (.long s.1), none, some (.long s.2.1), none, some (.int s.2.2), none, none, none, none, none] [] M := by
  refine wq_lq_ok (fun (s : (Int64 × Int64 × Int32)) => wq_g g E wq_yR 13 50 [some (.ref (E.2.1 0)), some (.int x1), some (.int x2), some (.long s.1), none, some (.long s.2.1), none, some (.int s.2.2), none, none, none, none, none] [] M) (fun (e : (Int64 × Int64)) => wq_g g E wq_yR 13 159 [none, none, some (.int x2), some (.long e.1), none, some (.long e.2), none, none, none, none, none, none, none] [] M) (fun s x h K => ?_)
  unfold fX7_flaws_L50 at h
  refine wq_iload hC dX7_flaws_50 rfl ?_
  refine wq_aload_n hC dX7_flaws_52 (i := 0) rfl rfl ?_
  refine gf_7 hC oR_0 5 (.ref (E.2.1 4)) (by decide) rfl tw_723 dX7_flaws_53 ?_
  refine wq_iconst hC (v := 0) dX7_flaws_56 (by decide) ?_
  obtain ⟨z10, h⟩ := wq_ii h
  refine wq_ald hC aR_4 z10 dX7_flaws_57 ?_
  refine wq_icmp_ge hC dX7_flaws_58 (tgt := 159) (by decide) (fun z11 => ?_) (fun z11 => ?_)
  · have h := wq_ip z11 h
    have h := Option.some.inj h
    subst h
    refine wq_mask [false, false, true, true, false, true, false, false, false, false, false, false, false] (lv' := [none, none, some (.int x2), some (.long s.1), none, some (.long s.2.1), none, none, none, none, none, none, none]) rfl ?_
    exact K
  · have h := wq_in_ z11 h
    refine wq_aload_n hC dX7_flaws_61 (i := 0) rfl rfl ?_
    refine gf_7 hC oR_0 5 (.ref (E.2.1 4)) (by decide) rfl tw_723 dX7_flaws_62 ?_
    refine wq_bipush hC (v := 36) dX7_flaws_65 (by decide) ?_
    refine wq_iload hC dX7_flaws_67 rfl ?_
    refine wq_iadd hC dX7_flaws_69 ?_
    obtain ⟨z12, h⟩ := wq_ii h
    refine wq_ald hC aR_4 z12 dX7_flaws_70 ?_
    refine wq_istore hC dX7_flaws_71 (lv' := [some (.ref (E.2.1 0)), some (.int x1), some (.int x2), some (.long s.1), none, some (.long s.2.1), none, some (.int s.2.2), some (.int (M.1 4 (36 + s.2.2).toNatClampNeg)), none, none, none, none]) (by decide) rfl ?_
    refine wq_iload hC dX7_flaws_73 rfl ?_
    refine wq_if_lt hC dX7_flaws_75 (tgt := 105) (by decide) (fun z13 => ?_) (fun z13 => ?_)
    · have h := wq_ip z13 h
      refine wq_mask [true, true, true, true, false, true, false, true, false, false, false, false, false] (lv' := [some (.ref (E.2.1 0)), some (.int x1), some (.int x2), some (.long s.1), none, some (.long s.2.1), none, some (.int s.2.2), none, none, none, none, none]) rfl ?_
      exact gX7_flaws_L50_J105 hC hd0 x1 x2 s.1 s.2.1 s.2.2 M  h K
    · have h := wq_in_ z13 h
      refine wq_aload_n hC dX7_flaws_78 (i := 0) rfl rfl ?_
      refine gf_7 hC oR_0 5 (.ref (E.2.1 4)) (by decide) rfl tw_723 dX7_flaws_79 ?_
      refine wq_iload hC dX7_flaws_82 rfl ?_
      obtain ⟨r18, hc19, h⟩ := wq_ob h
      refine wq_callS hC (ctX7_bearsBurst (d := d - 1) (by omega) aR_4 hc19) (by omega) (by decide) rfl npX7_bearsBurst tw_938 tw_939 tw_58 tw_940 (st := []) (Nat.le_of_ble_eq_true rfl) rfl dX7_flaws_84 (st1 := [.int r18]) rfl ?_
      refine wq_iconst hC (v := 2) dX7_flaws_87 (by decide) ?_
      refine wq_idiv hC dX7_flaws_88 (by decide) ?_
      refine wq_aload_n hC dX7_flaws_89 (i := 0) rfl rfl ?_
      refine gf_7 hC oR_0 5 (.ref (E.2.1 4)) (by decide) rfl tw_723 dX7_flaws_90 ?_
      refine wq_iload hC dX7_flaws_93 rfl ?_
      obtain ⟨r20, hc21, h⟩ := wq_ob h
      refine wq_callS hC (ctX7_burstLoad (d := d - 1) (by omega) aR_4 hc21) (by omega) (by decide) rfl npX7_burstLoad tw_941 tw_942 tw_58 tw_943 (st := [.int (r18 / 2)]) (Nat.le_of_ble_eq_true rfl) rfl dX7_flaws_95 (st1 := [.int r20, .int (r18 / 2)]) rfl ?_
      refine wq_icmp_lt hC dX7_flaws_98 (tgt := 105) (by decide) (fun z22 => ?_) (fun z22 => ?_)
      · have h := wq_ip z22 h
        refine wq_mask [true, true, true, true, false, true, false, true, false, false, false, false, false] (lv' := [some (.ref (E.2.1 0)), some (.int x1), some (.int x2), some (.long s.1), none, some (.long s.2.1), none, some (.int s.2.2), none, none, none, none, none]) rfl ?_
        exact gX7_flaws_L50_J105 hC hd0 x1 x2 s.1 s.2.1 s.2.2 M  h K
      · have h := wq_in_ z22 h
        refine wq_iconst hC (v := 1) dX7_flaws_101 (by decide) ?_
        refine wq_goto hC dX7_flaws_102 (tgt := 106) (by decide) ?_
        refine wq_mask [true, true, true, true, false, true, false, true, false, false, false, false, false] (lv' := [some (.ref (E.2.1 0)), some (.int x1), some (.int x2), some (.long s.1), none, some (.long s.2.1), none, some (.int s.2.2), none, none, none, none, none]) rfl ?_
        exact gX7_flaws_L50_J106 hC hd0 x1 x2 s.1 s.2.1 s.2.2 1 M  h K
def fX7_flaws_L166 (x2 : Int32) (x3 : Int64) (x5 : Int64) (M : wq_M) : (Int64 × Int64) → Option ((Int64 × Int64) ⊕ Int64) := fun s =>
  (if (lg_cmp s.2 (0 : Int64)) = 0 then
    some (.inr s.1)
  else
    if ¬ s.2 = 0 then some (.inl (s.2, (s.1 - s.1 / s.2 * s.2))) else none)
set_option maxHeartbeats 4000000 in
set_option maxRecDepth 100000 in
theorem gX7_flaws_L166 {g : wq_G} {E : wq_E} {d : Nat} (hC : wq_C g E wq_yR cX7_flaws 13 "WellPipesModel" (some .long) d) (hd0 : 5 ≤ d) (x2 : Int32) (x3 : Int64) (x5 : Int64) (M : wq_M)  : ∀ (n : Nat) (s : (Int64 × Int64)) (e : Int64), wq_lp (fX7_flaws_L166 x2 x3 x5 M) n s = some e → (fun (e : Int64) => wq_g g E wq_yR 13 191 [none, none, some (.int x2), some (.long x3), none, some (.long x5), none, some (.long e), none, none, none, none, none] [] M) e → wq_g g E wq_yR 13 166 [none, none, some (.int x2), some (.long x3), none, some (.long x5), none, some (.long s.1), none, some (.long s.2), none, none, none] [] M := by
  refine wq_lq_ok (fun (s : (Int64 × Int64)) => wq_g g E wq_yR 13 166 [none, none, some (.int x2), some (.long x3), none, some (.long x5), none, some (.long s.1), none, some (.long s.2), none, none, none] [] M) (fun (e : Int64) => wq_g g E wq_yR 13 191 [none, none, some (.int x2), some (.long x3), none, some (.long x5), none, some (.long e), none, none, none, none, none] [] M) (fun s x h K => ?_)
  unfold fX7_flaws_L166 at h
  refine wq_lload hC dX7_flaws_166 rfl ?_
  refine wq_lconst hC (v := 0) dX7_flaws_168 (by decide) ?_
  refine wq_lcmp hC dX7_flaws_169 ?_
  refine wq_if_eq hC dX7_flaws_170 (tgt := 191) (by decide) (fun z25 => ?_) (fun z25 => ?_)
  · have h := wq_ip z25 h
    have h := Option.some.inj h
    subst h
    refine wq_mask [false, false, true, true, false, true, false, true, false, false, false, false, false] (lv' := [none, none, some (.int x2), some (.long x3), none, some (.long x5), none, some (.long s.1), none, none, none, none, none]) rfl ?_
    exact K
  · have h := wq_in_ z25 h
    refine wq_lload hC dX7_flaws_173 rfl ?_
    refine wq_lload hC dX7_flaws_175 rfl ?_
    obtain ⟨z26, h⟩ := wq_ii h
    refine wq_lrem hC dX7_flaws_177 z26 ?_
    refine wq_lstore hC dX7_flaws_178 (lv' := [none, none, some (.int x2), some (.long x3), none, some (.long x5), none, some (.long s.1), none, some (.long s.2), none, some (.long (s.1 - s.1 / s.2 * s.2)), none]) (by decide) rfl ?_
    refine wq_lload hC dX7_flaws_180 rfl ?_
    refine wq_lstore hC dX7_flaws_182 (lv' := [none, none, some (.int x2), some (.long x3), none, some (.long x5), none, some (.long s.2), none, some (.long s.2), none, some (.long (s.1 - s.1 / s.2 * s.2)), none]) (by decide) rfl ?_
    refine wq_lload hC dX7_flaws_184 rfl ?_
    refine wq_lstore hC dX7_flaws_186 (lv' := [none, none, some (.int x2), some (.long x3), none, some (.long x5), none, some (.long s.2), none, some (.long (s.1 - s.1 / s.2 * s.2)), none, some (.long (s.1 - s.1 / s.2 * s.2)), none]) (by decide) rfl ?_
    refine wq_goto hC dX7_flaws_188 (tgt := 166) (by decide) ?_
    have h := Option.some.inj h
    subst h
    refine wq_mask [false, false, true, true, false, true, false, true, false, true, false, false, false] (lv' := [none, none, some (.int x2), some (.long x3), none, some (.long x5), none, some (.long s.2), none, some (.long (s.1 - s.1 / s.2 * s.2)), none, none, none]) rfl ?_
    exact K
def fX7_flaws (x1 : Int32) (x2 : Int32) (M : wq_M) : Option (Int64 × wq_M) :=
  (fX7_isThere  (wq_st M 0 0 0)).bind fun r1 => (if r1 = true then
    (fX7_in x1.toInt64 (0 : Int64) (10 : Int64) (wq_st M 0 0 0)).bind fun r4 => (if r4 = true then
      (fX7_in x2.toInt64 (0 : Int64) (1 : Int64) (wq_st M 0 0 0)).bind fun r7 => (if r7 = true then
        (wq_lp (fX7_flaws_L50 x1 x2 (wq_st M 0 0 0)) wq_FU ((1 : Int64), (1 : Int64), 0)).bind fun e23 => (wq_lp (fX7_flaws_L166 x2 e23.1 e23.2 (wq_st M 0 0 0)) wq_FU (e23.1, e23.2)).bind fun e27 => (if x2 = 0 then
          if ¬ e27 = 0 then some ((e23.1 / e27), (wq_st M 0 0 0)) else none
        else
          if ¬ e27 = 0 then some ((e23.2 / e27), (wq_st M 0 0 0)) else none)
      else
        some ((-1000001 : Int64), (wq_st M 0 0 0)))
    else
      some ((-1000001 : Int64), (wq_st M 0 0 0)))
  else
    some ((-1000002 : Int64), (wq_st M 0 0 0)))
set_option maxHeartbeats 4000000 in
set_option maxRecDepth 100000 in
theorem ctX7_flaws {l : Launch} {E : wq_E} {d : Nat} (hd0 : 5 ≤ d) {x1 : Int32} {x2 : Int32} {M : wq_M} {r : (Int64 × wq_M)}  (h : fX7_flaws x1 x2 M = some r) : wq_ct l E wq_yR yX7_flaws cX7_flaws 13 (some .long) d [.ref (E.2.1 0), .int x1, .int x2] M (some (.long r.1)) r.2 := by
  refine wq_ent (own := "WellPipesModel") (lv0 := [some (.ref (E.2.1 0)), some (.int x1), some (.int x2), none, none, none, none, none, none, none, none, none, none]) (by decide +kernel) rfl (Nat.le_of_ble_eq_true rfl) rfl (fun g h1 h2 hC => ?_)
  have K : wq_kL g r := ⟨h1, h2⟩
  unfold fX7_flaws at h
  refine wq_aload_n hC dX7_flaws_0 (i := 0) rfl rfl ?_
  refine wq_iconst hC (v := 0) dX7_flaws_1 (by decide) ?_
  refine pf_7_0 hC oR_0 tw_718 dX7_flaws_2 ?_
  refine wq_aload_n hC dX7_flaws_5 (i := 0) rfl rfl ?_
  obtain ⟨r1, hc2, h⟩ := wq_ob h
  refine cv_7 hC (ctX7_isThere (d := d - 1) (by omega)  hc2) (by omega) (by decide) oR_0 rfl rfl npX7_isThere tw_912 tw_914 tw_36 tw_915 (st := []) (Nat.le_of_ble_eq_true rfl) rfl dX7_flaws_6 (st1 := [.int (wq_b r1)]) rfl ?_
  refine wq_bif_ne hC dX7_flaws_9 (tgt := 16) (by decide) (fun z3 => ?_) (fun z3 => ?_)
  · have h := wq_ip z3 h
    refine wq_iload_n hC dX7_flaws_16 (i := 1) rfl rfl ?_
    refine wq_i2l hC dX7_flaws_17 ?_
    refine wq_lconst hC (v := 0) dX7_flaws_18 (by decide) ?_
    refine wq_ldc2 hC (v := (10 : Int64)) tw_1065 dX7_flaws_19 ?_
    obtain ⟨r4, hc5, h⟩ := wq_ob h
    refine wq_callS hC (ctX7_in (d := d - 1) (by omega)  hc5) (by omega) (by decide) rfl npX7_in tw_806 tw_807 tw_58 tw_808 (st := []) (Nat.le_of_ble_eq_true rfl) rfl dX7_flaws_22 (st1 := [.int (wq_b r4)]) rfl ?_
    refine wq_bif_eq hC dX7_flaws_25 (tgt := 38) (by decide) (fun z6 => ?_) (fun z6 => ?_)
    · have h := wq_in_ z6 h
      refine wq_ldc2 hC (v := (-1000001 : Int64)) tw_1066 dX7_flaws_38 ?_
      have h := Option.some.inj h
      subst h
      exact wq_lret hC dX7_flaws_41 K.1 K.2
    · have h := wq_ip z6 h
      refine wq_iload_n hC dX7_flaws_28 (i := 2) rfl rfl ?_
      refine wq_i2l hC dX7_flaws_29 ?_
      refine wq_lconst hC (v := 0) dX7_flaws_30 (by decide) ?_
      refine wq_lconst hC (v := 1) dX7_flaws_31 (by decide) ?_
      obtain ⟨r7, hc8, h⟩ := wq_ob h
      refine wq_callS hC (ctX7_in (d := d - 1) (by omega)  hc8) (by omega) (by decide) rfl npX7_in tw_806 tw_807 tw_58 tw_808 (st := []) (Nat.le_of_ble_eq_true rfl) rfl dX7_flaws_32 (st1 := [.int (wq_b r7)]) rfl ?_
      refine wq_bif_ne hC dX7_flaws_35 (tgt := 42) (by decide) (fun z9 => ?_) (fun z9 => ?_)
      · have h := wq_ip z9 h
        refine wq_lconst hC (v := 1) dX7_flaws_42 (by decide) ?_
        refine wq_lstore_n hC dX7_flaws_43 (i := 3) (lv' := [some (.ref (E.2.1 0)), some (.int x1), some (.int x2), some (.long (1 : Int64)), none, none, none, none, none, none, none, none, none]) rfl (by decide) rfl ?_
        refine wq_lconst hC (v := 1) dX7_flaws_44 (by decide) ?_
        refine wq_lstore hC dX7_flaws_45 (lv' := [some (.ref (E.2.1 0)), some (.int x1), some (.int x2), some (.long (1 : Int64)), none, some (.long (1 : Int64)), none, none, none, none, none, none, none]) (by decide) rfl ?_
        refine wq_iconst hC (v := 0) dX7_flaws_47 (by decide) ?_
        refine wq_istore hC dX7_flaws_48 (lv' := [some (.ref (E.2.1 0)), some (.int x1), some (.int x2), some (.long (1 : Int64)), none, some (.long (1 : Int64)), none, some (.int 0), none, none, none, none, none]) (by decide) rfl ?_
        obtain ⟨e23, hl24, h⟩ := wq_ob h
        refine gX7_flaws_L50 hC hd0 x1 x2 (wq_st M 0 0 0)  wq_FU _ _ hl24 ?_
        refine wq_lload_n hC dX7_flaws_159 (i := 3) rfl rfl ?_
        refine wq_lstore hC dX7_flaws_160 (lv' := [none, none, some (.int x2), some (.long e23.1), none, some (.long e23.2), none, some (.long e23.1), none, none, none, none, none]) (by decide) rfl ?_
        refine wq_lload hC dX7_flaws_162 rfl ?_
        refine wq_lstore hC dX7_flaws_164 (lv' := [none, none, some (.int x2), some (.long e23.1), none, some (.long e23.2), none, some (.long e23.1), none, some (.long e23.2), none, none, none]) (by decide) rfl ?_
        obtain ⟨e27, hl28, h⟩ := wq_ob h
        refine gX7_flaws_L166 hC hd0 x2 e23.1 e23.2 (wq_st M 0 0 0)  wq_FU _ _ hl28 ?_
        refine wq_iload_n hC dX7_flaws_191 (i := 2) rfl rfl ?_
        refine wq_if_ne hC dX7_flaws_192 (tgt := 199) (by decide) (fun z29 => ?_) (fun z29 => ?_)
        · have h := wq_in_ z29 h
          refine wq_lload hC dX7_flaws_199 rfl ?_
          refine wq_lload hC dX7_flaws_201 rfl ?_
          obtain ⟨z30, h⟩ := wq_ii h
          refine wq_ldiv hC dX7_flaws_203 z30 ?_
          have h := Option.some.inj h
          subst h
          exact wq_lret hC dX7_flaws_204 K.1 K.2
        · have h := wq_ip z29 h
          refine wq_lload_n hC dX7_flaws_195 (i := 3) rfl rfl ?_
          refine wq_goto hC dX7_flaws_196 (tgt := 201) (by decide) ?_
          refine wq_lload hC dX7_flaws_201 rfl ?_
          obtain ⟨z31, h⟩ := wq_ii h
          refine wq_ldiv hC dX7_flaws_203 z31 ?_
          have h := Option.some.inj h
          subst h
          exact wq_lret hC dX7_flaws_204 K.1 K.2
      · have h := wq_in_ z9 h
        refine wq_ldc2 hC (v := (-1000001 : Int64)) tw_1066 dX7_flaws_38 ?_
        have h := Option.some.inj h
        subst h
        exact wq_lret hC dX7_flaws_41 K.1 K.2
  · have h := wq_in_ z3 h
    refine wq_ldc2 hC (v := (-1000002 : Int64)) tw_1064 dX7_flaws_12 ?_
    have h := Option.some.inj h
    subst h
    exact wq_lret hC dX7_flaws_15 K.1 K.2
theorem npX7_drawn : yX7_drawn.cls ≠ "java/lang/invoke/MethodHandle" ∧ yX7_drawn.cls ≠ "java/lang/invoke/VarHandle" ∧ (parseMethodDescriptor yX7_drawn.desc).map (fun d => d.parameters.length) = some 3 := by decide +kernel
def fX7_drawn_L66_J146 (x1 : Int32) (x3 : Int32) (x4 : Int64) (x6 : Int32) (x7 : Int32) (M : wq_M) : Option ((Int64 × Int32 × Int32 × wq_M) ⊕ (Int32 × wq_M)) :=
  (fX7_manyHold 6 M).bind fun r22 => some (.inl (x4, (x6 + r22), (x7 + 1), M))
set_option maxHeartbeats 4000000 in
set_option maxRecDepth 100000 in
theorem gX7_drawn_L66_J146 {g : wq_G} {E : wq_E} {d : Nat} (hC : wq_C g E wq_yR cX7_drawn 8 "WellPipesModel" (some .int) d) (hd0 : 6 ≤ d) (x1 : Int32) (x3 : Int32) (x4 : Int64) (x6 : Int32) (x7 : Int32) (M : wq_M)  {x : ((Int64 × Int32 × Int32 × wq_M) ⊕ (Int32 × wq_M))} (h : fX7_drawn_L66_J146 x1 x3 x4 x6 x7 M = some x) (K : (Sum.elim (fun (s : (Int64 × Int32 × Int32 × wq_M)) => wq_g g E wq_yR 8 66 [some (.ref (E.2.1 0)), some (.int x1), none, some (.int x3), some (.long s.1), none, some (.int s.2.1), some (.int s.2.2.1)] [] s.2.2.2) (fun (e : (Int32 × wq_M)) => wq_g g E wq_yR 8 164 [some (.ref (E.2.1 0)), none, none, some (.int x3), none, none, some (.int e.1), none] [] e.2)) x) : wq_g g E wq_yR 8 146 [some (.ref (E.2.1 0)), some (.int x1), none, some (.int x3), some (.long x4), none, some (.int x6), some (.int x7)] [] M := by
  unfold fX7_drawn_L66_J146 at h
  refine wq_iload hC dX7_drawn_146 rfl ?_
  refine wq_aload_n hC dX7_drawn_148 (i := 0) rfl rfl ?_
  refine gf_7 hC oR_0 7 (.ref (E.2.1 6)) (by decide) rfl tw_725 dX7_drawn_149 ?_
  obtain ⟨r22, hc23, h⟩ := wq_ob h
  refine wq_callS hC (ctX7_manyHold (d := d - 1) (by omega) aR_6 hc23) (by omega) (by decide) rfl npX7_manyHold tw_1020 tw_1021 tw_58 tw_1022 (st := [.int x6]) (Nat.le_of_ble_eq_true rfl) rfl dX7_drawn_152 (st1 := [.int r22, .int x6]) rfl ?_
  refine wq_iadd hC dX7_drawn_155 ?_
  refine wq_istore hC dX7_drawn_156 (lv' := [some (.ref (E.2.1 0)), some (.int x1), none, some (.int x3), some (.long x4), none, some (.int (x6 + r22)), some (.int x7)]) (by decide) rfl ?_
  refine wq_iinc hC (v := (x7 + 1)) dX7_drawn_158 (lv' := [some (.ref (E.2.1 0)), some (.int x1), none, some (.int x3), some (.long x4), none, some (.int (x6 + r22)), some (.int (x7 + 1))]) rfl rfl (by decide) rfl ?_
  refine wq_goto hC dX7_drawn_161 (tgt := 66) (by decide) ?_
  have h := Option.some.inj h
  subst h
  exact K
def fX7_drawn_L66 (x1 : Int32) (x3 : Int32) : (Int64 × Int32 × Int32 × wq_M) → Option ((Int64 × Int32 × Int32 × wq_M) ⊕ (Int32 × wq_M)) := fun s =>
  (if x1 ≤ s.2.2.1 then
    some (.inr (s.2.1, s.2.2.2))
  else
    if wq_in 0 44 then if ¬ ((s.2.2.2.1 6 (0 : Int32).toNatClampNeg).toInt64) = 0 then if wq_in 5 44 then if ¬ ((s.2.2.2.1 6 (5 : Int32).toNatClampNeg).toInt64) = 0 then if wq_in (36 + (((s.1 * (16807 : Int64)) - (s.1 * (16807 : Int64)) / (2147483647 : Int64) * (2147483647 : Int64)) - ((s.1 * (16807 : Int64)) - (s.1 * (16807 : Int64)) / (2147483647 : Int64) * (2147483647 : Int64)) / ((s.2.2.2.1 6 (0 : Int32).toNatClampNeg).toInt64) * ((s.2.2.2.1 6 (0 : Int32).toNatClampNeg).toInt64)).toInt32) 44 then (if (lg_cmp (((s.1 * (16807 : Int64)) - (s.1 * (16807 : Int64)) / (2147483647 : Int64) * (2147483647 : Int64)) - ((s.1 * (16807 : Int64)) - (s.1 * (16807 : Int64)) / (2147483647 : Int64) * (2147483647 : Int64)) / (5 : Int64) * (5 : Int64)) (0 : Int64)) = 0 then
      if wq_in 2 44 then fX7_drawn_L66_J146 x1 x3 ((s.1 * (16807 : Int64)) - (s.1 * (16807 : Int64)) / (2147483647 : Int64) * (2147483647 : Int64)) s.2.1 s.2.2.1 (wq_st (wq_st s.2.2.2 6 (36 + (((s.1 * (16807 : Int64)) - (s.1 * (16807 : Int64)) / (2147483647 : Int64) * (2147483647 : Int64)) - ((s.1 * (16807 : Int64)) - (s.1 * (16807 : Int64)) / (2147483647 : Int64) * (2147483647 : Int64)) / ((s.2.2.2.1 6 (0 : Int32).toNatClampNeg).toInt64) * ((s.2.2.2.1 6 (0 : Int32).toNatClampNeg).toInt64)).toInt32).toNatClampNeg (((((s.1 * (16807 : Int64)) - (s.1 * (16807 : Int64)) / (2147483647 : Int64) * (2147483647 : Int64)) / (16 : Int64)) - (((s.1 * (16807 : Int64)) - (s.1 * (16807 : Int64)) / (2147483647 : Int64) * (2147483647 : Int64)) / (16 : Int64)) / ((s.2.2.2.1 6 (5 : Int32).toNatClampNeg).toInt64) * ((s.2.2.2.1 6 (5 : Int32).toNatClampNeg).toInt64)).toInt32)) 6 (2 : Int32).toNatClampNeg (((((s.1 * (16807 : Int64)) - (s.1 * (16807 : Int64)) / (2147483647 : Int64) * (2147483647 : Int64)) / (256 : Int64)) - (((s.1 * (16807 : Int64)) - (s.1 * (16807 : Int64)) / (2147483647 : Int64) * (2147483647 : Int64)) / (256 : Int64)) / (21 : Int64) * (21 : Int64)).toInt32)) else none
    else
      fX7_drawn_L66_J146 x1 x3 ((s.1 * (16807 : Int64)) - (s.1 * (16807 : Int64)) / (2147483647 : Int64) * (2147483647 : Int64)) s.2.1 s.2.2.1 (wq_st s.2.2.2 6 (36 + (((s.1 * (16807 : Int64)) - (s.1 * (16807 : Int64)) / (2147483647 : Int64) * (2147483647 : Int64)) - ((s.1 * (16807 : Int64)) - (s.1 * (16807 : Int64)) / (2147483647 : Int64) * (2147483647 : Int64)) / ((s.2.2.2.1 6 (0 : Int32).toNatClampNeg).toInt64) * ((s.2.2.2.1 6 (0 : Int32).toNatClampNeg).toInt64)).toInt32).toNatClampNeg (((((s.1 * (16807 : Int64)) - (s.1 * (16807 : Int64)) / (2147483647 : Int64) * (2147483647 : Int64)) / (16 : Int64)) - (((s.1 * (16807 : Int64)) - (s.1 * (16807 : Int64)) / (2147483647 : Int64) * (2147483647 : Int64)) / (16 : Int64)) / ((s.2.2.2.1 6 (5 : Int32).toNatClampNeg).toInt64) * ((s.2.2.2.1 6 (5 : Int32).toNatClampNeg).toInt64)).toInt32))) else none else none else none else none else none)
set_option maxHeartbeats 4000000 in
set_option maxRecDepth 100000 in
theorem gX7_drawn_L66 {g : wq_G} {E : wq_E} {d : Nat} (hC : wq_C g E wq_yR cX7_drawn 8 "WellPipesModel" (some .int) d) (hd0 : 6 ≤ d) (x1 : Int32) (x3 : Int32)  : ∀ (n : Nat) (s : (Int64 × Int32 × Int32 × wq_M)) (e : (Int32 × wq_M)), wq_lp (fX7_drawn_L66 x1 x3) n s = some e → (fun (e : (Int32 × wq_M)) => wq_g g E wq_yR 8 164 [some (.ref (E.2.1 0)), none, none, some (.int x3), none, none, some (.int e.1), none] [] e.2) e → wq_g g E wq_yR 8 66 [some (.ref (E.2.1 0)), some (.int x1), none, some (.int x3), some (.long s.1), none, some (.int s.2.1), some (.int s.2.2.1)] [] s.2.2.2 := by
  refine wq_lq_ok (fun (s : (Int64 × Int32 × Int32 × wq_M)) => wq_g g E wq_yR 8 66 [some (.ref (E.2.1 0)), some (.int x1), none, some (.int x3), some (.long s.1), none, some (.int s.2.1), some (.int s.2.2.1)] [] s.2.2.2) (fun (e : (Int32 × wq_M)) => wq_g g E wq_yR 8 164 [some (.ref (E.2.1 0)), none, none, some (.int x3), none, none, some (.int e.1), none] [] e.2) (fun s x h K => ?_)
  unfold fX7_drawn_L66 at h
  refine wq_iload hC dX7_drawn_66 rfl ?_
  refine wq_iload_n hC dX7_drawn_68 (i := 1) rfl rfl ?_
  refine wq_icmp_ge hC dX7_drawn_69 (tgt := 164) (by decide) (fun z15 => ?_) (fun z15 => ?_)
  · have h := wq_ip z15 h
    have h := Option.some.inj h
    subst h
    refine wq_mask [true, false, false, true, false, false, true, false] (lv' := [some (.ref (E.2.1 0)), none, none, some (.int x3), none, none, some (.int s.2.1), none]) rfl ?_
    exact K
  · have h := wq_in_ z15 h
    refine wq_lload hC dX7_drawn_72 rfl ?_
    refine wq_ldc2 hC (v := (16807 : Int64)) tw_1073 dX7_drawn_74 ?_
    refine wq_lmul hC dX7_drawn_77 ?_
    refine wq_ldc2 hC (v := (2147483647 : Int64)) tw_1074 dX7_drawn_78 ?_
    refine wq_lrem hC dX7_drawn_81 (by decide) ?_
    refine wq_lstore hC dX7_drawn_82 (lv' := [some (.ref (E.2.1 0)), some (.int x1), none, some (.int x3), some (.long ((s.1 * (16807 : Int64)) - (s.1 * (16807 : Int64)) / (2147483647 : Int64) * (2147483647 : Int64))), none, some (.int s.2.1), some (.int s.2.2.1)]) (by decide) rfl ?_
    refine wq_aload_n hC dX7_drawn_84 (i := 0) rfl rfl ?_
    refine gf_7 hC oR_0 7 (.ref (E.2.1 6)) (by decide) rfl tw_725 dX7_drawn_85 ?_
    refine wq_bipush hC (v := 36) dX7_drawn_88 (by decide) ?_
    refine wq_lload hC dX7_drawn_90 rfl ?_
    refine wq_aload_n hC dX7_drawn_92 (i := 0) rfl rfl ?_
    refine gf_7 hC oR_0 7 (.ref (E.2.1 6)) (by decide) rfl tw_725 dX7_drawn_93 ?_
    refine wq_iconst hC (v := 0) dX7_drawn_96 (by decide) ?_
    obtain ⟨z16, h⟩ := wq_ii h
    refine wq_ald hC aR_6 z16 dX7_drawn_97 ?_
    refine wq_i2l hC dX7_drawn_98 ?_
    obtain ⟨z17, h⟩ := wq_ii h
    refine wq_lrem hC dX7_drawn_99 z17 ?_
    refine wq_l2i hC dX7_drawn_100 ?_
    refine wq_iadd hC dX7_drawn_101 ?_
    refine wq_lload hC dX7_drawn_102 rfl ?_
    refine wq_ldc2 hC (v := (16 : Int64)) tw_1075 dX7_drawn_104 ?_
    refine wq_ldiv hC dX7_drawn_107 (by decide) ?_
    refine wq_aload_n hC dX7_drawn_108 (i := 0) rfl rfl ?_
    refine gf_7 hC oR_0 7 (.ref (E.2.1 6)) (by decide) rfl tw_725 dX7_drawn_109 ?_
    refine wq_iconst hC (v := 5) dX7_drawn_112 (by decide) ?_
    obtain ⟨z18, h⟩ := wq_ii h
    refine wq_ald hC aR_6 z18 dX7_drawn_113 ?_
    refine wq_i2l hC dX7_drawn_114 ?_
    obtain ⟨z19, h⟩ := wq_ii h
    refine wq_lrem hC dX7_drawn_115 z19 ?_
    refine wq_l2i hC dX7_drawn_116 ?_
    obtain ⟨z20, h⟩ := wq_ii h
    refine wq_ast hC aR_6 z20 dX7_drawn_117 ?_
    refine wq_lload hC dX7_drawn_118 rfl ?_
    refine wq_ldc2 hC (v := (5 : Int64)) tw_1076 dX7_drawn_120 ?_
    refine wq_lrem hC dX7_drawn_123 (by decide) ?_
    refine wq_lconst hC (v := 0) dX7_drawn_124 (by decide) ?_
    refine wq_lcmp hC dX7_drawn_125 ?_
    refine wq_if_ne hC dX7_drawn_126 (tgt := 146) (by decide) (fun z21 => ?_) (fun z21 => ?_)
    · have h := wq_in_ z21 h
      exact gX7_drawn_L66_J146 hC hd0 x1 x3 ((s.1 * (16807 : Int64)) - (s.1 * (16807 : Int64)) / (2147483647 : Int64) * (2147483647 : Int64)) s.2.1 s.2.2.1 (wq_st s.2.2.2 6 (36 + (((s.1 * (16807 : Int64)) - (s.1 * (16807 : Int64)) / (2147483647 : Int64) * (2147483647 : Int64)) - ((s.1 * (16807 : Int64)) - (s.1 * (16807 : Int64)) / (2147483647 : Int64) * (2147483647 : Int64)) / ((s.2.2.2.1 6 (0 : Int32).toNatClampNeg).toInt64) * ((s.2.2.2.1 6 (0 : Int32).toNatClampNeg).toInt64)).toInt32).toNatClampNeg (((((s.1 * (16807 : Int64)) - (s.1 * (16807 : Int64)) / (2147483647 : Int64) * (2147483647 : Int64)) / (16 : Int64)) - (((s.1 * (16807 : Int64)) - (s.1 * (16807 : Int64)) / (2147483647 : Int64) * (2147483647 : Int64)) / (16 : Int64)) / ((s.2.2.2.1 6 (5 : Int32).toNatClampNeg).toInt64) * ((s.2.2.2.1 6 (5 : Int32).toNatClampNeg).toInt64)).toInt32))  h K
    · have h := wq_ip z21 h
      refine wq_aload_n hC dX7_drawn_129 (i := 0) rfl rfl ?_
      refine gf_7 hC oR_0 7 (.ref (E.2.1 6)) (by decide) rfl tw_725 dX7_drawn_130 ?_
      refine wq_iconst hC (v := 2) dX7_drawn_133 (by decide) ?_
      refine wq_lload hC dX7_drawn_134 rfl ?_
      refine wq_ldc2 hC (v := (256 : Int64)) tw_1077 dX7_drawn_136 ?_
      refine wq_ldiv hC dX7_drawn_139 (by decide) ?_
      refine wq_ldc2 hC (v := (21 : Int64)) tw_1078 dX7_drawn_140 ?_
      refine wq_lrem hC dX7_drawn_143 (by decide) ?_
      refine wq_l2i hC dX7_drawn_144 ?_
      obtain ⟨z24, h⟩ := wq_ii h
      refine wq_ast hC aR_6 z24 dX7_drawn_145 ?_
      exact gX7_drawn_L66_J146 hC hd0 x1 x3 ((s.1 * (16807 : Int64)) - (s.1 * (16807 : Int64)) / (2147483647 : Int64) * (2147483647 : Int64)) s.2.1 s.2.2.1 (wq_st (wq_st s.2.2.2 6 (36 + (((s.1 * (16807 : Int64)) - (s.1 * (16807 : Int64)) / (2147483647 : Int64) * (2147483647 : Int64)) - ((s.1 * (16807 : Int64)) - (s.1 * (16807 : Int64)) / (2147483647 : Int64) * (2147483647 : Int64)) / ((s.2.2.2.1 6 (0 : Int32).toNatClampNeg).toInt64) * ((s.2.2.2.1 6 (0 : Int32).toNatClampNeg).toInt64)).toInt32).toNatClampNeg (((((s.1 * (16807 : Int64)) - (s.1 * (16807 : Int64)) / (2147483647 : Int64) * (2147483647 : Int64)) / (16 : Int64)) - (((s.1 * (16807 : Int64)) - (s.1 * (16807 : Int64)) / (2147483647 : Int64) * (2147483647 : Int64)) / (16 : Int64)) / ((s.2.2.2.1 6 (5 : Int32).toNatClampNeg).toInt64) * ((s.2.2.2.1 6 (5 : Int32).toNatClampNeg).toInt64)).toInt32)) 6 (2 : Int32).toNatClampNeg (((((s.1 * (16807 : Int64)) - (s.1 * (16807 : Int64)) / (2147483647 : Int64) * (2147483647 : Int64)) / (256 : Int64)) - (((s.1 * (16807 : Int64)) - (s.1 * (16807 : Int64)) / (2147483647 : Int64) * (2147483647 : Int64)) / (256 : Int64)) / (21 : Int64) * (21 : Int64)).toInt32))  h K
def fX7_drawn (x1 : Int32) (x2 : Int32) (x3 : Int32) (M : wq_M) : Option (Int32 × wq_M) :=
  (fX7_isThere  (wq_st M 0 0 0)).bind fun r1 => (if r1 = true then
    (fX7_in x1.toInt64 (0 : Int64) (60 : Int64) (wq_st M 0 0 0)).bind fun r4 => (if r4 = true then
      (fX7_in x2.toInt64 (1 : Int64) (999999 : Int64) (wq_st M 0 0 0)).bind fun r7 => (if r7 = true then
        (fX7_in x3.toInt64 (0 : Int64) (1 : Int64) (wq_st M 0 0 0)).bind fun r10 => (if r10 = true then
          (fX7_layThen  (wq_st M 0 0 0)).bind fun r13 => (wq_lp (fX7_drawn_L66 x1 x3) wq_FU (x2.toInt64, 0, 0, r13)).bind fun e25 => (if x3 = 0 then
            some (e25.1, e25.2)
          else
            (fX7_costOf 6 e25.2).bind fun r28 => some (r28, e25.2))
        else
          some ((-1000001), (wq_st M 0 0 0)))
      else
        some ((-1000001), (wq_st M 0 0 0)))
    else
      some ((-1000001), (wq_st M 0 0 0)))
  else
    some ((-1000002), (wq_st M 0 0 0)))
set_option maxHeartbeats 4000000 in
set_option maxRecDepth 100000 in
theorem ctX7_drawn {l : Launch} {E : wq_E} {d : Nat} (hd0 : 6 ≤ d) {x1 : Int32} {x2 : Int32} {x3 : Int32} {M : wq_M} {r : (Int32 × wq_M)}  (h : fX7_drawn x1 x2 x3 M = some r) : wq_ct l E wq_yR yX7_drawn cX7_drawn 8 (some .int) d [.ref (E.2.1 0), .int x1, .int x2, .int x3] M (some (.int r.1)) r.2 := by
  refine wq_ent (own := "WellPipesModel") (lv0 := [some (.ref (E.2.1 0)), some (.int x1), some (.int x2), some (.int x3), none, none, none, none]) (by decide +kernel) rfl (Nat.le_of_ble_eq_true rfl) rfl (fun g h1 h2 hC => ?_)
  have K : wq_kI g r := ⟨h1, h2⟩
  unfold fX7_drawn at h
  refine wq_aload_n hC dX7_drawn_0 (i := 0) rfl rfl ?_
  refine wq_iconst hC (v := 0) dX7_drawn_1 (by decide) ?_
  refine pf_7_0 hC oR_0 tw_718 dX7_drawn_2 ?_
  refine wq_aload_n hC dX7_drawn_5 (i := 0) rfl rfl ?_
  obtain ⟨r1, hc2, h⟩ := wq_ob h
  refine cv_7 hC (ctX7_isThere (d := d - 1) (by omega)  hc2) (by omega) (by decide) oR_0 rfl rfl npX7_isThere tw_912 tw_914 tw_36 tw_915 (st := []) (Nat.le_of_ble_eq_true rfl) rfl dX7_drawn_6 (st1 := [.int (wq_b r1)]) rfl ?_
  refine wq_bif_ne hC dX7_drawn_9 (tgt := 15) (by decide) (fun z3 => ?_) (fun z3 => ?_)
  · have h := wq_ip z3 h
    refine wq_iload_n hC dX7_drawn_15 (i := 1) rfl rfl ?_
    refine wq_i2l hC dX7_drawn_16 ?_
    refine wq_lconst hC (v := 0) dX7_drawn_17 (by decide) ?_
    refine wq_ldc2 hC (v := (60 : Int64)) tw_1071 dX7_drawn_18 ?_
    obtain ⟨r4, hc5, h⟩ := wq_ob h
    refine wq_callS hC (ctX7_in (d := d - 1) (by omega)  hc5) (by omega) (by decide) rfl npX7_in tw_806 tw_807 tw_58 tw_808 (st := []) (Nat.le_of_ble_eq_true rfl) rfl dX7_drawn_21 (st1 := [.int (wq_b r4)]) rfl ?_
    refine wq_bif_eq hC dX7_drawn_24 (tgt := 49) (by decide) (fun z6 => ?_) (fun z6 => ?_)
    · have h := wq_in_ z6 h
      refine wq_ldc hC (v := (-1000001)) tw_810 dX7_drawn_49 ?_
      have h := Option.some.inj h
      subst h
      exact wq_iret hC dX7_drawn_51 K.1 K.2
    · have h := wq_ip z6 h
      refine wq_iload_n hC dX7_drawn_27 (i := 2) rfl rfl ?_
      refine wq_i2l hC dX7_drawn_28 ?_
      refine wq_lconst hC (v := 1) dX7_drawn_29 (by decide) ?_
      refine wq_ldc2 hC (v := (999999 : Int64)) tw_1072 dX7_drawn_30 ?_
      obtain ⟨r7, hc8, h⟩ := wq_ob h
      refine wq_callS hC (ctX7_in (d := d - 1) (by omega)  hc8) (by omega) (by decide) rfl npX7_in tw_806 tw_807 tw_58 tw_808 (st := []) (Nat.le_of_ble_eq_true rfl) rfl dX7_drawn_33 (st1 := [.int (wq_b r7)]) rfl ?_
      refine wq_bif_eq hC dX7_drawn_36 (tgt := 49) (by decide) (fun z9 => ?_) (fun z9 => ?_)
      · have h := wq_in_ z9 h
        refine wq_ldc hC (v := (-1000001)) tw_810 dX7_drawn_49 ?_
        have h := Option.some.inj h
        subst h
        exact wq_iret hC dX7_drawn_51 K.1 K.2
      · have h := wq_ip z9 h
        refine wq_iload_n hC dX7_drawn_39 (i := 3) rfl rfl ?_
        refine wq_i2l hC dX7_drawn_40 ?_
        refine wq_lconst hC (v := 0) dX7_drawn_41 (by decide) ?_
        refine wq_lconst hC (v := 1) dX7_drawn_42 (by decide) ?_
        obtain ⟨r10, hc11, h⟩ := wq_ob h
        refine wq_callS hC (ctX7_in (d := d - 1) (by omega)  hc11) (by omega) (by decide) rfl npX7_in tw_806 tw_807 tw_58 tw_808 (st := []) (Nat.le_of_ble_eq_true rfl) rfl dX7_drawn_43 (st1 := [.int (wq_b r10)]) rfl ?_
        refine wq_bif_ne hC dX7_drawn_46 (tgt := 52) (by decide) (fun z12 => ?_) (fun z12 => ?_)
        · have h := wq_ip z12 h
          refine wq_aload_n hC dX7_drawn_52 (i := 0) rfl rfl ?_
          obtain ⟨r13, hc14, h⟩ := wq_ob h
          refine cv_7 hC (ctX7_layThen (d := d - 1) (by omega)  hc14) (by omega) (by decide) oR_0 rfl rfl npX7_layThen tw_1016 tw_1018 tw_41 tw_1019 (st := []) (Nat.le_of_ble_eq_true rfl) rfl dX7_drawn_53 (st1 := []) rfl ?_
          refine wq_iload_n hC dX7_drawn_56 (i := 2) rfl rfl ?_
          refine wq_i2l hC dX7_drawn_57 ?_
          refine wq_lstore hC dX7_drawn_58 (lv' := [some (.ref (E.2.1 0)), some (.int x1), some (.int x2), some (.int x3), some (.long x2.toInt64), none, none, none]) (by decide) rfl ?_
          refine wq_iconst hC (v := 0) dX7_drawn_60 (by decide) ?_
          refine wq_istore hC dX7_drawn_61 (lv' := [some (.ref (E.2.1 0)), some (.int x1), some (.int x2), some (.int x3), some (.long x2.toInt64), none, some (.int 0), none]) (by decide) rfl ?_
          refine wq_iconst hC (v := 0) dX7_drawn_63 (by decide) ?_
          refine wq_istore hC dX7_drawn_64 (lv' := [some (.ref (E.2.1 0)), some (.int x1), some (.int x2), some (.int x3), some (.long x2.toInt64), none, some (.int 0), some (.int 0)]) (by decide) rfl ?_
          obtain ⟨e25, hl26, h⟩ := wq_ob h
          refine wq_mask [true, true, false, true, true, false, true, true] (lv' := [some (.ref (E.2.1 0)), some (.int x1), none, some (.int x3), some (.long x2.toInt64), none, some (.int 0), some (.int 0)]) rfl ?_
          refine gX7_drawn_L66 hC hd0 x1 x3  wq_FU _ _ hl26 ?_
          refine wq_iload_n hC dX7_drawn_164 (i := 3) rfl rfl ?_
          refine wq_if_ne hC dX7_drawn_165 (tgt := 173) (by decide) (fun z27 => ?_) (fun z27 => ?_)
          · have h := wq_in_ z27 h
            refine wq_aload_n hC dX7_drawn_173 (i := 0) rfl rfl ?_
            refine gf_7 hC oR_0 7 (.ref (E.2.1 6)) (by decide) rfl tw_725 dX7_drawn_174 ?_
            obtain ⟨r28, hc29, h⟩ := wq_ob h
            refine wq_callS hC (ctX7_costOf (d := d - 1) (by omega) aR_6 hc29) (by omega) (by decide) rfl npX7_costOf tw_953 tw_954 tw_58 tw_955 (st := []) (Nat.le_of_ble_eq_true rfl) rfl dX7_drawn_177 (st1 := [.int r28]) rfl ?_
            have h := Option.some.inj h
            subst h
            exact wq_iret hC dX7_drawn_180 K.1 K.2
          · have h := wq_ip z27 h
            refine wq_iload hC dX7_drawn_168 rfl ?_
            refine wq_goto hC dX7_drawn_170 (tgt := 180) (by decide) ?_
            have h := Option.some.inj h
            subst h
            exact wq_iret hC dX7_drawn_180 K.1 K.2
        · have h := wq_in_ z12 h
          refine wq_ldc hC (v := (-1000001)) tw_810 dX7_drawn_49 ?_
          have h := Option.some.inj h
          subst h
          exact wq_iret hC dX7_drawn_51 K.1 K.2
  · have h := wq_in_ z3 h
    refine wq_ldc hC (v := (-1000002)) tw_903 dX7_drawn_12 ?_
    have h := Option.some.inj h
    subst h
    exact wq_iret hC dX7_drawn_14 K.1 K.2
theorem npX7_image : yX7_image.cls ≠ "java/lang/invoke/MethodHandle" ∧ yX7_image.cls ≠ "java/lang/invoke/VarHandle" ∧ (parseMethodDescriptor yX7_image.desc).map (fun d => d.parameters.length) = some 1 := by decide +kernel
def fX7_image_L30 (x1 : Int32) : (Int32 × wq_M) → Option ((Int32 × wq_M) ⊕ wq_M) := fun s =>
  (if 44 ≤ s.1 then
    some (.inr s.2)
  else
    if wq_in s.1 44 then if wq_in ((44 * x1) + s.1) 88 then some (.inl ((s.1 + 1), (wq_st s.2 13 ((44 * x1) + s.1).toNatClampNeg (s.2.1 4 s.1.toNatClampNeg)))) else none else none)
set_option maxHeartbeats 4000000 in
set_option maxRecDepth 100000 in
theorem gX7_image_L30 {g : wq_G} {E : wq_E} {d : Nat} (hC : wq_C g E wq_yR cX7_image 3 "WellPipesModel" (some .int) d) (hd0 : 1 ≤ d) (x1 : Int32)  : ∀ (n : Nat) (s : (Int32 × wq_M)) (e : wq_M), wq_lp (fX7_image_L30 x1) n s = some e → (fun (e : wq_M) => wq_g g E wq_yR 3 59 [some (.ref (E.2.1 0)), some (.int x1), none] [] e) e → wq_g g E wq_yR 3 30 [some (.ref (E.2.1 0)), some (.int x1), some (.int s.1)] [] s.2 := by
  refine wq_lq_ok (fun (s : (Int32 × wq_M)) => wq_g g E wq_yR 3 30 [some (.ref (E.2.1 0)), some (.int x1), some (.int s.1)] [] s.2) (fun (e : wq_M) => wq_g g E wq_yR 3 59 [some (.ref (E.2.1 0)), some (.int x1), none] [] e) (fun s x h K => ?_)
  unfold fX7_image_L30 at h
  refine wq_iload_n hC dX7_image_30 (i := 2) rfl rfl ?_
  refine wq_bipush hC (v := 44) dX7_image_31 (by decide) ?_
  refine wq_icmp_ge hC dX7_image_33 (tgt := 59) (by decide) (fun z7 => ?_) (fun z7 => ?_)
  · have h := wq_ip z7 h
    have h := Option.some.inj h
    subst h
    refine wq_mask [true, true, false] (lv' := [some (.ref (E.2.1 0)), some (.int x1), none]) rfl ?_
    exact K
  · have h := wq_in_ z7 h
    refine wq_aload_n hC dX7_image_36 (i := 0) rfl rfl ?_
    refine gf_7 hC oR_0 23 (.ref (E.2.1 13)) (by decide) rfl tw_741 dX7_image_37 ?_
    refine wq_bipush hC (v := 44) dX7_image_40 (by decide) ?_
    refine wq_iload_n hC dX7_image_42 (i := 1) rfl rfl ?_
    refine wq_imul hC dX7_image_43 ?_
    refine wq_iload_n hC dX7_image_44 (i := 2) rfl rfl ?_
    refine wq_iadd hC dX7_image_45 ?_
    refine wq_aload_n hC dX7_image_46 (i := 0) rfl rfl ?_
    refine gf_7 hC oR_0 5 (.ref (E.2.1 4)) (by decide) rfl tw_723 dX7_image_47 ?_
    refine wq_iload_n hC dX7_image_50 (i := 2) rfl rfl ?_
    obtain ⟨z8, h⟩ := wq_ii h
    refine wq_ald hC aR_4 z8 dX7_image_51 ?_
    obtain ⟨z9, h⟩ := wq_ii h
    refine wq_ast hC aR_13 z9 dX7_image_52 ?_
    refine wq_iinc hC (v := (s.1 + 1)) dX7_image_53 (lv' := [some (.ref (E.2.1 0)), some (.int x1), some (.int (s.1 + 1))]) rfl rfl (by decide) rfl ?_
    refine wq_goto hC dX7_image_56 (tgt := 30) (by decide) ?_
    have h := Option.some.inj h
    subst h
    exact K
def fX7_image (x1 : Int32) (M : wq_M) : Option (Int32 × wq_M) :=
  (fX7_in x1.toInt64 (0 : Int64) (1 : Int64) (wq_st M 0 0 0)).bind fun r1 => (if r1 = true then
    (fX7_isThere  (wq_st M 0 0 0)).bind fun r4 => (if r4 = true then
      (wq_lp (fX7_image_L30 x1) wq_FU (0, (wq_st M 0 0 0))).bind fun e10 => if wq_in x1 2 then some (1, (wq_st e10 12 x1.toNatClampNeg 1)) else none
    else
      some ((-1000002), (wq_st M 0 0 0)))
  else
    some ((-1000001), (wq_st M 0 0 0)))
set_option maxHeartbeats 4000000 in
set_option maxRecDepth 100000 in
theorem ctX7_image {l : Launch} {E : wq_E} {d : Nat} (hd0 : 1 ≤ d) {x1 : Int32} {M : wq_M} {r : (Int32 × wq_M)}  (h : fX7_image x1 M = some r) : wq_ct l E wq_yR yX7_image cX7_image 3 (some .int) d [.ref (E.2.1 0), .int x1] M (some (.int r.1)) r.2 := by
  refine wq_ent (own := "WellPipesModel") (lv0 := [some (.ref (E.2.1 0)), some (.int x1), none]) (by decide +kernel) rfl (Nat.le_of_ble_eq_true rfl) rfl (fun g h1 h2 hC => ?_)
  have K : wq_kI g r := ⟨h1, h2⟩
  unfold fX7_image at h
  refine wq_aload_n hC dX7_image_0 (i := 0) rfl rfl ?_
  refine wq_iconst hC (v := 0) dX7_image_1 (by decide) ?_
  refine pf_7_0 hC oR_0 tw_718 dX7_image_2 ?_
  refine wq_iload_n hC dX7_image_5 (i := 1) rfl rfl ?_
  refine wq_i2l hC dX7_image_6 ?_
  refine wq_lconst hC (v := 0) dX7_image_7 (by decide) ?_
  refine wq_lconst hC (v := 1) dX7_image_8 (by decide) ?_
  obtain ⟨r1, hc2, h⟩ := wq_ob h
  refine wq_callS hC (ctX7_in (d := d - 1) (by omega)  hc2) (by omega) (by decide) rfl npX7_in tw_806 tw_807 tw_58 tw_808 (st := []) (Nat.le_of_ble_eq_true rfl) rfl dX7_image_9 (st1 := [.int (wq_b r1)]) rfl ?_
  refine wq_bif_ne hC dX7_image_12 (tgt := 18) (by decide) (fun z3 => ?_) (fun z3 => ?_)
  · have h := wq_ip z3 h
    refine wq_aload_n hC dX7_image_18 (i := 0) rfl rfl ?_
    obtain ⟨r4, hc5, h⟩ := wq_ob h
    refine cv_7 hC (ctX7_isThere (d := d - 1) (by omega)  hc5) (by omega) (by decide) oR_0 rfl rfl npX7_isThere tw_912 tw_914 tw_36 tw_915 (st := []) (Nat.le_of_ble_eq_true rfl) rfl dX7_image_19 (st1 := [.int (wq_b r4)]) rfl ?_
    refine wq_bif_ne hC dX7_image_22 (tgt := 28) (by decide) (fun z6 => ?_) (fun z6 => ?_)
    · have h := wq_ip z6 h
      refine wq_iconst hC (v := 0) dX7_image_28 (by decide) ?_
      refine wq_istore_n hC dX7_image_29 (i := 2) (lv' := [some (.ref (E.2.1 0)), some (.int x1), some (.int 0)]) rfl (by decide) rfl ?_
      obtain ⟨e10, hl11, h⟩ := wq_ob h
      refine gX7_image_L30 hC hd0 x1  wq_FU _ _ hl11 ?_
      refine wq_aload_n hC dX7_image_59 (i := 0) rfl rfl ?_
      refine gf_7 hC oR_0 22 (.ref (E.2.1 12)) (by decide) rfl tw_740 dX7_image_60 ?_
      refine wq_iload_n hC dX7_image_63 (i := 1) rfl rfl ?_
      refine wq_iconst hC (v := 1) dX7_image_64 (by decide) ?_
      obtain ⟨z12, h⟩ := wq_ii h
      refine wq_zast hC oR_12.1 oR_12.2 rfl z12 (by decide) dX7_image_65 ?_
      refine wq_iconst hC (v := 1) dX7_image_66 (by decide) ?_
      have h := Option.some.inj h
      subst h
      exact wq_iret hC dX7_image_67 K.1 K.2
    · have h := wq_in_ z6 h
      refine wq_ldc hC (v := (-1000002)) tw_903 dX7_image_25 ?_
      have h := Option.some.inj h
      subst h
      exact wq_iret hC dX7_image_27 K.1 K.2
  · have h := wq_in_ z3 h
    refine wq_ldc hC (v := (-1000001)) tw_810 dX7_image_15 ?_
    have h := Option.some.inj h
    subst h
    exact wq_iret hC dX7_image_17 K.1 K.2
theorem npX7_restore : yX7_restore.cls ≠ "java/lang/invoke/MethodHandle" ∧ yX7_restore.cls ≠ "java/lang/invoke/VarHandle" ∧ (parseMethodDescriptor yX7_restore.desc).map (fun d => d.parameters.length) = some 1 := by decide +kernel
def fX7_restore_L32 (x1 : Int32) : (Int32 × wq_M) → Option ((Int32 × wq_M) ⊕ wq_M) := fun s =>
  (if 44 ≤ s.1 then
    some (.inr s.2)
  else
    if wq_in ((44 * x1) + s.1) 88 then if wq_in s.1 44 then some (.inl ((s.1 + 1), (wq_st s.2 4 s.1.toNatClampNeg (s.2.1 13 ((44 * x1) + s.1).toNatClampNeg)))) else none else none)
set_option maxHeartbeats 4000000 in
set_option maxRecDepth 100000 in
theorem gX7_restore_L32 {g : wq_G} {E : wq_E} {d : Nat} (hC : wq_C g E wq_yR cX7_restore 3 "WellPipesModel" (some .int) d) (hd0 : 1 ≤ d) (x1 : Int32)  : ∀ (n : Nat) (s : (Int32 × wq_M)) (e : wq_M), wq_lp (fX7_restore_L32 x1) n s = some e → (fun (e : wq_M) => wq_g g E wq_yR 3 61 [some (.ref (E.2.1 0)), none, none] [] e) e → wq_g g E wq_yR 3 32 [some (.ref (E.2.1 0)), some (.int x1), some (.int s.1)] [] s.2 := by
  refine wq_lq_ok (fun (s : (Int32 × wq_M)) => wq_g g E wq_yR 3 32 [some (.ref (E.2.1 0)), some (.int x1), some (.int s.1)] [] s.2) (fun (e : wq_M) => wq_g g E wq_yR 3 61 [some (.ref (E.2.1 0)), none, none] [] e) (fun s x h K => ?_)
  unfold fX7_restore_L32 at h
  refine wq_iload_n hC dX7_restore_32 (i := 2) rfl rfl ?_
  refine wq_bipush hC (v := 44) dX7_restore_33 (by decide) ?_
  refine wq_icmp_ge hC dX7_restore_35 (tgt := 61) (by decide) (fun z6 => ?_) (fun z6 => ?_)
  · have h := wq_ip z6 h
    have h := Option.some.inj h
    subst h
    refine wq_mask [true, false, false] (lv' := [some (.ref (E.2.1 0)), none, none]) rfl ?_
    exact K
  · have h := wq_in_ z6 h
    refine wq_aload_n hC dX7_restore_38 (i := 0) rfl rfl ?_
    refine gf_7 hC oR_0 5 (.ref (E.2.1 4)) (by decide) rfl tw_723 dX7_restore_39 ?_
    refine wq_iload_n hC dX7_restore_42 (i := 2) rfl rfl ?_
    refine wq_aload_n hC dX7_restore_43 (i := 0) rfl rfl ?_
    refine gf_7 hC oR_0 23 (.ref (E.2.1 13)) (by decide) rfl tw_741 dX7_restore_44 ?_
    refine wq_bipush hC (v := 44) dX7_restore_47 (by decide) ?_
    refine wq_iload_n hC dX7_restore_49 (i := 1) rfl rfl ?_
    refine wq_imul hC dX7_restore_50 ?_
    refine wq_iload_n hC dX7_restore_51 (i := 2) rfl rfl ?_
    refine wq_iadd hC dX7_restore_52 ?_
    obtain ⟨z7, h⟩ := wq_ii h
    refine wq_ald hC aR_13 z7 dX7_restore_53 ?_
    obtain ⟨z8, h⟩ := wq_ii h
    refine wq_ast hC aR_4 z8 dX7_restore_54 ?_
    refine wq_iinc hC (v := (s.1 + 1)) dX7_restore_55 (lv' := [some (.ref (E.2.1 0)), some (.int x1), some (.int (s.1 + 1))]) rfl rfl (by decide) rfl ?_
    refine wq_goto hC dX7_restore_58 (tgt := 32) (by decide) ?_
    have h := Option.some.inj h
    subst h
    exact K
def fX7_restore (x1 : Int32) (M : wq_M) : Option (Int32 × wq_M) :=
  (fX7_in x1.toInt64 (0 : Int64) (1 : Int64) (wq_st M 0 0 0)).bind fun r1 => (if r1 = true then
    if wq_in x1 2 then (if ((wq_st M 0 0 0).1 12 x1.toNatClampNeg) = 0 then
      some ((-1000002), (wq_st M 0 0 0))
    else
      (wq_lp (fX7_restore_L32 x1) wq_FU (0, (wq_st M 0 0 0))).bind fun e9 => some (1, (wq_st e9 0 9 0))) else none
  else
    some ((-1000001), (wq_st M 0 0 0)))
set_option maxHeartbeats 4000000 in
set_option maxRecDepth 100000 in
theorem ctX7_restore {l : Launch} {E : wq_E} {d : Nat} (hd0 : 1 ≤ d) {x1 : Int32} {M : wq_M} {r : (Int32 × wq_M)}  (h : fX7_restore x1 M = some r) : wq_ct l E wq_yR yX7_restore cX7_restore 3 (some .int) d [.ref (E.2.1 0), .int x1] M (some (.int r.1)) r.2 := by
  refine wq_ent (own := "WellPipesModel") (lv0 := [some (.ref (E.2.1 0)), some (.int x1), none]) (by decide +kernel) rfl (Nat.le_of_ble_eq_true rfl) rfl (fun g h1 h2 hC => ?_)
  have K : wq_kI g r := ⟨h1, h2⟩
  unfold fX7_restore at h
  refine wq_aload_n hC dX7_restore_0 (i := 0) rfl rfl ?_
  refine wq_iconst hC (v := 0) dX7_restore_1 (by decide) ?_
  refine pf_7_0 hC oR_0 tw_718 dX7_restore_2 ?_
  refine wq_iload_n hC dX7_restore_5 (i := 1) rfl rfl ?_
  refine wq_i2l hC dX7_restore_6 ?_
  refine wq_lconst hC (v := 0) dX7_restore_7 (by decide) ?_
  refine wq_lconst hC (v := 1) dX7_restore_8 (by decide) ?_
  obtain ⟨r1, hc2, h⟩ := wq_ob h
  refine wq_callS hC (ctX7_in (d := d - 1) (by omega)  hc2) (by omega) (by decide) rfl npX7_in tw_806 tw_807 tw_58 tw_808 (st := []) (Nat.le_of_ble_eq_true rfl) rfl dX7_restore_9 (st1 := [.int (wq_b r1)]) rfl ?_
  refine wq_bif_ne hC dX7_restore_12 (tgt := 18) (by decide) (fun z3 => ?_) (fun z3 => ?_)
  · have h := wq_ip z3 h
    refine wq_aload_n hC dX7_restore_18 (i := 0) rfl rfl ?_
    refine gf_7 hC oR_0 22 (.ref (E.2.1 12)) (by decide) rfl tw_740 dX7_restore_19 ?_
    refine wq_iload_n hC dX7_restore_22 (i := 1) rfl rfl ?_
    obtain ⟨z4, h⟩ := wq_ii h
    refine wq_zald hC oR_12.1 oR_12.2 rfl z4 dX7_restore_23 ?_
    refine wq_if_ne hC dX7_restore_24 (tgt := 30) (by decide) (fun z5 => ?_) (fun z5 => ?_)
    · have h := wq_in_ z5 h
      refine wq_iconst hC (v := 0) dX7_restore_30 (by decide) ?_
      refine wq_istore_n hC dX7_restore_31 (i := 2) (lv' := [some (.ref (E.2.1 0)), some (.int x1), some (.int 0)]) rfl (by decide) rfl ?_
      obtain ⟨e9, hl10, h⟩ := wq_ob h
      refine gX7_restore_L32 hC hd0 x1  wq_FU _ _ hl10 ?_
      refine wq_aload_n hC dX7_restore_61 (i := 0) rfl rfl ?_
      refine wq_iconst hC (v := 0) dX7_restore_62 (by decide) ?_
      refine pf_7_9 hC oR_0 tw_727 dX7_restore_63 ?_
      refine wq_iconst hC (v := 1) dX7_restore_66 (by decide) ?_
      have h := Option.some.inj h
      subst h
      exact wq_iret hC dX7_restore_67 K.1 K.2
    · have h := wq_ip z5 h
      refine wq_ldc hC (v := (-1000002)) tw_903 dX7_restore_27 ?_
      have h := Option.some.inj h
      subst h
      exact wq_iret hC dX7_restore_29 K.1 K.2
  · have h := wq_in_ z3 h
    refine wq_ldc hC (v := (-1000001)) tw_810 dX7_restore_15 ?_
    have h := Option.some.inj h
    subst h
    exact wq_iret hC dX7_restore_17 K.1 K.2
theorem npX7_isOf : yX7_isOf.cls ≠ "java/lang/invoke/MethodHandle" ∧ yX7_isOf.cls ≠ "java/lang/invoke/VarHandle" ∧ (parseMethodDescriptor yX7_isOf.desc).map (fun d => d.parameters.length) = some 2 := by decide +kernel
def fX7_isOf_J19 (x0 : Int32) (x1 : Int32) (M : wq_M) : Option Bool :=
  (if x1 = 4 then
    (if x0 = 5 then
      some true
    else
      some false)
  else
    some false)
set_option maxHeartbeats 4000000 in
set_option maxRecDepth 100000 in
theorem gX7_isOf_J19 {g : wq_G} {E : wq_E} {d : Nat} (hC : wq_C g E wq_yR cX7_isOf 2 "WellPipesModel" (some .boolean) d) (hd0 : 0 ≤ d) (x0 : Int32) (x1 : Int32) (M : wq_M)  {x : Bool} (h : fX7_isOf_J19 x0 x1 M = some x) (K : (wq_kb g M) x) : wq_g g E wq_yR 2 19 [some (.int x0), some (.int x1)] [] M := by
  unfold fX7_isOf_J19 at h
  refine wq_iload_n hC dX7_isOf_19 (i := 1) rfl rfl ?_
  refine wq_iconst hC (v := 4) dX7_isOf_20 (by decide) ?_
  refine wq_icmp_ne hC dX7_isOf_21 (tgt := 33) (by decide) (fun z4 => ?_) (fun z4 => ?_)
  · have h := wq_in_ z4 h
    refine wq_iconst hC (v := 0) dX7_isOf_33 (by decide) ?_
    have h := Option.some.inj h
    subst h
    exact wq_zret hC (b := false) dX7_isOf_34 (by decide) K.1 K.2
  · have h := wq_ip z4 h
    refine wq_iload_n hC dX7_isOf_24 (i := 0) rfl rfl ?_
    refine wq_iconst hC (v := 5) dX7_isOf_25 (by decide) ?_
    refine wq_icmp_ne hC dX7_isOf_26 (tgt := 33) (by decide) (fun z5 => ?_) (fun z5 => ?_)
    · have h := wq_in_ z5 h
      refine wq_iconst hC (v := 0) dX7_isOf_33 (by decide) ?_
      have h := Option.some.inj h
      subst h
      exact wq_zret hC (b := false) dX7_isOf_34 (by decide) K.1 K.2
    · have h := wq_ip z5 h
      refine wq_iconst hC (v := 1) dX7_isOf_29 (by decide) ?_
      refine wq_goto hC dX7_isOf_30 (tgt := 34) (by decide) ?_
      have h := Option.some.inj h
      subst h
      exact wq_zret hC (b := true) dX7_isOf_34 (by decide) K.1 K.2
def fX7_isOf (x0 : Int32) (x1 : Int32) (M : wq_M) : Option Bool :=
  (if x1 = 0 then
    some true
  else
    (if x0 = x1 then
      some true
    else
      (if x1 = 1 then
        (if x0 < 4 then
          some true
        else
          fX7_isOf_J19 x0 x1 M)
      else
        fX7_isOf_J19 x0 x1 M)))
set_option maxHeartbeats 4000000 in
set_option maxRecDepth 100000 in
theorem ctX7_isOf {l : Launch} {E : wq_E} {d : Nat} (hd0 : 0 ≤ d) {x0 : Int32} {x1 : Int32} {M : wq_M} {r : Bool}  (h : fX7_isOf x0 x1 M = some r) : wq_ct l E wq_yR yX7_isOf cX7_isOf 2 (some .boolean) d [.int x0, .int x1] M (some (.int (wq_b r))) M := by
  refine wq_ent (own := "WellPipesModel") (lv0 := [some (.int x0), some (.int x1)]) (by decide +kernel) rfl (Nat.le_of_ble_eq_true rfl) rfl (fun g h1 h2 hC => ?_)
  have K : wq_kb g M r := ⟨h1, h2⟩
  unfold fX7_isOf at h
  refine wq_iload_n hC dX7_isOf_0 (i := 1) rfl rfl ?_
  refine wq_if_eq hC dX7_isOf_1 (tgt := 29) (by decide) (fun z1 => ?_) (fun z1 => ?_)
  · have h := wq_ip z1 h
    refine wq_iconst hC (v := 1) dX7_isOf_29 (by decide) ?_
    refine wq_goto hC dX7_isOf_30 (tgt := 34) (by decide) ?_
    have h := Option.some.inj h
    subst h
    exact wq_zret hC (b := true) dX7_isOf_34 (by decide) K.1 K.2
  · have h := wq_in_ z1 h
    refine wq_iload_n hC dX7_isOf_4 (i := 0) rfl rfl ?_
    refine wq_iload_n hC dX7_isOf_5 (i := 1) rfl rfl ?_
    refine wq_icmp_eq hC dX7_isOf_6 (tgt := 29) (by decide) (fun z2 => ?_) (fun z2 => ?_)
    · have h := wq_ip z2 h
      refine wq_iconst hC (v := 1) dX7_isOf_29 (by decide) ?_
      refine wq_goto hC dX7_isOf_30 (tgt := 34) (by decide) ?_
      have h := Option.some.inj h
      subst h
      exact wq_zret hC (b := true) dX7_isOf_34 (by decide) K.1 K.2
    · have h := wq_in_ z2 h
      refine wq_iload_n hC dX7_isOf_9 (i := 1) rfl rfl ?_
      refine wq_iconst hC (v := 1) dX7_isOf_10 (by decide) ?_
      refine wq_icmp_ne hC dX7_isOf_11 (tgt := 19) (by decide) (fun z3 => ?_) (fun z3 => ?_)
      · have h := wq_in_ z3 h
        exact gX7_isOf_J19 hC hd0 x0 x1 M  h K
      · have h := wq_ip z3 h
        refine wq_iload_n hC dX7_isOf_14 (i := 0) rfl rfl ?_
        refine wq_iconst hC (v := 4) dX7_isOf_15 (by decide) ?_
        refine wq_icmp_lt hC dX7_isOf_16 (tgt := 29) (by decide) (fun z6 => ?_) (fun z6 => ?_)
        · have h := wq_ip z6 h
          refine wq_iconst hC (v := 1) dX7_isOf_29 (by decide) ?_
          refine wq_goto hC dX7_isOf_30 (tgt := 34) (by decide) ?_
          have h := Option.some.inj h
          subst h
          exact wq_zret hC (b := true) dX7_isOf_34 (by decide) K.1 K.2
        · have h := wq_in_ z6 h
          exact gX7_isOf_J19 hC hd0 x0 x1 M  h K
theorem npX7_kind : yX7_kind.cls ≠ "java/lang/invoke/MethodHandle" ∧ yX7_kind.cls ≠ "java/lang/invoke/VarHandle" ∧ (parseMethodDescriptor yX7_kind.desc).map (fun d => d.parameters.length) = some 1 := by decide +kernel
def fX7_kind (x1 : Int32) (M : wq_M) : Option (Int32 × wq_M) :=
  (fX7_isGrade x1 (wq_st M 0 0 0)).bind fun r1 => (if r1 = true then
    (fX7_of 4 x1 0 (wq_st M 0 0 0)).bind fun r4 => some (r4, (wq_st M 0 0 0))
  else
    some ((-1000001), (wq_st M 0 0 0)))
set_option maxHeartbeats 4000000 in
set_option maxRecDepth 100000 in
theorem ctX7_kind {l : Launch} {E : wq_E} {d : Nat} (hd0 : 2 ≤ d) {x1 : Int32} {M : wq_M} {r : (Int32 × wq_M)}  (h : fX7_kind x1 M = some r) : wq_ct l E wq_yR yX7_kind cX7_kind 2 (some .int) d [.ref (E.2.1 0), .int x1] M (some (.int r.1)) r.2 := by
  refine wq_ent (own := "WellPipesModel") (lv0 := [some (.ref (E.2.1 0)), some (.int x1)]) (by decide +kernel) rfl (Nat.le_of_ble_eq_true rfl) rfl (fun g h1 h2 hC => ?_)
  have K : wq_kI g r := ⟨h1, h2⟩
  unfold fX7_kind at h
  refine wq_aload_n hC dX7_kind_0 (i := 0) rfl rfl ?_
  refine wq_iconst hC (v := 0) dX7_kind_1 (by decide) ?_
  refine pf_7_0 hC oR_0 tw_718 dX7_kind_2 ?_
  refine wq_aload_n hC dX7_kind_5 (i := 0) rfl rfl ?_
  refine wq_iload_n hC dX7_kind_6 (i := 1) rfl rfl ?_
  obtain ⟨r1, hc2, h⟩ := wq_ob h
  refine cv_7 hC (ctX7_isGrade (d := d - 1) (by omega)  hc2) (by omega) (by decide) oR_0 rfl rfl npX7_isGrade tw_899 tw_901 tw_34 tw_902 (st := []) (Nat.le_of_ble_eq_true rfl) rfl dX7_kind_7 (st1 := [.int (wq_b r1)]) rfl ?_
  refine wq_bif_eq hC dX7_kind_10 (tgt := 25) (by decide) (fun z3 => ?_) (fun z3 => ?_)
  · have h := wq_in_ z3 h
    refine wq_ldc hC (v := (-1000001)) tw_810 dX7_kind_25 ?_
    have h := Option.some.inj h
    subst h
    exact wq_iret hC dX7_kind_27 K.1 K.2
  · have h := wq_ip z3 h
    refine wq_aload_n hC dX7_kind_13 (i := 0) rfl rfl ?_
    refine gf_7 hC oR_0 5 (.ref (E.2.1 4)) (by decide) rfl tw_723 dX7_kind_14 ?_
    refine wq_iload_n hC dX7_kind_17 (i := 1) rfl rfl ?_
    refine wq_iconst hC (v := 0) dX7_kind_18 (by decide) ?_
    obtain ⟨r4, hc5, h⟩ := wq_ob h
    refine wq_callS hC (ctX7_of (d := d - 1) (by omega) aR_4 hc5) (by omega) (by decide) rfl npX7_of tw_932 tw_933 tw_58 tw_934 (st := []) (Nat.le_of_ble_eq_true rfl) rfl dX7_kind_19 (st1 := [.int r4]) rfl ?_
    refine wq_goto hC dX7_kind_22 (tgt := 27) (by decide) ?_
    have h := Option.some.inj h
    subst h
    exact wq_iret hC dX7_kind_27 K.1 K.2
theorem npX7_as : yX7_as.cls ≠ "java/lang/invoke/MethodHandle" ∧ yX7_as.cls ≠ "java/lang/invoke/VarHandle" ∧ (parseMethodDescriptor yX7_as.desc).map (fun d => d.parameters.length) = some 2 := by decide +kernel
def fX7_as (x1 : Int32) (x2 : Int32) (M : wq_M) : Option (Int32 × wq_M) :=
  (fX7_isGrade x1 (wq_st M 0 0 0)).bind fun r1 => (if r1 = true then
    (fX7_in x2.toInt64 (0 : Int64) (5 : Int64) (wq_st M 0 0 0)).bind fun r4 => (if r4 = true then
      (fX7_of 4 x1 0 (wq_st (wq_st M 0 0 0) 0 1 0)).bind fun r7 => (fX7_isOf r7 x2 (wq_st (wq_st M 0 0 0) 0 1 0)).bind fun r9 => (if r9 = true then
        some (x1, (wq_st (wq_st M 0 0 0) 0 1 0))
      else
        (fX7_finding 3 (wq_st (wq_st M 0 0 0) 0 1 0)).bind fun r12 => some (r12.1, r12.2))
    else
      some ((-1000001), (wq_st M 0 0 0)))
  else
    some ((-1000001), (wq_st M 0 0 0)))
set_option maxHeartbeats 4000000 in
set_option maxRecDepth 100000 in
theorem ctX7_as {l : Launch} {E : wq_E} {d : Nat} (hd0 : 2 ≤ d) {x1 : Int32} {x2 : Int32} {M : wq_M} {r : (Int32 × wq_M)}  (h : fX7_as x1 x2 M = some r) : wq_ct l E wq_yR yX7_as cX7_as 3 (some .int) d [.ref (E.2.1 0), .int x1, .int x2] M (some (.int r.1)) r.2 := by
  refine wq_ent (own := "WellPipesModel") (lv0 := [some (.ref (E.2.1 0)), some (.int x1), some (.int x2)]) (by decide +kernel) rfl (Nat.le_of_ble_eq_true rfl) rfl (fun g h1 h2 hC => ?_)
  have K : wq_kI g r := ⟨h1, h2⟩
  unfold fX7_as at h
  refine wq_aload_n hC dX7_as_0 (i := 0) rfl rfl ?_
  refine wq_iconst hC (v := 0) dX7_as_1 (by decide) ?_
  refine pf_7_0 hC oR_0 tw_718 dX7_as_2 ?_
  refine wq_aload_n hC dX7_as_5 (i := 0) rfl rfl ?_
  refine wq_iload_n hC dX7_as_6 (i := 1) rfl rfl ?_
  obtain ⟨r1, hc2, h⟩ := wq_ob h
  refine cv_7 hC (ctX7_isGrade (d := d - 1) (by omega)  hc2) (by omega) (by decide) oR_0 rfl rfl npX7_isGrade tw_899 tw_901 tw_34 tw_902 (st := []) (Nat.le_of_ble_eq_true rfl) rfl dX7_as_7 (st1 := [.int (wq_b r1)]) rfl ?_
  refine wq_bif_eq hC dX7_as_10 (tgt := 25) (by decide) (fun z3 => ?_) (fun z3 => ?_)
  · have h := wq_in_ z3 h
    refine wq_ldc hC (v := (-1000001)) tw_810 dX7_as_25 ?_
    have h := Option.some.inj h
    subst h
    exact wq_iret hC dX7_as_27 K.1 K.2
  · have h := wq_ip z3 h
    refine wq_iload_n hC dX7_as_13 (i := 2) rfl rfl ?_
    refine wq_i2l hC dX7_as_14 ?_
    refine wq_lconst hC (v := 0) dX7_as_15 (by decide) ?_
    refine wq_ldc2 hC (v := (5 : Int64)) tw_1076 dX7_as_16 ?_
    obtain ⟨r4, hc5, h⟩ := wq_ob h
    refine wq_callS hC (ctX7_in (d := d - 1) (by omega)  hc5) (by omega) (by decide) rfl npX7_in tw_806 tw_807 tw_58 tw_808 (st := []) (Nat.le_of_ble_eq_true rfl) rfl dX7_as_19 (st1 := [.int (wq_b r4)]) rfl ?_
    refine wq_bif_ne hC dX7_as_22 (tgt := 28) (by decide) (fun z6 => ?_) (fun z6 => ?_)
    · have h := wq_ip z6 h
      refine wq_aload_n hC dX7_as_28 (i := 0) rfl rfl ?_
      refine wq_iconst hC (v := 0) dX7_as_29 (by decide) ?_
      refine pf_7_1 hC oR_0 tw_719 dX7_as_30 ?_
      refine wq_aload_n hC dX7_as_33 (i := 0) rfl rfl ?_
      refine gf_7 hC oR_0 5 (.ref (E.2.1 4)) (by decide) rfl tw_723 dX7_as_34 ?_
      refine wq_iload_n hC dX7_as_37 (i := 1) rfl rfl ?_
      refine wq_iconst hC (v := 0) dX7_as_38 (by decide) ?_
      obtain ⟨r7, hc8, h⟩ := wq_ob h
      refine wq_callS hC (ctX7_of (d := d - 1) (by omega) aR_4 hc8) (by omega) (by decide) rfl npX7_of tw_932 tw_933 tw_58 tw_934 (st := []) (Nat.le_of_ble_eq_true rfl) rfl dX7_as_39 (st1 := [.int r7]) rfl ?_
      refine wq_iload_n hC dX7_as_42 (i := 2) rfl rfl ?_
      obtain ⟨r9, hc10, h⟩ := wq_ob h
      refine wq_callS hC (ctX7_isOf (d := d - 1) (by omega)  hc10) (by omega) (by decide) rfl npX7_isOf tw_1095 tw_1096 tw_58 tw_1097 (st := []) (Nat.le_of_ble_eq_true rfl) rfl dX7_as_43 (st1 := [.int (wq_b r9)]) rfl ?_
      refine wq_bif_eq hC dX7_as_46 (tgt := 53) (by decide) (fun z11 => ?_) (fun z11 => ?_)
      · have h := wq_in_ z11 h
        refine wq_aload_n hC dX7_as_53 (i := 0) rfl rfl ?_
        refine wq_iconst hC (v := 3) dX7_as_54 (by decide) ?_
        obtain ⟨r12, hc13, h⟩ := wq_ob h
        refine cv_7 hC (ctX7_finding (d := d - 1) (by omega)  hc13) (by omega) (by decide) oR_0 rfl rfl npX7_finding tw_811 tw_813 tw_22 tw_814 (st := []) (Nat.le_of_ble_eq_true rfl) rfl dX7_as_55 (st1 := [.int r12.1]) rfl ?_
        have h := Option.some.inj h
        subst h
        exact wq_iret hC dX7_as_58 K.1 K.2
      · have h := wq_ip z11 h
        refine wq_iload_n hC dX7_as_49 (i := 1) rfl rfl ?_
        refine wq_goto hC dX7_as_50 (tgt := 58) (by decide) ?_
        have h := Option.some.inj h
        subst h
        exact wq_iret hC dX7_as_58 K.1 K.2
    · have h := wq_in_ z6 h
      refine wq_ldc hC (v := (-1000001)) tw_810 dX7_as_25 ?_
      have h := Option.some.inj h
      subst h
      exact wq_iret hC dX7_as_27 K.1 K.2
theorem npX7_began : yX7_began.cls ≠ "java/lang/invoke/MethodHandle" ∧ yX7_began.cls ≠ "java/lang/invoke/VarHandle" ∧ (parseMethodDescriptor yX7_began.desc).map (fun d => d.parameters.length) = some 1 := by decide +kernel
def fX7_began (x1 : Int32) (M : wq_M) : Option wq_M :=
  (if 16 ≤ (M.1 0 25) then
    some M
  else
    if wq_in (M.1 0 25) 16 then some (wq_st (wq_st M 14 (M.1 0 25).toNatClampNeg x1) 0 25 (((wq_st M 14 (M.1 0 25).toNatClampNeg x1).1 0 25) + 1)) else none)
set_option maxHeartbeats 4000000 in
set_option maxRecDepth 100000 in
theorem ctX7_began {l : Launch} {E : wq_E} {d : Nat} (hd0 : 0 ≤ d) {x1 : Int32} {M : wq_M} {r : wq_M}  (h : fX7_began x1 M = some r) : wq_ct l E wq_yR yX7_began cX7_began 2 (none) d [.ref (E.2.1 0), .int x1] M (none) r := by
  refine wq_ent (own := "WellPipesModel") (lv0 := [some (.ref (E.2.1 0)), some (.int x1)]) (by decide +kernel) rfl (Nat.le_of_ble_eq_true rfl) rfl (fun g h1 h2 hC => ?_)
  have K : wq_kV g r := ⟨h1, h2⟩
  unfold fX7_began at h
  refine wq_aload_n hC dX7_began_0 (i := 0) rfl rfl ?_
  refine gf_7 hC oR_0 25 (.int (M.1 0 25)) (by decide) rfl tw_743 dX7_began_1 ?_
  refine wq_bipush hC (v := 16) dX7_began_4 (by decide) ?_
  refine wq_icmp_ge hC dX7_began_6 (tgt := 29) (by decide) (fun z1 => ?_) (fun z1 => ?_)
  · have h := wq_ip z1 h
    have h := Option.some.inj h
    subst h
    exact wq_vret hC dX7_began_29 K.1 K.2
  · have h := wq_in_ z1 h
    refine wq_aload_n hC dX7_began_9 (i := 0) rfl rfl ?_
    refine gf_7 hC oR_0 24 (.ref (E.2.1 14)) (by decide) rfl tw_742 dX7_began_10 ?_
    refine wq_aload_n hC dX7_began_13 (i := 0) rfl rfl ?_
    refine gf_7 hC oR_0 25 (.int (M.1 0 25)) (by decide) rfl tw_743 dX7_began_14 ?_
    refine wq_iload_n hC dX7_began_17 (i := 1) rfl rfl ?_
    obtain ⟨z2, h⟩ := wq_ii h
    refine wq_ast hC aR_14 z2 dX7_began_18 ?_
    refine wq_aload_n hC dX7_began_19 (i := 0) rfl rfl ?_
    refine wq_dup hC dX7_began_20 rfl ?_
    refine gf_7 hC oR_0 25 (.int ((wq_st M 14 (M.1 0 25).toNatClampNeg x1).1 0 25)) (by decide) rfl tw_743 dX7_began_21 ?_
    refine wq_iconst hC (v := 1) dX7_began_24 (by decide) ?_
    refine wq_iadd hC dX7_began_25 ?_
    refine pf_7_25 hC oR_0 tw_743 dX7_began_26 ?_
    have h := Option.some.inj h
    subst h
    exact wq_vret hC dX7_began_29 K.1 K.2
theorem npX7_plainSize : yX7_plainSize.cls ≠ "java/lang/invoke/MethodHandle" ∧ yX7_plainSize.cls ≠ "java/lang/invoke/VarHandle" ∧ (parseMethodDescriptor yX7_plainSize.desc).map (fun d => d.parameters.length) = some 1 := by decide +kernel
def fX7_plainSize (x1 : Int32) (M : wq_M) : Option (Int32 × wq_M) :=
  (fX7_began 10 M).bind fun r1 => (fX7_of 4 x1 5 r1).bind fun r3 => some (r3, r1)
set_option maxHeartbeats 4000000 in
set_option maxRecDepth 100000 in
theorem ctX7_plainSize {l : Launch} {E : wq_E} {d : Nat} (hd0 : 1 ≤ d) {x1 : Int32} {M : wq_M} {r : (Int32 × wq_M)}  (h : fX7_plainSize x1 M = some r) : wq_ct l E wq_yR yX7_plainSize cX7_plainSize 2 (some .int) d [.ref (E.2.1 0), .int x1] M (some (.int r.1)) r.2 := by
  refine wq_ent (own := "WellPipesModel") (lv0 := [some (.ref (E.2.1 0)), some (.int x1)]) (by decide +kernel) rfl (Nat.le_of_ble_eq_true rfl) rfl (fun g h1 h2 hC => ?_)
  have K : wq_kI g r := ⟨h1, h2⟩
  unfold fX7_plainSize at h
  refine wq_aload_n hC dX7_plainSize_0 (i := 0) rfl rfl ?_
  refine wq_bipush hC (v := 10) dX7_plainSize_1 (by decide) ?_
  obtain ⟨r1, hc2, h⟩ := wq_ob h
  refine cv_7 hC (ctX7_began (d := d - 1) (by omega)  hc2) (by omega) (by decide) oR_0 rfl rfl npX7_began tw_1110 tw_1112 tw_47 tw_1113 (st := []) (Nat.le_of_ble_eq_true rfl) rfl dX7_plainSize_3 (st1 := []) rfl ?_
  refine wq_aload_n hC dX7_plainSize_6 (i := 0) rfl rfl ?_
  refine gf_7 hC oR_0 5 (.ref (E.2.1 4)) (by decide) rfl tw_723 dX7_plainSize_7 ?_
  refine wq_iload_n hC dX7_plainSize_10 (i := 1) rfl rfl ?_
  refine wq_iconst hC (v := 5) dX7_plainSize_11 (by decide) ?_
  obtain ⟨r3, hc4, h⟩ := wq_ob h
  refine wq_callS hC (ctX7_of (d := d - 1) (by omega) aR_4 hc4) (by omega) (by decide) rfl npX7_of tw_932 tw_933 tw_58 tw_934 (st := []) (Nat.le_of_ble_eq_true rfl) rfl dX7_plainSize_12 (st1 := [.int r3]) rfl ?_
  have h := Option.some.inj h
  subst h
  exact wq_iret hC dX7_plainSize_15 K.1 K.2
theorem npX7_thickSize : yX7_thickSize.cls ≠ "java/lang/invoke/MethodHandle" ∧ yX7_thickSize.cls ≠ "java/lang/invoke/VarHandle" ∧ (parseMethodDescriptor yX7_thickSize.desc).map (fun d => d.parameters.length) = some 1 := by decide +kernel
def fX7_thickSize_J29 (x1 : Int32) (x2 : Int32) (M : wq_M) : Option (Int32 × wq_M) :=
  (fX7_began 13 M).bind fun r5 => (fX7_plainSize x1 r5).bind fun r7 => (if x2 = 0 then
    some ((r7.1 - 100), r7.2)
  else
    some ((2 * (r7.1 - 100)), r7.2))
set_option maxHeartbeats 4000000 in
set_option maxRecDepth 100000 in
theorem gX7_thickSize_J29 {g : wq_G} {E : wq_E} {d : Nat} (hC : wq_C g E wq_yR cX7_thickSize 4 "WellPipesModel" (some .int) d) (hd0 : 2 ≤ d) (x1 : Int32) (x2 : Int32) (M : wq_M)  {x : (Int32 × wq_M)} (h : fX7_thickSize_J29 x1 x2 M = some x) (K : (wq_kI g) x) : wq_g g E wq_yR 4 29 [some (.ref (E.2.1 0)), some (.int x1), some (.int x2), none] [] M := by
  unfold fX7_thickSize_J29 at h
  refine wq_aload_n hC dX7_thickSize_29 (i := 0) rfl rfl ?_
  refine wq_bipush hC (v := 13) dX7_thickSize_30 (by decide) ?_
  obtain ⟨r5, hc6, h⟩ := wq_ob h
  refine cv_7 hC (ctX7_began (d := d - 1) (by omega)  hc6) (by omega) (by decide) oR_0 rfl rfl npX7_began tw_1110 tw_1112 tw_47 tw_1113 (st := []) (Nat.le_of_ble_eq_true rfl) rfl dX7_thickSize_32 (st1 := []) rfl ?_
  refine wq_aload_n hC dX7_thickSize_35 (i := 0) rfl rfl ?_
  refine wq_iload_n hC dX7_thickSize_36 (i := 1) rfl rfl ?_
  obtain ⟨r7, hc8, h⟩ := wq_ob h
  refine cv_7 hC (ctX7_plainSize (d := d - 1) (by omega)  hc8) (by omega) (by decide) oR_0 rfl rfl npX7_plainSize tw_1114 tw_1116 tw_48 tw_1117 (st := []) (Nat.le_of_ble_eq_true rfl) rfl dX7_thickSize_37 (st1 := [.int r7.1]) rfl ?_
  refine wq_bipush hC (v := 100) dX7_thickSize_40 (by decide) ?_
  refine wq_isub hC dX7_thickSize_42 ?_
  refine wq_istore_n hC dX7_thickSize_43 (i := 3) (lv' := [some (.ref (E.2.1 0)), some (.int x1), some (.int x2), some (.int (r7.1 - 100))]) rfl (by decide) rfl ?_
  refine wq_iload_n hC dX7_thickSize_44 (i := 2) rfl rfl ?_
  refine wq_if_eq hC dX7_thickSize_45 (tgt := 54) (by decide) (fun z9 => ?_) (fun z9 => ?_)
  · have h := wq_ip z9 h
    refine wq_iload_n hC dX7_thickSize_54 (i := 3) rfl rfl ?_
    have h := Option.some.inj h
    subst h
    exact wq_iret hC dX7_thickSize_55 K.1 K.2
  · have h := wq_in_ z9 h
    refine wq_iconst hC (v := 2) dX7_thickSize_48 (by decide) ?_
    refine wq_iload_n hC dX7_thickSize_49 (i := 3) rfl rfl ?_
    refine wq_imul hC dX7_thickSize_50 ?_
    refine wq_goto hC dX7_thickSize_51 (tgt := 55) (by decide) ?_
    have h := Option.some.inj h
    subst h
    exact wq_iret hC dX7_thickSize_55 K.1 K.2
def fX7_thickSize_J18 (x1 : Int32) (y0 : Int32) (M : wq_M) : Option (Int32 × wq_M) :=
  (if y0 = 0 then
    fX7_thickSize_J29 x1 y0 M
  else
    (fX7_began 14 M).bind fun r10 => fX7_thickSize_J29 x1 y0 r10)
set_option maxHeartbeats 4000000 in
set_option maxRecDepth 100000 in
theorem gX7_thickSize_J18 {g : wq_G} {E : wq_E} {d : Nat} (hC : wq_C g E wq_yR cX7_thickSize 4 "WellPipesModel" (some .int) d) (hd0 : 2 ≤ d) (x1 : Int32) (y0 : Int32) (M : wq_M)  {x : (Int32 × wq_M)} (h : fX7_thickSize_J18 x1 y0 M = some x) (K : (wq_kI g) x) : wq_g g E wq_yR 4 18 [some (.ref (E.2.1 0)), some (.int x1), none, none] [.int y0] M := by
  unfold fX7_thickSize_J18 at h
  refine wq_istore_n hC dX7_thickSize_18 (i := 2) (lv' := [some (.ref (E.2.1 0)), some (.int x1), some (.int y0), none]) rfl (by decide) rfl ?_
  refine wq_iload_n hC dX7_thickSize_19 (i := 2) rfl rfl ?_
  refine wq_if_eq hC dX7_thickSize_20 (tgt := 29) (by decide) (fun z4 => ?_) (fun z4 => ?_)
  · have h := wq_ip z4 h
    exact gX7_thickSize_J29 hC hd0 x1 y0 M  h K
  · have h := wq_in_ z4 h
    refine wq_aload_n hC dX7_thickSize_23 (i := 0) rfl rfl ?_
    refine wq_bipush hC (v := 14) dX7_thickSize_24 (by decide) ?_
    obtain ⟨r10, hc11, h⟩ := wq_ob h
    refine cv_7 hC (ctX7_began (d := d - 1) (by omega)  hc11) (by omega) (by decide) oR_0 rfl rfl npX7_began tw_1110 tw_1112 tw_47 tw_1113 (st := []) (Nat.le_of_ble_eq_true rfl) rfl dX7_thickSize_26 (st1 := []) rfl ?_
    exact gX7_thickSize_J29 hC hd0 x1 y0 r10  h K
def fX7_thickSize (x1 : Int32) (M : wq_M) : Option (Int32 × wq_M) :=
  (fX7_of 4 x1 0 M).bind fun r1 => (if r1 = 5 then
    fX7_thickSize_J18 x1 1 M
  else
    fX7_thickSize_J18 x1 0 M)
set_option maxHeartbeats 4000000 in
set_option maxRecDepth 100000 in
theorem ctX7_thickSize {l : Launch} {E : wq_E} {d : Nat} (hd0 : 2 ≤ d) {x1 : Int32} {M : wq_M} {r : (Int32 × wq_M)}  (h : fX7_thickSize x1 M = some r) : wq_ct l E wq_yR yX7_thickSize cX7_thickSize 4 (some .int) d [.ref (E.2.1 0), .int x1] M (some (.int r.1)) r.2 := by
  refine wq_ent (own := "WellPipesModel") (lv0 := [some (.ref (E.2.1 0)), some (.int x1), none, none]) (by decide +kernel) rfl (Nat.le_of_ble_eq_true rfl) rfl (fun g h1 h2 hC => ?_)
  have K : wq_kI g r := ⟨h1, h2⟩
  unfold fX7_thickSize at h
  refine wq_aload_n hC dX7_thickSize_0 (i := 0) rfl rfl ?_
  refine gf_7 hC oR_0 5 (.ref (E.2.1 4)) (by decide) rfl tw_723 dX7_thickSize_1 ?_
  refine wq_iload_n hC dX7_thickSize_4 (i := 1) rfl rfl ?_
  refine wq_iconst hC (v := 0) dX7_thickSize_5 (by decide) ?_
  obtain ⟨r1, hc2, h⟩ := wq_ob h
  refine wq_callS hC (ctX7_of (d := d - 1) (by omega) aR_4 hc2) (by omega) (by decide) rfl npX7_of tw_932 tw_933 tw_58 tw_934 (st := []) (Nat.le_of_ble_eq_true rfl) rfl dX7_thickSize_6 (st1 := [.int r1]) rfl ?_
  refine wq_iconst hC (v := 5) dX7_thickSize_9 (by decide) ?_
  refine wq_icmp_ne hC dX7_thickSize_10 (tgt := 17) (by decide) (fun z3 => ?_) (fun z3 => ?_)
  · have h := wq_in_ z3 h
    refine wq_iconst hC (v := 0) dX7_thickSize_17 (by decide) ?_
    exact gX7_thickSize_J18 hC hd0 x1 0 M  h K
  · have h := wq_ip z3 h
    refine wq_iconst hC (v := 1) dX7_thickSize_13 (by decide) ?_
    refine wq_goto hC dX7_thickSize_14 (tgt := 18) (by decide) ?_
    exact gX7_thickSize_J18 hC hd0 x1 1 M  h K
theorem npX7_markOf : yX7_markOf.cls ≠ "java/lang/invoke/MethodHandle" ∧ yX7_markOf.cls ≠ "java/lang/invoke/VarHandle" ∧ (parseMethodDescriptor yX7_markOf.desc).map (fun d => d.parameters.length) = some 1 := by decide +kernel
def fX7_markOf_J56 (x1 : Int32) (x2 : Int32) (M : wq_M) : Option (Int32 × wq_M) :=
  (fX7_began 21 M).bind fun r5 => (fX7_began 20 r5).bind fun r7 => (fX7_of 4 x1 4 r7).bind fun r9 => (if x2 = 1 then
    some ((x1 + r9), r7)
  else
    (if x2 = 3 then
      some (((x1 + r9) - 1000), r7)
    else
      some ((2 * (x1 + r9)), r7)))
set_option maxHeartbeats 4000000 in
set_option maxRecDepth 100000 in
theorem gX7_markOf_J56 {g : wq_G} {E : wq_E} {d : Nat} (hC : wq_C g E wq_yR cX7_markOf 4 "WellPipesModel" (some .int) d) (hd0 : 3 ≤ d) (x1 : Int32) (x2 : Int32) (M : wq_M)  {x : (Int32 × wq_M)} (h : fX7_markOf_J56 x1 x2 M = some x) (K : (wq_kI g) x) : wq_g g E wq_yR 4 56 [some (.ref (E.2.1 0)), some (.int x1), some (.int x2), none] [] M := by
  unfold fX7_markOf_J56 at h
  refine wq_aload_n hC dX7_markOf_56 (i := 0) rfl rfl ?_
  refine wq_bipush hC (v := 21) dX7_markOf_57 (by decide) ?_
  obtain ⟨r5, hc6, h⟩ := wq_ob h
  refine cv_7 hC (ctX7_began (d := d - 1) (by omega)  hc6) (by omega) (by decide) oR_0 rfl rfl npX7_began tw_1110 tw_1112 tw_47 tw_1113 (st := []) (Nat.le_of_ble_eq_true rfl) rfl dX7_markOf_59 (st1 := []) rfl ?_
  refine wq_aload_n hC dX7_markOf_62 (i := 0) rfl rfl ?_
  refine wq_bipush hC (v := 20) dX7_markOf_63 (by decide) ?_
  obtain ⟨r7, hc8, h⟩ := wq_ob h
  refine cv_7 hC (ctX7_began (d := d - 1) (by omega)  hc8) (by omega) (by decide) oR_0 rfl rfl npX7_began tw_1110 tw_1112 tw_47 tw_1113 (st := []) (Nat.le_of_ble_eq_true rfl) rfl dX7_markOf_65 (st1 := []) rfl ?_
  refine wq_iload_n hC dX7_markOf_68 (i := 1) rfl rfl ?_
  refine wq_aload_n hC dX7_markOf_69 (i := 0) rfl rfl ?_
  refine gf_7 hC oR_0 5 (.ref (E.2.1 4)) (by decide) rfl tw_723 dX7_markOf_70 ?_
  refine wq_iload_n hC dX7_markOf_73 (i := 1) rfl rfl ?_
  refine wq_iconst hC (v := 4) dX7_markOf_74 (by decide) ?_
  obtain ⟨r9, hc10, h⟩ := wq_ob h
  refine wq_callS hC (ctX7_of (d := d - 1) (by omega) aR_4 hc10) (by omega) (by decide) rfl npX7_of tw_932 tw_933 tw_58 tw_934 (st := [.int x1]) (Nat.le_of_ble_eq_true rfl) rfl dX7_markOf_75 (st1 := [.int r9, .int x1]) rfl ?_
  refine wq_iadd hC dX7_markOf_78 ?_
  refine wq_istore_n hC dX7_markOf_79 (i := 3) (lv' := [some (.ref (E.2.1 0)), some (.int x1), some (.int x2), some (.int (x1 + r9))]) rfl (by decide) rfl ?_
  refine wq_iload_n hC dX7_markOf_80 (i := 2) rfl rfl ?_
  refine wq_iconst hC (v := 1) dX7_markOf_81 (by decide) ?_
  refine wq_icmp_ne hC dX7_markOf_82 (tgt := 89) (by decide) (fun z11 => ?_) (fun z11 => ?_)
  · have h := wq_in_ z11 h
    refine wq_iload_n hC dX7_markOf_89 (i := 2) rfl rfl ?_
    refine wq_iconst hC (v := 3) dX7_markOf_90 (by decide) ?_
    refine wq_icmp_ne hC dX7_markOf_91 (tgt := 102) (by decide) (fun z12 => ?_) (fun z12 => ?_)
    · have h := wq_in_ z12 h
      refine wq_iconst hC (v := 2) dX7_markOf_102 (by decide) ?_
      refine wq_iload_n hC dX7_markOf_103 (i := 3) rfl rfl ?_
      refine wq_imul hC dX7_markOf_104 ?_
      have h := Option.some.inj h
      subst h
      exact wq_iret hC dX7_markOf_105 K.1 K.2
    · have h := wq_ip z12 h
      refine wq_iload_n hC dX7_markOf_94 (i := 3) rfl rfl ?_
      refine wq_sipush hC (v := 1000) dX7_markOf_95 (by decide) ?_
      refine wq_isub hC dX7_markOf_98 ?_
      refine wq_goto hC dX7_markOf_99 (tgt := 105) (by decide) ?_
      have h := Option.some.inj h
      subst h
      exact wq_iret hC dX7_markOf_105 K.1 K.2
  · have h := wq_ip z11 h
    refine wq_iload_n hC dX7_markOf_85 (i := 3) rfl rfl ?_
    refine wq_goto hC dX7_markOf_86 (tgt := 105) (by decide) ?_
    have h := Option.some.inj h
    subst h
    exact wq_iret hC dX7_markOf_105 K.1 K.2
def fX7_markOf_J53 (x1 : Int32) (x2 : Int32) (y0 : Int32) (M : wq_M) : Option (Int32 × wq_M) :=
  (fX7_began y0 M).bind fun r14 => fX7_markOf_J56 x1 x2 r14
set_option maxHeartbeats 4000000 in
set_option maxRecDepth 100000 in
theorem gX7_markOf_J53 {g : wq_G} {E : wq_E} {d : Nat} (hC : wq_C g E wq_yR cX7_markOf 4 "WellPipesModel" (some .int) d) (hd0 : 3 ≤ d) (x1 : Int32) (x2 : Int32) (y0 : Int32) (M : wq_M)  {x : (Int32 × wq_M)} (h : fX7_markOf_J53 x1 x2 y0 M = some x) (K : (wq_kI g) x) : wq_g g E wq_yR 4 53 [some (.ref (E.2.1 0)), some (.int x1), some (.int x2), none] [.int y0, .ref (E.2.1 0)] M := by
  unfold fX7_markOf_J53 at h
  obtain ⟨r14, hc15, h⟩ := wq_ob h
  refine cv_7 hC (ctX7_began (d := d - 1) (by omega)  hc15) (by omega) (by decide) oR_0 rfl rfl npX7_began tw_1110 tw_1112 tw_47 tw_1113 (st := []) (Nat.le_of_ble_eq_true rfl) rfl dX7_markOf_53 (st1 := []) rfl ?_
  exact gX7_markOf_J56 hC hd0 x1 x2 r14  h K
def fX7_markOf (x1 : Int32) (M : wq_M) : Option (Int32 × wq_M) :=
  (fX7_of 4 x1 0 M).bind fun r1 => (if r1 < 4 then
    (if r1 = 1 then
      fX7_markOf_J56 x1 r1 M
    else
      (if r1 = 3 then
        fX7_markOf_J53 x1 r1 22 M
      else
        fX7_markOf_J53 x1 r1 24 M))
  else
    (fX7_began 23 M).bind fun r16 => (fX7_began 20 r16).bind fun r18 => (fX7_thickSize x1 r18).bind fun r20 => some ((x1 - r20.1), r20.2))
set_option maxHeartbeats 4000000 in
set_option maxRecDepth 100000 in
theorem ctX7_markOf {l : Launch} {E : wq_E} {d : Nat} (hd0 : 3 ≤ d) {x1 : Int32} {M : wq_M} {r : (Int32 × wq_M)}  (h : fX7_markOf x1 M = some r) : wq_ct l E wq_yR yX7_markOf cX7_markOf 4 (some .int) d [.ref (E.2.1 0), .int x1] M (some (.int r.1)) r.2 := by
  refine wq_ent (own := "WellPipesModel") (lv0 := [some (.ref (E.2.1 0)), some (.int x1), none, none]) (by decide +kernel) rfl (Nat.le_of_ble_eq_true rfl) rfl (fun g h1 h2 hC => ?_)
  have K : wq_kI g r := ⟨h1, h2⟩
  unfold fX7_markOf at h
  refine wq_aload_n hC dX7_markOf_0 (i := 0) rfl rfl ?_
  refine gf_7 hC oR_0 5 (.ref (E.2.1 4)) (by decide) rfl tw_723 dX7_markOf_1 ?_
  refine wq_iload_n hC dX7_markOf_4 (i := 1) rfl rfl ?_
  refine wq_iconst hC (v := 0) dX7_markOf_5 (by decide) ?_
  obtain ⟨r1, hc2, h⟩ := wq_ob h
  refine wq_callS hC (ctX7_of (d := d - 1) (by omega) aR_4 hc2) (by omega) (by decide) rfl npX7_of tw_932 tw_933 tw_58 tw_934 (st := []) (Nat.le_of_ble_eq_true rfl) rfl dX7_markOf_6 (st1 := [.int r1]) rfl ?_
  refine wq_istore_n hC dX7_markOf_9 (i := 2) (lv' := [some (.ref (E.2.1 0)), some (.int x1), some (.int r1), none]) rfl (by decide) rfl ?_
  refine wq_iload_n hC dX7_markOf_10 (i := 2) rfl rfl ?_
  refine wq_iconst hC (v := 4) dX7_markOf_11 (by decide) ?_
  refine wq_icmp_lt hC dX7_markOf_12 (tgt := 35) (by decide) (fun z3 => ?_) (fun z3 => ?_)
  · have h := wq_ip z3 h
    refine wq_iload_n hC dX7_markOf_35 (i := 2) rfl rfl ?_
    refine wq_iconst hC (v := 1) dX7_markOf_36 (by decide) ?_
    refine wq_icmp_eq hC dX7_markOf_37 (tgt := 56) (by decide) (fun z4 => ?_) (fun z4 => ?_)
    · have h := wq_ip z4 h
      exact gX7_markOf_J56 hC hd0 x1 r1 M  h K
    · have h := wq_in_ z4 h
      refine wq_aload_n hC dX7_markOf_40 (i := 0) rfl rfl ?_
      refine wq_iload_n hC dX7_markOf_41 (i := 2) rfl rfl ?_
      refine wq_iconst hC (v := 3) dX7_markOf_42 (by decide) ?_
      refine wq_icmp_ne hC dX7_markOf_43 (tgt := 51) (by decide) (fun z13 => ?_) (fun z13 => ?_)
      · have h := wq_in_ z13 h
        refine wq_bipush hC (v := 24) dX7_markOf_51 (by decide) ?_
        exact gX7_markOf_J53 hC hd0 x1 r1 24 M  h K
      · have h := wq_ip z13 h
        refine wq_bipush hC (v := 22) dX7_markOf_46 (by decide) ?_
        refine wq_goto hC dX7_markOf_48 (tgt := 53) (by decide) ?_
        exact gX7_markOf_J53 hC hd0 x1 r1 22 M  h K
  · have h := wq_in_ z3 h
    refine wq_aload_n hC dX7_markOf_15 (i := 0) rfl rfl ?_
    refine wq_bipush hC (v := 23) dX7_markOf_16 (by decide) ?_
    obtain ⟨r16, hc17, h⟩ := wq_ob h
    refine cv_7 hC (ctX7_began (d := d - 1) (by omega)  hc17) (by omega) (by decide) oR_0 rfl rfl npX7_began tw_1110 tw_1112 tw_47 tw_1113 (st := []) (Nat.le_of_ble_eq_true rfl) rfl dX7_markOf_18 (st1 := []) rfl ?_
    refine wq_aload_n hC dX7_markOf_21 (i := 0) rfl rfl ?_
    refine wq_bipush hC (v := 20) dX7_markOf_22 (by decide) ?_
    obtain ⟨r18, hc19, h⟩ := wq_ob h
    refine cv_7 hC (ctX7_began (d := d - 1) (by omega)  hc19) (by omega) (by decide) oR_0 rfl rfl npX7_began tw_1110 tw_1112 tw_47 tw_1113 (st := []) (Nat.le_of_ble_eq_true rfl) rfl dX7_markOf_24 (st1 := []) rfl ?_
    refine wq_iload_n hC dX7_markOf_27 (i := 1) rfl rfl ?_
    refine wq_aload_n hC dX7_markOf_28 (i := 0) rfl rfl ?_
    refine wq_iload_n hC dX7_markOf_29 (i := 1) rfl rfl ?_
    obtain ⟨r20, hc21, h⟩ := wq_ob h
    refine cv_7 hC (ctX7_thickSize (d := d - 1) (by omega)  hc21) (by omega) (by decide) oR_0 rfl rfl npX7_thickSize tw_1106 tw_1108 tw_46 tw_1109 (st := [.int x1]) (Nat.le_of_ble_eq_true rfl) rfl dX7_markOf_30 (st1 := [.int r20.1, .int x1]) rfl ?_
    refine wq_isub hC dX7_markOf_33 ?_
    have h := Option.some.inj h
    subst h
    exact wq_iret hC dX7_markOf_34 K.1 K.2
theorem npX7_sizeOf : yX7_sizeOf.cls ≠ "java/lang/invoke/MethodHandle" ∧ yX7_sizeOf.cls ≠ "java/lang/invoke/VarHandle" ∧ (parseMethodDescriptor yX7_sizeOf.desc).map (fun d => d.parameters.length) = some 1 := by decide +kernel
def fX7_sizeOf_J32 (x1 : Int32) (x2 : Int32) (M : wq_M) : Option (Int32 × wq_M) :=
  (fX7_began 11 M).bind fun r5 => (fX7_plainSize x1 r5).bind fun r7 => (fX7_markOf x1 r7.2).bind fun r9 => (if x2 = 2 then
    some ((-(r7.1 + r9.1)), r9.2)
  else
    some ((r7.1 + r9.1), r9.2))
set_option maxHeartbeats 4000000 in
set_option maxRecDepth 100000 in
theorem gX7_sizeOf_J32 {g : wq_G} {E : wq_E} {d : Nat} (hC : wq_C g E wq_yR cX7_sizeOf 4 "WellPipesModel" (some .int) d) (hd0 : 4 ≤ d) (x1 : Int32) (x2 : Int32) (M : wq_M)  {x : (Int32 × wq_M)} (h : fX7_sizeOf_J32 x1 x2 M = some x) (K : (wq_kI g) x) : wq_g g E wq_yR 4 32 [some (.ref (E.2.1 0)), some (.int x1), some (.int x2), none] [] M := by
  unfold fX7_sizeOf_J32 at h
  refine wq_aload_n hC dX7_sizeOf_32 (i := 0) rfl rfl ?_
  refine wq_bipush hC (v := 11) dX7_sizeOf_33 (by decide) ?_
  obtain ⟨r5, hc6, h⟩ := wq_ob h
  refine cv_7 hC (ctX7_began (d := d - 1) (by omega)  hc6) (by omega) (by decide) oR_0 rfl rfl npX7_began tw_1110 tw_1112 tw_47 tw_1113 (st := []) (Nat.le_of_ble_eq_true rfl) rfl dX7_sizeOf_35 (st1 := []) rfl ?_
  refine wq_aload_n hC dX7_sizeOf_38 (i := 0) rfl rfl ?_
  refine wq_iload_n hC dX7_sizeOf_39 (i := 1) rfl rfl ?_
  obtain ⟨r7, hc8, h⟩ := wq_ob h
  refine cv_7 hC (ctX7_plainSize (d := d - 1) (by omega)  hc8) (by omega) (by decide) oR_0 rfl rfl npX7_plainSize tw_1114 tw_1116 tw_48 tw_1117 (st := []) (Nat.le_of_ble_eq_true rfl) rfl dX7_sizeOf_40 (st1 := [.int r7.1]) rfl ?_
  refine wq_istore_n hC dX7_sizeOf_43 (i := 3) (lv' := [some (.ref (E.2.1 0)), some (.int x1), some (.int x2), some (.int r7.1)]) rfl (by decide) rfl ?_
  refine wq_iload_n hC dX7_sizeOf_44 (i := 3) rfl rfl ?_
  refine wq_aload_n hC dX7_sizeOf_45 (i := 0) rfl rfl ?_
  refine wq_iload_n hC dX7_sizeOf_46 (i := 1) rfl rfl ?_
  obtain ⟨r9, hc10, h⟩ := wq_ob h
  refine cv_7 hC (ctX7_markOf (d := d - 1) (by omega)  hc10) (by omega) (by decide) oR_0 rfl rfl npX7_markOf tw_1118 tw_1120 tw_49 tw_1121 (st := [.int r7.1]) (Nat.le_of_ble_eq_true rfl) rfl dX7_sizeOf_47 (st1 := [.int r9.1, .int r7.1]) rfl ?_
  refine wq_iadd hC dX7_sizeOf_50 ?_
  refine wq_istore_n hC dX7_sizeOf_51 (i := 3) (lv' := [some (.ref (E.2.1 0)), some (.int x1), some (.int x2), some (.int (r7.1 + r9.1))]) rfl (by decide) rfl ?_
  refine wq_iload_n hC dX7_sizeOf_52 (i := 2) rfl rfl ?_
  refine wq_iconst hC (v := 2) dX7_sizeOf_53 (by decide) ?_
  refine wq_icmp_ne hC dX7_sizeOf_54 (tgt := 62) (by decide) (fun z11 => ?_) (fun z11 => ?_)
  · have h := wq_in_ z11 h
    refine wq_iload_n hC dX7_sizeOf_62 (i := 3) rfl rfl ?_
    have h := Option.some.inj h
    subst h
    exact wq_iret hC dX7_sizeOf_63 K.1 K.2
  · have h := wq_ip z11 h
    refine wq_iload_n hC dX7_sizeOf_57 (i := 3) rfl rfl ?_
    refine wq_ineg hC dX7_sizeOf_58 ?_
    refine wq_goto hC dX7_sizeOf_59 (tgt := 63) (by decide) ?_
    have h := Option.some.inj h
    subst h
    exact wq_iret hC dX7_sizeOf_63 K.1 K.2
def fX7_sizeOf (x1 : Int32) (M : wq_M) : Option (Int32 × wq_M) :=
  (fX7_of 4 x1 0 M).bind fun r1 => (if r1 < 4 then
    (if r1 = 2 then
      (fX7_began 12 M).bind fun r12 => fX7_sizeOf_J32 x1 r1 r12
    else
      fX7_sizeOf_J32 x1 r1 M)
  else
    (fX7_thickSize x1 M).bind fun r14 => some (r14.1, r14.2))
set_option maxHeartbeats 4000000 in
set_option maxRecDepth 100000 in
theorem ctX7_sizeOf {l : Launch} {E : wq_E} {d : Nat} (hd0 : 4 ≤ d) {x1 : Int32} {M : wq_M} {r : (Int32 × wq_M)}  (h : fX7_sizeOf x1 M = some r) : wq_ct l E wq_yR yX7_sizeOf cX7_sizeOf 4 (some .int) d [.ref (E.2.1 0), .int x1] M (some (.int r.1)) r.2 := by
  refine wq_ent (own := "WellPipesModel") (lv0 := [some (.ref (E.2.1 0)), some (.int x1), none, none]) (by decide +kernel) rfl (Nat.le_of_ble_eq_true rfl) rfl (fun g h1 h2 hC => ?_)
  have K : wq_kI g r := ⟨h1, h2⟩
  unfold fX7_sizeOf at h
  refine wq_aload_n hC dX7_sizeOf_0 (i := 0) rfl rfl ?_
  refine gf_7 hC oR_0 5 (.ref (E.2.1 4)) (by decide) rfl tw_723 dX7_sizeOf_1 ?_
  refine wq_iload_n hC dX7_sizeOf_4 (i := 1) rfl rfl ?_
  refine wq_iconst hC (v := 0) dX7_sizeOf_5 (by decide) ?_
  obtain ⟨r1, hc2, h⟩ := wq_ob h
  refine wq_callS hC (ctX7_of (d := d - 1) (by omega) aR_4 hc2) (by omega) (by decide) rfl npX7_of tw_932 tw_933 tw_58 tw_934 (st := []) (Nat.le_of_ble_eq_true rfl) rfl dX7_sizeOf_6 (st1 := [.int r1]) rfl ?_
  refine wq_istore_n hC dX7_sizeOf_9 (i := 2) (lv' := [some (.ref (E.2.1 0)), some (.int x1), some (.int r1), none]) rfl (by decide) rfl ?_
  refine wq_iload_n hC dX7_sizeOf_10 (i := 2) rfl rfl ?_
  refine wq_iconst hC (v := 4) dX7_sizeOf_11 (by decide) ?_
  refine wq_icmp_lt hC dX7_sizeOf_12 (tgt := 21) (by decide) (fun z3 => ?_) (fun z3 => ?_)
  · have h := wq_ip z3 h
    refine wq_iload_n hC dX7_sizeOf_21 (i := 2) rfl rfl ?_
    refine wq_iconst hC (v := 2) dX7_sizeOf_22 (by decide) ?_
    refine wq_icmp_ne hC dX7_sizeOf_23 (tgt := 32) (by decide) (fun z4 => ?_) (fun z4 => ?_)
    · have h := wq_in_ z4 h
      exact gX7_sizeOf_J32 hC hd0 x1 r1 M  h K
    · have h := wq_ip z4 h
      refine wq_aload_n hC dX7_sizeOf_26 (i := 0) rfl rfl ?_
      refine wq_bipush hC (v := 12) dX7_sizeOf_27 (by decide) ?_
      obtain ⟨r12, hc13, h⟩ := wq_ob h
      refine cv_7 hC (ctX7_began (d := d - 1) (by omega)  hc13) (by omega) (by decide) oR_0 rfl rfl npX7_began tw_1110 tw_1112 tw_47 tw_1113 (st := []) (Nat.le_of_ble_eq_true rfl) rfl dX7_sizeOf_29 (st1 := []) rfl ?_
      exact gX7_sizeOf_J32 hC hd0 x1 r1 r12  h K
  · have h := wq_in_ z3 h
    refine wq_aload_n hC dX7_sizeOf_15 (i := 0) rfl rfl ?_
    refine wq_iload_n hC dX7_sizeOf_16 (i := 1) rfl rfl ?_
    obtain ⟨r14, hc15, h⟩ := wq_ob h
    refine cv_7 hC (ctX7_thickSize (d := d - 1) (by omega)  hc15) (by omega) (by decide) oR_0 rfl rfl npX7_thickSize tw_1106 tw_1108 tw_46 tw_1109 (st := []) (Nat.le_of_ble_eq_true rfl) rfl dX7_sizeOf_17 (st1 := [.int r14.1]) rfl ?_
    have h := Option.some.inj h
    subst h
    exact wq_iret hC dX7_sizeOf_20 K.1 K.2
theorem npX7_ask : yX7_ask.cls ≠ "java/lang/invoke/MethodHandle" ∧ yX7_ask.cls ≠ "java/lang/invoke/VarHandle" ∧ (parseMethodDescriptor yX7_ask.desc).map (fun d => d.parameters.length) = some 2 := by decide +kernel
def fX7_ask (x1 : Int32) (x2 : Int32) (M : wq_M) : Option (Int32 × wq_M) :=
  (fX7_isGrade x1 (wq_st M 0 0 0)).bind fun r1 => (if r1 = true then
    (fX7_in x2.toInt64 (0 : Int64) (1 : Int64) (wq_st M 0 0 0)).bind fun r4 => (if r4 = true then
      (if x2 = 0 then
        (fX7_sizeOf x1 (wq_st (wq_st M 0 0 0) 0 25 0)).bind fun r10 => some (r10.1, r10.2)
      else
        (fX7_markOf x1 (wq_st (wq_st M 0 0 0) 0 25 0)).bind fun r8 => some (r8.1, r8.2))
    else
      some ((-1000001), (wq_st M 0 0 0)))
  else
    some ((-1000001), (wq_st M 0 0 0)))
set_option maxHeartbeats 4000000 in
set_option maxRecDepth 100000 in
theorem ctX7_ask {l : Launch} {E : wq_E} {d : Nat} (hd0 : 5 ≤ d) {x1 : Int32} {x2 : Int32} {M : wq_M} {r : (Int32 × wq_M)}  (h : fX7_ask x1 x2 M = some r) : wq_ct l E wq_yR yX7_ask cX7_ask 3 (some .int) d [.ref (E.2.1 0), .int x1, .int x2] M (some (.int r.1)) r.2 := by
  refine wq_ent (own := "WellPipesModel") (lv0 := [some (.ref (E.2.1 0)), some (.int x1), some (.int x2)]) (by decide +kernel) rfl (Nat.le_of_ble_eq_true rfl) rfl (fun g h1 h2 hC => ?_)
  have K : wq_kI g r := ⟨h1, h2⟩
  unfold fX7_ask at h
  refine wq_aload_n hC dX7_ask_0 (i := 0) rfl rfl ?_
  refine wq_iconst hC (v := 0) dX7_ask_1 (by decide) ?_
  refine pf_7_0 hC oR_0 tw_718 dX7_ask_2 ?_
  refine wq_aload_n hC dX7_ask_5 (i := 0) rfl rfl ?_
  refine wq_iload_n hC dX7_ask_6 (i := 1) rfl rfl ?_
  obtain ⟨r1, hc2, h⟩ := wq_ob h
  refine cv_7 hC (ctX7_isGrade (d := d - 1) (by omega)  hc2) (by omega) (by decide) oR_0 rfl rfl npX7_isGrade tw_899 tw_901 tw_34 tw_902 (st := []) (Nat.le_of_ble_eq_true rfl) rfl dX7_ask_7 (st1 := [.int (wq_b r1)]) rfl ?_
  refine wq_bif_eq hC dX7_ask_10 (tgt := 23) (by decide) (fun z3 => ?_) (fun z3 => ?_)
  · have h := wq_in_ z3 h
    refine wq_ldc hC (v := (-1000001)) tw_810 dX7_ask_23 ?_
    have h := Option.some.inj h
    subst h
    exact wq_iret hC dX7_ask_25 K.1 K.2
  · have h := wq_ip z3 h
    refine wq_iload_n hC dX7_ask_13 (i := 2) rfl rfl ?_
    refine wq_i2l hC dX7_ask_14 ?_
    refine wq_lconst hC (v := 0) dX7_ask_15 (by decide) ?_
    refine wq_lconst hC (v := 1) dX7_ask_16 (by decide) ?_
    obtain ⟨r4, hc5, h⟩ := wq_ob h
    refine wq_callS hC (ctX7_in (d := d - 1) (by omega)  hc5) (by omega) (by decide) rfl npX7_in tw_806 tw_807 tw_58 tw_808 (st := []) (Nat.le_of_ble_eq_true rfl) rfl dX7_ask_17 (st1 := [.int (wq_b r4)]) rfl ?_
    refine wq_bif_ne hC dX7_ask_20 (tgt := 26) (by decide) (fun z6 => ?_) (fun z6 => ?_)
    · have h := wq_ip z6 h
      refine wq_aload_n hC dX7_ask_26 (i := 0) rfl rfl ?_
      refine wq_iconst hC (v := 0) dX7_ask_27 (by decide) ?_
      refine pf_7_25 hC oR_0 tw_743 dX7_ask_28 ?_
      refine wq_iload_n hC dX7_ask_31 (i := 2) rfl rfl ?_
      refine wq_if_ne hC dX7_ask_32 (tgt := 43) (by decide) (fun z7 => ?_) (fun z7 => ?_)
      · have h := wq_in_ z7 h
        refine wq_aload_n hC dX7_ask_43 (i := 0) rfl rfl ?_
        refine wq_iload_n hC dX7_ask_44 (i := 1) rfl rfl ?_
        obtain ⟨r8, hc9, h⟩ := wq_ob h
        refine cv_7 hC (ctX7_markOf (d := d - 1) (by omega)  hc9) (by omega) (by decide) oR_0 rfl rfl npX7_markOf tw_1118 tw_1120 tw_49 tw_1121 (st := []) (Nat.le_of_ble_eq_true rfl) rfl dX7_ask_45 (st1 := [.int r8.1]) rfl ?_
        have h := Option.some.inj h
        subst h
        exact wq_iret hC dX7_ask_48 K.1 K.2
      · have h := wq_ip z7 h
        refine wq_aload_n hC dX7_ask_35 (i := 0) rfl rfl ?_
        refine wq_iload_n hC dX7_ask_36 (i := 1) rfl rfl ?_
        obtain ⟨r10, hc11, h⟩ := wq_ob h
        refine cv_7 hC (ctX7_sizeOf (d := d - 1) (by omega)  hc11) (by omega) (by decide) oR_0 rfl rfl npX7_sizeOf tw_1102 tw_1104 tw_45 tw_1105 (st := []) (Nat.le_of_ble_eq_true rfl) rfl dX7_ask_37 (st1 := [.int r10.1]) rfl ?_
        refine wq_goto hC dX7_ask_40 (tgt := 48) (by decide) ?_
        have h := Option.some.inj h
        subst h
        exact wq_iret hC dX7_ask_48 K.1 K.2
    · have h := wq_in_ z6 h
      refine wq_ldc hC (v := (-1000001)) tw_810 dX7_ask_23 ?_
      have h := Option.some.inj h
      subst h
      exact wq_iret hC dX7_ask_25 K.1 K.2
theorem npX7_trace : yX7_trace.cls ≠ "java/lang/invoke/MethodHandle" ∧ yX7_trace.cls ≠ "java/lang/invoke/VarHandle" ∧ (parseMethodDescriptor yX7_trace.desc).map (fun d => d.parameters.length) = some 1 := by decide +kernel
def fX7_trace (x1 : Int32) (M : wq_M) : Option (Int32 × wq_M) :=
  (fX7_in x1.toInt64 (0 : Int64) ((((wq_st M 0 0 0).1 0 25) - 1).toInt64) (wq_st M 0 0 0)).bind fun r1 => (if r1 = true then
    if wq_in x1 16 then some (((wq_st M 0 0 0).1 14 x1.toNatClampNeg), (wq_st M 0 0 0)) else none
  else
    some ((-1000000), (wq_st M 0 0 0)))
set_option maxHeartbeats 4000000 in
set_option maxRecDepth 100000 in
theorem ctX7_trace {l : Launch} {E : wq_E} {d : Nat} (hd0 : 1 ≤ d) {x1 : Int32} {M : wq_M} {r : (Int32 × wq_M)}  (h : fX7_trace x1 M = some r) : wq_ct l E wq_yR yX7_trace cX7_trace 2 (some .int) d [.ref (E.2.1 0), .int x1] M (some (.int r.1)) r.2 := by
  refine wq_ent (own := "WellPipesModel") (lv0 := [some (.ref (E.2.1 0)), some (.int x1)]) (by decide +kernel) rfl (Nat.le_of_ble_eq_true rfl) rfl (fun g h1 h2 hC => ?_)
  have K : wq_kI g r := ⟨h1, h2⟩
  unfold fX7_trace at h
  refine wq_aload_n hC dX7_trace_0 (i := 0) rfl rfl ?_
  refine wq_iconst hC (v := 0) dX7_trace_1 (by decide) ?_
  refine pf_7_0 hC oR_0 tw_718 dX7_trace_2 ?_
  refine wq_iload_n hC dX7_trace_5 (i := 1) rfl rfl ?_
  refine wq_i2l hC dX7_trace_6 ?_
  refine wq_lconst hC (v := 0) dX7_trace_7 (by decide) ?_
  refine wq_aload_n hC dX7_trace_8 (i := 0) rfl rfl ?_
  refine gf_7 hC oR_0 25 (.int ((wq_st M 0 0 0).1 0 25)) (by decide) rfl tw_743 dX7_trace_9 ?_
  refine wq_iconst hC (v := 1) dX7_trace_12 (by decide) ?_
  refine wq_isub hC dX7_trace_13 ?_
  refine wq_i2l hC dX7_trace_14 ?_
  obtain ⟨r1, hc2, h⟩ := wq_ob h
  refine wq_callS hC (ctX7_in (d := d - 1) (by omega)  hc2) (by omega) (by decide) rfl npX7_in tw_806 tw_807 tw_58 tw_808 (st := []) (Nat.le_of_ble_eq_true rfl) rfl dX7_trace_15 (st1 := [.int (wq_b r1)]) rfl ?_
  refine wq_bif_eq hC dX7_trace_18 (tgt := 30) (by decide) (fun z3 => ?_) (fun z3 => ?_)
  · have h := wq_in_ z3 h
    refine wq_ldc hC (v := (-1000000)) tw_850 dX7_trace_30 ?_
    have h := Option.some.inj h
    subst h
    exact wq_iret hC dX7_trace_32 K.1 K.2
  · have h := wq_ip z3 h
    refine wq_aload_n hC dX7_trace_21 (i := 0) rfl rfl ?_
    refine gf_7 hC oR_0 24 (.ref (E.2.1 14)) (by decide) rfl tw_742 dX7_trace_22 ?_
    refine wq_iload_n hC dX7_trace_25 (i := 1) rfl rfl ?_
    obtain ⟨z4, h⟩ := wq_ii h
    refine wq_ald hC aR_14 z4 dX7_trace_26 ?_
    refine wq_goto hC dX7_trace_27 (tgt := 32) (by decide) ?_
    have h := Option.some.inj h
    subst h
    exact wq_iret hC dX7_trace_32 K.1 K.2
theorem npX7_count : yX7_count.cls ≠ "java/lang/invoke/MethodHandle" ∧ yX7_count.cls ≠ "java/lang/invoke/VarHandle" ∧ (parseMethodDescriptor yX7_count.desc).map (fun d => d.parameters.length) = some 1 := by decide +kernel
def fX7_count_L54 (M : wq_M) : (Int32 × Int32) → Option ((Int32 × Int32) ⊕ Int32) := fun s =>
  (if 8 ≤ s.2 then
    some (.inr s.1)
  else
    if wq_in s.2 8 then (if (M.1 1 s.2.toNatClampNeg) < 0 then
      some (.inl ((s.1 + 0), (s.2 + 1)))
    else
      some (.inl ((s.1 + 1), (s.2 + 1)))) else none)
set_option maxHeartbeats 4000000 in
set_option maxRecDepth 100000 in
theorem gX7_count_L54 {g : wq_G} {E : wq_E} {d : Nat} (hC : wq_C g E wq_yR cX7_count 4 "WellPipesModel" (some .int) d) (hd0 : 1 ≤ d) (M : wq_M)  : ∀ (n : Nat) (s : (Int32 × Int32)) (e : Int32), wq_lp (fX7_count_L54 M) n s = some e → (fun (e : Int32) => wq_g g E wq_yR 4 83 [none, none, some (.int e), none] [] M) e → wq_g g E wq_yR 4 54 [some (.ref (E.2.1 0)), none, some (.int s.1), some (.int s.2)] [] M := by
  refine wq_lq_ok (fun (s : (Int32 × Int32)) => wq_g g E wq_yR 4 54 [some (.ref (E.2.1 0)), none, some (.int s.1), some (.int s.2)] [] M) (fun (e : Int32) => wq_g g E wq_yR 4 83 [none, none, some (.int e), none] [] M) (fun s x h K => ?_)
  unfold fX7_count_L54 at h
  refine wq_iload_n hC dX7_count_54 (i := 3) rfl rfl ?_
  refine wq_bipush hC (v := 8) dX7_count_55 (by decide) ?_
  refine wq_icmp_ge hC dX7_count_57 (tgt := 83) (by decide) (fun z2 => ?_) (fun z2 => ?_)
  · have h := wq_ip z2 h
    have h := Option.some.inj h
    subst h
    refine wq_mask [false, false, true, false] (lv' := [none, none, some (.int s.1), none]) rfl ?_
    exact K
  · have h := wq_in_ z2 h
    refine wq_iload_n hC dX7_count_60 (i := 2) rfl rfl ?_
    refine wq_aload_n hC dX7_count_61 (i := 0) rfl rfl ?_
    refine gf_7 hC oR_0 2 (.ref (E.2.1 1)) (by decide) rfl tw_720 dX7_count_62 ?_
    refine wq_iload_n hC dX7_count_65 (i := 3) rfl rfl ?_
    obtain ⟨z3, h⟩ := wq_ii h
    refine wq_ald hC aR_1 z3 dX7_count_66 ?_
    refine wq_if_lt hC dX7_count_67 (tgt := 74) (by decide) (fun z4 => ?_) (fun z4 => ?_)
    · have h := wq_ip z4 h
      refine wq_iconst hC (v := 0) dX7_count_74 (by decide) ?_
      refine wq_iadd hC dX7_count_75 ?_
      refine wq_istore_n hC dX7_count_76 (i := 2) (lv' := [some (.ref (E.2.1 0)), none, some (.int (s.1 + 0)), some (.int s.2)]) rfl (by decide) rfl ?_
      refine wq_iinc hC (v := (s.2 + 1)) dX7_count_77 (lv' := [some (.ref (E.2.1 0)), none, some (.int (s.1 + 0)), some (.int (s.2 + 1))]) rfl rfl (by decide) rfl ?_
      refine wq_goto hC dX7_count_80 (tgt := 54) (by decide) ?_
      have h := Option.some.inj h
      subst h
      exact K
    · have h := wq_in_ z4 h
      refine wq_iconst hC (v := 1) dX7_count_70 (by decide) ?_
      refine wq_goto hC dX7_count_71 (tgt := 75) (by decide) ?_
      refine wq_iadd hC dX7_count_75 ?_
      refine wq_istore_n hC dX7_count_76 (i := 2) (lv' := [some (.ref (E.2.1 0)), none, some (.int (s.1 + 1)), some (.int s.2)]) rfl (by decide) rfl ?_
      refine wq_iinc hC (v := (s.2 + 1)) dX7_count_77 (lv' := [some (.ref (E.2.1 0)), none, some (.int (s.1 + 1)), some (.int (s.2 + 1))]) rfl rfl (by decide) rfl ?_
      refine wq_goto hC dX7_count_80 (tgt := 54) (by decide) ?_
      have h := Option.some.inj h
      subst h
      exact K
def fX7_count_L101 (M : wq_M) : (Int32 × Int32) → Option ((Int32 × Int32) ⊕ Int32) := fun s =>
  if wq_in 0 44 then (if (M.1 4 (0 : Int32).toNatClampNeg) ≤ s.2 then
    some (.inr s.1)
  else
    if wq_in (36 + s.2) 44 then (if (M.1 4 (36 + s.2).toNatClampNeg) < 0 then
      some (.inl ((s.1 + 0), (s.2 + 1)))
    else
      some (.inl ((s.1 + 1), (s.2 + 1)))) else none) else none
set_option maxHeartbeats 4000000 in
set_option maxRecDepth 100000 in
theorem gX7_count_L101 {g : wq_G} {E : wq_E} {d : Nat} (hC : wq_C g E wq_yR cX7_count 4 "WellPipesModel" (some .int) d) (hd0 : 1 ≤ d) (M : wq_M)  : ∀ (n : Nat) (s : (Int32 × Int32)) (e : Int32), wq_lp (fX7_count_L101 M) n s = some e → (fun (e : Int32) => wq_g g E wq_yR 4 137 [none, none, some (.int e), none] [] M) e → wq_g g E wq_yR 4 101 [some (.ref (E.2.1 0)), none, some (.int s.1), some (.int s.2)] [] M := by
  refine wq_lq_ok (fun (s : (Int32 × Int32)) => wq_g g E wq_yR 4 101 [some (.ref (E.2.1 0)), none, some (.int s.1), some (.int s.2)] [] M) (fun (e : Int32) => wq_g g E wq_yR 4 137 [none, none, some (.int e), none] [] M) (fun s x h K => ?_)
  unfold fX7_count_L101 at h
  refine wq_iload_n hC dX7_count_101 (i := 3) rfl rfl ?_
  refine wq_aload_n hC dX7_count_102 (i := 0) rfl rfl ?_
  refine gf_7 hC oR_0 5 (.ref (E.2.1 4)) (by decide) rfl tw_723 dX7_count_103 ?_
  refine wq_iconst hC (v := 0) dX7_count_106 (by decide) ?_
  obtain ⟨z12, h⟩ := wq_ii h
  refine wq_ald hC aR_4 z12 dX7_count_107 ?_
  refine wq_icmp_ge hC dX7_count_108 (tgt := 137) (by decide) (fun z13 => ?_) (fun z13 => ?_)
  · have h := wq_ip z13 h
    have h := Option.some.inj h
    subst h
    refine wq_mask [false, false, true, false] (lv' := [none, none, some (.int s.1), none]) rfl ?_
    exact K
  · have h := wq_in_ z13 h
    refine wq_iload_n hC dX7_count_111 (i := 2) rfl rfl ?_
    refine wq_aload_n hC dX7_count_112 (i := 0) rfl rfl ?_
    refine gf_7 hC oR_0 5 (.ref (E.2.1 4)) (by decide) rfl tw_723 dX7_count_113 ?_
    refine wq_bipush hC (v := 36) dX7_count_116 (by decide) ?_
    refine wq_iload_n hC dX7_count_118 (i := 3) rfl rfl ?_
    refine wq_iadd hC dX7_count_119 ?_
    obtain ⟨z14, h⟩ := wq_ii h
    refine wq_ald hC aR_4 z14 dX7_count_120 ?_
    refine wq_if_lt hC dX7_count_121 (tgt := 128) (by decide) (fun z15 => ?_) (fun z15 => ?_)
    · have h := wq_ip z15 h
      refine wq_iconst hC (v := 0) dX7_count_128 (by decide) ?_
      refine wq_iadd hC dX7_count_129 ?_
      refine wq_istore_n hC dX7_count_130 (i := 2) (lv' := [some (.ref (E.2.1 0)), none, some (.int (s.1 + 0)), some (.int s.2)]) rfl (by decide) rfl ?_
      refine wq_iinc hC (v := (s.2 + 1)) dX7_count_131 (lv' := [some (.ref (E.2.1 0)), none, some (.int (s.1 + 0)), some (.int (s.2 + 1))]) rfl rfl (by decide) rfl ?_
      refine wq_goto hC dX7_count_134 (tgt := 101) (by decide) ?_
      have h := Option.some.inj h
      subst h
      exact K
    · have h := wq_in_ z15 h
      refine wq_iconst hC (v := 1) dX7_count_124 (by decide) ?_
      refine wq_goto hC dX7_count_125 (tgt := 129) (by decide) ?_
      refine wq_iadd hC dX7_count_129 ?_
      refine wq_istore_n hC dX7_count_130 (i := 2) (lv' := [some (.ref (E.2.1 0)), none, some (.int (s.1 + 1)), some (.int s.2)]) rfl (by decide) rfl ?_
      refine wq_iinc hC (v := (s.2 + 1)) dX7_count_131 (lv' := [some (.ref (E.2.1 0)), none, some (.int (s.1 + 1)), some (.int (s.2 + 1))]) rfl rfl (by decide) rfl ?_
      refine wq_goto hC dX7_count_134 (tgt := 101) (by decide) ?_
      have h := Option.some.inj h
      subst h
      exact K
def fX7_count (x1 : Int32) (M : wq_M) : Option (Int32 × wq_M) :=
  (if x1 = 0 then (wq_lp (fX7_count_L54 (wq_st M 0 0 0)) wq_FU (0, 0)).bind fun e5 => some (e5, (wq_st M 0 0 0)) else if x1 = 1 then if wq_in 5 44 then some (((wq_st M 0 0 0).1 4 (5 : Int32).toNatClampNeg), (wq_st M 0 0 0)) else none else if x1 = 2 then if wq_in 0 44 then some (((wq_st M 0 0 0).1 4 (0 : Int32).toNatClampNeg), (wq_st M 0 0 0)) else none else if x1 = 3 then (wq_lp (fX7_count_L101 (wq_st M 0 0 0)) wq_FU (0, 0)).bind fun e16 => some (e16, (wq_st M 0 0 0)) else if x1 = 4 then (fX7_sections 4 (wq_st M 0 0 0)).bind fun r19 => some (r19, (wq_st M 0 0 0)) else if x1 = 5 then some (((wq_st M 0 0 0).1 0 9), (wq_st M 0 0 0)) else if x1 = 6 then some (((wq_st M 0 0 0).1 0 11), (wq_st M 0 0 0)) else some ((-1000001), (wq_st M 0 0 0)))
set_option maxHeartbeats 4000000 in
set_option maxRecDepth 100000 in
theorem ctX7_count {l : Launch} {E : wq_E} {d : Nat} (hd0 : 1 ≤ d) {x1 : Int32} {M : wq_M} {r : (Int32 × wq_M)}  (h : fX7_count x1 M = some r) : wq_ct l E wq_yR yX7_count cX7_count 4 (some .int) d [.ref (E.2.1 0), .int x1] M (some (.int r.1)) r.2 := by
  refine wq_ent (own := "WellPipesModel") (lv0 := [some (.ref (E.2.1 0)), some (.int x1), none, none]) (by decide +kernel) rfl (Nat.le_of_ble_eq_true rfl) rfl (fun g h1 h2 hC => ?_)
  have K : wq_kI g r := ⟨h1, h2⟩
  unfold fX7_count at h
  refine wq_aload_n hC dX7_count_0 (i := 0) rfl rfl ?_
  refine wq_iconst hC (v := 0) dX7_count_1 (by decide) ?_
  refine pf_7_0 hC oR_0 tw_718 dX7_count_2 ?_
  refine wq_iconst hC (v := 0) dX7_count_5 (by decide) ?_
  refine wq_istore_n hC dX7_count_6 (i := 2) (lv' := [some (.ref (E.2.1 0)), some (.int x1), some (.int 0), none]) rfl (by decide) rfl ?_
  refine wq_iload_n hC dX7_count_7 (i := 1) rfl rfl ?_
  by_cases z1 : x1 = 0
  · have h := wq_ip z1 h
    refine wq_tableIn hC dX7_count_8 (tgt := 52) (by rw [z1]; decide) (by rw [z1]; decide) (off := 44) (by rw [z1]; decide) (by decide) ?_
    refine wq_iconst hC (v := 0) dX7_count_52 (by decide) ?_
    refine wq_istore_n hC dX7_count_53 (i := 3) (lv' := [some (.ref (E.2.1 0)), some (.int x1), some (.int 0), some (.int 0)]) rfl (by decide) rfl ?_
    obtain ⟨e5, hl6, h⟩ := wq_ob h
    refine wq_mask [true, false, true, true] (lv' := [some (.ref (E.2.1 0)), none, some (.int 0), some (.int 0)]) rfl ?_
    refine gX7_count_L54 hC hd0  (wq_st M 0 0 0)  wq_FU _ _ hl6 ?_
    refine wq_iload_n hC dX7_count_83 (i := 2) rfl rfl ?_
    have h := Option.some.inj h
    subst h
    exact wq_iret hC dX7_count_84 K.1 K.2
  · have h := wq_in_ z1 h
    by_cases z7 : x1 = 1
    · have h := wq_ip z7 h
      refine wq_tableIn hC dX7_count_8 (tgt := 85) (by rw [z7]; decide) (by rw [z7]; decide) (off := 77) (by rw [z7]; decide) (by decide) ?_
      refine wq_aload_n hC dX7_count_85 (i := 0) rfl rfl ?_
      refine gf_7 hC oR_0 5 (.ref (E.2.1 4)) (by decide) rfl tw_723 dX7_count_86 ?_
      refine wq_iconst hC (v := 5) dX7_count_89 (by decide) ?_
      obtain ⟨z8, h⟩ := wq_ii h
      refine wq_ald hC aR_4 z8 dX7_count_90 ?_
      have h := Option.some.inj h
      subst h
      exact wq_iret hC dX7_count_91 K.1 K.2
    · have h := wq_in_ z7 h
      by_cases z9 : x1 = 2
      · have h := wq_ip z9 h
        refine wq_tableIn hC dX7_count_8 (tgt := 92) (by rw [z9]; decide) (by rw [z9]; decide) (off := 84) (by rw [z9]; decide) (by decide) ?_
        refine wq_aload_n hC dX7_count_92 (i := 0) rfl rfl ?_
        refine gf_7 hC oR_0 5 (.ref (E.2.1 4)) (by decide) rfl tw_723 dX7_count_93 ?_
        refine wq_iconst hC (v := 0) dX7_count_96 (by decide) ?_
        obtain ⟨z10, h⟩ := wq_ii h
        refine wq_ald hC aR_4 z10 dX7_count_97 ?_
        have h := Option.some.inj h
        subst h
        exact wq_iret hC dX7_count_98 K.1 K.2
      · have h := wq_in_ z9 h
        by_cases z11 : x1 = 3
        · have h := wq_ip z11 h
          refine wq_tableIn hC dX7_count_8 (tgt := 99) (by rw [z11]; decide) (by rw [z11]; decide) (off := 91) (by rw [z11]; decide) (by decide) ?_
          refine wq_iconst hC (v := 0) dX7_count_99 (by decide) ?_
          refine wq_istore_n hC dX7_count_100 (i := 3) (lv' := [some (.ref (E.2.1 0)), some (.int x1), some (.int 0), some (.int 0)]) rfl (by decide) rfl ?_
          obtain ⟨e16, hl17, h⟩ := wq_ob h
          refine wq_mask [true, false, true, true] (lv' := [some (.ref (E.2.1 0)), none, some (.int 0), some (.int 0)]) rfl ?_
          refine gX7_count_L101 hC hd0  (wq_st M 0 0 0)  wq_FU _ _ hl17 ?_
          refine wq_iload_n hC dX7_count_137 (i := 2) rfl rfl ?_
          have h := Option.some.inj h
          subst h
          exact wq_iret hC dX7_count_138 K.1 K.2
        · have h := wq_in_ z11 h
          by_cases z18 : x1 = 4
          · have h := wq_ip z18 h
            refine wq_tableIn hC dX7_count_8 (tgt := 139) (by rw [z18]; decide) (by rw [z18]; decide) (off := 131) (by rw [z18]; decide) (by decide) ?_
            refine wq_aload_n hC dX7_count_139 (i := 0) rfl rfl ?_
            refine gf_7 hC oR_0 5 (.ref (E.2.1 4)) (by decide) rfl tw_723 dX7_count_140 ?_
            obtain ⟨r19, hc20, h⟩ := wq_ob h
            refine wq_callS hC (ctX7_sections (d := d - 1) (by omega) aR_4 hc20) (by omega) (by decide) rfl npX7_sections tw_1130 tw_1131 tw_58 tw_1132 (st := []) (Nat.le_of_ble_eq_true rfl) rfl dX7_count_143 (st1 := [.int r19]) rfl ?_
            have h := Option.some.inj h
            subst h
            exact wq_iret hC dX7_count_146 K.1 K.2
          · have h := wq_in_ z18 h
            by_cases z21 : x1 = 5
            · have h := wq_ip z21 h
              refine wq_tableIn hC dX7_count_8 (tgt := 147) (by rw [z21]; decide) (by rw [z21]; decide) (off := 139) (by rw [z21]; decide) (by decide) ?_
              refine wq_aload_n hC dX7_count_147 (i := 0) rfl rfl ?_
              refine gf_7 hC oR_0 9 (.int ((wq_st M 0 0 0).1 0 9)) (by decide) rfl tw_727 dX7_count_148 ?_
              have h := Option.some.inj h
              subst h
              exact wq_iret hC dX7_count_151 K.1 K.2
            · have h := wq_in_ z21 h
              by_cases z22 : x1 = 6
              · have h := wq_ip z22 h
                refine wq_tableIn hC dX7_count_8 (tgt := 152) (by rw [z22]; decide) (by rw [z22]; decide) (off := 144) (by rw [z22]; decide) (by decide) ?_
                refine wq_aload_n hC dX7_count_152 (i := 0) rfl rfl ?_
                refine gf_7 hC oR_0 11 (.int ((wq_st M 0 0 0).1 0 11)) (by decide) rfl tw_729 dX7_count_153 ?_
                have h := Option.some.inj h
                subst h
                exact wq_iret hC dX7_count_156 K.1 K.2
              · have h := wq_in_ z22 h
                refine wq_tableOut hC dX7_count_8 (tgt := 157) (by have := lv_neT z1 (show (0 : Int32).toInt = 0 by decide); have := lv_neT z7 (show (1 : Int32).toInt = 1 by decide); have := lv_neT z9 (show (2 : Int32).toInt = 2 by decide); have := lv_neT z11 (show (3 : Int32).toInt = 3 by decide); have := lv_neT z18 (show (4 : Int32).toInt = 4 by decide); have := lv_neT z21 (show (5 : Int32).toInt = 5 by decide); have := lv_neT z22 (show (6 : Int32).toInt = 6 by decide); omega) (by decide) ?_
                refine wq_ldc hC (v := (-1000001)) tw_810 dX7_count_157 ?_
                have h := Option.some.inj h
                subst h
                exact wq_iret hC dX7_count_159 K.1 K.2
theorem npX7_status : yX7_status.cls ≠ "java/lang/invoke/MethodHandle" ∧ yX7_status.cls ≠ "java/lang/invoke/VarHandle" ∧ (parseMethodDescriptor yX7_status.desc).map (fun d => d.parameters.length) = some 0 := by decide +kernel
def fX7_status  (M : wq_M) : Option (Int32 × wq_M) :=
  some (((wq_st M 0 0 0).1 0 1), (wq_st M 0 0 0))
set_option maxHeartbeats 4000000 in
set_option maxRecDepth 100000 in
theorem ctX7_status {l : Launch} {E : wq_E} {d : Nat} (hd0 : 0 ≤ d)  {M : wq_M} {r : (Int32 × wq_M)}  (h : fX7_status M = some r) : wq_ct l E wq_yR yX7_status cX7_status 1 (some .int) d [.ref (E.2.1 0)] M (some (.int r.1)) r.2 := by
  refine wq_ent (own := "WellPipesModel") (lv0 := [some (.ref (E.2.1 0))]) (by decide +kernel) rfl (Nat.le_of_ble_eq_true rfl) rfl (fun g h1 h2 hC => ?_)
  have K : wq_kI g r := ⟨h1, h2⟩
  unfold fX7_status at h
  refine wq_aload_n hC dX7_status_0 (i := 0) rfl rfl ?_
  refine wq_iconst hC (v := 0) dX7_status_1 (by decide) ?_
  refine pf_7_0 hC oR_0 tw_718 dX7_status_2 ?_
  refine wq_aload_n hC dX7_status_5 (i := 0) rfl rfl ?_
  refine gf_7 hC oR_0 1 (.int ((wq_st M 0 0 0).1 0 1)) (by decide) rfl tw_719 dX7_status_6 ?_
  have h := Option.some.inj h
  subst h
  exact wq_iret hC dX7_status_9 K.1 K.2
