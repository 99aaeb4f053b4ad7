theorem npX4_swap : yX4_swap.cls ≠ "java/lang/invoke/MethodHandle" ∧ yX4_swap.cls ≠ "java/lang/invoke/VarHandle" ∧ (parseMethodDescriptor yX4_swap.desc).map (fun d => d.parameters.length) = some 0 := by decide +kernel
def fX4_swap  (M : wq_M) : Option wq_M :=
  (M.2 41 3).bind fun q1 => if wq_okA q1 then (M.2 41 4).bind fun q4 => if wq_okA q4 then ((wq_sr (wq_sr M 41 3 (some q4)) 41 4 (some q1)).2 41 4).bind fun q7 => if wq_okA q7 then (fJ7_fill_53178 q7 (-1) (wq_sr (wq_sr M 41 3 (some q4)) 41 4 (some q1))).bind fun r10 => (r10.2 41 5).bind fun q12 => if wq_okA q12 then (r10.2 41 6).bind fun q15 => if wq_okA q15 then ((wq_sr (wq_sr r10 41 5 (some q15)) 41 6 (some q12)).2 41 6).bind fun q18 => if wq_okA q18 then (fJ7_fill_53178 q18 (-1) (wq_sr (wq_sr r10 41 5 (some q15)) 41 6 (some q12))).bind fun r21 => some r21 else none else none else none else none else none else none
set_option maxHeartbeats 4000000 in
set_option maxRecDepth 100000 in
theorem ctX4_swap {l : Launch} {E : wq_E} {d : Nat} (hd0 : 1 ≤ d)  {M : wq_M} {r : wq_M}  (h : fX4_swap M = some r) : wq_ct l E wq_yC yX4_swap cX4_swap 2 (none) d [.ref (E.2.1 41)] M (none) r := by
  refine wq_ent (own := "WellPipes$Search") (lv0 := [some (.ref (E.2.1 41)), none]) (by decide +kernel) rfl (Nat.le_of_ble_eq_true rfl) rfl (fun g h1 h2 hC => ?_)
  have K : wq_kV g r := ⟨h1, h2⟩
  unfold fX4_swap at h
  refine wq_aload_n hC dX4_swap_0 (i := 0) rfl rfl ?_
  obtain ⟨q1, hq2, h⟩ := wq_ob h
  obtain ⟨z3, h⟩ := wq_ii h
  refine gf_4 hC oC_41 3 (.ref (E.2.1 q1)) (by decide) (gm_4_3 hq2) tw_154 dX4_swap_1 ?_
  refine wq_astore_n hC dX4_swap_4 (i := 1) (lv' := [some (.ref (E.2.1 41)), some (.ref (E.2.1 q1))]) rfl (by decide) rfl ?_
  refine wq_aload_n hC dX4_swap_5 (i := 0) rfl rfl ?_
  refine wq_aload_n hC dX4_swap_6 (i := 0) rfl rfl ?_
  obtain ⟨q4, hq5, h⟩ := wq_ob h
  obtain ⟨z6, h⟩ := wq_ii h
  refine gf_4 hC oC_41 4 (.ref (E.2.1 q4)) (by decide) (gm_4_4 hq5) tw_155 dX4_swap_7 ?_
  refine pf_4_3 hC oC_41 tw_154 dX4_swap_10 ?_
  refine wq_aload_n hC dX4_swap_13 (i := 0) rfl rfl ?_
  refine wq_aload_n hC dX4_swap_14 (i := 1) rfl rfl ?_
  refine pf_4_4 hC oC_41 tw_155 dX4_swap_15 ?_
  refine wq_aload_n hC dX4_swap_18 (i := 0) rfl rfl ?_
  obtain ⟨q7, hq8, h⟩ := wq_ob h
  obtain ⟨z9, h⟩ := wq_ii h
  refine gf_4 hC oC_41 4 (.ref (E.2.1 q7)) (by decide) (gm_4_4 hq8) tw_155 dX4_swap_19 ?_
  refine wq_iconst hC (v := (-1)) dX4_swap_22 (by decide) ?_
  obtain ⟨r10, hc11, h⟩ := wq_ob h
  refine wq_callS hC (ctJ7_fill_53178 (d := d - 1) (by omega) (wq_aL (A_ok z9)) hc11) (by omega) (by decide) rfl npJ7_fill_53178 tw_442 tw_281 tw_59 tw_282 (st := []) (Nat.le_of_ble_eq_true rfl) rfl dX4_swap_23 (st1 := []) rfl ?_
  refine wq_aload_n hC dX4_swap_26 (i := 0) rfl rfl ?_
  obtain ⟨q12, hq13, h⟩ := wq_ob h
  obtain ⟨z14, h⟩ := wq_ii h
  refine gf_4 hC oC_41 5 (.ref (E.2.1 q12)) (by decide) (gm_4_5 hq13) tw_156 dX4_swap_27 ?_
  refine wq_astore_n hC dX4_swap_30 (i := 1) (lv' := [some (.ref (E.2.1 41)), some (.ref (E.2.1 q12))]) rfl (by decide) rfl ?_
  refine wq_aload_n hC dX4_swap_31 (i := 0) rfl rfl ?_
  refine wq_aload_n hC dX4_swap_32 (i := 0) rfl rfl ?_
  obtain ⟨q15, hq16, h⟩ := wq_ob h
  obtain ⟨z17, h⟩ := wq_ii h
  refine gf_4 hC oC_41 6 (.ref (E.2.1 q15)) (by decide) (gm_4_6 hq16) tw_157 dX4_swap_33 ?_
  refine pf_4_5 hC oC_41 tw_156 dX4_swap_36 ?_
  refine wq_aload_n hC dX4_swap_39 (i := 0) rfl rfl ?_
  refine wq_aload_n hC dX4_swap_40 (i := 1) rfl rfl ?_
  refine pf_4_6 hC oC_41 tw_157 dX4_swap_41 ?_
  refine wq_aload_n hC dX4_swap_44 (i := 0) rfl rfl ?_
  obtain ⟨q18, hq19, h⟩ := wq_ob h
  obtain ⟨z20, h⟩ := wq_ii h
  refine gf_4 hC oC_41 6 (.ref (E.2.1 q18)) (by decide) (gm_4_6 hq19) tw_157 dX4_swap_45 ?_
  refine wq_iconst hC (v := (-1)) dX4_swap_48 (by decide) ?_
  obtain ⟨r21, hc22, h⟩ := wq_ob h
  refine wq_callS hC (ctJ7_fill_53178 (d := d - 1) (by omega) (wq_aL (A_ok z20)) hc22) (by omega) (by decide) rfl npJ7_fill_53178 tw_442 tw_281 tw_59 tw_282 (st := []) (Nat.le_of_ble_eq_true rfl) rfl dX4_swap_49 (st1 := []) rfl ?_
  have h := Option.some.inj h
  subst h
  exact wq_vret hC dX4_swap_52 K.1 K.2
theorem npX4_state : yX4_state.cls ≠ "java/lang/invoke/MethodHandle" ∧ yX4_state.cls ≠ "java/lang/invoke/VarHandle" ∧ (parseMethodDescriptor yX4_state.desc).map (fun d => d.parameters.length) = some 3 := by decide +kernel
def fX4_state (x0 : Int32) (x1 : Int32) (x2 : Int32) (M : wq_M) : Option Int32 :=
  some (((((x0 * 5) + x1) * 3) + x2) - 1)
set_option maxHeartbeats 4000000 in
set_option maxRecDepth 100000 in
theorem ctX4_state {l : Launch} {E : wq_E} {d : Nat} (hd0 : 0 ≤ d) {x0 : Int32} {x1 : Int32} {x2 : Int32} {M : wq_M} {r : Int32}  (h : fX4_state x0 x1 x2 M = some r) : wq_ct l E wq_yC yX4_state cX4_state 3 (some .int) d [.int x0, .int x1, .int x2] M (some (.int r)) M := by
  refine wq_ent (own := "WellPipes$Search") (lv0 := [some (.int x0), some (.int x1), some (.int x2)]) (by decide +kernel) rfl (Nat.le_of_ble_eq_true rfl) rfl (fun g h1 h2 hC => ?_)
  have K : wq_ki g M r := ⟨h1, h2⟩
  unfold fX4_state at h
  refine wq_iload_n hC dX4_state_0 (i := 0) rfl rfl ?_
  refine wq_iconst hC (v := 5) dX4_state_1 (by decide) ?_
  refine wq_imul hC dX4_state_2 ?_
  refine wq_iload_n hC dX4_state_3 (i := 1) rfl rfl ?_
  refine wq_iadd hC dX4_state_4 ?_
  refine wq_iconst hC (v := 3) dX4_state_5 (by decide) ?_
  refine wq_imul hC dX4_state_6 ?_
  refine wq_iload_n hC dX4_state_7 (i := 2) rfl rfl ?_
  refine wq_iadd hC dX4_state_8 ?_
  refine wq_iconst hC (v := 1) dX4_state_9 (by decide) ?_
  refine wq_isub hC dX4_state_10 ?_
  have h := Option.some.inj h
  subst h
  exact wq_iret hC dX4_state_11 K.1 K.2
theorem npX4_isAhead : yX4_isAhead.cls ≠ "java/lang/invoke/MethodHandle" ∧ yX4_isAhead.cls ≠ "java/lang/invoke/VarHandle" ∧ (parseMethodDescriptor yX4_isAhead.desc).map (fun d => d.parameters.length) = some 2 := by decide +kernel
def fX4_isAhead (x0 : Int32) (x1 : Int32) (M : wq_M) : Option Bool :=
  (if x1 = (-1) then
    some true
  else
    (if x1 ≤ x0 then
      some false
    else
      some true))
set_option maxHeartbeats 4000000 in
set_option maxRecDepth 100000 in
theorem ctX4_isAhead {l : Launch} {E : wq_E} {d : Nat} (hd0 : 0 ≤ d) {x0 : Int32} {x1 : Int32} {M : wq_M} {r : Bool}  (h : fX4_isAhead x0 x1 M = some r) : wq_ct l E wq_yC yX4_isAhead cX4_isAhead 2 (some .boolean) d [.int x0, .int x1] M (some (.int (wq_b r))) M := by
  refine wq_ent (own := "WellPipes$Search") (lv0 := [some (.int x0), some (.int x1)]) (by decide +kernel) rfl (Nat.le_of_ble_eq_true rfl) rfl (fun g h1 h2 hC => ?_)
  have K : wq_kb g M r := ⟨h1, h2⟩
  unfold fX4_isAhead at h
  refine wq_iload_n hC dX4_isAhead_0 (i := 1) rfl rfl ?_
  refine wq_iconst hC (v := (-1)) dX4_isAhead_1 (by decide) ?_
  refine wq_icmp_eq hC dX4_isAhead_2 (tgt := 10) (by decide) (fun z1 => ?_) (fun z1 => ?_)
  · have h := wq_ip z1 h
    refine wq_iconst hC (v := 1) dX4_isAhead_10 (by decide) ?_
    refine wq_goto hC dX4_isAhead_11 (tgt := 15) (by decide) ?_
    have h := Option.some.inj h
    subst h
    exact wq_zret hC (b := true) dX4_isAhead_15 (by decide) K.1 K.2
  · have h := wq_in_ z1 h
    refine wq_iload_n hC dX4_isAhead_5 (i := 0) rfl rfl ?_
    refine wq_iload_n hC dX4_isAhead_6 (i := 1) rfl rfl ?_
    refine wq_icmp_ge hC dX4_isAhead_7 (tgt := 14) (by decide) (fun z2 => ?_) (fun z2 => ?_)
    · have h := wq_ip z2 h
      refine wq_iconst hC (v := 0) dX4_isAhead_14 (by decide) ?_
      have h := Option.some.inj h
      subst h
      exact wq_zret hC (b := false) dX4_isAhead_15 (by decide) K.1 K.2
    · have h := wq_in_ z2 h
      refine wq_iconst hC (v := 1) dX4_isAhead_10 (by decide) ?_
      refine wq_goto hC dX4_isAhead_11 (tgt := 15) (by decide) ?_
      have h := Option.some.inj h
      subst h
      exact wq_zret hC (b := true) dX4_isAhead_15 (by decide) K.1 K.2
theorem npX4_layOn : yX4_layOn.cls ≠ "java/lang/invoke/MethodHandle" ∧ yX4_layOn.cls ≠ "java/lang/invoke/VarHandle" ∧ (parseMethodDescriptor yX4_layOn.desc).map (fun d => d.parameters.length) = some 4 := by decide +kernel
def fX4_layOn_J85 (x4 : Int32) (x5 : Int32) (x7 : Int32) (M : wq_M) : Option wq_M :=
  (if x4 = (M.1 41 8) then
    (M.2 41 6).bind fun q22 => if wq_okA q22 then if wq_in x5 (wq_yC.2.2 q22) then (fX4_isAhead x7 (M.1 q22 x5.toNatClampNeg) M).bind fun r26 => (if r26 = true then
      (M.2 41 6).bind fun q29 => if wq_okA q29 then if wq_in x5 (wq_yC.2.2 q29) then some (wq_st M q29 x5.toNatClampNeg x7) else none else none
    else
      some M) else none else none
  else
    some M)
set_option maxHeartbeats 4000000 in
set_option maxRecDepth 100000 in
theorem gX4_layOn_J85 {g : wq_G} {E : wq_E} {d : Nat} (hC : wq_C g E wq_yC cX4_layOn 9 "WellPipes$Search" (none) d) (hd0 : 1 ≤ d) (x4 : Int32) (x5 : Int32) (x7 : Int32) (M : wq_M)  {x : wq_M} (h : fX4_layOn_J85 x4 x5 x7 M = some x) (K : (wq_kV g) x) : wq_g g E wq_yC 9 85 [some (.ref (E.2.1 41)), none, none, none, some (.int x4), some (.int x5), none, some (.int x7), none] [] M := by
  unfold fX4_layOn_J85 at h
  refine wq_iload hC dX4_layOn_85 rfl ?_
  refine wq_aload_n hC dX4_layOn_87 (i := 0) rfl rfl ?_
  refine gf_4 hC oC_41 8 (.int (M.1 41 8)) (by decide) rfl tw_159 dX4_layOn_88 ?_
  refine wq_icmp_ne hC dX4_layOn_91 (tgt := 118) (by decide) (fun z21 => ?_) (fun z21 => ?_)
  · have h := wq_in_ z21 h
    have h := Option.some.inj h
    subst h
    exact wq_vret hC dX4_layOn_118 K.1 K.2
  · have h := wq_ip z21 h
    refine wq_iload hC dX4_layOn_94 rfl ?_
    refine wq_aload_n hC dX4_layOn_96 (i := 0) rfl rfl ?_
    obtain ⟨q22, hq23, h⟩ := wq_ob h
    obtain ⟨z24, h⟩ := wq_ii h
    refine gf_4 hC oC_41 6 (.ref (E.2.1 q22)) (by decide) (gm_4_6 hq23) tw_157 dX4_layOn_97 ?_
    refine wq_iload hC dX4_layOn_100 rfl ?_
    obtain ⟨z25, h⟩ := wq_ii h
    refine wq_ald hC (A_ok z24) z25 dX4_layOn_102 ?_
    obtain ⟨r26, hc27, h⟩ := wq_ob h
    refine wq_callS hC (ctX4_isAhead (d := d - 1) (by omega)  hc27) (by omega) (by decide) rfl npX4_isAhead tw_493 tw_494 tw_54 tw_495 (st := []) (Nat.le_of_ble_eq_true rfl) rfl dX4_layOn_103 (st1 := [.int (wq_b r26)]) rfl ?_
    refine wq_bif_eq hC dX4_layOn_106 (tgt := 118) (by decide) (fun z28 => ?_) (fun z28 => ?_)
    · have h := wq_in_ z28 h
      have h := Option.some.inj h
      subst h
      exact wq_vret hC dX4_layOn_118 K.1 K.2
    · have h := wq_ip z28 h
      refine wq_aload_n hC dX4_layOn_109 (i := 0) rfl rfl ?_
      obtain ⟨q29, hq30, h⟩ := wq_ob h
      obtain ⟨z31, h⟩ := wq_ii h
      refine gf_4 hC oC_41 6 (.ref (E.2.1 q29)) (by decide) (gm_4_6 hq30) tw_157 dX4_layOn_110 ?_
      refine wq_iload hC dX4_layOn_113 rfl ?_
      refine wq_iload hC dX4_layOn_115 rfl ?_
      obtain ⟨z32, h⟩ := wq_ii h
      refine wq_ast hC (A_ok z31) z32 dX4_layOn_117 ?_
      have h := Option.some.inj h
      subst h
      exact wq_vret hC dX4_layOn_118 K.1 K.2
def fX4_layOn (x1 : Int32) (x2 : Int32) (x3 : Int32) (x4 : Int32) (M : wq_M) : Option wq_M :=
  (if x1 = (-1) then
    some M
  else
    (M.2 41 7).bind fun q2 => if wq_okW q2 then (fX5_figure q2 x3 3 M).bind fun r5 => (M.2 41 7).bind fun q7 => if wq_okW q7 then (fX5_figure q7 x3 4 M).bind fun r10 => (fX4_state (x2 + r5) x3 x4 M).bind fun r12 => (M.2 41 4).bind fun q14 => if wq_okA q14 then if wq_in r12 (wq_yC.2.2 q14) then (fX4_isAhead ((((x1 - (x1 - x1 / 390625 * 390625)) + (r10 * 390625)) + ((x1 - x1 / 390625 * 390625) * 5)) + x3) (M.1 q14 r12.toNatClampNeg) M).bind fun r18 => (if r18 = true then
      (M.2 41 4).bind fun q33 => if wq_okA q33 then if wq_in r12 (wq_yC.2.2 q33) then fX4_layOn_J85 x4 (x2 + r5) ((((x1 - (x1 - x1 / 390625 * 390625)) + (r10 * 390625)) + ((x1 - x1 / 390625 * 390625) * 5)) + x3) (wq_st M q33 r12.toNatClampNeg ((((x1 - (x1 - x1 / 390625 * 390625)) + (r10 * 390625)) + ((x1 - x1 / 390625 * 390625) * 5)) + x3)) else none else none
    else
      fX4_layOn_J85 x4 (x2 + r5) ((((x1 - (x1 - x1 / 390625 * 390625)) + (r10 * 390625)) + ((x1 - x1 / 390625 * 390625) * 5)) + x3) M) else none else none else none else none)
set_option maxHeartbeats 4000000 in
set_option maxRecDepth 100000 in
theorem ctX4_layOn {l : Launch} {E : wq_E} {d : Nat} (hd0 : 1 ≤ d) {x1 : Int32} {x2 : Int32} {x3 : Int32} {x4 : Int32} {M : wq_M} {r : wq_M}  (h : fX4_layOn x1 x2 x3 x4 M = some r) : wq_ct l E wq_yC yX4_layOn cX4_layOn 9 (none) d [.ref (E.2.1 41), .int x1, .int x2, .int x3, .int x4] M (none) r := by
  refine wq_ent (own := "WellPipes$Search") (lv0 := [some (.ref (E.2.1 41)), some (.int x1), some (.int x2), some (.int x3), some (.int x4), none, none, none, none]) (by decide +kernel) rfl (Nat.le_of_ble_eq_true rfl) rfl (fun g h1 h2 hC => ?_)
  have K : wq_kV g r := ⟨h1, h2⟩
  unfold fX4_layOn at h
  refine wq_iload_n hC dX4_layOn_0 (i := 1) rfl rfl ?_
  refine wq_iconst hC (v := (-1)) dX4_layOn_1 (by decide) ?_
  refine wq_icmp_ne hC dX4_layOn_2 (tgt := 6) (by decide) (fun z1 => ?_) (fun z1 => ?_)
  · have h := wq_in_ z1 h
    refine wq_iload_n hC dX4_layOn_6 (i := 2) rfl rfl ?_
    refine wq_aload_n hC dX4_layOn_7 (i := 0) rfl rfl ?_
    obtain ⟨q2, hq3, h⟩ := wq_ob h
    obtain ⟨z4, h⟩ := wq_ii h
    refine gf_4 hC oC_41 7 (.ref (E.2.1 q2)) (by decide) (gm_4_7 hq3) tw_158 dX4_layOn_8 ?_
    refine wq_iload_n hC dX4_layOn_11 (i := 3) rfl rfl ?_
    refine wq_iconst hC (v := 3) dX4_layOn_12 (by decide) ?_
    obtain ⟨r5, hc6, h⟩ := wq_ob h
    refine cv_5 hC (ctX5_figure (d := d - 1) (by omega) (W_ok z4) hc6) (by omega) (by decide) (W_ok z4).1 rfl rfl npX5_figure tw_451 tw_452 tw_453 tw_454 (st := [.int x2]) (Nat.le_of_ble_eq_true rfl) rfl dX4_layOn_13 (st1 := [.int r5, .int x2]) rfl ?_
    refine wq_iadd hC dX4_layOn_16 ?_
    refine wq_istore hC dX4_layOn_17 (lv' := [some (.ref (E.2.1 41)), some (.int x1), some (.int x2), some (.int x3), some (.int x4), some (.int (x2 + r5)), none, none, none]) (by decide) rfl ?_
    refine wq_iload_n hC dX4_layOn_19 (i := 1) rfl rfl ?_
    refine wq_ldc hC (v := 390625) tw_489 dX4_layOn_20 ?_
    refine wq_irem hC dX4_layOn_22 (by decide) ?_
    refine wq_istore hC dX4_layOn_23 (lv' := [some (.ref (E.2.1 41)), some (.int x1), some (.int x2), some (.int x3), some (.int x4), some (.int (x2 + r5)), some (.int (x1 - x1 / 390625 * 390625)), none, none]) (by decide) rfl ?_
    refine wq_iload_n hC dX4_layOn_25 (i := 1) rfl rfl ?_
    refine wq_iload hC dX4_layOn_26 rfl ?_
    refine wq_isub hC dX4_layOn_28 ?_
    refine wq_aload_n hC dX4_layOn_29 (i := 0) rfl rfl ?_
    obtain ⟨q7, hq8, h⟩ := wq_ob h
    obtain ⟨z9, h⟩ := wq_ii h
    refine gf_4 hC oC_41 7 (.ref (E.2.1 q7)) (by decide) (gm_4_7 hq8) tw_158 dX4_layOn_30 ?_
    refine wq_iload_n hC dX4_layOn_33 (i := 3) rfl rfl ?_
    refine wq_iconst hC (v := 4) dX4_layOn_34 (by decide) ?_
    obtain ⟨r10, hc11, h⟩ := wq_ob h
    refine cv_5 hC (ctX5_figure (d := d - 1) (by omega) (W_ok z9) hc11) (by omega) (by decide) (W_ok z9).1 rfl rfl npX5_figure tw_451 tw_452 tw_453 tw_454 (st := [.int (x1 - (x1 - x1 / 390625 * 390625))]) (Nat.le_of_ble_eq_true rfl) rfl dX4_layOn_35 (st1 := [.int r10, .int (x1 - (x1 - x1 / 390625 * 390625))]) rfl ?_
    refine wq_ldc hC (v := 390625) tw_489 dX4_layOn_38 ?_
    refine wq_imul hC dX4_layOn_40 ?_
    refine wq_iadd hC dX4_layOn_41 ?_
    refine wq_iload hC dX4_layOn_42 rfl ?_
    refine wq_iconst hC (v := 5) dX4_layOn_44 (by decide) ?_
    refine wq_imul hC dX4_layOn_45 ?_
    refine wq_iadd hC dX4_layOn_46 ?_
    refine wq_iload_n hC dX4_layOn_47 (i := 3) rfl rfl ?_
    refine wq_iadd hC dX4_layOn_48 ?_
    refine wq_istore hC dX4_layOn_49 (lv' := [some (.ref (E.2.1 41)), some (.int x1), some (.int x2), some (.int x3), some (.int x4), some (.int (x2 + r5)), some (.int (x1 - x1 / 390625 * 390625)), some (.int ((((x1 - (x1 - x1 / 390625 * 390625)) + (r10 * 390625)) + ((x1 - x1 / 390625 * 390625) * 5)) + x3)), none]) (by decide) rfl ?_
    refine wq_iload hC dX4_layOn_51 rfl ?_
    refine wq_iload_n hC dX4_layOn_53 (i := 3) rfl rfl ?_
    refine wq_iload hC dX4_layOn_54 rfl ?_
    obtain ⟨r12, hc13, h⟩ := wq_ob h
    refine wq_callS hC (ctX4_state (d := d - 1) (by omega)  hc13) (by omega) (by decide) rfl npX4_state tw_490 tw_491 tw_54 tw_492 (st := []) (Nat.le_of_ble_eq_true rfl) rfl dX4_layOn_56 (st1 := [.int r12]) rfl ?_
    refine wq_istore hC dX4_layOn_59 (lv' := [some (.ref (E.2.1 41)), some (.int x1), some (.int x2), some (.int x3), some (.int x4), some (.int (x2 + r5)), some (.int (x1 - x1 / 390625 * 390625)), some (.int ((((x1 - (x1 - x1 / 390625 * 390625)) + (r10 * 390625)) + ((x1 - x1 / 390625 * 390625) * 5)) + x3)), some (.int r12)]) (by decide) rfl ?_
    refine wq_iload hC dX4_layOn_61 rfl ?_
    refine wq_aload_n hC dX4_layOn_63 (i := 0) rfl rfl ?_
    obtain ⟨q14, hq15, h⟩ := wq_ob h
    obtain ⟨z16, h⟩ := wq_ii h
    refine gf_4 hC oC_41 4 (.ref (E.2.1 q14)) (by decide) (gm_4_4 hq15) tw_155 dX4_layOn_64 ?_
    refine wq_iload hC dX4_layOn_67 rfl ?_
    obtain ⟨z17, h⟩ := wq_ii h
    refine wq_ald hC (A_ok z16) z17 dX4_layOn_69 ?_
    obtain ⟨r18, hc19, h⟩ := wq_ob h
    refine wq_callS hC (ctX4_isAhead (d := d - 1) (by omega)  hc19) (by omega) (by decide) rfl npX4_isAhead tw_493 tw_494 tw_54 tw_495 (st := []) (Nat.le_of_ble_eq_true rfl) rfl dX4_layOn_70 (st1 := [.int (wq_b r18)]) rfl ?_
    refine wq_bif_eq hC dX4_layOn_73 (tgt := 85) (by decide) (fun z20 => ?_) (fun z20 => ?_)
    · have h := wq_in_ z20 h
      refine wq_mask [true, false, false, false, true, true, false, true, false] (lv' := [some (.ref (E.2.1 41)), none, none, none, some (.int x4), some (.int (x2 + r5)), none, some (.int ((((x1 - (x1 - x1 / 390625 * 390625)) + (r10 * 390625)) + ((x1 - x1 / 390625 * 390625) * 5)) + x3)), none]) rfl ?_
      exact gX4_layOn_J85 hC hd0 x4 (x2 + r5) ((((x1 - (x1 - x1 / 390625 * 390625)) + (r10 * 390625)) + ((x1 - x1 / 390625 * 390625) * 5)) + x3) M  h K
    · have h := wq_ip z20 h
      refine wq_aload_n hC dX4_layOn_76 (i := 0) rfl rfl ?_
      obtain ⟨q33, hq34, h⟩ := wq_ob h
      obtain ⟨z35, h⟩ := wq_ii h
      refine gf_4 hC oC_41 4 (.ref (E.2.1 q33)) (by decide) (gm_4_4 hq34) tw_155 dX4_layOn_77 ?_
      refine wq_iload hC dX4_layOn_80 rfl ?_
      refine wq_iload hC dX4_layOn_82 rfl ?_
      obtain ⟨z36, h⟩ := wq_ii h
      refine wq_ast hC (A_ok z35) z36 dX4_layOn_84 ?_
      refine wq_mask [true, false, false, false, true, true, false, true, false] (lv' := [some (.ref (E.2.1 41)), none, none, none, some (.int x4), some (.int (x2 + r5)), none, some (.int ((((x1 - (x1 - x1 / 390625 * 390625)) + (r10 * 390625)) + ((x1 - x1 / 390625 * 390625) * 5)) + x3)), none]) rfl ?_
      exact gX4_layOn_J85 hC hd0 x4 (x2 + r5) ((((x1 - (x1 - x1 / 390625 * 390625)) + (r10 * 390625)) + ((x1 - x1 / 390625 * 390625) * 5)) + x3) (wq_st M q33 r12.toNatClampNeg ((((x1 - (x1 - x1 / 390625 * 390625)) + (r10 * 390625)) + ((x1 - x1 / 390625 * 390625) * 5)) + x3))  h K
  · have h := wq_ip z1 h
    have h := Option.some.inj h
    subst h
    exact wq_vret hC dX4_layOn_5 K.1 K.2
theorem npX4_layOnAll : yX4_layOnAll.cls ≠ "java/lang/invoke/MethodHandle" ∧ yX4_layOnAll.cls ≠ "java/lang/invoke/VarHandle" ∧ (parseMethodDescriptor yX4_layOnAll.desc).map (fun d => d.parameters.length) = some 2 := by decide +kernel
def fX4_layOnAll_L26_L73 (x1 : Int32) (x2 : Int32) (x3 : Int32) (x4 : Int32) (x5 : Int32) : (Int32 × wq_M) → Option ((Int32 × wq_M) ⊕ wq_M) := fun s =>
  (if (s.2.1 41 8) < s.1 then
    some (.inr s.2)
  else
    (s.2.2 41 3).bind fun q23 => if wq_okA q23 then (fX4_state x5 x2 s.1 s.2).bind fun r26 => if wq_in r26 (wq_yC.2.2 q23) then (fX4_layOn (s.2.1 q23 r26.toNatClampNeg) x5 x2 (if (s.2.1 41 8) < (s.1 + 1) then (s.2.1 41 8) else (s.1 + 1)) s.2).bind fun r29 => some (.inl ((s.1 + 1), r29)) else none else none)
set_option maxHeartbeats 4000000 in
set_option maxRecDepth 100000 in
theorem gX4_layOnAll_L26_L73 {g : wq_G} {E : wq_E} {d : Nat} (hC : wq_C g E wq_yC cX4_layOnAll 7 "WellPipes$Search" (none) d) (hd0 : 4 ≤ d) (x1 : Int32) (x2 : Int32) (x3 : Int32) (x4 : Int32) (x5 : Int32)  : ∀ (n : Nat) (s : (Int32 × wq_M)) (e : wq_M), wq_lp (fX4_layOnAll_L26_L73 x1 x2 x3 x4 x5) n s = some e → (fun (e : wq_M) => wq_g g E wq_yC 7 119 [some (.ref (E.2.1 41)), some (.int x1), some (.int x2), some (.int x3), some (.int x4), some (.int x5), none] [] e) e → wq_g g E wq_yC 7 73 [some (.ref (E.2.1 41)), some (.int x1), some (.int x2), some (.int x3), some (.int x4), some (.int x5), some (.int s.1)] [] s.2 := by
  refine wq_lq_ok (fun (s : (Int32 × wq_M)) => wq_g g E wq_yC 7 73 [some (.ref (E.2.1 41)), some (.int x1), some (.int x2), some (.int x3), some (.int x4), some (.int x5), some (.int s.1)] [] s.2) (fun (e : wq_M) => wq_g g E wq_yC 7 119 [some (.ref (E.2.1 41)), some (.int x1), some (.int x2), some (.int x3), some (.int x4), some (.int x5), none] [] e) (fun s x h K => ?_)
  unfold fX4_layOnAll_L26_L73 at h
  refine wq_iload hC dX4_layOnAll_73 rfl ?_
  refine wq_aload_n hC dX4_layOnAll_75 (i := 0) rfl rfl ?_
  refine gf_4 hC oC_41 8 (.int (s.2.1 41 8)) (by decide) rfl tw_159 dX4_layOnAll_76 ?_
  refine wq_icmp_gt hC dX4_layOnAll_79 (tgt := 119) (by decide) (fun z22 => ?_) (fun z22 => ?_)
  · have h := wq_ip z22 h
    have h := Option.some.inj h
    subst h
    refine wq_mask [true, true, true, true, true, true, false] (lv' := [some (.ref (E.2.1 41)), some (.int x1), some (.int x2), some (.int x3), some (.int x4), some (.int x5), none]) rfl ?_
    exact K
  · have h := wq_in_ z22 h
    refine wq_aload_n hC dX4_layOnAll_82 (i := 0) rfl rfl ?_
    refine wq_aload_n hC dX4_layOnAll_83 (i := 0) rfl rfl ?_
    obtain ⟨q23, hq24, h⟩ := wq_ob h
    obtain ⟨z25, h⟩ := wq_ii h
    refine gf_4 hC oC_41 3 (.ref (E.2.1 q23)) (by decide) (gm_4_3 hq24) tw_154 dX4_layOnAll_84 ?_
    refine wq_iload hC dX4_layOnAll_87 rfl ?_
    refine wq_iload_n hC dX4_layOnAll_89 (i := 2) rfl rfl ?_
    refine wq_iload hC dX4_layOnAll_90 rfl ?_
    obtain ⟨r26, hc27, h⟩ := wq_ob h
    refine wq_callS hC (ctX4_state (d := d - 1) (by omega)  hc27) (by omega) (by decide) rfl npX4_state tw_490 tw_491 tw_54 tw_492 (st := [.ref (E.2.1 q23), .ref (E.2.1 41)]) (Nat.le_of_ble_eq_true rfl) rfl dX4_layOnAll_92 (st1 := [.int r26, .ref (E.2.1 q23), .ref (E.2.1 41)]) rfl ?_
    obtain ⟨z28, h⟩ := wq_ii h
    refine wq_ald hC (A_ok z25) z28 dX4_layOnAll_95 ?_
    refine wq_iload hC dX4_layOnAll_96 rfl ?_
    refine wq_iload_n hC dX4_layOnAll_98 (i := 2) rfl rfl ?_
    refine wq_iload hC dX4_layOnAll_99 rfl ?_
    refine wq_iconst hC (v := 1) dX4_layOnAll_101 (by decide) ?_
    refine wq_iadd hC dX4_layOnAll_102 ?_
    refine wq_aload_n hC dX4_layOnAll_103 (i := 0) rfl rfl ?_
    refine gf_4 hC oC_41 8 (.int (s.2.1 41 8)) (by decide) rfl tw_159 dX4_layOnAll_104 ?_
    refine wq_mmin hC (st := [.int x2, .int x5, .int (s.2.1 q23 r26.toNatClampNeg), .ref (E.2.1 41)]) tw_436 (Nat.le_of_ble_eq_true rfl) dX4_layOnAll_107 ?_
    obtain ⟨r29, hc30, h⟩ := wq_ob h
    refine cv_4 hC (ctX4_layOn (d := d - 1) (by omega)  hc30) (by omega) (by decide) oC_41 rfl rfl npX4_layOn tw_485 tw_487 tw_15 tw_488 (st := []) (Nat.le_of_ble_eq_true rfl) rfl dX4_layOnAll_110 (st1 := []) rfl ?_
    refine wq_iinc hC (v := (s.1 + 1)) dX4_layOnAll_113 (lv' := [some (.ref (E.2.1 41)), some (.int x1), some (.int x2), some (.int x3), some (.int x4), some (.int x5), some (.int (s.1 + 1))]) rfl rfl (by decide) rfl ?_
    refine wq_goto hC dX4_layOnAll_116 (tgt := 73) (by decide) ?_
    have h := Option.some.inj h
    subst h
    exact K
def fX4_layOnAll_L26 (x1 : Int32) (x2 : Int32) (x3 : Int32) (x4 : Int32) : (Int32 × wq_M) → Option ((Int32 × wq_M) ⊕ wq_M) := fun s =>
  (if (x3 * 9) < s.1 then
    some (.inr s.2)
  else
    (s.2.2 41 7).bind fun q10 => if wq_okW q10 then (fX5_wouldHold q10 x1 x2 (s.1 + x4) s.2).bind fun r13 => (if r13 = true then
      (s.2.2 41 5).bind fun q16 => if wq_okA q16 then if wq_in s.1 (wq_yC.2.2 q16) then (fX4_layOn (s.2.1 q16 s.1.toNatClampNeg) s.1 x2 1 s.2).bind fun r20 => (wq_lp (fX4_layOnAll_L26_L73 x1 x2 x3 x4 s.1) wq_FU (1, r20)).bind fun e31 => some (.inl ((s.1 + 1), e31)) else none else none
    else
      some (.inr s.2)) else none)
set_option maxHeartbeats 4000000 in
set_option maxRecDepth 100000 in
theorem gX4_layOnAll_L26 {g : wq_G} {E : wq_E} {d : Nat} (hC : wq_C g E wq_yC cX4_layOnAll 7 "WellPipes$Search" (none) d) (hd0 : 4 ≤ d) (x1 : Int32) (x2 : Int32) (x3 : Int32) (x4 : Int32)  : ∀ (n : Nat) (s : (Int32 × wq_M)) (e : wq_M), wq_lp (fX4_layOnAll_L26 x1 x2 x3 x4) n s = some e → (fun (e : wq_M) => wq_g g E wq_yC 7 125 [none, none, none, none, none, none, none] [] e) e → wq_g g E wq_yC 7 26 [some (.ref (E.2.1 41)), some (.int x1), some (.int x2), some (.int x3), some (.int x4), some (.int s.1), none] [] s.2 := by
  refine wq_lq_ok (fun (s : (Int32 × wq_M)) => wq_g g E wq_yC 7 26 [some (.ref (E.2.1 41)), some (.int x1), some (.int x2), some (.int x3), some (.int x4), some (.int s.1), none] [] s.2) (fun (e : wq_M) => wq_g g E wq_yC 7 125 [none, none, none, none, none, none, none] [] e) (fun s x h K => ?_)
  unfold fX4_layOnAll_L26 at h
  refine wq_iload hC dX4_layOnAll_26 rfl ?_
  refine wq_iload_n hC dX4_layOnAll_28 (i := 3) rfl rfl ?_
  refine wq_bipush hC (v := 9) dX4_layOnAll_29 (by decide) ?_
  refine wq_imul hC dX4_layOnAll_31 ?_
  refine wq_icmp_gt hC dX4_layOnAll_32 (tgt := 125) (by decide) (fun z9 => ?_) (fun z9 => ?_)
  · have h := wq_ip z9 h
    have h := Option.some.inj h
    subst h
    refine wq_mask [false, false, false, false, false, false, false] (lv' := [none, none, none, none, none, none, none]) rfl ?_
    exact K
  · have h := wq_in_ z9 h
    refine wq_aload_n hC dX4_layOnAll_35 (i := 0) rfl rfl ?_
    obtain ⟨q10, hq11, h⟩ := wq_ob h
    obtain ⟨z12, h⟩ := wq_ii h
    refine gf_4 hC oC_41 7 (.ref (E.2.1 q10)) (by decide) (gm_4_7 hq11) tw_158 dX4_layOnAll_36 ?_
    refine wq_iload_n hC dX4_layOnAll_39 (i := 1) rfl rfl ?_
    refine wq_iload_n hC dX4_layOnAll_40 (i := 2) rfl rfl ?_
    refine wq_iload hC dX4_layOnAll_41 rfl ?_
    refine wq_iload hC dX4_layOnAll_43 rfl ?_
    refine wq_iadd hC dX4_layOnAll_45 ?_
    obtain ⟨r13, hc14, h⟩ := wq_ob h
    refine cv_5 hC (ctX5_wouldHold (d := d - 1) (by omega) (W_ok z12) hc14) (by omega) (by decide) (W_ok z12).1 rfl rfl npX5_wouldHold tw_455 tw_456 tw_457 tw_458 (st := []) (Nat.le_of_ble_eq_true rfl) rfl dX4_layOnAll_46 (st1 := [.int (wq_b r13)]) rfl ?_
    refine wq_bif_ne hC dX4_layOnAll_49 (tgt := 55) (by decide) (fun z15 => ?_) (fun z15 => ?_)
    · have h := wq_ip z15 h
      refine wq_aload_n hC dX4_layOnAll_55 (i := 0) rfl rfl ?_
      refine wq_aload_n hC dX4_layOnAll_56 (i := 0) rfl rfl ?_
      obtain ⟨q16, hq17, h⟩ := wq_ob h
      obtain ⟨z18, h⟩ := wq_ii h
      refine gf_4 hC oC_41 5 (.ref (E.2.1 q16)) (by decide) (gm_4_5 hq17) tw_156 dX4_layOnAll_57 ?_
      refine wq_iload hC dX4_layOnAll_60 rfl ?_
      obtain ⟨z19, h⟩ := wq_ii h
      refine wq_ald hC (A_ok z18) z19 dX4_layOnAll_62 ?_
      refine wq_iload hC dX4_layOnAll_63 rfl ?_
      refine wq_iload_n hC dX4_layOnAll_65 (i := 2) rfl rfl ?_
      refine wq_iconst hC (v := 1) dX4_layOnAll_66 (by decide) ?_
      obtain ⟨r20, hc21, h⟩ := wq_ob h
      refine cv_4 hC (ctX4_layOn (d := d - 1) (by omega)  hc21) (by omega) (by decide) oC_41 rfl rfl npX4_layOn tw_485 tw_487 tw_15 tw_488 (st := []) (Nat.le_of_ble_eq_true rfl) rfl dX4_layOnAll_67 (st1 := []) rfl ?_
      refine wq_iconst hC (v := 1) dX4_layOnAll_70 (by decide) ?_
      refine wq_istore hC dX4_layOnAll_71 (lv' := [some (.ref (E.2.1 41)), some (.int x1), some (.int x2), some (.int x3), some (.int x4), some (.int s.1), some (.int 1)]) (by decide) rfl ?_
      obtain ⟨e31, hl32, h⟩ := wq_ob h
      refine gX4_layOnAll_L26_L73 hC hd0 x1 x2 x3 x4 s.1  wq_FU _ _ hl32 ?_
      refine wq_iinc hC (v := (s.1 + 1)) dX4_layOnAll_119 (lv' := [some (.ref (E.2.1 41)), some (.int x1), some (.int x2), some (.int x3), some (.int x4), some (.int (s.1 + 1)), none]) rfl rfl (by decide) rfl ?_
      refine wq_goto hC dX4_layOnAll_122 (tgt := 26) (by decide) ?_
      have h := Option.some.inj h
      subst h
      exact K
    · have h := wq_in_ z15 h
      refine wq_goto hC dX4_layOnAll_52 (tgt := 125) (by decide) ?_
      have h := Option.some.inj h
      subst h
      refine wq_mask [false, false, false, false, false, false, false] (lv' := [none, none, none, none, none, none, none]) rfl ?_
      exact K
def fX4_layOnAll (x1 : Int32) (x2 : Int32) (M : wq_M) : Option wq_M :=
  (M.2 41 7).bind fun q1 => if wq_okW q1 then (M.2 41 7).bind fun q4 => if wq_okW q4 then (fX5_figure q4 x2 3 M).bind fun r7 => (wq_lp (fX4_layOnAll_L26 x1 x2 (((M.1 q1 0) - 1) - x1) r7) wq_FU ((((M.1 q1 0) - 1) - x1), M)).bind fun e33 => some e33 else none else none
set_option maxHeartbeats 4000000 in
set_option maxRecDepth 100000 in
theorem ctX4_layOnAll {l : Launch} {E : wq_E} {d : Nat} (hd0 : 4 ≤ d) {x1 : Int32} {x2 : Int32} {M : wq_M} {r : wq_M}  (h : fX4_layOnAll x1 x2 M = some r) : wq_ct l E wq_yC yX4_layOnAll cX4_layOnAll 7 (none) d [.ref (E.2.1 41), .int x1, .int x2] M (none) r := by
  refine wq_ent (own := "WellPipes$Search") (lv0 := [some (.ref (E.2.1 41)), some (.int x1), some (.int x2), none, none, none, none]) (by decide +kernel) rfl (Nat.le_of_ble_eq_true rfl) rfl (fun g h1 h2 hC => ?_)
  have K : wq_kV g r := ⟨h1, h2⟩
  unfold fX4_layOnAll at h
  refine wq_aload_n hC dX4_layOnAll_0 (i := 0) rfl rfl ?_
  obtain ⟨q1, hq2, h⟩ := wq_ob h
  obtain ⟨z3, h⟩ := wq_ii h
  refine gf_4 hC oC_41 7 (.ref (E.2.1 q1)) (by decide) (gm_4_7 hq2) tw_158 dX4_layOnAll_1 ?_
  refine gf_5 hC (W_ok z3).1 0 (.int (M.1 q1 0)) (by decide) rfl tw_108 dX4_layOnAll_4 ?_
  refine wq_iconst hC (v := 1) dX4_layOnAll_7 (by decide) ?_
  refine wq_isub hC dX4_layOnAll_8 ?_
  refine wq_iload_n hC dX4_layOnAll_9 (i := 1) rfl rfl ?_
  refine wq_isub hC dX4_layOnAll_10 ?_
  refine wq_istore_n hC dX4_layOnAll_11 (i := 3) (lv' := [some (.ref (E.2.1 41)), some (.int x1), some (.int x2), some (.int (((M.1 q1 0) - 1) - x1)), none, none, none]) rfl (by decide) rfl ?_
  refine wq_aload_n hC dX4_layOnAll_12 (i := 0) rfl rfl ?_
  obtain ⟨q4, hq5, h⟩ := wq_ob h
  obtain ⟨z6, h⟩ := wq_ii h
  refine gf_4 hC oC_41 7 (.ref (E.2.1 q4)) (by decide) (gm_4_7 hq5) tw_158 dX4_layOnAll_13 ?_
  refine wq_iload_n hC dX4_layOnAll_16 (i := 2) rfl rfl ?_
  refine wq_iconst hC (v := 3) dX4_layOnAll_17 (by decide) ?_
  obtain ⟨r7, hc8, h⟩ := wq_ob h
  refine cv_5 hC (ctX5_figure (d := d - 1) (by omega) (W_ok z6) hc8) (by omega) (by decide) (W_ok z6).1 rfl rfl npX5_figure tw_451 tw_452 tw_453 tw_454 (st := []) (Nat.le_of_ble_eq_true rfl) rfl dX4_layOnAll_18 (st1 := [.int r7]) rfl ?_
  refine wq_istore hC dX4_layOnAll_21 (lv' := [some (.ref (E.2.1 41)), some (.int x1), some (.int x2), some (.int (((M.1 q1 0) - 1) - x1)), some (.int r7), none, none]) (by decide) rfl ?_
  refine wq_iload_n hC dX4_layOnAll_23 (i := 3) rfl rfl ?_
  refine wq_istore hC dX4_layOnAll_24 (lv' := [some (.ref (E.2.1 41)), some (.int x1), some (.int x2), some (.int (((M.1 q1 0) - 1) - x1)), some (.int r7), some (.int (((M.1 q1 0) - 1) - x1)), none]) (by decide) rfl ?_
  obtain ⟨e33, hl34, h⟩ := wq_ob h
  refine gX4_layOnAll_L26 hC hd0 x1 x2 (((M.1 q1 0) - 1) - x1) r7  wq_FU _ _ hl34 ?_
  have h := Option.some.inj h
  subst h
  exact wq_vret hC dX4_layOnAll_125 K.1 K.2
theorem npX4_tellString : yX4_tellString.cls ≠ "java/lang/invoke/MethodHandle" ∧ yX4_tellString.cls ≠ "java/lang/invoke/VarHandle" ∧ (parseMethodDescriptor yX4_tellString.desc).map (fun d => d.parameters.length) = some 1 := by decide +kernel
def fX4_tellString_L12  : (Int32 × Int32 × wq_M) → Option ((Int32 × Int32 × wq_M) ⊕ wq_M) := fun s =>
  (s.2.2.2 41 7).bind fun q3 => if wq_okW q3 then (if (s.2.2.1 q3 0) ≤ s.2.1 then
    some (.inr s.2.2)
  else
    if wq_in s.2.1 8 then some (.inl ((s.1 / 5), (s.2.1 + 1), (wq_st s.2.2 42 s.2.1.toNatClampNeg (s.1 - s.1 / 5 * 5)))) else none) else none
set_option maxHeartbeats 4000000 in
set_option maxRecDepth 100000 in
theorem gX4_tellString_L12 {g : wq_G} {E : wq_E} {d : Nat} (hC : wq_C g E wq_yC cX4_tellString 4 "WellPipes$Search" (none) d) (hd0 : 1 ≤ d)   : ∀ (n : Nat) (s : (Int32 × Int32 × wq_M)) (e : wq_M), wq_lp (fX4_tellString_L12) n s = some e → (fun (e : wq_M) => wq_g g E wq_yC 4 42 [none, none, none, none] [] e) e → wq_g g E wq_yC 4 12 [some (.ref (E.2.1 41)), none, some (.int s.1), some (.int s.2.1)] [] s.2.2 := by
  refine wq_lq_ok (fun (s : (Int32 × Int32 × wq_M)) => wq_g g E wq_yC 4 12 [some (.ref (E.2.1 41)), none, some (.int s.1), some (.int s.2.1)] [] s.2.2) (fun (e : wq_M) => wq_g g E wq_yC 4 42 [none, none, none, none] [] e) (fun s x h K => ?_)
  unfold fX4_tellString_L12 at h
  refine wq_iload_n hC dX4_tellString_12 (i := 3) rfl rfl ?_
  refine wq_aload_n hC dX4_tellString_13 (i := 0) rfl rfl ?_
  obtain ⟨q3, hq4, h⟩ := wq_ob h
  obtain ⟨z5, h⟩ := wq_ii h
  refine gf_4 hC oC_41 7 (.ref (E.2.1 q3)) (by decide) (gm_4_7 hq4) tw_158 dX4_tellString_14 ?_
  refine gf_5 hC (W_ok z5).1 0 (.int (s.2.2.1 q3 0)) (by decide) rfl tw_108 dX4_tellString_17 ?_
  refine wq_icmp_ge hC dX4_tellString_20 (tgt := 42) (by decide) (fun z6 => ?_) (fun z6 => ?_)
  · have h := wq_ip z6 h
    have h := Option.some.inj h
    subst h
    refine wq_mask [false, false, false, false] (lv' := [none, none, none, none]) rfl ?_
    exact K
  · have h := wq_in_ z6 h
    refine wq_aload_n hC dX4_tellString_23 (i := 0) rfl rfl ?_
    refine gf_4 hC oC_41 0 (.ref (E.2.1 42)) (by decide) rfl tw_148 dX4_tellString_24 ?_
    refine wq_iload_n hC dX4_tellString_27 (i := 3) rfl rfl ?_
    refine wq_iload_n hC dX4_tellString_28 (i := 2) rfl rfl ?_
    refine wq_iconst hC (v := 5) dX4_tellString_29 (by decide) ?_
    refine wq_irem hC dX4_tellString_30 (by decide) ?_
    obtain ⟨z7, h⟩ := wq_ii h
    refine wq_ast hC aC_42 z7 dX4_tellString_31 ?_
    refine wq_iload_n hC dX4_tellString_32 (i := 2) rfl rfl ?_
    refine wq_iconst hC (v := 5) dX4_tellString_33 (by decide) ?_
    refine wq_idiv hC dX4_tellString_34 (by decide) ?_
    refine wq_istore_n hC dX4_tellString_35 (i := 2) (lv' := [some (.ref (E.2.1 41)), none, some (.int (s.1 / 5)), some (.int s.2.1)]) rfl (by decide) rfl ?_
    refine wq_iinc hC (v := (s.2.1 + 1)) dX4_tellString_36 (lv' := [some (.ref (E.2.1 41)), none, some (.int (s.1 / 5)), some (.int (s.2.1 + 1))]) rfl rfl (by decide) rfl ?_
    refine wq_goto hC dX4_tellString_39 (tgt := 12) (by decide) ?_
    have h := Option.some.inj h
    subst h
    exact K
def fX4_tellString (x1 : Int32) (M : wq_M) : Option wq_M :=
  (fJ7_fill_53178 42 (-1) M).bind fun r1 => (wq_lp (fX4_tellString_L12) wq_FU (x1, 0, r1)).bind fun e8 => some e8
set_option maxHeartbeats 4000000 in
set_option maxRecDepth 100000 in
theorem ctX4_tellString {l : Launch} {E : wq_E} {d : Nat} (hd0 : 1 ≤ d) {x1 : Int32} {M : wq_M} {r : wq_M}  (h : fX4_tellString x1 M = some r) : wq_ct l E wq_yC yX4_tellString cX4_tellString 4 (none) d [.ref (E.2.1 41), .int x1] M (none) r := by
  refine wq_ent (own := "WellPipes$Search") (lv0 := [some (.ref (E.2.1 41)), some (.int x1), none, none]) (by decide +kernel) rfl (Nat.le_of_ble_eq_true rfl) rfl (fun g h1 h2 hC => ?_)
  have K : wq_kV g r := ⟨h1, h2⟩
  unfold fX4_tellString at h
  refine wq_iload_n hC dX4_tellString_0 (i := 1) rfl rfl ?_
  refine wq_istore_n hC dX4_tellString_1 (i := 2) (lv' := [some (.ref (E.2.1 41)), some (.int x1), some (.int x1), none]) rfl (by decide) rfl ?_
  refine wq_aload_n hC dX4_tellString_2 (i := 0) rfl rfl ?_
  refine gf_4 hC oC_41 0 (.ref (E.2.1 42)) (by decide) rfl tw_148 dX4_tellString_3 ?_
  refine wq_iconst hC (v := (-1)) dX4_tellString_6 (by decide) ?_
  obtain ⟨r1, hc2, h⟩ := wq_ob h
  refine wq_callS hC (ctJ7_fill_53178 (d := d - 1) (by omega) (wq_aL aC_42) hc2) (by omega) (by decide) rfl npJ7_fill_53178 tw_442 tw_281 tw_59 tw_282 (st := []) (Nat.le_of_ble_eq_true rfl) rfl dX4_tellString_7 (st1 := []) rfl ?_
  refine wq_iconst hC (v := 0) dX4_tellString_10 (by decide) ?_
  refine wq_istore_n hC dX4_tellString_11 (i := 3) (lv' := [some (.ref (E.2.1 41)), some (.int x1), some (.int x1), some (.int 0)]) rfl (by decide) rfl ?_
  obtain ⟨e8, hl9, h⟩ := wq_ob h
  refine wq_mask [true, false, true, true] (lv' := [some (.ref (E.2.1 41)), none, some (.int x1), some (.int 0)]) rfl ?_
  refine gX4_tellString_L12 hC hd0   wq_FU _ _ hl9 ?_
  have h := Option.some.inj h
  subst h
  exact wq_vret hC dX4_tellString_42 K.1 K.2
theorem npX4_choose : yX4_choose.cls ≠ "java/lang/invoke/MethodHandle" ∧ yX4_choose.cls ≠ "java/lang/invoke/VarHandle" ∧ (parseMethodDescriptor yX4_choose.desc).map (fun d => d.parameters.length) = some 0 := by decide +kernel
def fX4_choose_L4  : (Int32 × Int32 × wq_M) → Option ((Int32 × Int32 × wq_M) ⊕ (Int32 × wq_M)) := fun s =>
  (if 73 ≤ s.2.1 then
    some (.inr (s.1, s.2.2))
  else
    (s.2.2.2 41 6).bind fun q2 => if wq_okA q2 then if wq_in s.2.1 (wq_yC.2.2 q2) then (if (s.2.2.1 q2 s.2.1.toNatClampNeg) = (-1) then
      some (.inl (s.1, (s.2.1 + 1), s.2.2))
    else
      (if s.1 = (-1) then
        some (.inl ((s.2.2.1 q2 s.2.1.toNatClampNeg), (s.2.1 + 1), (wq_st s.2.2 41 2 s.2.1)))
      else
        (if (s.1 / 390625) ≤ ((s.2.2.1 q2 s.2.1.toNatClampNeg) / 390625) then
          some (.inl (s.1, (s.2.1 + 1), s.2.2))
        else
          some (.inl ((s.2.2.1 q2 s.2.1.toNatClampNeg), (s.2.1 + 1), (wq_st s.2.2 41 2 s.2.1)))))) else none else none)
set_option maxHeartbeats 4000000 in
set_option maxRecDepth 100000 in
theorem gX4_choose_L4 {g : wq_G} {E : wq_E} {d : Nat} (hC : wq_C g E wq_yC cX4_choose 4 "WellPipes$Search" (some .boolean) d) (hd0 : 2 ≤ d)   : ∀ (n : Nat) (s : (Int32 × Int32 × wq_M)) (e : (Int32 × wq_M)), wq_lp (fX4_choose_L4) n s = some e → (fun (e : (Int32 × wq_M)) => wq_g g E wq_yC 4 51 [some (.ref (E.2.1 41)), some (.int e.1), none, none] [] e.2) e → wq_g g E wq_yC 4 4 [some (.ref (E.2.1 41)), some (.int s.1), some (.int s.2.1), none] [] s.2.2 := by
  refine wq_lq_ok (fun (s : (Int32 × Int32 × wq_M)) => wq_g g E wq_yC 4 4 [some (.ref (E.2.1 41)), some (.int s.1), some (.int s.2.1), none] [] s.2.2) (fun (e : (Int32 × wq_M)) => wq_g g E wq_yC 4 51 [some (.ref (E.2.1 41)), some (.int e.1), none, none] [] e.2) (fun s x h K => ?_)
  unfold fX4_choose_L4 at h
  refine wq_iload_n hC dX4_choose_4 (i := 2) rfl rfl ?_
  refine wq_bipush hC (v := 73) dX4_choose_5 (by decide) ?_
  refine wq_icmp_ge hC dX4_choose_7 (tgt := 51) (by decide) (fun z1 => ?_) (fun z1 => ?_)
  · have h := wq_ip z1 h
    have h := Option.some.inj h
    subst h
    refine wq_mask [true, true, false, false] (lv' := [some (.ref (E.2.1 41)), some (.int s.1), none, none]) rfl ?_
    exact K
  · have h := wq_in_ z1 h
    refine wq_aload_n hC dX4_choose_10 (i := 0) rfl rfl ?_
    obtain ⟨q2, hq3, h⟩ := wq_ob h
    obtain ⟨z4, h⟩ := wq_ii h
    refine gf_4 hC oC_41 6 (.ref (E.2.1 q2)) (by decide) (gm_4_6 hq3) tw_157 dX4_choose_11 ?_
    refine wq_iload_n hC dX4_choose_14 (i := 2) rfl rfl ?_
    obtain ⟨z5, h⟩ := wq_ii h
    refine wq_ald hC (A_ok z4) z5 dX4_choose_15 ?_
    refine wq_istore_n hC dX4_choose_16 (i := 3) (lv' := [some (.ref (E.2.1 41)), some (.int s.1), some (.int s.2.1), some (.int (s.2.2.1 q2 s.2.1.toNatClampNeg))]) rfl (by decide) rfl ?_
    refine wq_iload_n hC dX4_choose_17 (i := 3) rfl rfl ?_
    refine wq_iconst hC (v := (-1)) dX4_choose_18 (by decide) ?_
    refine wq_icmp_eq hC dX4_choose_19 (tgt := 45) (by decide) (fun z6 => ?_) (fun z6 => ?_)
    · have h := wq_ip z6 h
      refine wq_iinc hC (v := (s.2.1 + 1)) dX4_choose_45 (lv' := [some (.ref (E.2.1 41)), some (.int s.1), some (.int (s.2.1 + 1)), some (.int (s.2.2.1 q2 s.2.1.toNatClampNeg))]) rfl rfl (by decide) rfl ?_
      refine wq_goto hC dX4_choose_48 (tgt := 4) (by decide) ?_
      have h := Option.some.inj h
      subst h
      refine wq_mask [true, true, true, false] (lv' := [some (.ref (E.2.1 41)), some (.int s.1), some (.int (s.2.1 + 1)), none]) rfl ?_
      exact K
    · have h := wq_in_ z6 h
      refine wq_iload_n hC dX4_choose_22 (i := 1) rfl rfl ?_
      refine wq_iconst hC (v := (-1)) dX4_choose_23 (by decide) ?_
      refine wq_icmp_eq hC dX4_choose_24 (tgt := 38) (by decide) (fun z7 => ?_) (fun z7 => ?_)
      · have h := wq_ip z7 h
        refine wq_iload_n hC dX4_choose_38 (i := 3) rfl rfl ?_
        refine wq_istore_n hC dX4_choose_39 (i := 1) (lv' := [some (.ref (E.2.1 41)), some (.int (s.2.2.1 q2 s.2.1.toNatClampNeg)), some (.int s.2.1), some (.int (s.2.2.1 q2 s.2.1.toNatClampNeg))]) rfl (by decide) rfl ?_
        refine wq_aload_n hC dX4_choose_40 (i := 0) rfl rfl ?_
        refine wq_iload_n hC dX4_choose_41 (i := 2) rfl rfl ?_
        refine pf_4_2 hC oC_41 tw_152 dX4_choose_42 ?_
        refine wq_iinc hC (v := (s.2.1 + 1)) dX4_choose_45 (lv' := [some (.ref (E.2.1 41)), some (.int (s.2.2.1 q2 s.2.1.toNatClampNeg)), some (.int (s.2.1 + 1)), some (.int (s.2.2.1 q2 s.2.1.toNatClampNeg))]) rfl rfl (by decide) rfl ?_
        refine wq_goto hC dX4_choose_48 (tgt := 4) (by decide) ?_
        have h := Option.some.inj h
        subst h
        refine wq_mask [true, true, true, false] (lv' := [some (.ref (E.2.1 41)), some (.int (s.2.2.1 q2 s.2.1.toNatClampNeg)), some (.int (s.2.1 + 1)), none]) rfl ?_
        exact K
      · have h := wq_in_ z7 h
        refine wq_iload_n hC dX4_choose_27 (i := 3) rfl rfl ?_
        refine wq_ldc hC (v := 390625) tw_489 dX4_choose_28 ?_
        refine wq_idiv hC dX4_choose_30 (by decide) ?_
        refine wq_iload_n hC dX4_choose_31 (i := 1) rfl rfl ?_
        refine wq_ldc hC (v := 390625) tw_489 dX4_choose_32 ?_
        refine wq_idiv hC dX4_choose_34 (by decide) ?_
        refine wq_icmp_ge hC dX4_choose_35 (tgt := 45) (by decide) (fun z8 => ?_) (fun z8 => ?_)
        · have h := wq_ip z8 h
          refine wq_iinc hC (v := (s.2.1 + 1)) dX4_choose_45 (lv' := [some (.ref (E.2.1 41)), some (.int s.1), some (.int (s.2.1 + 1)), some (.int (s.2.2.1 q2 s.2.1.toNatClampNeg))]) rfl rfl (by decide) rfl ?_
          refine wq_goto hC dX4_choose_48 (tgt := 4) (by decide) ?_
          have h := Option.some.inj h
          subst h
          refine wq_mask [true, true, true, false] (lv' := [some (.ref (E.2.1 41)), some (.int s.1), some (.int (s.2.1 + 1)), none]) rfl ?_
          exact K
        · have h := wq_in_ z8 h
          refine wq_iload_n hC dX4_choose_38 (i := 3) rfl rfl ?_
          refine wq_istore_n hC dX4_choose_39 (i := 1) (lv' := [some (.ref (E.2.1 41)), some (.int (s.2.2.1 q2 s.2.1.toNatClampNeg)), some (.int s.2.1), some (.int (s.2.2.1 q2 s.2.1.toNatClampNeg))]) rfl (by decide) rfl ?_
          refine wq_aload_n hC dX4_choose_40 (i := 0) rfl rfl ?_
          refine wq_iload_n hC dX4_choose_41 (i := 2) rfl rfl ?_
          refine pf_4_2 hC oC_41 tw_152 dX4_choose_42 ?_
          refine wq_iinc hC (v := (s.2.1 + 1)) dX4_choose_45 (lv' := [some (.ref (E.2.1 41)), some (.int (s.2.2.1 q2 s.2.1.toNatClampNeg)), some (.int (s.2.1 + 1)), some (.int (s.2.2.1 q2 s.2.1.toNatClampNeg))]) rfl rfl (by decide) rfl ?_
          refine wq_goto hC dX4_choose_48 (tgt := 4) (by decide) ?_
          have h := Option.some.inj h
          subst h
          refine wq_mask [true, true, true, false] (lv' := [some (.ref (E.2.1 41)), some (.int (s.2.2.1 q2 s.2.1.toNatClampNeg)), some (.int (s.2.1 + 1)), none]) rfl ?_
          exact K
def fX4_choose  (M : wq_M) : Option (Bool × wq_M) :=
  (wq_lp (fX4_choose_L4) wq_FU ((-1), 1, M)).bind fun e9 => (if e9.1 = (-1) then
    some (false, e9.2)
  else
    (fX4_tellString (e9.1 - e9.1 / 390625 * 390625) (wq_st e9.2 41 1 (e9.1 / 390625))).bind fun r12 => some (true, r12))
set_option maxHeartbeats 4000000 in
set_option maxRecDepth 100000 in
theorem ctX4_choose {l : Launch} {E : wq_E} {d : Nat} (hd0 : 2 ≤ d)  {M : wq_M} {r : (Bool × wq_M)}  (h : fX4_choose M = some r) : wq_ct l E wq_yC yX4_choose cX4_choose 4 (some .boolean) d [.ref (E.2.1 41)] M (some (.int (wq_b r.1))) r.2 := by
  refine wq_ent (own := "WellPipes$Search") (lv0 := [some (.ref (E.2.1 41)), none, none, none]) (by decide +kernel) rfl (Nat.le_of_ble_eq_true rfl) rfl (fun g h1 h2 hC => ?_)
  have K : wq_kB g r := ⟨h1, h2⟩
  unfold fX4_choose at h
  refine wq_iconst hC (v := (-1)) dX4_choose_0 (by decide) ?_
  refine wq_istore_n hC dX4_choose_1 (i := 1) (lv' := [some (.ref (E.2.1 41)), some (.int (-1)), none, none]) rfl (by decide) rfl ?_
  refine wq_iconst hC (v := 1) dX4_choose_2 (by decide) ?_
  refine wq_istore_n hC dX4_choose_3 (i := 2) (lv' := [some (.ref (E.2.1 41)), some (.int (-1)), some (.int 1), none]) rfl (by decide) rfl ?_
  obtain ⟨e9, hl10, h⟩ := wq_ob h
  refine gX4_choose_L4 hC hd0   wq_FU _ _ hl10 ?_
  refine wq_iload_n hC dX4_choose_51 (i := 1) rfl rfl ?_
  refine wq_iconst hC (v := (-1)) dX4_choose_52 (by decide) ?_
  refine wq_icmp_ne hC dX4_choose_53 (tgt := 58) (by decide) (fun z11 => ?_) (fun z11 => ?_)
  · have h := wq_in_ z11 h
    refine wq_aload_n hC dX4_choose_58 (i := 0) rfl rfl ?_
    refine wq_iload_n hC dX4_choose_59 (i := 1) rfl rfl ?_
    refine wq_ldc hC (v := 390625) tw_489 dX4_choose_60 ?_
    refine wq_idiv hC dX4_choose_62 (by decide) ?_
    refine pf_4_1 hC oC_41 tw_150 dX4_choose_63 ?_
    refine wq_aload_n hC dX4_choose_66 (i := 0) rfl rfl ?_
    refine wq_iload_n hC dX4_choose_67 (i := 1) rfl rfl ?_
    refine wq_ldc hC (v := 390625) tw_489 dX4_choose_68 ?_
    refine wq_irem hC dX4_choose_70 (by decide) ?_
    obtain ⟨r12, hc13, h⟩ := wq_ob h
    refine cv_4 hC (ctX4_tellString (d := d - 1) (by omega)  hc13) (by omega) (by decide) oC_41 rfl rfl npX4_tellString tw_500 tw_502 tw_17 tw_503 (st := []) (Nat.le_of_ble_eq_true rfl) rfl dX4_choose_71 (st1 := []) rfl ?_
    refine wq_iconst hC (v := 1) dX4_choose_74 (by decide) ?_
    have h := Option.some.inj h
    subst h
    exact wq_zret hC (b := true) dX4_choose_75 (by decide) K.1 K.2
  · have h := wq_ip z11 h
    refine wq_iconst hC (v := 0) dX4_choose_56 (by decide) ?_
    have h := Option.some.inj h
    subst h
    exact wq_zret hC (b := false) dX4_choose_57 (by decide) K.1 K.2
theorem npX4_find : yX4_find.cls ≠ "java/lang/invoke/MethodHandle" ∧ yX4_find.cls ≠ "java/lang/invoke/VarHandle" ∧ (parseMethodDescriptor yX4_find.desc).map (fun d => d.parameters.length) = some 2 := by decide +kernel
def fX4_find_L53_L64 (p1 : Nat) (x2 : Int32) (x3 : Int32) : (Int32 × wq_M) → Option ((Int32 × wq_M) ⊕ wq_M) := fun s =>
  (if (s.2.1 p1 1) ≤ s.1 then
    some (.inr s.2)
  else
    (if s.1 = x2 then
      some (.inl ((s.1 + 1), s.2))
    else
      (fX4_layOnAll x3 s.1 s.2).bind fun r21 => some (.inl ((s.1 + 1), r21))))
set_option maxHeartbeats 4000000 in
set_option maxRecDepth 100000 in
theorem gX4_find_L53_L64 {g : wq_G} {E : wq_E} {d : Nat} (hC : wq_C g E wq_yC cX4_find 5 "WellPipes$Search" (some .boolean) d) (hd0 : 5 ≤ d) (p1 : Nat) (x2 : Int32) (x3 : Int32) (hp1 : wq_W p1) : ∀ (n : Nat) (s : (Int32 × wq_M)) (e : wq_M), wq_lp (fX4_find_L53_L64 p1 x2 x3) n s = some e → (fun (e : wq_M) => wq_g g E wq_yC 5 92 [some (.ref (E.2.1 41)), some (.ref (E.2.1 p1)), some (.int x2), some (.int x3), none] [] e) e → wq_g g E wq_yC 5 64 [some (.ref (E.2.1 41)), some (.ref (E.2.1 p1)), some (.int x2), some (.int x3), some (.int s.1)] [] s.2 := by
  refine wq_lq_ok (fun (s : (Int32 × wq_M)) => wq_g g E wq_yC 5 64 [some (.ref (E.2.1 41)), some (.ref (E.2.1 p1)), some (.int x2), some (.int x3), some (.int s.1)] [] s.2) (fun (e : wq_M) => wq_g g E wq_yC 5 92 [some (.ref (E.2.1 41)), some (.ref (E.2.1 p1)), some (.int x2), some (.int x3), none] [] e) (fun s x h K => ?_)
  unfold fX4_find_L53_L64 at h
  refine wq_iload hC dX4_find_64 rfl ?_
  refine wq_aload_n hC dX4_find_66 (i := 1) rfl rfl ?_
  refine gf_5 hC hp1.1 1 (.int (s.2.1 p1 1)) (by decide) rfl tw_112 dX4_find_67 ?_
  refine wq_icmp_ge hC dX4_find_70 (tgt := 92) (by decide) (fun z19 => ?_) (fun z19 => ?_)
  · have h := wq_ip z19 h
    have h := Option.some.inj h
    subst h
    refine wq_mask [true, true, true, true, false] (lv' := [some (.ref (E.2.1 41)), some (.ref (E.2.1 p1)), some (.int x2), some (.int x3), none]) rfl ?_
    exact K
  · have h := wq_in_ z19 h
    refine wq_iload hC dX4_find_73 rfl ?_
    refine wq_iload_n hC dX4_find_75 (i := 2) rfl rfl ?_
    refine wq_icmp_eq hC dX4_find_76 (tgt := 86) (by decide) (fun z20 => ?_) (fun z20 => ?_)
    · have h := wq_ip z20 h
      refine wq_iinc hC (v := (s.1 + 1)) dX4_find_86 (lv' := [some (.ref (E.2.1 41)), some (.ref (E.2.1 p1)), some (.int x2), some (.int x3), some (.int (s.1 + 1))]) rfl rfl (by decide) rfl ?_
      refine wq_goto hC dX4_find_89 (tgt := 64) (by decide) ?_
      have h := Option.some.inj h
      subst h
      exact K
    · have h := wq_in_ z20 h
      refine wq_aload_n hC dX4_find_79 (i := 0) rfl rfl ?_
      refine wq_iload_n hC dX4_find_80 (i := 3) rfl rfl ?_
      refine wq_iload hC dX4_find_81 rfl ?_
      obtain ⟨r21, hc22, h⟩ := wq_ob h
      refine cv_4 hC (ctX4_layOnAll (d := d - 1) (by omega)  hc22) (by omega) (by decide) oC_41 rfl rfl npX4_layOnAll tw_447 tw_449 tw_14 tw_450 (st := []) (Nat.le_of_ble_eq_true rfl) rfl dX4_find_83 (st1 := []) rfl ?_
      refine wq_iinc hC (v := (s.1 + 1)) dX4_find_86 (lv' := [some (.ref (E.2.1 41)), some (.ref (E.2.1 p1)), some (.int x2), some (.int x3), some (.int (s.1 + 1))]) rfl rfl (by decide) rfl ?_
      refine wq_goto hC dX4_find_89 (tgt := 64) (by decide) ?_
      have h := Option.some.inj h
      subst h
      exact K
def fX4_find_L53 (p1 : Nat) (x2 : Int32) : (Int32 × wq_M) → Option ((Int32 × wq_M) ⊕ wq_M) := fun s =>
  (if s.1 < 0 then
    some (.inr s.2)
  else
    (fX4_swap  s.2).bind fun r17 => (wq_lp (fX4_find_L53_L64 p1 x2 s.1) wq_FU (0, r17)).bind fun e23 => some (.inl ((s.1 + (-1)), e23)))
set_option maxHeartbeats 4000000 in
set_option maxRecDepth 100000 in
theorem gX4_find_L53 {g : wq_G} {E : wq_E} {d : Nat} (hC : wq_C g E wq_yC cX4_find 5 "WellPipes$Search" (some .boolean) d) (hd0 : 5 ≤ d) (p1 : Nat) (x2 : Int32) (hp1 : wq_W p1) : ∀ (n : Nat) (s : (Int32 × wq_M)) (e : wq_M), wq_lp (fX4_find_L53 p1 x2) n s = some e → (fun (e : wq_M) => wq_g g E wq_yC 5 98 [some (.ref (E.2.1 41)), none, none, none, none] [] e) e → wq_g g E wq_yC 5 53 [some (.ref (E.2.1 41)), some (.ref (E.2.1 p1)), some (.int x2), some (.int s.1), none] [] s.2 := by
  refine wq_lq_ok (fun (s : (Int32 × wq_M)) => wq_g g E wq_yC 5 53 [some (.ref (E.2.1 41)), some (.ref (E.2.1 p1)), some (.int x2), some (.int s.1), none] [] s.2) (fun (e : wq_M) => wq_g g E wq_yC 5 98 [some (.ref (E.2.1 41)), none, none, none, none] [] e) (fun s x h K => ?_)
  unfold fX4_find_L53 at h
  refine wq_iload_n hC dX4_find_53 (i := 3) rfl rfl ?_
  refine wq_if_lt hC dX4_find_54 (tgt := 98) (by decide) (fun z16 => ?_) (fun z16 => ?_)
  · have h := wq_ip z16 h
    have h := Option.some.inj h
    subst h
    refine wq_mask [true, false, false, false, false] (lv' := [some (.ref (E.2.1 41)), none, none, none, none]) rfl ?_
    exact K
  · have h := wq_in_ z16 h
    refine wq_aload_n hC dX4_find_57 (i := 0) rfl rfl ?_
    obtain ⟨r17, hc18, h⟩ := wq_ob h
    refine cv_4 hC (ctX4_swap (d := d - 1) (by omega)  hc18) (by omega) (by decide) oC_41 rfl rfl npX4_swap tw_443 tw_445 tw_13 tw_446 (st := []) (Nat.le_of_ble_eq_true rfl) rfl dX4_find_58 (st1 := []) rfl ?_
    refine wq_iconst hC (v := 0) dX4_find_61 (by decide) ?_
    refine wq_istore hC dX4_find_62 (lv' := [some (.ref (E.2.1 41)), some (.ref (E.2.1 p1)), some (.int x2), some (.int s.1), some (.int 0)]) (by decide) rfl ?_
    obtain ⟨e23, hl24, h⟩ := wq_ob h
    refine gX4_find_L53_L64 hC hd0 p1 x2 s.1 hp1 wq_FU _ _ hl24 ?_
    refine wq_iinc hC (v := (s.1 + (-1))) dX4_find_92 (lv' := [some (.ref (E.2.1 41)), some (.ref (E.2.1 p1)), some (.int x2), some (.int (s.1 + (-1))), none]) rfl rfl (by decide) rfl ?_
    refine wq_goto hC dX4_find_95 (tgt := 53) (by decide) ?_
    have h := Option.some.inj h
    subst h
    exact K
def fX4_find (p1 : Nat) (x2 : Int32) (M : wq_M) : Option (Bool × wq_M) :=
  if wq_in 3 4 then ((wq_st (wq_sr M 41 7 (some p1)) 41 8 (if 1 < (if ((wq_sr M 41 7 (some p1)).1 (p1 + 1) (3 : Int32).toNatClampNeg) < 3 then ((wq_sr M 41 7 (some p1)).1 (p1 + 1) (3 : Int32).toNatClampNeg) else 3) then (if ((wq_sr M 41 7 (some p1)).1 (p1 + 1) (3 : Int32).toNatClampNeg) < 3 then ((wq_sr M 41 7 (some p1)).1 (p1 + 1) (3 : Int32).toNatClampNeg) else 3) else 1)).2 41 4).bind fun q2 => if wq_okA q2 then (fJ7_fill_53178 q2 (-1) (wq_st (wq_sr M 41 7 (some p1)) 41 8 (if 1 < (if ((wq_sr M 41 7 (some p1)).1 (p1 + 1) (3 : Int32).toNatClampNeg) < 3 then ((wq_sr M 41 7 (some p1)).1 (p1 + 1) (3 : Int32).toNatClampNeg) else 3) then (if ((wq_sr M 41 7 (some p1)).1 (p1 + 1) (3 : Int32).toNatClampNeg) < 3 then ((wq_sr M 41 7 (some p1)).1 (p1 + 1) (3 : Int32).toNatClampNeg) else 3) else 1))).bind fun r5 => (r5.2 41 6).bind fun q7 => if wq_okA q7 then (fJ7_fill_53178 q7 (-1) r5).bind fun r10 => (r10.2 41 6).bind fun q12 => if wq_okA q12 then if wq_in 0 (wq_yC.2.2 q12) then (wq_lp (fX4_find_L53 p1 x2) wq_FU ((((wq_st r10 q12 (0 : Int32).toNatClampNeg 0).1 p1 0) - 1), (wq_st r10 q12 (0 : Int32).toNatClampNeg 0))).bind fun e25 => (fX4_choose  e25).bind fun r27 => some (r27.1, r27.2) else none else none else none else none else none
set_option maxHeartbeats 4000000 in
set_option maxRecDepth 100000 in
theorem ctX4_find {l : Launch} {E : wq_E} {d : Nat} (hd0 : 5 ≤ d) {p1 : Nat} {x2 : Int32} {M : wq_M} {r : (Bool × wq_M)} (hp1 : wq_W p1) (h : fX4_find p1 x2 M = some r) : wq_ct l E wq_yC yX4_find cX4_find 5 (some .boolean) d [.ref (E.2.1 41), .ref (E.2.1 p1), .int x2] M (some (.int (wq_b r.1))) r.2 := by
  refine wq_ent (own := "WellPipes$Search") (lv0 := [some (.ref (E.2.1 41)), some (.ref (E.2.1 p1)), some (.int x2), none, none]) (by decide +kernel) rfl (Nat.le_of_ble_eq_true rfl) rfl (fun g h1 h2 hC => ?_)
  have K : wq_kB g r := ⟨h1, h2⟩
  unfold fX4_find at h
  refine wq_aload_n hC dX4_find_0 (i := 0) rfl rfl ?_
  refine wq_aload_n hC dX4_find_1 (i := 1) rfl rfl ?_
  refine pf_4_7 hC oC_41 tw_158 dX4_find_2 ?_
  refine wq_aload_n hC dX4_find_5 (i := 0) rfl rfl ?_
  refine wq_iconst hC (v := 1) dX4_find_6 (by decide) ?_
  refine wq_iconst hC (v := 3) dX4_find_7 (by decide) ?_
  refine wq_aload_n hC dX4_find_8 (i := 1) rfl rfl ?_
  refine gf_5 hC hp1.1 2 (.ref (E.2.1 (p1 + 1))) (by decide) rfl tw_116 dX4_find_9 ?_
  refine wq_iconst hC (v := 3) dX4_find_12 (by decide) ?_
  obtain ⟨z1, h⟩ := wq_ii h
  refine wq_ald hC hp1.2.1 z1 dX4_find_13 ?_
  refine wq_mmin hC (st := [.int 1, .ref (E.2.1 41)]) tw_436 (Nat.le_of_ble_eq_true rfl) dX4_find_14 ?_
  refine wq_mmax hC (st := [.ref (E.2.1 41)]) tw_439 (Nat.le_of_ble_eq_true rfl) dX4_find_17 ?_
  refine pf_4_8 hC oC_41 tw_159 dX4_find_20 ?_
  refine wq_aload_n hC dX4_find_23 (i := 0) rfl rfl ?_
  obtain ⟨q2, hq3, h⟩ := wq_ob h
  obtain ⟨z4, h⟩ := wq_ii h
  refine gf_4 hC oC_41 4 (.ref (E.2.1 q2)) (by decide) (gm_4_4 hq3) tw_155 dX4_find_24 ?_
  refine wq_iconst hC (v := (-1)) dX4_find_27 (by decide) ?_
  obtain ⟨r5, hc6, h⟩ := wq_ob h
  refine wq_callS hC (ctJ7_fill_53178 (d := d - 1) (by omega) (wq_aL (A_ok z4)) hc6) (by omega) (by decide) rfl npJ7_fill_53178 tw_442 tw_281 tw_59 tw_282 (st := []) (Nat.le_of_ble_eq_true rfl) rfl dX4_find_28 (st1 := []) rfl ?_
  refine wq_aload_n hC dX4_find_31 (i := 0) rfl rfl ?_
  obtain ⟨q7, hq8, h⟩ := wq_ob h
  obtain ⟨z9, h⟩ := wq_ii h
  refine gf_4 hC oC_41 6 (.ref (E.2.1 q7)) (by decide) (gm_4_6 hq8) tw_157 dX4_find_32 ?_
  refine wq_iconst hC (v := (-1)) dX4_find_35 (by decide) ?_
  obtain ⟨r10, hc11, h⟩ := wq_ob h
  refine wq_callS hC (ctJ7_fill_53178 (d := d - 1) (by omega) (wq_aL (A_ok z9)) hc11) (by omega) (by decide) rfl npJ7_fill_53178 tw_442 tw_281 tw_59 tw_282 (st := []) (Nat.le_of_ble_eq_true rfl) rfl dX4_find_36 (st1 := []) rfl ?_
  refine wq_aload_n hC dX4_find_39 (i := 0) rfl rfl ?_
  obtain ⟨q12, hq13, h⟩ := wq_ob h
  obtain ⟨z14, h⟩ := wq_ii h
  refine gf_4 hC oC_41 6 (.ref (E.2.1 q12)) (by decide) (gm_4_6 hq13) tw_157 dX4_find_40 ?_
  refine wq_iconst hC (v := 0) dX4_find_43 (by decide) ?_
  refine wq_iconst hC (v := 0) dX4_find_44 (by decide) ?_
  obtain ⟨z15, h⟩ := wq_ii h
  refine wq_ast hC (A_ok z14) z15 dX4_find_45 ?_
  refine wq_aload_n hC dX4_find_46 (i := 1) rfl rfl ?_
  refine gf_5 hC hp1.1 0 (.int ((wq_st r10 q12 (0 : Int32).toNatClampNeg 0).1 p1 0)) (by decide) rfl tw_108 dX4_find_47 ?_
  refine wq_iconst hC (v := 1) dX4_find_50 (by decide) ?_
  refine wq_isub hC dX4_find_51 ?_
  refine wq_istore_n hC dX4_find_52 (i := 3) (lv' := [some (.ref (E.2.1 41)), some (.ref (E.2.1 p1)), some (.int x2), some (.int (((wq_st r10 q12 (0 : Int32).toNatClampNeg 0).1 p1 0) - 1)), none]) rfl (by decide) rfl ?_
  obtain ⟨e25, hl26, h⟩ := wq_ob h
  refine gX4_find_L53 hC hd0 p1 x2 hp1 wq_FU _ _ hl26 ?_
  refine wq_aload_n hC dX4_find_98 (i := 0) rfl rfl ?_
  obtain ⟨r27, hc28, h⟩ := wq_ob h
  refine cv_4 hC (ctX4_choose (d := d - 1) (by omega)  hc28) (by omega) (by decide) oC_41 rfl rfl npX4_choose tw_496 tw_498 tw_16 tw_499 (st := []) (Nat.le_of_ble_eq_true rfl) rfl dX4_find_99 (st1 := [.int (wq_b r27.1)]) rfl ?_
  have h := Option.some.inj h
  subst h
  exact wq_zret hC dX4_find_102 rfl K.1 K.2
