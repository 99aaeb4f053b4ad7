theorem npX5_becomes : yX5_becomes.cls ≠ "java/lang/invoke/MethodHandle" ∧ yX5_becomes.cls ≠ "java/lang/invoke/VarHandle" ∧ (parseMethodDescriptor yX5_becomes.desc).map (fun d => d.parameters.length) = some 1 := by decide +kernel
def fX5_becomes (p0 : Nat) (p1 : Nat) (M : wq_M) : Option wq_M :=
  if wq_cpk 0 0 4 4 4 then if wq_cpk 0 0 5 5 5 then if wq_cpk 0 0 25 25 25 then if wq_cpk 0 0 8 8 8 then some (wq_cp (wq_cp (wq_cp (wq_cp (wq_st (wq_st M p0 0 (M.1 p1 0)) p0 1 ((wq_st M p0 0 (M.1 p1 0)).1 p1 1)) (p1 + 1) (0 : Int32).toNatClampNeg (p0 + 1) (0 : Int32).toNatClampNeg (4 : Int32).toNatClampNeg) (p1 + 2) (0 : Int32).toNatClampNeg (p0 + 2) (0 : Int32).toNatClampNeg (5 : Int32).toNatClampNeg) (p1 + 3) (0 : Int32).toNatClampNeg (p0 + 3) (0 : Int32).toNatClampNeg (25 : Int32).toNatClampNeg) (p1 + 4) (0 : Int32).toNatClampNeg (p0 + 4) (0 : Int32).toNatClampNeg (8 : Int32).toNatClampNeg) else none else none else none else none
set_option maxHeartbeats 4000000 in
set_option maxRecDepth 100000 in
theorem ctX5_becomes {l : Launch} {E : wq_E} {d : Nat} (hd0 : 0 ≤ d) {p0 : Nat} {p1 : Nat} {M : wq_M} {r : wq_M} (hp0 : wq_W p0) (hp1 : wq_W p1) (h : fX5_becomes p0 p1 M = some r) : wq_ct l E wq_yC yX5_becomes cX5_becomes 2 (none) d [.ref (E.2.1 p0), .ref (E.2.1 p1)] M (none) r := by
  refine wq_ent (own := "WellPipes$Well") (lv0 := [some (.ref (E.2.1 p0)), some (.ref (E.2.1 p1))]) (by decide +kernel) rfl (Nat.le_of_ble_eq_true rfl) rfl (fun g h1 h2 hC => ?_)
  have K : wq_kV g r := ⟨h1, h2⟩
  unfold fX5_becomes at h
  refine wq_aload_n hC dX5_becomes_0 (i := 0) rfl rfl ?_
  refine wq_aload_n hC dX5_becomes_1 (i := 1) rfl rfl ?_
  refine gf_5 hC hp1.1 0 (.int (M.1 p1 0)) (by decide) rfl tw_107 dX5_becomes_2 ?_
  refine pf_5_0 hC hp0.1 tw_107 dX5_becomes_5 ?_
  refine wq_aload_n hC dX5_becomes_8 (i := 0) rfl rfl ?_
  refine wq_aload_n hC dX5_becomes_9 (i := 1) rfl rfl ?_
  refine gf_5 hC hp1.1 1 (.int ((wq_st M p0 0 (M.1 p1 0)).1 p1 1)) (by decide) rfl tw_111 dX5_becomes_10 ?_
  refine pf_5_1 hC hp0.1 tw_111 dX5_becomes_13 ?_
  refine wq_aload_n hC dX5_becomes_16 (i := 1) rfl rfl ?_
  refine gf_5 hC hp1.1 2 (.ref (E.2.1 (p1 + 1))) (by decide) rfl tw_115 dX5_becomes_17 ?_
  refine wq_iconst hC (v := 0) dX5_becomes_20 (by decide) ?_
  refine wq_aload_n hC dX5_becomes_21 (i := 0) rfl rfl ?_
  refine gf_5 hC hp0.1 2 (.ref (E.2.1 (p0 + 1))) (by decide) rfl tw_115 dX5_becomes_22 ?_
  refine wq_iconst hC (v := 0) dX5_becomes_25 (by decide) ?_
  refine wq_iconst hC (v := 4) dX5_becomes_26 (by decide) ?_
  obtain ⟨z1, h⟩ := wq_ii h
  refine wq_acp hC (st := []) tw_379 hp1.2.1 hp0.2.1 z1 (Nat.le_of_ble_eq_true rfl) dX5_becomes_27 ?_
  refine wq_aload_n hC dX5_becomes_30 (i := 1) rfl rfl ?_
  refine gf_5 hC hp1.1 3 (.ref (E.2.1 (p1 + 2))) (by decide) rfl tw_120 dX5_becomes_31 ?_
  refine wq_iconst hC (v := 0) dX5_becomes_34 (by decide) ?_
  refine wq_aload_n hC dX5_becomes_35 (i := 0) rfl rfl ?_
  refine gf_5 hC hp0.1 3 (.ref (E.2.1 (p0 + 2))) (by decide) rfl tw_120 dX5_becomes_36 ?_
  refine wq_iconst hC (v := 0) dX5_becomes_39 (by decide) ?_
  refine wq_iconst hC (v := 5) dX5_becomes_40 (by decide) ?_
  obtain ⟨z2, h⟩ := wq_ii h
  refine wq_acp hC (st := []) tw_379 hp1.2.2.1 hp0.2.2.1 z2 (Nat.le_of_ble_eq_true rfl) dX5_becomes_41 ?_
  refine wq_aload_n hC dX5_becomes_44 (i := 1) rfl rfl ?_
  refine gf_5 hC hp1.1 4 (.ref (E.2.1 (p1 + 3))) (by decide) rfl tw_124 dX5_becomes_45 ?_
  refine wq_iconst hC (v := 0) dX5_becomes_48 (by decide) ?_
  refine wq_aload_n hC dX5_becomes_49 (i := 0) rfl rfl ?_
  refine gf_5 hC hp0.1 4 (.ref (E.2.1 (p0 + 3))) (by decide) rfl tw_124 dX5_becomes_50 ?_
  refine wq_iconst hC (v := 0) dX5_becomes_53 (by decide) ?_
  refine wq_bipush hC (v := 25) dX5_becomes_54 (by decide) ?_
  obtain ⟨z3, h⟩ := wq_ii h
  refine wq_acp hC (st := []) tw_379 hp1.2.2.2.1 hp0.2.2.2.1 z3 (Nat.le_of_ble_eq_true rfl) dX5_becomes_56 ?_
  refine wq_aload_n hC dX5_becomes_59 (i := 1) rfl rfl ?_
  refine gf_5 hC hp1.1 5 (.ref (E.2.1 (p1 + 4))) (by decide) rfl tw_125 dX5_becomes_60 ?_
  refine wq_iconst hC (v := 0) dX5_becomes_63 (by decide) ?_
  refine wq_aload_n hC dX5_becomes_64 (i := 0) rfl rfl ?_
  refine gf_5 hC hp0.1 5 (.ref (E.2.1 (p0 + 4))) (by decide) rfl tw_125 dX5_becomes_65 ?_
  refine wq_iconst hC (v := 0) dX5_becomes_68 (by decide) ?_
  refine wq_bipush hC (v := 8) dX5_becomes_69 (by decide) ?_
  obtain ⟨z4, h⟩ := wq_ii h
  refine wq_acp hC (st := []) tw_379 hp1.2.2.2.2 hp0.2.2.2.2 z4 (Nat.le_of_ble_eq_true rfl) dX5_becomes_71 ?_
  have h := Option.some.inj h
  subst h
  exact wq_vret hC dX5_becomes_74 K.1 K.2
theorem npX5_figure : yX5_figure.cls ≠ "java/lang/invoke/MethodHandle" ∧ yX5_figure.cls ≠ "java/lang/invoke/VarHandle" ∧ (parseMethodDescriptor yX5_figure.desc).map (fun d => d.parameters.length) = some 2 := by decide +kernel
def fX5_figure (p0 : Nat) (x1 : Int32) (x2 : Int32) (M : wq_M) : Option Int32 :=
  if wq_in ((x1 * 5) + x2) 25 then some (M.1 (p0 + 3) ((x1 * 5) + x2).toNatClampNeg) else none
set_option maxHeartbeats 4000000 in
set_option maxRecDepth 100000 in
theorem ctX5_figure {l : Launch} {E : wq_E} {d : Nat} (hd0 : 0 ≤ d) {p0 : Nat} {x1 : Int32} {x2 : Int32} {M : wq_M} {r : Int32} (hp0 : wq_W p0) (h : fX5_figure p0 x1 x2 M = some r) : wq_ct l E wq_yC yX5_figure cX5_figure 3 (some .int) d [.ref (E.2.1 p0), .int x1, .int x2] M (some (.int r)) M := by
  refine wq_ent (own := "WellPipes$Well") (lv0 := [some (.ref (E.2.1 p0)), some (.int x1), some (.int x2)]) (by decide +kernel) rfl (Nat.le_of_ble_eq_true rfl) rfl (fun g h1 h2 hC => ?_)
  have K : wq_ki g M r := ⟨h1, h2⟩
  unfold fX5_figure at h
  refine wq_aload_n hC dX5_figure_0 (i := 0) rfl rfl ?_
  refine gf_5 hC hp0.1 4 (.ref (E.2.1 (p0 + 3))) (by decide) rfl tw_124 dX5_figure_1 ?_
  refine wq_iload_n hC dX5_figure_4 (i := 1) rfl rfl ?_
  refine wq_iconst hC (v := 5) dX5_figure_5 (by decide) ?_
  refine wq_imul hC dX5_figure_6 ?_
  refine wq_iload_n hC dX5_figure_7 (i := 2) rfl rfl ?_
  refine wq_iadd hC dX5_figure_8 ?_
  obtain ⟨z1, h⟩ := wq_ii h
  refine wq_ald hC hp0.2.2.2.1 z1 dX5_figure_9 ?_
  have h := Option.some.inj h
  subst h
  exact wq_iret hC dX5_figure_10 K.1 K.2
theorem npX5_putFigure : yX5_putFigure.cls ≠ "java/lang/invoke/MethodHandle" ∧ yX5_putFigure.cls ≠ "java/lang/invoke/VarHandle" ∧ (parseMethodDescriptor yX5_putFigure.desc).map (fun d => d.parameters.length) = some 3 := by decide +kernel
def fX5_putFigure (p0 : Nat) (x1 : Int32) (x2 : Int32) (x3 : Int32) (M : wq_M) : Option wq_M :=
  if wq_in ((x1 * 5) + x2) 25 then some (wq_st M (p0 + 3) ((x1 * 5) + x2).toNatClampNeg x3) else none
set_option maxHeartbeats 4000000 in
set_option maxRecDepth 100000 in
theorem ctX5_putFigure {l : Launch} {E : wq_E} {d : Nat} (hd0 : 0 ≤ d) {p0 : Nat} {x1 : Int32} {x2 : Int32} {x3 : Int32} {M : wq_M} {r : wq_M} (hp0 : wq_W p0) (h : fX5_putFigure p0 x1 x2 x3 M = some r) : wq_ct l E wq_yC yX5_putFigure cX5_putFigure 4 (none) d [.ref (E.2.1 p0), .int x1, .int x2, .int x3] M (none) r := by
  refine wq_ent (own := "WellPipes$Well") (lv0 := [some (.ref (E.2.1 p0)), some (.int x1), some (.int x2), some (.int x3)]) (by decide +kernel) rfl (Nat.le_of_ble_eq_true rfl) rfl (fun g h1 h2 hC => ?_)
  have K : wq_kV g r := ⟨h1, h2⟩
  unfold fX5_putFigure at h
  refine wq_aload_n hC dX5_putFigure_0 (i := 0) rfl rfl ?_
  refine gf_5 hC hp0.1 4 (.ref (E.2.1 (p0 + 3))) (by decide) rfl tw_124 dX5_putFigure_1 ?_
  refine wq_iload_n hC dX5_putFigure_4 (i := 1) rfl rfl ?_
  refine wq_iconst hC (v := 5) dX5_putFigure_5 (by decide) ?_
  refine wq_imul hC dX5_putFigure_6 ?_
  refine wq_iload_n hC dX5_putFigure_7 (i := 2) rfl rfl ?_
  refine wq_iadd hC dX5_putFigure_8 ?_
  refine wq_iload_n hC dX5_putFigure_9 (i := 3) rfl rfl ?_
  obtain ⟨z1, h⟩ := wq_ii h
  refine wq_ast hC hp0.2.2.2.1 z1 dX5_putFigure_10 ?_
  have h := Option.some.inj h
  subst h
  exact wq_vret hC dX5_putFigure_11 K.1 K.2
theorem npX5_laidFigure : yX5_laidFigure.cls ≠ "java/lang/invoke/MethodHandle" ∧ yX5_laidFigure.cls ≠ "java/lang/invoke/VarHandle" ∧ (parseMethodDescriptor yX5_laidFigure.desc).map (fun d => d.parameters.length) = some 2 := by decide +kernel
def fX5_laidFigure (p0 : Nat) (x1 : Int32) (x2 : Int32) (M : wq_M) : Option Int32 :=
  if wq_in x1 8 then (if (M.1 (p0 + 4) x1.toNatClampNeg) = (-1) then
    some 0
  else
    if wq_in x1 8 then (fX5_figure p0 (M.1 (p0 + 4) x1.toNatClampNeg) x2 M).bind fun r4 => some r4 else none) else none
set_option maxHeartbeats 4000000 in
set_option maxRecDepth 100000 in
theorem ctX5_laidFigure {l : Launch} {E : wq_E} {d : Nat} (hd0 : 1 ≤ d) {p0 : Nat} {x1 : Int32} {x2 : Int32} {M : wq_M} {r : Int32} (hp0 : wq_W p0) (h : fX5_laidFigure p0 x1 x2 M = some r) : wq_ct l E wq_yC yX5_laidFigure cX5_laidFigure 3 (some .int) d [.ref (E.2.1 p0), .int x1, .int x2] M (some (.int r)) M := by
  refine wq_ent (own := "WellPipes$Well") (lv0 := [some (.ref (E.2.1 p0)), some (.int x1), some (.int x2)]) (by decide +kernel) rfl (Nat.le_of_ble_eq_true rfl) rfl (fun g h1 h2 hC => ?_)
  have K : wq_ki g M r := ⟨h1, h2⟩
  unfold fX5_laidFigure at h
  refine wq_aload_n hC dX5_laidFigure_0 (i := 0) rfl rfl ?_
  refine gf_5 hC hp0.1 5 (.ref (E.2.1 (p0 + 4))) (by decide) rfl tw_125 dX5_laidFigure_1 ?_
  refine wq_iload_n hC dX5_laidFigure_4 (i := 1) rfl rfl ?_
  obtain ⟨z1, h⟩ := wq_ii h
  refine wq_ald hC hp0.2.2.2.2 z1 dX5_laidFigure_5 ?_
  refine wq_iconst hC (v := (-1)) dX5_laidFigure_6 (by decide) ?_
  refine wq_icmp_ne hC dX5_laidFigure_7 (tgt := 14) (by decide) (fun z2 => ?_) (fun z2 => ?_)
  · have h := wq_in_ z2 h
    refine wq_aload_n hC dX5_laidFigure_14 (i := 0) rfl rfl ?_
    refine wq_aload_n hC dX5_laidFigure_15 (i := 0) rfl rfl ?_
    refine gf_5 hC hp0.1 5 (.ref (E.2.1 (p0 + 4))) (by decide) rfl tw_125 dX5_laidFigure_16 ?_
    refine wq_iload_n hC dX5_laidFigure_19 (i := 1) rfl rfl ?_
    obtain ⟨z3, h⟩ := wq_ii h
    refine wq_ald hC hp0.2.2.2.2 z3 dX5_laidFigure_20 ?_
    refine wq_iload_n hC dX5_laidFigure_21 (i := 2) rfl rfl ?_
    obtain ⟨r4, hc5, h⟩ := wq_ob h
    refine cv_5 hC (ctX5_figure (d := d - 1) (by omega) hp0 hc5) (by omega) (by decide) hp0.1 rfl rfl npX5_figure tw_463 tw_452 tw_453 tw_454 (st := []) (Nat.le_of_ble_eq_true rfl) rfl dX5_laidFigure_22 (st1 := [.int r4]) rfl ?_
    have h := Option.some.inj h
    subst h
    exact wq_iret hC dX5_laidFigure_25 K.1 K.2
  · have h := wq_ip z2 h
    refine wq_iconst hC (v := 0) dX5_laidFigure_10 (by decide) ?_
    refine wq_goto hC dX5_laidFigure_11 (tgt := 25) (by decide) ?_
    have h := Option.some.inj h
    subst h
    exact wq_iret hC dX5_laidFigure_25 K.1 K.2
theorem npX5_sumOfLaid : yX5_sumOfLaid.cls ≠ "java/lang/invoke/MethodHandle" ∧ yX5_sumOfLaid.cls ≠ "java/lang/invoke/VarHandle" ∧ (parseMethodDescriptor yX5_sumOfLaid.desc).map (fun d => d.parameters.length) = some 1 := by decide +kernel
def fX5_sumOfLaid_L4 (p0 : Nat) (x1 : Int32) (M : wq_M) : (Int32 × Int32) → Option ((Int32 × Int32) ⊕ Int32) := fun s =>
  (if (M.1 p0 0) ≤ s.2 then
    some (.inr s.1)
  else
    (fX5_laidFigure p0 s.2 x1 M).bind fun r2 => some (.inl ((s.1 + r2), (s.2 + 1))))
set_option maxHeartbeats 4000000 in
set_option maxRecDepth 100000 in
theorem gX5_sumOfLaid_L4 {g : wq_G} {E : wq_E} {d : Nat} (hC : wq_C g E wq_yC cX5_sumOfLaid 4 "WellPipes$Well" (some .int) d) (hd0 : 2 ≤ d) (p0 : Nat) (x1 : Int32) (M : wq_M) (hp0 : wq_W p0) : ∀ (n : Nat) (s : (Int32 × Int32)) (e : Int32), wq_lp (fX5_sumOfLaid_L4 p0 x1 M) n s = some e → (fun (e : Int32) => wq_g g E wq_yC 4 27 [none, none, some (.int e), none] [] M) e → wq_g g E wq_yC 4 4 [some (.ref (E.2.1 p0)), some (.int x1), some (.int s.1), some (.int s.2)] [] M := by
  refine wq_lq_ok (fun (s : (Int32 × Int32)) => wq_g g E wq_yC 4 4 [some (.ref (E.2.1 p0)), some (.int x1), some (.int s.1), some (.int s.2)] [] M) (fun (e : Int32) => wq_g g E wq_yC 4 27 [none, none, some (.int e), none] [] M) (fun s x h K => ?_)
  unfold fX5_sumOfLaid_L4 at h
  refine wq_iload_n hC dX5_sumOfLaid_4 (i := 3) rfl rfl ?_
  refine wq_aload_n hC dX5_sumOfLaid_5 (i := 0) rfl rfl ?_
  refine gf_5 hC hp0.1 0 (.int (M.1 p0 0)) (by decide) rfl tw_107 dX5_sumOfLaid_6 ?_
  refine wq_icmp_ge hC dX5_sumOfLaid_9 (tgt := 27) (by decide) (fun z1 => ?_) (fun z1 => ?_)
  · have h := wq_ip z1 h
    have h := Option.some.inj h
    subst h
    refine wq_mask [false, false, true, false] (lv' := [none, none, some (.int s.1), none]) rfl ?_
    exact K
  · have h := wq_in_ z1 h
    refine wq_iload_n hC dX5_sumOfLaid_12 (i := 2) rfl rfl ?_
    refine wq_aload_n hC dX5_sumOfLaid_13 (i := 0) rfl rfl ?_
    refine wq_iload_n hC dX5_sumOfLaid_14 (i := 3) rfl rfl ?_
    refine wq_iload_n hC dX5_sumOfLaid_15 (i := 1) rfl rfl ?_
    obtain ⟨r2, hc3, h⟩ := wq_ob h
    refine cv_5 hC (ctX5_laidFigure (d := d - 1) (by omega) hp0 hc3) (by omega) (by decide) hp0.1 rfl rfl npX5_laidFigure tw_531 tw_532 tw_533 tw_534 (st := [.int s.1]) (Nat.le_of_ble_eq_true rfl) rfl dX5_sumOfLaid_16 (st1 := [.int r2, .int s.1]) rfl ?_
    refine wq_iadd hC dX5_sumOfLaid_19 ?_
    refine wq_istore_n hC dX5_sumOfLaid_20 (i := 2) (lv' := [some (.ref (E.2.1 p0)), some (.int x1), some (.int (s.1 + r2)), some (.int s.2)]) rfl (by decide) rfl ?_
    refine wq_iinc hC (v := (s.2 + 1)) dX5_sumOfLaid_21 (lv' := [some (.ref (E.2.1 p0)), some (.int x1), some (.int (s.1 + r2)), some (.int (s.2 + 1))]) rfl rfl (by decide) rfl ?_
    refine wq_goto hC dX5_sumOfLaid_24 (tgt := 4) (by decide) ?_
    have h := Option.some.inj h
    subst h
    exact K
def fX5_sumOfLaid (p0 : Nat) (x1 : Int32) (M : wq_M) : Option Int32 :=
  (wq_lp (fX5_sumOfLaid_L4 p0 x1 M) wq_FU (0, 0)).bind fun e4 => some e4
set_option maxHeartbeats 4000000 in
set_option maxRecDepth 100000 in
theorem ctX5_sumOfLaid {l : Launch} {E : wq_E} {d : Nat} (hd0 : 2 ≤ d) {p0 : Nat} {x1 : Int32} {M : wq_M} {r : Int32} (hp0 : wq_W p0) (h : fX5_sumOfLaid p0 x1 M = some r) : wq_ct l E wq_yC yX5_sumOfLaid cX5_sumOfLaid 4 (some .int) d [.ref (E.2.1 p0), .int x1] M (some (.int r)) M := by
  refine wq_ent (own := "WellPipes$Well") (lv0 := [some (.ref (E.2.1 p0)), some (.int x1), none, none]) (by decide +kernel) rfl (Nat.le_of_ble_eq_true rfl) rfl (fun g h1 h2 hC => ?_)
  have K : wq_ki g M r := ⟨h1, h2⟩
  unfold fX5_sumOfLaid at h
  refine wq_iconst hC (v := 0) dX5_sumOfLaid_0 (by decide) ?_
  refine wq_istore_n hC dX5_sumOfLaid_1 (i := 2) (lv' := [some (.ref (E.2.1 p0)), some (.int x1), some (.int 0), none]) rfl (by decide) rfl ?_
  refine wq_iconst hC (v := 0) dX5_sumOfLaid_2 (by decide) ?_
  refine wq_istore_n hC dX5_sumOfLaid_3 (i := 3) (lv' := [some (.ref (E.2.1 p0)), some (.int x1), some (.int 0), some (.int 0)]) rfl (by decide) rfl ?_
  obtain ⟨e4, hl5, h⟩ := wq_ob h
  refine gX5_sumOfLaid_L4 hC hd0 p0 x1 M hp0 wq_FU _ _ hl5 ?_
  refine wq_iload_n hC dX5_sumOfLaid_27 (i := 2) rfl rfl ?_
  have h := Option.some.inj h
  subst h
  exact wq_iret hC dX5_sumOfLaid_28 K.1 K.2
theorem npX5_howManyLaid : yX5_howManyLaid.cls ≠ "java/lang/invoke/MethodHandle" ∧ yX5_howManyLaid.cls ≠ "java/lang/invoke/VarHandle" ∧ (parseMethodDescriptor yX5_howManyLaid.desc).map (fun d => d.parameters.length) = some 0 := by decide +kernel
def fX5_howManyLaid_L4 (p0 : Nat) (M : wq_M) : (Int32 × Int32) → Option ((Int32 × Int32) ⊕ Int32) := fun s =>
  (if (M.1 p0 0) ≤ s.2 then
    some (.inr s.1)
  else
    if wq_in s.2 8 then (if (M.1 (p0 + 4) s.2.toNatClampNeg) = (-1) then
      some (.inl (s.1, (s.2 + 1)))
    else
      some (.inl ((s.1 + 1), (s.2 + 1)))) else none)
set_option maxHeartbeats 4000000 in
set_option maxRecDepth 100000 in
theorem gX5_howManyLaid_L4 {g : wq_G} {E : wq_E} {d : Nat} (hC : wq_C g E wq_yC cX5_howManyLaid 3 "WellPipes$Well" (some .int) d) (hd0 : 0 ≤ d) (p0 : Nat) (M : wq_M) (hp0 : wq_W p0) : ∀ (n : Nat) (s : (Int32 × Int32)) (e : Int32), wq_lp (fX5_howManyLaid_L4 p0 M) n s = some e → (fun (e : Int32) => wq_g g E wq_yC 3 31 [none, some (.int e), none] [] M) e → wq_g g E wq_yC 3 4 [some (.ref (E.2.1 p0)), some (.int s.1), some (.int s.2)] [] M := by
  refine wq_lq_ok (fun (s : (Int32 × Int32)) => wq_g g E wq_yC 3 4 [some (.ref (E.2.1 p0)), some (.int s.1), some (.int s.2)] [] M) (fun (e : Int32) => wq_g g E wq_yC 3 31 [none, some (.int e), none] [] M) (fun s x h K => ?_)
  unfold fX5_howManyLaid_L4 at h
  refine wq_iload_n hC dX5_howManyLaid_4 (i := 2) rfl rfl ?_
  refine wq_aload_n hC dX5_howManyLaid_5 (i := 0) rfl rfl ?_
  refine gf_5 hC hp0.1 0 (.int (M.1 p0 0)) (by decide) rfl tw_107 dX5_howManyLaid_6 ?_
  refine wq_icmp_ge hC dX5_howManyLaid_9 (tgt := 31) (by decide) (fun z1 => ?_) (fun z1 => ?_)
  · have h := wq_ip z1 h
    have h := Option.some.inj h
    subst h
    refine wq_mask [false, true, false] (lv' := [none, some (.int s.1), none]) rfl ?_
    exact K
  · have h := wq_in_ z1 h
    refine wq_aload_n hC dX5_howManyLaid_12 (i := 0) rfl rfl ?_
    refine gf_5 hC hp0.1 5 (.ref (E.2.1 (p0 + 4))) (by decide) rfl tw_125 dX5_howManyLaid_13 ?_
    refine wq_iload_n hC dX5_howManyLaid_16 (i := 2) rfl rfl ?_
    obtain ⟨z2, h⟩ := wq_ii h
    refine wq_ald hC hp0.2.2.2.2 z2 dX5_howManyLaid_17 ?_
    refine wq_iconst hC (v := (-1)) dX5_howManyLaid_18 (by decide) ?_
    refine wq_icmp_eq hC dX5_howManyLaid_19 (tgt := 25) (by decide) (fun z3 => ?_) (fun z3 => ?_)
    · have h := wq_ip z3 h
      refine wq_iinc hC (v := (s.2 + 1)) dX5_howManyLaid_25 (lv' := [some (.ref (E.2.1 p0)), some (.int s.1), some (.int (s.2 + 1))]) rfl rfl (by decide) rfl ?_
      refine wq_goto hC dX5_howManyLaid_28 (tgt := 4) (by decide) ?_
      have h := Option.some.inj h
      subst h
      exact K
    · have h := wq_in_ z3 h
      refine wq_iinc hC (v := (s.1 + 1)) dX5_howManyLaid_22 (lv' := [some (.ref (E.2.1 p0)), some (.int (s.1 + 1)), some (.int s.2)]) rfl rfl (by decide) rfl ?_
      refine wq_iinc hC (v := (s.2 + 1)) dX5_howManyLaid_25 (lv' := [some (.ref (E.2.1 p0)), some (.int (s.1 + 1)), some (.int (s.2 + 1))]) rfl rfl (by decide) rfl ?_
      refine wq_goto hC dX5_howManyLaid_28 (tgt := 4) (by decide) ?_
      have h := Option.some.inj h
      subst h
      exact K
def fX5_howManyLaid (p0 : Nat) (M : wq_M) : Option Int32 :=
  (wq_lp (fX5_howManyLaid_L4 p0 M) wq_FU (0, 0)).bind fun e4 => some e4
set_option maxHeartbeats 4000000 in
set_option maxRecDepth 100000 in
theorem ctX5_howManyLaid {l : Launch} {E : wq_E} {d : Nat} (hd0 : 0 ≤ d) {p0 : Nat} {M : wq_M} {r : Int32} (hp0 : wq_W p0) (h : fX5_howManyLaid p0 M = some r) : wq_ct l E wq_yC yX5_howManyLaid cX5_howManyLaid 3 (some .int) d [.ref (E.2.1 p0)] M (some (.int r)) M := by
  refine wq_ent (own := "WellPipes$Well") (lv0 := [some (.ref (E.2.1 p0)), none, none]) (by decide +kernel) rfl (Nat.le_of_ble_eq_true rfl) rfl (fun g h1 h2 hC => ?_)
  have K : wq_ki g M r := ⟨h1, h2⟩
  unfold fX5_howManyLaid at h
  refine wq_iconst hC (v := 0) dX5_howManyLaid_0 (by decide) ?_
  refine wq_istore_n hC dX5_howManyLaid_1 (i := 1) (lv' := [some (.ref (E.2.1 p0)), some (.int 0), none]) rfl (by decide) rfl ?_
  refine wq_iconst hC (v := 0) dX5_howManyLaid_2 (by decide) ?_
  refine wq_istore_n hC dX5_howManyLaid_3 (i := 2) (lv' := [some (.ref (E.2.1 p0)), some (.int 0), some (.int 0)]) rfl (by decide) rfl ?_
  obtain ⟨e4, hl5, h⟩ := wq_ob h
  refine gX5_howManyLaid_L4 hC hd0 p0 M hp0 wq_FU _ _ hl5 ?_
  refine wq_iload_n hC dX5_howManyLaid_31 (i := 1) rfl rfl ?_
  have h := Option.some.inj h
  subst h
  exact wq_iret hC dX5_howManyLaid_32 K.1 K.2
theorem npX5_burstLoad : yX5_burstLoad.cls ≠ "java/lang/invoke/MethodHandle" ∧ yX5_burstLoad.cls ≠ "java/lang/invoke/VarHandle" ∧ (parseMethodDescriptor yX5_burstLoad.desc).map (fun d => d.parameters.length) = some 1 := by decide +kernel
def fX5_burstLoad (p0 : Nat) (x1 : Int32) (M : wq_M) : Option Int32 :=
  if wq_in 1 4 then if wq_in 2 4 then some (if 0 < ((M.1 (p0 + 1) (1 : Int32).toNatClampNeg) - ((M.1 (p0 + 1) (2 : Int32).toNatClampNeg) * x1)) then ((M.1 (p0 + 1) (1 : Int32).toNatClampNeg) - ((M.1 (p0 + 1) (2 : Int32).toNatClampNeg) * x1)) else 0) else none else none
set_option maxHeartbeats 4000000 in
set_option maxRecDepth 100000 in
theorem ctX5_burstLoad {l : Launch} {E : wq_E} {d : Nat} (hd0 : 0 ≤ d) {p0 : Nat} {x1 : Int32} {M : wq_M} {r : Int32} (hp0 : wq_W p0) (h : fX5_burstLoad p0 x1 M = some r) : wq_ct l E wq_yC yX5_burstLoad cX5_burstLoad 2 (some .int) d [.ref (E.2.1 p0), .int x1] M (some (.int r)) M := by
  refine wq_ent (own := "WellPipes$Well") (lv0 := [some (.ref (E.2.1 p0)), some (.int x1)]) (by decide +kernel) rfl (Nat.le_of_ble_eq_true rfl) rfl (fun g h1 h2 hC => ?_)
  have K : wq_ki g M r := ⟨h1, h2⟩
  unfold fX5_burstLoad at h
  refine wq_iconst hC (v := 0) dX5_burstLoad_0 (by decide) ?_
  refine wq_aload_n hC dX5_burstLoad_1 (i := 0) rfl rfl ?_
  refine gf_5 hC hp0.1 2 (.ref (E.2.1 (p0 + 1))) (by decide) rfl tw_115 dX5_burstLoad_2 ?_
  refine wq_iconst hC (v := 1) dX5_burstLoad_5 (by decide) ?_
  obtain ⟨z1, h⟩ := wq_ii h
  refine wq_ald hC hp0.2.1 z1 dX5_burstLoad_6 ?_
  refine wq_aload_n hC dX5_burstLoad_7 (i := 0) rfl rfl ?_
  refine gf_5 hC hp0.1 2 (.ref (E.2.1 (p0 + 1))) (by decide) rfl tw_115 dX5_burstLoad_8 ?_
  refine wq_iconst hC (v := 2) dX5_burstLoad_11 (by decide) ?_
  obtain ⟨z2, h⟩ := wq_ii h
  refine wq_ald hC hp0.2.1 z2 dX5_burstLoad_12 ?_
  refine wq_iload_n hC dX5_burstLoad_13 (i := 1) rfl rfl ?_
  refine wq_imul hC dX5_burstLoad_14 ?_
  refine wq_isub hC dX5_burstLoad_15 ?_
  refine wq_mmax hC (st := []) tw_468 (Nat.le_of_ble_eq_true rfl) dX5_burstLoad_16 ?_
  have h := Option.some.inj h
  subst h
  exact wq_iret hC dX5_burstLoad_19 K.1 K.2
theorem npX5_crushLoad : yX5_crushLoad.cls ≠ "java/lang/invoke/MethodHandle" ∧ yX5_crushLoad.cls ≠ "java/lang/invoke/VarHandle" ∧ (parseMethodDescriptor yX5_crushLoad.desc).map (fun d => d.parameters.length) = some 1 := by decide +kernel
def fX5_crushLoad (p0 : Nat) (x1 : Int32) (M : wq_M) : Option Int32 :=
  if wq_in 0 4 then some ((M.1 (p0 + 1) (0 : Int32).toNatClampNeg) * (x1 + 1)) else none
set_option maxHeartbeats 4000000 in
set_option maxRecDepth 100000 in
theorem ctX5_crushLoad {l : Launch} {E : wq_E} {d : Nat} (hd0 : 0 ≤ d) {p0 : Nat} {x1 : Int32} {M : wq_M} {r : Int32} (hp0 : wq_W p0) (h : fX5_crushLoad p0 x1 M = some r) : wq_ct l E wq_yC yX5_crushLoad cX5_crushLoad 2 (some .int) d [.ref (E.2.1 p0), .int x1] M (some (.int r)) M := by
  refine wq_ent (own := "WellPipes$Well") (lv0 := [some (.ref (E.2.1 p0)), some (.int x1)]) (by decide +kernel) rfl (Nat.le_of_ble_eq_true rfl) rfl (fun g h1 h2 hC => ?_)
  have K : wq_ki g M r := ⟨h1, h2⟩
  unfold fX5_crushLoad at h
  refine wq_aload_n hC dX5_crushLoad_0 (i := 0) rfl rfl ?_
  refine gf_5 hC hp0.1 2 (.ref (E.2.1 (p0 + 1))) (by decide) rfl tw_115 dX5_crushLoad_1 ?_
  refine wq_iconst hC (v := 0) dX5_crushLoad_4 (by decide) ?_
  obtain ⟨z1, h⟩ := wq_ii h
  refine wq_ald hC hp0.2.1 z1 dX5_crushLoad_5 ?_
  refine wq_iload_n hC dX5_crushLoad_6 (i := 1) rfl rfl ?_
  refine wq_iconst hC (v := 1) dX5_crushLoad_7 (by decide) ?_
  refine wq_iadd hC dX5_crushLoad_8 ?_
  refine wq_imul hC dX5_crushLoad_9 ?_
  have h := Option.some.inj h
  subst h
  exact wq_iret hC dX5_crushLoad_10 K.1 K.2
theorem npX5_pullLoad : yX5_pullLoad.cls ≠ "java/lang/invoke/MethodHandle" ∧ yX5_pullLoad.cls ≠ "java/lang/invoke/VarHandle" ∧ (parseMethodDescriptor yX5_pullLoad.desc).map (fun d => d.parameters.length) = some 1 := by decide +kernel
def fX5_pullLoad_L16 (p0 : Nat) (M : wq_M) : (Int32 × Int32) → Option ((Int32 × Int32) ⊕ Int32) := fun s =>
  (if (M.1 p0 0) ≤ s.2 then
    some (.inr s.1)
  else
    (fX5_laidFigure p0 s.2 3 M).bind fun r4 => some (.inl ((s.1 + r4), (s.2 + 1))))
set_option maxHeartbeats 4000000 in
set_option maxRecDepth 100000 in
theorem gX5_pullLoad_L16 {g : wq_G} {E : wq_E} {d : Nat} (hC : wq_C g E wq_yC cX5_pullLoad 4 "WellPipes$Well" (some .int) d) (hd0 : 2 ≤ d) (p0 : Nat) (M : wq_M) (hp0 : wq_W p0) : ∀ (n : Nat) (s : (Int32 × Int32)) (e : Int32), wq_lp (fX5_pullLoad_L16 p0 M) n s = some e → (fun (e : Int32) => wq_g g E wq_yC 4 39 [none, none, some (.int e), none] [] M) e → wq_g g E wq_yC 4 16 [some (.ref (E.2.1 p0)), none, some (.int s.1), some (.int s.2)] [] M := by
  refine wq_lq_ok (fun (s : (Int32 × Int32)) => wq_g g E wq_yC 4 16 [some (.ref (E.2.1 p0)), none, some (.int s.1), some (.int s.2)] [] M) (fun (e : Int32) => wq_g g E wq_yC 4 39 [none, none, some (.int e), none] [] M) (fun s x h K => ?_)
  unfold fX5_pullLoad_L16 at h
  refine wq_iload_n hC dX5_pullLoad_16 (i := 3) rfl rfl ?_
  refine wq_aload_n hC dX5_pullLoad_17 (i := 0) rfl rfl ?_
  refine gf_5 hC hp0.1 0 (.int (M.1 p0 0)) (by decide) rfl tw_107 dX5_pullLoad_18 ?_
  refine wq_icmp_ge hC dX5_pullLoad_21 (tgt := 39) (by decide) (fun z3 => ?_) (fun z3 => ?_)
  · have h := wq_ip z3 h
    have h := Option.some.inj h
    subst h
    refine wq_mask [false, false, true, false] (lv' := [none, none, some (.int s.1), none]) rfl ?_
    exact K
  · have h := wq_in_ z3 h
    refine wq_iload_n hC dX5_pullLoad_24 (i := 2) rfl rfl ?_
    refine wq_aload_n hC dX5_pullLoad_25 (i := 0) rfl rfl ?_
    refine wq_iload_n hC dX5_pullLoad_26 (i := 3) rfl rfl ?_
    refine wq_iconst hC (v := 3) dX5_pullLoad_27 (by decide) ?_
    obtain ⟨r4, hc5, h⟩ := wq_ob h
    refine cv_5 hC (ctX5_laidFigure (d := d - 1) (by omega) hp0 hc5) (by omega) (by decide) hp0.1 rfl rfl npX5_laidFigure tw_531 tw_532 tw_533 tw_534 (st := [.int s.1]) (Nat.le_of_ble_eq_true rfl) rfl dX5_pullLoad_28 (st1 := [.int r4, .int s.1]) rfl ?_
    refine wq_iadd hC dX5_pullLoad_31 ?_
    refine wq_istore_n hC dX5_pullLoad_32 (i := 2) (lv' := [some (.ref (E.2.1 p0)), none, some (.int (s.1 + r4)), some (.int s.2)]) rfl (by decide) rfl ?_
    refine wq_iinc hC (v := (s.2 + 1)) dX5_pullLoad_33 (lv' := [some (.ref (E.2.1 p0)), none, some (.int (s.1 + r4)), some (.int (s.2 + 1))]) rfl rfl (by decide) rfl ?_
    refine wq_goto hC dX5_pullLoad_36 (tgt := 16) (by decide) ?_
    have h := Option.some.inj h
    subst h
    exact K
def fX5_pullLoad (p0 : Nat) (x1 : Int32) (M : wq_M) : Option Int32 :=
  if wq_in x1 8 then (if (M.1 (p0 + 4) x1.toNatClampNeg) = (-1) then
    some 0
  else
    (wq_lp (fX5_pullLoad_L16 p0 M) wq_FU (0, x1)).bind fun e6 => some e6) else none
set_option maxHeartbeats 4000000 in
set_option maxRecDepth 100000 in
theorem ctX5_pullLoad {l : Launch} {E : wq_E} {d : Nat} (hd0 : 2 ≤ d) {p0 : Nat} {x1 : Int32} {M : wq_M} {r : Int32} (hp0 : wq_W p0) (h : fX5_pullLoad p0 x1 M = some r) : wq_ct l E wq_yC yX5_pullLoad cX5_pullLoad 4 (some .int) d [.ref (E.2.1 p0), .int x1] M (some (.int r)) M := by
  refine wq_ent (own := "WellPipes$Well") (lv0 := [some (.ref (E.2.1 p0)), some (.int x1), none, none]) (by decide +kernel) rfl (Nat.le_of_ble_eq_true rfl) rfl (fun g h1 h2 hC => ?_)
  have K : wq_ki g M r := ⟨h1, h2⟩
  unfold fX5_pullLoad at h
  refine wq_aload_n hC dX5_pullLoad_0 (i := 0) rfl rfl ?_
  refine gf_5 hC hp0.1 5 (.ref (E.2.1 (p0 + 4))) (by decide) rfl tw_125 dX5_pullLoad_1 ?_
  refine wq_iload_n hC dX5_pullLoad_4 (i := 1) rfl rfl ?_
  obtain ⟨z1, h⟩ := wq_ii h
  refine wq_ald hC hp0.2.2.2.2 z1 dX5_pullLoad_5 ?_
  refine wq_iconst hC (v := (-1)) dX5_pullLoad_6 (by decide) ?_
  refine wq_icmp_ne hC dX5_pullLoad_7 (tgt := 12) (by decide) (fun z2 => ?_) (fun z2 => ?_)
  · have h := wq_in_ z2 h
    refine wq_iconst hC (v := 0) dX5_pullLoad_12 (by decide) ?_
    refine wq_istore_n hC dX5_pullLoad_13 (i := 2) (lv' := [some (.ref (E.2.1 p0)), some (.int x1), some (.int 0), none]) rfl (by decide) rfl ?_
    refine wq_iload_n hC dX5_pullLoad_14 (i := 1) rfl rfl ?_
    refine wq_istore_n hC dX5_pullLoad_15 (i := 3) (lv' := [some (.ref (E.2.1 p0)), some (.int x1), some (.int 0), some (.int x1)]) rfl (by decide) rfl ?_
    obtain ⟨e6, hl7, h⟩ := wq_ob h
    refine wq_mask [true, false, true, true] (lv' := [some (.ref (E.2.1 p0)), none, some (.int 0), some (.int x1)]) rfl ?_
    refine gX5_pullLoad_L16 hC hd0 p0 M hp0 wq_FU _ _ hl7 ?_
    refine wq_iload_n hC dX5_pullLoad_39 (i := 2) rfl rfl ?_
    have h := Option.some.inj h
    subst h
    exact wq_iret hC dX5_pullLoad_40 K.1 K.2
  · have h := wq_ip z2 h
    refine wq_iconst hC (v := 0) dX5_pullLoad_10 (by decide) ?_
    have h := Option.some.inj h
    subst h
    exact wq_iret hC dX5_pullLoad_11 K.1 K.2
theorem npX5_burstBorne : yX5_burstBorne.cls ≠ "java/lang/invoke/MethodHandle" ∧ yX5_burstBorne.cls ≠ "java/lang/invoke/VarHandle" ∧ (parseMethodDescriptor yX5_burstBorne.desc).map (fun d => d.parameters.length) = some 1 := by decide +kernel
def fX5_burstBorne (p0 : Nat) (x1 : Int32) (M : wq_M) : Option Int32 :=
  (fX5_figure p0 x1 0 M).bind fun r1 => if wq_in x1 5 then (if (M.1 (p0 + 2) x1.toNatClampNeg) = 5 then
    some (r1 + 10)
  else
    some r1) else none
set_option maxHeartbeats 4000000 in
set_option maxRecDepth 100000 in
theorem ctX5_burstBorne {l : Launch} {E : wq_E} {d : Nat} (hd0 : 1 ≤ d) {p0 : Nat} {x1 : Int32} {M : wq_M} {r : Int32} (hp0 : wq_W p0) (h : fX5_burstBorne p0 x1 M = some r) : wq_ct l E wq_yC yX5_burstBorne cX5_burstBorne 3 (some .int) d [.ref (E.2.1 p0), .int x1] M (some (.int r)) M := by
  refine wq_ent (own := "WellPipes$Well") (lv0 := [some (.ref (E.2.1 p0)), some (.int x1), none]) (by decide +kernel) rfl (Nat.le_of_ble_eq_true rfl) rfl (fun g h1 h2 hC => ?_)
  have K : wq_ki g M r := ⟨h1, h2⟩
  unfold fX5_burstBorne at h
  refine wq_aload_n hC dX5_burstBorne_0 (i := 0) rfl rfl ?_
  refine wq_iload_n hC dX5_burstBorne_1 (i := 1) rfl rfl ?_
  refine wq_iconst hC (v := 0) dX5_burstBorne_2 (by decide) ?_
  obtain ⟨r1, hc2, h⟩ := wq_ob h
  refine cv_5 hC (ctX5_figure (d := d - 1) (by omega) hp0 hc2) (by omega) (by decide) hp0.1 rfl rfl npX5_figure tw_463 tw_452 tw_453 tw_454 (st := []) (Nat.le_of_ble_eq_true rfl) rfl dX5_burstBorne_3 (st1 := [.int r1]) rfl ?_
  refine wq_istore_n hC dX5_burstBorne_6 (i := 2) (lv' := [some (.ref (E.2.1 p0)), some (.int x1), some (.int r1)]) rfl (by decide) rfl ?_
  refine wq_aload_n hC dX5_burstBorne_7 (i := 0) rfl rfl ?_
  refine gf_5 hC hp0.1 3 (.ref (E.2.1 (p0 + 2))) (by decide) rfl tw_120 dX5_burstBorne_8 ?_
  refine wq_iload_n hC dX5_burstBorne_11 (i := 1) rfl rfl ?_
  obtain ⟨z3, h⟩ := wq_ii h
  refine wq_ald hC hp0.2.2.1 z3 dX5_burstBorne_12 ?_
  refine wq_iconst hC (v := 5) dX5_burstBorne_13 (by decide) ?_
  refine wq_icmp_ne hC dX5_burstBorne_14 (tgt := 24) (by decide) (fun z4 => ?_) (fun z4 => ?_)
  · have h := wq_in_ z4 h
    refine wq_iload_n hC dX5_burstBorne_24 (i := 2) rfl rfl ?_
    have h := Option.some.inj h
    subst h
    exact wq_iret hC dX5_burstBorne_25 K.1 K.2
  · have h := wq_ip z4 h
    refine wq_iload_n hC dX5_burstBorne_17 (i := 2) rfl rfl ?_
    refine wq_bipush hC (v := 10) dX5_burstBorne_18 (by decide) ?_
    refine wq_iadd hC dX5_burstBorne_20 ?_
    refine wq_goto hC dX5_burstBorne_21 (tgt := 25) (by decide) ?_
    have h := Option.some.inj h
    subst h
    exact wq_iret hC dX5_burstBorne_25 K.1 K.2
theorem npX5_pullBorne : yX5_pullBorne.cls ≠ "java/lang/invoke/MethodHandle" ∧ yX5_pullBorne.cls ≠ "java/lang/invoke/VarHandle" ∧ (parseMethodDescriptor yX5_pullBorne.desc).map (fun d => d.parameters.length) = some 1 := by decide +kernel
def fX5_pullBorne (p0 : Nat) (x1 : Int32) (M : wq_M) : Option Int32 :=
  (fX5_figure p0 x1 2 M).bind fun r1 => if wq_in x1 5 then (if (M.1 (p0 + 2) x1.toNatClampNeg) = 3 then
    some ((r1 + 1) / 2)
  else
    some r1) else none
set_option maxHeartbeats 4000000 in
set_option maxRecDepth 100000 in
theorem ctX5_pullBorne {l : Launch} {E : wq_E} {d : Nat} (hd0 : 1 ≤ d) {p0 : Nat} {x1 : Int32} {M : wq_M} {r : Int32} (hp0 : wq_W p0) (h : fX5_pullBorne p0 x1 M = some r) : wq_ct l E wq_yC yX5_pullBorne cX5_pullBorne 3 (some .int) d [.ref (E.2.1 p0), .int x1] M (some (.int r)) M := by
  refine wq_ent (own := "WellPipes$Well") (lv0 := [some (.ref (E.2.1 p0)), some (.int x1), none]) (by decide +kernel) rfl (Nat.le_of_ble_eq_true rfl) rfl (fun g h1 h2 hC => ?_)
  have K : wq_ki g M r := ⟨h1, h2⟩
  unfold fX5_pullBorne at h
  refine wq_aload_n hC dX5_pullBorne_0 (i := 0) rfl rfl ?_
  refine wq_iload_n hC dX5_pullBorne_1 (i := 1) rfl rfl ?_
  refine wq_iconst hC (v := 2) dX5_pullBorne_2 (by decide) ?_
  obtain ⟨r1, hc2, h⟩ := wq_ob h
  refine cv_5 hC (ctX5_figure (d := d - 1) (by omega) hp0 hc2) (by omega) (by decide) hp0.1 rfl rfl npX5_figure tw_463 tw_452 tw_453 tw_454 (st := []) (Nat.le_of_ble_eq_true rfl) rfl dX5_pullBorne_3 (st1 := [.int r1]) rfl ?_
  refine wq_istore_n hC dX5_pullBorne_6 (i := 2) (lv' := [some (.ref (E.2.1 p0)), some (.int x1), some (.int r1)]) rfl (by decide) rfl ?_
  refine wq_aload_n hC dX5_pullBorne_7 (i := 0) rfl rfl ?_
  refine gf_5 hC hp0.1 3 (.ref (E.2.1 (p0 + 2))) (by decide) rfl tw_120 dX5_pullBorne_8 ?_
  refine wq_iload_n hC dX5_pullBorne_11 (i := 1) rfl rfl ?_
  obtain ⟨z3, h⟩ := wq_ii h
  refine wq_ald hC hp0.2.2.1 z3 dX5_pullBorne_12 ?_
  refine wq_iconst hC (v := 3) dX5_pullBorne_13 (by decide) ?_
  refine wq_icmp_ne hC dX5_pullBorne_14 (tgt := 25) (by decide) (fun z4 => ?_) (fun z4 => ?_)
  · have h := wq_in_ z4 h
    refine wq_iload_n hC dX5_pullBorne_25 (i := 2) rfl rfl ?_
    have h := Option.some.inj h
    subst h
    exact wq_iret hC dX5_pullBorne_26 K.1 K.2
  · have h := wq_ip z4 h
    refine wq_iload_n hC dX5_pullBorne_17 (i := 2) rfl rfl ?_
    refine wq_iconst hC (v := 1) dX5_pullBorne_18 (by decide) ?_
    refine wq_iadd hC dX5_pullBorne_19 ?_
    refine wq_iconst hC (v := 2) dX5_pullBorne_20 (by decide) ?_
    refine wq_idiv hC dX5_pullBorne_21 (by decide) ?_
    refine wq_goto hC dX5_pullBorne_22 (tgt := 26) (by decide) ?_
    have h := Option.some.inj h
    subst h
    exact wq_iret hC dX5_pullBorne_26 K.1 K.2
theorem npX5_dent : yX5_dent.cls ≠ "java/lang/invoke/MethodHandle" ∧ yX5_dent.cls ≠ "java/lang/invoke/VarHandle" ∧ (parseMethodDescriptor yX5_dent.desc).map (fun d => d.parameters.length) = some 2 := by decide +kernel
def fX5_dent (x0 : Int32) (x1 : Int32) (M : wq_M) : Option Int32 :=
  (if 1 ≤ x1 then
    if ¬ x1 = 0 then some (if ((10 * x0) / x1) < 10 then ((10 * x0) / x1) else 10) else none
  else
    some 10)
set_option maxHeartbeats 4000000 in
set_option maxRecDepth 100000 in
theorem ctX5_dent {l : Launch} {E : wq_E} {d : Nat} (hd0 : 0 ≤ d) {x0 : Int32} {x1 : Int32} {M : wq_M} {r : Int32}  (h : fX5_dent x0 x1 M = some r) : wq_ct l E wq_yC yX5_dent cX5_dent 2 (some .int) d [.int x0, .int x1] M (some (.int r)) M := by
  refine wq_ent (own := "WellPipes$Well") (lv0 := [some (.int x0), some (.int x1)]) (by decide +kernel) rfl (Nat.le_of_ble_eq_true rfl) rfl (fun g h1 h2 hC => ?_)
  have K : wq_ki g M r := ⟨h1, h2⟩
  unfold fX5_dent at h
  refine wq_iload_n hC dX5_dent_0 (i := 1) rfl rfl ?_
  refine wq_iconst hC (v := 1) dX5_dent_1 (by decide) ?_
  refine wq_icmp_ge hC dX5_dent_2 (tgt := 10) (by decide) (fun z1 => ?_) (fun z1 => ?_)
  · have h := wq_ip z1 h
    refine wq_bipush hC (v := 10) dX5_dent_10 (by decide) ?_
    refine wq_bipush hC (v := 10) dX5_dent_12 (by decide) ?_
    refine wq_iload_n hC dX5_dent_14 (i := 0) rfl rfl ?_
    refine wq_imul hC dX5_dent_15 ?_
    refine wq_iload_n hC dX5_dent_16 (i := 1) rfl rfl ?_
    obtain ⟨z2, h⟩ := wq_ii h
    refine wq_idiv hC dX5_dent_17 z2 ?_
    refine wq_mmin hC (st := []) tw_480 (Nat.le_of_ble_eq_true rfl) dX5_dent_18 ?_
    have h := Option.some.inj h
    subst h
    exact wq_iret hC dX5_dent_21 K.1 K.2
  · have h := wq_in_ z1 h
    refine wq_bipush hC (v := 10) dX5_dent_5 (by decide) ?_
    refine wq_goto hC dX5_dent_7 (tgt := 21) (by decide) ?_
    have h := Option.some.inj h
    subst h
    exact wq_iret hC dX5_dent_21 K.1 K.2
theorem npX5_crushBorne : yX5_crushBorne.cls ≠ "java/lang/invoke/MethodHandle" ∧ yX5_crushBorne.cls ≠ "java/lang/invoke/VarHandle" ∧ (parseMethodDescriptor yX5_crushBorne.desc).map (fun d => d.parameters.length) = some 2 := by decide +kernel
def fX5_crushBorne (p0 : Nat) (x1 : Int32) (x2 : Int32) (M : wq_M) : Option Int32 :=
  (fX5_figure p0 x1 1 M).bind fun r1 => if wq_in x1 5 then (if (M.1 (p0 + 2) x1.toNatClampNeg) = 4 then
    some r1
  else
    if wq_in x1 5 then (if (M.1 (p0 + 2) x1.toNatClampNeg) = 5 then
      some r1
    else
      (fX5_pullBorne p0 x1 M).bind fun r7 => (fX5_dent x2 r7 M).bind fun r9 => if wq_in x1 5 then (if (M.1 (p0 + 2) x1.toNatClampNeg) = 2 then
        some ((r1 * (10 - (r9 / 2))) / 10)
      else
        some ((r1 * (10 - r9)) / 10)) else none) else none) else none
set_option maxHeartbeats 4000000 in
set_option maxRecDepth 100000 in
theorem ctX5_crushBorne {l : Launch} {E : wq_E} {d : Nat} (hd0 : 2 ≤ d) {p0 : Nat} {x1 : Int32} {x2 : Int32} {M : wq_M} {r : Int32} (hp0 : wq_W p0) (h : fX5_crushBorne p0 x1 x2 M = some r) : wq_ct l E wq_yC yX5_crushBorne cX5_crushBorne 5 (some .int) d [.ref (E.2.1 p0), .int x1, .int x2] M (some (.int r)) M := by
  refine wq_ent (own := "WellPipes$Well") (lv0 := [some (.ref (E.2.1 p0)), some (.int x1), some (.int x2), none, none]) (by decide +kernel) rfl (Nat.le_of_ble_eq_true rfl) rfl (fun g h1 h2 hC => ?_)
  have K : wq_ki g M r := ⟨h1, h2⟩
  unfold fX5_crushBorne at h
  refine wq_aload_n hC dX5_crushBorne_0 (i := 0) rfl rfl ?_
  refine wq_iload_n hC dX5_crushBorne_1 (i := 1) rfl rfl ?_
  refine wq_iconst hC (v := 1) dX5_crushBorne_2 (by decide) ?_
  obtain ⟨r1, hc2, h⟩ := wq_ob h
  refine cv_5 hC (ctX5_figure (d := d - 1) (by omega) hp0 hc2) (by omega) (by decide) hp0.1 rfl rfl npX5_figure tw_463 tw_452 tw_453 tw_454 (st := []) (Nat.le_of_ble_eq_true rfl) rfl dX5_crushBorne_3 (st1 := [.int r1]) rfl ?_
  refine wq_istore_n hC dX5_crushBorne_6 (i := 3) (lv' := [some (.ref (E.2.1 p0)), some (.int x1), some (.int x2), some (.int r1), none]) rfl (by decide) rfl ?_
  refine wq_aload_n hC dX5_crushBorne_7 (i := 0) rfl rfl ?_
  refine gf_5 hC hp0.1 3 (.ref (E.2.1 (p0 + 2))) (by decide) rfl tw_120 dX5_crushBorne_8 ?_
  refine wq_iload_n hC dX5_crushBorne_11 (i := 1) rfl rfl ?_
  obtain ⟨z3, h⟩ := wq_ii h
  refine wq_ald hC hp0.2.2.1 z3 dX5_crushBorne_12 ?_
  refine wq_iconst hC (v := 4) dX5_crushBorne_13 (by decide) ?_
  refine wq_icmp_eq hC dX5_crushBorne_14 (tgt := 27) (by decide) (fun z4 => ?_) (fun z4 => ?_)
  · have h := wq_ip z4 h
    refine wq_iload_n hC dX5_crushBorne_27 (i := 3) rfl rfl ?_
    have h := Option.some.inj h
    subst h
    exact wq_iret hC dX5_crushBorne_28 K.1 K.2
  · have h := wq_in_ z4 h
    refine wq_aload_n hC dX5_crushBorne_17 (i := 0) rfl rfl ?_
    refine gf_5 hC hp0.1 3 (.ref (E.2.1 (p0 + 2))) (by decide) rfl tw_120 dX5_crushBorne_18 ?_
    refine wq_iload_n hC dX5_crushBorne_21 (i := 1) rfl rfl ?_
    obtain ⟨z5, h⟩ := wq_ii h
    refine wq_ald hC hp0.2.2.1 z5 dX5_crushBorne_22 ?_
    refine wq_iconst hC (v := 5) dX5_crushBorne_23 (by decide) ?_
    refine wq_icmp_ne hC dX5_crushBorne_24 (tgt := 29) (by decide) (fun z6 => ?_) (fun z6 => ?_)
    · have h := wq_in_ z6 h
      refine wq_iload_n hC dX5_crushBorne_29 (i := 2) rfl rfl ?_
      refine wq_aload_n hC dX5_crushBorne_30 (i := 0) rfl rfl ?_
      refine wq_iload_n hC dX5_crushBorne_31 (i := 1) rfl rfl ?_
      obtain ⟨r7, hc8, h⟩ := wq_ob h
      refine cv_5 hC (ctX5_pullBorne (d := d - 1) (by omega) hp0 hc8) (by omega) (by decide) hp0.1 rfl rfl npX5_pullBorne tw_469 tw_470 tw_471 tw_472 (st := [.int x2]) (Nat.le_of_ble_eq_true rfl) rfl dX5_crushBorne_32 (st1 := [.int r7, .int x2]) rfl ?_
      obtain ⟨r9, hc10, h⟩ := wq_ob h
      refine wq_callS hC (ctX5_dent (d := d - 1) (by omega)  hc10) (by omega) (by decide) rfl npX5_dent tw_477 tw_478 tw_53 tw_479 (st := []) (Nat.le_of_ble_eq_true rfl) rfl dX5_crushBorne_35 (st1 := [.int r9]) rfl ?_
      refine wq_istore hC dX5_crushBorne_38 (lv' := [some (.ref (E.2.1 p0)), some (.int x1), some (.int x2), some (.int r1), some (.int r9)]) (by decide) rfl ?_
      refine wq_iload_n hC dX5_crushBorne_40 (i := 3) rfl rfl ?_
      refine wq_bipush hC (v := 10) dX5_crushBorne_41 (by decide) ?_
      refine wq_aload_n hC dX5_crushBorne_43 (i := 0) rfl rfl ?_
      refine gf_5 hC hp0.1 3 (.ref (E.2.1 (p0 + 2))) (by decide) rfl tw_120 dX5_crushBorne_44 ?_
      refine wq_iload_n hC dX5_crushBorne_47 (i := 1) rfl rfl ?_
      obtain ⟨z11, h⟩ := wq_ii h
      refine wq_ald hC hp0.2.2.1 z11 dX5_crushBorne_48 ?_
      refine wq_iconst hC (v := 2) dX5_crushBorne_49 (by decide) ?_
      refine wq_icmp_ne hC dX5_crushBorne_50 (tgt := 60) (by decide) (fun z12 => ?_) (fun z12 => ?_)
      · have h := wq_in_ z12 h
        refine wq_iload hC dX5_crushBorne_60 rfl ?_
        refine wq_isub hC dX5_crushBorne_62 ?_
        refine wq_imul hC dX5_crushBorne_63 ?_
        refine wq_bipush hC (v := 10) dX5_crushBorne_64 (by decide) ?_
        refine wq_idiv hC dX5_crushBorne_66 (by decide) ?_
        have h := Option.some.inj h
        subst h
        exact wq_iret hC dX5_crushBorne_67 K.1 K.2
      · have h := wq_ip z12 h
        refine wq_iload hC dX5_crushBorne_53 rfl ?_
        refine wq_iconst hC (v := 2) dX5_crushBorne_55 (by decide) ?_
        refine wq_idiv hC dX5_crushBorne_56 (by decide) ?_
        refine wq_goto hC dX5_crushBorne_57 (tgt := 62) (by decide) ?_
        refine wq_isub hC dX5_crushBorne_62 ?_
        refine wq_imul hC dX5_crushBorne_63 ?_
        refine wq_bipush hC (v := 10) dX5_crushBorne_64 (by decide) ?_
        refine wq_idiv hC dX5_crushBorne_66 (by decide) ?_
        have h := Option.some.inj h
        subst h
        exact wq_iret hC dX5_crushBorne_67 K.1 K.2
    · have h := wq_ip z6 h
      refine wq_iload_n hC dX5_crushBorne_27 (i := 3) rfl rfl ?_
      have h := Option.some.inj h
      subst h
      exact wq_iret hC dX5_crushBorne_28 K.1 K.2
theorem npX5_wouldHold : yX5_wouldHold.cls ≠ "java/lang/invoke/MethodHandle" ∧ yX5_wouldHold.cls ≠ "java/lang/invoke/VarHandle" ∧ (parseMethodDescriptor yX5_wouldHold.desc).map (fun d => d.parameters.length) = some 3 := by decide +kernel
def fX5_wouldHold (p0 : Nat) (x1 : Int32) (x2 : Int32) (x3 : Int32) (M : wq_M) : Option Bool :=
  (fX5_burstBorne p0 x2 M).bind fun r1 => (fX5_burstLoad p0 x1 M).bind fun r3 => (if r1 < r3 then
    some false
  else
    (fX5_pullBorne p0 x2 M).bind fun r6 => (if r6 < x3 then
      some false
    else
      (fX5_crushBorne p0 x2 x3 M).bind fun r9 => (fX5_crushLoad p0 x1 M).bind fun r11 => (if r9 < r11 then
        some false
      else
        some true)))
set_option maxHeartbeats 4000000 in
set_option maxRecDepth 100000 in
theorem ctX5_wouldHold {l : Launch} {E : wq_E} {d : Nat} (hd0 : 3 ≤ d) {p0 : Nat} {x1 : Int32} {x2 : Int32} {x3 : Int32} {M : wq_M} {r : Bool} (hp0 : wq_W p0) (h : fX5_wouldHold p0 x1 x2 x3 M = some r) : wq_ct l E wq_yC yX5_wouldHold cX5_wouldHold 4 (some .boolean) d [.ref (E.2.1 p0), .int x1, .int x2, .int x3] M (some (.int (wq_b r))) M := by
  refine wq_ent (own := "WellPipes$Well") (lv0 := [some (.ref (E.2.1 p0)), some (.int x1), some (.int x2), some (.int x3)]) (by decide +kernel) rfl (Nat.le_of_ble_eq_true rfl) rfl (fun g h1 h2 hC => ?_)
  have K : wq_kb g M r := ⟨h1, h2⟩
  unfold fX5_wouldHold at h
  refine wq_aload_n hC dX5_wouldHold_0 (i := 0) rfl rfl ?_
  refine wq_iload_n hC dX5_wouldHold_1 (i := 2) rfl rfl ?_
  obtain ⟨r1, hc2, h⟩ := wq_ob h
  refine cv_5 hC (ctX5_burstBorne (d := d - 1) (by omega) hp0 hc2) (by omega) (by decide) hp0.1 rfl rfl npX5_burstBorne tw_459 tw_460 tw_461 tw_462 (st := []) (Nat.le_of_ble_eq_true rfl) rfl dX5_wouldHold_2 (st1 := [.int r1]) rfl ?_
  refine wq_aload_n hC dX5_wouldHold_5 (i := 0) rfl rfl ?_
  refine wq_iload_n hC dX5_wouldHold_6 (i := 1) rfl rfl ?_
  obtain ⟨r3, hc4, h⟩ := wq_ob h
  refine cv_5 hC (ctX5_burstLoad (d := d - 1) (by omega) hp0 hc4) (by omega) (by decide) hp0.1 rfl rfl npX5_burstLoad tw_464 tw_465 tw_466 tw_467 (st := [.int r1]) (Nat.le_of_ble_eq_true rfl) rfl dX5_wouldHold_7 (st1 := [.int r3, .int r1]) rfl ?_
  refine wq_icmp_lt hC dX5_wouldHold_10 (tgt := 40) (by decide) (fun z5 => ?_) (fun z5 => ?_)
  · have h := wq_ip z5 h
    refine wq_iconst hC (v := 0) dX5_wouldHold_40 (by decide) ?_
    have h := Option.some.inj h
    subst h
    exact wq_zret hC (b := false) dX5_wouldHold_41 (by decide) K.1 K.2
  · have h := wq_in_ z5 h
    refine wq_aload_n hC dX5_wouldHold_13 (i := 0) rfl rfl ?_
    refine wq_iload_n hC dX5_wouldHold_14 (i := 2) rfl rfl ?_
    obtain ⟨r6, hc7, h⟩ := wq_ob h
    refine cv_5 hC (ctX5_pullBorne (d := d - 1) (by omega) hp0 hc7) (by omega) (by decide) hp0.1 rfl rfl npX5_pullBorne tw_469 tw_470 tw_471 tw_472 (st := []) (Nat.le_of_ble_eq_true rfl) rfl dX5_wouldHold_15 (st1 := [.int r6]) rfl ?_
    refine wq_iload_n hC dX5_wouldHold_18 (i := 3) rfl rfl ?_
    refine wq_icmp_lt hC dX5_wouldHold_19 (tgt := 40) (by decide) (fun z8 => ?_) (fun z8 => ?_)
    · have h := wq_ip z8 h
      refine wq_iconst hC (v := 0) dX5_wouldHold_40 (by decide) ?_
      have h := Option.some.inj h
      subst h
      exact wq_zret hC (b := false) dX5_wouldHold_41 (by decide) K.1 K.2
    · have h := wq_in_ z8 h
      refine wq_aload_n hC dX5_wouldHold_22 (i := 0) rfl rfl ?_
      refine wq_iload_n hC dX5_wouldHold_23 (i := 2) rfl rfl ?_
      refine wq_iload_n hC dX5_wouldHold_24 (i := 3) rfl rfl ?_
      obtain ⟨r9, hc10, h⟩ := wq_ob h
      refine cv_5 hC (ctX5_crushBorne (d := d - 1) (by omega) hp0 hc10) (by omega) (by decide) hp0.1 rfl rfl npX5_crushBorne tw_473 tw_474 tw_475 tw_476 (st := []) (Nat.le_of_ble_eq_true rfl) rfl dX5_wouldHold_25 (st1 := [.int r9]) rfl ?_
      refine wq_aload_n hC dX5_wouldHold_28 (i := 0) rfl rfl ?_
      refine wq_iload_n hC dX5_wouldHold_29 (i := 1) rfl rfl ?_
      obtain ⟨r11, hc12, h⟩ := wq_ob h
      refine cv_5 hC (ctX5_crushLoad (d := d - 1) (by omega) hp0 hc12) (by omega) (by decide) hp0.1 rfl rfl npX5_crushLoad tw_481 tw_482 tw_483 tw_484 (st := [.int r9]) (Nat.le_of_ble_eq_true rfl) rfl dX5_wouldHold_30 (st1 := [.int r11, .int r9]) rfl ?_
      refine wq_icmp_lt hC dX5_wouldHold_33 (tgt := 40) (by decide) (fun z13 => ?_) (fun z13 => ?_)
      · have h := wq_ip z13 h
        refine wq_iconst hC (v := 0) dX5_wouldHold_40 (by decide) ?_
        have h := Option.some.inj h
        subst h
        exact wq_zret hC (b := false) dX5_wouldHold_41 (by decide) K.1 K.2
      · have h := wq_in_ z13 h
        refine wq_iconst hC (v := 1) dX5_wouldHold_36 (by decide) ?_
        refine wq_goto hC dX5_wouldHold_37 (tgt := 41) (by decide) ?_
        have h := Option.some.inj h
        subst h
        exact wq_zret hC (b := true) dX5_wouldHold_41 (by decide) K.1 K.2
theorem npX5_holds : yX5_holds.cls ≠ "java/lang/invoke/MethodHandle" ∧ yX5_holds.cls ≠ "java/lang/invoke/VarHandle" ∧ (parseMethodDescriptor yX5_holds.desc).map (fun d => d.parameters.length) = some 1 := by decide +kernel
def fX5_holds (p0 : Nat) (x1 : Int32) (M : wq_M) : Option Bool :=
  if wq_in x1 8 then (if (M.1 (p0 + 4) x1.toNatClampNeg) = (-1) then
    some false
  else
    if wq_in x1 8 then (fX5_pullLoad p0 x1 M).bind fun r4 => (fX5_wouldHold p0 x1 (M.1 (p0 + 4) x1.toNatClampNeg) r4 M).bind fun r6 => (if r6 = true then
      some true
    else
      some false) else none) else none
set_option maxHeartbeats 4000000 in
set_option maxRecDepth 100000 in
theorem ctX5_holds {l : Launch} {E : wq_E} {d : Nat} (hd0 : 4 ≤ d) {p0 : Nat} {x1 : Int32} {M : wq_M} {r : Bool} (hp0 : wq_W p0) (h : fX5_holds p0 x1 M = some r) : wq_ct l E wq_yC yX5_holds cX5_holds 2 (some .boolean) d [.ref (E.2.1 p0), .int x1] M (some (.int (wq_b r))) M := by
  refine wq_ent (own := "WellPipes$Well") (lv0 := [some (.ref (E.2.1 p0)), some (.int x1)]) (by decide +kernel) rfl (Nat.le_of_ble_eq_true rfl) rfl (fun g h1 h2 hC => ?_)
  have K : wq_kb g M r := ⟨h1, h2⟩
  unfold fX5_holds at h
  refine wq_aload_n hC dX5_holds_0 (i := 0) rfl rfl ?_
  refine gf_5 hC hp0.1 5 (.ref (E.2.1 (p0 + 4))) (by decide) rfl tw_125 dX5_holds_1 ?_
  refine wq_iload_n hC dX5_holds_4 (i := 1) rfl rfl ?_
  obtain ⟨z1, h⟩ := wq_ii h
  refine wq_ald hC hp0.2.2.2.2 z1 dX5_holds_5 ?_
  refine wq_iconst hC (v := (-1)) dX5_holds_6 (by decide) ?_
  refine wq_icmp_eq hC dX5_holds_7 (tgt := 33) (by decide) (fun z2 => ?_) (fun z2 => ?_)
  · have h := wq_ip z2 h
    refine wq_iconst hC (v := 0) dX5_holds_33 (by decide) ?_
    have h := Option.some.inj h
    subst h
    exact wq_zret hC (b := false) dX5_holds_34 (by decide) K.1 K.2
  · have h := wq_in_ z2 h
    refine wq_aload_n hC dX5_holds_10 (i := 0) rfl rfl ?_
    refine wq_iload_n hC dX5_holds_11 (i := 1) rfl rfl ?_
    refine wq_aload_n hC dX5_holds_12 (i := 0) rfl rfl ?_
    refine gf_5 hC hp0.1 5 (.ref (E.2.1 (p0 + 4))) (by decide) rfl tw_125 dX5_holds_13 ?_
    refine wq_iload_n hC dX5_holds_16 (i := 1) rfl rfl ?_
    obtain ⟨z3, h⟩ := wq_ii h
    refine wq_ald hC hp0.2.2.2.2 z3 dX5_holds_17 ?_
    refine wq_aload_n hC dX5_holds_18 (i := 0) rfl rfl ?_
    refine wq_iload_n hC dX5_holds_19 (i := 1) rfl rfl ?_
    obtain ⟨r4, hc5, h⟩ := wq_ob h
    refine cv_5 hC (ctX5_pullLoad (d := d - 1) (by omega) hp0 hc5) (by omega) (by decide) hp0.1 rfl rfl npX5_pullLoad tw_539 tw_528 tw_529 tw_530 (st := [.int (M.1 (p0 + 4) x1.toNatClampNeg), .int x1, .ref (E.2.1 p0)]) (Nat.le_of_ble_eq_true rfl) rfl dX5_holds_20 (st1 := [.int r4, .int (M.1 (p0 + 4) x1.toNatClampNeg), .int x1, .ref (E.2.1 p0)]) rfl ?_
    obtain ⟨r6, hc7, h⟩ := wq_ob h
    refine cv_5 hC (ctX5_wouldHold (d := d - 1) (by omega) hp0 hc7) (by omega) (by decide) hp0.1 rfl rfl npX5_wouldHold tw_540 tw_456 tw_457 tw_458 (st := []) (Nat.le_of_ble_eq_true rfl) rfl dX5_holds_23 (st1 := [.int (wq_b r6)]) rfl ?_
    refine wq_bif_eq hC dX5_holds_26 (tgt := 33) (by decide) (fun z8 => ?_) (fun z8 => ?_)
    · have h := wq_in_ z8 h
      refine wq_iconst hC (v := 0) dX5_holds_33 (by decide) ?_
      have h := Option.some.inj h
      subst h
      exact wq_zret hC (b := false) dX5_holds_34 (by decide) K.1 K.2
    · have h := wq_ip z8 h
      refine wq_iconst hC (v := 1) dX5_holds_29 (by decide) ?_
      refine wq_goto hC dX5_holds_30 (tgt := 34) (by decide) ?_
      have h := Option.some.inj h
      subst h
      exact wq_zret hC (b := true) dX5_holds_34 (by decide) K.1 K.2
theorem npX5_holdsFlawed : yX5_holdsFlawed.cls ≠ "java/lang/invoke/MethodHandle" ∧ yX5_holdsFlawed.cls ≠ "java/lang/invoke/VarHandle" ∧ (parseMethodDescriptor yX5_holdsFlawed.desc).map (fun d => d.parameters.length) = some 1 := by decide +kernel
def fX5_holdsFlawed (p0 : Nat) (x1 : Int32) (M : wq_M) : Option Bool :=
  (fX5_holds p0 x1 M).bind fun r1 => (if r1 = true then
    if wq_in x1 8 then (fX5_burstBorne p0 (M.1 (p0 + 4) x1.toNatClampNeg) M).bind fun r5 => (fX5_burstLoad p0 x1 M).bind fun r7 => (if (r5 / 2) < r7 then
      some false
    else
      some true) else none
  else
    some false)
set_option maxHeartbeats 4000000 in
set_option maxRecDepth 100000 in
theorem ctX5_holdsFlawed {l : Launch} {E : wq_E} {d : Nat} (hd0 : 5 ≤ d) {p0 : Nat} {x1 : Int32} {M : wq_M} {r : Bool} (hp0 : wq_W p0) (h : fX5_holdsFlawed p0 x1 M = some r) : wq_ct l E wq_yC yX5_holdsFlawed cX5_holdsFlawed 2 (some .boolean) d [.ref (E.2.1 p0), .int x1] M (some (.int (wq_b r))) M := by
  refine wq_ent (own := "WellPipes$Well") (lv0 := [some (.ref (E.2.1 p0)), some (.int x1)]) (by decide +kernel) rfl (Nat.le_of_ble_eq_true rfl) rfl (fun g h1 h2 hC => ?_)
  have K : wq_kb g M r := ⟨h1, h2⟩
  unfold fX5_holdsFlawed at h
  refine wq_aload_n hC dX5_holdsFlawed_0 (i := 0) rfl rfl ?_
  refine wq_iload_n hC dX5_holdsFlawed_1 (i := 1) rfl rfl ?_
  obtain ⟨r1, hc2, h⟩ := wq_ob h
  refine cv_5 hC (ctX5_holds (d := d - 1) (by omega) hp0 hc2) (by omega) (by decide) hp0.1 rfl rfl npX5_holds tw_564 tw_536 tw_537 tw_538 (st := []) (Nat.le_of_ble_eq_true rfl) rfl dX5_holdsFlawed_2 (st1 := [.int (wq_b r1)]) rfl ?_
  refine wq_bif_eq hC dX5_holdsFlawed_5 (tgt := 32) (by decide) (fun z3 => ?_) (fun z3 => ?_)
  · have h := wq_in_ z3 h
    refine wq_iconst hC (v := 0) dX5_holdsFlawed_32 (by decide) ?_
    have h := Option.some.inj h
    subst h
    exact wq_zret hC (b := false) dX5_holdsFlawed_33 (by decide) K.1 K.2
  · have h := wq_ip z3 h
    refine wq_aload_n hC dX5_holdsFlawed_8 (i := 0) rfl rfl ?_
    refine wq_aload_n hC dX5_holdsFlawed_9 (i := 0) rfl rfl ?_
    refine gf_5 hC hp0.1 5 (.ref (E.2.1 (p0 + 4))) (by decide) rfl tw_125 dX5_holdsFlawed_10 ?_
    refine wq_iload_n hC dX5_holdsFlawed_13 (i := 1) rfl rfl ?_
    obtain ⟨z4, h⟩ := wq_ii h
    refine wq_ald hC hp0.2.2.2.2 z4 dX5_holdsFlawed_14 ?_
    obtain ⟨r5, hc6, h⟩ := wq_ob h
    refine cv_5 hC (ctX5_burstBorne (d := d - 1) (by omega) hp0 hc6) (by omega) (by decide) hp0.1 rfl rfl npX5_burstBorne tw_459 tw_460 tw_461 tw_462 (st := []) (Nat.le_of_ble_eq_true rfl) rfl dX5_holdsFlawed_15 (st1 := [.int r5]) rfl ?_
    refine wq_iconst hC (v := 2) dX5_holdsFlawed_18 (by decide) ?_
    refine wq_idiv hC dX5_holdsFlawed_19 (by decide) ?_
    refine wq_aload_n hC dX5_holdsFlawed_20 (i := 0) rfl rfl ?_
    refine wq_iload_n hC dX5_holdsFlawed_21 (i := 1) rfl rfl ?_
    obtain ⟨r7, hc8, h⟩ := wq_ob h
    refine cv_5 hC (ctX5_burstLoad (d := d - 1) (by omega) hp0 hc8) (by omega) (by decide) hp0.1 rfl rfl npX5_burstLoad tw_464 tw_465 tw_466 tw_467 (st := [.int (r5 / 2)]) (Nat.le_of_ble_eq_true rfl) rfl dX5_holdsFlawed_22 (st1 := [.int r7, .int (r5 / 2)]) rfl ?_
    refine wq_icmp_lt hC dX5_holdsFlawed_25 (tgt := 32) (by decide) (fun z9 => ?_) (fun z9 => ?_)
    · have h := wq_ip z9 h
      refine wq_iconst hC (v := 0) dX5_holdsFlawed_32 (by decide) ?_
      have h := Option.some.inj h
      subst h
      exact wq_zret hC (b := false) dX5_holdsFlawed_33 (by decide) K.1 K.2
    · have h := wq_in_ z9 h
      refine wq_iconst hC (v := 1) dX5_holdsFlawed_28 (by decide) ?_
      refine wq_goto hC dX5_holdsFlawed_29 (tgt := 33) (by decide) ?_
      have h := Option.some.inj h
      subst h
      exact wq_zret hC (b := true) dX5_holdsFlawed_33 (by decide) K.1 K.2
theorem npX5_howManyHold : yX5_howManyHold.cls ≠ "java/lang/invoke/MethodHandle" ∧ yX5_howManyHold.cls ≠ "java/lang/invoke/VarHandle" ∧ (parseMethodDescriptor yX5_howManyHold.desc).map (fun d => d.parameters.length) = some 0 := by decide +kernel
def fX5_howManyHold_L4 (p0 : Nat) (M : wq_M) : (Int32 × Int32) → Option ((Int32 × Int32) ⊕ Int32) := fun s =>
  (if (M.1 p0 0) ≤ s.2 then
    some (.inr s.1)
  else
    (fX5_holds p0 s.2 M).bind fun r2 => (if r2 = true then
      some (.inl ((s.1 + 1), (s.2 + 1)))
    else
      some (.inl (s.1, (s.2 + 1)))))
set_option maxHeartbeats 4000000 in
set_option maxRecDepth 100000 in
theorem gX5_howManyHold_L4 {g : wq_G} {E : wq_E} {d : Nat} (hC : wq_C g E wq_yC cX5_howManyHold 3 "WellPipes$Well" (some .int) d) (hd0 : 5 ≤ d) (p0 : Nat) (M : wq_M) (hp0 : wq_W p0) : ∀ (n : Nat) (s : (Int32 × Int32)) (e : Int32), wq_lp (fX5_howManyHold_L4 p0 M) n s = some e → (fun (e : Int32) => wq_g g E wq_yC 3 29 [none, some (.int e), none] [] M) e → wq_g g E wq_yC 3 4 [some (.ref (E.2.1 p0)), some (.int s.1), some (.int s.2)] [] M := by
  refine wq_lq_ok (fun (s : (Int32 × Int32)) => wq_g g E wq_yC 3 4 [some (.ref (E.2.1 p0)), some (.int s.1), some (.int s.2)] [] M) (fun (e : Int32) => wq_g g E wq_yC 3 29 [none, some (.int e), none] [] M) (fun s x h K => ?_)
  unfold fX5_howManyHold_L4 at h
  refine wq_iload_n hC dX5_howManyHold_4 (i := 2) rfl rfl ?_
  refine wq_aload_n hC dX5_howManyHold_5 (i := 0) rfl rfl ?_
  refine gf_5 hC hp0.1 0 (.int (M.1 p0 0)) (by decide) rfl tw_107 dX5_howManyHold_6 ?_
  refine wq_icmp_ge hC dX5_howManyHold_9 (tgt := 29) (by decide) (fun z1 => ?_) (fun z1 => ?_)
  · have h := wq_ip z1 h
    have h := Option.some.inj h
    subst h
    refine wq_mask [false, true, false] (lv' := [none, some (.int s.1), none]) rfl ?_
    exact K
  · have h := wq_in_ z1 h
    refine wq_aload_n hC dX5_howManyHold_12 (i := 0) rfl rfl ?_
    refine wq_iload_n hC dX5_howManyHold_13 (i := 2) rfl rfl ?_
    obtain ⟨r2, hc3, h⟩ := wq_ob h
    refine cv_5 hC (ctX5_holds (d := d - 1) (by omega) hp0 hc3) (by omega) (by decide) hp0.1 rfl rfl npX5_holds tw_564 tw_536 tw_537 tw_538 (st := []) (Nat.le_of_ble_eq_true rfl) rfl dX5_howManyHold_14 (st1 := [.int (wq_b r2)]) rfl ?_
    refine wq_bif_eq hC dX5_howManyHold_17 (tgt := 23) (by decide) (fun z4 => ?_) (fun z4 => ?_)
    · have h := wq_in_ z4 h
      refine wq_iinc hC (v := (s.2 + 1)) dX5_howManyHold_23 (lv' := [some (.ref (E.2.1 p0)), some (.int s.1), some (.int (s.2 + 1))]) rfl rfl (by decide) rfl ?_
      refine wq_goto hC dX5_howManyHold_26 (tgt := 4) (by decide) ?_
      have h := Option.some.inj h
      subst h
      exact K
    · have h := wq_ip z4 h
      refine wq_iinc hC (v := (s.1 + 1)) dX5_howManyHold_20 (lv' := [some (.ref (E.2.1 p0)), some (.int (s.1 + 1)), some (.int s.2)]) rfl rfl (by decide) rfl ?_
      refine wq_iinc hC (v := (s.2 + 1)) dX5_howManyHold_23 (lv' := [some (.ref (E.2.1 p0)), some (.int (s.1 + 1)), some (.int (s.2 + 1))]) rfl rfl (by decide) rfl ?_
      refine wq_goto hC dX5_howManyHold_26 (tgt := 4) (by decide) ?_
      have h := Option.some.inj h
      subst h
      exact K
def fX5_howManyHold (p0 : Nat) (M : wq_M) : Option Int32 :=
  (wq_lp (fX5_howManyHold_L4 p0 M) wq_FU (0, 0)).bind fun e5 => some e5
set_option maxHeartbeats 4000000 in
set_option maxRecDepth 100000 in
theorem ctX5_howManyHold {l : Launch} {E : wq_E} {d : Nat} (hd0 : 5 ≤ d) {p0 : Nat} {M : wq_M} {r : Int32} (hp0 : wq_W p0) (h : fX5_howManyHold p0 M = some r) : wq_ct l E wq_yC yX5_howManyHold cX5_howManyHold 3 (some .int) d [.ref (E.2.1 p0)] M (some (.int r)) M := by
  refine wq_ent (own := "WellPipes$Well") (lv0 := [some (.ref (E.2.1 p0)), none, none]) (by decide +kernel) rfl (Nat.le_of_ble_eq_true rfl) rfl (fun g h1 h2 hC => ?_)
  have K : wq_ki g M r := ⟨h1, h2⟩
  unfold fX5_howManyHold at h
  refine wq_iconst hC (v := 0) dX5_howManyHold_0 (by decide) ?_
  refine wq_istore_n hC dX5_howManyHold_1 (i := 1) (lv' := [some (.ref (E.2.1 p0)), some (.int 0), none]) rfl (by decide) rfl ?_
  refine wq_iconst hC (v := 0) dX5_howManyHold_2 (by decide) ?_
  refine wq_istore_n hC dX5_howManyHold_3 (i := 2) (lv' := [some (.ref (E.2.1 p0)), some (.int 0), some (.int 0)]) rfl (by decide) rfl ?_
  obtain ⟨e5, hl6, h⟩ := wq_ob h
  refine gX5_howManyHold_L4 hC hd0 p0 M hp0 wq_FU _ _ hl6 ?_
  refine wq_iload_n hC dX5_howManyHold_29 (i := 1) rfl rfl ?_
  have h := Option.some.inj h
  subst h
  exact wq_iret hC dX5_howManyHold_30 K.1 K.2
theorem npX5_firstThatFails : yX5_firstThatFails.cls ≠ "java/lang/invoke/MethodHandle" ∧ yX5_firstThatFails.cls ≠ "java/lang/invoke/VarHandle" ∧ (parseMethodDescriptor yX5_firstThatFails.desc).map (fun d => d.parameters.length) = some 0 := by decide +kernel
def fX5_firstThatFails_L2 (p0 : Nat) (M : wq_M) : Int32 → Option (Int32 ⊕ (Int32 ⊕ Unit)) := fun s =>
  (if (M.1 p0 0) ≤ s then
    some (.inr (.inr ()))
  else
    (fX5_holds p0 s M).bind fun r2 => (if r2 = true then
      some (.inl (s + 1))
    else
      some (.inr (.inl s))))
set_option maxHeartbeats 4000000 in
set_option maxRecDepth 100000 in
theorem gX5_firstThatFails_L2 {g : wq_G} {E : wq_E} {d : Nat} (hC : wq_C g E wq_yC cX5_firstThatFails 2 "WellPipes$Well" (some .int) d) (hd0 : 5 ≤ d) (p0 : Nat) (M : wq_M) (hp0 : wq_W p0) : ∀ (n : Nat) (s : Int32) (e : (Int32 ⊕ Unit)), wq_lp (fX5_firstThatFails_L2 p0 M) n s = some e → (Sum.elim (wq_ki g M) (fun (e : Unit) => wq_g g E wq_yC 2 26 [none, none] [] M)) e → wq_g g E wq_yC 2 2 [some (.ref (E.2.1 p0)), some (.int s)] [] M := by
  refine wq_lq_ok (fun (s : Int32) => wq_g g E wq_yC 2 2 [some (.ref (E.2.1 p0)), some (.int s)] [] M) (Sum.elim (wq_ki g M) (fun (e : Unit) => wq_g g E wq_yC 2 26 [none, none] [] M)) (fun s x h K => ?_)
  unfold fX5_firstThatFails_L2 at h
  refine wq_iload_n hC dX5_firstThatFails_2 (i := 1) rfl rfl ?_
  refine wq_aload_n hC dX5_firstThatFails_3 (i := 0) rfl rfl ?_
  refine gf_5 hC hp0.1 0 (.int (M.1 p0 0)) (by decide) rfl tw_107 dX5_firstThatFails_4 ?_
  refine wq_icmp_ge hC dX5_firstThatFails_7 (tgt := 26) (by decide) (fun z1 => ?_) (fun z1 => ?_)
  · have h := wq_ip z1 h
    have h := Option.some.inj h
    subst h
    refine wq_mask [false, false] (lv' := [none, none]) rfl ?_
    exact K
  · have h := wq_in_ z1 h
    refine wq_aload_n hC dX5_firstThatFails_10 (i := 0) rfl rfl ?_
    refine wq_iload_n hC dX5_firstThatFails_11 (i := 1) rfl rfl ?_
    obtain ⟨r2, hc3, h⟩ := wq_ob h
    refine cv_5 hC (ctX5_holds (d := d - 1) (by omega) hp0 hc3) (by omega) (by decide) hp0.1 rfl rfl npX5_holds tw_564 tw_536 tw_537 tw_538 (st := []) (Nat.le_of_ble_eq_true rfl) rfl dX5_firstThatFails_12 (st1 := [.int (wq_b r2)]) rfl ?_
    refine wq_bif_ne hC dX5_firstThatFails_15 (tgt := 20) (by decide) (fun z4 => ?_) (fun z4 => ?_)
    · have h := wq_ip z4 h
      refine wq_iinc hC (v := (s + 1)) dX5_firstThatFails_20 (lv' := [some (.ref (E.2.1 p0)), some (.int (s + 1))]) rfl rfl (by decide) rfl ?_
      refine wq_goto hC dX5_firstThatFails_23 (tgt := 2) (by decide) ?_
      have h := Option.some.inj h
      subst h
      exact K
    · have h := wq_in_ z4 h
      refine wq_iload_n hC dX5_firstThatFails_18 (i := 1) rfl rfl ?_
      have h := Option.some.inj h
      subst h
      exact wq_iret hC dX5_firstThatFails_19 K.1 K.2
def fX5_firstThatFails (p0 : Nat) (M : wq_M) : Option Int32 :=
  (wq_lp (fX5_firstThatFails_L2 p0 M) wq_FU 0).bind fun e5 => Sum.elim (fun x => some x) (fun e5n => some (-1000000)) e5
set_option maxHeartbeats 4000000 in
set_option maxRecDepth 100000 in
theorem ctX5_firstThatFails {l : Launch} {E : wq_E} {d : Nat} (hd0 : 5 ≤ d) {p0 : Nat} {M : wq_M} {r : Int32} (hp0 : wq_W p0) (h : fX5_firstThatFails p0 M = some r) : wq_ct l E wq_yC yX5_firstThatFails cX5_firstThatFails 2 (some .int) d [.ref (E.2.1 p0)] M (some (.int r)) M := by
  refine wq_ent (own := "WellPipes$Well") (lv0 := [some (.ref (E.2.1 p0)), none]) (by decide +kernel) rfl (Nat.le_of_ble_eq_true rfl) rfl (fun g h1 h2 hC => ?_)
  have K : wq_ki g M r := ⟨h1, h2⟩
  unfold fX5_firstThatFails at h
  refine wq_iconst hC (v := 0) dX5_firstThatFails_0 (by decide) ?_
  refine wq_istore_n hC dX5_firstThatFails_1 (i := 1) (lv' := [some (.ref (E.2.1 p0)), some (.int 0)]) rfl (by decide) rfl ?_
  obtain ⟨e5, hl6, h⟩ := wq_ob h
  refine gX5_firstThatFails_L2 hC hd0 p0 M hp0 wq_FU _ _ hl6 ?_
  rcases e5 with e5x | e5n
  · have h := Option.some.inj h
    subst h
    exact K
  · refine wq_ldc hC (v := (-1000000)) tw_565 dX5_firstThatFails_26 ?_
    have h := Option.some.inj h
    subst h
    exact wq_iret hC dX5_firstThatFails_28 K.1 K.2
theorem npX5_sectionLength : yX5_sectionLength.cls ≠ "java/lang/invoke/MethodHandle" ∧ yX5_sectionLength.cls ≠ "java/lang/invoke/VarHandle" ∧ (parseMethodDescriptor yX5_sectionLength.desc).map (fun d => d.parameters.length) = some 1 := by decide +kernel
def fX5_sectionLength_L14 (p0 : Nat) (x1 : Int32) (M : wq_M) : Int32 → Option (Int32 ⊕ Int32) := fun s =>
  (if s ≤ 0 then
    some (.inr s)
  else
    if wq_in (s - 1) 8 then if wq_in x1 8 then (if (M.1 (p0 + 4) (s - 1).toNatClampNeg) = (M.1 (p0 + 4) x1.toNatClampNeg) then
      some (.inl (s + (-1)))
    else
      some (.inr s)) else none else none)
set_option maxHeartbeats 4000000 in
set_option maxRecDepth 100000 in
theorem gX5_sectionLength_L14 {g : wq_G} {E : wq_E} {d : Nat} (hC : wq_C g E wq_yC cX5_sectionLength 4 "WellPipes$Well" (some .int) d) (hd0 : 0 ≤ d) (p0 : Nat) (x1 : Int32) (M : wq_M) (hp0 : wq_W p0) : ∀ (n : Nat) (s : Int32) (e : Int32), wq_lp (fX5_sectionLength_L14 p0 x1 M) n s = some e → (fun (e : Int32) => wq_g g E wq_yC 4 41 [some (.ref (E.2.1 p0)), some (.int x1), some (.int e), none] [] M) e → wq_g g E wq_yC 4 14 [some (.ref (E.2.1 p0)), some (.int x1), some (.int s), none] [] M := by
  refine wq_lq_ok (fun (s : Int32) => wq_g g E wq_yC 4 14 [some (.ref (E.2.1 p0)), some (.int x1), some (.int s), none] [] M) (fun (e : Int32) => wq_g g E wq_yC 4 41 [some (.ref (E.2.1 p0)), some (.int x1), some (.int e), none] [] M) (fun s x h K => ?_)
  unfold fX5_sectionLength_L14 at h
  refine wq_iload_n hC dX5_sectionLength_14 (i := 2) rfl rfl ?_
  refine wq_if_le hC dX5_sectionLength_15 (tgt := 41) (by decide) (fun z3 => ?_) (fun z3 => ?_)
  · have h := wq_ip z3 h
    have h := Option.some.inj h
    subst h
    exact K
  · have h := wq_in_ z3 h
    refine wq_aload_n hC dX5_sectionLength_18 (i := 0) rfl rfl ?_
    refine gf_5 hC hp0.1 5 (.ref (E.2.1 (p0 + 4))) (by decide) rfl tw_125 dX5_sectionLength_19 ?_
    refine wq_iload_n hC dX5_sectionLength_22 (i := 2) rfl rfl ?_
    refine wq_iconst hC (v := 1) dX5_sectionLength_23 (by decide) ?_
    refine wq_isub hC dX5_sectionLength_24 ?_
    obtain ⟨z4, h⟩ := wq_ii h
    refine wq_ald hC hp0.2.2.2.2 z4 dX5_sectionLength_25 ?_
    refine wq_aload_n hC dX5_sectionLength_26 (i := 0) rfl rfl ?_
    refine gf_5 hC hp0.1 5 (.ref (E.2.1 (p0 + 4))) (by decide) rfl tw_125 dX5_sectionLength_27 ?_
    refine wq_iload_n hC dX5_sectionLength_30 (i := 1) rfl rfl ?_
    obtain ⟨z5, h⟩ := wq_ii h
    refine wq_ald hC hp0.2.2.2.2 z5 dX5_sectionLength_31 ?_
    refine wq_icmp_ne hC dX5_sectionLength_32 (tgt := 41) (by decide) (fun z6 => ?_) (fun z6 => ?_)
    · have h := wq_in_ z6 h
      have h := Option.some.inj h
      subst h
      exact K
    · have h := wq_ip z6 h
      refine wq_iinc hC (v := (s + (-1))) dX5_sectionLength_35 (lv' := [some (.ref (E.2.1 p0)), some (.int x1), some (.int (s + (-1))), none]) rfl rfl (by decide) rfl ?_
      refine wq_goto hC dX5_sectionLength_38 (tgt := 14) (by decide) ?_
      have h := Option.some.inj h
      subst h
      exact K
def fX5_sectionLength_L45 (p0 : Nat) (x1 : Int32) (x2 : Int32) (M : wq_M) : Int32 → Option (Int32 ⊕ Int32) := fun s =>
  (if (M.1 p0 0) ≤ s then
    some (.inr s)
  else
    if wq_in s 8 then if wq_in x1 8 then (if (M.1 (p0 + 4) s.toNatClampNeg) = (M.1 (p0 + 4) x1.toNatClampNeg) then
      some (.inl (s + 1))
    else
      some (.inr s)) else none else none)
set_option maxHeartbeats 4000000 in
set_option maxRecDepth 100000 in
theorem gX5_sectionLength_L45 {g : wq_G} {E : wq_E} {d : Nat} (hC : wq_C g E wq_yC cX5_sectionLength 4 "WellPipes$Well" (some .int) d) (hd0 : 0 ≤ d) (p0 : Nat) (x1 : Int32) (x2 : Int32) (M : wq_M) (hp0 : wq_W p0) : ∀ (n : Nat) (s : Int32) (e : Int32), wq_lp (fX5_sectionLength_L45 p0 x1 x2 M) n s = some e → (fun (e : Int32) => wq_g g E wq_yC 4 74 [none, none, some (.int x2), some (.int e)] [] M) e → wq_g g E wq_yC 4 45 [some (.ref (E.2.1 p0)), some (.int x1), some (.int x2), some (.int s)] [] M := by
  refine wq_lq_ok (fun (s : Int32) => wq_g g E wq_yC 4 45 [some (.ref (E.2.1 p0)), some (.int x1), some (.int x2), some (.int s)] [] M) (fun (e : Int32) => wq_g g E wq_yC 4 74 [none, none, some (.int x2), some (.int e)] [] M) (fun s x h K => ?_)
  unfold fX5_sectionLength_L45 at h
  refine wq_iload_n hC dX5_sectionLength_45 (i := 3) rfl rfl ?_
  refine wq_aload_n hC dX5_sectionLength_46 (i := 0) rfl rfl ?_
  refine gf_5 hC hp0.1 0 (.int (M.1 p0 0)) (by decide) rfl tw_107 dX5_sectionLength_47 ?_
  refine wq_icmp_ge hC dX5_sectionLength_50 (tgt := 74) (by decide) (fun z9 => ?_) (fun z9 => ?_)
  · have h := wq_ip z9 h
    have h := Option.some.inj h
    subst h
    refine wq_mask [false, false, true, true] (lv' := [none, none, some (.int x2), some (.int s)]) rfl ?_
    exact K
  · have h := wq_in_ z9 h
    refine wq_aload_n hC dX5_sectionLength_53 (i := 0) rfl rfl ?_
    refine gf_5 hC hp0.1 5 (.ref (E.2.1 (p0 + 4))) (by decide) rfl tw_125 dX5_sectionLength_54 ?_
    refine wq_iload_n hC dX5_sectionLength_57 (i := 3) rfl rfl ?_
    obtain ⟨z10, h⟩ := wq_ii h
    refine wq_ald hC hp0.2.2.2.2 z10 dX5_sectionLength_58 ?_
    refine wq_aload_n hC dX5_sectionLength_59 (i := 0) rfl rfl ?_
    refine gf_5 hC hp0.1 5 (.ref (E.2.1 (p0 + 4))) (by decide) rfl tw_125 dX5_sectionLength_60 ?_
    refine wq_iload_n hC dX5_sectionLength_63 (i := 1) rfl rfl ?_
    obtain ⟨z11, h⟩ := wq_ii h
    refine wq_ald hC hp0.2.2.2.2 z11 dX5_sectionLength_64 ?_
    refine wq_icmp_ne hC dX5_sectionLength_65 (tgt := 74) (by decide) (fun z12 => ?_) (fun z12 => ?_)
    · have h := wq_in_ z12 h
      have h := Option.some.inj h
      subst h
      refine wq_mask [false, false, true, true] (lv' := [none, none, some (.int x2), some (.int s)]) rfl ?_
      exact K
    · have h := wq_ip z12 h
      refine wq_iinc hC (v := (s + 1)) dX5_sectionLength_68 (lv' := [some (.ref (E.2.1 p0)), some (.int x1), some (.int x2), some (.int (s + 1))]) rfl rfl (by decide) rfl ?_
      refine wq_goto hC dX5_sectionLength_71 (tgt := 45) (by decide) ?_
      have h := Option.some.inj h
      subst h
      exact K
def fX5_sectionLength_J41 (p0 : Nat) (x1 : Int32) (x2 : Int32) (M : wq_M) : Option Int32 :=
  (wq_lp (fX5_sectionLength_L45 p0 x1 x2 M) wq_FU (x1 + 1)).bind fun e13 => some (e13 - x2)
set_option maxHeartbeats 4000000 in
set_option maxRecDepth 100000 in
theorem gX5_sectionLength_J41 {g : wq_G} {E : wq_E} {d : Nat} (hC : wq_C g E wq_yC cX5_sectionLength 4 "WellPipes$Well" (some .int) d) (hd0 : 0 ≤ d) (p0 : Nat) (x1 : Int32) (x2 : Int32) (M : wq_M) (hp0 : wq_W p0) {x : Int32} (h : fX5_sectionLength_J41 p0 x1 x2 M = some x) (K : (wq_ki g M) x) : wq_g g E wq_yC 4 41 [some (.ref (E.2.1 p0)), some (.int x1), some (.int x2), none] [] M := by
  unfold fX5_sectionLength_J41 at h
  refine wq_iload_n hC dX5_sectionLength_41 (i := 1) rfl rfl ?_
  refine wq_iconst hC (v := 1) dX5_sectionLength_42 (by decide) ?_
  refine wq_iadd hC dX5_sectionLength_43 ?_
  refine wq_istore_n hC dX5_sectionLength_44 (i := 3) (lv' := [some (.ref (E.2.1 p0)), some (.int x1), some (.int x2), some (.int (x1 + 1))]) rfl (by decide) rfl ?_
  obtain ⟨e13, hl14, h⟩ := wq_ob h
  refine gX5_sectionLength_L45 hC hd0 p0 x1 x2 M hp0 wq_FU _ _ hl14 ?_
  refine wq_iload_n hC dX5_sectionLength_74 (i := 3) rfl rfl ?_
  refine wq_iload_n hC dX5_sectionLength_75 (i := 2) rfl rfl ?_
  refine wq_isub hC dX5_sectionLength_76 ?_
  have h := Option.some.inj h
  subst h
  exact wq_iret hC dX5_sectionLength_77 K.1 K.2
def fX5_sectionLength (p0 : Nat) (x1 : Int32) (M : wq_M) : Option Int32 :=
  if wq_in x1 8 then (if (M.1 (p0 + 4) x1.toNatClampNeg) = (-1) then
    some 0
  else
    (wq_lp (fX5_sectionLength_L14 p0 x1 M) wq_FU x1).bind fun e7 => fX5_sectionLength_J41 p0 x1 e7 M) else none
set_option maxHeartbeats 4000000 in
set_option maxRecDepth 100000 in
theorem ctX5_sectionLength {l : Launch} {E : wq_E} {d : Nat} (hd0 : 0 ≤ d) {p0 : Nat} {x1 : Int32} {M : wq_M} {r : Int32} (hp0 : wq_W p0) (h : fX5_sectionLength p0 x1 M = some r) : wq_ct l E wq_yC yX5_sectionLength cX5_sectionLength 4 (some .int) d [.ref (E.2.1 p0), .int x1] M (some (.int r)) M := by
  refine wq_ent (own := "WellPipes$Well") (lv0 := [some (.ref (E.2.1 p0)), some (.int x1), none, none]) (by decide +kernel) rfl (Nat.le_of_ble_eq_true rfl) rfl (fun g h1 h2 hC => ?_)
  have K : wq_ki g M r := ⟨h1, h2⟩
  unfold fX5_sectionLength at h
  refine wq_aload_n hC dX5_sectionLength_0 (i := 0) rfl rfl ?_
  refine gf_5 hC hp0.1 5 (.ref (E.2.1 (p0 + 4))) (by decide) rfl tw_125 dX5_sectionLength_1 ?_
  refine wq_iload_n hC dX5_sectionLength_4 (i := 1) rfl rfl ?_
  obtain ⟨z1, h⟩ := wq_ii h
  refine wq_ald hC hp0.2.2.2.2 z1 dX5_sectionLength_5 ?_
  refine wq_iconst hC (v := (-1)) dX5_sectionLength_6 (by decide) ?_
  refine wq_icmp_ne hC dX5_sectionLength_7 (tgt := 12) (by decide) (fun z2 => ?_) (fun z2 => ?_)
  · have h := wq_in_ z2 h
    refine wq_iload_n hC dX5_sectionLength_12 (i := 1) rfl rfl ?_
    refine wq_istore_n hC dX5_sectionLength_13 (i := 2) (lv' := [some (.ref (E.2.1 p0)), some (.int x1), some (.int x1), none]) rfl (by decide) rfl ?_
    obtain ⟨e7, hl8, h⟩ := wq_ob h
    refine gX5_sectionLength_L14 hC hd0 p0 x1 M hp0 wq_FU _ _ hl8 ?_
    exact gX5_sectionLength_J41 hC hd0 p0 x1 e7 M hp0 h K
  · have h := wq_ip z2 h
    refine wq_iconst hC (v := 0) dX5_sectionLength_10 (by decide) ?_
    have h := Option.some.inj h
    subst h
    exact wq_iret hC dX5_sectionLength_11 K.1 K.2
theorem npX5_isSound : yX5_isSound.cls ≠ "java/lang/invoke/MethodHandle" ∧ yX5_isSound.cls ≠ "java/lang/invoke/VarHandle" ∧ (parseMethodDescriptor yX5_isSound.desc).map (fun d => d.parameters.length) = some 0 := by decide +kernel
def fX5_isSound_L13 (p0 : Nat) (M : wq_M) : Int32 → Option (Int32 ⊕ (Bool ⊕ Unit)) := fun s =>
  (if (M.1 p0 0) ≤ s then
    some (.inr (.inr ()))
  else
    (fX5_sectionLength p0 s M).bind fun r5 => if wq_in 3 4 then (if (M.1 (p0 + 1) (3 : Int32).toNatClampNeg) ≤ r5 then
      some (.inl (s + 1))
    else
      some (.inr (.inl false))) else none)
set_option maxHeartbeats 4000000 in
set_option maxRecDepth 100000 in
theorem gX5_isSound_L13 {g : wq_G} {E : wq_E} {d : Nat} (hC : wq_C g E wq_yC cX5_isSound 2 "WellPipes$Well" (some .boolean) d) (hd0 : 6 ≤ d) (p0 : Nat) (M : wq_M) (hp0 : wq_W p0) : ∀ (n : Nat) (s : Int32) (e : (Bool ⊕ Unit)), wq_lp (fX5_isSound_L13 p0 M) n s = some e → (Sum.elim (wq_kb g M) (fun (e : Unit) => wq_g g E wq_yC 2 43 [none, none] [] M)) e → wq_g g E wq_yC 2 13 [some (.ref (E.2.1 p0)), some (.int s)] [] M := by
  refine wq_lq_ok (fun (s : Int32) => wq_g g E wq_yC 2 13 [some (.ref (E.2.1 p0)), some (.int s)] [] M) (Sum.elim (wq_kb g M) (fun (e : Unit) => wq_g g E wq_yC 2 43 [none, none] [] M)) (fun s x h K => ?_)
  unfold fX5_isSound_L13 at h
  refine wq_iload_n hC dX5_isSound_13 (i := 1) rfl rfl ?_
  refine wq_aload_n hC dX5_isSound_14 (i := 0) rfl rfl ?_
  refine gf_5 hC hp0.1 0 (.int (M.1 p0 0)) (by decide) rfl tw_107 dX5_isSound_15 ?_
  refine wq_icmp_ge hC dX5_isSound_18 (tgt := 43) (by decide) (fun z4 => ?_) (fun z4 => ?_)
  · have h := wq_ip z4 h
    have h := Option.some.inj h
    subst h
    refine wq_mask [false, false] (lv' := [none, none]) rfl ?_
    exact K
  · have h := wq_in_ z4 h
    refine wq_aload_n hC dX5_isSound_21 (i := 0) rfl rfl ?_
    refine wq_iload_n hC dX5_isSound_22 (i := 1) rfl rfl ?_
    obtain ⟨r5, hc6, h⟩ := wq_ob h
    refine cv_5 hC (ctX5_sectionLength (d := d - 1) (by omega) hp0 hc6) (by omega) (by decide) hp0.1 rfl rfl npX5_sectionLength tw_571 tw_542 tw_543 tw_544 (st := []) (Nat.le_of_ble_eq_true rfl) rfl dX5_isSound_23 (st1 := [.int r5]) rfl ?_
    refine wq_aload_n hC dX5_isSound_26 (i := 0) rfl rfl ?_
    refine gf_5 hC hp0.1 2 (.ref (E.2.1 (p0 + 1))) (by decide) rfl tw_115 dX5_isSound_27 ?_
    refine wq_iconst hC (v := 3) dX5_isSound_30 (by decide) ?_
    obtain ⟨z7, h⟩ := wq_ii h
    refine wq_ald hC hp0.2.1 z7 dX5_isSound_31 ?_
    refine wq_icmp_ge hC dX5_isSound_32 (tgt := 37) (by decide) (fun z8 => ?_) (fun z8 => ?_)
    · have h := wq_ip z8 h
      refine wq_iinc hC (v := (s + 1)) dX5_isSound_37 (lv' := [some (.ref (E.2.1 p0)), some (.int (s + 1))]) rfl rfl (by decide) rfl ?_
      refine wq_goto hC dX5_isSound_40 (tgt := 13) (by decide) ?_
      have h := Option.some.inj h
      subst h
      exact K
    · have h := wq_in_ z8 h
      refine wq_iconst hC (v := 0) dX5_isSound_35 (by decide) ?_
      have h := Option.some.inj h
      subst h
      exact wq_zret hC (b := false) dX5_isSound_36 (by decide) K.1 K.2
def fX5_isSound (p0 : Nat) (M : wq_M) : Option Bool :=
  (fX5_firstThatFails p0 M).bind fun r1 => (if r1 = (-1000000) then
    (wq_lp (fX5_isSound_L13 p0 M) wq_FU 0).bind fun e9 => Sum.elim (fun x => some x) (fun e9n => some true) e9
  else
    some false)
set_option maxHeartbeats 4000000 in
set_option maxRecDepth 100000 in
theorem ctX5_isSound {l : Launch} {E : wq_E} {d : Nat} (hd0 : 6 ≤ d) {p0 : Nat} {M : wq_M} {r : Bool} (hp0 : wq_W p0) (h : fX5_isSound p0 M = some r) : wq_ct l E wq_yC yX5_isSound cX5_isSound 2 (some .boolean) d [.ref (E.2.1 p0)] M (some (.int (wq_b r))) M := by
  refine wq_ent (own := "WellPipes$Well") (lv0 := [some (.ref (E.2.1 p0)), none]) (by decide +kernel) rfl (Nat.le_of_ble_eq_true rfl) rfl (fun g h1 h2 hC => ?_)
  have K : wq_kb g M r := ⟨h1, h2⟩
  unfold fX5_isSound at h
  refine wq_aload_n hC dX5_isSound_0 (i := 0) rfl rfl ?_
  obtain ⟨r1, hc2, h⟩ := wq_ob h
  refine cv_5 hC (ctX5_firstThatFails (d := d - 1) (by omega) hp0 hc2) (by omega) (by decide) hp0.1 rfl rfl npX5_firstThatFails tw_570 tw_561 tw_562 tw_563 (st := []) (Nat.le_of_ble_eq_true rfl) rfl dX5_isSound_1 (st1 := [.int r1]) rfl ?_
  refine wq_ldc hC (v := (-1000000)) tw_565 dX5_isSound_4 ?_
  refine wq_icmp_eq hC dX5_isSound_6 (tgt := 11) (by decide) (fun z3 => ?_) (fun z3 => ?_)
  · have h := wq_ip z3 h
    refine wq_iconst hC (v := 0) dX5_isSound_11 (by decide) ?_
    refine wq_istore_n hC dX5_isSound_12 (i := 1) (lv' := [some (.ref (E.2.1 p0)), some (.int 0)]) rfl (by decide) rfl ?_
    obtain ⟨e9, hl10, h⟩ := wq_ob h
    refine gX5_isSound_L13 hC hd0 p0 M hp0 wq_FU _ _ hl10 ?_
    rcases e9 with e9x | e9n
    · have h := Option.some.inj h
      subst h
      exact K
    · refine wq_iconst hC (v := 1) dX5_isSound_43 (by decide) ?_
      have h := Option.some.inj h
      subst h
      exact wq_zret hC (b := true) dX5_isSound_44 (by decide) K.1 K.2
  · have h := wq_in_ z3 h
    refine wq_iconst hC (v := 0) dX5_isSound_9 (by decide) ?_
    have h := Option.some.inj h
    subst h
    exact wq_zret hC (b := false) dX5_isSound_10 (by decide) K.1 K.2
theorem npX5_howManySections : yX5_howManySections.cls ≠ "java/lang/invoke/MethodHandle" ∧ yX5_howManySections.cls ≠ "java/lang/invoke/VarHandle" ∧ (parseMethodDescriptor yX5_howManySections.desc).map (fun d => d.parameters.length) = some 0 := by decide +kernel
def fX5_howManySections_L4 (p0 : Nat) (M : wq_M) : (Int32 × Int32) → Option ((Int32 × Int32) ⊕ Int32) := fun s =>
  (if (M.1 p0 0) ≤ s.2 then
    some (.inr s.1)
  else
    if wq_in s.2 8 then (if (M.1 (p0 + 4) s.2.toNatClampNeg) = (-1) then
      some (.inl (s.1, (s.2 + 1)))
    else
      (if s.2 = 0 then
        some (.inl ((s.1 + 1), (s.2 + 1)))
      else
        if wq_in (s.2 - 1) 8 then if wq_in s.2 8 then (if (M.1 (p0 + 4) (s.2 - 1).toNatClampNeg) = (M.1 (p0 + 4) s.2.toNatClampNeg) then
          some (.inl (s.1, (s.2 + 1)))
        else
          some (.inl ((s.1 + 1), (s.2 + 1)))) else none else none)) else none)
set_option maxHeartbeats 4000000 in
set_option maxRecDepth 100000 in
theorem gX5_howManySections_L4 {g : wq_G} {E : wq_E} {d : Nat} (hC : wq_C g E wq_yC cX5_howManySections 3 "WellPipes$Well" (some .int) d) (hd0 : 0 ≤ d) (p0 : Nat) (M : wq_M) (hp0 : wq_W p0) : ∀ (n : Nat) (s : (Int32 × Int32)) (e : Int32), wq_lp (fX5_howManySections_L4 p0 M) n s = some e → (fun (e : Int32) => wq_g g E wq_yC 3 52 [none, some (.int e), none] [] M) e → wq_g g E wq_yC 3 4 [some (.ref (E.2.1 p0)), some (.int s.1), some (.int s.2)] [] M := by
  refine wq_lq_ok (fun (s : (Int32 × Int32)) => wq_g g E wq_yC 3 4 [some (.ref (E.2.1 p0)), some (.int s.1), some (.int s.2)] [] M) (fun (e : Int32) => wq_g g E wq_yC 3 52 [none, some (.int e), none] [] M) (fun s x h K => ?_)
  unfold fX5_howManySections_L4 at h
  refine wq_iload_n hC dX5_howManySections_4 (i := 2) rfl rfl ?_
  refine wq_aload_n hC dX5_howManySections_5 (i := 0) rfl rfl ?_
  refine gf_5 hC hp0.1 0 (.int (M.1 p0 0)) (by decide) rfl tw_107 dX5_howManySections_6 ?_
  refine wq_icmp_ge hC dX5_howManySections_9 (tgt := 52) (by decide) (fun z1 => ?_) (fun z1 => ?_)
  · have h := wq_ip z1 h
    have h := Option.some.inj h
    subst h
    refine wq_mask [false, true, false] (lv' := [none, some (.int s.1), none]) rfl ?_
    exact K
  · have h := wq_in_ z1 h
    refine wq_aload_n hC dX5_howManySections_12 (i := 0) rfl rfl ?_
    refine gf_5 hC hp0.1 5 (.ref (E.2.1 (p0 + 4))) (by decide) rfl tw_125 dX5_howManySections_13 ?_
    refine wq_iload_n hC dX5_howManySections_16 (i := 2) rfl rfl ?_
    obtain ⟨z2, h⟩ := wq_ii h
    refine wq_ald hC hp0.2.2.2.2 z2 dX5_howManySections_17 ?_
    refine wq_iconst hC (v := (-1)) dX5_howManySections_18 (by decide) ?_
    refine wq_icmp_eq hC dX5_howManySections_19 (tgt := 46) (by decide) (fun z3 => ?_) (fun z3 => ?_)
    · have h := wq_ip z3 h
      refine wq_iinc hC (v := (s.2 + 1)) dX5_howManySections_46 (lv' := [some (.ref (E.2.1 p0)), some (.int s.1), some (.int (s.2 + 1))]) rfl rfl (by decide) rfl ?_
      refine wq_goto hC dX5_howManySections_49 (tgt := 4) (by decide) ?_
      have h := Option.some.inj h
      subst h
      exact K
    · have h := wq_in_ z3 h
      refine wq_iload_n hC dX5_howManySections_22 (i := 2) rfl rfl ?_
      refine wq_if_eq hC dX5_howManySections_23 (tgt := 43) (by decide) (fun z4 => ?_) (fun z4 => ?_)
      · have h := wq_ip z4 h
        refine wq_iinc hC (v := (s.1 + 1)) dX5_howManySections_43 (lv' := [some (.ref (E.2.1 p0)), some (.int (s.1 + 1)), some (.int s.2)]) rfl rfl (by decide) rfl ?_
        refine wq_iinc hC (v := (s.2 + 1)) dX5_howManySections_46 (lv' := [some (.ref (E.2.1 p0)), some (.int (s.1 + 1)), some (.int (s.2 + 1))]) rfl rfl (by decide) rfl ?_
        refine wq_goto hC dX5_howManySections_49 (tgt := 4) (by decide) ?_
        have h := Option.some.inj h
        subst h
        exact K
      · have h := wq_in_ z4 h
        refine wq_aload_n hC dX5_howManySections_26 (i := 0) rfl rfl ?_
        refine gf_5 hC hp0.1 5 (.ref (E.2.1 (p0 + 4))) (by decide) rfl tw_125 dX5_howManySections_27 ?_
        refine wq_iload_n hC dX5_howManySections_30 (i := 2) rfl rfl ?_
        refine wq_iconst hC (v := 1) dX5_howManySections_31 (by decide) ?_
        refine wq_isub hC dX5_howManySections_32 ?_
        obtain ⟨z5, h⟩ := wq_ii h
        refine wq_ald hC hp0.2.2.2.2 z5 dX5_howManySections_33 ?_
        refine wq_aload_n hC dX5_howManySections_34 (i := 0) rfl rfl ?_
        refine gf_5 hC hp0.1 5 (.ref (E.2.1 (p0 + 4))) (by decide) rfl tw_125 dX5_howManySections_35 ?_
        refine wq_iload_n hC dX5_howManySections_38 (i := 2) rfl rfl ?_
        obtain ⟨z6, h⟩ := wq_ii h
        refine wq_ald hC hp0.2.2.2.2 z6 dX5_howManySections_39 ?_
        refine wq_icmp_eq hC dX5_howManySections_40 (tgt := 46) (by decide) (fun z7 => ?_) (fun z7 => ?_)
        · have h := wq_ip z7 h
          refine wq_iinc hC (v := (s.2 + 1)) dX5_howManySections_46 (lv' := [some (.ref (E.2.1 p0)), some (.int s.1), some (.int (s.2 + 1))]) rfl rfl (by decide) rfl ?_
          refine wq_goto hC dX5_howManySections_49 (tgt := 4) (by decide) ?_
          have h := Option.some.inj h
          subst h
          exact K
        · have h := wq_in_ z7 h
          refine wq_iinc hC (v := (s.1 + 1)) dX5_howManySections_43 (lv' := [some (.ref (E.2.1 p0)), some (.int (s.1 + 1)), some (.int s.2)]) rfl rfl (by decide) rfl ?_
          refine wq_iinc hC (v := (s.2 + 1)) dX5_howManySections_46 (lv' := [some (.ref (E.2.1 p0)), some (.int (s.1 + 1)), some (.int (s.2 + 1))]) rfl rfl (by decide) rfl ?_
          refine wq_goto hC dX5_howManySections_49 (tgt := 4) (by decide) ?_
          have h := Option.some.inj h
          subst h
          exact K
def fX5_howManySections (p0 : Nat) (M : wq_M) : Option Int32 :=
  (wq_lp (fX5_howManySections_L4 p0 M) wq_FU (0, 0)).bind fun e8 => some e8
set_option maxHeartbeats 4000000 in
set_option maxRecDepth 100000 in
theorem ctX5_howManySections {l : Launch} {E : wq_E} {d : Nat} (hd0 : 0 ≤ d) {p0 : Nat} {M : wq_M} {r : Int32} (hp0 : wq_W p0) (h : fX5_howManySections p0 M = some r) : wq_ct l E wq_yC yX5_howManySections cX5_howManySections 3 (some .int) d [.ref (E.2.1 p0)] M (some (.int r)) M := by
  refine wq_ent (own := "WellPipes$Well") (lv0 := [some (.ref (E.2.1 p0)), none, none]) (by decide +kernel) rfl (Nat.le_of_ble_eq_true rfl) rfl (fun g h1 h2 hC => ?_)
  have K : wq_ki g M r := ⟨h1, h2⟩
  unfold fX5_howManySections at h
  refine wq_iconst hC (v := 0) dX5_howManySections_0 (by decide) ?_
  refine wq_istore_n hC dX5_howManySections_1 (i := 1) (lv' := [some (.ref (E.2.1 p0)), some (.int 0), none]) rfl (by decide) rfl ?_
  refine wq_iconst hC (v := 0) dX5_howManySections_2 (by decide) ?_
  refine wq_istore_n hC dX5_howManySections_3 (i := 2) (lv' := [some (.ref (E.2.1 p0)), some (.int 0), some (.int 0)]) rfl (by decide) rfl ?_
  obtain ⟨e8, hl9, h⟩ := wq_ob h
  refine gX5_howManySections_L4 hC hd0 p0 M hp0 wq_FU _ _ hl9 ?_
  refine wq_iload_n hC dX5_howManySections_52 (i := 1) rfl rfl ?_
  have h := Option.some.inj h
  subst h
  exact wq_iret hC dX5_howManySections_53 K.1 K.2
theorem npX5_priceOf : yX5_priceOf.cls ≠ "java/lang/invoke/MethodHandle" ∧ yX5_priceOf.cls ≠ "java/lang/invoke/VarHandle" ∧ (parseMethodDescriptor yX5_priceOf.desc).map (fun d => d.parameters.length) = some 1 := by decide +kernel
def fX5_priceOf_L4 (p0 : Nat) (x1 : Int32) (M : wq_M) : (Int32 × Int32) → Option ((Int32 × Int32) ⊕ (Int32 ⊕ Int32)) := fun s =>
  (if (M.1 p0 0) ≤ s.2 then
    some (.inr (.inr s.1))
  else
    (if ((x1 >>> (s.2 &&& 31)) &&& 1) = 1 then
      if wq_in s.2 8 then (if (M.1 (p0 + 4) s.2.toNatClampNeg) = (-1) then
        some (.inr (.inl (-1000000)))
      else
        if wq_in s.2 8 then (fX5_figure p0 (M.1 (p0 + 4) s.2.toNatClampNeg) 4 M).bind fun r6 => some (.inl ((s.1 + r6), (s.2 + 1))) else none) else none
    else
      some (.inl (s.1, (s.2 + 1)))))
set_option maxHeartbeats 4000000 in
set_option maxRecDepth 100000 in
theorem gX5_priceOf_L4 {g : wq_G} {E : wq_E} {d : Nat} (hC : wq_C g E wq_yC cX5_priceOf 4 "WellPipes$Well" (some .int) d) (hd0 : 1 ≤ d) (p0 : Nat) (x1 : Int32) (M : wq_M) (hp0 : wq_W p0) : ∀ (n : Nat) (s : (Int32 × Int32)) (e : (Int32 ⊕ Int32)), wq_lp (fX5_priceOf_L4 p0 x1 M) n s = some e → (Sum.elim (wq_ki g M) (fun (e : Int32) => wq_g g E wq_yC 4 54 [none, none, some (.int e), none] [] M)) e → wq_g g E wq_yC 4 4 [some (.ref (E.2.1 p0)), some (.int x1), some (.int s.1), some (.int s.2)] [] M := by
  refine wq_lq_ok (fun (s : (Int32 × Int32)) => wq_g g E wq_yC 4 4 [some (.ref (E.2.1 p0)), some (.int x1), some (.int s.1), some (.int s.2)] [] M) (Sum.elim (wq_ki g M) (fun (e : Int32) => wq_g g E wq_yC 4 54 [none, none, some (.int e), none] [] M)) (fun s x h K => ?_)
  unfold fX5_priceOf_L4 at h
  refine wq_iload_n hC dX5_priceOf_4 (i := 3) rfl rfl ?_
  refine wq_aload_n hC dX5_priceOf_5 (i := 0) rfl rfl ?_
  refine gf_5 hC hp0.1 0 (.int (M.1 p0 0)) (by decide) rfl tw_107 dX5_priceOf_6 ?_
  refine wq_icmp_ge hC dX5_priceOf_9 (tgt := 54) (by decide) (fun z1 => ?_) (fun z1 => ?_)
  · have h := wq_ip z1 h
    have h := Option.some.inj h
    subst h
    refine wq_mask [false, false, true, false] (lv' := [none, none, some (.int s.1), none]) rfl ?_
    exact K
  · have h := wq_in_ z1 h
    refine wq_iload_n hC dX5_priceOf_12 (i := 1) rfl rfl ?_
    refine wq_iload_n hC dX5_priceOf_13 (i := 3) rfl rfl ?_
    refine wq_ishr hC dX5_priceOf_14 ?_
    refine wq_iconst hC (v := 1) dX5_priceOf_15 (by decide) ?_
    refine wq_iand hC dX5_priceOf_16 ?_
    refine wq_iconst hC (v := 1) dX5_priceOf_17 (by decide) ?_
    refine wq_icmp_ne hC dX5_priceOf_18 (tgt := 48) (by decide) (fun z2 => ?_) (fun z2 => ?_)
    · have h := wq_in_ z2 h
      refine wq_iinc hC (v := (s.2 + 1)) dX5_priceOf_48 (lv' := [some (.ref (E.2.1 p0)), some (.int x1), some (.int s.1), some (.int (s.2 + 1))]) rfl rfl (by decide) rfl ?_
      refine wq_goto hC dX5_priceOf_51 (tgt := 4) (by decide) ?_
      have h := Option.some.inj h
      subst h
      exact K
    · have h := wq_ip z2 h
      refine wq_aload_n hC dX5_priceOf_21 (i := 0) rfl rfl ?_
      refine gf_5 hC hp0.1 5 (.ref (E.2.1 (p0 + 4))) (by decide) rfl tw_125 dX5_priceOf_22 ?_
      refine wq_iload_n hC dX5_priceOf_25 (i := 3) rfl rfl ?_
      obtain ⟨z3, h⟩ := wq_ii h
      refine wq_ald hC hp0.2.2.2.2 z3 dX5_priceOf_26 ?_
      refine wq_iconst hC (v := (-1)) dX5_priceOf_27 (by decide) ?_
      refine wq_icmp_ne hC dX5_priceOf_28 (tgt := 34) (by decide) (fun z4 => ?_) (fun z4 => ?_)
      · have h := wq_in_ z4 h
        refine wq_iload_n hC dX5_priceOf_34 (i := 2) rfl rfl ?_
        refine wq_aload_n hC dX5_priceOf_35 (i := 0) rfl rfl ?_
        refine wq_aload_n hC dX5_priceOf_36 (i := 0) rfl rfl ?_
        refine gf_5 hC hp0.1 5 (.ref (E.2.1 (p0 + 4))) (by decide) rfl tw_125 dX5_priceOf_37 ?_
        refine wq_iload_n hC dX5_priceOf_40 (i := 3) rfl rfl ?_
        obtain ⟨z5, h⟩ := wq_ii h
        refine wq_ald hC hp0.2.2.2.2 z5 dX5_priceOf_41 ?_
        refine wq_iconst hC (v := 4) dX5_priceOf_42 (by decide) ?_
        obtain ⟨r6, hc7, h⟩ := wq_ob h
        refine cv_5 hC (ctX5_figure (d := d - 1) (by omega) hp0 hc7) (by omega) (by decide) hp0.1 rfl rfl npX5_figure tw_463 tw_452 tw_453 tw_454 (st := [.int s.1]) (Nat.le_of_ble_eq_true rfl) rfl dX5_priceOf_43 (st1 := [.int r6, .int s.1]) rfl ?_
        refine wq_iadd hC dX5_priceOf_46 ?_
        refine wq_istore_n hC dX5_priceOf_47 (i := 2) (lv' := [some (.ref (E.2.1 p0)), some (.int x1), some (.int (s.1 + r6)), some (.int s.2)]) rfl (by decide) rfl ?_
        refine wq_iinc hC (v := (s.2 + 1)) dX5_priceOf_48 (lv' := [some (.ref (E.2.1 p0)), some (.int x1), some (.int (s.1 + r6)), some (.int (s.2 + 1))]) rfl rfl (by decide) rfl ?_
        refine wq_goto hC dX5_priceOf_51 (tgt := 4) (by decide) ?_
        have h := Option.some.inj h
        subst h
        exact K
      · have h := wq_ip z4 h
        refine wq_ldc hC (v := (-1000000)) tw_565 dX5_priceOf_31 ?_
        have h := Option.some.inj h
        subst h
        exact wq_iret hC dX5_priceOf_33 K.1 K.2
def fX5_priceOf (p0 : Nat) (x1 : Int32) (M : wq_M) : Option Int32 :=
  (wq_lp (fX5_priceOf_L4 p0 x1 M) wq_FU (0, 0)).bind fun e8 => Sum.elim (fun x => some x) (fun e8n => some e8n) e8
set_option maxHeartbeats 4000000 in
set_option maxRecDepth 100000 in
theorem ctX5_priceOf {l : Launch} {E : wq_E} {d : Nat} (hd0 : 1 ≤ d) {p0 : Nat} {x1 : Int32} {M : wq_M} {r : Int32} (hp0 : wq_W p0) (h : fX5_priceOf p0 x1 M = some r) : wq_ct l E wq_yC yX5_priceOf cX5_priceOf 4 (some .int) d [.ref (E.2.1 p0), .int x1] M (some (.int r)) M := by
  refine wq_ent (own := "WellPipes$Well") (lv0 := [some (.ref (E.2.1 p0)), some (.int x1), none, none]) (by decide +kernel) rfl (Nat.le_of_ble_eq_true rfl) rfl (fun g h1 h2 hC => ?_)
  have K : wq_ki g M r := ⟨h1, h2⟩
  unfold fX5_priceOf at h
  refine wq_iconst hC (v := 0) dX5_priceOf_0 (by decide) ?_
  refine wq_istore_n hC dX5_priceOf_1 (i := 2) (lv' := [some (.ref (E.2.1 p0)), some (.int x1), some (.int 0), none]) rfl (by decide) rfl ?_
  refine wq_iconst hC (v := 0) dX5_priceOf_2 (by decide) ?_
  refine wq_istore_n hC dX5_priceOf_3 (i := 3) (lv' := [some (.ref (E.2.1 p0)), some (.int x1), some (.int 0), some (.int 0)]) rfl (by decide) rfl ?_
  obtain ⟨e8, hl9, h⟩ := wq_ob h
  refine gX5_priceOf_L4 hC hd0 p0 x1 M hp0 wq_FU _ _ hl9 ?_
  rcases e8 with e8x | e8n
  · have h := Option.some.inj h
    subst h
    exact K
  · refine wq_iload_n hC dX5_priceOf_54 (i := 2) rfl rfl ?_
    have h := Option.some.inj h
    subst h
    exact wq_iret hC dX5_priceOf_55 K.1 K.2
theorem npX5_changeByDraw : yX5_changeByDraw.cls ≠ "java/lang/invoke/MethodHandle" ∧ yX5_changeByDraw.cls ≠ "java/lang/invoke/VarHandle" ∧ (parseMethodDescriptor yX5_changeByDraw.desc).map (fun d => d.parameters.length) = some 1 := by decide +kernel
def fX5_changeByDraw (p0 : Nat) (x1 : Int32) (M : wq_M) : Option wq_M :=
  (if (M.1 p0 0) < 1 then
    some M
  else
    (if 1 ≤ (M.1 p0 1) then
      if ¬ (M.1 p0 0) = 0 then if ¬ (M.1 p0 1) = 0 then if wq_in (x1 - x1 / (M.1 p0 0) * (M.1 p0 0)) 8 then (if (x1 - x1 / 5 * 5) = 0 then
        if wq_in 0 4 then some (wq_st (wq_st M (p0 + 4) (x1 - x1 / (M.1 p0 0) * (M.1 p0 0)).toNatClampNeg ((x1 / 16) - (x1 / 16) / (M.1 p0 1) * (M.1 p0 1))) (p0 + 1) (0 : Int32).toNatClampNeg ((x1 / 256) - (x1 / 256) / 21 * 21)) else none
      else
        some (wq_st M (p0 + 4) (x1 - x1 / (M.1 p0 0) * (M.1 p0 0)).toNatClampNeg ((x1 / 16) - (x1 / 16) / (M.1 p0 1) * (M.1 p0 1)))) else none else none else none
    else
      some M))
set_option maxHeartbeats 4000000 in
set_option maxRecDepth 100000 in
theorem ctX5_changeByDraw {l : Launch} {E : wq_E} {d : Nat} (hd0 : 0 ≤ d) {p0 : Nat} {x1 : Int32} {M : wq_M} {r : wq_M} (hp0 : wq_W p0) (h : fX5_changeByDraw p0 x1 M = some r) : wq_ct l E wq_yC yX5_changeByDraw cX5_changeByDraw 2 (none) d [.ref (E.2.1 p0), .int x1] M (none) r := by
  refine wq_ent (own := "WellPipes$Well") (lv0 := [some (.ref (E.2.1 p0)), some (.int x1)]) (by decide +kernel) rfl (Nat.le_of_ble_eq_true rfl) rfl (fun g h1 h2 hC => ?_)
  have K : wq_kV g r := ⟨h1, h2⟩
  unfold fX5_changeByDraw at h
  refine wq_aload_n hC dX5_changeByDraw_0 (i := 0) rfl rfl ?_
  refine gf_5 hC hp0.1 0 (.int (M.1 p0 0)) (by decide) rfl tw_107 dX5_changeByDraw_1 ?_
  refine wq_iconst hC (v := 1) dX5_changeByDraw_4 (by decide) ?_
  refine wq_icmp_lt hC dX5_changeByDraw_5 (tgt := 16) (by decide) (fun z1 => ?_) (fun z1 => ?_)
  · have h := wq_ip z1 h
    have h := Option.some.inj h
    subst h
    exact wq_vret hC dX5_changeByDraw_16 K.1 K.2
  · have h := wq_in_ z1 h
    refine wq_aload_n hC dX5_changeByDraw_8 (i := 0) rfl rfl ?_
    refine gf_5 hC hp0.1 1 (.int (M.1 p0 1)) (by decide) rfl tw_111 dX5_changeByDraw_9 ?_
    refine wq_iconst hC (v := 1) dX5_changeByDraw_12 (by decide) ?_
    refine wq_icmp_ge hC dX5_changeByDraw_13 (tgt := 17) (by decide) (fun z2 => ?_) (fun z2 => ?_)
    · have h := wq_ip z2 h
      refine wq_aload_n hC dX5_changeByDraw_17 (i := 0) rfl rfl ?_
      refine gf_5 hC hp0.1 5 (.ref (E.2.1 (p0 + 4))) (by decide) rfl tw_125 dX5_changeByDraw_18 ?_
      refine wq_iload_n hC dX5_changeByDraw_21 (i := 1) rfl rfl ?_
      refine wq_aload_n hC dX5_changeByDraw_22 (i := 0) rfl rfl ?_
      refine gf_5 hC hp0.1 0 (.int (M.1 p0 0)) (by decide) rfl tw_107 dX5_changeByDraw_23 ?_
      obtain ⟨z3, h⟩ := wq_ii h
      refine wq_irem hC dX5_changeByDraw_26 z3 ?_
      refine wq_iload_n hC dX5_changeByDraw_27 (i := 1) rfl rfl ?_
      refine wq_bipush hC (v := 16) dX5_changeByDraw_28 (by decide) ?_
      refine wq_idiv hC dX5_changeByDraw_30 (by decide) ?_
      refine wq_aload_n hC dX5_changeByDraw_31 (i := 0) rfl rfl ?_
      refine gf_5 hC hp0.1 1 (.int (M.1 p0 1)) (by decide) rfl tw_111 dX5_changeByDraw_32 ?_
      obtain ⟨z4, h⟩ := wq_ii h
      refine wq_irem hC dX5_changeByDraw_35 z4 ?_
      obtain ⟨z5, h⟩ := wq_ii h
      refine wq_ast hC hp0.2.2.2.2 z5 dX5_changeByDraw_36 ?_
      refine wq_iload_n hC dX5_changeByDraw_37 (i := 1) rfl rfl ?_
      refine wq_iconst hC (v := 5) dX5_changeByDraw_38 (by decide) ?_
      refine wq_irem hC dX5_changeByDraw_39 (by decide) ?_
      refine wq_if_ne hC dX5_changeByDraw_40 (tgt := 57) (by decide) (fun z6 => ?_) (fun z6 => ?_)
      · have h := wq_in_ z6 h
        have h := Option.some.inj h
        subst h
        exact wq_vret hC dX5_changeByDraw_57 K.1 K.2
      · have h := wq_ip z6 h
        refine wq_aload_n hC dX5_changeByDraw_43 (i := 0) rfl rfl ?_
        refine gf_5 hC hp0.1 2 (.ref (E.2.1 (p0 + 1))) (by decide) rfl tw_115 dX5_changeByDraw_44 ?_
        refine wq_iconst hC (v := 0) dX5_changeByDraw_47 (by decide) ?_
        refine wq_iload_n hC dX5_changeByDraw_48 (i := 1) rfl rfl ?_
        refine wq_sipush hC (v := 256) dX5_changeByDraw_49 (by decide) ?_
        refine wq_idiv hC dX5_changeByDraw_52 (by decide) ?_
        refine wq_bipush hC (v := 21) dX5_changeByDraw_53 (by decide) ?_
        refine wq_irem hC dX5_changeByDraw_55 (by decide) ?_
        obtain ⟨z7, h⟩ := wq_ii h
        refine wq_ast hC hp0.2.1 z7 dX5_changeByDraw_56 ?_
        have h := Option.some.inj h
        subst h
        exact wq_vret hC dX5_changeByDraw_57 K.1 K.2
    · have h := wq_in_ z2 h
      have h := Option.some.inj h
      subst h
      exact wq_vret hC dX5_changeByDraw_16 K.1 K.2
theorem npX5_stringCode : yX5_stringCode.cls ≠ "java/lang/invoke/MethodHandle" ∧ yX5_stringCode.cls ≠ "java/lang/invoke/VarHandle" ∧ (parseMethodDescriptor yX5_stringCode.desc).map (fun d => d.parameters.length) = some 0 := by decide +kernel
def fX5_stringCode_L5 (p0 : Nat) (M : wq_M) : (Int32 × Int32) → Option ((Int32 × Int32) ⊕ Int32) := fun s =>
  (if s.2 < 0 then
    some (.inr s.1)
  else
    if wq_in s.2 8 then some (.inl ((((s.1 * 6) + (M.1 (p0 + 4) s.2.toNatClampNeg)) + 1), (s.2 + (-1)))) else none)
set_option maxHeartbeats 4000000 in
set_option maxRecDepth 100000 in
theorem gX5_stringCode_L5 {g : wq_G} {E : wq_E} {d : Nat} (hC : wq_C g E wq_yC cX5_stringCode 3 "WellPipes$Well" (some .int) d) (hd0 : 0 ≤ d) (p0 : Nat) (M : wq_M) (hp0 : wq_W p0) : ∀ (n : Nat) (s : (Int32 × Int32)) (e : Int32), wq_lp (fX5_stringCode_L5 p0 M) n s = some e → (fun (e : Int32) => wq_g g E wq_yC 3 29 [none, some (.int e), none] [] M) e → wq_g g E wq_yC 3 5 [some (.ref (E.2.1 p0)), some (.int s.1), some (.int s.2)] [] M := by
  refine wq_lq_ok (fun (s : (Int32 × Int32)) => wq_g g E wq_yC 3 5 [some (.ref (E.2.1 p0)), some (.int s.1), some (.int s.2)] [] M) (fun (e : Int32) => wq_g g E wq_yC 3 29 [none, some (.int e), none] [] M) (fun s x h K => ?_)
  unfold fX5_stringCode_L5 at h
  refine wq_iload_n hC dX5_stringCode_5 (i := 2) rfl rfl ?_
  refine wq_if_lt hC dX5_stringCode_6 (tgt := 29) (by decide) (fun z1 => ?_) (fun z1 => ?_)
  · have h := wq_ip z1 h
    have h := Option.some.inj h
    subst h
    refine wq_mask [false, true, false] (lv' := [none, some (.int s.1), none]) rfl ?_
    exact K
  · have h := wq_in_ z1 h
    refine wq_iload_n hC dX5_stringCode_9 (i := 1) rfl rfl ?_
    refine wq_bipush hC (v := 6) dX5_stringCode_10 (by decide) ?_
    refine wq_imul hC dX5_stringCode_12 ?_
    refine wq_aload_n hC dX5_stringCode_13 (i := 0) rfl rfl ?_
    refine gf_5 hC hp0.1 5 (.ref (E.2.1 (p0 + 4))) (by decide) rfl tw_125 dX5_stringCode_14 ?_
    refine wq_iload_n hC dX5_stringCode_17 (i := 2) rfl rfl ?_
    obtain ⟨z2, h⟩ := wq_ii h
    refine wq_ald hC hp0.2.2.2.2 z2 dX5_stringCode_18 ?_
    refine wq_iadd hC dX5_stringCode_19 ?_
    refine wq_iconst hC (v := 1) dX5_stringCode_20 (by decide) ?_
    refine wq_iadd hC dX5_stringCode_21 ?_
    refine wq_istore_n hC dX5_stringCode_22 (i := 1) (lv' := [some (.ref (E.2.1 p0)), some (.int (((s.1 * 6) + (M.1 (p0 + 4) s.2.toNatClampNeg)) + 1)), some (.int s.2)]) rfl (by decide) rfl ?_
    refine wq_iinc hC (v := (s.2 + (-1))) dX5_stringCode_23 (lv' := [some (.ref (E.2.1 p0)), some (.int (((s.1 * 6) + (M.1 (p0 + 4) s.2.toNatClampNeg)) + 1)), some (.int (s.2 + (-1)))]) rfl rfl (by decide) rfl ?_
    refine wq_goto hC dX5_stringCode_26 (tgt := 5) (by decide) ?_
    have h := Option.some.inj h
    subst h
    exact K
def fX5_stringCode (p0 : Nat) (M : wq_M) : Option Int32 :=
  (wq_lp (fX5_stringCode_L5 p0 M) wq_FU (0, 7)).bind fun e3 => some e3
set_option maxHeartbeats 4000000 in
set_option maxRecDepth 100000 in
theorem ctX5_stringCode {l : Launch} {E : wq_E} {d : Nat} (hd0 : 0 ≤ d) {p0 : Nat} {M : wq_M} {r : Int32} (hp0 : wq_W p0) (h : fX5_stringCode p0 M = some r) : wq_ct l E wq_yC yX5_stringCode cX5_stringCode 3 (some .int) d [.ref (E.2.1 p0)] M (some (.int r)) M := by
  refine wq_ent (own := "WellPipes$Well") (lv0 := [some (.ref (E.2.1 p0)), none, none]) (by decide +kernel) rfl (Nat.le_of_ble_eq_true rfl) rfl (fun g h1 h2 hC => ?_)
  have K : wq_ki g M r := ⟨h1, h2⟩
  unfold fX5_stringCode at h
  refine wq_iconst hC (v := 0) dX5_stringCode_0 (by decide) ?_
  refine wq_istore_n hC dX5_stringCode_1 (i := 1) (lv' := [some (.ref (E.2.1 p0)), some (.int 0), none]) rfl (by decide) rfl ?_
  refine wq_bipush hC (v := 7) dX5_stringCode_2 (by decide) ?_
  refine wq_istore_n hC dX5_stringCode_4 (i := 2) (lv' := [some (.ref (E.2.1 p0)), some (.int 0), some (.int 7)]) rfl (by decide) rfl ?_
  obtain ⟨e3, hl4, h⟩ := wq_ob h
  refine gX5_stringCode_L5 hC hd0 p0 M hp0 wq_FU _ _ hl4 ?_
  refine wq_iload_n hC dX5_stringCode_29 (i := 1) rfl rfl ?_
  have h := Option.some.inj h
  subst h
  exact wq_iret hC dX5_stringCode_30 K.1 K.2
theorem npX5_layString : yX5_layString.cls ≠ "java/lang/invoke/MethodHandle" ∧ yX5_layString.cls ≠ "java/lang/invoke/VarHandle" ∧ (parseMethodDescriptor yX5_layString.desc).map (fun d => d.parameters.length) = some 1 := by decide +kernel
def fX5_layString_L4 (p0 : Nat) : (Int32 × Int32 × wq_M) → Option ((Int32 × Int32 × wq_M) ⊕ wq_M) := fun s =>
  (if 8 ≤ s.2.1 then
    some (.inr s.2.2)
  else
    if wq_in s.2.1 8 then some (.inl ((s.1 / 6), (s.2.1 + 1), (wq_st s.2.2 (p0 + 4) s.2.1.toNatClampNeg ((s.1 - s.1 / 6 * 6) - 1)))) else none)
set_option maxHeartbeats 4000000 in
set_option maxRecDepth 100000 in
theorem gX5_layString_L4 {g : wq_G} {E : wq_E} {d : Nat} (hC : wq_C g E wq_yC cX5_layString 4 "WellPipes$Well" (none) d) (hd0 : 0 ≤ d) (p0 : Nat) (hp0 : wq_W p0) : ∀ (n : Nat) (s : (Int32 × Int32 × wq_M)) (e : wq_M), wq_lp (fX5_layString_L4 p0) n s = some e → (fun (e : wq_M) => wq_g g E wq_yC 4 33 [none, none, none, none] [] e) e → wq_g g E wq_yC 4 4 [some (.ref (E.2.1 p0)), none, some (.int s.1), some (.int s.2.1)] [] s.2.2 := by
  refine wq_lq_ok (fun (s : (Int32 × Int32 × wq_M)) => wq_g g E wq_yC 4 4 [some (.ref (E.2.1 p0)), none, some (.int s.1), some (.int s.2.1)] [] s.2.2) (fun (e : wq_M) => wq_g g E wq_yC 4 33 [none, none, none, none] [] e) (fun s x h K => ?_)
  unfold fX5_layString_L4 at h
  refine wq_iload_n hC dX5_layString_4 (i := 3) rfl rfl ?_
  refine wq_bipush hC (v := 8) dX5_layString_5 (by decide) ?_
  refine wq_icmp_ge hC dX5_layString_7 (tgt := 33) (by decide) (fun z1 => ?_) (fun z1 => ?_)
  · have h := wq_ip z1 h
    have h := Option.some.inj h
    subst h
    refine wq_mask [false, false, false, false] (lv' := [none, none, none, none]) rfl ?_
    exact K
  · have h := wq_in_ z1 h
    refine wq_aload_n hC dX5_layString_10 (i := 0) rfl rfl ?_
    refine gf_5 hC hp0.1 5 (.ref (E.2.1 (p0 + 4))) (by decide) rfl tw_125 dX5_layString_11 ?_
    refine wq_iload_n hC dX5_layString_14 (i := 3) rfl rfl ?_
    refine wq_iload_n hC dX5_layString_15 (i := 2) rfl rfl ?_
    refine wq_bipush hC (v := 6) dX5_layString_16 (by decide) ?_
    refine wq_irem hC dX5_layString_18 (by decide) ?_
    refine wq_iconst hC (v := 1) dX5_layString_19 (by decide) ?_
    refine wq_isub hC dX5_layString_20 ?_
    obtain ⟨z2, h⟩ := wq_ii h
    refine wq_ast hC hp0.2.2.2.2 z2 dX5_layString_21 ?_
    refine wq_iload_n hC dX5_layString_22 (i := 2) rfl rfl ?_
    refine wq_bipush hC (v := 6) dX5_layString_23 (by decide) ?_
    refine wq_idiv hC dX5_layString_25 (by decide) ?_
    refine wq_istore_n hC dX5_layString_26 (i := 2) (lv' := [some (.ref (E.2.1 p0)), none, some (.int (s.1 / 6)), some (.int s.2.1)]) rfl (by decide) rfl ?_
    refine wq_iinc hC (v := (s.2.1 + 1)) dX5_layString_27 (lv' := [some (.ref (E.2.1 p0)), none, some (.int (s.1 / 6)), some (.int (s.2.1 + 1))]) rfl rfl (by decide) rfl ?_
    refine wq_goto hC dX5_layString_30 (tgt := 4) (by decide) ?_
    have h := Option.some.inj h
    subst h
    exact K
def fX5_layString (p0 : Nat) (x1 : Int32) (M : wq_M) : Option wq_M :=
  (wq_lp (fX5_layString_L4 p0) wq_FU (x1, 0, M)).bind fun e3 => some e3
set_option maxHeartbeats 4000000 in
set_option maxRecDepth 100000 in
theorem ctX5_layString {l : Launch} {E : wq_E} {d : Nat} (hd0 : 0 ≤ d) {p0 : Nat} {x1 : Int32} {M : wq_M} {r : wq_M} (hp0 : wq_W p0) (h : fX5_layString p0 x1 M = some r) : wq_ct l E wq_yC yX5_layString cX5_layString 4 (none) d [.ref (E.2.1 p0), .int x1] M (none) r := by
  refine wq_ent (own := "WellPipes$Well") (lv0 := [some (.ref (E.2.1 p0)), some (.int x1), none, none]) (by decide +kernel) rfl (Nat.le_of_ble_eq_true rfl) rfl (fun g h1 h2 hC => ?_)
  have K : wq_kV g r := ⟨h1, h2⟩
  unfold fX5_layString at h
  refine wq_iload_n hC dX5_layString_0 (i := 1) rfl rfl ?_
  refine wq_istore_n hC dX5_layString_1 (i := 2) (lv' := [some (.ref (E.2.1 p0)), some (.int x1), some (.int x1), none]) rfl (by decide) rfl ?_
  refine wq_iconst hC (v := 0) dX5_layString_2 (by decide) ?_
  refine wq_istore_n hC dX5_layString_3 (i := 3) (lv' := [some (.ref (E.2.1 p0)), some (.int x1), some (.int x1), some (.int 0)]) rfl (by decide) rfl ?_
  obtain ⟨e3, hl4, h⟩ := wq_ob h
  refine wq_mask [true, false, true, true] (lv' := [some (.ref (E.2.1 p0)), none, some (.int x1), some (.int 0)]) rfl ?_
  refine gX5_layString_L4 hC hd0 p0 hp0 wq_FU _ _ hl4 ?_
  have h := Option.some.inj h
  subst h
  exact wq_vret hC dX5_layString_33 K.1 K.2
