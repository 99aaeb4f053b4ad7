theorem npX2_take : yX2_take.cls ≠ "java/lang/invoke/MethodHandle" ∧ yX2_take.cls ≠ "java/lang/invoke/VarHandle" ∧ (parseMethodDescriptor yX2_take.desc).map (fun d => d.parameters.length) = some 1 := by decide +kernel
def fX2_take (x1 : Int32) (M : wq_M) : Option (Bool × wq_M) :=
  (if (M.1 18 1) < 130 then
    if wq_in (M.1 18 1) 130 then some (true, (wq_st (wq_st M 19 (M.1 18 1).toNatClampNeg x1) 18 1 (((wq_st M 19 (M.1 18 1).toNatClampNeg x1).1 18 1) + 1))) else none
  else
    some (false, M))
set_option maxHeartbeats 4000000 in
set_option maxRecDepth 100000 in
theorem ctX2_take {l : Launch} {E : wq_E} {d : Nat} (hd0 : 0 ≤ d) {x1 : Int32} {M : wq_M} {r : (Bool × wq_M)}  (h : fX2_take x1 M = some r) : wq_ct l E wq_yC yX2_take cX2_take 2 (some .boolean) d [.ref (E.2.1 18), .int x1] M (some (.int (wq_b r.1))) r.2 := by
  refine wq_ent (own := "WellPipes$Reader") (lv0 := [some (.ref (E.2.1 18)), some (.int x1)]) (by decide +kernel) rfl (Nat.le_of_ble_eq_true rfl) rfl (fun g h1 h2 hC => ?_)
  have K : wq_kB g r := ⟨h1, h2⟩
  unfold fX2_take at h
  refine wq_aload_n hC dX2_take_0 (i := 0) rfl rfl ?_
  refine gf_2 hC oC_18 1 (.int (M.1 18 1)) (by decide) rfl tw_79 dX2_take_1 ?_
  refine wq_sipush hC (v := 130) dX2_take_4 (by decide) ?_
  refine wq_icmp_lt hC dX2_take_7 (tgt := 12) (by decide) (fun z1 => ?_) (fun z1 => ?_)
  · have h := wq_ip z1 h
    refine wq_aload_n hC dX2_take_12 (i := 0) rfl rfl ?_
    refine gf_2 hC oC_18 0 (.ref (E.2.1 19)) (by decide) rfl tw_78 dX2_take_13 ?_
    refine wq_aload_n hC dX2_take_16 (i := 0) rfl rfl ?_
    refine gf_2 hC oC_18 1 (.int (M.1 18 1)) (by decide) rfl tw_79 dX2_take_17 ?_
    refine wq_iload_n hC dX2_take_20 (i := 1) rfl rfl ?_
    obtain ⟨z2, h⟩ := wq_ii h
    refine wq_ast hC aC_19 z2 dX2_take_21 ?_
    refine wq_aload_n hC dX2_take_22 (i := 0) rfl rfl ?_
    refine wq_dup hC dX2_take_23 rfl ?_
    refine gf_2 hC oC_18 1 (.int ((wq_st M 19 (M.1 18 1).toNatClampNeg x1).1 18 1)) (by decide) rfl tw_79 dX2_take_24 ?_
    refine wq_iconst hC (v := 1) dX2_take_27 (by decide) ?_
    refine wq_iadd hC dX2_take_28 ?_
    refine pf_2_1 hC oC_18 tw_79 dX2_take_29 ?_
    refine wq_iconst hC (v := 1) dX2_take_32 (by decide) ?_
    have h := Option.some.inj h
    subst h
    exact wq_zret hC (b := true) dX2_take_33 (by decide) K.1 K.2
  · have h := wq_in_ z1 h
    refine wq_iconst hC (v := 0) dX2_take_10 (by decide) ?_
    have h := Option.some.inj h
    subst h
    exact wq_zret hC (b := false) dX2_take_11 (by decide) K.1 K.2
theorem npX2_fail : yX2_fail.cls ≠ "java/lang/invoke/MethodHandle" ∧ yX2_fail.cls ≠ "java/lang/invoke/VarHandle" ∧ (parseMethodDescriptor yX2_fail.desc).map (fun d => d.parameters.length) = some 1 := by decide +kernel
def fX2_fail (x1 : Int32) (M : wq_M) : Option wq_M :=
  (if (M.1 18 5) = 0 then
    some (wq_st (wq_st (wq_st M 18 5 1) 18 2 ((wq_st M 18 5 1).1 18 4)) 18 3 x1)
  else
    some M)
set_option maxHeartbeats 4000000 in
set_option maxRecDepth 100000 in
theorem ctX2_fail {l : Launch} {E : wq_E} {d : Nat} (hd0 : 0 ≤ d) {x1 : Int32} {M : wq_M} {r : wq_M}  (h : fX2_fail x1 M = some r) : wq_ct l E wq_yC yX2_fail cX2_fail 2 (none) d [.ref (E.2.1 18), .int x1] M (none) r := by
  refine wq_ent (own := "WellPipes$Reader") (lv0 := [some (.ref (E.2.1 18)), some (.int x1)]) (by decide +kernel) rfl (Nat.le_of_ble_eq_true rfl) rfl (fun g h1 h2 hC => ?_)
  have K : wq_kV g r := ⟨h1, h2⟩
  unfold fX2_fail at h
  refine wq_aload_n hC dX2_fail_0 (i := 0) rfl rfl ?_
  refine gf_2 hC oC_18 5 (.int (M.1 18 5)) (by decide) rfl tw_86 dX2_fail_1 ?_
  refine wq_if_ne hC dX2_fail_4 (tgt := 25) (by decide) (fun z1 => ?_) (fun z1 => ?_)
  · have h := wq_in_ z1 h
    have h := Option.some.inj h
    subst h
    exact wq_vret hC dX2_fail_25 K.1 K.2
  · have h := wq_ip z1 h
    refine wq_aload_n hC dX2_fail_7 (i := 0) rfl rfl ?_
    refine wq_iconst hC (v := 1) dX2_fail_8 (by decide) ?_
    refine pf_2_5 hC oC_18 (Or.inr rfl) tw_86 dX2_fail_9 ?_
    refine wq_aload_n hC dX2_fail_12 (i := 0) rfl rfl ?_
    refine wq_aload_n hC dX2_fail_13 (i := 0) rfl rfl ?_
    refine gf_2 hC oC_18 4 (.int ((wq_st M 18 5 1).1 18 4)) (by decide) rfl tw_85 dX2_fail_14 ?_
    refine pf_2_2 hC oC_18 tw_82 dX2_fail_17 ?_
    refine wq_aload_n hC dX2_fail_20 (i := 0) rfl rfl ?_
    refine wq_iload_n hC dX2_fail_21 (i := 1) rfl rfl ?_
    refine pf_2_3 hC oC_18 tw_84 dX2_fail_22 ?_
    have h := Option.some.inj h
    subst h
    exact wq_vret hC dX2_fail_25 K.1 K.2
theorem npX2_readSign : yX2_readSign.cls ≠ "java/lang/invoke/MethodHandle" ∧ yX2_readSign.cls ≠ "java/lang/invoke/VarHandle" ∧ (parseMethodDescriptor yX2_readSign.desc).map (fun d => d.parameters.length) = some 1 := by decide +kernel
def fX2_readSign_J24 (M : wq_M) : Option wq_M :=
  (fX2_fail 1 M).bind fun r2 => some r2
set_option maxHeartbeats 4000000 in
set_option maxRecDepth 100000 in
theorem gX2_readSign_J24 {g : wq_G} {E : wq_E} {d : Nat} (hC : wq_C g E wq_yC cX2_readSign 2 "WellPipes$Reader" (none) d) (hd0 : 1 ≤ d) (M : wq_M)  {x : wq_M} (h : fX2_readSign_J24 M = some x) (K : (wq_kV g) x) : wq_g g E wq_yC 2 24 [some (.ref (E.2.1 18)), none] [] M := by
  unfold fX2_readSign_J24 at h
  refine wq_aload_n hC dX2_readSign_24 (i := 0) rfl rfl ?_
  refine wq_iconst hC (v := 1) dX2_readSign_25 (by decide) ?_
  obtain ⟨r2, hc3, h⟩ := wq_ob h
  refine cv_2 hC (ctX2_fail (d := d - 1) (by omega)  hc3) (by omega) (by decide) oC_18 rfl rfl npX2_fail tw_339 tw_341 tw_4 tw_342 (st := []) (Nat.le_of_ble_eq_true rfl) rfl dX2_readSign_26 (st1 := []) rfl ?_
  refine wq_goto hC dX2_readSign_29 (tgt := 42) (by decide) ?_
  have h := Option.some.inj h
  subst h
  exact wq_vret hC dX2_readSign_42 K.1 K.2
def fX2_readSign (x1 : Int32) (M : wq_M) : Option wq_M :=
  (if (M.1 18 1) ≤ (M.1 18 4) then
    fX2_readSign_J24 M
  else
    if wq_in (M.1 18 4) 130 then (if (M.1 19 (M.1 18 4).toNatClampNeg) = x1 then
      some (wq_st M 18 4 ((M.1 18 4) + 1))
    else
      fX2_readSign_J24 M) else none)
set_option maxHeartbeats 4000000 in
set_option maxRecDepth 100000 in
theorem ctX2_readSign {l : Launch} {E : wq_E} {d : Nat} (hd0 : 1 ≤ d) {x1 : Int32} {M : wq_M} {r : wq_M}  (h : fX2_readSign x1 M = some r) : wq_ct l E wq_yC yX2_readSign cX2_readSign 2 (none) d [.ref (E.2.1 18), .int x1] M (none) r := by
  refine wq_ent (own := "WellPipes$Reader") (lv0 := [some (.ref (E.2.1 18)), some (.int x1)]) (by decide +kernel) rfl (Nat.le_of_ble_eq_true rfl) rfl (fun g h1 h2 hC => ?_)
  have K : wq_kV g r := ⟨h1, h2⟩
  unfold fX2_readSign at h
  refine wq_aload_n hC dX2_readSign_0 (i := 0) rfl rfl ?_
  refine gf_2 hC oC_18 4 (.int (M.1 18 4)) (by decide) rfl tw_85 dX2_readSign_1 ?_
  refine wq_aload_n hC dX2_readSign_4 (i := 0) rfl rfl ?_
  refine gf_2 hC oC_18 1 (.int (M.1 18 1)) (by decide) rfl tw_79 dX2_readSign_5 ?_
  refine wq_icmp_ge hC dX2_readSign_8 (tgt := 24) (by decide) (fun z1 => ?_) (fun z1 => ?_)
  · have h := wq_ip z1 h
    refine wq_mask [true, false] (lv' := [some (.ref (E.2.1 18)), none]) rfl ?_
    exact gX2_readSign_J24 hC hd0  M  h K
  · have h := wq_in_ z1 h
    refine wq_aload_n hC dX2_readSign_11 (i := 0) rfl rfl ?_
    refine gf_2 hC oC_18 0 (.ref (E.2.1 19)) (by decide) rfl tw_78 dX2_readSign_12 ?_
    refine wq_aload_n hC dX2_readSign_15 (i := 0) rfl rfl ?_
    refine gf_2 hC oC_18 4 (.int (M.1 18 4)) (by decide) rfl tw_85 dX2_readSign_16 ?_
    obtain ⟨z4, h⟩ := wq_ii h
    refine wq_ald hC aC_19 z4 dX2_readSign_19 ?_
    refine wq_iload_n hC dX2_readSign_20 (i := 1) rfl rfl ?_
    refine wq_icmp_eq hC dX2_readSign_21 (tgt := 32) (by decide) (fun z5 => ?_) (fun z5 => ?_)
    · have h := wq_ip z5 h
      refine wq_aload_n hC dX2_readSign_32 (i := 0) rfl rfl ?_
      refine wq_dup hC dX2_readSign_33 rfl ?_
      refine gf_2 hC oC_18 4 (.int (M.1 18 4)) (by decide) rfl tw_85 dX2_readSign_34 ?_
      refine wq_iconst hC (v := 1) dX2_readSign_37 (by decide) ?_
      refine wq_iadd hC dX2_readSign_38 ?_
      refine pf_2_4 hC oC_18 tw_85 dX2_readSign_39 ?_
      have h := Option.some.inj h
      subst h
      exact wq_vret hC dX2_readSign_42 K.1 K.2
    · have h := wq_in_ z5 h
      refine wq_mask [true, false] (lv' := [some (.ref (E.2.1 18)), none]) rfl ?_
      exact gX2_readSign_J24 hC hd0  M  h K
theorem npX2_readNumber : yX2_readNumber.cls ≠ "java/lang/invoke/MethodHandle" ∧ yX2_readNumber.cls ≠ "java/lang/invoke/VarHandle" ∧ (parseMethodDescriptor yX2_readNumber.desc).map (fun d => d.parameters.length) = some 2 := by decide +kernel
def fX2_readNumber_L8 (x1 : Int32) (x2 : Int32) (M : wq_M) : (Int32 × Int32) → Option ((Int32 × Int32) ⊕ (Int32 × Int32)) := fun s =>
  (if (M.1 18 1) ≤ s.1 then
    some (.inr (s.1, s.2))
  else
    if wq_in s.1 130 then (if (M.1 19 s.1.toNatClampNeg) < 48 then
      some (.inr (s.1, s.2))
    else
      if wq_in s.1 130 then (if 57 < (M.1 19 s.1.toNatClampNeg) then
        some (.inr (s.1, s.2))
      else
        (if ((M.1 18 4) + 3) ≤ s.1 then
          some (.inr (s.1, s.2))
        else
          if wq_in s.1 130 then some (.inl ((s.1 + 1), (((s.2 * 10) + (M.1 19 s.1.toNatClampNeg)) - 48))) else none)) else none) else none)
set_option maxHeartbeats 4000000 in
set_option maxRecDepth 100000 in
theorem gX2_readNumber_L8 {g : wq_G} {E : wq_E} {d : Nat} (hC : wq_C g E wq_yC cX2_readNumber 5 "WellPipes$Reader" (some .int) d) (hd0 : 1 ≤ d) (x1 : Int32) (x2 : Int32) (M : wq_M)  : ∀ (n : Nat) (s : (Int32 × Int32)) (e : (Int32 × Int32)), wq_lp (fX2_readNumber_L8 x1 x2 M) n s = some e → (fun (e : (Int32 × Int32)) => wq_g g E wq_yC 5 71 [some (.ref (E.2.1 18)), some (.int x1), some (.int x2), some (.int e.1), some (.int e.2)] [] M) e → wq_g g E wq_yC 5 8 [some (.ref (E.2.1 18)), some (.int x1), some (.int x2), some (.int s.1), some (.int s.2)] [] M := by
  refine wq_lq_ok (fun (s : (Int32 × Int32)) => wq_g g E wq_yC 5 8 [some (.ref (E.2.1 18)), some (.int x1), some (.int x2), some (.int s.1), some (.int s.2)] [] M) (fun (e : (Int32 × Int32)) => wq_g g E wq_yC 5 71 [some (.ref (E.2.1 18)), some (.int x1), some (.int x2), some (.int e.1), some (.int e.2)] [] M) (fun s x h K => ?_)
  unfold fX2_readNumber_L8 at h
  refine wq_iload_n hC dX2_readNumber_8 (i := 3) rfl rfl ?_
  refine wq_aload_n hC dX2_readNumber_9 (i := 0) rfl rfl ?_
  refine gf_2 hC oC_18 1 (.int (M.1 18 1)) (by decide) rfl tw_79 dX2_readNumber_10 ?_
  refine wq_icmp_ge hC dX2_readNumber_13 (tgt := 71) (by decide) (fun z1 => ?_) (fun z1 => ?_)
  · have h := wq_ip z1 h
    have h := Option.some.inj h
    subst h
    exact K
  · have h := wq_in_ z1 h
    refine wq_aload_n hC dX2_readNumber_16 (i := 0) rfl rfl ?_
    refine gf_2 hC oC_18 0 (.ref (E.2.1 19)) (by decide) rfl tw_78 dX2_readNumber_17 ?_
    refine wq_iload_n hC dX2_readNumber_20 (i := 3) rfl rfl ?_
    obtain ⟨z2, h⟩ := wq_ii h
    refine wq_ald hC aC_19 z2 dX2_readNumber_21 ?_
    refine wq_bipush hC (v := 48) dX2_readNumber_22 (by decide) ?_
    refine wq_icmp_lt hC dX2_readNumber_24 (tgt := 71) (by decide) (fun z3 => ?_) (fun z3 => ?_)
    · have h := wq_ip z3 h
      have h := Option.some.inj h
      subst h
      exact K
    · have h := wq_in_ z3 h
      refine wq_aload_n hC dX2_readNumber_27 (i := 0) rfl rfl ?_
      refine gf_2 hC oC_18 0 (.ref (E.2.1 19)) (by decide) rfl tw_78 dX2_readNumber_28 ?_
      refine wq_iload_n hC dX2_readNumber_31 (i := 3) rfl rfl ?_
      obtain ⟨z4, h⟩ := wq_ii h
      refine wq_ald hC aC_19 z4 dX2_readNumber_32 ?_
      refine wq_bipush hC (v := 57) dX2_readNumber_33 (by decide) ?_
      refine wq_icmp_gt hC dX2_readNumber_35 (tgt := 71) (by decide) (fun z5 => ?_) (fun z5 => ?_)
      · have h := wq_ip z5 h
        have h := Option.some.inj h
        subst h
        exact K
      · have h := wq_in_ z5 h
        refine wq_iload_n hC dX2_readNumber_38 (i := 3) rfl rfl ?_
        refine wq_aload_n hC dX2_readNumber_39 (i := 0) rfl rfl ?_
        refine gf_2 hC oC_18 4 (.int (M.1 18 4)) (by decide) rfl tw_85 dX2_readNumber_40 ?_
        refine wq_iconst hC (v := 3) dX2_readNumber_43 (by decide) ?_
        refine wq_iadd hC dX2_readNumber_44 ?_
        refine wq_icmp_ge hC dX2_readNumber_45 (tgt := 71) (by decide) (fun z6 => ?_) (fun z6 => ?_)
        · have h := wq_ip z6 h
          have h := Option.some.inj h
          subst h
          exact K
        · have h := wq_in_ z6 h
          refine wq_iload hC dX2_readNumber_48 rfl ?_
          refine wq_bipush hC (v := 10) dX2_readNumber_50 (by decide) ?_
          refine wq_imul hC dX2_readNumber_52 ?_
          refine wq_aload_n hC dX2_readNumber_53 (i := 0) rfl rfl ?_
          refine gf_2 hC oC_18 0 (.ref (E.2.1 19)) (by decide) rfl tw_78 dX2_readNumber_54 ?_
          refine wq_iload_n hC dX2_readNumber_57 (i := 3) rfl rfl ?_
          obtain ⟨z7, h⟩ := wq_ii h
          refine wq_ald hC aC_19 z7 dX2_readNumber_58 ?_
          refine wq_iadd hC dX2_readNumber_59 ?_
          refine wq_bipush hC (v := 48) dX2_readNumber_60 (by decide) ?_
          refine wq_isub hC dX2_readNumber_62 ?_
          refine wq_istore hC dX2_readNumber_63 (lv' := [some (.ref (E.2.1 18)), some (.int x1), some (.int x2), some (.int s.1), some (.int (((s.2 * 10) + (M.1 19 s.1.toNatClampNeg)) - 48))]) (by decide) rfl ?_
          refine wq_iinc hC (v := (s.1 + 1)) dX2_readNumber_65 (lv' := [some (.ref (E.2.1 18)), some (.int x1), some (.int x2), some (.int (s.1 + 1)), some (.int (((s.2 * 10) + (M.1 19 s.1.toNatClampNeg)) - 48))]) rfl rfl (by decide) rfl ?_
          refine wq_goto hC dX2_readNumber_68 (tgt := 8) (by decide) ?_
          have h := Option.some.inj h
          subst h
          exact K
def fX2_readNumber_J89 (x4 : Int32) (M : wq_M) : Option (Int32 × wq_M) :=
  (fX2_fail 1 M).bind fun r11 => some (x4, r11)
set_option maxHeartbeats 4000000 in
set_option maxRecDepth 100000 in
theorem gX2_readNumber_J89 {g : wq_G} {E : wq_E} {d : Nat} (hC : wq_C g E wq_yC cX2_readNumber 5 "WellPipes$Reader" (some .int) d) (hd0 : 1 ≤ d) (x4 : Int32) (M : wq_M)  {x : (Int32 × wq_M)} (h : fX2_readNumber_J89 x4 M = some x) (K : (wq_kI g) x) : wq_g g E wq_yC 5 89 [some (.ref (E.2.1 18)), none, none, none, some (.int x4)] [] M := by
  unfold fX2_readNumber_J89 at h
  refine wq_aload_n hC dX2_readNumber_89 (i := 0) rfl rfl ?_
  refine wq_iconst hC (v := 1) dX2_readNumber_90 (by decide) ?_
  obtain ⟨r11, hc12, h⟩ := wq_ob h
  refine cv_2 hC (ctX2_fail (d := d - 1) (by omega)  hc12) (by omega) (by decide) oC_18 rfl rfl npX2_fail tw_339 tw_341 tw_4 tw_342 (st := []) (Nat.le_of_ble_eq_true rfl) rfl dX2_readNumber_91 (st1 := []) rfl ?_
  refine wq_goto hC dX2_readNumber_94 (tgt := 129) (by decide) ?_
  refine wq_iload hC dX2_readNumber_129 rfl ?_
  have h := Option.some.inj h
  subst h
  exact wq_iret hC dX2_readNumber_131 K.1 K.2
def fX2_readNumber_J109 (x4 : Int32) (M : wq_M) : Option (Int32 × wq_M) :=
  (fX2_fail 2 M).bind fun r15 => some (x4, r15)
set_option maxHeartbeats 4000000 in
set_option maxRecDepth 100000 in
theorem gX2_readNumber_J109 {g : wq_G} {E : wq_E} {d : Nat} (hC : wq_C g E wq_yC cX2_readNumber 5 "WellPipes$Reader" (some .int) d) (hd0 : 1 ≤ d) (x4 : Int32) (M : wq_M)  {x : (Int32 × wq_M)} (h : fX2_readNumber_J109 x4 M = some x) (K : (wq_kI g) x) : wq_g g E wq_yC 5 109 [some (.ref (E.2.1 18)), none, none, none, some (.int x4)] [] M := by
  unfold fX2_readNumber_J109 at h
  refine wq_aload_n hC dX2_readNumber_109 (i := 0) rfl rfl ?_
  refine wq_iconst hC (v := 2) dX2_readNumber_110 (by decide) ?_
  obtain ⟨r15, hc16, h⟩ := wq_ob h
  refine cv_2 hC (ctX2_fail (d := d - 1) (by omega)  hc16) (by omega) (by decide) oC_18 rfl rfl npX2_fail tw_339 tw_341 tw_4 tw_342 (st := []) (Nat.le_of_ble_eq_true rfl) rfl dX2_readNumber_111 (st1 := []) rfl ?_
  refine wq_goto hC dX2_readNumber_114 (tgt := 129) (by decide) ?_
  refine wq_iload hC dX2_readNumber_129 rfl ?_
  have h := Option.some.inj h
  subst h
  exact wq_iret hC dX2_readNumber_131 K.1 K.2
def fX2_readNumber_J71 (x1 : Int32) (x2 : Int32) (x3 : Int32) (x4 : Int32) (M : wq_M) : Option (Int32 × wq_M) :=
  (if x3 = (M.1 18 4) then
    fX2_readNumber_J89 x4 M
  else
    (if x3 = ((M.1 18 4) + 3) then
      fX2_readNumber_J89 x4 M
    else
      (if x4 < x1 then
        fX2_readNumber_J109 x4 M
      else
        (if x4 ≤ x2 then
          (if (M.1 18 5) = 0 then
            some (x4, (wq_st M 18 4 x3))
          else
            some (x4, M))
        else
          fX2_readNumber_J109 x4 M))))
set_option maxHeartbeats 4000000 in
set_option maxRecDepth 100000 in
theorem gX2_readNumber_J71 {g : wq_G} {E : wq_E} {d : Nat} (hC : wq_C g E wq_yC cX2_readNumber 5 "WellPipes$Reader" (some .int) d) (hd0 : 1 ≤ d) (x1 : Int32) (x2 : Int32) (x3 : Int32) (x4 : Int32) (M : wq_M)  {x : (Int32 × wq_M)} (h : fX2_readNumber_J71 x1 x2 x3 x4 M = some x) (K : (wq_kI g) x) : wq_g g E wq_yC 5 71 [some (.ref (E.2.1 18)), some (.int x1), some (.int x2), some (.int x3), some (.int x4)] [] M := by
  unfold fX2_readNumber_J71 at h
  refine wq_iload_n hC dX2_readNumber_71 (i := 3) rfl rfl ?_
  refine wq_aload_n hC dX2_readNumber_72 (i := 0) rfl rfl ?_
  refine gf_2 hC oC_18 4 (.int (M.1 18 4)) (by decide) rfl tw_85 dX2_readNumber_73 ?_
  refine wq_icmp_eq hC dX2_readNumber_76 (tgt := 89) (by decide) (fun z10 => ?_) (fun z10 => ?_)
  · have h := wq_ip z10 h
    refine wq_mask [true, false, false, false, true] (lv' := [some (.ref (E.2.1 18)), none, none, none, some (.int x4)]) rfl ?_
    exact gX2_readNumber_J89 hC hd0 x4 M  h K
  · have h := wq_in_ z10 h
    refine wq_iload_n hC dX2_readNumber_79 (i := 3) rfl rfl ?_
    refine wq_aload_n hC dX2_readNumber_80 (i := 0) rfl rfl ?_
    refine gf_2 hC oC_18 4 (.int (M.1 18 4)) (by decide) rfl tw_85 dX2_readNumber_81 ?_
    refine wq_iconst hC (v := 3) dX2_readNumber_84 (by decide) ?_
    refine wq_iadd hC dX2_readNumber_85 ?_
    refine wq_icmp_ne hC dX2_readNumber_86 (tgt := 97) (by decide) (fun z13 => ?_) (fun z13 => ?_)
    · have h := wq_in_ z13 h
      refine wq_iload hC dX2_readNumber_97 rfl ?_
      refine wq_iload_n hC dX2_readNumber_99 (i := 1) rfl rfl ?_
      refine wq_icmp_lt hC dX2_readNumber_100 (tgt := 109) (by decide) (fun z14 => ?_) (fun z14 => ?_)
      · have h := wq_ip z14 h
        refine wq_mask [true, false, false, false, true] (lv' := [some (.ref (E.2.1 18)), none, none, none, some (.int x4)]) rfl ?_
        exact gX2_readNumber_J109 hC hd0 x4 M  h K
      · have h := wq_in_ z14 h
        refine wq_iload hC dX2_readNumber_103 rfl ?_
        refine wq_iload_n hC dX2_readNumber_105 (i := 2) rfl rfl ?_
        refine wq_icmp_le hC dX2_readNumber_106 (tgt := 117) (by decide) (fun z17 => ?_) (fun z17 => ?_)
        · have h := wq_ip z17 h
          refine wq_aload_n hC dX2_readNumber_117 (i := 0) rfl rfl ?_
          refine gf_2 hC oC_18 5 (.int (M.1 18 5)) (by decide) rfl tw_86 dX2_readNumber_118 ?_
          refine wq_if_ne hC dX2_readNumber_121 (tgt := 129) (by decide) (fun z18 => ?_) (fun z18 => ?_)
          · have h := wq_in_ z18 h
            refine wq_iload hC dX2_readNumber_129 rfl ?_
            have h := Option.some.inj h
            subst h
            exact wq_iret hC dX2_readNumber_131 K.1 K.2
          · have h := wq_ip z18 h
            refine wq_aload_n hC dX2_readNumber_124 (i := 0) rfl rfl ?_
            refine wq_iload_n hC dX2_readNumber_125 (i := 3) rfl rfl ?_
            refine pf_2_4 hC oC_18 tw_85 dX2_readNumber_126 ?_
            refine wq_iload hC dX2_readNumber_129 rfl ?_
            have h := Option.some.inj h
            subst h
            exact wq_iret hC dX2_readNumber_131 K.1 K.2
        · have h := wq_in_ z17 h
          refine wq_mask [true, false, false, false, true] (lv' := [some (.ref (E.2.1 18)), none, none, none, some (.int x4)]) rfl ?_
          exact gX2_readNumber_J109 hC hd0 x4 M  h K
    · have h := wq_ip z13 h
      refine wq_mask [true, false, false, false, true] (lv' := [some (.ref (E.2.1 18)), none, none, none, some (.int x4)]) rfl ?_
      exact gX2_readNumber_J89 hC hd0 x4 M  h K
def fX2_readNumber (x1 : Int32) (x2 : Int32) (M : wq_M) : Option (Int32 × wq_M) :=
  (wq_lp (fX2_readNumber_L8 x1 x2 M) wq_FU ((M.1 18 4), 0)).bind fun e8 => fX2_readNumber_J71 x1 x2 e8.1 e8.2 M
set_option maxHeartbeats 4000000 in
set_option maxRecDepth 100000 in
theorem ctX2_readNumber {l : Launch} {E : wq_E} {d : Nat} (hd0 : 1 ≤ d) {x1 : Int32} {x2 : Int32} {M : wq_M} {r : (Int32 × wq_M)}  (h : fX2_readNumber x1 x2 M = some r) : wq_ct l E wq_yC yX2_readNumber cX2_readNumber 5 (some .int) d [.ref (E.2.1 18), .int x1, .int x2] M (some (.int r.1)) r.2 := by
  refine wq_ent (own := "WellPipes$Reader") (lv0 := [some (.ref (E.2.1 18)), some (.int x1), some (.int x2), none, none]) (by decide +kernel) rfl (Nat.le_of_ble_eq_true rfl) rfl (fun g h1 h2 hC => ?_)
  have K : wq_kI g r := ⟨h1, h2⟩
  unfold fX2_readNumber at h
  refine wq_aload_n hC dX2_readNumber_0 (i := 0) rfl rfl ?_
  refine gf_2 hC oC_18 4 (.int (M.1 18 4)) (by decide) rfl tw_85 dX2_readNumber_1 ?_
  refine wq_istore_n hC dX2_readNumber_4 (i := 3) (lv' := [some (.ref (E.2.1 18)), some (.int x1), some (.int x2), some (.int (M.1 18 4)), none]) rfl (by decide) rfl ?_
  refine wq_iconst hC (v := 0) dX2_readNumber_5 (by decide) ?_
  refine wq_istore hC dX2_readNumber_6 (lv' := [some (.ref (E.2.1 18)), some (.int x1), some (.int x2), some (.int (M.1 18 4)), some (.int 0)]) (by decide) rfl ?_
  obtain ⟨e8, hl9, h⟩ := wq_ob h
  refine gX2_readNumber_L8 hC hd0 x1 x2 M  wq_FU _ _ hl9 ?_
  exact gX2_readNumber_J71 hC hd0 x1 x2 e8.1 e8.2 M  h K
theorem npX2_readRule : yX2_readRule.cls ≠ "java/lang/invoke/MethodHandle" ∧ yX2_readRule.cls ≠ "java/lang/invoke/VarHandle" ∧ (parseMethodDescriptor yX2_readRule.desc).map (fun d => d.parameters.length) = some 1 := by decide +kernel
def fX2_readRule (x1 : Int32) (M : wq_M) : Option (Int32 × wq_M) :=
  if wq_in x1 4 then if wq_in x1 4 then (fX2_readNumber (wq_sf 0 x1.toNatClampNeg) (wq_sf 1 x1.toNatClampNeg) M).bind fun r3 => some (r3.1, r3.2) else none else none
set_option maxHeartbeats 4000000 in
set_option maxRecDepth 100000 in
theorem ctX2_readRule {l : Launch} {E : wq_E} {d : Nat} (hd0 : 2 ≤ d) {x1 : Int32} {M : wq_M} {r : (Int32 × wq_M)}  (h : fX2_readRule x1 M = some r) : wq_ct l E wq_yC yX2_readRule cX2_readRule 2 (some .int) d [.ref (E.2.1 18), .int x1] M (some (.int r.1)) r.2 := by
  refine wq_ent (own := "WellPipes$Reader") (lv0 := [some (.ref (E.2.1 18)), some (.int x1)]) (by decide +kernel) rfl (Nat.le_of_ble_eq_true rfl) rfl (fun g h1 h2 hC => ?_)
  have K : wq_kI g r := ⟨h1, h2⟩
  unfold fX2_readRule at h
  refine wq_aload_n hC dX2_readRule_0 (i := 0) rfl rfl ?_
  refine wq_getsN hC 0 (host := "WellPipes") (by decide) (by simp [wq_nw, wq_sn]) dX2_readRule_1 ?_
  refine wq_iload_n hC dX2_readRule_4 (i := 1) rfl rfl ?_
  obtain ⟨z1, h⟩ := wq_ii h
  refine wq_tald hC 0 (by decide) rfl z1 dX2_readRule_5 ?_
  refine wq_getsN hC 1 (host := "WellPipes") (by decide) (by simp [wq_nw, wq_sn]) dX2_readRule_6 ?_
  refine wq_iload_n hC dX2_readRule_9 (i := 1) rfl rfl ?_
  obtain ⟨z2, h⟩ := wq_ii h
  refine wq_tald hC 1 (by decide) rfl z2 dX2_readRule_10 ?_
  obtain ⟨r3, hc4, h⟩ := wq_ob h
  refine cv_2 hC (ctX2_readNumber (d := d - 1) (by omega)  hc4) (by omega) (by decide) oC_18 rfl rfl npX2_readNumber tw_343 tw_345 tw_5 tw_346 (st := []) (Nat.le_of_ble_eq_true rfl) rfl dX2_readRule_11 (st1 := [.int r3.1]) rfl ?_
  have h := Option.some.inj h
  subst h
  exact wq_iret hC dX2_readRule_14 K.1 K.2
theorem npX2_readLaw : yX2_readLaw.cls ≠ "java/lang/invoke/MethodHandle" ∧ yX2_readLaw.cls ≠ "java/lang/invoke/VarHandle" ∧ (parseMethodDescriptor yX2_readLaw.desc).map (fun d => d.parameters.length) = some 1 := by decide +kernel
def fX2_readLaw (p1 : Nat) (M : wq_M) : Option wq_M :=
  (fX2_readSign 119 M).bind fun r1 => (fX2_readNumber 2 8 r1).bind fun r3 => (fX2_readSign 44 (wq_st r3.2 p1 0 r3.1)).bind fun r5 => (fX2_readRule 3 r5).bind fun r7 => if wq_in 3 4 then (fX2_readSign 44 (wq_st r7.2 (p1 + 1) (3 : Int32).toNatClampNeg r7.1)).bind fun r10 => (fX2_readRule 0 r10).bind fun r12 => if wq_in 0 4 then (fX2_readSign 59 (wq_st r12.2 (p1 + 1) (0 : Int32).toNatClampNeg r12.1)).bind fun r15 => some r15 else none else none
set_option maxHeartbeats 4000000 in
set_option maxRecDepth 100000 in
theorem ctX2_readLaw {l : Launch} {E : wq_E} {d : Nat} (hd0 : 3 ≤ d) {p1 : Nat} {M : wq_M} {r : wq_M} (hp1 : wq_W p1) (h : fX2_readLaw p1 M = some r) : wq_ct l E wq_yC yX2_readLaw cX2_readLaw 2 (none) d [.ref (E.2.1 18), .ref (E.2.1 p1)] M (none) r := by
  refine wq_ent (own := "WellPipes$Reader") (lv0 := [some (.ref (E.2.1 18)), some (.ref (E.2.1 p1))]) (by decide +kernel) rfl (Nat.le_of_ble_eq_true rfl) rfl (fun g h1 h2 hC => ?_)
  have K : wq_kV g r := ⟨h1, h2⟩
  unfold fX2_readLaw at h
  refine wq_aload_n hC dX2_readLaw_0 (i := 0) rfl rfl ?_
  refine wq_bipush hC (v := 119) dX2_readLaw_1 (by decide) ?_
  obtain ⟨r1, hc2, h⟩ := wq_ob h
  refine cv_2 hC (ctX2_readSign (d := d - 1) (by omega)  hc2) (by omega) (by decide) oC_18 rfl rfl npX2_readSign tw_335 tw_337 tw_3 tw_338 (st := []) (Nat.le_of_ble_eq_true rfl) rfl dX2_readLaw_3 (st1 := []) rfl ?_
  refine wq_aload_n hC dX2_readLaw_6 (i := 1) rfl rfl ?_
  refine wq_aload_n hC dX2_readLaw_7 (i := 0) rfl rfl ?_
  refine wq_iconst hC (v := 2) dX2_readLaw_8 (by decide) ?_
  refine wq_bipush hC (v := 8) dX2_readLaw_9 (by decide) ?_
  obtain ⟨r3, hc4, h⟩ := wq_ob h
  refine cv_2 hC (ctX2_readNumber (d := d - 1) (by omega)  hc4) (by omega) (by decide) oC_18 rfl rfl npX2_readNumber tw_343 tw_345 tw_5 tw_346 (st := [.ref (E.2.1 p1)]) (Nat.le_of_ble_eq_true rfl) rfl dX2_readLaw_11 (st1 := [.int r3.1, .ref (E.2.1 p1)]) rfl ?_
  refine pf_5_0 hC hp1.1 tw_109 dX2_readLaw_14 ?_
  refine wq_aload_n hC dX2_readLaw_17 (i := 0) rfl rfl ?_
  refine wq_bipush hC (v := 44) dX2_readLaw_18 (by decide) ?_
  obtain ⟨r5, hc6, h⟩ := wq_ob h
  refine cv_2 hC (ctX2_readSign (d := d - 1) (by omega)  hc6) (by omega) (by decide) oC_18 rfl rfl npX2_readSign tw_335 tw_337 tw_3 tw_338 (st := []) (Nat.le_of_ble_eq_true rfl) rfl dX2_readLaw_20 (st1 := []) rfl ?_
  refine wq_aload_n hC dX2_readLaw_23 (i := 1) rfl rfl ?_
  refine gf_5 hC hp1.1 2 (.ref (E.2.1 (p1 + 1))) (by decide) rfl tw_118 dX2_readLaw_24 ?_
  refine wq_iconst hC (v := 3) dX2_readLaw_27 (by decide) ?_
  refine wq_aload_n hC dX2_readLaw_28 (i := 0) rfl rfl ?_
  refine wq_iconst hC (v := 3) dX2_readLaw_29 (by decide) ?_
  obtain ⟨r7, hc8, h⟩ := wq_ob h
  refine cv_2 hC (ctX2_readRule (d := d - 1) (by omega)  hc8) (by omega) (by decide) oC_18 rfl rfl npX2_readRule tw_347 tw_349 tw_6 tw_350 (st := [.int 3, .ref (E.2.1 (p1 + 1))]) (Nat.le_of_ble_eq_true rfl) rfl dX2_readLaw_30 (st1 := [.int r7.1, .int 3, .ref (E.2.1 (p1 + 1))]) rfl ?_
  obtain ⟨z9, h⟩ := wq_ii h
  refine wq_ast hC hp1.2.1 z9 dX2_readLaw_33 ?_
  refine wq_aload_n hC dX2_readLaw_34 (i := 0) rfl rfl ?_
  refine wq_bipush hC (v := 44) dX2_readLaw_35 (by decide) ?_
  obtain ⟨r10, hc11, h⟩ := wq_ob h
  refine cv_2 hC (ctX2_readSign (d := d - 1) (by omega)  hc11) (by omega) (by decide) oC_18 rfl rfl npX2_readSign tw_335 tw_337 tw_3 tw_338 (st := []) (Nat.le_of_ble_eq_true rfl) rfl dX2_readLaw_37 (st1 := []) rfl ?_
  refine wq_aload_n hC dX2_readLaw_40 (i := 1) rfl rfl ?_
  refine gf_5 hC hp1.1 2 (.ref (E.2.1 (p1 + 1))) (by decide) rfl tw_118 dX2_readLaw_41 ?_
  refine wq_iconst hC (v := 0) dX2_readLaw_44 (by decide) ?_
  refine wq_aload_n hC dX2_readLaw_45 (i := 0) rfl rfl ?_
  refine wq_iconst hC (v := 0) dX2_readLaw_46 (by decide) ?_
  obtain ⟨r12, hc13, h⟩ := wq_ob h
  refine cv_2 hC (ctX2_readRule (d := d - 1) (by omega)  hc13) (by omega) (by decide) oC_18 rfl rfl npX2_readRule tw_347 tw_349 tw_6 tw_350 (st := [.int 0, .ref (E.2.1 (p1 + 1))]) (Nat.le_of_ble_eq_true rfl) rfl dX2_readLaw_47 (st1 := [.int r12.1, .int 0, .ref (E.2.1 (p1 + 1))]) rfl ?_
  obtain ⟨z14, h⟩ := wq_ii h
  refine wq_ast hC hp1.2.1 z14 dX2_readLaw_50 ?_
  refine wq_aload_n hC dX2_readLaw_51 (i := 0) rfl rfl ?_
  refine wq_bipush hC (v := 59) dX2_readLaw_52 (by decide) ?_
  obtain ⟨r15, hc16, h⟩ := wq_ob h
  refine cv_2 hC (ctX2_readSign (d := d - 1) (by omega)  hc16) (by omega) (by decide) oC_18 rfl rfl npX2_readSign tw_335 tw_337 tw_3 tw_338 (st := []) (Nat.le_of_ble_eq_true rfl) rfl dX2_readLaw_54 (st1 := []) rfl ?_
  have h := Option.some.inj h
  subst h
  exact wq_vret hC dX2_readLaw_57 K.1 K.2
theorem npX2_readGas : yX2_readGas.cls ≠ "java/lang/invoke/MethodHandle" ∧ yX2_readGas.cls ≠ "java/lang/invoke/VarHandle" ∧ (parseMethodDescriptor yX2_readGas.desc).map (fun d => d.parameters.length) = some 1 := by decide +kernel
def fX2_readGas (p1 : Nat) (M : wq_M) : Option wq_M :=
  (fX2_readSign 103 M).bind fun r1 => (fX2_readRule 1 r1).bind fun r3 => if wq_in 1 4 then (fX2_readSign 44 (wq_st r3.2 (p1 + 1) (1 : Int32).toNatClampNeg r3.1)).bind fun r6 => (fX2_readRule 2 r6).bind fun r8 => if wq_in 2 4 then (fX2_readSign 59 (wq_st r8.2 (p1 + 1) (2 : Int32).toNatClampNeg r8.1)).bind fun r11 => some r11 else none else none
set_option maxHeartbeats 4000000 in
set_option maxRecDepth 100000 in
theorem ctX2_readGas {l : Launch} {E : wq_E} {d : Nat} (hd0 : 3 ≤ d) {p1 : Nat} {M : wq_M} {r : wq_M} (hp1 : wq_W p1) (h : fX2_readGas p1 M = some r) : wq_ct l E wq_yC yX2_readGas cX2_readGas 2 (none) d [.ref (E.2.1 18), .ref (E.2.1 p1)] M (none) r := by
  refine wq_ent (own := "WellPipes$Reader") (lv0 := [some (.ref (E.2.1 18)), some (.ref (E.2.1 p1))]) (by decide +kernel) rfl (Nat.le_of_ble_eq_true rfl) rfl (fun g h1 h2 hC => ?_)
  have K : wq_kV g r := ⟨h1, h2⟩
  unfold fX2_readGas at h
  refine wq_aload_n hC dX2_readGas_0 (i := 0) rfl rfl ?_
  refine wq_bipush hC (v := 103) dX2_readGas_1 (by decide) ?_
  obtain ⟨r1, hc2, h⟩ := wq_ob h
  refine cv_2 hC (ctX2_readSign (d := d - 1) (by omega)  hc2) (by omega) (by decide) oC_18 rfl rfl npX2_readSign tw_335 tw_337 tw_3 tw_338 (st := []) (Nat.le_of_ble_eq_true rfl) rfl dX2_readGas_3 (st1 := []) rfl ?_
  refine wq_aload_n hC dX2_readGas_6 (i := 1) rfl rfl ?_
  refine gf_5 hC hp1.1 2 (.ref (E.2.1 (p1 + 1))) (by decide) rfl tw_118 dX2_readGas_7 ?_
  refine wq_iconst hC (v := 1) dX2_readGas_10 (by decide) ?_
  refine wq_aload_n hC dX2_readGas_11 (i := 0) rfl rfl ?_
  refine wq_iconst hC (v := 1) dX2_readGas_12 (by decide) ?_
  obtain ⟨r3, hc4, h⟩ := wq_ob h
  refine cv_2 hC (ctX2_readRule (d := d - 1) (by omega)  hc4) (by omega) (by decide) oC_18 rfl rfl npX2_readRule tw_347 tw_349 tw_6 tw_350 (st := [.int 1, .ref (E.2.1 (p1 + 1))]) (Nat.le_of_ble_eq_true rfl) rfl dX2_readGas_13 (st1 := [.int r3.1, .int 1, .ref (E.2.1 (p1 + 1))]) rfl ?_
  obtain ⟨z5, h⟩ := wq_ii h
  refine wq_ast hC hp1.2.1 z5 dX2_readGas_16 ?_
  refine wq_aload_n hC dX2_readGas_17 (i := 0) rfl rfl ?_
  refine wq_bipush hC (v := 44) dX2_readGas_18 (by decide) ?_
  obtain ⟨r6, hc7, h⟩ := wq_ob h
  refine cv_2 hC (ctX2_readSign (d := d - 1) (by omega)  hc7) (by omega) (by decide) oC_18 rfl rfl npX2_readSign tw_335 tw_337 tw_3 tw_338 (st := []) (Nat.le_of_ble_eq_true rfl) rfl dX2_readGas_20 (st1 := []) rfl ?_
  refine wq_aload_n hC dX2_readGas_23 (i := 1) rfl rfl ?_
  refine gf_5 hC hp1.1 2 (.ref (E.2.1 (p1 + 1))) (by decide) rfl tw_118 dX2_readGas_24 ?_
  refine wq_iconst hC (v := 2) dX2_readGas_27 (by decide) ?_
  refine wq_aload_n hC dX2_readGas_28 (i := 0) rfl rfl ?_
  refine wq_iconst hC (v := 2) dX2_readGas_29 (by decide) ?_
  obtain ⟨r8, hc9, h⟩ := wq_ob h
  refine cv_2 hC (ctX2_readRule (d := d - 1) (by omega)  hc9) (by omega) (by decide) oC_18 rfl rfl npX2_readRule tw_347 tw_349 tw_6 tw_350 (st := [.int 2, .ref (E.2.1 (p1 + 1))]) (Nat.le_of_ble_eq_true rfl) rfl dX2_readGas_30 (st1 := [.int r8.1, .int 2, .ref (E.2.1 (p1 + 1))]) rfl ?_
  obtain ⟨z10, h⟩ := wq_ii h
  refine wq_ast hC hp1.2.1 z10 dX2_readGas_33 ?_
  refine wq_aload_n hC dX2_readGas_34 (i := 0) rfl rfl ?_
  refine wq_bipush hC (v := 59) dX2_readGas_35 (by decide) ?_
  obtain ⟨r11, hc12, h⟩ := wq_ob h
  refine cv_2 hC (ctX2_readSign (d := d - 1) (by omega)  hc12) (by omega) (by decide) oC_18 rfl rfl npX2_readSign tw_335 tw_337 tw_3 tw_338 (st := []) (Nat.le_of_ble_eq_true rfl) rfl dX2_readGas_37 (st1 := []) rfl ?_
  have h := Option.some.inj h
  subst h
  exact wq_vret hC dX2_readGas_40 K.1 K.2
theorem npX2_kindAtHand : yX2_kindAtHand.cls ≠ "java/lang/invoke/MethodHandle" ∧ yX2_kindAtHand.cls ≠ "java/lang/invoke/VarHandle" ∧ (parseMethodDescriptor yX2_kindAtHand.desc).map (fun d => d.parameters.length) = some 0 := by decide +kernel
def fX2_kindAtHand_J24 (y0 : Int32) (M : wq_M) : Option Int32 :=
  (if y0 = 98 then some 3 else if y0 = 104 then some 2 else if y0 = 108 then some 5 else if y0 = 112 then some 1 else if y0 = 116 then some 4 else some 0)
set_option maxHeartbeats 4000000 in
set_option maxRecDepth 100000 in
theorem gX2_kindAtHand_J24 {g : wq_G} {E : wq_E} {d : Nat} (hC : wq_C g E wq_yC cX2_kindAtHand 1 "WellPipes$Reader" (some .int) d) (hd0 : 0 ≤ d) (y0 : Int32) (M : wq_M)  {x : Int32} (h : fX2_kindAtHand_J24 y0 M = some x) (K : (wq_ki g M) x) : wq_g g E wq_yC 1 24 [none] [.int y0] M := by
  unfold fX2_kindAtHand_J24 at h
  by_cases z2 : y0 = 98
  · have h := wq_ip z2 h
    refine wq_lookup hC dX2_kindAtHand_24 (tgt := 80) (by decide) (off := 56) (by rw [z2]; decide) (by decide) ?_
    refine wq_iconst hC (v := 3) dX2_kindAtHand_80 (by decide) ?_
    have h := Option.some.inj h
    subst h
    exact wq_iret hC dX2_kindAtHand_81 K.1 K.2
  · have h := wq_in_ z2 h
    by_cases z3 : y0 = 104
    · have h := wq_ip z3 h
      refine wq_lookup hC dX2_kindAtHand_24 (tgt := 78) (by decide) (off := 54) (by rw [z3]; decide) (by decide) ?_
      refine wq_iconst hC (v := 2) dX2_kindAtHand_78 (by decide) ?_
      have h := Option.some.inj h
      subst h
      exact wq_iret hC dX2_kindAtHand_79 K.1 K.2
    · have h := wq_in_ z3 h
      by_cases z4 : y0 = 108
      · have h := wq_ip z4 h
        refine wq_lookup hC dX2_kindAtHand_24 (tgt := 84) (by decide) (off := 60) (by rw [z4]; decide) (by decide) ?_
        refine wq_iconst hC (v := 5) dX2_kindAtHand_84 (by decide) ?_
        have h := Option.some.inj h
        subst h
        exact wq_iret hC dX2_kindAtHand_85 K.1 K.2
      · have h := wq_in_ z4 h
        by_cases z5 : y0 = 112
        · have h := wq_ip z5 h
          refine wq_lookup hC dX2_kindAtHand_24 (tgt := 76) (by decide) (off := 52) (by rw [z5]; decide) (by decide) ?_
          refine wq_iconst hC (v := 1) dX2_kindAtHand_76 (by decide) ?_
          have h := Option.some.inj h
          subst h
          exact wq_iret hC dX2_kindAtHand_77 K.1 K.2
        · have h := wq_in_ z5 h
          by_cases z6 : y0 = 116
          · have h := wq_ip z6 h
            refine wq_lookup hC dX2_kindAtHand_24 (tgt := 82) (by decide) (off := 58) (by rw [z6]; decide) (by decide) ?_
            refine wq_iconst hC (v := 4) dX2_kindAtHand_82 (by decide) ?_
            have h := Option.some.inj h
            subst h
            exact wq_iret hC dX2_kindAtHand_83 K.1 K.2
          · have h := wq_in_ z6 h
            refine wq_lookup hC dX2_kindAtHand_24 (tgt := 86) (by decide) (off := 62) (by show Op.lookupswitch.offset [(98, 56), (104, 54), (108, 60), (112, 52), (116, 58)] _ _ = _; rw [lv_osw z2 (by decide)]; rw [lv_osw z3 (by decide)]; rw [lv_osw z4 (by decide)]; rw [lv_osw z5 (by decide)]; rw [lv_osw z6 (by decide)]; rfl) (by decide) ?_
            refine wq_iconst hC (v := 0) dX2_kindAtHand_86 (by decide) ?_
            have h := Option.some.inj h
            subst h
            exact wq_iret hC dX2_kindAtHand_87 K.1 K.2
def fX2_kindAtHand  (M : wq_M) : Option Int32 :=
  (if (M.1 18 1) ≤ (M.1 18 4) then
    fX2_kindAtHand_J24 0 M
  else
    if wq_in (M.1 18 4) 130 then fX2_kindAtHand_J24 (M.1 19 (M.1 18 4).toNatClampNeg) M else none)
set_option maxHeartbeats 4000000 in
set_option maxRecDepth 100000 in
theorem ctX2_kindAtHand {l : Launch} {E : wq_E} {d : Nat} (hd0 : 0 ≤ d)  {M : wq_M} {r : Int32}  (h : fX2_kindAtHand M = some r) : wq_ct l E wq_yC yX2_kindAtHand cX2_kindAtHand 1 (some .int) d [.ref (E.2.1 18)] M (some (.int r)) M := by
  refine wq_ent (own := "WellPipes$Reader") (lv0 := [some (.ref (E.2.1 18))]) (by decide +kernel) rfl (Nat.le_of_ble_eq_true rfl) rfl (fun g h1 h2 hC => ?_)
  have K : wq_ki g M r := ⟨h1, h2⟩
  unfold fX2_kindAtHand at h
  refine wq_aload_n hC dX2_kindAtHand_0 (i := 0) rfl rfl ?_
  refine gf_2 hC oC_18 4 (.int (M.1 18 4)) (by decide) rfl tw_85 dX2_kindAtHand_1 ?_
  refine wq_aload_n hC dX2_kindAtHand_4 (i := 0) rfl rfl ?_
  refine gf_2 hC oC_18 1 (.int (M.1 18 1)) (by decide) rfl tw_79 dX2_kindAtHand_5 ?_
  refine wq_icmp_ge hC dX2_kindAtHand_8 (tgt := 23) (by decide) (fun z1 => ?_) (fun z1 => ?_)
  · have h := wq_ip z1 h
    refine wq_iconst hC (v := 0) dX2_kindAtHand_23 (by decide) ?_
    refine wq_mask [false] (lv' := [none]) rfl ?_
    exact gX2_kindAtHand_J24 hC hd0 0 M  h K
  · have h := wq_in_ z1 h
    refine wq_aload_n hC dX2_kindAtHand_11 (i := 0) rfl rfl ?_
    refine gf_2 hC oC_18 0 (.ref (E.2.1 19)) (by decide) rfl tw_78 dX2_kindAtHand_12 ?_
    refine wq_aload_n hC dX2_kindAtHand_15 (i := 0) rfl rfl ?_
    refine gf_2 hC oC_18 4 (.int (M.1 18 4)) (by decide) rfl tw_85 dX2_kindAtHand_16 ?_
    obtain ⟨z7, h⟩ := wq_ii h
    refine wq_ald hC aC_19 z7 dX2_kindAtHand_19 ?_
    refine wq_goto hC dX2_kindAtHand_20 (tgt := 24) (by decide) ?_
    refine wq_mask [false] (lv' := [none]) rfl ?_
    exact gX2_kindAtHand_J24 hC hd0 (M.1 19 (M.1 18 4).toNatClampNeg) M  h K
theorem npX2_readGrade : yX2_readGrade.cls ≠ "java/lang/invoke/MethodHandle" ∧ yX2_readGrade.cls ≠ "java/lang/invoke/VarHandle" ∧ (parseMethodDescriptor yX2_readGrade.desc).map (fun d => d.parameters.length) = some 2 := by decide +kernel
def fX2_readGrade_L62 (p1 : Nat) (x2 : Int32) : (Int32 × wq_M) → Option ((Int32 × wq_M) ⊕ wq_M) := fun s =>
  (if 5 ≤ s.1 then
    some (.inr s.2)
  else
    if wq_in s.1 5 then (fX2_readNumber 1 (wq_sf 2 s.1.toNatClampNeg) s.2).bind fun r9 => (fX5_putFigure p1 x2 s.1 r9.1 r9.2).bind fun r11 => (if s.1 = 4 then
      (fX2_readSign 59 r11).bind fun r16 => some (.inl ((s.1 + 1), r16))
    else
      (fX2_readSign 44 r11).bind fun r14 => some (.inl ((s.1 + 1), r14))) else none)
set_option maxHeartbeats 4000000 in
set_option maxRecDepth 100000 in
theorem gX2_readGrade_L62 {g : wq_G} {E : wq_E} {d : Nat} (hC : wq_C g E wq_yC cX2_readGrade 5 "WellPipes$Reader" (none) d) (hd0 : 2 ≤ d) (p1 : Nat) (x2 : Int32) (hp1 : wq_W p1) : ∀ (n : Nat) (s : (Int32 × wq_M)) (e : wq_M), wq_lp (fX2_readGrade_L62 p1 x2) n s = some e → (fun (e : wq_M) => wq_g g E wq_yC 5 109 [none, none, none, none, none] [] e) e → wq_g g E wq_yC 5 62 [some (.ref (E.2.1 18)), some (.ref (E.2.1 p1)), some (.int x2), none, some (.int s.1)] [] s.2 := by
  refine wq_lq_ok (fun (s : (Int32 × wq_M)) => wq_g g E wq_yC 5 62 [some (.ref (E.2.1 18)), some (.ref (E.2.1 p1)), some (.int x2), none, some (.int s.1)] [] s.2) (fun (e : wq_M) => wq_g g E wq_yC 5 109 [none, none, none, none, none] [] e) (fun s x h K => ?_)
  unfold fX2_readGrade_L62 at h
  refine wq_iload hC dX2_readGrade_62 rfl ?_
  refine wq_iconst hC (v := 5) dX2_readGrade_64 (by decide) ?_
  refine wq_icmp_ge hC dX2_readGrade_65 (tgt := 109) (by decide) (fun z7 => ?_) (fun z7 => ?_)
  · have h := wq_ip z7 h
    have h := Option.some.inj h
    subst h
    refine wq_mask [false, false, false, false, false] (lv' := [none, none, none, none, none]) rfl ?_
    exact K
  · have h := wq_in_ z7 h
    refine wq_aload_n hC dX2_readGrade_68 (i := 1) rfl rfl ?_
    refine wq_iload_n hC dX2_readGrade_69 (i := 2) rfl rfl ?_
    refine wq_iload hC dX2_readGrade_70 rfl ?_
    refine wq_aload_n hC dX2_readGrade_72 (i := 0) rfl rfl ?_
    refine wq_iconst hC (v := 1) dX2_readGrade_73 (by decide) ?_
    refine wq_getsN hC 2 (host := "WellPipes") (by decide) (by simp [wq_nw, wq_sn]) dX2_readGrade_74 ?_
    refine wq_iload hC dX2_readGrade_77 rfl ?_
    obtain ⟨z8, h⟩ := wq_ii h
    refine wq_tald hC 2 (by decide) rfl z8 dX2_readGrade_79 ?_
    obtain ⟨r9, hc10, h⟩ := wq_ob h
    refine cv_2 hC (ctX2_readNumber (d := d - 1) (by omega)  hc10) (by omega) (by decide) oC_18 rfl rfl npX2_readNumber tw_343 tw_345 tw_5 tw_346 (st := [.int s.1, .int x2, .ref (E.2.1 p1)]) (Nat.le_of_ble_eq_true rfl) rfl dX2_readGrade_80 (st1 := [.int r9.1, .int s.1, .int x2, .ref (E.2.1 p1)]) rfl ?_
    obtain ⟨r11, hc12, h⟩ := wq_ob h
    refine cv_5 hC (ctX5_putFigure (d := d - 1) (by omega) hp1 hc12) (by omega) (by decide) hp1.1 rfl rfl npX5_putFigure tw_369 tw_370 tw_371 tw_372 (st := []) (Nat.le_of_ble_eq_true rfl) rfl dX2_readGrade_83 (st1 := []) rfl ?_
    refine wq_aload_n hC dX2_readGrade_86 (i := 0) rfl rfl ?_
    refine wq_iload hC dX2_readGrade_87 rfl ?_
    refine wq_iconst hC (v := 4) dX2_readGrade_89 (by decide) ?_
    refine wq_icmp_ne hC dX2_readGrade_90 (tgt := 98) (by decide) (fun z13 => ?_) (fun z13 => ?_)
    · have h := wq_in_ z13 h
      refine wq_bipush hC (v := 44) dX2_readGrade_98 (by decide) ?_
      obtain ⟨r14, hc15, h⟩ := wq_ob h
      refine cv_2 hC (ctX2_readSign (d := d - 1) (by omega)  hc15) (by omega) (by decide) oC_18 rfl rfl npX2_readSign tw_335 tw_337 tw_3 tw_338 (st := []) (Nat.le_of_ble_eq_true rfl) rfl dX2_readGrade_100 (st1 := []) rfl ?_
      refine wq_iinc hC (v := (s.1 + 1)) dX2_readGrade_103 (lv' := [some (.ref (E.2.1 18)), some (.ref (E.2.1 p1)), some (.int x2), none, some (.int (s.1 + 1))]) rfl rfl (by decide) rfl ?_
      refine wq_goto hC dX2_readGrade_106 (tgt := 62) (by decide) ?_
      have h := Option.some.inj h
      subst h
      exact K
    · have h := wq_ip z13 h
      refine wq_bipush hC (v := 59) dX2_readGrade_93 (by decide) ?_
      refine wq_goto hC dX2_readGrade_95 (tgt := 100) (by decide) ?_
      obtain ⟨r16, hc17, h⟩ := wq_ob h
      refine cv_2 hC (ctX2_readSign (d := d - 1) (by omega)  hc17) (by omega) (by decide) oC_18 rfl rfl npX2_readSign tw_335 tw_337 tw_3 tw_338 (st := []) (Nat.le_of_ble_eq_true rfl) rfl dX2_readGrade_100 (st1 := []) rfl ?_
      refine wq_iinc hC (v := (s.1 + 1)) dX2_readGrade_103 (lv' := [some (.ref (E.2.1 18)), some (.ref (E.2.1 p1)), some (.int x2), none, some (.int (s.1 + 1))]) rfl rfl (by decide) rfl ?_
      refine wq_goto hC dX2_readGrade_106 (tgt := 62) (by decide) ?_
      have h := Option.some.inj h
      subst h
      exact K
def fX2_readGrade_J27 (p1 : Nat) (x2 : Int32) (x3 : Int32) (M : wq_M) : Option wq_M :=
  (if (M.1 18 5) = 0 then
    if wq_in x2 5 then (wq_lp (fX2_readGrade_L62 p1 x2) wq_FU (0, (wq_st (wq_st (wq_st M (p1 + 2) x2.toNatClampNeg x3) p1 1 (x2 + 1)) 18 4 (((wq_st (wq_st M (p1 + 2) x2.toNatClampNeg x3) p1 1 (x2 + 1)).1 18 4) + 1)))).bind fun e18 => some e18 else none
  else
    some M)
set_option maxHeartbeats 4000000 in
set_option maxRecDepth 100000 in
theorem gX2_readGrade_J27 {g : wq_G} {E : wq_E} {d : Nat} (hC : wq_C g E wq_yC cX2_readGrade 5 "WellPipes$Reader" (none) d) (hd0 : 2 ≤ d) (p1 : Nat) (x2 : Int32) (x3 : Int32) (M : wq_M) (hp1 : wq_W p1) {x : wq_M} (h : fX2_readGrade_J27 p1 x2 x3 M = some x) (K : (wq_kV g) x) : wq_g g E wq_yC 5 27 [some (.ref (E.2.1 18)), some (.ref (E.2.1 p1)), some (.int x2), some (.int x3), none] [] M := by
  unfold fX2_readGrade_J27 at h
  refine wq_aload_n hC dX2_readGrade_27 (i := 0) rfl rfl ?_
  refine gf_2 hC oC_18 5 (.int (M.1 18 5)) (by decide) rfl tw_86 dX2_readGrade_28 ?_
  refine wq_if_eq hC dX2_readGrade_31 (tgt := 35) (by decide) (fun z5 => ?_) (fun z5 => ?_)
  · have h := wq_ip z5 h
    refine wq_aload_n hC dX2_readGrade_35 (i := 1) rfl rfl ?_
    refine gf_5 hC hp1.1 3 (.ref (E.2.1 (p1 + 2))) (by decide) rfl tw_122 dX2_readGrade_36 ?_
    refine wq_iload_n hC dX2_readGrade_39 (i := 2) rfl rfl ?_
    refine wq_iload_n hC dX2_readGrade_40 (i := 3) rfl rfl ?_
    obtain ⟨z6, h⟩ := wq_ii h
    refine wq_ast hC hp1.2.2.1 z6 dX2_readGrade_41 ?_
    refine wq_aload_n hC dX2_readGrade_42 (i := 1) rfl rfl ?_
    refine wq_iload_n hC dX2_readGrade_43 (i := 2) rfl rfl ?_
    refine wq_iconst hC (v := 1) dX2_readGrade_44 (by decide) ?_
    refine wq_iadd hC dX2_readGrade_45 ?_
    refine pf_5_1 hC hp1.1 tw_113 dX2_readGrade_46 ?_
    refine wq_aload_n hC dX2_readGrade_49 (i := 0) rfl rfl ?_
    refine wq_dup hC dX2_readGrade_50 rfl ?_
    refine gf_2 hC oC_18 4 (.int ((wq_st (wq_st M (p1 + 2) x2.toNatClampNeg x3) p1 1 (x2 + 1)).1 18 4)) (by decide) rfl tw_85 dX2_readGrade_51 ?_
    refine wq_iconst hC (v := 1) dX2_readGrade_54 (by decide) ?_
    refine wq_iadd hC dX2_readGrade_55 ?_
    refine pf_2_4 hC oC_18 tw_85 dX2_readGrade_56 ?_
    refine wq_iconst hC (v := 0) dX2_readGrade_59 (by decide) ?_
    refine wq_istore hC dX2_readGrade_60 (lv' := [some (.ref (E.2.1 18)), some (.ref (E.2.1 p1)), some (.int x2), some (.int x3), some (.int 0)]) (by decide) rfl ?_
    obtain ⟨e18, hl19, h⟩ := wq_ob h
    refine wq_mask [true, true, true, false, true] (lv' := [some (.ref (E.2.1 18)), some (.ref (E.2.1 p1)), some (.int x2), none, some (.int 0)]) rfl ?_
    refine gX2_readGrade_L62 hC hd0 p1 x2 hp1 wq_FU _ _ hl19 ?_
    have h := Option.some.inj h
    subst h
    exact wq_vret hC dX2_readGrade_109 K.1 K.2
  · have h := wq_in_ z5 h
    have h := Option.some.inj h
    subst h
    exact wq_vret hC dX2_readGrade_34 K.1 K.2
def fX2_readGrade (p1 : Nat) (x2 : Int32) (M : wq_M) : Option wq_M :=
  (fX2_kindAtHand  M).bind fun r1 => (if r1 = 0 then
    (fX2_fail 1 M).bind fun r22 => fX2_readGrade_J27 p1 x2 r1 r22
  else
    (if x2 < 5 then
      fX2_readGrade_J27 p1 x2 r1 M
    else
      (fX2_fail 3 M).bind fun r20 => fX2_readGrade_J27 p1 x2 r1 r20))
set_option maxHeartbeats 4000000 in
set_option maxRecDepth 100000 in
theorem ctX2_readGrade {l : Launch} {E : wq_E} {d : Nat} (hd0 : 2 ≤ d) {p1 : Nat} {x2 : Int32} {M : wq_M} {r : wq_M} (hp1 : wq_W p1) (h : fX2_readGrade p1 x2 M = some r) : wq_ct l E wq_yC yX2_readGrade cX2_readGrade 5 (none) d [.ref (E.2.1 18), .ref (E.2.1 p1), .int x2] M (none) r := by
  refine wq_ent (own := "WellPipes$Reader") (lv0 := [some (.ref (E.2.1 18)), some (.ref (E.2.1 p1)), some (.int x2), none, none]) (by decide +kernel) rfl (Nat.le_of_ble_eq_true rfl) rfl (fun g h1 h2 hC => ?_)
  have K : wq_kV g r := ⟨h1, h2⟩
  unfold fX2_readGrade at h
  refine wq_aload_n hC dX2_readGrade_0 (i := 0) rfl rfl ?_
  obtain ⟨r1, hc2, h⟩ := wq_ob h
  refine cv_2 hC (ctX2_kindAtHand (d := d - 1) (by omega)  hc2) (by omega) (by decide) oC_18 rfl rfl npX2_kindAtHand tw_363 tw_365 tw_9 tw_366 (st := []) (Nat.le_of_ble_eq_true rfl) rfl dX2_readGrade_1 (st1 := [.int r1]) rfl ?_
  refine wq_istore_n hC dX2_readGrade_4 (i := 3) (lv' := [some (.ref (E.2.1 18)), some (.ref (E.2.1 p1)), some (.int x2), some (.int r1), none]) rfl (by decide) rfl ?_
  refine wq_iload_n hC dX2_readGrade_5 (i := 3) rfl rfl ?_
  refine wq_if_ne hC dX2_readGrade_6 (tgt := 17) (by decide) (fun z3 => ?_) (fun z3 => ?_)
  · have h := wq_in_ z3 h
    refine wq_iload_n hC dX2_readGrade_17 (i := 2) rfl rfl ?_
    refine wq_iconst hC (v := 5) dX2_readGrade_18 (by decide) ?_
    refine wq_icmp_lt hC dX2_readGrade_19 (tgt := 27) (by decide) (fun z4 => ?_) (fun z4 => ?_)
    · have h := wq_ip z4 h
      exact gX2_readGrade_J27 hC hd0 p1 x2 r1 M hp1 h K
    · have h := wq_in_ z4 h
      refine wq_aload_n hC dX2_readGrade_22 (i := 0) rfl rfl ?_
      refine wq_iconst hC (v := 3) dX2_readGrade_23 (by decide) ?_
      obtain ⟨r20, hc21, h⟩ := wq_ob h
      refine cv_2 hC (ctX2_fail (d := d - 1) (by omega)  hc21) (by omega) (by decide) oC_18 rfl rfl npX2_fail tw_339 tw_341 tw_4 tw_342 (st := []) (Nat.le_of_ble_eq_true rfl) rfl dX2_readGrade_24 (st1 := []) rfl ?_
      exact gX2_readGrade_J27 hC hd0 p1 x2 r1 r20 hp1 h K
  · have h := wq_ip z3 h
    refine wq_aload_n hC dX2_readGrade_9 (i := 0) rfl rfl ?_
    refine wq_iconst hC (v := 1) dX2_readGrade_10 (by decide) ?_
    obtain ⟨r22, hc23, h⟩ := wq_ob h
    refine cv_2 hC (ctX2_fail (d := d - 1) (by omega)  hc23) (by omega) (by decide) oC_18 rfl rfl npX2_fail tw_339 tw_341 tw_4 tw_342 (st := []) (Nat.le_of_ble_eq_true rfl) rfl dX2_readGrade_11 (st1 := []) rfl ?_
    refine wq_goto hC dX2_readGrade_14 (tgt := 27) (by decide) ?_
    exact gX2_readGrade_J27 hC hd0 p1 x2 r1 r22 hp1 h K
theorem npX2_read : yX2_read.cls ≠ "java/lang/invoke/MethodHandle" ∧ yX2_read.cls ≠ "java/lang/invoke/VarHandle" ∧ (parseMethodDescriptor yX2_read.desc).map (fun d => d.parameters.length) = some 1 := by decide +kernel
def fX2_read_L27_J54 (p1 : Nat) (x2 : Int32) (M : wq_M) : Option ((Int32 × wq_M) ⊕ wq_M) :=
  (fX2_readGrade p1 x2 M).bind fun r8 => some (.inl ((x2 + 1), r8))
set_option maxHeartbeats 4000000 in
set_option maxRecDepth 100000 in
theorem gX2_read_L27_J54 {g : wq_G} {E : wq_E} {d : Nat} (hC : wq_C g E wq_yC cX2_read 3 "WellPipes$Reader" (some .boolean) d) (hd0 : 4 ≤ d) (p1 : Nat) (x2 : Int32) (M : wq_M) (hp1 : wq_W p1) {x : ((Int32 × wq_M) ⊕ wq_M)} (h : fX2_read_L27_J54 p1 x2 M = some x) (K : (Sum.elim (fun (s : (Int32 × wq_M)) => wq_g g E wq_yC 3 27 [some (.ref (E.2.1 18)), some (.ref (E.2.1 p1)), some (.int s.1)] [] s.2) (fun (e : wq_M) => wq_g g E wq_yC 3 66 [some (.ref (E.2.1 18)), some (.ref (E.2.1 p1)), none] [] e)) x) : wq_g g E wq_yC 3 54 [some (.ref (E.2.1 18)), some (.ref (E.2.1 p1)), some (.int x2)] [] M := by
  unfold fX2_read_L27_J54 at h
  refine wq_aload_n hC dX2_read_54 (i := 0) rfl rfl ?_
  refine wq_aload_n hC dX2_read_55 (i := 1) rfl rfl ?_
  refine wq_iload_n hC dX2_read_56 (i := 2) rfl rfl ?_
  obtain ⟨r8, hc9, h⟩ := wq_ob h
  refine cv_2 hC (ctX2_readGrade (d := d - 1) (by omega) hp1 hc9) (by omega) (by decide) oC_18 rfl rfl npX2_readGrade tw_359 tw_361 tw_8 tw_362 (st := []) (Nat.le_of_ble_eq_true rfl) rfl dX2_read_57 (st1 := []) rfl ?_
  refine wq_iinc hC (v := (x2 + 1)) dX2_read_60 (lv' := [some (.ref (E.2.1 18)), some (.ref (E.2.1 p1)), some (.int (x2 + 1))]) rfl rfl (by decide) rfl ?_
  refine wq_goto hC dX2_read_63 (tgt := 27) (by decide) ?_
  have h := Option.some.inj h
  subst h
  exact K
def fX2_read_L27 (p1 : Nat) : (Int32 × wq_M) → Option ((Int32 × wq_M) ⊕ wq_M) := fun s =>
  (if 5 < s.1 then
    some (.inr s.2)
  else
    (if (s.2.1 18 5) = 0 then
      (if s.1 = 0 then
        fX2_read_L27_J54 p1 s.1 s.2
      else
        (if (s.2.1 18 1) ≤ (s.2.1 18 4) then
          some (.inr s.2)
        else
          fX2_read_L27_J54 p1 s.1 s.2))
    else
      some (.inr s.2)))
set_option maxHeartbeats 4000000 in
set_option maxRecDepth 100000 in
theorem gX2_read_L27 {g : wq_G} {E : wq_E} {d : Nat} (hC : wq_C g E wq_yC cX2_read 3 "WellPipes$Reader" (some .boolean) d) (hd0 : 4 ≤ d) (p1 : Nat) (hp1 : wq_W p1) : ∀ (n : Nat) (s : (Int32 × wq_M)) (e : wq_M), wq_lp (fX2_read_L27 p1) n s = some e → (fun (e : wq_M) => wq_g g E wq_yC 3 66 [some (.ref (E.2.1 18)), some (.ref (E.2.1 p1)), none] [] e) e → wq_g g E wq_yC 3 27 [some (.ref (E.2.1 18)), some (.ref (E.2.1 p1)), some (.int s.1)] [] s.2 := by
  refine wq_lq_ok (fun (s : (Int32 × wq_M)) => wq_g g E wq_yC 3 27 [some (.ref (E.2.1 18)), some (.ref (E.2.1 p1)), some (.int s.1)] [] s.2) (fun (e : wq_M) => wq_g g E wq_yC 3 66 [some (.ref (E.2.1 18)), some (.ref (E.2.1 p1)), none] [] e) (fun s x h K => ?_)
  unfold fX2_read_L27 at h
  refine wq_iload_n hC dX2_read_27 (i := 2) rfl rfl ?_
  refine wq_iconst hC (v := 5) dX2_read_28 (by decide) ?_
  refine wq_icmp_gt hC dX2_read_29 (tgt := 66) (by decide) (fun z5 => ?_) (fun z5 => ?_)
  · have h := wq_ip z5 h
    have h := Option.some.inj h
    subst h
    refine wq_mask [true, true, false] (lv' := [some (.ref (E.2.1 18)), some (.ref (E.2.1 p1)), none]) rfl ?_
    exact K
  · have h := wq_in_ z5 h
    refine wq_aload_n hC dX2_read_32 (i := 0) rfl rfl ?_
    refine gf_2 hC oC_18 5 (.int (s.2.1 18 5)) (by decide) rfl tw_86 dX2_read_33 ?_
    refine wq_if_ne hC dX2_read_36 (tgt := 66) (by decide) (fun z6 => ?_) (fun z6 => ?_)
    · have h := wq_in_ z6 h
      have h := Option.some.inj h
      subst h
      refine wq_mask [true, true, false] (lv' := [some (.ref (E.2.1 18)), some (.ref (E.2.1 p1)), none]) rfl ?_
      exact K
    · have h := wq_ip z6 h
      refine wq_iload_n hC dX2_read_39 (i := 2) rfl rfl ?_
      refine wq_if_eq hC dX2_read_40 (tgt := 54) (by decide) (fun z7 => ?_) (fun z7 => ?_)
      · have h := wq_ip z7 h
        exact gX2_read_L27_J54 hC hd0 p1 s.1 s.2 hp1 h K
      · have h := wq_in_ z7 h
        refine wq_aload_n hC dX2_read_43 (i := 0) rfl rfl ?_
        refine gf_2 hC oC_18 4 (.int (s.2.1 18 4)) (by decide) rfl tw_85 dX2_read_44 ?_
        refine wq_aload_n hC dX2_read_47 (i := 0) rfl rfl ?_
        refine gf_2 hC oC_18 1 (.int (s.2.1 18 1)) (by decide) rfl tw_79 dX2_read_48 ?_
        refine wq_icmp_ge hC dX2_read_51 (tgt := 66) (by decide) (fun z10 => ?_) (fun z10 => ?_)
        · have h := wq_ip z10 h
          have h := Option.some.inj h
          subst h
          refine wq_mask [true, true, false] (lv' := [some (.ref (E.2.1 18)), some (.ref (E.2.1 p1)), none]) rfl ?_
          exact K
        · have h := wq_in_ z10 h
          exact gX2_read_L27_J54 hC hd0 p1 s.1 s.2 hp1 h K
def fX2_read_J66 (p1 : Nat) (M : wq_M) : Option (Bool × wq_M) :=
  (fJ7_fill_53178 (p1 + 4) (-1) M).bind fun r13 => (if ((wq_st r13 18 1 0).1 18 5) = 0 then
    some (true, (wq_st r13 18 1 0))
  else
    some (false, (wq_st r13 18 1 0)))
set_option maxHeartbeats 4000000 in
set_option maxRecDepth 100000 in
theorem gX2_read_J66 {g : wq_G} {E : wq_E} {d : Nat} (hC : wq_C g E wq_yC cX2_read 3 "WellPipes$Reader" (some .boolean) d) (hd0 : 4 ≤ d) (p1 : Nat) (M : wq_M) (hp1 : wq_W p1) {x : (Bool × wq_M)} (h : fX2_read_J66 p1 M = some x) (K : (wq_kB g) x) : wq_g g E wq_yC 3 66 [some (.ref (E.2.1 18)), some (.ref (E.2.1 p1)), none] [] M := by
  unfold fX2_read_J66 at h
  refine wq_aload_n hC dX2_read_66 (i := 1) rfl rfl ?_
  refine gf_5 hC hp1.1 5 (.ref (E.2.1 (p1 + 4))) (by decide) rfl tw_126 dX2_read_67 ?_
  refine wq_iconst hC (v := (-1)) dX2_read_70 (by decide) ?_
  obtain ⟨r13, hc14, h⟩ := wq_ob h
  refine wq_callS hC (ctJ7_fill_53178 (d := d - 1) (by omega) (wq_aL hp1.2.2.2.2) hc14) (by omega) (by decide) rfl npJ7_fill_53178 tw_373 tw_281 tw_59 tw_282 (st := []) (Nat.le_of_ble_eq_true rfl) rfl dX2_read_71 (st1 := []) rfl ?_
  refine wq_aload_n hC dX2_read_74 (i := 0) rfl rfl ?_
  refine wq_iconst hC (v := 0) dX2_read_75 (by decide) ?_
  refine pf_2_1 hC oC_18 tw_79 dX2_read_76 ?_
  refine wq_aload_n hC dX2_read_79 (i := 0) rfl rfl ?_
  refine gf_2 hC oC_18 5 (.int ((wq_st r13 18 1 0).1 18 5)) (by decide) rfl tw_86 dX2_read_80 ?_
  refine wq_if_ne hC dX2_read_83 (tgt := 90) (by decide) (fun z15 => ?_) (fun z15 => ?_)
  · have h := wq_in_ z15 h
    refine wq_iconst hC (v := 0) dX2_read_90 (by decide) ?_
    have h := Option.some.inj h
    subst h
    exact wq_zret hC (b := false) dX2_read_91 (by decide) K.1 K.2
  · have h := wq_ip z15 h
    refine wq_iconst hC (v := 1) dX2_read_86 (by decide) ?_
    refine wq_goto hC dX2_read_87 (tgt := 91) (by decide) ?_
    have h := Option.some.inj h
    subst h
    exact wq_zret hC (b := true) dX2_read_91 (by decide) K.1 K.2
def fX2_read (p1 : Nat) (M : wq_M) : Option (Bool × wq_M) :=
  (fX2_readLaw p1 (wq_st (wq_st M 18 4 0) 18 5 0)).bind fun r1 => (fX2_readGas p1 r1).bind fun r3 => (wq_lp (fX2_read_L27 p1) wq_FU (0, (wq_st r3 p1 1 0))).bind fun e11 => fX2_read_J66 p1 e11
set_option maxHeartbeats 4000000 in
set_option maxRecDepth 100000 in
theorem ctX2_read {l : Launch} {E : wq_E} {d : Nat} (hd0 : 4 ≤ d) {p1 : Nat} {M : wq_M} {r : (Bool × wq_M)} (hp1 : wq_W p1) (h : fX2_read p1 M = some r) : wq_ct l E wq_yC yX2_read cX2_read 3 (some .boolean) d [.ref (E.2.1 18), .ref (E.2.1 p1)] M (some (.int (wq_b r.1))) r.2 := by
  refine wq_ent (own := "WellPipes$Reader") (lv0 := [some (.ref (E.2.1 18)), some (.ref (E.2.1 p1)), none]) (by decide +kernel) rfl (Nat.le_of_ble_eq_true rfl) rfl (fun g h1 h2 hC => ?_)
  have K : wq_kB g r := ⟨h1, h2⟩
  unfold fX2_read at h
  refine wq_aload_n hC dX2_read_0 (i := 0) rfl rfl ?_
  refine wq_iconst hC (v := 0) dX2_read_1 (by decide) ?_
  refine pf_2_4 hC oC_18 tw_85 dX2_read_2 ?_
  refine wq_aload_n hC dX2_read_5 (i := 0) rfl rfl ?_
  refine wq_iconst hC (v := 0) dX2_read_6 (by decide) ?_
  refine pf_2_5 hC oC_18 (Or.inl rfl) tw_86 dX2_read_7 ?_
  refine wq_aload_n hC dX2_read_10 (i := 0) rfl rfl ?_
  refine wq_aload_n hC dX2_read_11 (i := 1) rfl rfl ?_
  obtain ⟨r1, hc2, h⟩ := wq_ob h
  refine cv_2 hC (ctX2_readLaw (d := d - 1) (by omega) hp1 hc2) (by omega) (by decide) oC_18 rfl rfl npX2_readLaw tw_331 tw_333 tw_2 tw_334 (st := []) (Nat.le_of_ble_eq_true rfl) rfl dX2_read_12 (st1 := []) rfl ?_
  refine wq_aload_n hC dX2_read_15 (i := 0) rfl rfl ?_
  refine wq_aload_n hC dX2_read_16 (i := 1) rfl rfl ?_
  obtain ⟨r3, hc4, h⟩ := wq_ob h
  refine cv_2 hC (ctX2_readGas (d := d - 1) (by omega) hp1 hc4) (by omega) (by decide) oC_18 rfl rfl npX2_readGas tw_355 tw_357 tw_7 tw_358 (st := []) (Nat.le_of_ble_eq_true rfl) rfl dX2_read_17 (st1 := []) rfl ?_
  refine wq_aload_n hC dX2_read_20 (i := 1) rfl rfl ?_
  refine wq_iconst hC (v := 0) dX2_read_21 (by decide) ?_
  refine pf_5_1 hC hp1.1 tw_113 dX2_read_22 ?_
  refine wq_iconst hC (v := 0) dX2_read_25 (by decide) ?_
  refine wq_istore_n hC dX2_read_26 (i := 2) (lv' := [some (.ref (E.2.1 18)), some (.ref (E.2.1 p1)), some (.int 0)]) rfl (by decide) rfl ?_
  obtain ⟨e11, hl12, h⟩ := wq_ob h
  refine gX2_read_L27 hC hd0 p1 hp1 wq_FU _ _ hl12 ?_
  exact gX2_read_J66 hC hd0 p1 e11 hp1 h K
