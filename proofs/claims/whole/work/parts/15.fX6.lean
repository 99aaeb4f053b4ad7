theorem npX6_isRow : yX6_isRow.cls ≠ "java/lang/invoke/MethodHandle" ∧ yX6_isRow.cls ≠ "java/lang/invoke/VarHandle" ∧ (parseMethodDescriptor yX6_isRow.desc).map (fun d => d.parameters.length) = some 1 := by decide +kernel
def fX6_isRow (x0 : Int32) (M : wq_M) : Option Bool :=
  (if x0 < 0 then
    some false
  else
    (if 8 ≤ x0 then
      some false
    else
      some true))
set_option maxHeartbeats 4000000 in
set_option maxRecDepth 100000 in
theorem ctX6_isRow {l : Launch} {E : wq_E} {d : Nat} (hd0 : 0 ≤ d) {x0 : Int32} {M : wq_M} {r : Bool}  (h : fX6_isRow x0 M = some r) : wq_ct l E wq_yC yX6_isRow cX6_isRow 1 (some .boolean) d [.int x0] M (some (.int (wq_b r))) M := by
  refine wq_ent (own := "WellPipes") (lv0 := [some (.int x0)]) (by decide +kernel) rfl (Nat.le_of_ble_eq_true rfl) rfl (fun g h1 h2 hC => ?_)
  have K : wq_kb g M r := ⟨h1, h2⟩
  unfold fX6_isRow at h
  refine wq_iload_n hC dX6_isRow_0 (i := 0) rfl rfl ?_
  refine wq_if_lt hC dX6_isRow_1 (tgt := 14) (by decide) (fun z1 => ?_) (fun z1 => ?_)
  · have h := wq_ip z1 h
    refine wq_iconst hC (v := 0) dX6_isRow_14 (by decide) ?_
    have h := Option.some.inj h
    subst h
    exact wq_zret hC (b := false) dX6_isRow_15 (by decide) K.1 K.2
  · have h := wq_in_ z1 h
    refine wq_iload_n hC dX6_isRow_4 (i := 0) rfl rfl ?_
    refine wq_bipush hC (v := 8) dX6_isRow_5 (by decide) ?_
    refine wq_icmp_ge hC dX6_isRow_7 (tgt := 14) (by decide) (fun z2 => ?_) (fun z2 => ?_)
    · have h := wq_ip z2 h
      refine wq_iconst hC (v := 0) dX6_isRow_14 (by decide) ?_
      have h := Option.some.inj h
      subst h
      exact wq_zret hC (b := false) dX6_isRow_15 (by decide) K.1 K.2
    · have h := wq_in_ z2 h
      refine wq_iconst hC (v := 1) dX6_isRow_10 (by decide) ?_
      refine wq_goto hC dX6_isRow_11 (tgt := 15) (by decide) ?_
      have h := Option.some.inj h
      subst h
      exact wq_zret hC (b := true) dX6_isRow_15 (by decide) K.1 K.2
theorem npX6_found : yX6_found.cls ≠ "java/lang/invoke/MethodHandle" ∧ yX6_found.cls ≠ "java/lang/invoke/VarHandle" ∧ (parseMethodDescriptor yX6_found.desc).map (fun d => d.parameters.length) = some 1 := by decide +kernel
def fX6_found (x1 : Int32) (M : wq_M) : Option (Int32 × wq_M) :=
  some (((-1000010) - x1), (wq_st M 0 8 x1))
set_option maxHeartbeats 4000000 in
set_option maxRecDepth 100000 in
theorem ctX6_found {l : Launch} {E : wq_E} {d : Nat} (hd0 : 0 ≤ d) {x1 : Int32} {M : wq_M} {r : (Int32 × wq_M)}  (h : fX6_found x1 M = some r) : wq_ct l E wq_yC yX6_found cX6_found 2 (some .int) d [.ref (E.2.1 0), .int x1] M (some (.int r.1)) r.2 := by
  refine wq_ent (own := "WellPipes") (lv0 := [some (.ref (E.2.1 0)), some (.int x1)]) (by decide +kernel) rfl (Nat.le_of_ble_eq_true rfl) rfl (fun g h1 h2 hC => ?_)
  have K : wq_kI g r := ⟨h1, h2⟩
  unfold fX6_found at h
  refine wq_aload_n hC dX6_found_0 (i := 0) rfl rfl ?_
  refine wq_iload_n hC dX6_found_1 (i := 1) rfl rfl ?_
  refine pf_6_8 hC oC_0 tw_243 dX6_found_2 ?_
  refine wq_ldc_w hC (v := (-1000010)) tw_275 dX6_found_5 ?_
  refine wq_iload_n hC dX6_found_8 (i := 1) rfl rfl ?_
  refine wq_isub hC dX6_found_9 ?_
  have h := Option.some.inj h
  subst h
  exact wq_iret hC dX6_found_10 K.1 K.2
theorem npX6_passed : yX6_passed.cls ≠ "java/lang/invoke/MethodHandle" ∧ yX6_passed.cls ≠ "java/lang/invoke/VarHandle" ∧ (parseMethodDescriptor yX6_passed.desc).map (fun d => d.parameters.length) = some 1 := by decide +kernel
def fX6_passed (x1 : Int32) (M : wq_M) : Option (Int32 × wq_M) :=
  some (x1, (wq_st M 0 8 0))
set_option maxHeartbeats 4000000 in
set_option maxRecDepth 100000 in
theorem ctX6_passed {l : Launch} {E : wq_E} {d : Nat} (hd0 : 0 ≤ d) {x1 : Int32} {M : wq_M} {r : (Int32 × wq_M)}  (h : fX6_passed x1 M = some r) : wq_ct l E wq_yC yX6_passed cX6_passed 2 (some .int) d [.ref (E.2.1 0), .int x1] M (some (.int r.1)) r.2 := by
  refine wq_ent (own := "WellPipes") (lv0 := [some (.ref (E.2.1 0)), some (.int x1)]) (by decide +kernel) rfl (Nat.le_of_ble_eq_true rfl) rfl (fun g h1 h2 hC => ?_)
  have K : wq_kI g r := ⟨h1, h2⟩
  unfold fX6_passed at h
  refine wq_aload_n hC dX6_passed_0 (i := 0) rfl rfl ?_
  refine wq_iconst hC (v := 0) dX6_passed_1 (by decide) ?_
  refine pf_6_8 hC oC_0 tw_243 dX6_passed_2 ?_
  refine wq_iload_n hC dX6_passed_5 (i := 1) rfl rfl ?_
  have h := Option.some.inj h
  subst h
  exact wq_iret hC dX6_passed_6 K.1 K.2
theorem npX6_row : yX6_row.cls ≠ "java/lang/invoke/MethodHandle" ∧ yX6_row.cls ≠ "java/lang/invoke/VarHandle" ∧ (parseMethodDescriptor yX6_row.desc).map (fun d => d.parameters.length) = some 3 := by decide +kernel
def fX6_row (x1 : Int32) (x2 : Int32) (x3 : Int32) (M : wq_M) : Option (Int32 × wq_M) :=
  (fX6_isRow x1 M).bind fun r1 => (if r1 = true then
    (if x2 < 0 then
      some ((-1000001), M)
    else
      (if 3 ≤ x2 then
        some ((-1000001), M)
      else
        (if x3 ≤ 40 then
          (if 0 ≤ x3 then
            if wq_in x1 8 then (fX3_begin (2 + 2 * x1.toNatClampNeg) x2 x3 M).bind fun r9 => (fX6_passed x3 r9).bind fun r11 => some (r11.1, r11.2) else none
          else
            (fX6_found 4 M).bind fun r13 => some (r13.1, r13.2))
        else
          some ((-1000001), M))))
  else
    some ((-1000001), M))
set_option maxHeartbeats 4000000 in
set_option maxRecDepth 100000 in
theorem ctX6_row {l : Launch} {E : wq_E} {d : Nat} (hd0 : 2 ≤ d) {x1 : Int32} {x2 : Int32} {x3 : Int32} {M : wq_M} {r : (Int32 × wq_M)}  (h : fX6_row x1 x2 x3 M = some r) : wq_ct l E wq_yC yX6_row cX6_row 4 (some .int) d [.ref (E.2.1 0), .int x1, .int x2, .int x3] M (some (.int r.1)) r.2 := by
  refine wq_ent (own := "WellPipes") (lv0 := [some (.ref (E.2.1 0)), some (.int x1), some (.int x2), some (.int x3)]) (by decide +kernel) rfl (Nat.le_of_ble_eq_true rfl) rfl (fun g h1 h2 hC => ?_)
  have K : wq_kI g r := ⟨h1, h2⟩
  unfold fX6_row at h
  refine wq_iload_n hC dX6_row_0 (i := 1) rfl rfl ?_
  obtain ⟨r1, hc2, h⟩ := wq_ob h
  refine wq_callS hC (ctX6_isRow (d := d - 1) (by omega)  hc2) (by omega) (by decide) rfl npX6_isRow tw_267 tw_268 tw_51 tw_269 (st := []) (Nat.le_of_ble_eq_true rfl) rfl dX6_row_1 (st1 := [.int (wq_b r1)]) rfl ?_
  refine wq_bif_eq hC dX6_row_4 (tgt := 22) (by decide) (fun z3 => ?_) (fun z3 => ?_)
  · have h := wq_in_ z3 h
    refine wq_ldc hC (v := (-1000001)) tw_270 dX6_row_22 ?_
    have h := Option.some.inj h
    subst h
    exact wq_iret hC dX6_row_24 K.1 K.2
  · have h := wq_ip z3 h
    refine wq_iload_n hC dX6_row_7 (i := 2) rfl rfl ?_
    refine wq_if_lt hC dX6_row_8 (tgt := 22) (by decide) (fun z4 => ?_) (fun z4 => ?_)
    · have h := wq_ip z4 h
      refine wq_ldc hC (v := (-1000001)) tw_270 dX6_row_22 ?_
      have h := Option.some.inj h
      subst h
      exact wq_iret hC dX6_row_24 K.1 K.2
    · have h := wq_in_ z4 h
      refine wq_iload_n hC dX6_row_11 (i := 2) rfl rfl ?_
      refine wq_iconst hC (v := 3) dX6_row_12 (by decide) ?_
      refine wq_icmp_ge hC dX6_row_13 (tgt := 22) (by decide) (fun z5 => ?_) (fun z5 => ?_)
      · have h := wq_ip z5 h
        refine wq_ldc hC (v := (-1000001)) tw_270 dX6_row_22 ?_
        have h := Option.some.inj h
        subst h
        exact wq_iret hC dX6_row_24 K.1 K.2
      · have h := wq_in_ z5 h
        refine wq_iload_n hC dX6_row_16 (i := 3) rfl rfl ?_
        refine wq_bipush hC (v := 40) dX6_row_17 (by decide) ?_
        refine wq_icmp_le hC dX6_row_19 (tgt := 25) (by decide) (fun z6 => ?_) (fun z6 => ?_)
        · have h := wq_ip z6 h
          refine wq_iload_n hC dX6_row_25 (i := 3) rfl rfl ?_
          refine wq_if_ge hC dX6_row_26 (tgt := 35) (by decide) (fun z7 => ?_) (fun z7 => ?_)
          · have h := wq_ip z7 h
            refine wq_aload_n hC dX6_row_35 (i := 0) rfl rfl ?_
            refine gf_6 hC oC_0 0 (.ref (E.2.1 1)) (by decide) rfl tw_235 dX6_row_36 ?_
            refine wq_iload_n hC dX6_row_39 (i := 1) rfl rfl ?_
            obtain ⟨z8, h⟩ := wq_ii h
            refine wq_aldR hC oC_1.1 oC_1.2 rfl z8 dX6_row_40 ?_
            refine wq_iload_n hC dX6_row_41 (i := 2) rfl rfl ?_
            refine wq_iload_n hC dX6_row_42 (i := 3) rfl rfl ?_
            obtain ⟨r9, hc10, h⟩ := wq_ob h
            refine cv_3 hC (ctX3_begin (d := d - 1) (by omega) (Rw_of z8) hc10) (by omega) (by decide) (Rw_of z8).1 rfl rfl npX3_begin tw_276 tw_277 tw_278 tw_279 (st := []) (Nat.le_of_ble_eq_true rfl) rfl dX6_row_43 (st1 := []) rfl ?_
            refine wq_aload_n hC dX6_row_46 (i := 0) rfl rfl ?_
            refine wq_iload_n hC dX6_row_47 (i := 3) rfl rfl ?_
            obtain ⟨r11, hc12, h⟩ := wq_ob h
            refine cv_6 hC (ctX6_passed (d := d - 1) (by omega)  hc12) (by omega) (by decide) oC_0 rfl rfl npX6_passed tw_283 tw_285 tw_1 tw_286 (st := []) (Nat.le_of_ble_eq_true rfl) rfl dX6_row_48 (st1 := [.int r11.1]) rfl ?_
            have h := Option.some.inj h
            subst h
            exact wq_iret hC dX6_row_51 K.1 K.2
          · have h := wq_in_ z7 h
            refine wq_aload_n hC dX6_row_29 (i := 0) rfl rfl ?_
            refine wq_iconst hC (v := 4) dX6_row_30 (by decide) ?_
            obtain ⟨r13, hc14, h⟩ := wq_ob h
            refine cv_6 hC (ctX6_found (d := d - 1) (by omega)  hc14) (by omega) (by decide) oC_0 rfl rfl npX6_found tw_271 tw_273 tw_0 tw_274 (st := []) (Nat.le_of_ble_eq_true rfl) rfl dX6_row_31 (st1 := [.int r13.1]) rfl ?_
            have h := Option.some.inj h
            subst h
            exact wq_iret hC dX6_row_34 K.1 K.2
        · have h := wq_in_ z6 h
          refine wq_ldc hC (v := (-1000001)) tw_270 dX6_row_22 ?_
          have h := Option.some.inj h
          subst h
          exact wq_iret hC dX6_row_24 K.1 K.2
theorem npX6_set : yX6_set.cls ≠ "java/lang/invoke/MethodHandle" ∧ yX6_set.cls ≠ "java/lang/invoke/VarHandle" ∧ (parseMethodDescriptor yX6_set.desc).map (fun d => d.parameters.length) = some 3 := by decide +kernel
def fX6_set (x1 : Int32) (x2 : Int32) (x3 : Int32) (M : wq_M) : Option (Int32 × wq_M) :=
  (fX6_isRow x1 M).bind fun r1 => (if r1 = true then
    if wq_in x1 8 then (fX3_isMissing (2 + 2 * x1.toNatClampNeg) M).bind fun r5 => (if r5 = true then
      (fX6_found 1 M).bind fun r17 => some (r17.1, r17.2)
    else
      (fX3_hasPlaces (2 + 2 * x1.toNatClampNeg) x2 1 M).bind fun r8 => (if r8 = true then
        (fX3_put (2 + 2 * x1.toNatClampNeg) x2 x3 M).bind fun r11 => (fX6_passed r11.1 r11.2).bind fun r13 => some (r13.1, r13.2)
      else
        (fX6_found 2 M).bind fun r15 => some (r15.1, r15.2))) else none
  else
    some ((-1000001), M))
set_option maxHeartbeats 4000000 in
set_option maxRecDepth 100000 in
theorem ctX6_set {l : Launch} {E : wq_E} {d : Nat} (hd0 : 1 ≤ d) {x1 : Int32} {x2 : Int32} {x3 : Int32} {M : wq_M} {r : (Int32 × wq_M)}  (h : fX6_set x1 x2 x3 M = some r) : wq_ct l E wq_yC yX6_set cX6_set 5 (some .int) d [.ref (E.2.1 0), .int x1, .int x2, .int x3] M (some (.int r.1)) r.2 := by
  refine wq_ent (own := "WellPipes") (lv0 := [some (.ref (E.2.1 0)), some (.int x1), some (.int x2), some (.int x3), none]) (by decide +kernel) rfl (Nat.le_of_ble_eq_true rfl) rfl (fun g h1 h2 hC => ?_)
  have K : wq_kI g r := ⟨h1, h2⟩
  unfold fX6_set at h
  refine wq_iload_n hC dX6_set_0 (i := 1) rfl rfl ?_
  obtain ⟨r1, hc2, h⟩ := wq_ob h
  refine wq_callS hC (ctX6_isRow (d := d - 1) (by omega)  hc2) (by omega) (by decide) rfl npX6_isRow tw_267 tw_268 tw_51 tw_269 (st := []) (Nat.le_of_ble_eq_true rfl) rfl dX6_set_1 (st1 := [.int (wq_b r1)]) rfl ?_
  refine wq_bif_ne hC dX6_set_4 (tgt := 10) (by decide) (fun z3 => ?_) (fun z3 => ?_)
  · have h := wq_ip z3 h
    refine wq_aload_n hC dX6_set_10 (i := 0) rfl rfl ?_
    refine gf_6 hC oC_0 0 (.ref (E.2.1 1)) (by decide) rfl tw_235 dX6_set_11 ?_
    refine wq_iload_n hC dX6_set_14 (i := 1) rfl rfl ?_
    obtain ⟨z4, h⟩ := wq_ii h
    refine wq_aldR hC oC_1.1 oC_1.2 rfl z4 dX6_set_15 ?_
    refine wq_astore hC dX6_set_16 (lv' := [some (.ref (E.2.1 0)), some (.int x1), some (.int x2), some (.int x3), some (.ref (E.2.1 (2 + 2 * x1.toNatClampNeg)))]) (by decide) rfl ?_
    refine wq_aload hC dX6_set_18 rfl ?_
    obtain ⟨r5, hc6, h⟩ := wq_ob h
    refine cv_3 hC (ctX3_isMissing (d := d - 1) (by omega) (Rw_of z4) hc6) (by omega) (by decide) (Rw_of z4).1 rfl rfl npX3_isMissing tw_291 tw_292 tw_293 tw_294 (st := []) (Nat.le_of_ble_eq_true rfl) rfl dX6_set_20 (st1 := [.int (wq_b r5)]) rfl ?_
    refine wq_bif_eq hC dX6_set_23 (tgt := 32) (by decide) (fun z7 => ?_) (fun z7 => ?_)
    · have h := wq_in_ z7 h
      refine wq_aload hC dX6_set_32 rfl ?_
      refine wq_iload_n hC dX6_set_34 (i := 2) rfl rfl ?_
      refine wq_iconst hC (v := 1) dX6_set_35 (by decide) ?_
      obtain ⟨r8, hc9, h⟩ := wq_ob h
      refine cv_3 hC (ctX3_hasPlaces (d := d - 1) (by omega) (Rw_of z4) hc9) (by omega) (by decide) (Rw_of z4).1 rfl rfl npX3_hasPlaces tw_295 tw_296 tw_297 tw_298 (st := []) (Nat.le_of_ble_eq_true rfl) rfl dX6_set_36 (st1 := [.int (wq_b r8)]) rfl ?_
      refine wq_bif_ne hC dX6_set_39 (tgt := 48) (by decide) (fun z10 => ?_) (fun z10 => ?_)
      · have h := wq_ip z10 h
        refine wq_aload_n hC dX6_set_48 (i := 0) rfl rfl ?_
        refine wq_aload hC dX6_set_49 rfl ?_
        refine wq_iload_n hC dX6_set_51 (i := 2) rfl rfl ?_
        refine wq_iload_n hC dX6_set_52 (i := 3) rfl rfl ?_
        obtain ⟨r11, hc12, h⟩ := wq_ob h
        refine cv_3 hC (ctX3_put (d := d - 1) (by omega) (Rw_of z4) hc12) (by omega) (by decide) (Rw_of z4).1 rfl rfl npX3_put tw_299 tw_300 tw_301 tw_302 (st := [.ref (E.2.1 0)]) (Nat.le_of_ble_eq_true rfl) rfl dX6_set_53 (st1 := [.int r11.1, .ref (E.2.1 0)]) rfl ?_
        obtain ⟨r13, hc14, h⟩ := wq_ob h
        refine cv_6 hC (ctX6_passed (d := d - 1) (by omega)  hc14) (by omega) (by decide) oC_0 rfl rfl npX6_passed tw_283 tw_285 tw_1 tw_286 (st := []) (Nat.le_of_ble_eq_true rfl) rfl dX6_set_56 (st1 := [.int r13.1]) rfl ?_
        have h := Option.some.inj h
        subst h
        exact wq_iret hC dX6_set_59 K.1 K.2
      · have h := wq_in_ z10 h
        refine wq_aload_n hC dX6_set_42 (i := 0) rfl rfl ?_
        refine wq_iconst hC (v := 2) dX6_set_43 (by decide) ?_
        obtain ⟨r15, hc16, h⟩ := wq_ob h
        refine cv_6 hC (ctX6_found (d := d - 1) (by omega)  hc16) (by omega) (by decide) oC_0 rfl rfl npX6_found tw_271 tw_273 tw_0 tw_274 (st := []) (Nat.le_of_ble_eq_true rfl) rfl dX6_set_44 (st1 := [.int r15.1]) rfl ?_
        have h := Option.some.inj h
        subst h
        exact wq_iret hC dX6_set_47 K.1 K.2
    · have h := wq_ip z7 h
      refine wq_aload_n hC dX6_set_26 (i := 0) rfl rfl ?_
      refine wq_iconst hC (v := 1) dX6_set_27 (by decide) ?_
      obtain ⟨r17, hc18, h⟩ := wq_ob h
      refine cv_6 hC (ctX6_found (d := d - 1) (by omega)  hc18) (by omega) (by decide) oC_0 rfl rfl npX6_found tw_271 tw_273 tw_0 tw_274 (st := []) (Nat.le_of_ble_eq_true rfl) rfl dX6_set_28 (st1 := [.int r17.1]) rfl ?_
      have h := Option.some.inj h
      subst h
      exact wq_iret hC dX6_set_31 K.1 K.2
  · have h := wq_in_ z3 h
    refine wq_ldc hC (v := (-1000001)) tw_270 dX6_set_7 ?_
    have h := Option.some.inj h
    subst h
    exact wq_iret hC dX6_set_9 K.1 K.2
theorem npX6_copy : yX6_copy.cls ≠ "java/lang/invoke/MethodHandle" ∧ yX6_copy.cls ≠ "java/lang/invoke/VarHandle" ∧ (parseMethodDescriptor yX6_copy.desc).map (fun d => d.parameters.length) = some 5 := by decide +kernel
def fX6_copy (x1 : Int32) (x2 : Int32) (x3 : Int32) (x4 : Int32) (x5 : Int32) (M : wq_M) : Option (Int32 × wq_M) :=
  (fX6_isRow x1 M).bind fun r1 => (if r1 = true then
    (fX6_isRow x3 M).bind fun r4 => (if r4 = true then
      if wq_in x1 8 then if wq_in x3 8 then (fX3_isMissing (2 + 2 * x1.toNatClampNeg) M).bind fun r9 => (if r9 = true then
        (fX6_found 1 M).bind fun r12 => some (r12.1, r12.2)
      else
        (fX3_isMissing (2 + 2 * x3.toNatClampNeg) M).bind fun r14 => (if r14 = true then
          (fX6_found 1 M).bind fun r33 => some (r33.1, r33.2)
        else
          (if (M.1 (2 + 2 * x1.toNatClampNeg) 1) = (M.1 (2 + 2 * x3.toNatClampNeg) 1) then
            (fX3_hasPlaces (2 + 2 * x1.toNatClampNeg) x2 x5 M).bind fun r18 => (if r18 = true then
              (fX3_hasPlaces (2 + 2 * x3.toNatClampNeg) x4 x5 M).bind fun r23 => (if r23 = true then
                if wq_cpk x2 x4 x5 40 40 then (fX6_passed x5 (wq_cp M ((2 + 2 * x1.toNatClampNeg) + 1) x2.toNatClampNeg ((2 + 2 * x3.toNatClampNeg) + 1) x4.toNatClampNeg x5.toNatClampNeg)).bind fun r27 => some (r27.1, r27.2) else none
              else
                (fX6_found 2 M).bind fun r29 => some (r29.1, r29.2))
            else
              (fX6_found 2 M).bind fun r21 => some (r21.1, r21.2))
          else
            (fX6_found 5 M).bind fun r31 => some (r31.1, r31.2)))) else none else none
    else
      some ((-1000001), M))
  else
    some ((-1000001), M))
set_option maxHeartbeats 4000000 in
set_option maxRecDepth 100000 in
theorem ctX6_copy {l : Launch} {E : wq_E} {d : Nat} (hd0 : 1 ≤ d) {x1 : Int32} {x2 : Int32} {x3 : Int32} {x4 : Int32} {x5 : Int32} {M : wq_M} {r : (Int32 × wq_M)}  (h : fX6_copy x1 x2 x3 x4 x5 M = some r) : wq_ct l E wq_yC yX6_copy cX6_copy 8 (some .int) d [.ref (E.2.1 0), .int x1, .int x2, .int x3, .int x4, .int x5] M (some (.int r.1)) r.2 := by
  refine wq_ent (own := "WellPipes") (lv0 := [some (.ref (E.2.1 0)), some (.int x1), some (.int x2), some (.int x3), some (.int x4), some (.int x5), none, none]) (by decide +kernel) rfl (Nat.le_of_ble_eq_true rfl) rfl (fun g h1 h2 hC => ?_)
  have K : wq_kI g r := ⟨h1, h2⟩
  unfold fX6_copy at h
  refine wq_iload_n hC dX6_copy_0 (i := 1) rfl rfl ?_
  obtain ⟨r1, hc2, h⟩ := wq_ob h
  refine wq_callS hC (ctX6_isRow (d := d - 1) (by omega)  hc2) (by omega) (by decide) rfl npX6_isRow tw_267 tw_268 tw_51 tw_269 (st := []) (Nat.le_of_ble_eq_true rfl) rfl dX6_copy_1 (st1 := [.int (wq_b r1)]) rfl ?_
  refine wq_bif_eq hC dX6_copy_4 (tgt := 14) (by decide) (fun z3 => ?_) (fun z3 => ?_)
  · have h := wq_in_ z3 h
    refine wq_ldc hC (v := (-1000001)) tw_270 dX6_copy_14 ?_
    have h := Option.some.inj h
    subst h
    exact wq_iret hC dX6_copy_16 K.1 K.2
  · have h := wq_ip z3 h
    refine wq_iload_n hC dX6_copy_7 (i := 3) rfl rfl ?_
    obtain ⟨r4, hc5, h⟩ := wq_ob h
    refine wq_callS hC (ctX6_isRow (d := d - 1) (by omega)  hc5) (by omega) (by decide) rfl npX6_isRow tw_267 tw_268 tw_51 tw_269 (st := []) (Nat.le_of_ble_eq_true rfl) rfl dX6_copy_8 (st1 := [.int (wq_b r4)]) rfl ?_
    refine wq_bif_ne hC dX6_copy_11 (tgt := 17) (by decide) (fun z6 => ?_) (fun z6 => ?_)
    · have h := wq_ip z6 h
      refine wq_aload_n hC dX6_copy_17 (i := 0) rfl rfl ?_
      refine gf_6 hC oC_0 0 (.ref (E.2.1 1)) (by decide) rfl tw_235 dX6_copy_18 ?_
      refine wq_iload_n hC dX6_copy_21 (i := 1) rfl rfl ?_
      obtain ⟨z7, h⟩ := wq_ii h
      refine wq_aldR hC oC_1.1 oC_1.2 rfl z7 dX6_copy_22 ?_
      refine wq_astore hC dX6_copy_23 (lv' := [some (.ref (E.2.1 0)), some (.int x1), some (.int x2), some (.int x3), some (.int x4), some (.int x5), some (.ref (E.2.1 (2 + 2 * x1.toNatClampNeg))), none]) (by decide) rfl ?_
      refine wq_aload_n hC dX6_copy_25 (i := 0) rfl rfl ?_
      refine gf_6 hC oC_0 0 (.ref (E.2.1 1)) (by decide) rfl tw_235 dX6_copy_26 ?_
      refine wq_iload_n hC dX6_copy_29 (i := 3) rfl rfl ?_
      obtain ⟨z8, h⟩ := wq_ii h
      refine wq_aldR hC oC_1.1 oC_1.2 rfl z8 dX6_copy_30 ?_
      refine wq_astore hC dX6_copy_31 (lv' := [some (.ref (E.2.1 0)), some (.int x1), some (.int x2), some (.int x3), some (.int x4), some (.int x5), some (.ref (E.2.1 (2 + 2 * x1.toNatClampNeg))), some (.ref (E.2.1 (2 + 2 * x3.toNatClampNeg)))]) (by decide) rfl ?_
      refine wq_aload hC dX6_copy_33 rfl ?_
      obtain ⟨r9, hc10, h⟩ := wq_ob h
      refine cv_3 hC (ctX3_isMissing (d := d - 1) (by omega) (Rw_of z7) hc10) (by omega) (by decide) (Rw_of z7).1 rfl rfl npX3_isMissing tw_291 tw_292 tw_293 tw_294 (st := []) (Nat.le_of_ble_eq_true rfl) rfl dX6_copy_35 (st1 := [.int (wq_b r9)]) rfl ?_
      refine wq_bif_ne hC dX6_copy_38 (tgt := 49) (by decide) (fun z11 => ?_) (fun z11 => ?_)
      · have h := wq_ip z11 h
        refine wq_aload_n hC dX6_copy_49 (i := 0) rfl rfl ?_
        refine wq_iconst hC (v := 1) dX6_copy_50 (by decide) ?_
        obtain ⟨r12, hc13, h⟩ := wq_ob h
        refine cv_6 hC (ctX6_found (d := d - 1) (by omega)  hc13) (by omega) (by decide) oC_0 rfl rfl npX6_found tw_271 tw_273 tw_0 tw_274 (st := []) (Nat.le_of_ble_eq_true rfl) rfl dX6_copy_51 (st1 := [.int r12.1]) rfl ?_
        have h := Option.some.inj h
        subst h
        exact wq_iret hC dX6_copy_54 K.1 K.2
      · have h := wq_in_ z11 h
        refine wq_aload hC dX6_copy_41 rfl ?_
        obtain ⟨r14, hc15, h⟩ := wq_ob h
        refine cv_3 hC (ctX3_isMissing (d := d - 1) (by omega) (Rw_of z8) hc15) (by omega) (by decide) (Rw_of z8).1 rfl rfl npX3_isMissing tw_291 tw_292 tw_293 tw_294 (st := []) (Nat.le_of_ble_eq_true rfl) rfl dX6_copy_43 (st1 := [.int (wq_b r14)]) rfl ?_
        refine wq_bif_eq hC dX6_copy_46 (tgt := 55) (by decide) (fun z16 => ?_) (fun z16 => ?_)
        · have h := wq_in_ z16 h
          refine wq_aload hC dX6_copy_55 rfl ?_
          refine gf_3 hC (Rw_of z7).1 1 (.int (M.1 (2 + 2 * x1.toNatClampNeg) 1)) (by decide) rfl tw_225 dX6_copy_57 ?_
          refine wq_aload hC dX6_copy_60 rfl ?_
          refine gf_3 hC (Rw_of z8).1 1 (.int (M.1 (2 + 2 * x3.toNatClampNeg) 1)) (by decide) rfl tw_225 dX6_copy_62 ?_
          refine wq_icmp_eq hC dX6_copy_65 (tgt := 74) (by decide) (fun z17 => ?_) (fun z17 => ?_)
          · have h := wq_ip z17 h
            refine wq_aload hC dX6_copy_74 rfl ?_
            refine wq_iload_n hC dX6_copy_76 (i := 2) rfl rfl ?_
            refine wq_iload hC dX6_copy_77 rfl ?_
            obtain ⟨r18, hc19, h⟩ := wq_ob h
            refine cv_3 hC (ctX3_hasPlaces (d := d - 1) (by omega) (Rw_of z7) hc19) (by omega) (by decide) (Rw_of z7).1 rfl rfl npX3_hasPlaces tw_295 tw_296 tw_297 tw_298 (st := []) (Nat.le_of_ble_eq_true rfl) rfl dX6_copy_79 (st1 := [.int (wq_b r18)]) rfl ?_
            refine wq_bif_eq hC dX6_copy_82 (tgt := 97) (by decide) (fun z20 => ?_) (fun z20 => ?_)
            · have h := wq_in_ z20 h
              refine wq_aload_n hC dX6_copy_97 (i := 0) rfl rfl ?_
              refine wq_iconst hC (v := 2) dX6_copy_98 (by decide) ?_
              obtain ⟨r21, hc22, h⟩ := wq_ob h
              refine cv_6 hC (ctX6_found (d := d - 1) (by omega)  hc22) (by omega) (by decide) oC_0 rfl rfl npX6_found tw_271 tw_273 tw_0 tw_274 (st := []) (Nat.le_of_ble_eq_true rfl) rfl dX6_copy_99 (st1 := [.int r21.1]) rfl ?_
              have h := Option.some.inj h
              subst h
              exact wq_iret hC dX6_copy_102 K.1 K.2
            · have h := wq_ip z20 h
              refine wq_aload hC dX6_copy_85 rfl ?_
              refine wq_iload hC dX6_copy_87 rfl ?_
              refine wq_iload hC dX6_copy_89 rfl ?_
              obtain ⟨r23, hc24, h⟩ := wq_ob h
              refine cv_3 hC (ctX3_hasPlaces (d := d - 1) (by omega) (Rw_of z8) hc24) (by omega) (by decide) (Rw_of z8).1 rfl rfl npX3_hasPlaces tw_295 tw_296 tw_297 tw_298 (st := []) (Nat.le_of_ble_eq_true rfl) rfl dX6_copy_91 (st1 := [.int (wq_b r23)]) rfl ?_
              refine wq_bif_ne hC dX6_copy_94 (tgt := 103) (by decide) (fun z25 => ?_) (fun z25 => ?_)
              · have h := wq_ip z25 h
                refine wq_aload hC dX6_copy_103 rfl ?_
                refine gf_3 hC (Rw_of z7).1 0 (.ref (E.2.1 ((2 + 2 * x1.toNatClampNeg) + 1))) (by decide) rfl tw_223 dX6_copy_105 ?_
                refine wq_iload_n hC dX6_copy_108 (i := 2) rfl rfl ?_
                refine wq_aload hC dX6_copy_109 rfl ?_
                refine gf_3 hC (Rw_of z8).1 0 (.ref (E.2.1 ((2 + 2 * x3.toNatClampNeg) + 1))) (by decide) rfl tw_223 dX6_copy_111 ?_
                refine wq_iload hC dX6_copy_114 rfl ?_
                refine wq_iload hC dX6_copy_116 rfl ?_
                obtain ⟨z26, h⟩ := wq_ii h
                refine wq_acp hC (st := []) tw_307 ((Rw_of z7).2) ((Rw_of z8).2) z26 (Nat.le_of_ble_eq_true rfl) dX6_copy_118 ?_
                refine wq_aload_n hC dX6_copy_121 (i := 0) rfl rfl ?_
                refine wq_iload hC dX6_copy_122 rfl ?_
                obtain ⟨r27, hc28, h⟩ := wq_ob h
                refine cv_6 hC (ctX6_passed (d := d - 1) (by omega)  hc28) (by omega) (by decide) oC_0 rfl rfl npX6_passed tw_283 tw_285 tw_1 tw_286 (st := []) (Nat.le_of_ble_eq_true rfl) rfl dX6_copy_124 (st1 := [.int r27.1]) rfl ?_
                have h := Option.some.inj h
                subst h
                exact wq_iret hC dX6_copy_127 K.1 K.2
              · have h := wq_in_ z25 h
                refine wq_aload_n hC dX6_copy_97 (i := 0) rfl rfl ?_
                refine wq_iconst hC (v := 2) dX6_copy_98 (by decide) ?_
                obtain ⟨r29, hc30, h⟩ := wq_ob h
                refine cv_6 hC (ctX6_found (d := d - 1) (by omega)  hc30) (by omega) (by decide) oC_0 rfl rfl npX6_found tw_271 tw_273 tw_0 tw_274 (st := []) (Nat.le_of_ble_eq_true rfl) rfl dX6_copy_99 (st1 := [.int r29.1]) rfl ?_
                have h := Option.some.inj h
                subst h
                exact wq_iret hC dX6_copy_102 K.1 K.2
          · have h := wq_in_ z17 h
            refine wq_aload_n hC dX6_copy_68 (i := 0) rfl rfl ?_
            refine wq_iconst hC (v := 5) dX6_copy_69 (by decide) ?_
            obtain ⟨r31, hc32, h⟩ := wq_ob h
            refine cv_6 hC (ctX6_found (d := d - 1) (by omega)  hc32) (by omega) (by decide) oC_0 rfl rfl npX6_found tw_271 tw_273 tw_0 tw_274 (st := []) (Nat.le_of_ble_eq_true rfl) rfl dX6_copy_70 (st1 := [.int r31.1]) rfl ?_
            have h := Option.some.inj h
            subst h
            exact wq_iret hC dX6_copy_73 K.1 K.2
        · have h := wq_ip z16 h
          refine wq_aload_n hC dX6_copy_49 (i := 0) rfl rfl ?_
          refine wq_iconst hC (v := 1) dX6_copy_50 (by decide) ?_
          obtain ⟨r33, hc34, h⟩ := wq_ob h
          refine cv_6 hC (ctX6_found (d := d - 1) (by omega)  hc34) (by omega) (by decide) oC_0 rfl rfl npX6_found tw_271 tw_273 tw_0 tw_274 (st := []) (Nat.le_of_ble_eq_true rfl) rfl dX6_copy_51 (st1 := [.int r33.1]) rfl ?_
          have h := Option.some.inj h
          subst h
          exact wq_iret hC dX6_copy_54 K.1 K.2
    · have h := wq_in_ z6 h
      refine wq_ldc hC (v := (-1000001)) tw_270 dX6_copy_14 ?_
      have h := Option.some.inj h
      subst h
      exact wq_iret hC dX6_copy_16 K.1 K.2
theorem npX6_drop : yX6_drop.cls ≠ "java/lang/invoke/MethodHandle" ∧ yX6_drop.cls ≠ "java/lang/invoke/VarHandle" ∧ (parseMethodDescriptor yX6_drop.desc).map (fun d => d.parameters.length) = some 1 := by decide +kernel
def fX6_drop (x1 : Int32) (M : wq_M) : Option (Int32 × wq_M) :=
  (fX6_isRow x1 M).bind fun r1 => (if r1 = true then
    if wq_in x1 8 then (fX3_isMissing (2 + 2 * x1.toNatClampNeg) M).bind fun r5 => (if r5 = true then
      (fX6_found 1 M).bind fun r10 => some (r10.1, r10.2)
    else
      (fX6_passed (M.1 (2 + 2 * x1.toNatClampNeg) 2) (wq_st M (2 + 2 * x1.toNatClampNeg) 2 (-1))).bind fun r8 => some (r8.1, r8.2)) else none
  else
    some ((-1000001), M))
set_option maxHeartbeats 4000000 in
set_option maxRecDepth 100000 in
theorem ctX6_drop {l : Launch} {E : wq_E} {d : Nat} (hd0 : 1 ≤ d) {x1 : Int32} {M : wq_M} {r : (Int32 × wq_M)}  (h : fX6_drop x1 M = some r) : wq_ct l E wq_yC yX6_drop cX6_drop 4 (some .int) d [.ref (E.2.1 0), .int x1] M (some (.int r.1)) r.2 := by
  refine wq_ent (own := "WellPipes") (lv0 := [some (.ref (E.2.1 0)), some (.int x1), none, none]) (by decide +kernel) rfl (Nat.le_of_ble_eq_true rfl) rfl (fun g h1 h2 hC => ?_)
  have K : wq_kI g r := ⟨h1, h2⟩
  unfold fX6_drop at h
  refine wq_iload_n hC dX6_drop_0 (i := 1) rfl rfl ?_
  obtain ⟨r1, hc2, h⟩ := wq_ob h
  refine wq_callS hC (ctX6_isRow (d := d - 1) (by omega)  hc2) (by omega) (by decide) rfl npX6_isRow tw_267 tw_268 tw_51 tw_269 (st := []) (Nat.le_of_ble_eq_true rfl) rfl dX6_drop_1 (st1 := [.int (wq_b r1)]) rfl ?_
  refine wq_bif_ne hC dX6_drop_4 (tgt := 10) (by decide) (fun z3 => ?_) (fun z3 => ?_)
  · have h := wq_ip z3 h
    refine wq_aload_n hC dX6_drop_10 (i := 0) rfl rfl ?_
    refine gf_6 hC oC_0 0 (.ref (E.2.1 1)) (by decide) rfl tw_235 dX6_drop_11 ?_
    refine wq_iload_n hC dX6_drop_14 (i := 1) rfl rfl ?_
    obtain ⟨z4, h⟩ := wq_ii h
    refine wq_aldR hC oC_1.1 oC_1.2 rfl z4 dX6_drop_15 ?_
    refine wq_astore_n hC dX6_drop_16 (i := 2) (lv' := [some (.ref (E.2.1 0)), some (.int x1), some (.ref (E.2.1 (2 + 2 * x1.toNatClampNeg))), none]) rfl (by decide) rfl ?_
    refine wq_aload_n hC dX6_drop_17 (i := 2) rfl rfl ?_
    obtain ⟨r5, hc6, h⟩ := wq_ob h
    refine cv_3 hC (ctX3_isMissing (d := d - 1) (by omega) (Rw_of z4) hc6) (by omega) (by decide) (Rw_of z4).1 rfl rfl npX3_isMissing tw_291 tw_292 tw_293 tw_294 (st := []) (Nat.le_of_ble_eq_true rfl) rfl dX6_drop_18 (st1 := [.int (wq_b r5)]) rfl ?_
    refine wq_bif_eq hC dX6_drop_21 (tgt := 30) (by decide) (fun z7 => ?_) (fun z7 => ?_)
    · have h := wq_in_ z7 h
      refine wq_aload_n hC dX6_drop_30 (i := 2) rfl rfl ?_
      refine gf_3 hC (Rw_of z4).1 2 (.int (M.1 (2 + 2 * x1.toNatClampNeg) 2)) (by decide) rfl tw_227 dX6_drop_31 ?_
      refine wq_istore_n hC dX6_drop_34 (i := 3) (lv' := [some (.ref (E.2.1 0)), some (.int x1), some (.ref (E.2.1 (2 + 2 * x1.toNatClampNeg))), some (.int (M.1 (2 + 2 * x1.toNatClampNeg) 2))]) rfl (by decide) rfl ?_
      refine wq_aload_n hC dX6_drop_35 (i := 2) rfl rfl ?_
      refine wq_iconst hC (v := (-1)) dX6_drop_36 (by decide) ?_
      refine pf_3_2 hC (Rw_of z4).1 tw_227 dX6_drop_37 ?_
      refine wq_aload_n hC dX6_drop_40 (i := 0) rfl rfl ?_
      refine wq_iload_n hC dX6_drop_41 (i := 3) rfl rfl ?_
      obtain ⟨r8, hc9, h⟩ := wq_ob h
      refine cv_6 hC (ctX6_passed (d := d - 1) (by omega)  hc9) (by omega) (by decide) oC_0 rfl rfl npX6_passed tw_283 tw_285 tw_1 tw_286 (st := []) (Nat.le_of_ble_eq_true rfl) rfl dX6_drop_42 (st1 := [.int r8.1]) rfl ?_
      have h := Option.some.inj h
      subst h
      exact wq_iret hC dX6_drop_45 K.1 K.2
    · have h := wq_ip z7 h
      refine wq_aload_n hC dX6_drop_24 (i := 0) rfl rfl ?_
      refine wq_iconst hC (v := 1) dX6_drop_25 (by decide) ?_
      obtain ⟨r10, hc11, h⟩ := wq_ob h
      refine cv_6 hC (ctX6_found (d := d - 1) (by omega)  hc11) (by omega) (by decide) oC_0 rfl rfl npX6_found tw_271 tw_273 tw_0 tw_274 (st := []) (Nat.le_of_ble_eq_true rfl) rfl dX6_drop_26 (st1 := [.int r10.1]) rfl ?_
      have h := Option.some.inj h
      subst h
      exact wq_iret hC dX6_drop_29 K.1 K.2
  · have h := wq_in_ z3 h
    refine wq_ldc hC (v := (-1000001)) tw_270 dX6_drop_7 ?_
    have h := Option.some.inj h
    subst h
    exact wq_iret hC dX6_drop_9 K.1 K.2
theorem npX6_feed : yX6_feed.cls ≠ "java/lang/invoke/MethodHandle" ∧ yX6_feed.cls ≠ "java/lang/invoke/VarHandle" ∧ (parseMethodDescriptor yX6_feed.desc).map (fun d => d.parameters.length) = some 1 := by decide +kernel
def fX6_feed (x1 : Int32) (M : wq_M) : Option (Int32 × wq_M) :=
  (if x1 < 0 then
    some ((-1000001), M)
  else
    (if x1 ≤ 255 then
      (fX2_take x1 M).bind fun r3 => (if r3.1 = true then
        some ((r3.2.1 18 1), r3.2)
      else
        some ((-1000003), r3.2))
    else
      some ((-1000001), M)))
set_option maxHeartbeats 4000000 in
set_option maxRecDepth 100000 in
theorem ctX6_feed {l : Launch} {E : wq_E} {d : Nat} (hd0 : 1 ≤ d) {x1 : Int32} {M : wq_M} {r : (Int32 × wq_M)}  (h : fX6_feed x1 M = some r) : wq_ct l E wq_yC yX6_feed cX6_feed 2 (some .int) d [.ref (E.2.1 0), .int x1] M (some (.int r.1)) r.2 := by
  refine wq_ent (own := "WellPipes") (lv0 := [some (.ref (E.2.1 0)), some (.int x1)]) (by decide +kernel) rfl (Nat.le_of_ble_eq_true rfl) rfl (fun g h1 h2 hC => ?_)
  have K : wq_kI g r := ⟨h1, h2⟩
  unfold fX6_feed at h
  refine wq_iload_n hC dX6_feed_0 (i := 1) rfl rfl ?_
  refine wq_if_lt hC dX6_feed_1 (tgt := 11) (by decide) (fun z1 => ?_) (fun z1 => ?_)
  · have h := wq_ip z1 h
    refine wq_ldc hC (v := (-1000001)) tw_270 dX6_feed_11 ?_
    have h := Option.some.inj h
    subst h
    exact wq_iret hC dX6_feed_13 K.1 K.2
  · have h := wq_in_ z1 h
    refine wq_iload_n hC dX6_feed_4 (i := 1) rfl rfl ?_
    refine wq_sipush hC (v := 255) dX6_feed_5 (by decide) ?_
    refine wq_icmp_le hC dX6_feed_8 (tgt := 14) (by decide) (fun z2 => ?_) (fun z2 => ?_)
    · have h := wq_ip z2 h
      refine wq_aload_n hC dX6_feed_14 (i := 0) rfl rfl ?_
      refine gf_6 hC oC_0 1 (.ref (E.2.1 18)) (by decide) rfl tw_236 dX6_feed_15 ?_
      refine wq_iload_n hC dX6_feed_18 (i := 1) rfl rfl ?_
      obtain ⟨r3, hc4, h⟩ := wq_ob h
      refine cv_2 hC (ctX2_take (d := d - 1) (by omega)  hc4) (by omega) (by decide) oC_18 rfl rfl npX2_take tw_318 tw_319 tw_320 tw_321 (st := []) (Nat.le_of_ble_eq_true rfl) rfl dX6_feed_19 (st1 := [.int (wq_b r3.1)]) rfl ?_
      refine wq_bif_eq hC dX6_feed_22 (tgt := 35) (by decide) (fun z5 => ?_) (fun z5 => ?_)
      · have h := wq_in_ z5 h
        refine wq_ldc hC (v := (-1000003)) tw_322 dX6_feed_35 ?_
        have h := Option.some.inj h
        subst h
        exact wq_iret hC dX6_feed_37 K.1 K.2
      · have h := wq_ip z5 h
        refine wq_aload_n hC dX6_feed_25 (i := 0) rfl rfl ?_
        refine gf_6 hC oC_0 1 (.ref (E.2.1 18)) (by decide) rfl tw_236 dX6_feed_26 ?_
        refine gf_2 hC oC_18 1 (.int (r3.2.1 18 1)) (by decide) rfl tw_80 dX6_feed_29 ?_
        refine wq_goto hC dX6_feed_32 (tgt := 37) (by decide) ?_
        have h := Option.some.inj h
        subst h
        exact wq_iret hC dX6_feed_37 K.1 K.2
    · have h := wq_in_ z2 h
      refine wq_ldc hC (v := (-1000001)) tw_270 dX6_feed_11 ?_
      have h := Option.some.inj h
      subst h
      exact wq_iret hC dX6_feed_13 K.1 K.2
theorem npX6_well : yX6_well.cls ≠ "java/lang/invoke/MethodHandle" ∧ yX6_well.cls ≠ "java/lang/invoke/VarHandle" ∧ (parseMethodDescriptor yX6_well.desc).map (fun d => d.parameters.length) = some 0 := by decide +kernel
def fX6_well  (M : wq_M) : Option (Int32 × wq_M) :=
  (fX2_read 25 M).bind fun r1 => (if r1.1 = true then
    (fX5_becomes 20 25 r1.2).bind fun r4 => (fX0_forgetAll  r4).bind fun r6 => some ((r6.1 20 1), r6)
  else
    some (((-1000100) - (r1.2.1 18 2)), r1.2))
set_option maxHeartbeats 4000000 in
set_option maxRecDepth 100000 in
theorem ctX6_well {l : Launch} {E : wq_E} {d : Nat} (hd0 : 5 ≤ d)  {M : wq_M} {r : (Int32 × wq_M)}  (h : fX6_well M = some r) : wq_ct l E wq_yC yX6_well cX6_well 1 (some .int) d [.ref (E.2.1 0)] M (some (.int r.1)) r.2 := by
  refine wq_ent (own := "WellPipes") (lv0 := [some (.ref (E.2.1 0))]) (by decide +kernel) rfl (Nat.le_of_ble_eq_true rfl) rfl (fun g h1 h2 hC => ?_)
  have K : wq_kI g r := ⟨h1, h2⟩
  unfold fX6_well at h
  refine wq_aload_n hC dX6_well_0 (i := 0) rfl rfl ?_
  refine gf_6 hC oC_0 1 (.ref (E.2.1 18)) (by decide) rfl tw_236 dX6_well_1 ?_
  refine wq_aload_n hC dX6_well_4 (i := 0) rfl rfl ?_
  refine gf_6 hC oC_0 3 (.ref (E.2.1 25)) (by decide) rfl tw_238 dX6_well_5 ?_
  obtain ⟨r1, hc2, h⟩ := wq_ob h
  refine cv_2 hC (ctX2_read (d := d - 1) (by omega) W_25 hc2) (by omega) (by decide) oC_18 rfl rfl npX2_read tw_327 tw_328 tw_329 tw_330 (st := []) (Nat.le_of_ble_eq_true rfl) rfl dX6_well_8 (st1 := [.int (wq_b r1.1)]) rfl ?_
  refine wq_bif_ne hC dX6_well_11 (tgt := 25) (by decide) (fun z3 => ?_) (fun z3 => ?_)
  · have h := wq_ip z3 h
    refine wq_aload_n hC dX6_well_25 (i := 0) rfl rfl ?_
    refine gf_6 hC oC_0 2 (.ref (E.2.1 20)) (by decide) rfl tw_237 dX6_well_26 ?_
    refine wq_aload_n hC dX6_well_29 (i := 0) rfl rfl ?_
    refine gf_6 hC oC_0 3 (.ref (E.2.1 25)) (by decide) rfl tw_238 dX6_well_30 ?_
    obtain ⟨r4, hc5, h⟩ := wq_ob h
    refine cv_5 hC (ctX5_becomes (d := d - 1) (by omega) W_20 W_25 hc5) (by omega) (by decide) W_20.1 rfl rfl npX5_becomes tw_375 tw_376 tw_377 tw_378 (st := []) (Nat.le_of_ble_eq_true rfl) rfl dX6_well_33 (st1 := []) rfl ?_
    refine wq_aload_n hC dX6_well_36 (i := 0) rfl rfl ?_
    refine gf_6 hC oC_0 6 (.ref (E.2.1 47)) (by decide) rfl tw_241 dX6_well_37 ?_
    obtain ⟨r6, hc7, h⟩ := wq_ob h
    refine cv_0 hC (ctX0_forgetAll (d := d - 1) (by omega)  hc7) (by omega) (by decide) oC_47 rfl rfl npX0_forgetAll tw_380 tw_381 tw_382 tw_383 (st := []) (Nat.le_of_ble_eq_true rfl) rfl dX6_well_40 (st1 := []) rfl ?_
    refine wq_aload_n hC dX6_well_43 (i := 0) rfl rfl ?_
    refine gf_6 hC oC_0 2 (.ref (E.2.1 20)) (by decide) rfl tw_237 dX6_well_44 ?_
    refine gf_5 hC W_20.1 1 (.int (r6.1 20 1)) (by decide) rfl tw_114 dX6_well_47 ?_
    have h := Option.some.inj h
    subst h
    exact wq_iret hC dX6_well_50 K.1 K.2
  · have h := wq_in_ z3 h
    refine wq_ldc hC (v := (-1000100)) tw_374 dX6_well_14 ?_
    refine wq_aload_n hC dX6_well_16 (i := 0) rfl rfl ?_
    refine gf_6 hC oC_0 1 (.ref (E.2.1 18)) (by decide) rfl tw_236 dX6_well_17 ?_
    refine gf_2 hC oC_18 2 (.int (r1.2.1 18 2)) (by decide) rfl tw_81 dX6_well_20 ?_
    refine wq_isub hC dX6_well_23 ?_
    have h := Option.some.inj h
    subst h
    exact wq_iret hC dX6_well_24 K.1 K.2
theorem npX6_fault : yX6_fault.cls ≠ "java/lang/invoke/MethodHandle" ∧ yX6_fault.cls ≠ "java/lang/invoke/VarHandle" ∧ (parseMethodDescriptor yX6_fault.desc).map (fun d => d.parameters.length) = some 0 := by decide +kernel
def fX6_fault  (M : wq_M) : Option Int32 :=
  some (M.1 18 3)
set_option maxHeartbeats 4000000 in
set_option maxRecDepth 100000 in
theorem ctX6_fault {l : Launch} {E : wq_E} {d : Nat} (hd0 : 0 ≤ d)  {M : wq_M} {r : Int32}  (h : fX6_fault M = some r) : wq_ct l E wq_yC yX6_fault cX6_fault 1 (some .int) d [.ref (E.2.1 0)] M (some (.int r)) M := by
  refine wq_ent (own := "WellPipes") (lv0 := [some (.ref (E.2.1 0))]) (by decide +kernel) rfl (Nat.le_of_ble_eq_true rfl) rfl (fun g h1 h2 hC => ?_)
  have K : wq_ki g M r := ⟨h1, h2⟩
  unfold fX6_fault at h
  refine wq_aload_n hC dX6_fault_0 (i := 0) rfl rfl ?_
  refine gf_6 hC oC_0 1 (.ref (E.2.1 18)) (by decide) rfl tw_236 dX6_fault_1 ?_
  refine gf_2 hC oC_18 3 (.int (M.1 18 3)) (by decide) rfl tw_83 dX6_fault_4 ?_
  have h := Option.some.inj h
  subst h
  exact wq_iret hC dX6_fault_7 K.1 K.2
theorem npX6_undo : yX6_undo.cls ≠ "java/lang/invoke/MethodHandle" ∧ yX6_undo.cls ≠ "java/lang/invoke/VarHandle" ∧ (parseMethodDescriptor yX6_undo.desc).map (fun d => d.parameters.length) = some 0 := by decide +kernel
def fX6_undo  (M : wq_M) : Option (Int32 × wq_M) :=
  (if (M.1 47 2) = 0 then
    some ((-1000002), M)
  else
    (fX0_takeBack 20 M).bind fun r2 => some ((r2.1 47 2), r2))
set_option maxHeartbeats 4000000 in
set_option maxRecDepth 100000 in
theorem ctX6_undo {l : Launch} {E : wq_E} {d : Nat} (hd0 : 2 ≤ d)  {M : wq_M} {r : (Int32 × wq_M)}  (h : fX6_undo M = some r) : wq_ct l E wq_yC yX6_undo cX6_undo 1 (some .int) d [.ref (E.2.1 0)] M (some (.int r.1)) r.2 := by
  refine wq_ent (own := "WellPipes") (lv0 := [some (.ref (E.2.1 0))]) (by decide +kernel) rfl (Nat.le_of_ble_eq_true rfl) rfl (fun g h1 h2 hC => ?_)
  have K : wq_kI g r := ⟨h1, h2⟩
  unfold fX6_undo at h
  refine wq_aload_n hC dX6_undo_0 (i := 0) rfl rfl ?_
  refine gf_6 hC oC_0 6 (.ref (E.2.1 47)) (by decide) rfl tw_241 dX6_undo_1 ?_
  refine gf_0 hC oC_47 2 (.int (M.1 47 2)) (by decide) rfl tw_188 dX6_undo_4 ?_
  refine wq_if_ne hC dX6_undo_7 (tgt := 13) (by decide) (fun z1 => ?_) (fun z1 => ?_)
  · have h := wq_in_ z1 h
    refine wq_aload_n hC dX6_undo_13 (i := 0) rfl rfl ?_
    refine gf_6 hC oC_0 6 (.ref (E.2.1 47)) (by decide) rfl tw_241 dX6_undo_14 ?_
    refine wq_aload_n hC dX6_undo_17 (i := 0) rfl rfl ?_
    refine gf_6 hC oC_0 2 (.ref (E.2.1 20)) (by decide) rfl tw_237 dX6_undo_18 ?_
    obtain ⟨r2, hc3, h⟩ := wq_ob h
    refine cv_0 hC (ctX0_takeBack (d := d - 1) (by omega) W_20 hc3) (by omega) (by decide) oC_47 rfl rfl npX0_takeBack tw_393 tw_394 tw_395 tw_396 (st := []) (Nat.le_of_ble_eq_true rfl) rfl dX6_undo_21 (st1 := []) rfl ?_
    refine wq_aload_n hC dX6_undo_24 (i := 0) rfl rfl ?_
    refine gf_6 hC oC_0 6 (.ref (E.2.1 47)) (by decide) rfl tw_241 dX6_undo_25 ?_
    refine gf_0 hC oC_47 2 (.int (r2.1 47 2)) (by decide) rfl tw_188 dX6_undo_28 ?_
    have h := Option.some.inj h
    subst h
    exact wq_iret hC dX6_undo_31 K.1 K.2
  · have h := wq_ip z1 h
    refine wq_ldc hC (v := (-1000002)) tw_392 dX6_undo_10 ?_
    have h := Option.some.inj h
    subst h
    exact wq_iret hC dX6_undo_12 K.1 K.2
theorem npX6_isStep : yX6_isStep.cls ≠ "java/lang/invoke/MethodHandle" ∧ yX6_isStep.cls ≠ "java/lang/invoke/VarHandle" ∧ (parseMethodDescriptor yX6_isStep.desc).map (fun d => d.parameters.length) = some 1 := by decide +kernel
def fX6_isStep (x1 : Int32) (M : wq_M) : Option Bool :=
  (if x1 < 0 then
    some false
  else
    (if (M.1 20 0) ≤ x1 then
      some false
    else
      some true))
set_option maxHeartbeats 4000000 in
set_option maxRecDepth 100000 in
theorem ctX6_isStep {l : Launch} {E : wq_E} {d : Nat} (hd0 : 0 ≤ d) {x1 : Int32} {M : wq_M} {r : Bool}  (h : fX6_isStep x1 M = some r) : wq_ct l E wq_yC yX6_isStep cX6_isStep 2 (some .boolean) d [.ref (E.2.1 0), .int x1] M (some (.int (wq_b r))) M := by
  refine wq_ent (own := "WellPipes") (lv0 := [some (.ref (E.2.1 0)), some (.int x1)]) (by decide +kernel) rfl (Nat.le_of_ble_eq_true rfl) rfl (fun g h1 h2 hC => ?_)
  have K : wq_kb g M r := ⟨h1, h2⟩
  unfold fX6_isStep at h
  refine wq_iload_n hC dX6_isStep_0 (i := 1) rfl rfl ?_
  refine wq_if_lt hC dX6_isStep_1 (tgt := 19) (by decide) (fun z1 => ?_) (fun z1 => ?_)
  · have h := wq_ip z1 h
    refine wq_iconst hC (v := 0) dX6_isStep_19 (by decide) ?_
    have h := Option.some.inj h
    subst h
    exact wq_zret hC (b := false) dX6_isStep_20 (by decide) K.1 K.2
  · have h := wq_in_ z1 h
    refine wq_iload_n hC dX6_isStep_4 (i := 1) rfl rfl ?_
    refine wq_aload_n hC dX6_isStep_5 (i := 0) rfl rfl ?_
    refine gf_6 hC oC_0 2 (.ref (E.2.1 20)) (by decide) rfl tw_237 dX6_isStep_6 ?_
    refine gf_5 hC W_20.1 0 (.int (M.1 20 0)) (by decide) rfl tw_110 dX6_isStep_9 ?_
    refine wq_icmp_ge hC dX6_isStep_12 (tgt := 19) (by decide) (fun z2 => ?_) (fun z2 => ?_)
    · have h := wq_ip z2 h
      refine wq_iconst hC (v := 0) dX6_isStep_19 (by decide) ?_
      have h := Option.some.inj h
      subst h
      exact wq_zret hC (b := false) dX6_isStep_20 (by decide) K.1 K.2
    · have h := wq_in_ z2 h
      refine wq_iconst hC (v := 1) dX6_isStep_15 (by decide) ?_
      refine wq_goto hC dX6_isStep_16 (tgt := 20) (by decide) ?_
      have h := Option.some.inj h
      subst h
      exact wq_zret hC (b := true) dX6_isStep_20 (by decide) K.1 K.2
theorem npX6_isGrade : yX6_isGrade.cls ≠ "java/lang/invoke/MethodHandle" ∧ yX6_isGrade.cls ≠ "java/lang/invoke/VarHandle" ∧ (parseMethodDescriptor yX6_isGrade.desc).map (fun d => d.parameters.length) = some 1 := by decide +kernel
def fX6_isGrade (x1 : Int32) (M : wq_M) : Option Bool :=
  (if x1 < 0 then
    some false
  else
    (if (M.1 20 1) ≤ x1 then
      some false
    else
      some true))
set_option maxHeartbeats 4000000 in
set_option maxRecDepth 100000 in
theorem ctX6_isGrade {l : Launch} {E : wq_E} {d : Nat} (hd0 : 0 ≤ d) {x1 : Int32} {M : wq_M} {r : Bool}  (h : fX6_isGrade x1 M = some r) : wq_ct l E wq_yC yX6_isGrade cX6_isGrade 2 (some .boolean) d [.ref (E.2.1 0), .int x1] M (some (.int (wq_b r))) M := by
  refine wq_ent (own := "WellPipes") (lv0 := [some (.ref (E.2.1 0)), some (.int x1)]) (by decide +kernel) rfl (Nat.le_of_ble_eq_true rfl) rfl (fun g h1 h2 hC => ?_)
  have K : wq_kb g M r := ⟨h1, h2⟩
  unfold fX6_isGrade at h
  refine wq_iload_n hC dX6_isGrade_0 (i := 1) rfl rfl ?_
  refine wq_if_lt hC dX6_isGrade_1 (tgt := 19) (by decide) (fun z1 => ?_) (fun z1 => ?_)
  · have h := wq_ip z1 h
    refine wq_iconst hC (v := 0) dX6_isGrade_19 (by decide) ?_
    have h := Option.some.inj h
    subst h
    exact wq_zret hC (b := false) dX6_isGrade_20 (by decide) K.1 K.2
  · have h := wq_in_ z1 h
    refine wq_iload_n hC dX6_isGrade_4 (i := 1) rfl rfl ?_
    refine wq_aload_n hC dX6_isGrade_5 (i := 0) rfl rfl ?_
    refine gf_6 hC oC_0 2 (.ref (E.2.1 20)) (by decide) rfl tw_237 dX6_isGrade_6 ?_
    refine gf_5 hC W_20.1 1 (.int (M.1 20 1)) (by decide) rfl tw_114 dX6_isGrade_9 ?_
    refine wq_icmp_ge hC dX6_isGrade_12 (tgt := 19) (by decide) (fun z2 => ?_) (fun z2 => ?_)
    · have h := wq_ip z2 h
      refine wq_iconst hC (v := 0) dX6_isGrade_19 (by decide) ?_
      have h := Option.some.inj h
      subst h
      exact wq_zret hC (b := false) dX6_isGrade_20 (by decide) K.1 K.2
    · have h := wq_in_ z2 h
      refine wq_iconst hC (v := 1) dX6_isGrade_15 (by decide) ?_
      refine wq_goto hC dX6_isGrade_16 (tgt := 20) (by decide) ?_
      have h := Option.some.inj h
      subst h
      exact wq_zret hC (b := true) dX6_isGrade_20 (by decide) K.1 K.2
theorem npX6_lay : yX6_lay.cls ≠ "java/lang/invoke/MethodHandle" ∧ yX6_lay.cls ≠ "java/lang/invoke/VarHandle" ∧ (parseMethodDescriptor yX6_lay.desc).map (fun d => d.parameters.length) = some 2 := by decide +kernel
def fX6_lay_J24 (x1 : Int32) (x2 : Int32) (M : wq_M) : Option (Int32 × wq_M) :=
  if wq_in x1 8 then (if (M.1 24 x1.toNatClampNeg) = x2 then
    some ((-1000002), M)
  else
    (fX5_stringCode 20 M).bind fun r7 => (fX0_keep 9 r7 M).bind fun r9 => if wq_in x1 8 then some ((M.1 24 x1.toNatClampNeg), (wq_st r9 24 x1.toNatClampNeg x2)) else none) else none
set_option maxHeartbeats 4000000 in
set_option maxRecDepth 100000 in
theorem gX6_lay_J24 {g : wq_G} {E : wq_E} {d : Nat} (hC : wq_C g E wq_yC cX6_lay 4 "WellPipes" (some .int) d) (hd0 : 1 ≤ d) (x1 : Int32) (x2 : Int32) (M : wq_M)  {x : (Int32 × wq_M)} (h : fX6_lay_J24 x1 x2 M = some x) (K : (wq_kI g) x) : wq_g g E wq_yC 4 24 [some (.ref (E.2.1 0)), some (.int x1), some (.int x2), none] [] M := by
  unfold fX6_lay_J24 at h
  refine wq_aload_n hC dX6_lay_24 (i := 0) rfl rfl ?_
  refine gf_6 hC oC_0 2 (.ref (E.2.1 20)) (by decide) rfl tw_237 dX6_lay_25 ?_
  refine gf_5 hC W_20.1 5 (.ref (E.2.1 24)) (by decide) rfl tw_127 dX6_lay_28 ?_
  refine wq_iload_n hC dX6_lay_31 (i := 1) rfl rfl ?_
  obtain ⟨z5, h⟩ := wq_ii h
  refine wq_ald hC aC_24 z5 dX6_lay_32 ?_
  refine wq_istore_n hC dX6_lay_33 (i := 3) (lv' := [some (.ref (E.2.1 0)), some (.int x1), some (.int x2), some (.int (M.1 24 x1.toNatClampNeg))]) rfl (by decide) rfl ?_
  refine wq_iload_n hC dX6_lay_34 (i := 3) rfl rfl ?_
  refine wq_iload_n hC dX6_lay_35 (i := 2) rfl rfl ?_
  refine wq_icmp_ne hC dX6_lay_36 (tgt := 42) (by decide) (fun z6 => ?_) (fun z6 => ?_)
  · have h := wq_in_ z6 h
    refine wq_aload_n hC dX6_lay_42 (i := 0) rfl rfl ?_
    refine gf_6 hC oC_0 6 (.ref (E.2.1 47)) (by decide) rfl tw_241 dX6_lay_43 ?_
    refine wq_bipush hC (v := 9) dX6_lay_46 (by decide) ?_
    refine wq_aload_n hC dX6_lay_48 (i := 0) rfl rfl ?_
    refine gf_6 hC oC_0 2 (.ref (E.2.1 20)) (by decide) rfl tw_237 dX6_lay_49 ?_
    obtain ⟨r7, hc8, h⟩ := wq_ob h
    refine cv_5 hC (ctX5_stringCode (d := d - 1) (by omega) W_20 hc8) (by omega) (by decide) W_20.1 rfl rfl npX5_stringCode tw_414 tw_415 tw_416 tw_417 (st := [.int 9, .ref (E.2.1 47)]) (Nat.le_of_ble_eq_true rfl) rfl dX6_lay_52 (st1 := [.int r7, .int 9, .ref (E.2.1 47)]) rfl ?_
    obtain ⟨r9, hc10, h⟩ := wq_ob h
    refine cv_0 hC (ctX0_keep (d := d - 1) (by omega)  hc10) (by omega) (by decide) oC_47 rfl rfl npX0_keep tw_418 tw_419 tw_420 tw_421 (st := []) (Nat.le_of_ble_eq_true rfl) rfl dX6_lay_55 (st1 := []) rfl ?_
    refine wq_aload_n hC dX6_lay_58 (i := 0) rfl rfl ?_
    refine gf_6 hC oC_0 2 (.ref (E.2.1 20)) (by decide) rfl tw_237 dX6_lay_59 ?_
    refine gf_5 hC W_20.1 5 (.ref (E.2.1 24)) (by decide) rfl tw_127 dX6_lay_62 ?_
    refine wq_iload_n hC dX6_lay_65 (i := 1) rfl rfl ?_
    refine wq_iload_n hC dX6_lay_66 (i := 2) rfl rfl ?_
    obtain ⟨z11, h⟩ := wq_ii h
    refine wq_ast hC aC_24 z11 dX6_lay_67 ?_
    refine wq_iload_n hC dX6_lay_68 (i := 3) rfl rfl ?_
    have h := Option.some.inj h
    subst h
    exact wq_iret hC dX6_lay_69 K.1 K.2
  · have h := wq_ip z6 h
    refine wq_ldc hC (v := (-1000002)) tw_392 dX6_lay_39 ?_
    have h := Option.some.inj h
    subst h
    exact wq_iret hC dX6_lay_41 K.1 K.2
def fX6_lay (x1 : Int32) (x2 : Int32) (M : wq_M) : Option (Int32 × wq_M) :=
  (fX6_isStep x1 M).bind fun r1 => (if r1 = true then
    (if x2 = (-1) then
      fX6_lay_J24 x1 x2 M
    else
      (fX6_isGrade x2 M).bind fun r12 => (if r12 = true then
        fX6_lay_J24 x1 x2 M
      else
        some ((-1000001), M)))
  else
    some ((-1000001), M))
set_option maxHeartbeats 4000000 in
set_option maxRecDepth 100000 in
theorem ctX6_lay {l : Launch} {E : wq_E} {d : Nat} (hd0 : 1 ≤ d) {x1 : Int32} {x2 : Int32} {M : wq_M} {r : (Int32 × wq_M)}  (h : fX6_lay x1 x2 M = some r) : wq_ct l E wq_yC yX6_lay cX6_lay 4 (some .int) d [.ref (E.2.1 0), .int x1, .int x2] M (some (.int r.1)) r.2 := by
  refine wq_ent (own := "WellPipes") (lv0 := [some (.ref (E.2.1 0)), some (.int x1), some (.int x2), none]) (by decide +kernel) rfl (Nat.le_of_ble_eq_true rfl) rfl (fun g h1 h2 hC => ?_)
  have K : wq_kI g r := ⟨h1, h2⟩
  unfold fX6_lay at h
  refine wq_aload_n hC dX6_lay_0 (i := 0) rfl rfl ?_
  refine wq_iload_n hC dX6_lay_1 (i := 1) rfl rfl ?_
  obtain ⟨r1, hc2, h⟩ := wq_ob h
  refine cv_6 hC (ctX6_isStep (d := d - 1) (by omega)  hc2) (by omega) (by decide) oC_0 rfl rfl npX6_isStep tw_406 tw_408 tw_10 tw_409 (st := []) (Nat.le_of_ble_eq_true rfl) rfl dX6_lay_2 (st1 := [.int (wq_b r1)]) rfl ?_
  refine wq_bif_eq hC dX6_lay_5 (tgt := 21) (by decide) (fun z3 => ?_) (fun z3 => ?_)
  · have h := wq_in_ z3 h
    refine wq_ldc hC (v := (-1000001)) tw_270 dX6_lay_21 ?_
    have h := Option.some.inj h
    subst h
    exact wq_iret hC dX6_lay_23 K.1 K.2
  · have h := wq_ip z3 h
    refine wq_iload_n hC dX6_lay_8 (i := 2) rfl rfl ?_
    refine wq_iconst hC (v := (-1)) dX6_lay_9 (by decide) ?_
    refine wq_icmp_eq hC dX6_lay_10 (tgt := 24) (by decide) (fun z4 => ?_) (fun z4 => ?_)
    · have h := wq_ip z4 h
      exact gX6_lay_J24 hC hd0 x1 x2 M  h K
    · have h := wq_in_ z4 h
      refine wq_aload_n hC dX6_lay_13 (i := 0) rfl rfl ?_
      refine wq_iload_n hC dX6_lay_14 (i := 2) rfl rfl ?_
      obtain ⟨r12, hc13, h⟩ := wq_ob h
      refine cv_6 hC (ctX6_isGrade (d := d - 1) (by omega)  hc13) (by omega) (by decide) oC_0 rfl rfl npX6_isGrade tw_410 tw_412 tw_11 tw_413 (st := []) (Nat.le_of_ble_eq_true rfl) rfl dX6_lay_15 (st1 := [.int (wq_b r12)]) rfl ?_
      refine wq_bif_ne hC dX6_lay_18 (tgt := 24) (by decide) (fun z14 => ?_) (fun z14 => ?_)
      · have h := wq_ip z14 h
        exact gX6_lay_J24 hC hd0 x1 x2 M  h K
      · have h := wq_in_ z14 h
        refine wq_ldc hC (v := (-1000001)) tw_270 dX6_lay_21 ?_
        have h := Option.some.inj h
        subst h
        exact wq_iret hC dX6_lay_23 K.1 K.2
theorem npX6_hasNoWell : yX6_hasNoWell.cls ≠ "java/lang/invoke/MethodHandle" ∧ yX6_hasNoWell.cls ≠ "java/lang/invoke/VarHandle" ∧ (parseMethodDescriptor yX6_hasNoWell.desc).map (fun d => d.parameters.length) = some 0 := by decide +kernel
def fX6_hasNoWell  (M : wq_M) : Option Bool :=
  (if (M.1 20 0) = 0 then
    some true
  else
    some false)
set_option maxHeartbeats 4000000 in
set_option maxRecDepth 100000 in
theorem ctX6_hasNoWell {l : Launch} {E : wq_E} {d : Nat} (hd0 : 0 ≤ d)  {M : wq_M} {r : Bool}  (h : fX6_hasNoWell M = some r) : wq_ct l E wq_yC yX6_hasNoWell cX6_hasNoWell 1 (some .boolean) d [.ref (E.2.1 0)] M (some (.int (wq_b r))) M := by
  refine wq_ent (own := "WellPipes") (lv0 := [some (.ref (E.2.1 0))]) (by decide +kernel) rfl (Nat.le_of_ble_eq_true rfl) rfl (fun g h1 h2 hC => ?_)
  have K : wq_kb g M r := ⟨h1, h2⟩
  unfold fX6_hasNoWell at h
  refine wq_aload_n hC dX6_hasNoWell_0 (i := 0) rfl rfl ?_
  refine gf_6 hC oC_0 2 (.ref (E.2.1 20)) (by decide) rfl tw_237 dX6_hasNoWell_1 ?_
  refine gf_5 hC W_20.1 0 (.int (M.1 20 0)) (by decide) rfl tw_110 dX6_hasNoWell_4 ?_
  refine wq_if_ne hC dX6_hasNoWell_7 (tgt := 14) (by decide) (fun z1 => ?_) (fun z1 => ?_)
  · have h := wq_in_ z1 h
    refine wq_iconst hC (v := 0) dX6_hasNoWell_14 (by decide) ?_
    have h := Option.some.inj h
    subst h
    exact wq_zret hC (b := false) dX6_hasNoWell_15 (by decide) K.1 K.2
  · have h := wq_ip z1 h
    refine wq_iconst hC (v := 1) dX6_hasNoWell_10 (by decide) ?_
    refine wq_goto hC dX6_hasNoWell_11 (tgt := 15) (by decide) ?_
    have h := Option.some.inj h
    subst h
    exact wq_zret hC (b := true) dX6_hasNoWell_15 (by decide) K.1 K.2
theorem npX6_layBest : yX6_layBest.cls ≠ "java/lang/invoke/MethodHandle" ∧ yX6_layBest.cls ≠ "java/lang/invoke/VarHandle" ∧ (parseMethodDescriptor yX6_layBest.desc).map (fun d => d.parameters.length) = some 0 := by decide +kernel
def fX6_layBest  (M : wq_M) : Option (Int32 × wq_M) :=
  (fX6_hasNoWell  M).bind fun r1 => (if r1 = true then
    some ((-1000002), M)
  else
    (fX4_find 20 (-1000000) M).bind fun r4 => (if r4.1 = true then
      (fX5_stringCode 20 r4.2).bind fun r7 => (fX0_keep 9 r7 r4.2).bind fun r9 => if wq_cpk 0 0 8 8 8 then some (((wq_cp r9 42 (0 : Int32).toNatClampNeg 24 (0 : Int32).toNatClampNeg (8 : Int32).toNatClampNeg).1 41 1), (wq_cp r9 42 (0 : Int32).toNatClampNeg 24 (0 : Int32).toNatClampNeg (8 : Int32).toNatClampNeg)) else none
    else
      some ((-1000000), r4.2)))
set_option maxHeartbeats 4000000 in
set_option maxRecDepth 100000 in
theorem ctX6_layBest {l : Launch} {E : wq_E} {d : Nat} (hd0 : 6 ≤ d)  {M : wq_M} {r : (Int32 × wq_M)}  (h : fX6_layBest M = some r) : wq_ct l E wq_yC yX6_layBest cX6_layBest 1 (some .int) d [.ref (E.2.1 0)] M (some (.int r.1)) r.2 := by
  refine wq_ent (own := "WellPipes") (lv0 := [some (.ref (E.2.1 0))]) (by decide +kernel) rfl (Nat.le_of_ble_eq_true rfl) rfl (fun g h1 h2 hC => ?_)
  have K : wq_kI g r := ⟨h1, h2⟩
  unfold fX6_layBest at h
  refine wq_aload_n hC dX6_layBest_0 (i := 0) rfl rfl ?_
  obtain ⟨r1, hc2, h⟩ := wq_ob h
  refine cv_6 hC (ctX6_hasNoWell (d := d - 1) (by omega)  hc2) (by omega) (by decide) oC_0 rfl rfl npX6_hasNoWell tw_427 tw_429 tw_12 tw_430 (st := []) (Nat.le_of_ble_eq_true rfl) rfl dX6_layBest_1 (st1 := [.int (wq_b r1)]) rfl ?_
  refine wq_bif_eq hC dX6_layBest_4 (tgt := 10) (by decide) (fun z3 => ?_) (fun z3 => ?_)
  · have h := wq_in_ z3 h
    refine wq_aload_n hC dX6_layBest_10 (i := 0) rfl rfl ?_
    refine gf_6 hC oC_0 5 (.ref (E.2.1 41)) (by decide) rfl tw_240 dX6_layBest_11 ?_
    refine wq_aload_n hC dX6_layBest_14 (i := 0) rfl rfl ?_
    refine gf_6 hC oC_0 2 (.ref (E.2.1 20)) (by decide) rfl tw_237 dX6_layBest_15 ?_
    refine wq_ldc hC (v := (-1000000)) tw_431 dX6_layBest_18 ?_
    obtain ⟨r4, hc5, h⟩ := wq_ob h
    refine cv_4 hC (ctX4_find (d := d - 1) (by omega) W_20 hc5) (by omega) (by decide) oC_41 rfl rfl npX4_find tw_432 tw_433 tw_434 tw_435 (st := []) (Nat.le_of_ble_eq_true rfl) rfl dX6_layBest_20 (st1 := [.int (wq_b r4.1)]) rfl ?_
    refine wq_bif_ne hC dX6_layBest_23 (tgt := 29) (by decide) (fun z6 => ?_) (fun z6 => ?_)
    · have h := wq_ip z6 h
      refine wq_aload_n hC dX6_layBest_29 (i := 0) rfl rfl ?_
      refine gf_6 hC oC_0 6 (.ref (E.2.1 47)) (by decide) rfl tw_241 dX6_layBest_30 ?_
      refine wq_bipush hC (v := 9) dX6_layBest_33 (by decide) ?_
      refine wq_aload_n hC dX6_layBest_35 (i := 0) rfl rfl ?_
      refine gf_6 hC oC_0 2 (.ref (E.2.1 20)) (by decide) rfl tw_237 dX6_layBest_36 ?_
      obtain ⟨r7, hc8, h⟩ := wq_ob h
      refine cv_5 hC (ctX5_stringCode (d := d - 1) (by omega) W_20 hc8) (by omega) (by decide) W_20.1 rfl rfl npX5_stringCode tw_414 tw_415 tw_416 tw_417 (st := [.int 9, .ref (E.2.1 47)]) (Nat.le_of_ble_eq_true rfl) rfl dX6_layBest_39 (st1 := [.int r7, .int 9, .ref (E.2.1 47)]) rfl ?_
      obtain ⟨r9, hc10, h⟩ := wq_ob h
      refine cv_0 hC (ctX0_keep (d := d - 1) (by omega)  hc10) (by omega) (by decide) oC_47 rfl rfl npX0_keep tw_418 tw_419 tw_420 tw_421 (st := []) (Nat.le_of_ble_eq_true rfl) rfl dX6_layBest_42 (st1 := []) rfl ?_
      refine wq_aload_n hC dX6_layBest_45 (i := 0) rfl rfl ?_
      refine gf_6 hC oC_0 5 (.ref (E.2.1 41)) (by decide) rfl tw_240 dX6_layBest_46 ?_
      refine gf_4 hC oC_41 0 (.ref (E.2.1 42)) (by decide) rfl tw_149 dX6_layBest_49 ?_
      refine wq_iconst hC (v := 0) dX6_layBest_52 (by decide) ?_
      refine wq_aload_n hC dX6_layBest_53 (i := 0) rfl rfl ?_
      refine gf_6 hC oC_0 2 (.ref (E.2.1 20)) (by decide) rfl tw_237 dX6_layBest_54 ?_
      refine gf_5 hC W_20.1 5 (.ref (E.2.1 24)) (by decide) rfl tw_127 dX6_layBest_57 ?_
      refine wq_iconst hC (v := 0) dX6_layBest_60 (by decide) ?_
      refine wq_bipush hC (v := 8) dX6_layBest_61 (by decide) ?_
      obtain ⟨z11, h⟩ := wq_ii h
      refine wq_acp hC (st := []) tw_307 aC_42 aC_24 z11 (Nat.le_of_ble_eq_true rfl) dX6_layBest_63 ?_
      refine wq_aload_n hC dX6_layBest_66 (i := 0) rfl rfl ?_
      refine gf_6 hC oC_0 5 (.ref (E.2.1 41)) (by decide) rfl tw_240 dX6_layBest_67 ?_
      refine gf_4 hC oC_41 1 (.int ((wq_cp r9 42 (0 : Int32).toNatClampNeg 24 (0 : Int32).toNatClampNeg (8 : Int32).toNatClampNeg).1 41 1)) (by decide) rfl tw_151 dX6_layBest_70 ?_
      have h := Option.some.inj h
      subst h
      exact wq_iret hC dX6_layBest_73 K.1 K.2
    · have h := wq_in_ z6 h
      refine wq_ldc hC (v := (-1000000)) tw_431 dX6_layBest_26 ?_
      have h := Option.some.inj h
      subst h
      exact wq_iret hC dX6_layBest_28 K.1 K.2
  · have h := wq_ip z3 h
    refine wq_ldc hC (v := (-1000002)) tw_392 dX6_layBest_7 ?_
    have h := Option.some.inj h
    subst h
    exact wq_iret hC dX6_layBest_9 K.1 K.2
theorem npX6_rule : yX6_rule.cls ≠ "java/lang/invoke/MethodHandle" ∧ yX6_rule.cls ≠ "java/lang/invoke/VarHandle" ∧ (parseMethodDescriptor yX6_rule.desc).map (fun d => d.parameters.length) = some 2 := by decide +kernel
def fX6_rule (x1 : Int32) (x2 : Int32) (M : wq_M) : Option (Int32 × wq_M) :=
  (fX6_hasNoWell  M).bind fun r1 => (if r1 = true then
    some ((-1000002), M)
  else
    (if x1 < 0 then
      some ((-1000001), M)
    else
      (if 4 ≤ x1 then
        some ((-1000001), M)
      else
        if wq_in x1 4 then (if x2 < (wq_sf 0 x1.toNatClampNeg) then
          some ((-1000001), M)
        else
          if wq_in x1 4 then (if x2 ≤ (wq_sf 1 x1.toNatClampNeg) then
            if wq_in x1 4 then (fX0_keep x1 (M.1 21 x1.toNatClampNeg) M).bind fun r11 => if wq_in x1 4 then some ((M.1 21 x1.toNatClampNeg), (wq_st r11 21 x1.toNatClampNeg x2)) else none else none
          else
            some ((-1000001), M)) else none) else none)))
set_option maxHeartbeats 4000000 in
set_option maxRecDepth 100000 in
theorem ctX6_rule {l : Launch} {E : wq_E} {d : Nat} (hd0 : 1 ≤ d) {x1 : Int32} {x2 : Int32} {M : wq_M} {r : (Int32 × wq_M)}  (h : fX6_rule x1 x2 M = some r) : wq_ct l E wq_yC yX6_rule cX6_rule 4 (some .int) d [.ref (E.2.1 0), .int x1, .int x2] M (some (.int r.1)) r.2 := by
  refine wq_ent (own := "WellPipes") (lv0 := [some (.ref (E.2.1 0)), some (.int x1), some (.int x2), none]) (by decide +kernel) rfl (Nat.le_of_ble_eq_true rfl) rfl (fun g h1 h2 hC => ?_)
  have K : wq_kI g r := ⟨h1, h2⟩
  unfold fX6_rule at h
  refine wq_aload_n hC dX6_rule_0 (i := 0) rfl rfl ?_
  obtain ⟨r1, hc2, h⟩ := wq_ob h
  refine cv_6 hC (ctX6_hasNoWell (d := d - 1) (by omega)  hc2) (by omega) (by decide) oC_0 rfl rfl npX6_hasNoWell tw_427 tw_429 tw_12 tw_430 (st := []) (Nat.le_of_ble_eq_true rfl) rfl dX6_rule_1 (st1 := [.int (wq_b r1)]) rfl ?_
  refine wq_bif_eq hC dX6_rule_4 (tgt := 10) (by decide) (fun z3 => ?_) (fun z3 => ?_)
  · have h := wq_in_ z3 h
    refine wq_iload_n hC dX6_rule_10 (i := 1) rfl rfl ?_
    refine wq_if_lt hC dX6_rule_11 (tgt := 37) (by decide) (fun z4 => ?_) (fun z4 => ?_)
    · have h := wq_ip z4 h
      refine wq_ldc hC (v := (-1000001)) tw_270 dX6_rule_37 ?_
      have h := Option.some.inj h
      subst h
      exact wq_iret hC dX6_rule_39 K.1 K.2
    · have h := wq_in_ z4 h
      refine wq_iload_n hC dX6_rule_14 (i := 1) rfl rfl ?_
      refine wq_iconst hC (v := 4) dX6_rule_15 (by decide) ?_
      refine wq_icmp_ge hC dX6_rule_16 (tgt := 37) (by decide) (fun z5 => ?_) (fun z5 => ?_)
      · have h := wq_ip z5 h
        refine wq_ldc hC (v := (-1000001)) tw_270 dX6_rule_37 ?_
        have h := Option.some.inj h
        subst h
        exact wq_iret hC dX6_rule_39 K.1 K.2
      · have h := wq_in_ z5 h
        refine wq_iload_n hC dX6_rule_19 (i := 2) rfl rfl ?_
        refine wq_gets hC 0 (by decide) tw_508 dX6_rule_20 ?_
        refine wq_iload_n hC dX6_rule_23 (i := 1) rfl rfl ?_
        obtain ⟨z6, h⟩ := wq_ii h
        refine wq_tald hC 0 (by decide) rfl z6 dX6_rule_24 ?_
        refine wq_icmp_lt hC dX6_rule_25 (tgt := 37) (by decide) (fun z7 => ?_) (fun z7 => ?_)
        · have h := wq_ip z7 h
          refine wq_ldc hC (v := (-1000001)) tw_270 dX6_rule_37 ?_
          have h := Option.some.inj h
          subst h
          exact wq_iret hC dX6_rule_39 K.1 K.2
        · have h := wq_in_ z7 h
          refine wq_iload_n hC dX6_rule_28 (i := 2) rfl rfl ?_
          refine wq_gets hC 1 (by decide) tw_509 dX6_rule_29 ?_
          refine wq_iload_n hC dX6_rule_32 (i := 1) rfl rfl ?_
          obtain ⟨z8, h⟩ := wq_ii h
          refine wq_tald hC 1 (by decide) rfl z8 dX6_rule_33 ?_
          refine wq_icmp_le hC dX6_rule_34 (tgt := 40) (by decide) (fun z9 => ?_) (fun z9 => ?_)
          · have h := wq_ip z9 h
            refine wq_aload_n hC dX6_rule_40 (i := 0) rfl rfl ?_
            refine gf_6 hC oC_0 2 (.ref (E.2.1 20)) (by decide) rfl tw_237 dX6_rule_41 ?_
            refine gf_5 hC W_20.1 2 (.ref (E.2.1 21)) (by decide) rfl tw_119 dX6_rule_44 ?_
            refine wq_iload_n hC dX6_rule_47 (i := 1) rfl rfl ?_
            obtain ⟨z10, h⟩ := wq_ii h
            refine wq_ald hC aC_21 z10 dX6_rule_48 ?_
            refine wq_istore_n hC dX6_rule_49 (i := 3) (lv' := [some (.ref (E.2.1 0)), some (.int x1), some (.int x2), some (.int (M.1 21 x1.toNatClampNeg))]) rfl (by decide) rfl ?_
            refine wq_aload_n hC dX6_rule_50 (i := 0) rfl rfl ?_
            refine gf_6 hC oC_0 6 (.ref (E.2.1 47)) (by decide) rfl tw_241 dX6_rule_51 ?_
            refine wq_iload_n hC dX6_rule_54 (i := 1) rfl rfl ?_
            refine wq_iload_n hC dX6_rule_55 (i := 3) rfl rfl ?_
            obtain ⟨r11, hc12, h⟩ := wq_ob h
            refine cv_0 hC (ctX0_keep (d := d - 1) (by omega)  hc12) (by omega) (by decide) oC_47 rfl rfl npX0_keep tw_418 tw_419 tw_420 tw_421 (st := []) (Nat.le_of_ble_eq_true rfl) rfl dX6_rule_56 (st1 := []) rfl ?_
            refine wq_aload_n hC dX6_rule_59 (i := 0) rfl rfl ?_
            refine gf_6 hC oC_0 2 (.ref (E.2.1 20)) (by decide) rfl tw_237 dX6_rule_60 ?_
            refine gf_5 hC W_20.1 2 (.ref (E.2.1 21)) (by decide) rfl tw_119 dX6_rule_63 ?_
            refine wq_iload_n hC dX6_rule_66 (i := 1) rfl rfl ?_
            refine wq_iload_n hC dX6_rule_67 (i := 2) rfl rfl ?_
            obtain ⟨z13, h⟩ := wq_ii h
            refine wq_ast hC aC_21 z13 dX6_rule_68 ?_
            refine wq_iload_n hC dX6_rule_69 (i := 3) rfl rfl ?_
            have h := Option.some.inj h
            subst h
            exact wq_iret hC dX6_rule_70 K.1 K.2
          · have h := wq_in_ z9 h
            refine wq_ldc hC (v := (-1000001)) tw_270 dX6_rule_37 ?_
            have h := Option.some.inj h
            subst h
            exact wq_iret hC dX6_rule_39 K.1 K.2
  · have h := wq_ip z3 h
    refine wq_ldc hC (v := (-1000002)) tw_392 dX6_rule_7 ?_
    have h := Option.some.inj h
    subst h
    exact wq_iret hC dX6_rule_9 K.1 K.2
theorem npX6_price : yX6_price.cls ≠ "java/lang/invoke/MethodHandle" ∧ yX6_price.cls ≠ "java/lang/invoke/VarHandle" ∧ (parseMethodDescriptor yX6_price.desc).map (fun d => d.parameters.length) = some 2 := by decide +kernel
def fX6_price (x1 : Int32) (x2 : Int32) (M : wq_M) : Option (Int32 × wq_M) :=
  (fX6_isGrade x1 M).bind fun r1 => (if r1 = true then
    (if x2 < 1 then
      some ((-1000001), M)
    else
      if wq_in 4 5 then (if x2 ≤ (wq_sf 2 (4 : Int32).toNatClampNeg) then
        (fX5_figure 20 x1 4 M).bind fun r7 => (fX0_keep (4 + x1) r7 M).bind fun r9 => (fX5_putFigure 20 x1 4 x2 r9).bind fun r11 => some (r7, r11)
      else
        some ((-1000001), M)) else none)
  else
    some ((-1000001), M))
set_option maxHeartbeats 4000000 in
set_option maxRecDepth 100000 in
theorem ctX6_price {l : Launch} {E : wq_E} {d : Nat} (hd0 : 1 ≤ d) {x1 : Int32} {x2 : Int32} {M : wq_M} {r : (Int32 × wq_M)}  (h : fX6_price x1 x2 M = some r) : wq_ct l E wq_yC yX6_price cX6_price 4 (some .int) d [.ref (E.2.1 0), .int x1, .int x2] M (some (.int r.1)) r.2 := by
  refine wq_ent (own := "WellPipes") (lv0 := [some (.ref (E.2.1 0)), some (.int x1), some (.int x2), none]) (by decide +kernel) rfl (Nat.le_of_ble_eq_true rfl) rfl (fun g h1 h2 hC => ?_)
  have K : wq_kI g r := ⟨h1, h2⟩
  unfold fX6_price at h
  refine wq_aload_n hC dX6_price_0 (i := 0) rfl rfl ?_
  refine wq_iload_n hC dX6_price_1 (i := 1) rfl rfl ?_
  obtain ⟨r1, hc2, h⟩ := wq_ob h
  refine cv_6 hC (ctX6_isGrade (d := d - 1) (by omega)  hc2) (by omega) (by decide) oC_0 rfl rfl npX6_isGrade tw_410 tw_412 tw_11 tw_413 (st := []) (Nat.le_of_ble_eq_true rfl) rfl dX6_price_2 (st1 := [.int (wq_b r1)]) rfl ?_
  refine wq_bif_eq hC dX6_price_5 (tgt := 22) (by decide) (fun z3 => ?_) (fun z3 => ?_)
  · have h := wq_in_ z3 h
    refine wq_ldc hC (v := (-1000001)) tw_270 dX6_price_22 ?_
    have h := Option.some.inj h
    subst h
    exact wq_iret hC dX6_price_24 K.1 K.2
  · have h := wq_ip z3 h
    refine wq_iload_n hC dX6_price_8 (i := 2) rfl rfl ?_
    refine wq_iconst hC (v := 1) dX6_price_9 (by decide) ?_
    refine wq_icmp_lt hC dX6_price_10 (tgt := 22) (by decide) (fun z4 => ?_) (fun z4 => ?_)
    · have h := wq_ip z4 h
      refine wq_ldc hC (v := (-1000001)) tw_270 dX6_price_22 ?_
      have h := Option.some.inj h
      subst h
      exact wq_iret hC dX6_price_24 K.1 K.2
    · have h := wq_in_ z4 h
      refine wq_iload_n hC dX6_price_13 (i := 2) rfl rfl ?_
      refine wq_gets hC 2 (by decide) tw_514 dX6_price_14 ?_
      refine wq_iconst hC (v := 4) dX6_price_17 (by decide) ?_
      obtain ⟨z5, h⟩ := wq_ii h
      refine wq_tald hC 2 (by decide) rfl z5 dX6_price_18 ?_
      refine wq_icmp_le hC dX6_price_19 (tgt := 25) (by decide) (fun z6 => ?_) (fun z6 => ?_)
      · have h := wq_ip z6 h
        refine wq_aload_n hC dX6_price_25 (i := 0) rfl rfl ?_
        refine gf_6 hC oC_0 2 (.ref (E.2.1 20)) (by decide) rfl tw_237 dX6_price_26 ?_
        refine wq_iload_n hC dX6_price_29 (i := 1) rfl rfl ?_
        refine wq_iconst hC (v := 4) dX6_price_30 (by decide) ?_
        obtain ⟨r7, hc8, h⟩ := wq_ob h
        refine cv_5 hC (ctX5_figure (d := d - 1) (by omega) W_20 hc8) (by omega) (by decide) W_20.1 rfl rfl npX5_figure tw_515 tw_452 tw_453 tw_454 (st := []) (Nat.le_of_ble_eq_true rfl) rfl dX6_price_31 (st1 := [.int r7]) rfl ?_
        refine wq_istore_n hC dX6_price_34 (i := 3) (lv' := [some (.ref (E.2.1 0)), some (.int x1), some (.int x2), some (.int r7)]) rfl (by decide) rfl ?_
        refine wq_aload_n hC dX6_price_35 (i := 0) rfl rfl ?_
        refine gf_6 hC oC_0 6 (.ref (E.2.1 47)) (by decide) rfl tw_241 dX6_price_36 ?_
        refine wq_iconst hC (v := 4) dX6_price_39 (by decide) ?_
        refine wq_iload_n hC dX6_price_40 (i := 1) rfl rfl ?_
        refine wq_iadd hC dX6_price_41 ?_
        refine wq_iload_n hC dX6_price_42 (i := 3) rfl rfl ?_
        obtain ⟨r9, hc10, h⟩ := wq_ob h
        refine cv_0 hC (ctX0_keep (d := d - 1) (by omega)  hc10) (by omega) (by decide) oC_47 rfl rfl npX0_keep tw_418 tw_419 tw_420 tw_421 (st := []) (Nat.le_of_ble_eq_true rfl) rfl dX6_price_43 (st1 := []) rfl ?_
        refine wq_aload_n hC dX6_price_46 (i := 0) rfl rfl ?_
        refine gf_6 hC oC_0 2 (.ref (E.2.1 20)) (by decide) rfl tw_237 dX6_price_47 ?_
        refine wq_iload_n hC dX6_price_50 (i := 1) rfl rfl ?_
        refine wq_iconst hC (v := 4) dX6_price_51 (by decide) ?_
        refine wq_iload_n hC dX6_price_52 (i := 2) rfl rfl ?_
        obtain ⟨r11, hc12, h⟩ := wq_ob h
        refine cv_5 hC (ctX5_putFigure (d := d - 1) (by omega) W_20 hc12) (by omega) (by decide) W_20.1 rfl rfl npX5_putFigure tw_516 tw_370 tw_371 tw_372 (st := []) (Nat.le_of_ble_eq_true rfl) rfl dX6_price_53 (st1 := []) rfl ?_
        refine wq_iload_n hC dX6_price_56 (i := 3) rfl rfl ?_
        have h := Option.some.inj h
        subst h
        exact wq_iret hC dX6_price_57 K.1 K.2
      · have h := wq_in_ z6 h
        refine wq_ldc hC (v := (-1000001)) tw_270 dX6_price_22 ?_
        have h := Option.some.inj h
        subst h
        exact wq_iret hC dX6_price_24 K.1 K.2
theorem npX6_grade : yX6_grade.cls ≠ "java/lang/invoke/MethodHandle" ∧ yX6_grade.cls ≠ "java/lang/invoke/VarHandle" ∧ (parseMethodDescriptor yX6_grade.desc).map (fun d => d.parameters.length) = some 2 := by decide +kernel
def fX6_grade (x1 : Int32) (x2 : Int32) (M : wq_M) : Option Int32 :=
  (fX6_isGrade x1 M).bind fun r1 => (if r1 = true then
    (if x2 < 0 then
      some (-1000001)
    else
      (if x2 < 5 then
        (fX5_figure 20 x1 x2 M).bind fun r6 => some r6
      else
        some (-1000001)))
  else
    some (-1000001))
set_option maxHeartbeats 4000000 in
set_option maxRecDepth 100000 in
theorem ctX6_grade {l : Launch} {E : wq_E} {d : Nat} (hd0 : 1 ≤ d) {x1 : Int32} {x2 : Int32} {M : wq_M} {r : Int32}  (h : fX6_grade x1 x2 M = some r) : wq_ct l E wq_yC yX6_grade cX6_grade 3 (some .int) d [.ref (E.2.1 0), .int x1, .int x2] M (some (.int r)) M := by
  refine wq_ent (own := "WellPipes") (lv0 := [some (.ref (E.2.1 0)), some (.int x1), some (.int x2)]) (by decide +kernel) rfl (Nat.le_of_ble_eq_true rfl) rfl (fun g h1 h2 hC => ?_)
  have K : wq_ki g M r := ⟨h1, h2⟩
  unfold fX6_grade at h
  refine wq_aload_n hC dX6_grade_0 (i := 0) rfl rfl ?_
  refine wq_iload_n hC dX6_grade_1 (i := 1) rfl rfl ?_
  obtain ⟨r1, hc2, h⟩ := wq_ob h
  refine cv_6 hC (ctX6_isGrade (d := d - 1) (by omega)  hc2) (by omega) (by decide) oC_0 rfl rfl npX6_isGrade tw_410 tw_412 tw_11 tw_413 (st := []) (Nat.le_of_ble_eq_true rfl) rfl dX6_grade_2 (st1 := [.int (wq_b r1)]) rfl ?_
  refine wq_bif_eq hC dX6_grade_5 (tgt := 17) (by decide) (fun z3 => ?_) (fun z3 => ?_)
  · have h := wq_in_ z3 h
    refine wq_ldc hC (v := (-1000001)) tw_270 dX6_grade_17 ?_
    have h := Option.some.inj h
    subst h
    exact wq_iret hC dX6_grade_19 K.1 K.2
  · have h := wq_ip z3 h
    refine wq_iload_n hC dX6_grade_8 (i := 2) rfl rfl ?_
    refine wq_if_lt hC dX6_grade_9 (tgt := 17) (by decide) (fun z4 => ?_) (fun z4 => ?_)
    · have h := wq_ip z4 h
      refine wq_ldc hC (v := (-1000001)) tw_270 dX6_grade_17 ?_
      have h := Option.some.inj h
      subst h
      exact wq_iret hC dX6_grade_19 K.1 K.2
    · have h := wq_in_ z4 h
      refine wq_iload_n hC dX6_grade_12 (i := 2) rfl rfl ?_
      refine wq_iconst hC (v := 5) dX6_grade_13 (by decide) ?_
      refine wq_icmp_lt hC dX6_grade_14 (tgt := 20) (by decide) (fun z5 => ?_) (fun z5 => ?_)
      · have h := wq_ip z5 h
        refine wq_aload_n hC dX6_grade_20 (i := 0) rfl rfl ?_
        refine gf_6 hC oC_0 2 (.ref (E.2.1 20)) (by decide) rfl tw_237 dX6_grade_21 ?_
        refine wq_iload_n hC dX6_grade_24 (i := 1) rfl rfl ?_
        refine wq_iload_n hC dX6_grade_25 (i := 2) rfl rfl ?_
        obtain ⟨r6, hc7, h⟩ := wq_ob h
        refine cv_5 hC (ctX5_figure (d := d - 1) (by omega) W_20 hc7) (by omega) (by decide) W_20.1 rfl rfl npX5_figure tw_515 tw_452 tw_453 tw_454 (st := []) (Nat.le_of_ble_eq_true rfl) rfl dX6_grade_26 (st1 := [.int r6]) rfl ?_
        have h := Option.some.inj h
        subst h
        exact wq_iret hC dX6_grade_29 K.1 K.2
      · have h := wq_in_ z5 h
        refine wq_ldc hC (v := (-1000001)) tw_270 dX6_grade_17 ?_
        have h := Option.some.inj h
        subst h
        exact wq_iret hC dX6_grade_19 K.1 K.2
theorem npX6_step : yX6_step.cls ≠ "java/lang/invoke/MethodHandle" ∧ yX6_step.cls ≠ "java/lang/invoke/VarHandle" ∧ (parseMethodDescriptor yX6_step.desc).map (fun d => d.parameters.length) = some 2 := by decide +kernel
def fX6_step (x1 : Int32) (x2 : Int32) (M : wq_M) : Option Int32 :=
  (fX6_isStep x1 M).bind fun r1 => (if r1 = true then
    (if x2 = 0 then if wq_in x1 8 then some (M.1 24 x1.toNatClampNeg) else none else if x2 = 1 then (fX5_burstLoad 20 x1 M).bind fun r7 => some r7 else if x2 = 2 then (fX5_crushLoad 20 x1 M).bind fun r10 => some r10 else if x2 = 3 then (fX5_pullLoad 20 x1 M).bind fun r13 => some r13 else if x2 = 4 then (fX5_holds 20 x1 M).bind fun r16 => (if r16 = true then
                some 1
              else
                some 0) else if x2 = 5 then (fX5_sectionLength 20 x1 M).bind fun r20 => some r20 else some (-1000001))
  else
    some (-1000001))
set_option maxHeartbeats 4000000 in
set_option maxRecDepth 100000 in
theorem ctX6_step {l : Launch} {E : wq_E} {d : Nat} (hd0 : 5 ≤ d) {x1 : Int32} {x2 : Int32} {M : wq_M} {r : Int32}  (h : fX6_step x1 x2 M = some r) : wq_ct l E wq_yC yX6_step cX6_step 3 (some .int) d [.ref (E.2.1 0), .int x1, .int x2] M (some (.int r)) M := by
  refine wq_ent (own := "WellPipes") (lv0 := [some (.ref (E.2.1 0)), some (.int x1), some (.int x2)]) (by decide +kernel) rfl (Nat.le_of_ble_eq_true rfl) rfl (fun g h1 h2 hC => ?_)
  have K : wq_ki g M r := ⟨h1, h2⟩
  unfold fX6_step at h
  refine wq_aload_n hC dX6_step_0 (i := 0) rfl rfl ?_
  refine wq_iload_n hC dX6_step_1 (i := 1) rfl rfl ?_
  obtain ⟨r1, hc2, h⟩ := wq_ob h
  refine cv_6 hC (ctX6_isStep (d := d - 1) (by omega)  hc2) (by omega) (by decide) oC_0 rfl rfl npX6_isStep tw_406 tw_408 tw_10 tw_409 (st := []) (Nat.le_of_ble_eq_true rfl) rfl dX6_step_2 (st1 := [.int (wq_b r1)]) rfl ?_
  refine wq_bif_ne hC dX6_step_5 (tgt := 11) (by decide) (fun z3 => ?_) (fun z3 => ?_)
  · have h := wq_ip z3 h
    refine wq_iload_n hC dX6_step_11 (i := 2) rfl rfl ?_
    by_cases z4 : x2 = 0
    · have h := wq_ip z4 h
      refine wq_tableIn hC dX6_step_12 (tgt := 52) (by rw [z4]; decide) (by rw [z4]; decide) (off := 40) (by rw [z4]; decide) (by decide) ?_
      refine wq_aload_n hC dX6_step_52 (i := 0) rfl rfl ?_
      refine gf_6 hC oC_0 2 (.ref (E.2.1 20)) (by decide) rfl tw_237 dX6_step_53 ?_
      refine gf_5 hC W_20.1 5 (.ref (E.2.1 24)) (by decide) rfl tw_127 dX6_step_56 ?_
      refine wq_iload_n hC dX6_step_59 (i := 1) rfl rfl ?_
      obtain ⟨z5, h⟩ := wq_ii h
      refine wq_ald hC aC_24 z5 dX6_step_60 ?_
      have h := Option.some.inj h
      subst h
      exact wq_iret hC dX6_step_61 K.1 K.2
    · have h := wq_in_ z4 h
      by_cases z6 : x2 = 1
      · have h := wq_ip z6 h
        refine wq_tableIn hC dX6_step_12 (tgt := 62) (by rw [z6]; decide) (by rw [z6]; decide) (off := 50) (by rw [z6]; decide) (by decide) ?_
        refine wq_aload_n hC dX6_step_62 (i := 0) rfl rfl ?_
        refine gf_6 hC oC_0 2 (.ref (E.2.1 20)) (by decide) rfl tw_237 dX6_step_63 ?_
        refine wq_iload_n hC dX6_step_66 (i := 1) rfl rfl ?_
        obtain ⟨r7, hc8, h⟩ := wq_ob h
        refine cv_5 hC (ctX5_burstLoad (d := d - 1) (by omega) W_20 hc8) (by omega) (by decide) W_20.1 rfl rfl npX5_burstLoad tw_525 tw_465 tw_466 tw_467 (st := []) (Nat.le_of_ble_eq_true rfl) rfl dX6_step_67 (st1 := [.int r7]) rfl ?_
        have h := Option.some.inj h
        subst h
        exact wq_iret hC dX6_step_70 K.1 K.2
      · have h := wq_in_ z6 h
        by_cases z9 : x2 = 2
        · have h := wq_ip z9 h
          refine wq_tableIn hC dX6_step_12 (tgt := 71) (by rw [z9]; decide) (by rw [z9]; decide) (off := 59) (by rw [z9]; decide) (by decide) ?_
          refine wq_aload_n hC dX6_step_71 (i := 0) rfl rfl ?_
          refine gf_6 hC oC_0 2 (.ref (E.2.1 20)) (by decide) rfl tw_237 dX6_step_72 ?_
          refine wq_iload_n hC dX6_step_75 (i := 1) rfl rfl ?_
          obtain ⟨r10, hc11, h⟩ := wq_ob h
          refine cv_5 hC (ctX5_crushLoad (d := d - 1) (by omega) W_20 hc11) (by omega) (by decide) W_20.1 rfl rfl npX5_crushLoad tw_526 tw_482 tw_483 tw_484 (st := []) (Nat.le_of_ble_eq_true rfl) rfl dX6_step_76 (st1 := [.int r10]) rfl ?_
          have h := Option.some.inj h
          subst h
          exact wq_iret hC dX6_step_79 K.1 K.2
        · have h := wq_in_ z9 h
          by_cases z12 : x2 = 3
          · have h := wq_ip z12 h
            refine wq_tableIn hC dX6_step_12 (tgt := 80) (by rw [z12]; decide) (by rw [z12]; decide) (off := 68) (by rw [z12]; decide) (by decide) ?_
            refine wq_aload_n hC dX6_step_80 (i := 0) rfl rfl ?_
            refine gf_6 hC oC_0 2 (.ref (E.2.1 20)) (by decide) rfl tw_237 dX6_step_81 ?_
            refine wq_iload_n hC dX6_step_84 (i := 1) rfl rfl ?_
            obtain ⟨r13, hc14, h⟩ := wq_ob h
            refine cv_5 hC (ctX5_pullLoad (d := d - 1) (by omega) W_20 hc14) (by omega) (by decide) W_20.1 rfl rfl npX5_pullLoad tw_527 tw_528 tw_529 tw_530 (st := []) (Nat.le_of_ble_eq_true rfl) rfl dX6_step_85 (st1 := [.int r13]) rfl ?_
            have h := Option.some.inj h
            subst h
            exact wq_iret hC dX6_step_88 K.1 K.2
          · have h := wq_in_ z12 h
            by_cases z15 : x2 = 4
            · have h := wq_ip z15 h
              refine wq_tableIn hC dX6_step_12 (tgt := 89) (by rw [z15]; decide) (by rw [z15]; decide) (off := 77) (by rw [z15]; decide) (by decide) ?_
              refine wq_aload_n hC dX6_step_89 (i := 0) rfl rfl ?_
              refine gf_6 hC oC_0 2 (.ref (E.2.1 20)) (by decide) rfl tw_237 dX6_step_90 ?_
              refine wq_iload_n hC dX6_step_93 (i := 1) rfl rfl ?_
              obtain ⟨r16, hc17, h⟩ := wq_ob h
              refine cv_5 hC (ctX5_holds (d := d - 1) (by omega) W_20 hc17) (by omega) (by decide) W_20.1 rfl rfl npX5_holds tw_535 tw_536 tw_537 tw_538 (st := []) (Nat.le_of_ble_eq_true rfl) rfl dX6_step_94 (st1 := [.int (wq_b r16)]) rfl ?_
              refine wq_bif_eq hC dX6_step_97 (tgt := 104) (by decide) (fun z18 => ?_) (fun z18 => ?_)
              · have h := wq_in_ z18 h
                refine wq_iconst hC (v := 0) dX6_step_104 (by decide) ?_
                have h := Option.some.inj h
                subst h
                exact wq_iret hC dX6_step_105 K.1 K.2
              · have h := wq_ip z18 h
                refine wq_iconst hC (v := 1) dX6_step_100 (by decide) ?_
                refine wq_goto hC dX6_step_101 (tgt := 105) (by decide) ?_
                have h := Option.some.inj h
                subst h
                exact wq_iret hC dX6_step_105 K.1 K.2
            · have h := wq_in_ z15 h
              by_cases z19 : x2 = 5
              · have h := wq_ip z19 h
                refine wq_tableIn hC dX6_step_12 (tgt := 106) (by rw [z19]; decide) (by rw [z19]; decide) (off := 94) (by rw [z19]; decide) (by decide) ?_
                refine wq_aload_n hC dX6_step_106 (i := 0) rfl rfl ?_
                refine gf_6 hC oC_0 2 (.ref (E.2.1 20)) (by decide) rfl tw_237 dX6_step_107 ?_
                refine wq_iload_n hC dX6_step_110 (i := 1) rfl rfl ?_
                obtain ⟨r20, hc21, h⟩ := wq_ob h
                refine cv_5 hC (ctX5_sectionLength (d := d - 1) (by omega) W_20 hc21) (by omega) (by decide) W_20.1 rfl rfl npX5_sectionLength tw_541 tw_542 tw_543 tw_544 (st := []) (Nat.le_of_ble_eq_true rfl) rfl dX6_step_111 (st1 := [.int r20]) rfl ?_
                have h := Option.some.inj h
                subst h
                exact wq_iret hC dX6_step_114 K.1 K.2
              · have h := wq_in_ z19 h
                refine wq_tableOut hC dX6_step_12 (tgt := 115) (by have := lv_neT z4 (show (0 : Int32).toInt = 0 by decide); have := lv_neT z6 (show (1 : Int32).toInt = 1 by decide); have := lv_neT z9 (show (2 : Int32).toInt = 2 by decide); have := lv_neT z12 (show (3 : Int32).toInt = 3 by decide); have := lv_neT z15 (show (4 : Int32).toInt = 4 by decide); have := lv_neT z19 (show (5 : Int32).toInt = 5 by decide); omega) (by decide) ?_
                refine wq_ldc hC (v := (-1000001)) tw_270 dX6_step_115 ?_
                have h := Option.some.inj h
                subst h
                exact wq_iret hC dX6_step_117 K.1 K.2
  · have h := wq_in_ z3 h
    refine wq_ldc hC (v := (-1000001)) tw_270 dX6_step_8 ?_
    have h := Option.some.inj h
    subst h
    exact wq_iret hC dX6_step_10 K.1 K.2
theorem npX6_bears : yX6_bears.cls ≠ "java/lang/invoke/MethodHandle" ∧ yX6_bears.cls ≠ "java/lang/invoke/VarHandle" ∧ (parseMethodDescriptor yX6_bears.desc).map (fun d => d.parameters.length) = some 2 := by decide +kernel
def fX6_bears (x1 : Int32) (x2 : Int32) (M : wq_M) : Option Int32 :=
  (fX6_isStep x1 M).bind fun r1 => (if r1 = true then
    (if x2 < 0 then
      some (-1000001)
    else
      (if x2 ≤ 2 then
        if wq_in x1 8 then (if (M.1 24 x1.toNatClampNeg) = (-1) then
          some (-1000002)
        else
          (if x2 = 0 then (fX5_burstBorne 20 (M.1 24 x1.toNatClampNeg) M).bind fun r9 => some r9 else if x2 = 1 then (fX5_pullLoad 20 x1 M).bind fun r12 => (fX5_crushBorne 20 (M.1 24 x1.toNatClampNeg) r12 M).bind fun r14 => some r14 else (fX5_pullBorne 20 (M.1 24 x1.toNatClampNeg) M).bind fun r16 => some r16)) else none
      else
        some (-1000001)))
  else
    some (-1000001))
set_option maxHeartbeats 4000000 in
set_option maxRecDepth 100000 in
theorem ctX6_bears {l : Launch} {E : wq_E} {d : Nat} (hd0 : 3 ≤ d) {x1 : Int32} {x2 : Int32} {M : wq_M} {r : Int32}  (h : fX6_bears x1 x2 M = some r) : wq_ct l E wq_yC yX6_bears cX6_bears 4 (some .int) d [.ref (E.2.1 0), .int x1, .int x2] M (some (.int r)) M := by
  refine wq_ent (own := "WellPipes") (lv0 := [some (.ref (E.2.1 0)), some (.int x1), some (.int x2), none]) (by decide +kernel) rfl (Nat.le_of_ble_eq_true rfl) rfl (fun g h1 h2 hC => ?_)
  have K : wq_ki g M r := ⟨h1, h2⟩
  unfold fX6_bears at h
  refine wq_aload_n hC dX6_bears_0 (i := 0) rfl rfl ?_
  refine wq_iload_n hC dX6_bears_1 (i := 1) rfl rfl ?_
  obtain ⟨r1, hc2, h⟩ := wq_ob h
  refine cv_6 hC (ctX6_isStep (d := d - 1) (by omega)  hc2) (by omega) (by decide) oC_0 rfl rfl npX6_isStep tw_406 tw_408 tw_10 tw_409 (st := []) (Nat.le_of_ble_eq_true rfl) rfl dX6_bears_2 (st1 := [.int (wq_b r1)]) rfl ?_
  refine wq_bif_eq hC dX6_bears_5 (tgt := 17) (by decide) (fun z3 => ?_) (fun z3 => ?_)
  · have h := wq_in_ z3 h
    refine wq_ldc hC (v := (-1000001)) tw_270 dX6_bears_17 ?_
    have h := Option.some.inj h
    subst h
    exact wq_iret hC dX6_bears_19 K.1 K.2
  · have h := wq_ip z3 h
    refine wq_iload_n hC dX6_bears_8 (i := 2) rfl rfl ?_
    refine wq_if_lt hC dX6_bears_9 (tgt := 17) (by decide) (fun z4 => ?_) (fun z4 => ?_)
    · have h := wq_ip z4 h
      refine wq_ldc hC (v := (-1000001)) tw_270 dX6_bears_17 ?_
      have h := Option.some.inj h
      subst h
      exact wq_iret hC dX6_bears_19 K.1 K.2
    · have h := wq_in_ z4 h
      refine wq_iload_n hC dX6_bears_12 (i := 2) rfl rfl ?_
      refine wq_iconst hC (v := 2) dX6_bears_13 (by decide) ?_
      refine wq_icmp_le hC dX6_bears_14 (tgt := 20) (by decide) (fun z5 => ?_) (fun z5 => ?_)
      · have h := wq_ip z5 h
        refine wq_aload_n hC dX6_bears_20 (i := 0) rfl rfl ?_
        refine gf_6 hC oC_0 2 (.ref (E.2.1 20)) (by decide) rfl tw_237 dX6_bears_21 ?_
        refine gf_5 hC W_20.1 5 (.ref (E.2.1 24)) (by decide) rfl tw_127 dX6_bears_24 ?_
        refine wq_iload_n hC dX6_bears_27 (i := 1) rfl rfl ?_
        obtain ⟨z6, h⟩ := wq_ii h
        refine wq_ald hC aC_24 z6 dX6_bears_28 ?_
        refine wq_istore_n hC dX6_bears_29 (i := 3) (lv' := [some (.ref (E.2.1 0)), some (.int x1), some (.int x2), some (.int (M.1 24 x1.toNatClampNeg))]) rfl (by decide) rfl ?_
        refine wq_iload_n hC dX6_bears_30 (i := 3) rfl rfl ?_
        refine wq_iconst hC (v := (-1)) dX6_bears_31 (by decide) ?_
        refine wq_icmp_ne hC dX6_bears_32 (tgt := 38) (by decide) (fun z7 => ?_) (fun z7 => ?_)
        · have h := wq_in_ z7 h
          refine wq_iload_n hC dX6_bears_38 (i := 2) rfl rfl ?_
          by_cases z8 : x2 = 0
          · have h := wq_ip z8 h
            refine wq_lookup hC dX6_bears_39 (tgt := 64) (by decide) (off := 25) (by rw [z8]; decide) (by decide) ?_
            refine wq_aload_n hC dX6_bears_64 (i := 0) rfl rfl ?_
            refine gf_6 hC oC_0 2 (.ref (E.2.1 20)) (by decide) rfl tw_237 dX6_bears_65 ?_
            refine wq_iload_n hC dX6_bears_68 (i := 3) rfl rfl ?_
            obtain ⟨r9, hc10, h⟩ := wq_ob h
            refine cv_5 hC (ctX5_burstBorne (d := d - 1) (by omega) W_20 hc10) (by omega) (by decide) W_20.1 rfl rfl npX5_burstBorne tw_549 tw_460 tw_461 tw_462 (st := []) (Nat.le_of_ble_eq_true rfl) rfl dX6_bears_69 (st1 := [.int r9]) rfl ?_
            have h := Option.some.inj h
            subst h
            exact wq_iret hC dX6_bears_72 K.1 K.2
          · have h := wq_in_ z8 h
            by_cases z11 : x2 = 1
            · have h := wq_ip z11 h
              refine wq_lookup hC dX6_bears_39 (tgt := 73) (by decide) (off := 34) (by rw [z11]; decide) (by decide) ?_
              refine wq_aload_n hC dX6_bears_73 (i := 0) rfl rfl ?_
              refine gf_6 hC oC_0 2 (.ref (E.2.1 20)) (by decide) rfl tw_237 dX6_bears_74 ?_
              refine wq_iload_n hC dX6_bears_77 (i := 3) rfl rfl ?_
              refine wq_aload_n hC dX6_bears_78 (i := 0) rfl rfl ?_
              refine gf_6 hC oC_0 2 (.ref (E.2.1 20)) (by decide) rfl tw_237 dX6_bears_79 ?_
              refine wq_iload_n hC dX6_bears_82 (i := 1) rfl rfl ?_
              obtain ⟨r12, hc13, h⟩ := wq_ob h
              refine cv_5 hC (ctX5_pullLoad (d := d - 1) (by omega) W_20 hc13) (by omega) (by decide) W_20.1 rfl rfl npX5_pullLoad tw_527 tw_528 tw_529 tw_530 (st := [.int (M.1 24 x1.toNatClampNeg), .ref (E.2.1 20)]) (Nat.le_of_ble_eq_true rfl) rfl dX6_bears_83 (st1 := [.int r12, .int (M.1 24 x1.toNatClampNeg), .ref (E.2.1 20)]) rfl ?_
              obtain ⟨r14, hc15, h⟩ := wq_ob h
              refine cv_5 hC (ctX5_crushBorne (d := d - 1) (by omega) W_20 hc15) (by omega) (by decide) W_20.1 rfl rfl npX5_crushBorne tw_550 tw_474 tw_475 tw_476 (st := []) (Nat.le_of_ble_eq_true rfl) rfl dX6_bears_86 (st1 := [.int r14]) rfl ?_
              have h := Option.some.inj h
              subst h
              exact wq_iret hC dX6_bears_89 K.1 K.2
            · have h := wq_in_ z11 h
              refine wq_lookup hC dX6_bears_39 (tgt := 90) (by decide) (off := 51) (by show Op.lookupswitch.offset [(0, 25), (1, 34)] _ _ = _; rw [lv_osw z8 (by decide)]; rw [lv_osw z11 (by decide)]; rfl) (by decide) ?_
              refine wq_aload_n hC dX6_bears_90 (i := 0) rfl rfl ?_
              refine gf_6 hC oC_0 2 (.ref (E.2.1 20)) (by decide) rfl tw_237 dX6_bears_91 ?_
              refine wq_iload_n hC dX6_bears_94 (i := 3) rfl rfl ?_
              obtain ⟨r16, hc17, h⟩ := wq_ob h
              refine cv_5 hC (ctX5_pullBorne (d := d - 1) (by omega) W_20 hc17) (by omega) (by decide) W_20.1 rfl rfl npX5_pullBorne tw_551 tw_470 tw_471 tw_472 (st := []) (Nat.le_of_ble_eq_true rfl) rfl dX6_bears_95 (st1 := [.int r16]) rfl ?_
              have h := Option.some.inj h
              subst h
              exact wq_iret hC dX6_bears_98 K.1 K.2
        · have h := wq_ip z7 h
          refine wq_ldc hC (v := (-1000002)) tw_392 dX6_bears_35 ?_
          have h := Option.some.inj h
          subst h
          exact wq_iret hC dX6_bears_37 K.1 K.2
      · have h := wq_in_ z5 h
        refine wq_ldc hC (v := (-1000001)) tw_270 dX6_bears_17 ?_
        have h := Option.some.inj h
        subst h
        exact wq_iret hC dX6_bears_19 K.1 K.2
theorem npX6_stand : yX6_stand.cls ≠ "java/lang/invoke/MethodHandle" ∧ yX6_stand.cls ≠ "java/lang/invoke/VarHandle" ∧ (parseMethodDescriptor yX6_stand.desc).map (fun d => d.parameters.length) = some 1 := by decide +kernel
def fX6_stand (x1 : Int32) (M : wq_M) : Option Int32 :=
  (fX6_hasNoWell  M).bind fun r1 => (if r1 = true then
    some (-1000002)
  else
    (if x1 = 0 then some (M.1 20 0) else if x1 = 1 then if wq_in 3 4 then some (M.1 21 (3 : Int32).toNatClampNeg) else none else if x1 = 2 then if wq_in 0 4 then some (M.1 21 (0 : Int32).toNatClampNeg) else none else if x1 = 3 then if wq_in 1 4 then some (M.1 21 (1 : Int32).toNatClampNeg) else none else if x1 = 4 then if wq_in 2 4 then some (M.1 21 (2 : Int32).toNatClampNeg) else none else if x1 = 5 then (fX5_sumOfLaid 20 4 M).bind fun r14 => some r14 else if x1 = 6 then (fX5_sumOfLaid 20 3 M).bind fun r17 => some r17 else if x1 = 7 then (fX5_firstThatFails 20 M).bind fun r20 => some r20 else if x1 = 8 then (fX5_isSound 20 M).bind fun r23 => (if r23 = true then
                        some 1
                      else
                        some 0) else some (-1000001)))
set_option maxHeartbeats 4000000 in
set_option maxRecDepth 100000 in
theorem ctX6_stand {l : Launch} {E : wq_E} {d : Nat} (hd0 : 7 ≤ d) {x1 : Int32} {M : wq_M} {r : Int32}  (h : fX6_stand x1 M = some r) : wq_ct l E wq_yC yX6_stand cX6_stand 2 (some .int) d [.ref (E.2.1 0), .int x1] M (some (.int r)) M := by
  refine wq_ent (own := "WellPipes") (lv0 := [some (.ref (E.2.1 0)), some (.int x1)]) (by decide +kernel) rfl (Nat.le_of_ble_eq_true rfl) rfl (fun g h1 h2 hC => ?_)
  have K : wq_ki g M r := ⟨h1, h2⟩
  unfold fX6_stand at h
  refine wq_aload_n hC dX6_stand_0 (i := 0) rfl rfl ?_
  obtain ⟨r1, hc2, h⟩ := wq_ob h
  refine cv_6 hC (ctX6_hasNoWell (d := d - 1) (by omega)  hc2) (by omega) (by decide) oC_0 rfl rfl npX6_hasNoWell tw_427 tw_429 tw_12 tw_430 (st := []) (Nat.le_of_ble_eq_true rfl) rfl dX6_stand_1 (st1 := [.int (wq_b r1)]) rfl ?_
  refine wq_bif_eq hC dX6_stand_4 (tgt := 10) (by decide) (fun z3 => ?_) (fun z3 => ?_)
  · have h := wq_in_ z3 h
    refine wq_iload_n hC dX6_stand_10 (i := 1) rfl rfl ?_
    by_cases z4 : x1 = 0
    · have h := wq_ip z4 h
      refine wq_tableIn hC dX6_stand_11 (tgt := 60) (by rw [z4]; decide) (by rw [z4]; decide) (off := 49) (by rw [z4]; decide) (by decide) ?_
      refine wq_aload_n hC dX6_stand_60 (i := 0) rfl rfl ?_
      refine gf_6 hC oC_0 2 (.ref (E.2.1 20)) (by decide) rfl tw_237 dX6_stand_61 ?_
      refine gf_5 hC W_20.1 0 (.int (M.1 20 0)) (by decide) rfl tw_110 dX6_stand_64 ?_
      have h := Option.some.inj h
      subst h
      exact wq_iret hC dX6_stand_67 K.1 K.2
    · have h := wq_in_ z4 h
      by_cases z5 : x1 = 1
      · have h := wq_ip z5 h
        refine wq_tableIn hC dX6_stand_11 (tgt := 68) (by rw [z5]; decide) (by rw [z5]; decide) (off := 57) (by rw [z5]; decide) (by decide) ?_
        refine wq_aload_n hC dX6_stand_68 (i := 0) rfl rfl ?_
        refine gf_6 hC oC_0 2 (.ref (E.2.1 20)) (by decide) rfl tw_237 dX6_stand_69 ?_
        refine gf_5 hC W_20.1 2 (.ref (E.2.1 21)) (by decide) rfl tw_119 dX6_stand_72 ?_
        refine wq_iconst hC (v := 3) dX6_stand_75 (by decide) ?_
        obtain ⟨z6, h⟩ := wq_ii h
        refine wq_ald hC aC_21 z6 dX6_stand_76 ?_
        have h := Option.some.inj h
        subst h
        exact wq_iret hC dX6_stand_77 K.1 K.2
      · have h := wq_in_ z5 h
        by_cases z7 : x1 = 2
        · have h := wq_ip z7 h
          refine wq_tableIn hC dX6_stand_11 (tgt := 78) (by rw [z7]; decide) (by rw [z7]; decide) (off := 67) (by rw [z7]; decide) (by decide) ?_
          refine wq_aload_n hC dX6_stand_78 (i := 0) rfl rfl ?_
          refine gf_6 hC oC_0 2 (.ref (E.2.1 20)) (by decide) rfl tw_237 dX6_stand_79 ?_
          refine gf_5 hC W_20.1 2 (.ref (E.2.1 21)) (by decide) rfl tw_119 dX6_stand_82 ?_
          refine wq_iconst hC (v := 0) dX6_stand_85 (by decide) ?_
          obtain ⟨z8, h⟩ := wq_ii h
          refine wq_ald hC aC_21 z8 dX6_stand_86 ?_
          have h := Option.some.inj h
          subst h
          exact wq_iret hC dX6_stand_87 K.1 K.2
        · have h := wq_in_ z7 h
          by_cases z9 : x1 = 3
          · have h := wq_ip z9 h
            refine wq_tableIn hC dX6_stand_11 (tgt := 88) (by rw [z9]; decide) (by rw [z9]; decide) (off := 77) (by rw [z9]; decide) (by decide) ?_
            refine wq_aload_n hC dX6_stand_88 (i := 0) rfl rfl ?_
            refine gf_6 hC oC_0 2 (.ref (E.2.1 20)) (by decide) rfl tw_237 dX6_stand_89 ?_
            refine gf_5 hC W_20.1 2 (.ref (E.2.1 21)) (by decide) rfl tw_119 dX6_stand_92 ?_
            refine wq_iconst hC (v := 1) dX6_stand_95 (by decide) ?_
            obtain ⟨z10, h⟩ := wq_ii h
            refine wq_ald hC aC_21 z10 dX6_stand_96 ?_
            have h := Option.some.inj h
            subst h
            exact wq_iret hC dX6_stand_97 K.1 K.2
          · have h := wq_in_ z9 h
            by_cases z11 : x1 = 4
            · have h := wq_ip z11 h
              refine wq_tableIn hC dX6_stand_11 (tgt := 98) (by rw [z11]; decide) (by rw [z11]; decide) (off := 87) (by rw [z11]; decide) (by decide) ?_
              refine wq_aload_n hC dX6_stand_98 (i := 0) rfl rfl ?_
              refine gf_6 hC oC_0 2 (.ref (E.2.1 20)) (by decide) rfl tw_237 dX6_stand_99 ?_
              refine gf_5 hC W_20.1 2 (.ref (E.2.1 21)) (by decide) rfl tw_119 dX6_stand_102 ?_
              refine wq_iconst hC (v := 2) dX6_stand_105 (by decide) ?_
              obtain ⟨z12, h⟩ := wq_ii h
              refine wq_ald hC aC_21 z12 dX6_stand_106 ?_
              have h := Option.some.inj h
              subst h
              exact wq_iret hC dX6_stand_107 K.1 K.2
            · have h := wq_in_ z11 h
              by_cases z13 : x1 = 5
              · have h := wq_ip z13 h
                refine wq_tableIn hC dX6_stand_11 (tgt := 108) (by rw [z13]; decide) (by rw [z13]; decide) (off := 97) (by rw [z13]; decide) (by decide) ?_
                refine wq_aload_n hC dX6_stand_108 (i := 0) rfl rfl ?_
                refine gf_6 hC oC_0 2 (.ref (E.2.1 20)) (by decide) rfl tw_237 dX6_stand_109 ?_
                refine wq_iconst hC (v := 4) dX6_stand_112 (by decide) ?_
                obtain ⟨r14, hc15, h⟩ := wq_ob h
                refine cv_5 hC (ctX5_sumOfLaid (d := d - 1) (by omega) W_20 hc15) (by omega) (by decide) W_20.1 rfl rfl npX5_sumOfLaid tw_556 tw_557 tw_558 tw_559 (st := []) (Nat.le_of_ble_eq_true rfl) rfl dX6_stand_113 (st1 := [.int r14]) rfl ?_
                have h := Option.some.inj h
                subst h
                exact wq_iret hC dX6_stand_116 K.1 K.2
              · have h := wq_in_ z13 h
                by_cases z16 : x1 = 6
                · have h := wq_ip z16 h
                  refine wq_tableIn hC dX6_stand_11 (tgt := 117) (by rw [z16]; decide) (by rw [z16]; decide) (off := 106) (by rw [z16]; decide) (by decide) ?_
                  refine wq_aload_n hC dX6_stand_117 (i := 0) rfl rfl ?_
                  refine gf_6 hC oC_0 2 (.ref (E.2.1 20)) (by decide) rfl tw_237 dX6_stand_118 ?_
                  refine wq_iconst hC (v := 3) dX6_stand_121 (by decide) ?_
                  obtain ⟨r17, hc18, h⟩ := wq_ob h
                  refine cv_5 hC (ctX5_sumOfLaid (d := d - 1) (by omega) W_20 hc18) (by omega) (by decide) W_20.1 rfl rfl npX5_sumOfLaid tw_556 tw_557 tw_558 tw_559 (st := []) (Nat.le_of_ble_eq_true rfl) rfl dX6_stand_122 (st1 := [.int r17]) rfl ?_
                  have h := Option.some.inj h
                  subst h
                  exact wq_iret hC dX6_stand_125 K.1 K.2
                · have h := wq_in_ z16 h
                  by_cases z19 : x1 = 7
                  · have h := wq_ip z19 h
                    refine wq_tableIn hC dX6_stand_11 (tgt := 126) (by rw [z19]; decide) (by rw [z19]; decide) (off := 115) (by rw [z19]; decide) (by decide) ?_
                    refine wq_aload_n hC dX6_stand_126 (i := 0) rfl rfl ?_
                    refine gf_6 hC oC_0 2 (.ref (E.2.1 20)) (by decide) rfl tw_237 dX6_stand_127 ?_
                    obtain ⟨r20, hc21, h⟩ := wq_ob h
                    refine cv_5 hC (ctX5_firstThatFails (d := d - 1) (by omega) W_20 hc21) (by omega) (by decide) W_20.1 rfl rfl npX5_firstThatFails tw_560 tw_561 tw_562 tw_563 (st := []) (Nat.le_of_ble_eq_true rfl) rfl dX6_stand_130 (st1 := [.int r20]) rfl ?_
                    have h := Option.some.inj h
                    subst h
                    exact wq_iret hC dX6_stand_133 K.1 K.2
                  · have h := wq_in_ z19 h
                    by_cases z22 : x1 = 8
                    · have h := wq_ip z22 h
                      refine wq_tableIn hC dX6_stand_11 (tgt := 134) (by rw [z22]; decide) (by rw [z22]; decide) (off := 123) (by rw [z22]; decide) (by decide) ?_
                      refine wq_aload_n hC dX6_stand_134 (i := 0) rfl rfl ?_
                      refine gf_6 hC oC_0 2 (.ref (E.2.1 20)) (by decide) rfl tw_237 dX6_stand_135 ?_
                      obtain ⟨r23, hc24, h⟩ := wq_ob h
                      refine cv_5 hC (ctX5_isSound (d := d - 1) (by omega) W_20 hc24) (by omega) (by decide) W_20.1 rfl rfl npX5_isSound tw_566 tw_567 tw_568 tw_569 (st := []) (Nat.le_of_ble_eq_true rfl) rfl dX6_stand_138 (st1 := [.int (wq_b r23)]) rfl ?_
                      refine wq_bif_eq hC dX6_stand_141 (tgt := 148) (by decide) (fun z25 => ?_) (fun z25 => ?_)
                      · have h := wq_in_ z25 h
                        refine wq_iconst hC (v := 0) dX6_stand_148 (by decide) ?_
                        have h := Option.some.inj h
                        subst h
                        exact wq_iret hC dX6_stand_149 K.1 K.2
                      · have h := wq_ip z25 h
                        refine wq_iconst hC (v := 1) dX6_stand_144 (by decide) ?_
                        refine wq_goto hC dX6_stand_145 (tgt := 149) (by decide) ?_
                        have h := Option.some.inj h
                        subst h
                        exact wq_iret hC dX6_stand_149 K.1 K.2
                    · have h := wq_in_ z22 h
                      refine wq_tableOut hC dX6_stand_11 (tgt := 150) (by have := lv_neT z4 (show (0 : Int32).toInt = 0 by decide); have := lv_neT z5 (show (1 : Int32).toInt = 1 by decide); have := lv_neT z7 (show (2 : Int32).toInt = 2 by decide); have := lv_neT z9 (show (3 : Int32).toInt = 3 by decide); have := lv_neT z11 (show (4 : Int32).toInt = 4 by decide); have := lv_neT z13 (show (5 : Int32).toInt = 5 by decide); have := lv_neT z16 (show (6 : Int32).toInt = 6 by decide); have := lv_neT z19 (show (7 : Int32).toInt = 7 by decide); have := lv_neT z22 (show (8 : Int32).toInt = 8 by decide); omega) (by decide) ?_
                      refine wq_ldc hC (v := (-1000001)) tw_270 dX6_stand_150 ?_
                      have h := Option.some.inj h
                      subst h
                      exact wq_iret hC dX6_stand_152 K.1 K.2
  · have h := wq_ip z3 h
    refine wq_ldc hC (v := (-1000002)) tw_392 dX6_stand_7 ?_
    have h := Option.some.inj h
    subst h
    exact wq_iret hC dX6_stand_9 K.1 K.2
theorem npX6_best : yX6_best.cls ≠ "java/lang/invoke/MethodHandle" ∧ yX6_best.cls ≠ "java/lang/invoke/VarHandle" ∧ (parseMethodDescriptor yX6_best.desc).map (fun d => d.parameters.length) = some 1 := by decide +kernel
def fX6_best_J42 (x1 : Int32) (M : wq_M) : Option (Int32 × wq_M) :=
  (fX4_find 20 (-1000000) M).bind fun r5 => (if r5.1 = true then
    (if x1 = 0 then some ((r5.2.1 41 1), r5.2) else if x1 = 1 then some ((r5.2.1 41 2), r5.2) else if wq_in (x1 - 10) 8 then some ((r5.2.1 42 (x1 - 10).toNatClampNeg), r5.2) else none)
  else
    some ((-1000000), r5.2))
set_option maxHeartbeats 4000000 in
set_option maxRecDepth 100000 in
theorem gX6_best_J42 {g : wq_G} {E : wq_E} {d : Nat} (hC : wq_C g E wq_yC cX6_best 2 "WellPipes" (some .int) d) (hd0 : 6 ≤ d) (x1 : Int32) (M : wq_M)  {x : (Int32 × wq_M)} (h : fX6_best_J42 x1 M = some x) (K : (wq_kI g) x) : wq_g g E wq_yC 2 42 [some (.ref (E.2.1 0)), some (.int x1)] [] M := by
  unfold fX6_best_J42 at h
  refine wq_aload_n hC dX6_best_42 (i := 0) rfl rfl ?_
  refine gf_6 hC oC_0 5 (.ref (E.2.1 41)) (by decide) rfl tw_240 dX6_best_43 ?_
  refine wq_aload_n hC dX6_best_46 (i := 0) rfl rfl ?_
  refine gf_6 hC oC_0 2 (.ref (E.2.1 20)) (by decide) rfl tw_237 dX6_best_47 ?_
  refine wq_ldc hC (v := (-1000000)) tw_431 dX6_best_50 ?_
  obtain ⟨r5, hc6, h⟩ := wq_ob h
  refine cv_4 hC (ctX4_find (d := d - 1) (by omega) W_20 hc6) (by omega) (by decide) oC_41 rfl rfl npX4_find tw_432 tw_433 tw_434 tw_435 (st := []) (Nat.le_of_ble_eq_true rfl) rfl dX6_best_52 (st1 := [.int (wq_b r5.1)]) rfl ?_
  refine wq_bif_ne hC dX6_best_55 (tgt := 61) (by decide) (fun z7 => ?_) (fun z7 => ?_)
  · have h := wq_ip z7 h
    refine wq_iload_n hC dX6_best_61 (i := 1) rfl rfl ?_
    by_cases z8 : x1 = 0
    · have h := wq_ip z8 h
      refine wq_lookup hC dX6_best_62 (tgt := 88) (by decide) (off := 26) (by rw [z8]; decide) (by decide) ?_
      refine wq_aload_n hC dX6_best_88 (i := 0) rfl rfl ?_
      refine gf_6 hC oC_0 5 (.ref (E.2.1 41)) (by decide) rfl tw_240 dX6_best_89 ?_
      refine gf_4 hC oC_41 1 (.int (r5.2.1 41 1)) (by decide) rfl tw_151 dX6_best_92 ?_
      have h := Option.some.inj h
      subst h
      exact wq_iret hC dX6_best_95 K.1 K.2
    · have h := wq_in_ z8 h
      by_cases z9 : x1 = 1
      · have h := wq_ip z9 h
        refine wq_lookup hC dX6_best_62 (tgt := 96) (by decide) (off := 34) (by rw [z9]; decide) (by decide) ?_
        refine wq_aload_n hC dX6_best_96 (i := 0) rfl rfl ?_
        refine gf_6 hC oC_0 5 (.ref (E.2.1 41)) (by decide) rfl tw_240 dX6_best_97 ?_
        refine gf_4 hC oC_41 2 (.int (r5.2.1 41 2)) (by decide) rfl tw_153 dX6_best_100 ?_
        have h := Option.some.inj h
        subst h
        exact wq_iret hC dX6_best_103 K.1 K.2
      · have h := wq_in_ z9 h
        refine wq_lookup hC dX6_best_62 (tgt := 104) (by decide) (off := 42) (by show Op.lookupswitch.offset [(0, 26), (1, 34)] _ _ = _; rw [lv_osw z8 (by decide)]; rw [lv_osw z9 (by decide)]; rfl) (by decide) ?_
        refine wq_aload_n hC dX6_best_104 (i := 0) rfl rfl ?_
        refine gf_6 hC oC_0 5 (.ref (E.2.1 41)) (by decide) rfl tw_240 dX6_best_105 ?_
        refine gf_4 hC oC_41 0 (.ref (E.2.1 42)) (by decide) rfl tw_149 dX6_best_108 ?_
        refine wq_iload_n hC dX6_best_111 (i := 1) rfl rfl ?_
        refine wq_bipush hC (v := 10) dX6_best_112 (by decide) ?_
        refine wq_isub hC dX6_best_114 ?_
        obtain ⟨z10, h⟩ := wq_ii h
        refine wq_ald hC aC_42 z10 dX6_best_115 ?_
        have h := Option.some.inj h
        subst h
        exact wq_iret hC dX6_best_116 K.1 K.2
  · have h := wq_in_ z7 h
    refine wq_ldc hC (v := (-1000000)) tw_431 dX6_best_58 ?_
    have h := Option.some.inj h
    subst h
    exact wq_iret hC dX6_best_60 K.1 K.2
def fX6_best (x1 : Int32) (M : wq_M) : Option (Int32 × wq_M) :=
  (fX6_hasNoWell  M).bind fun r1 => (if r1 = true then
    some ((-1000002), M)
  else
    (if x1 = 0 then
      fX6_best_J42 x1 M
    else
      (if x1 = 1 then
        fX6_best_J42 x1 M
      else
        (if x1 < 10 then
          some ((-1000001), M)
        else
          (if (x1 - 10) < (M.1 20 0) then
            fX6_best_J42 x1 M
          else
            some ((-1000001), M))))))
set_option maxHeartbeats 4000000 in
set_option maxRecDepth 100000 in
theorem ctX6_best {l : Launch} {E : wq_E} {d : Nat} (hd0 : 6 ≤ d) {x1 : Int32} {M : wq_M} {r : (Int32 × wq_M)}  (h : fX6_best x1 M = some r) : wq_ct l E wq_yC yX6_best cX6_best 2 (some .int) d [.ref (E.2.1 0), .int x1] M (some (.int r.1)) r.2 := by
  refine wq_ent (own := "WellPipes") (lv0 := [some (.ref (E.2.1 0)), some (.int x1)]) (by decide +kernel) rfl (Nat.le_of_ble_eq_true rfl) rfl (fun g h1 h2 hC => ?_)
  have K : wq_kI g r := ⟨h1, h2⟩
  unfold fX6_best at h
  refine wq_aload_n hC dX6_best_0 (i := 0) rfl rfl ?_
  obtain ⟨r1, hc2, h⟩ := wq_ob h
  refine cv_6 hC (ctX6_hasNoWell (d := d - 1) (by omega)  hc2) (by omega) (by decide) oC_0 rfl rfl npX6_hasNoWell tw_427 tw_429 tw_12 tw_430 (st := []) (Nat.le_of_ble_eq_true rfl) rfl dX6_best_1 (st1 := [.int (wq_b r1)]) rfl ?_
  refine wq_bif_eq hC dX6_best_4 (tgt := 10) (by decide) (fun z3 => ?_) (fun z3 => ?_)
  · have h := wq_in_ z3 h
    refine wq_iload_n hC dX6_best_10 (i := 1) rfl rfl ?_
    refine wq_if_eq hC dX6_best_11 (tgt := 42) (by decide) (fun z4 => ?_) (fun z4 => ?_)
    · have h := wq_ip z4 h
      exact gX6_best_J42 hC hd0 x1 M  h K
    · have h := wq_in_ z4 h
      refine wq_iload_n hC dX6_best_14 (i := 1) rfl rfl ?_
      refine wq_iconst hC (v := 1) dX6_best_15 (by decide) ?_
      refine wq_icmp_eq hC dX6_best_16 (tgt := 42) (by decide) (fun z11 => ?_) (fun z11 => ?_)
      · have h := wq_ip z11 h
        exact gX6_best_J42 hC hd0 x1 M  h K
      · have h := wq_in_ z11 h
        refine wq_iload_n hC dX6_best_19 (i := 1) rfl rfl ?_
        refine wq_bipush hC (v := 10) dX6_best_20 (by decide) ?_
        refine wq_icmp_lt hC dX6_best_22 (tgt := 39) (by decide) (fun z12 => ?_) (fun z12 => ?_)
        · have h := wq_ip z12 h
          refine wq_ldc hC (v := (-1000001)) tw_270 dX6_best_39 ?_
          have h := Option.some.inj h
          subst h
          exact wq_iret hC dX6_best_41 K.1 K.2
        · have h := wq_in_ z12 h
          refine wq_iload_n hC dX6_best_25 (i := 1) rfl rfl ?_
          refine wq_bipush hC (v := 10) dX6_best_26 (by decide) ?_
          refine wq_isub hC dX6_best_28 ?_
          refine wq_aload_n hC dX6_best_29 (i := 0) rfl rfl ?_
          refine gf_6 hC oC_0 2 (.ref (E.2.1 20)) (by decide) rfl tw_237 dX6_best_30 ?_
          refine gf_5 hC W_20.1 0 (.int (M.1 20 0)) (by decide) rfl tw_110 dX6_best_33 ?_
          refine wq_icmp_lt hC dX6_best_36 (tgt := 42) (by decide) (fun z13 => ?_) (fun z13 => ?_)
          · have h := wq_ip z13 h
            exact gX6_best_J42 hC hd0 x1 M  h K
          · have h := wq_in_ z13 h
            refine wq_ldc hC (v := (-1000001)) tw_270 dX6_best_39 ?_
            have h := Option.some.inj h
            subst h
            exact wq_iret hC dX6_best_41 K.1 K.2
  · have h := wq_ip z3 h
    refine wq_ldc hC (v := (-1000002)) tw_392 dX6_best_7 ?_
    have h := Option.some.inj h
    subst h
    exact wq_iret hC dX6_best_9 K.1 K.2
theorem npX6_without : yX6_without.cls ≠ "java/lang/invoke/MethodHandle" ∧ yX6_without.cls ≠ "java/lang/invoke/VarHandle" ∧ (parseMethodDescriptor yX6_without.desc).map (fun d => d.parameters.length) = some 1 := by decide +kernel
def fX6_without (x1 : Int32) (M : wq_M) : Option (Int32 × wq_M) :=
  (fX6_isGrade x1 M).bind fun r1 => (if r1 = true then
    (fX4_find 20 x1 M).bind fun r4 => (if r4.1 = true then
      some ((r4.2.1 41 1), r4.2)
    else
      some ((-1000000), r4.2))
  else
    some ((-1000001), M))
set_option maxHeartbeats 4000000 in
set_option maxRecDepth 100000 in
theorem ctX6_without {l : Launch} {E : wq_E} {d : Nat} (hd0 : 6 ≤ d) {x1 : Int32} {M : wq_M} {r : (Int32 × wq_M)}  (h : fX6_without x1 M = some r) : wq_ct l E wq_yC yX6_without cX6_without 2 (some .int) d [.ref (E.2.1 0), .int x1] M (some (.int r.1)) r.2 := by
  refine wq_ent (own := "WellPipes") (lv0 := [some (.ref (E.2.1 0)), some (.int x1)]) (by decide +kernel) rfl (Nat.le_of_ble_eq_true rfl) rfl (fun g h1 h2 hC => ?_)
  have K : wq_kI g r := ⟨h1, h2⟩
  unfold fX6_without at h
  refine wq_aload_n hC dX6_without_0 (i := 0) rfl rfl ?_
  refine wq_iload_n hC dX6_without_1 (i := 1) rfl rfl ?_
  obtain ⟨r1, hc2, h⟩ := wq_ob h
  refine cv_6 hC (ctX6_isGrade (d := d - 1) (by omega)  hc2) (by omega) (by decide) oC_0 rfl rfl npX6_isGrade tw_410 tw_412 tw_11 tw_413 (st := []) (Nat.le_of_ble_eq_true rfl) rfl dX6_without_2 (st1 := [.int (wq_b r1)]) rfl ?_
  refine wq_bif_ne hC dX6_without_5 (tgt := 11) (by decide) (fun z3 => ?_) (fun z3 => ?_)
  · have h := wq_ip z3 h
    refine wq_aload_n hC dX6_without_11 (i := 0) rfl rfl ?_
    refine gf_6 hC oC_0 5 (.ref (E.2.1 41)) (by decide) rfl tw_240 dX6_without_12 ?_
    refine wq_aload_n hC dX6_without_15 (i := 0) rfl rfl ?_
    refine gf_6 hC oC_0 2 (.ref (E.2.1 20)) (by decide) rfl tw_237 dX6_without_16 ?_
    refine wq_iload_n hC dX6_without_19 (i := 1) rfl rfl ?_
    obtain ⟨r4, hc5, h⟩ := wq_ob h
    refine cv_4 hC (ctX4_find (d := d - 1) (by omega) W_20 hc5) (by omega) (by decide) oC_41 rfl rfl npX4_find tw_432 tw_433 tw_434 tw_435 (st := []) (Nat.le_of_ble_eq_true rfl) rfl dX6_without_20 (st1 := [.int (wq_b r4.1)]) rfl ?_
    refine wq_bif_eq hC dX6_without_23 (tgt := 36) (by decide) (fun z6 => ?_) (fun z6 => ?_)
    · have h := wq_in_ z6 h
      refine wq_ldc hC (v := (-1000000)) tw_431 dX6_without_36 ?_
      have h := Option.some.inj h
      subst h
      exact wq_iret hC dX6_without_38 K.1 K.2
    · have h := wq_ip z6 h
      refine wq_aload_n hC dX6_without_26 (i := 0) rfl rfl ?_
      refine gf_6 hC oC_0 5 (.ref (E.2.1 41)) (by decide) rfl tw_240 dX6_without_27 ?_
      refine gf_4 hC oC_41 1 (.int (r4.2.1 41 1)) (by decide) rfl tw_151 dX6_without_30 ?_
      refine wq_goto hC dX6_without_33 (tgt := 38) (by decide) ?_
      have h := Option.some.inj h
      subst h
      exact wq_iret hC dX6_without_38 K.1 K.2
  · have h := wq_in_ z3 h
    refine wq_ldc hC (v := (-1000001)) tw_270 dX6_without_8 ?_
    have h := Option.some.inj h
    subst h
    exact wq_iret hC dX6_without_10 K.1 K.2
theorem npX6_most : yX6_most.cls ≠ "java/lang/invoke/MethodHandle" ∧ yX6_most.cls ≠ "java/lang/invoke/VarHandle" ∧ (parseMethodDescriptor yX6_most.desc).map (fun d => d.parameters.length) = some 1 := by decide +kernel
def fX6_most_L45 (x1 : Int32) : (Int32 × wq_M) → Option ((Int32 × wq_M) ⊕ ((Int32 × wq_M) ⊕ wq_M)) := fun s =>
  (if s.1 < 0 then
    some (.inr (.inr s.2))
  else
    if wq_in x1 4 then (fX5_firstThatFails 25 (wq_st s.2 26 x1.toNatClampNeg s.1)).bind fun r10 => (if r10 = (-1000000) then
      some (.inr (.inl (s.1, (wq_st s.2 26 x1.toNatClampNeg s.1))))
    else
      some (.inl ((s.1 + (-1)), (wq_st s.2 26 x1.toNatClampNeg s.1)))) else none)
set_option maxHeartbeats 4000000 in
set_option maxRecDepth 100000 in
theorem gX6_most_L45 {g : wq_G} {E : wq_E} {d : Nat} (hC : wq_C g E wq_yC cX6_most 3 "WellPipes" (some .int) d) (hd0 : 6 ≤ d) (x1 : Int32)  : ∀ (n : Nat) (s : (Int32 × wq_M)) (e : ((Int32 × wq_M) ⊕ wq_M)), wq_lp (fX6_most_L45 x1) n s = some e → (Sum.elim (wq_kI g) (fun (e : wq_M) => wq_g g E wq_yC 3 79 [none, none, none] [] e)) e → wq_g g E wq_yC 3 45 [some (.ref (E.2.1 0)), some (.int x1), some (.int s.1)] [] s.2 := by
  refine wq_lq_ok (fun (s : (Int32 × wq_M)) => wq_g g E wq_yC 3 45 [some (.ref (E.2.1 0)), some (.int x1), some (.int s.1)] [] s.2) (Sum.elim (wq_kI g) (fun (e : wq_M) => wq_g g E wq_yC 3 79 [none, none, none] [] e)) (fun s x h K => ?_)
  unfold fX6_most_L45 at h
  refine wq_iload_n hC dX6_most_45 (i := 2) rfl rfl ?_
  refine wq_if_lt hC dX6_most_46 (tgt := 79) (by decide) (fun z8 => ?_) (fun z8 => ?_)
  · have h := wq_ip z8 h
    have h := Option.some.inj h
    subst h
    refine wq_mask [false, false, false] (lv' := [none, none, none]) rfl ?_
    exact K
  · have h := wq_in_ z8 h
    refine wq_aload_n hC dX6_most_49 (i := 0) rfl rfl ?_
    refine gf_6 hC oC_0 3 (.ref (E.2.1 25)) (by decide) rfl tw_238 dX6_most_50 ?_
    refine gf_5 hC W_25.1 2 (.ref (E.2.1 26)) (by decide) rfl tw_119 dX6_most_53 ?_
    refine wq_iload_n hC dX6_most_56 (i := 1) rfl rfl ?_
    refine wq_iload_n hC dX6_most_57 (i := 2) rfl rfl ?_
    obtain ⟨z9, h⟩ := wq_ii h
    refine wq_ast hC aC_26 z9 dX6_most_58 ?_
    refine wq_aload_n hC dX6_most_59 (i := 0) rfl rfl ?_
    refine gf_6 hC oC_0 3 (.ref (E.2.1 25)) (by decide) rfl tw_238 dX6_most_60 ?_
    obtain ⟨r10, hc11, h⟩ := wq_ob h
    refine cv_5 hC (ctX5_firstThatFails (d := d - 1) (by omega) W_25 hc11) (by omega) (by decide) W_25.1 rfl rfl npX5_firstThatFails tw_560 tw_561 tw_562 tw_563 (st := []) (Nat.le_of_ble_eq_true rfl) rfl dX6_most_63 (st1 := [.int r10]) rfl ?_
    refine wq_ldc hC (v := (-1000000)) tw_431 dX6_most_66 ?_
    refine wq_icmp_ne hC dX6_most_68 (tgt := 73) (by decide) (fun z12 => ?_) (fun z12 => ?_)
    · have h := wq_in_ z12 h
      refine wq_iinc hC (v := (s.1 + (-1))) dX6_most_73 (lv' := [some (.ref (E.2.1 0)), some (.int x1), some (.int (s.1 + (-1)))]) rfl rfl (by decide) rfl ?_
      refine wq_goto hC dX6_most_76 (tgt := 45) (by decide) ?_
      have h := Option.some.inj h
      subst h
      exact K
    · have h := wq_ip z12 h
      refine wq_iload_n hC dX6_most_71 (i := 2) rfl rfl ?_
      have h := Option.some.inj h
      subst h
      exact wq_iret hC dX6_most_72 K.1 K.2
def fX6_most_J44 (x1 : Int32) (y0 : Int32) (M : wq_M) : Option (Int32 × wq_M) :=
  (wq_lp (fX6_most_L45 x1) wq_FU (y0, M)).bind fun e13 => Sum.elim (fun x => some x) (fun e13n => some ((-1000000), e13n)) e13
set_option maxHeartbeats 4000000 in
set_option maxRecDepth 100000 in
theorem gX6_most_J44 {g : wq_G} {E : wq_E} {d : Nat} (hC : wq_C g E wq_yC cX6_most 3 "WellPipes" (some .int) d) (hd0 : 6 ≤ d) (x1 : Int32) (y0 : Int32) (M : wq_M)  {x : (Int32 × wq_M)} (h : fX6_most_J44 x1 y0 M = some x) (K : (wq_kI g) x) : wq_g g E wq_yC 3 44 [some (.ref (E.2.1 0)), some (.int x1), none] [.int y0] M := by
  unfold fX6_most_J44 at h
  refine wq_istore_n hC dX6_most_44 (i := 2) (lv' := [some (.ref (E.2.1 0)), some (.int x1), some (.int y0)]) rfl (by decide) rfl ?_
  obtain ⟨e13, hl14, h⟩ := wq_ob h
  refine gX6_most_L45 hC hd0 x1  wq_FU _ _ hl14 ?_
  rcases e13 with e13x | e13n
  · have h := Option.some.inj h
    subst h
    exact K
  · refine wq_ldc hC (v := (-1000000)) tw_431 dX6_most_79 ?_
    have h := Option.some.inj h
    subst h
    exact wq_iret hC dX6_most_81 K.1 K.2
def fX6_most_J22 (x1 : Int32) (M : wq_M) : Option (Int32 × wq_M) :=
  (fX5_becomes 25 20 M).bind fun r5 => (if x1 = 0 then
    fX6_most_J44 x1 40 r5
  else
    fX6_most_J44 x1 99 r5)
set_option maxHeartbeats 4000000 in
set_option maxRecDepth 100000 in
theorem gX6_most_J22 {g : wq_G} {E : wq_E} {d : Nat} (hC : wq_C g E wq_yC cX6_most 3 "WellPipes" (some .int) d) (hd0 : 6 ≤ d) (x1 : Int32) (M : wq_M)  {x : (Int32 × wq_M)} (h : fX6_most_J22 x1 M = some x) (K : (wq_kI g) x) : wq_g g E wq_yC 3 22 [some (.ref (E.2.1 0)), some (.int x1), none] [] M := by
  unfold fX6_most_J22 at h
  refine wq_aload_n hC dX6_most_22 (i := 0) rfl rfl ?_
  refine gf_6 hC oC_0 3 (.ref (E.2.1 25)) (by decide) rfl tw_238 dX6_most_23 ?_
  refine wq_aload_n hC dX6_most_26 (i := 0) rfl rfl ?_
  refine gf_6 hC oC_0 2 (.ref (E.2.1 20)) (by decide) rfl tw_237 dX6_most_27 ?_
  obtain ⟨r5, hc6, h⟩ := wq_ob h
  refine cv_5 hC (ctX5_becomes (d := d - 1) (by omega) W_25 W_20 hc6) (by omega) (by decide) W_25.1 rfl rfl npX5_becomes tw_375 tw_376 tw_377 tw_378 (st := []) (Nat.le_of_ble_eq_true rfl) rfl dX6_most_30 (st1 := []) rfl ?_
  refine wq_iload_n hC dX6_most_33 (i := 1) rfl rfl ?_
  refine wq_if_ne hC dX6_most_34 (tgt := 42) (by decide) (fun z7 => ?_) (fun z7 => ?_)
  · have h := wq_in_ z7 h
    refine wq_bipush hC (v := 99) dX6_most_42 (by decide) ?_
    exact gX6_most_J44 hC hd0 x1 99 r5  h K
  · have h := wq_ip z7 h
    refine wq_bipush hC (v := 40) dX6_most_37 (by decide) ?_
    refine wq_goto hC dX6_most_39 (tgt := 44) (by decide) ?_
    exact gX6_most_J44 hC hd0 x1 40 r5  h K
def fX6_most (x1 : Int32) (M : wq_M) : Option (Int32 × wq_M) :=
  (fX6_hasNoWell  M).bind fun r1 => (if r1 = true then
    some ((-1000002), M)
  else
    (if x1 = 0 then
      fX6_most_J22 x1 M
    else
      (if x1 = 1 then
        fX6_most_J22 x1 M
      else
        some ((-1000001), M))))
set_option maxHeartbeats 4000000 in
set_option maxRecDepth 100000 in
theorem ctX6_most {l : Launch} {E : wq_E} {d : Nat} (hd0 : 6 ≤ d) {x1 : Int32} {M : wq_M} {r : (Int32 × wq_M)}  (h : fX6_most x1 M = some r) : wq_ct l E wq_yC yX6_most cX6_most 3 (some .int) d [.ref (E.2.1 0), .int x1] M (some (.int r.1)) r.2 := by
  refine wq_ent (own := "WellPipes") (lv0 := [some (.ref (E.2.1 0)), some (.int x1), none]) (by decide +kernel) rfl (Nat.le_of_ble_eq_true rfl) rfl (fun g h1 h2 hC => ?_)
  have K : wq_kI g r := ⟨h1, h2⟩
  unfold fX6_most at h
  refine wq_aload_n hC dX6_most_0 (i := 0) rfl rfl ?_
  obtain ⟨r1, hc2, h⟩ := wq_ob h
  refine cv_6 hC (ctX6_hasNoWell (d := d - 1) (by omega)  hc2) (by omega) (by decide) oC_0 rfl rfl npX6_hasNoWell tw_427 tw_429 tw_12 tw_430 (st := []) (Nat.le_of_ble_eq_true rfl) rfl dX6_most_1 (st1 := [.int (wq_b r1)]) rfl ?_
  refine wq_bif_eq hC dX6_most_4 (tgt := 10) (by decide) (fun z3 => ?_) (fun z3 => ?_)
  · have h := wq_in_ z3 h
    refine wq_iload_n hC dX6_most_10 (i := 1) rfl rfl ?_
    refine wq_if_eq hC dX6_most_11 (tgt := 22) (by decide) (fun z4 => ?_) (fun z4 => ?_)
    · have h := wq_ip z4 h
      exact gX6_most_J22 hC hd0 x1 M  h K
    · have h := wq_in_ z4 h
      refine wq_iload_n hC dX6_most_14 (i := 1) rfl rfl ?_
      refine wq_iconst hC (v := 1) dX6_most_15 (by decide) ?_
      refine wq_icmp_eq hC dX6_most_16 (tgt := 22) (by decide) (fun z15 => ?_) (fun z15 => ?_)
      · have h := wq_ip z15 h
        exact gX6_most_J22 hC hd0 x1 M  h K
      · have h := wq_in_ z15 h
        refine wq_ldc hC (v := (-1000001)) tw_270 dX6_most_19 ?_
        have h := Option.some.inj h
        subst h
        exact wq_iret hC dX6_most_21 K.1 K.2
  · have h := wq_ip z3 h
    refine wq_ldc hC (v := (-1000002)) tw_392 dX6_most_7 ?_
    have h := Option.some.inj h
    subst h
    exact wq_iret hC dX6_most_9 K.1 K.2
theorem npX6_need : yX6_need.cls ≠ "java/lang/invoke/MethodHandle" ∧ yX6_need.cls ≠ "java/lang/invoke/VarHandle" ∧ (parseMethodDescriptor yX6_need.desc).map (fun d => d.parameters.length) = some 1 := by decide +kernel
def fX6_need_L26 (x1 : Int32) : (Int32 × Int32 × wq_M) → Option ((Int32 × Int32 × wq_M) ⊕ (Int32 × wq_M)) := fun s =>
  (if (s.2.2.1 20 1) ≤ s.2.1 then
    some (.inr (s.1, s.2.2))
  else
    if wq_in x1 8 then (fX5_holds 25 x1 (wq_st s.2.2 29 x1.toNatClampNeg s.2.1)).bind fun r8 => (if r8 = true then
      some (.inl ((s.1 ||| (1 <<< (s.2.1 &&& 31))), (s.2.1 + 1), (wq_st s.2.2 29 x1.toNatClampNeg s.2.1)))
    else
      some (.inl (s.1, (s.2.1 + 1), (wq_st s.2.2 29 x1.toNatClampNeg s.2.1)))) else none)
set_option maxHeartbeats 4000000 in
set_option maxRecDepth 100000 in
theorem gX6_need_L26 {g : wq_G} {E : wq_E} {d : Nat} (hC : wq_C g E wq_yC cX6_need 4 "WellPipes" (some .int) d) (hd0 : 5 ≤ d) (x1 : Int32)  : ∀ (n : Nat) (s : (Int32 × Int32 × wq_M)) (e : (Int32 × wq_M)), wq_lp (fX6_need_L26 x1) n s = some e → (fun (e : (Int32 × wq_M)) => wq_g g E wq_yC 4 70 [none, none, some (.int e.1), none] [] e.2) e → wq_g g E wq_yC 4 26 [some (.ref (E.2.1 0)), some (.int x1), some (.int s.1), some (.int s.2.1)] [] s.2.2 := by
  refine wq_lq_ok (fun (s : (Int32 × Int32 × wq_M)) => wq_g g E wq_yC 4 26 [some (.ref (E.2.1 0)), some (.int x1), some (.int s.1), some (.int s.2.1)] [] s.2.2) (fun (e : (Int32 × wq_M)) => wq_g g E wq_yC 4 70 [none, none, some (.int e.1), none] [] e.2) (fun s x h K => ?_)
  unfold fX6_need_L26 at h
  refine wq_iload_n hC dX6_need_26 (i := 3) rfl rfl ?_
  refine wq_aload_n hC dX6_need_27 (i := 0) rfl rfl ?_
  refine gf_6 hC oC_0 2 (.ref (E.2.1 20)) (by decide) rfl tw_237 dX6_need_28 ?_
  refine gf_5 hC W_20.1 1 (.int (s.2.2.1 20 1)) (by decide) rfl tw_114 dX6_need_31 ?_
  refine wq_icmp_ge hC dX6_need_34 (tgt := 70) (by decide) (fun z6 => ?_) (fun z6 => ?_)
  · have h := wq_ip z6 h
    have h := Option.some.inj h
    subst h
    refine wq_mask [false, false, true, false] (lv' := [none, none, some (.int s.1), none]) rfl ?_
    exact K
  · have h := wq_in_ z6 h
    refine wq_aload_n hC dX6_need_37 (i := 0) rfl rfl ?_
    refine gf_6 hC oC_0 3 (.ref (E.2.1 25)) (by decide) rfl tw_238 dX6_need_38 ?_
    refine gf_5 hC W_25.1 5 (.ref (E.2.1 29)) (by decide) rfl tw_127 dX6_need_41 ?_
    refine wq_iload_n hC dX6_need_44 (i := 1) rfl rfl ?_
    refine wq_iload_n hC dX6_need_45 (i := 3) rfl rfl ?_
    obtain ⟨z7, h⟩ := wq_ii h
    refine wq_ast hC aC_29 z7 dX6_need_46 ?_
    refine wq_aload_n hC dX6_need_47 (i := 0) rfl rfl ?_
    refine gf_6 hC oC_0 3 (.ref (E.2.1 25)) (by decide) rfl tw_238 dX6_need_48 ?_
    refine wq_iload_n hC dX6_need_51 (i := 1) rfl rfl ?_
    obtain ⟨r8, hc9, h⟩ := wq_ob h
    refine cv_5 hC (ctX5_holds (d := d - 1) (by omega) W_25 hc9) (by omega) (by decide) W_25.1 rfl rfl npX5_holds tw_535 tw_536 tw_537 tw_538 (st := []) (Nat.le_of_ble_eq_true rfl) rfl dX6_need_52 (st1 := [.int (wq_b r8)]) rfl ?_
    refine wq_bif_eq hC dX6_need_55 (tgt := 64) (by decide) (fun z10 => ?_) (fun z10 => ?_)
    · have h := wq_in_ z10 h
      refine wq_iinc hC (v := (s.2.1 + 1)) dX6_need_64 (lv' := [some (.ref (E.2.1 0)), some (.int x1), some (.int s.1), some (.int (s.2.1 + 1))]) rfl rfl (by decide) rfl ?_
      refine wq_goto hC dX6_need_67 (tgt := 26) (by decide) ?_
      have h := Option.some.inj h
      subst h
      exact K
    · have h := wq_ip z10 h
      refine wq_iload_n hC dX6_need_58 (i := 2) rfl rfl ?_
      refine wq_iconst hC (v := 1) dX6_need_59 (by decide) ?_
      refine wq_iload_n hC dX6_need_60 (i := 3) rfl rfl ?_
      refine wq_ishl hC dX6_need_61 ?_
      refine wq_ior hC dX6_need_62 ?_
      refine wq_istore_n hC dX6_need_63 (i := 2) (lv' := [some (.ref (E.2.1 0)), some (.int x1), some (.int (s.1 ||| (1 <<< (s.2.1 &&& 31)))), some (.int s.2.1)]) rfl (by decide) rfl ?_
      refine wq_iinc hC (v := (s.2.1 + 1)) dX6_need_64 (lv' := [some (.ref (E.2.1 0)), some (.int x1), some (.int (s.1 ||| (1 <<< (s.2.1 &&& 31)))), some (.int (s.2.1 + 1))]) rfl rfl (by decide) rfl ?_
      refine wq_goto hC dX6_need_67 (tgt := 26) (by decide) ?_
      have h := Option.some.inj h
      subst h
      exact K
def fX6_need (x1 : Int32) (M : wq_M) : Option (Int32 × wq_M) :=
  (fX6_isStep x1 M).bind fun r1 => (if r1 = true then
    (fX5_becomes 25 20 M).bind fun r4 => (wq_lp (fX6_need_L26 x1) wq_FU (0, 0, r4)).bind fun e11 => some (e11.1, e11.2)
  else
    some ((-1000001), M))
set_option maxHeartbeats 4000000 in
set_option maxRecDepth 100000 in
theorem ctX6_need {l : Launch} {E : wq_E} {d : Nat} (hd0 : 5 ≤ d) {x1 : Int32} {M : wq_M} {r : (Int32 × wq_M)}  (h : fX6_need x1 M = some r) : wq_ct l E wq_yC yX6_need cX6_need 4 (some .int) d [.ref (E.2.1 0), .int x1] M (some (.int r.1)) r.2 := by
  refine wq_ent (own := "WellPipes") (lv0 := [some (.ref (E.2.1 0)), some (.int x1), none, none]) (by decide +kernel) rfl (Nat.le_of_ble_eq_true rfl) rfl (fun g h1 h2 hC => ?_)
  have K : wq_kI g r := ⟨h1, h2⟩
  unfold fX6_need at h
  refine wq_aload_n hC dX6_need_0 (i := 0) rfl rfl ?_
  refine wq_iload_n hC dX6_need_1 (i := 1) rfl rfl ?_
  obtain ⟨r1, hc2, h⟩ := wq_ob h
  refine cv_6 hC (ctX6_isStep (d := d - 1) (by omega)  hc2) (by omega) (by decide) oC_0 rfl rfl npX6_isStep tw_406 tw_408 tw_10 tw_409 (st := []) (Nat.le_of_ble_eq_true rfl) rfl dX6_need_2 (st1 := [.int (wq_b r1)]) rfl ?_
  refine wq_bif_ne hC dX6_need_5 (tgt := 11) (by decide) (fun z3 => ?_) (fun z3 => ?_)
  · have h := wq_ip z3 h
    refine wq_aload_n hC dX6_need_11 (i := 0) rfl rfl ?_
    refine gf_6 hC oC_0 3 (.ref (E.2.1 25)) (by decide) rfl tw_238 dX6_need_12 ?_
    refine wq_aload_n hC dX6_need_15 (i := 0) rfl rfl ?_
    refine gf_6 hC oC_0 2 (.ref (E.2.1 20)) (by decide) rfl tw_237 dX6_need_16 ?_
    obtain ⟨r4, hc5, h⟩ := wq_ob h
    refine cv_5 hC (ctX5_becomes (d := d - 1) (by omega) W_25 W_20 hc5) (by omega) (by decide) W_25.1 rfl rfl npX5_becomes tw_375 tw_376 tw_377 tw_378 (st := []) (Nat.le_of_ble_eq_true rfl) rfl dX6_need_19 (st1 := []) rfl ?_
    refine wq_iconst hC (v := 0) dX6_need_22 (by decide) ?_
    refine wq_istore_n hC dX6_need_23 (i := 2) (lv' := [some (.ref (E.2.1 0)), some (.int x1), some (.int 0), none]) rfl (by decide) rfl ?_
    refine wq_iconst hC (v := 0) dX6_need_24 (by decide) ?_
    refine wq_istore_n hC dX6_need_25 (i := 3) (lv' := [some (.ref (E.2.1 0)), some (.int x1), some (.int 0), some (.int 0)]) rfl (by decide) rfl ?_
    obtain ⟨e11, hl12, h⟩ := wq_ob h
    refine gX6_need_L26 hC hd0 x1  wq_FU _ _ hl12 ?_
    refine wq_iload_n hC dX6_need_70 (i := 2) rfl rfl ?_
    have h := Option.some.inj h
    subst h
    exact wq_iret hC dX6_need_71 K.1 K.2
  · have h := wq_in_ z3 h
    refine wq_ldc hC (v := (-1000001)) tw_270 dX6_need_8 ?_
    have h := Option.some.inj h
    subst h
    exact wq_iret hC dX6_need_10 K.1 K.2
theorem npX6_sets : yX6_sets.cls ≠ "java/lang/invoke/MethodHandle" ∧ yX6_sets.cls ≠ "java/lang/invoke/VarHandle" ∧ (parseMethodDescriptor yX6_sets.desc).map (fun d => d.parameters.length) = some 2 := by decide +kernel
def fX6_sets_L44 (x1 : Int32) (x2 : Int32) (M : wq_M) : (Int32 × Int32 × Int32 × Int32) → Option ((Int32 × Int32 × Int32 × Int32) ⊕ (Int32 × Int32 × Int32)) := fun s =>
  (if (1 <<< ((M.1 20 0) &&& 31)) ≤ s.2.2.2 then
    some (.inr (s.1, s.2.1, s.2.2.1))
  else
    (fX5_priceOf 20 s.2.2.2 M).bind fun r9 => (if r9 = x1 then
      some (.inl ((s.1 + 1), (s.2.1 &&& s.2.2.2), (s.2.2.1 ||| s.2.2.2), (s.2.2.2 + 1)))
    else
      some (.inl (s.1, s.2.1, s.2.2.1, (s.2.2.2 + 1)))))
set_option maxHeartbeats 4000000 in
set_option maxRecDepth 100000 in
theorem gX6_sets_L44 {g : wq_G} {E : wq_E} {d : Nat} (hC : wq_C g E wq_yC cX6_sets 7 "WellPipes" (some .int) d) (hd0 : 2 ≤ d) (x1 : Int32) (x2 : Int32) (M : wq_M)  : ∀ (n : Nat) (s : (Int32 × Int32 × Int32 × Int32)) (e : (Int32 × Int32 × Int32)), wq_lp (fX6_sets_L44 x1 x2 M) n s = some e → (fun (e : (Int32 × Int32 × Int32)) => wq_g g E wq_yC 7 94 [none, none, some (.int x2), some (.int e.1), some (.int e.2.1), some (.int e.2.2), none] [] M) e → wq_g g E wq_yC 7 44 [some (.ref (E.2.1 0)), some (.int x1), some (.int x2), some (.int s.1), some (.int s.2.1), some (.int s.2.2.1), some (.int s.2.2.2)] [] M := by
  refine wq_lq_ok (fun (s : (Int32 × Int32 × Int32 × Int32)) => wq_g g E wq_yC 7 44 [some (.ref (E.2.1 0)), some (.int x1), some (.int x2), some (.int s.1), some (.int s.2.1), some (.int s.2.2.1), some (.int s.2.2.2)] [] M) (fun (e : (Int32 × Int32 × Int32)) => wq_g g E wq_yC 7 94 [none, none, some (.int x2), some (.int e.1), some (.int e.2.1), some (.int e.2.2), none] [] M) (fun s x h K => ?_)
  unfold fX6_sets_L44 at h
  refine wq_iload hC dX6_sets_44 rfl ?_
  refine wq_iconst hC (v := 1) dX6_sets_46 (by decide) ?_
  refine wq_aload_n hC dX6_sets_47 (i := 0) rfl rfl ?_
  refine gf_6 hC oC_0 2 (.ref (E.2.1 20)) (by decide) rfl tw_237 dX6_sets_48 ?_
  refine gf_5 hC W_20.1 0 (.int (M.1 20 0)) (by decide) rfl tw_110 dX6_sets_51 ?_
  refine wq_ishl hC dX6_sets_54 ?_
  refine wq_icmp_ge hC dX6_sets_55 (tgt := 94) (by decide) (fun z8 => ?_) (fun z8 => ?_)
  · have h := wq_ip z8 h
    have h := Option.some.inj h
    subst h
    refine wq_mask [false, false, true, true, true, true, false] (lv' := [none, none, some (.int x2), some (.int s.1), some (.int s.2.1), some (.int s.2.2.1), none]) rfl ?_
    exact K
  · have h := wq_in_ z8 h
    refine wq_aload_n hC dX6_sets_58 (i := 0) rfl rfl ?_
    refine gf_6 hC oC_0 2 (.ref (E.2.1 20)) (by decide) rfl tw_237 dX6_sets_59 ?_
    refine wq_iload hC dX6_sets_62 rfl ?_
    obtain ⟨r9, hc10, h⟩ := wq_ob h
    refine cv_5 hC (ctX5_priceOf (d := d - 1) (by omega) W_20 hc10) (by omega) (by decide) W_20.1 rfl rfl npX5_priceOf tw_592 tw_593 tw_594 tw_595 (st := []) (Nat.le_of_ble_eq_true rfl) rfl dX6_sets_64 (st1 := [.int r9]) rfl ?_
    refine wq_iload_n hC dX6_sets_67 (i := 1) rfl rfl ?_
    refine wq_icmp_ne hC dX6_sets_68 (tgt := 88) (by decide) (fun z11 => ?_) (fun z11 => ?_)
    · have h := wq_in_ z11 h
      refine wq_iinc hC (v := (s.2.2.2 + 1)) dX6_sets_88 (lv' := [some (.ref (E.2.1 0)), some (.int x1), some (.int x2), some (.int s.1), some (.int s.2.1), some (.int s.2.2.1), some (.int (s.2.2.2 + 1))]) rfl rfl (by decide) rfl ?_
      refine wq_goto hC dX6_sets_91 (tgt := 44) (by decide) ?_
      have h := Option.some.inj h
      subst h
      exact K
    · have h := wq_ip z11 h
      refine wq_iinc hC (v := (s.1 + 1)) dX6_sets_71 (lv' := [some (.ref (E.2.1 0)), some (.int x1), some (.int x2), some (.int (s.1 + 1)), some (.int s.2.1), some (.int s.2.2.1), some (.int s.2.2.2)]) rfl rfl (by decide) rfl ?_
      refine wq_iload hC dX6_sets_74 rfl ?_
      refine wq_iload hC dX6_sets_76 rfl ?_
      refine wq_iand hC dX6_sets_78 ?_
      refine wq_istore hC dX6_sets_79 (lv' := [some (.ref (E.2.1 0)), some (.int x1), some (.int x2), some (.int (s.1 + 1)), some (.int (s.2.1 &&& s.2.2.2)), some (.int s.2.2.1), some (.int s.2.2.2)]) (by decide) rfl ?_
      refine wq_iload hC dX6_sets_81 rfl ?_
      refine wq_iload hC dX6_sets_83 rfl ?_
      refine wq_ior hC dX6_sets_85 ?_
      refine wq_istore hC dX6_sets_86 (lv' := [some (.ref (E.2.1 0)), some (.int x1), some (.int x2), some (.int (s.1 + 1)), some (.int (s.2.1 &&& s.2.2.2)), some (.int (s.2.2.1 ||| s.2.2.2)), some (.int s.2.2.2)]) (by decide) rfl ?_
      refine wq_iinc hC (v := (s.2.2.2 + 1)) dX6_sets_88 (lv' := [some (.ref (E.2.1 0)), some (.int x1), some (.int x2), some (.int (s.1 + 1)), some (.int (s.2.1 &&& s.2.2.2)), some (.int (s.2.2.1 ||| s.2.2.2)), some (.int (s.2.2.2 + 1))]) rfl rfl (by decide) rfl ?_
      refine wq_goto hC dX6_sets_91 (tgt := 44) (by decide) ?_
      have h := Option.some.inj h
      subst h
      exact K
def fX6_sets (x1 : Int32) (x2 : Int32) (M : wq_M) : Option Int32 :=
  (fX6_hasNoWell  M).bind fun r1 => (if r1 = true then
    some (-1000002)
  else
    (if x1 < 0 then
      some (-1000001)
    else
      (if 792 < x1 then
        some (-1000001)
      else
        (if x2 < 0 then
          some (-1000001)
        else
          (if x2 ≤ 2 then
            (wq_lp (fX6_sets_L44 x1 x2 M) wq_FU (0, (-1), 0, 0)).bind fun e12 => (if x2 = 0 then some e12.1 else if x2 = 1 then (if e12.1 = 0 then
                  some 0
                else
                  some e12.2.1) else some e12.2.2)
          else
            some (-1000001))))))
set_option maxHeartbeats 4000000 in
set_option maxRecDepth 100000 in
theorem ctX6_sets {l : Launch} {E : wq_E} {d : Nat} (hd0 : 2 ≤ d) {x1 : Int32} {x2 : Int32} {M : wq_M} {r : Int32}  (h : fX6_sets x1 x2 M = some r) : wq_ct l E wq_yC yX6_sets cX6_sets 7 (some .int) d [.ref (E.2.1 0), .int x1, .int x2] M (some (.int r)) M := by
  refine wq_ent (own := "WellPipes") (lv0 := [some (.ref (E.2.1 0)), some (.int x1), some (.int x2), none, none, none, none]) (by decide +kernel) rfl (Nat.le_of_ble_eq_true rfl) rfl (fun g h1 h2 hC => ?_)
  have K : wq_ki g M r := ⟨h1, h2⟩
  unfold fX6_sets at h
  refine wq_aload_n hC dX6_sets_0 (i := 0) rfl rfl ?_
  obtain ⟨r1, hc2, h⟩ := wq_ob h
  refine cv_6 hC (ctX6_hasNoWell (d := d - 1) (by omega)  hc2) (by omega) (by decide) oC_0 rfl rfl npX6_hasNoWell tw_427 tw_429 tw_12 tw_430 (st := []) (Nat.le_of_ble_eq_true rfl) rfl dX6_sets_1 (st1 := [.int (wq_b r1)]) rfl ?_
  refine wq_bif_eq hC dX6_sets_4 (tgt := 10) (by decide) (fun z3 => ?_) (fun z3 => ?_)
  · have h := wq_in_ z3 h
    refine wq_iload_n hC dX6_sets_10 (i := 1) rfl rfl ?_
    refine wq_if_lt hC dX6_sets_11 (tgt := 30) (by decide) (fun z4 => ?_) (fun z4 => ?_)
    · have h := wq_ip z4 h
      refine wq_ldc hC (v := (-1000001)) tw_270 dX6_sets_30 ?_
      have h := Option.some.inj h
      subst h
      exact wq_iret hC dX6_sets_32 K.1 K.2
    · have h := wq_in_ z4 h
      refine wq_iload_n hC dX6_sets_14 (i := 1) rfl rfl ?_
      refine wq_sipush hC (v := 792) dX6_sets_15 (by decide) ?_
      refine wq_icmp_gt hC dX6_sets_18 (tgt := 30) (by decide) (fun z5 => ?_) (fun z5 => ?_)
      · have h := wq_ip z5 h
        refine wq_ldc hC (v := (-1000001)) tw_270 dX6_sets_30 ?_
        have h := Option.some.inj h
        subst h
        exact wq_iret hC dX6_sets_32 K.1 K.2
      · have h := wq_in_ z5 h
        refine wq_iload_n hC dX6_sets_21 (i := 2) rfl rfl ?_
        refine wq_if_lt hC dX6_sets_22 (tgt := 30) (by decide) (fun z6 => ?_) (fun z6 => ?_)
        · have h := wq_ip z6 h
          refine wq_ldc hC (v := (-1000001)) tw_270 dX6_sets_30 ?_
          have h := Option.some.inj h
          subst h
          exact wq_iret hC dX6_sets_32 K.1 K.2
        · have h := wq_in_ z6 h
          refine wq_iload_n hC dX6_sets_25 (i := 2) rfl rfl ?_
          refine wq_iconst hC (v := 2) dX6_sets_26 (by decide) ?_
          refine wq_icmp_le hC dX6_sets_27 (tgt := 33) (by decide) (fun z7 => ?_) (fun z7 => ?_)
          · have h := wq_ip z7 h
            refine wq_iconst hC (v := 0) dX6_sets_33 (by decide) ?_
            refine wq_istore_n hC dX6_sets_34 (i := 3) (lv' := [some (.ref (E.2.1 0)), some (.int x1), some (.int x2), some (.int 0), none, none, none]) rfl (by decide) rfl ?_
            refine wq_iconst hC (v := (-1)) dX6_sets_35 (by decide) ?_
            refine wq_istore hC dX6_sets_36 (lv' := [some (.ref (E.2.1 0)), some (.int x1), some (.int x2), some (.int 0), some (.int (-1)), none, none]) (by decide) rfl ?_
            refine wq_iconst hC (v := 0) dX6_sets_38 (by decide) ?_
            refine wq_istore hC dX6_sets_39 (lv' := [some (.ref (E.2.1 0)), some (.int x1), some (.int x2), some (.int 0), some (.int (-1)), some (.int 0), none]) (by decide) rfl ?_
            refine wq_iconst hC (v := 0) dX6_sets_41 (by decide) ?_
            refine wq_istore hC dX6_sets_42 (lv' := [some (.ref (E.2.1 0)), some (.int x1), some (.int x2), some (.int 0), some (.int (-1)), some (.int 0), some (.int 0)]) (by decide) rfl ?_
            obtain ⟨e12, hl13, h⟩ := wq_ob h
            refine gX6_sets_L44 hC hd0 x1 x2 M  wq_FU _ _ hl13 ?_
            refine wq_iload_n hC dX6_sets_94 (i := 2) rfl rfl ?_
            by_cases z14 : x2 = 0
            · have h := wq_ip z14 h
              refine wq_lookup hC dX6_sets_95 (tgt := 120) (by decide) (off := 25) (by rw [z14]; decide) (by decide) ?_
              refine wq_iload_n hC dX6_sets_120 (i := 3) rfl rfl ?_
              have h := Option.some.inj h
              subst h
              exact wq_iret hC dX6_sets_121 K.1 K.2
            · have h := wq_in_ z14 h
              by_cases z15 : x2 = 1
              · have h := wq_ip z15 h
                refine wq_lookup hC dX6_sets_95 (tgt := 122) (by decide) (off := 27) (by rw [z15]; decide) (by decide) ?_
                refine wq_iload_n hC dX6_sets_122 (i := 3) rfl rfl ?_
                refine wq_if_ne hC dX6_sets_123 (tgt := 130) (by decide) (fun z16 => ?_) (fun z16 => ?_)
                · have h := wq_in_ z16 h
                  refine wq_iload hC dX6_sets_130 rfl ?_
                  have h := Option.some.inj h
                  subst h
                  exact wq_iret hC dX6_sets_132 K.1 K.2
                · have h := wq_ip z16 h
                  refine wq_iconst hC (v := 0) dX6_sets_126 (by decide) ?_
                  refine wq_goto hC dX6_sets_127 (tgt := 132) (by decide) ?_
                  have h := Option.some.inj h
                  subst h
                  exact wq_iret hC dX6_sets_132 K.1 K.2
              · have h := wq_in_ z15 h
                refine wq_lookup hC dX6_sets_95 (tgt := 133) (by decide) (off := 38) (by show Op.lookupswitch.offset [(0, 25), (1, 27)] _ _ = _; rw [lv_osw z14 (by decide)]; rw [lv_osw z15 (by decide)]; rfl) (by decide) ?_
                refine wq_iload hC dX6_sets_133 rfl ?_
                have h := Option.some.inj h
                subst h
                exact wq_iret hC dX6_sets_135 K.1 K.2
          · have h := wq_in_ z7 h
            refine wq_ldc hC (v := (-1000001)) tw_270 dX6_sets_30 ?_
            have h := Option.some.inj h
            subst h
            exact wq_iret hC dX6_sets_32 K.1 K.2
  · have h := wq_ip z3 h
    refine wq_ldc hC (v := (-1000002)) tw_392 dX6_sets_7 ?_
    have h := Option.some.inj h
    subst h
    exact wq_iret hC dX6_sets_9 K.1 K.2
theorem npX6_share : yX6_share.cls ≠ "java/lang/invoke/MethodHandle" ∧ yX6_share.cls ≠ "java/lang/invoke/VarHandle" ∧ (parseMethodDescriptor yX6_share.desc).map (fun d => d.parameters.length) = some 2 := by decide +kernel
def fX6_share_L59 (x1 : Int32) (x2 : Int32) (x3 : Int32) (M : wq_M) : (Int32 × Int32 × Int32) → Option ((Int32 × Int32 × Int32) ⊕ (Int32 × Int32)) := fun s =>
  (if (M.1 20 0) ≤ s.2.2 then
    some (.inr (s.1, s.2.1))
  else
    (fX5_laidFigure 20 s.2.2 3 M).bind fun r12 => if ¬ x3 = 0 then (if x1 ≤ s.2.2 then
      some (.inl ((s.1 - ((x2 * r12) / x3)), s.2.1, (s.2.2 + 1)))
    else
      if wq_in s.2.2 8 then (if (M.1 24 s.2.2.toNatClampNeg) = (-1) then
        some (.inl ((s.1 - ((x2 * r12) / x3)), s.2.1, (s.2.2 + 1)))
      else
        some (.inl ((s.1 - ((x2 * r12) / x3)), (s.2.1 + 1), (s.2.2 + 1)))) else none) else none)
set_option maxHeartbeats 4000000 in
set_option maxRecDepth 100000 in
theorem gX6_share_L59 {g : wq_G} {E : wq_E} {d : Nat} (hC : wq_C g E wq_yC cX6_share 7 "WellPipes" (some .int) d) (hd0 : 3 ≤ d) (x1 : Int32) (x2 : Int32) (x3 : Int32) (M : wq_M)  : ∀ (n : Nat) (s : (Int32 × Int32 × Int32)) (e : (Int32 × Int32)), wq_lp (fX6_share_L59 x1 x2 x3 M) n s = some e → (fun (e : (Int32 × Int32)) => wq_g g E wq_yC 7 119 [some (.ref (E.2.1 0)), some (.int x1), some (.int x2), some (.int x3), some (.int e.1), some (.int e.2), none] [] M) e → wq_g g E wq_yC 7 59 [some (.ref (E.2.1 0)), some (.int x1), some (.int x2), some (.int x3), some (.int s.1), some (.int s.2.1), some (.int s.2.2)] [] M := by
  refine wq_lq_ok (fun (s : (Int32 × Int32 × Int32)) => wq_g g E wq_yC 7 59 [some (.ref (E.2.1 0)), some (.int x1), some (.int x2), some (.int x3), some (.int s.1), some (.int s.2.1), some (.int s.2.2)] [] M) (fun (e : (Int32 × Int32)) => wq_g g E wq_yC 7 119 [some (.ref (E.2.1 0)), some (.int x1), some (.int x2), some (.int x3), some (.int e.1), some (.int e.2), none] [] M) (fun s x h K => ?_)
  unfold fX6_share_L59 at h
  refine wq_iload hC dX6_share_59 rfl ?_
  refine wq_aload_n hC dX6_share_61 (i := 0) rfl rfl ?_
  refine gf_6 hC oC_0 2 (.ref (E.2.1 20)) (by decide) rfl tw_237 dX6_share_62 ?_
  refine gf_5 hC W_20.1 0 (.int (M.1 20 0)) (by decide) rfl tw_110 dX6_share_65 ?_
  refine wq_icmp_ge hC dX6_share_68 (tgt := 119) (by decide) (fun z11 => ?_) (fun z11 => ?_)
  · have h := wq_ip z11 h
    have h := Option.some.inj h
    subst h
    refine wq_mask [true, true, true, true, true, true, false] (lv' := [some (.ref (E.2.1 0)), some (.int x1), some (.int x2), some (.int x3), some (.int s.1), some (.int s.2.1), none]) rfl ?_
    exact K
  · have h := wq_in_ z11 h
    refine wq_iload hC dX6_share_71 rfl ?_
    refine wq_iload_n hC dX6_share_73 (i := 2) rfl rfl ?_
    refine wq_aload_n hC dX6_share_74 (i := 0) rfl rfl ?_
    refine gf_6 hC oC_0 2 (.ref (E.2.1 20)) (by decide) rfl tw_237 dX6_share_75 ?_
    refine wq_iload hC dX6_share_78 rfl ?_
    refine wq_iconst hC (v := 3) dX6_share_80 (by decide) ?_
    obtain ⟨r12, hc13, h⟩ := wq_ob h
    refine cv_5 hC (ctX5_laidFigure (d := d - 1) (by omega) W_20 hc13) (by omega) (by decide) W_20.1 rfl rfl npX5_laidFigure tw_600 tw_532 tw_533 tw_534 (st := [.int x2, .int s.1]) (Nat.le_of_ble_eq_true rfl) rfl dX6_share_81 (st1 := [.int r12, .int x2, .int s.1]) rfl ?_
    refine wq_imul hC dX6_share_84 ?_
    refine wq_iload_n hC dX6_share_85 (i := 3) rfl rfl ?_
    obtain ⟨z14, h⟩ := wq_ii h
    refine wq_idiv hC dX6_share_86 z14 ?_
    refine wq_isub hC dX6_share_87 ?_
    refine wq_istore hC dX6_share_88 (lv' := [some (.ref (E.2.1 0)), some (.int x1), some (.int x2), some (.int x3), some (.int (s.1 - ((x2 * r12) / x3))), some (.int s.2.1), some (.int s.2.2)]) (by decide) rfl ?_
    refine wq_iload hC dX6_share_90 rfl ?_
    refine wq_iload_n hC dX6_share_92 (i := 1) rfl rfl ?_
    refine wq_icmp_ge hC dX6_share_93 (tgt := 113) (by decide) (fun z15 => ?_) (fun z15 => ?_)
    · have h := wq_ip z15 h
      refine wq_iinc hC (v := (s.2.2 + 1)) dX6_share_113 (lv' := [some (.ref (E.2.1 0)), some (.int x1), some (.int x2), some (.int x3), some (.int (s.1 - ((x2 * r12) / x3))), some (.int s.2.1), some (.int (s.2.2 + 1))]) rfl rfl (by decide) rfl ?_
      refine wq_goto hC dX6_share_116 (tgt := 59) (by decide) ?_
      have h := Option.some.inj h
      subst h
      exact K
    · have h := wq_in_ z15 h
      refine wq_aload_n hC dX6_share_96 (i := 0) rfl rfl ?_
      refine gf_6 hC oC_0 2 (.ref (E.2.1 20)) (by decide) rfl tw_237 dX6_share_97 ?_
      refine gf_5 hC W_20.1 5 (.ref (E.2.1 24)) (by decide) rfl tw_127 dX6_share_100 ?_
      refine wq_iload hC dX6_share_103 rfl ?_
      obtain ⟨z16, h⟩ := wq_ii h
      refine wq_ald hC aC_24 z16 dX6_share_105 ?_
      refine wq_iconst hC (v := (-1)) dX6_share_106 (by decide) ?_
      refine wq_icmp_eq hC dX6_share_107 (tgt := 113) (by decide) (fun z17 => ?_) (fun z17 => ?_)
      · have h := wq_ip z17 h
        refine wq_iinc hC (v := (s.2.2 + 1)) dX6_share_113 (lv' := [some (.ref (E.2.1 0)), some (.int x1), some (.int x2), some (.int x3), some (.int (s.1 - ((x2 * r12) / x3))), some (.int s.2.1), some (.int (s.2.2 + 1))]) rfl rfl (by decide) rfl ?_
        refine wq_goto hC dX6_share_116 (tgt := 59) (by decide) ?_
        have h := Option.some.inj h
        subst h
        exact K
      · have h := wq_in_ z17 h
        refine wq_iinc hC (v := (s.2.1 + 1)) dX6_share_110 (lv' := [some (.ref (E.2.1 0)), some (.int x1), some (.int x2), some (.int x3), some (.int (s.1 - ((x2 * r12) / x3))), some (.int (s.2.1 + 1)), some (.int s.2.2)]) rfl rfl (by decide) rfl ?_
        refine wq_iinc hC (v := (s.2.2 + 1)) dX6_share_113 (lv' := [some (.ref (E.2.1 0)), some (.int x1), some (.int x2), some (.int x3), some (.int (s.1 - ((x2 * r12) / x3))), some (.int (s.2.1 + 1)), some (.int (s.2.2 + 1))]) rfl rfl (by decide) rfl ?_
        refine wq_goto hC dX6_share_116 (tgt := 59) (by decide) ?_
        have h := Option.some.inj h
        subst h
        exact K
def fX6_share (x1 : Int32) (x2 : Int32) (M : wq_M) : Option Int32 :=
  (fX6_isStep x1 M).bind fun r1 => (if r1 = true then
    (if x2 < 0 then
      some (-1000001)
    else
      (if x2 ≤ 999 then
        (fX5_sumOfLaid 20 3 M).bind fun r6 => (if r6 = 0 then
          some 0
        else
          if wq_in x1 8 then (if (M.1 24 x1.toNatClampNeg) = (-1) then
            some 0
          else
            (wq_lp (fX6_share_L59 x1 x2 r6 M) wq_FU (x2, 0, 0)).bind fun e18 => (fX5_laidFigure 20 x1 3 M).bind fun r20 => if ¬ r6 = 0 then (if e18.1 ≤ e18.2 then
              some (((x2 * r20) / r6) + 0)
            else
              some (((x2 * r20) / r6) + 1)) else none) else none)
      else
        some (-1000001)))
  else
    some (-1000001))
set_option maxHeartbeats 4000000 in
set_option maxRecDepth 100000 in
theorem ctX6_share {l : Launch} {E : wq_E} {d : Nat} (hd0 : 3 ≤ d) {x1 : Int32} {x2 : Int32} {M : wq_M} {r : Int32}  (h : fX6_share x1 x2 M = some r) : wq_ct l E wq_yC yX6_share cX6_share 7 (some .int) d [.ref (E.2.1 0), .int x1, .int x2] M (some (.int r)) M := by
  refine wq_ent (own := "WellPipes") (lv0 := [some (.ref (E.2.1 0)), some (.int x1), some (.int x2), none, none, none, none]) (by decide +kernel) rfl (Nat.le_of_ble_eq_true rfl) rfl (fun g h1 h2 hC => ?_)
  have K : wq_ki g M r := ⟨h1, h2⟩
  unfold fX6_share at h
  refine wq_aload_n hC dX6_share_0 (i := 0) rfl rfl ?_
  refine wq_iload_n hC dX6_share_1 (i := 1) rfl rfl ?_
  obtain ⟨r1, hc2, h⟩ := wq_ob h
  refine cv_6 hC (ctX6_isStep (d := d - 1) (by omega)  hc2) (by omega) (by decide) oC_0 rfl rfl npX6_isStep tw_406 tw_408 tw_10 tw_409 (st := []) (Nat.le_of_ble_eq_true rfl) rfl dX6_share_2 (st1 := [.int (wq_b r1)]) rfl ?_
  refine wq_bif_eq hC dX6_share_5 (tgt := 19) (by decide) (fun z3 => ?_) (fun z3 => ?_)
  · have h := wq_in_ z3 h
    refine wq_ldc hC (v := (-1000001)) tw_270 dX6_share_19 ?_
    have h := Option.some.inj h
    subst h
    exact wq_iret hC dX6_share_21 K.1 K.2
  · have h := wq_ip z3 h
    refine wq_iload_n hC dX6_share_8 (i := 2) rfl rfl ?_
    refine wq_if_lt hC dX6_share_9 (tgt := 19) (by decide) (fun z4 => ?_) (fun z4 => ?_)
    · have h := wq_ip z4 h
      refine wq_ldc hC (v := (-1000001)) tw_270 dX6_share_19 ?_
      have h := Option.some.inj h
      subst h
      exact wq_iret hC dX6_share_21 K.1 K.2
    · have h := wq_in_ z4 h
      refine wq_iload_n hC dX6_share_12 (i := 2) rfl rfl ?_
      refine wq_sipush hC (v := 999) dX6_share_13 (by decide) ?_
      refine wq_icmp_le hC dX6_share_16 (tgt := 22) (by decide) (fun z5 => ?_) (fun z5 => ?_)
      · have h := wq_ip z5 h
        refine wq_aload_n hC dX6_share_22 (i := 0) rfl rfl ?_
        refine gf_6 hC oC_0 2 (.ref (E.2.1 20)) (by decide) rfl tw_237 dX6_share_23 ?_
        refine wq_iconst hC (v := 3) dX6_share_26 (by decide) ?_
        obtain ⟨r6, hc7, h⟩ := wq_ob h
        refine cv_5 hC (ctX5_sumOfLaid (d := d - 1) (by omega) W_20 hc7) (by omega) (by decide) W_20.1 rfl rfl npX5_sumOfLaid tw_556 tw_557 tw_558 tw_559 (st := []) (Nat.le_of_ble_eq_true rfl) rfl dX6_share_27 (st1 := [.int r6]) rfl ?_
        refine wq_istore_n hC dX6_share_30 (i := 3) (lv' := [some (.ref (E.2.1 0)), some (.int x1), some (.int x2), some (.int r6), none, none, none]) rfl (by decide) rfl ?_
        refine wq_iload_n hC dX6_share_31 (i := 3) rfl rfl ?_
        refine wq_if_eq hC dX6_share_32 (tgt := 48) (by decide) (fun z8 => ?_) (fun z8 => ?_)
        · have h := wq_ip z8 h
          refine wq_iconst hC (v := 0) dX6_share_48 (by decide) ?_
          have h := Option.some.inj h
          subst h
          exact wq_iret hC dX6_share_49 K.1 K.2
        · have h := wq_in_ z8 h
          refine wq_aload_n hC dX6_share_35 (i := 0) rfl rfl ?_
          refine gf_6 hC oC_0 2 (.ref (E.2.1 20)) (by decide) rfl tw_237 dX6_share_36 ?_
          refine gf_5 hC W_20.1 5 (.ref (E.2.1 24)) (by decide) rfl tw_127 dX6_share_39 ?_
          refine wq_iload_n hC dX6_share_42 (i := 1) rfl rfl ?_
          obtain ⟨z9, h⟩ := wq_ii h
          refine wq_ald hC aC_24 z9 dX6_share_43 ?_
          refine wq_iconst hC (v := (-1)) dX6_share_44 (by decide) ?_
          refine wq_icmp_ne hC dX6_share_45 (tgt := 50) (by decide) (fun z10 => ?_) (fun z10 => ?_)
          · have h := wq_in_ z10 h
            refine wq_iload_n hC dX6_share_50 (i := 2) rfl rfl ?_
            refine wq_istore hC dX6_share_51 (lv' := [some (.ref (E.2.1 0)), some (.int x1), some (.int x2), some (.int r6), some (.int x2), none, none]) (by decide) rfl ?_
            refine wq_iconst hC (v := 0) dX6_share_53 (by decide) ?_
            refine wq_istore hC dX6_share_54 (lv' := [some (.ref (E.2.1 0)), some (.int x1), some (.int x2), some (.int r6), some (.int x2), some (.int 0), none]) (by decide) rfl ?_
            refine wq_iconst hC (v := 0) dX6_share_56 (by decide) ?_
            refine wq_istore hC dX6_share_57 (lv' := [some (.ref (E.2.1 0)), some (.int x1), some (.int x2), some (.int r6), some (.int x2), some (.int 0), some (.int 0)]) (by decide) rfl ?_
            obtain ⟨e18, hl19, h⟩ := wq_ob h
            refine gX6_share_L59 hC hd0 x1 x2 r6 M  wq_FU _ _ hl19 ?_
            refine wq_iload_n hC dX6_share_119 (i := 2) rfl rfl ?_
            refine wq_aload_n hC dX6_share_120 (i := 0) rfl rfl ?_
            refine gf_6 hC oC_0 2 (.ref (E.2.1 20)) (by decide) rfl tw_237 dX6_share_121 ?_
            refine wq_iload_n hC dX6_share_124 (i := 1) rfl rfl ?_
            refine wq_iconst hC (v := 3) dX6_share_125 (by decide) ?_
            obtain ⟨r20, hc21, h⟩ := wq_ob h
            refine cv_5 hC (ctX5_laidFigure (d := d - 1) (by omega) W_20 hc21) (by omega) (by decide) W_20.1 rfl rfl npX5_laidFigure tw_600 tw_532 tw_533 tw_534 (st := [.int x2]) (Nat.le_of_ble_eq_true rfl) rfl dX6_share_126 (st1 := [.int r20, .int x2]) rfl ?_
            refine wq_imul hC dX6_share_129 ?_
            refine wq_iload_n hC dX6_share_130 (i := 3) rfl rfl ?_
            obtain ⟨z22, h⟩ := wq_ii h
            refine wq_idiv hC dX6_share_131 z22 ?_
            refine wq_iload hC dX6_share_132 rfl ?_
            refine wq_iload hC dX6_share_134 rfl ?_
            refine wq_icmp_ge hC dX6_share_136 (tgt := 143) (by decide) (fun z23 => ?_) (fun z23 => ?_)
            · have h := wq_ip z23 h
              refine wq_iconst hC (v := 0) dX6_share_143 (by decide) ?_
              refine wq_iadd hC dX6_share_144 ?_
              have h := Option.some.inj h
              subst h
              exact wq_iret hC dX6_share_145 K.1 K.2
            · have h := wq_in_ z23 h
              refine wq_iconst hC (v := 1) dX6_share_139 (by decide) ?_
              refine wq_goto hC dX6_share_140 (tgt := 144) (by decide) ?_
              refine wq_iadd hC dX6_share_144 ?_
              have h := Option.some.inj h
              subst h
              exact wq_iret hC dX6_share_145 K.1 K.2
          · have h := wq_ip z10 h
            refine wq_iconst hC (v := 0) dX6_share_48 (by decide) ?_
            have h := Option.some.inj h
            subst h
            exact wq_iret hC dX6_share_49 K.1 K.2
      · have h := wq_in_ z5 h
        refine wq_ldc hC (v := (-1000001)) tw_270 dX6_share_19 ?_
        have h := Option.some.inj h
        subst h
        exact wq_iret hC dX6_share_21 K.1 K.2
theorem npX6_costByTurns : yX6_costByTurns.cls ≠ "java/lang/invoke/MethodHandle" ∧ yX6_costByTurns.cls ≠ "java/lang/invoke/VarHandle" ∧ (parseMethodDescriptor yX6_costByTurns.desc).map (fun d => d.parameters.length) = some 5 := by decide +kernel
def fX6_costByTurns_L18_J76 (rc : Nat → Int32 → Int32 → Int32 → Int32 → wq_M → Option Int32) (p0 : Nat) (x1 : Int32) (x2 : Int32) (x3 : Int32) (x4 : Int32) (x5 : Int32) (x6 : Int32) (y0 : Int32) (y1 : Int32) (y2 : Int32) (y3 : Int32) (y4 : Nat) (y5 : Int32) (M : wq_M) : Option ((Int32 × Int32) ⊕ Int32) :=
  (rc y4 y3 y2 y1 y0 M).bind fun r12 => (if x5 = (-1000000) then
    some (.inl ((y5 + r12), (x6 + 1)))
  else
    (if x4 = 0 then
      (if (y5 + r12) ≤ x5 then
        some (.inl (x5, (x6 + 1)))
      else
        some (.inl ((y5 + r12), (x6 + 1))))
    else
      (if x5 ≤ (y5 + r12) then
        some (.inl (x5, (x6 + 1)))
      else
        some (.inl ((y5 + r12), (x6 + 1))))))
set_option maxHeartbeats 4000000 in
set_option maxRecDepth 100000 in
theorem gX6_costByTurns_L18_J76 {g : wq_G} {E : wq_E} {d : Nat} {rc : Nat → Int32 → Int32 → Int32 → Int32 → wq_M → Option Int32} (rcH : ∀ {l : Launch} {E : wq_E} {p0 : Nat} {x1 : Int32} {x2 : Int32} {x3 : Int32} {x4 : Int32} {M : wq_M} {r : Int32} (_ : wq_W p0), rc p0 x1 x2 x3 x4 M = some r → wq_ct l E wq_yC yX6_costByTurns cX6_costByTurns 9 (some .int) (d - 1) [.ref (E.2.1 p0), .int x1, .int x2, .int x3, .int x4] M (some (.int r)) M) (hC : wq_C g E wq_yC cX6_costByTurns 9 "WellPipes" (some .int) d) (hd0 : 5 ≤ d) (p0 : Nat) (x1 : Int32) (x2 : Int32) (x3 : Int32) (x4 : Int32) (x5 : Int32) (x6 : Int32) (y0 : Int32) (y1 : Int32) (y2 : Int32) (y3 : Int32) (y4 : Nat) (y5 : Int32) (M : wq_M) (hp0 : wq_W p0) (hy4 : wq_W y4) {x : ((Int32 × Int32) ⊕ Int32)} (h : fX6_costByTurns_L18_J76 rc p0 x1 x2 x3 x4 x5 x6 y0 y1 y2 y3 y4 y5 M = some x) (K : (Sum.elim (fun (s : (Int32 × Int32)) => wq_g g E wq_yC 9 18 [some (.ref (E.2.1 p0)), some (.int x1), some (.int x2), some (.int x3), some (.int x4), some (.int s.1), some (.int s.2), none, none] [] M) (fun (e : Int32) => wq_g g E wq_yC 9 121 [none, none, none, none, none, some (.int e), none, none, none] [] M)) x) : wq_g g E wq_yC 9 76 [some (.ref (E.2.1 p0)), some (.int x1), some (.int x2), some (.int x3), some (.int x4), some (.int x5), some (.int x6), none, none] [.int y0, .int y1, .int y2, .int y3, .ref (E.2.1 y4), .int y5] M := by
  unfold fX6_costByTurns_L18_J76 at h
  obtain ⟨r12, hc13, h⟩ := wq_ob h
  refine wq_callS hC (rcH hy4 hc13) (by omega) (by decide) rfl npX6_costByTurns tw_605 tw_606 tw_51 tw_607 (st := [.int y5]) (Nat.le_of_ble_eq_true rfl) rfl dX6_costByTurns_76 (st1 := [.int r12, .int y5]) rfl ?_
  refine wq_iadd hC dX6_costByTurns_79 ?_
  refine wq_istore hC dX6_costByTurns_80 (lv' := [some (.ref (E.2.1 p0)), some (.int x1), some (.int x2), some (.int x3), some (.int x4), some (.int x5), some (.int x6), none, some (.int (y5 + r12))]) (by decide) rfl ?_
  refine wq_iload hC dX6_costByTurns_82 rfl ?_
  refine wq_ldc hC (v := (-1000000)) tw_431 dX6_costByTurns_84 ?_
  refine wq_icmp_eq hC dX6_costByTurns_86 (tgt := 111) (by decide) (fun z14 => ?_) (fun z14 => ?_)
  · have h := wq_ip z14 h
    refine wq_iload hC dX6_costByTurns_111 rfl ?_
    refine wq_istore hC dX6_costByTurns_113 (lv' := [some (.ref (E.2.1 p0)), some (.int x1), some (.int x2), some (.int x3), some (.int x4), some (.int (y5 + r12)), some (.int x6), none, some (.int (y5 + r12))]) (by decide) rfl ?_
    refine wq_iinc hC (v := (x6 + 1)) dX6_costByTurns_115 (lv' := [some (.ref (E.2.1 p0)), some (.int x1), some (.int x2), some (.int x3), some (.int x4), some (.int (y5 + r12)), some (.int (x6 + 1)), none, some (.int (y5 + r12))]) rfl rfl (by decide) rfl ?_
    refine wq_goto hC dX6_costByTurns_118 (tgt := 18) (by decide) ?_
    have h := Option.some.inj h
    subst h
    refine wq_mask [true, true, true, true, true, true, true, false, false] (lv' := [some (.ref (E.2.1 p0)), some (.int x1), some (.int x2), some (.int x3), some (.int x4), some (.int (y5 + r12)), some (.int (x6 + 1)), none, none]) rfl ?_
    exact K
  · have h := wq_in_ z14 h
    refine wq_iload hC dX6_costByTurns_89 rfl ?_
    refine wq_if_eq hC dX6_costByTurns_91 (tgt := 104) (by decide) (fun z15 => ?_) (fun z15 => ?_)
    · have h := wq_ip z15 h
      refine wq_iload hC dX6_costByTurns_104 rfl ?_
      refine wq_iload hC dX6_costByTurns_106 rfl ?_
      refine wq_icmp_le hC dX6_costByTurns_108 (tgt := 115) (by decide) (fun z16 => ?_) (fun z16 => ?_)
      · have h := wq_ip z16 h
        refine wq_iinc hC (v := (x6 + 1)) dX6_costByTurns_115 (lv' := [some (.ref (E.2.1 p0)), some (.int x1), some (.int x2), some (.int x3), some (.int x4), some (.int x5), some (.int (x6 + 1)), none, some (.int (y5 + r12))]) rfl rfl (by decide) rfl ?_
        refine wq_goto hC dX6_costByTurns_118 (tgt := 18) (by decide) ?_
        have h := Option.some.inj h
        subst h
        refine wq_mask [true, true, true, true, true, true, true, false, false] (lv' := [some (.ref (E.2.1 p0)), some (.int x1), some (.int x2), some (.int x3), some (.int x4), some (.int x5), some (.int (x6 + 1)), none, none]) rfl ?_
        exact K
      · have h := wq_in_ z16 h
        refine wq_iload hC dX6_costByTurns_111 rfl ?_
        refine wq_istore hC dX6_costByTurns_113 (lv' := [some (.ref (E.2.1 p0)), some (.int x1), some (.int x2), some (.int x3), some (.int x4), some (.int (y5 + r12)), some (.int x6), none, some (.int (y5 + r12))]) (by decide) rfl ?_
        refine wq_iinc hC (v := (x6 + 1)) dX6_costByTurns_115 (lv' := [some (.ref (E.2.1 p0)), some (.int x1), some (.int x2), some (.int x3), some (.int x4), some (.int (y5 + r12)), some (.int (x6 + 1)), none, some (.int (y5 + r12))]) rfl rfl (by decide) rfl ?_
        refine wq_goto hC dX6_costByTurns_118 (tgt := 18) (by decide) ?_
        have h := Option.some.inj h
        subst h
        refine wq_mask [true, true, true, true, true, true, true, false, false] (lv' := [some (.ref (E.2.1 p0)), some (.int x1), some (.int x2), some (.int x3), some (.int x4), some (.int (y5 + r12)), some (.int (x6 + 1)), none, none]) rfl ?_
        exact K
    · have h := wq_in_ z15 h
      refine wq_iload hC dX6_costByTurns_94 rfl ?_
      refine wq_iload hC dX6_costByTurns_96 rfl ?_
      refine wq_icmp_ge hC dX6_costByTurns_98 (tgt := 115) (by decide) (fun z17 => ?_) (fun z17 => ?_)
      · have h := wq_ip z17 h
        refine wq_iinc hC (v := (x6 + 1)) dX6_costByTurns_115 (lv' := [some (.ref (E.2.1 p0)), some (.int x1), some (.int x2), some (.int x3), some (.int x4), some (.int x5), some (.int (x6 + 1)), none, some (.int (y5 + r12))]) rfl rfl (by decide) rfl ?_
        refine wq_goto hC dX6_costByTurns_118 (tgt := 18) (by decide) ?_
        have h := Option.some.inj h
        subst h
        refine wq_mask [true, true, true, true, true, true, true, false, false] (lv' := [some (.ref (E.2.1 p0)), some (.int x1), some (.int x2), some (.int x3), some (.int x4), some (.int x5), some (.int (x6 + 1)), none, none]) rfl ?_
        exact K
      · have h := wq_in_ z17 h
        refine wq_goto hC dX6_costByTurns_101 (tgt := 111) (by decide) ?_
        refine wq_iload hC dX6_costByTurns_111 rfl ?_
        refine wq_istore hC dX6_costByTurns_113 (lv' := [some (.ref (E.2.1 p0)), some (.int x1), some (.int x2), some (.int x3), some (.int x4), some (.int (y5 + r12)), some (.int x6), none, some (.int (y5 + r12))]) (by decide) rfl ?_
        refine wq_iinc hC (v := (x6 + 1)) dX6_costByTurns_115 (lv' := [some (.ref (E.2.1 p0)), some (.int x1), some (.int x2), some (.int x3), some (.int x4), some (.int (y5 + r12)), some (.int (x6 + 1)), none, some (.int (y5 + r12))]) rfl rfl (by decide) rfl ?_
        refine wq_goto hC dX6_costByTurns_118 (tgt := 18) (by decide) ?_
        have h := Option.some.inj h
        subst h
        refine wq_mask [true, true, true, true, true, true, true, false, false] (lv' := [some (.ref (E.2.1 p0)), some (.int x1), some (.int x2), some (.int x3), some (.int x4), some (.int (y5 + r12)), some (.int (x6 + 1)), none, none]) rfl ?_
        exact K
def fX6_costByTurns_L18 (rc : Nat → Int32 → Int32 → Int32 → Int32 → wq_M → Option Int32) (p0 : Nat) (x1 : Int32) (x2 : Int32) (x3 : Int32) (x4 : Int32) (M : wq_M) : (Int32 × Int32) → Option ((Int32 × Int32) ⊕ Int32) := fun s =>
  (if (M.1 p0 1) ≤ s.2 then
    some (.inr s.1)
  else
    (fX5_figure p0 s.2 3 M).bind fun r4 => (fX5_wouldHold p0 x2 s.2 (x3 + r4) M).bind fun r6 => (if r6 = true then
      (fX5_figure p0 s.2 4 M).bind fun r9 => (if x4 = 0 then
        fX6_costByTurns_L18_J76 rc p0 x1 x2 x3 x4 s.1 s.2 1 (x3 + r4) (x2 - 1) (x1 - 1) p0 r9 M
      else
        fX6_costByTurns_L18_J76 rc p0 x1 x2 x3 x4 s.1 s.2 0 (x3 + r4) (x2 - 1) (x1 - 1) p0 r9 M)
    else
      some (.inl (s.1, (s.2 + 1)))))
set_option maxHeartbeats 4000000 in
set_option maxRecDepth 100000 in
theorem gX6_costByTurns_L18 {g : wq_G} {E : wq_E} {d : Nat} {rc : Nat → Int32 → Int32 → Int32 → Int32 → wq_M → Option Int32} (rcH : ∀ {l : Launch} {E : wq_E} {p0 : Nat} {x1 : Int32} {x2 : Int32} {x3 : Int32} {x4 : Int32} {M : wq_M} {r : Int32} (_ : wq_W p0), rc p0 x1 x2 x3 x4 M = some r → wq_ct l E wq_yC yX6_costByTurns cX6_costByTurns 9 (some .int) (d - 1) [.ref (E.2.1 p0), .int x1, .int x2, .int x3, .int x4] M (some (.int r)) M) (hC : wq_C g E wq_yC cX6_costByTurns 9 "WellPipes" (some .int) d) (hd0 : 5 ≤ d) (p0 : Nat) (x1 : Int32) (x2 : Int32) (x3 : Int32) (x4 : Int32) (M : wq_M) (hp0 : wq_W p0) : ∀ (n : Nat) (s : (Int32 × Int32)) (e : Int32), wq_lp (fX6_costByTurns_L18 rc p0 x1 x2 x3 x4 M) n s = some e → (fun (e : Int32) => wq_g g E wq_yC 9 121 [none, none, none, none, none, some (.int e), none, none, none] [] M) e → wq_g g E wq_yC 9 18 [some (.ref (E.2.1 p0)), some (.int x1), some (.int x2), some (.int x3), some (.int x4), some (.int s.1), some (.int s.2), none, none] [] M := by
  refine wq_lq_ok (fun (s : (Int32 × Int32)) => wq_g g E wq_yC 9 18 [some (.ref (E.2.1 p0)), some (.int x1), some (.int x2), some (.int x3), some (.int x4), some (.int s.1), some (.int s.2), none, none] [] M) (fun (e : Int32) => wq_g g E wq_yC 9 121 [none, none, none, none, none, some (.int e), none, none, none] [] M) (fun s x h K => ?_)
  unfold fX6_costByTurns_L18 at h
  refine wq_iload hC dX6_costByTurns_18 rfl ?_
  refine wq_aload_n hC dX6_costByTurns_20 (i := 0) rfl rfl ?_
  refine gf_5 hC hp0.1 1 (.int (M.1 p0 1)) (by decide) rfl tw_114 dX6_costByTurns_21 ?_
  refine wq_icmp_ge hC dX6_costByTurns_24 (tgt := 121) (by decide) (fun z3 => ?_) (fun z3 => ?_)
  · have h := wq_ip z3 h
    have h := Option.some.inj h
    subst h
    refine wq_mask [false, false, false, false, false, true, false, false, false] (lv' := [none, none, none, none, none, some (.int s.1), none, none, none]) rfl ?_
    exact K
  · have h := wq_in_ z3 h
    refine wq_iload_n hC dX6_costByTurns_27 (i := 3) rfl rfl ?_
    refine wq_aload_n hC dX6_costByTurns_28 (i := 0) rfl rfl ?_
    refine wq_iload hC dX6_costByTurns_29 rfl ?_
    refine wq_iconst hC (v := 3) dX6_costByTurns_31 (by decide) ?_
    obtain ⟨r4, hc5, h⟩ := wq_ob h
    refine cv_5 hC (ctX5_figure (d := d - 1) (by omega) hp0 hc5) (by omega) (by decide) hp0.1 rfl rfl npX5_figure tw_515 tw_452 tw_453 tw_454 (st := [.int x3]) (Nat.le_of_ble_eq_true rfl) rfl dX6_costByTurns_32 (st1 := [.int r4, .int x3]) rfl ?_
    refine wq_iadd hC dX6_costByTurns_35 ?_
    refine wq_istore hC dX6_costByTurns_36 (lv' := [some (.ref (E.2.1 p0)), some (.int x1), some (.int x2), some (.int x3), some (.int x4), some (.int s.1), some (.int s.2), some (.int (x3 + r4)), none]) (by decide) rfl ?_
    refine wq_aload_n hC dX6_costByTurns_38 (i := 0) rfl rfl ?_
    refine wq_iload_n hC dX6_costByTurns_39 (i := 2) rfl rfl ?_
    refine wq_iload hC dX6_costByTurns_40 rfl ?_
    refine wq_iload hC dX6_costByTurns_42 rfl ?_
    obtain ⟨r6, hc7, h⟩ := wq_ob h
    refine cv_5 hC (ctX5_wouldHold (d := d - 1) (by omega) hp0 hc7) (by omega) (by decide) hp0.1 rfl rfl npX5_wouldHold tw_608 tw_456 tw_457 tw_458 (st := []) (Nat.le_of_ble_eq_true rfl) rfl dX6_costByTurns_44 (st1 := [.int (wq_b r6)]) rfl ?_
    refine wq_bif_eq hC dX6_costByTurns_47 (tgt := 115) (by decide) (fun z8 => ?_) (fun z8 => ?_)
    · have h := wq_in_ z8 h
      refine wq_iinc hC (v := (s.2 + 1)) dX6_costByTurns_115 (lv' := [some (.ref (E.2.1 p0)), some (.int x1), some (.int x2), some (.int x3), some (.int x4), some (.int s.1), some (.int (s.2 + 1)), some (.int (x3 + r4)), none]) rfl rfl (by decide) rfl ?_
      refine wq_goto hC dX6_costByTurns_118 (tgt := 18) (by decide) ?_
      have h := Option.some.inj h
      subst h
      refine wq_mask [true, true, true, true, true, true, true, false, false] (lv' := [some (.ref (E.2.1 p0)), some (.int x1), some (.int x2), some (.int x3), some (.int x4), some (.int s.1), some (.int (s.2 + 1)), none, none]) rfl ?_
      exact K
    · have h := wq_ip z8 h
      refine wq_aload_n hC dX6_costByTurns_50 (i := 0) rfl rfl ?_
      refine wq_iload hC dX6_costByTurns_51 rfl ?_
      refine wq_iconst hC (v := 4) dX6_costByTurns_53 (by decide) ?_
      obtain ⟨r9, hc10, h⟩ := wq_ob h
      refine cv_5 hC (ctX5_figure (d := d - 1) (by omega) hp0 hc10) (by omega) (by decide) hp0.1 rfl rfl npX5_figure tw_515 tw_452 tw_453 tw_454 (st := []) (Nat.le_of_ble_eq_true rfl) rfl dX6_costByTurns_54 (st1 := [.int r9]) rfl ?_
      refine wq_aload_n hC dX6_costByTurns_57 (i := 0) rfl rfl ?_
      refine wq_iload_n hC dX6_costByTurns_58 (i := 1) rfl rfl ?_
      refine wq_iconst hC (v := 1) dX6_costByTurns_59 (by decide) ?_
      refine wq_isub hC dX6_costByTurns_60 ?_
      refine wq_iload_n hC dX6_costByTurns_61 (i := 2) rfl rfl ?_
      refine wq_iconst hC (v := 1) dX6_costByTurns_62 (by decide) ?_
      refine wq_isub hC dX6_costByTurns_63 ?_
      refine wq_iload hC dX6_costByTurns_64 rfl ?_
      refine wq_iload hC dX6_costByTurns_66 rfl ?_
      refine wq_if_ne hC dX6_costByTurns_68 (tgt := 75) (by decide) (fun z11 => ?_) (fun z11 => ?_)
      · have h := wq_in_ z11 h
        refine wq_iconst hC (v := 0) dX6_costByTurns_75 (by decide) ?_
        refine wq_mask [true, true, true, true, true, true, true, false, false] (lv' := [some (.ref (E.2.1 p0)), some (.int x1), some (.int x2), some (.int x3), some (.int x4), some (.int s.1), some (.int s.2), none, none]) rfl ?_
        exact gX6_costByTurns_L18_J76 rcH hC hd0 p0 x1 x2 x3 x4 s.1 s.2 0 (x3 + r4) (x2 - 1) (x1 - 1) p0 r9 M hp0 hp0 h K
      · have h := wq_ip z11 h
        refine wq_iconst hC (v := 1) dX6_costByTurns_71 (by decide) ?_
        refine wq_goto hC dX6_costByTurns_72 (tgt := 76) (by decide) ?_
        refine wq_mask [true, true, true, true, true, true, true, false, false] (lv' := [some (.ref (E.2.1 p0)), some (.int x1), some (.int x2), some (.int x3), some (.int x4), some (.int s.1), some (.int s.2), none, none]) rfl ?_
        exact gX6_costByTurns_L18_J76 rcH hC hd0 p0 x1 x2 x3 x4 s.1 s.2 1 (x3 + r4) (x2 - 1) (x1 - 1) p0 r9 M hp0 hp0 h K
def fX6_costByTurns_e (rc : Nat → Int32 → Int32 → Int32 → Int32 → wq_M → Option Int32) (p0 : Nat) (x1 : Int32) (x2 : Int32) (x3 : Int32) (x4 : Int32) (M : wq_M) : Option Int32 :=
  (if x1 < 1 then
    some 0
  else
    (if 0 ≤ x2 then
      (wq_lp (fX6_costByTurns_L18 rc p0 x1 x2 x3 x4 M) wq_FU ((-1000000), 0)).bind fun e18 => (if e18 = (-1000000) then
        some 0
      else
        some e18)
    else
      some 0))
def fX6_costByTurns : Nat → Nat → Int32 → Int32 → Int32 → Int32 → wq_M → Option Int32
  | 0, _, _, _, _, _, _ => none
  | n + 1, p0, x1, x2, x3, x4, M => fX6_costByTurns_e (fX6_costByTurns n) p0 x1 x2 x3 x4 M
set_option maxHeartbeats 4000000 in
set_option maxRecDepth 100000 in
theorem ctX6_costByTurns_e {l : Launch} {E : wq_E} {d : Nat} {rc : Nat → Int32 → Int32 → Int32 → Int32 → wq_M → Option Int32} (rcH : ∀ {l : Launch} {E : wq_E} {p0 : Nat} {x1 : Int32} {x2 : Int32} {x3 : Int32} {x4 : Int32} {M : wq_M} {r : Int32} (_ : wq_W p0), rc p0 x1 x2 x3 x4 M = some r → wq_ct l E wq_yC yX6_costByTurns cX6_costByTurns 9 (some .int) (d - 1) [.ref (E.2.1 p0), .int x1, .int x2, .int x3, .int x4] M (some (.int r)) M) (hd0 : 5 ≤ d) {p0 : Nat} {x1 : Int32} {x2 : Int32} {x3 : Int32} {x4 : Int32} {M : wq_M} {r : Int32} (hp0 : wq_W p0) (h : fX6_costByTurns_e rc p0 x1 x2 x3 x4 M = some r) : wq_ct l E wq_yC yX6_costByTurns cX6_costByTurns 9 (some .int) d [.ref (E.2.1 p0), .int x1, .int x2, .int x3, .int x4] M (some (.int r)) M := by
  refine wq_ent (own := "WellPipes") (lv0 := [some (.ref (E.2.1 p0)), some (.int x1), some (.int x2), some (.int x3), some (.int x4), none, none, none, none]) (by decide +kernel) rfl (Nat.le_of_ble_eq_true rfl) rfl (fun g h1 h2 hC => ?_)
  have K : wq_ki g M r := ⟨h1, h2⟩
  unfold fX6_costByTurns_e at h
  refine wq_iload_n hC dX6_costByTurns_0 (i := 1) rfl rfl ?_
  refine wq_iconst hC (v := 1) dX6_costByTurns_1 (by decide) ?_
  refine wq_icmp_lt hC dX6_costByTurns_2 (tgt := 9) (by decide) (fun z1 => ?_) (fun z1 => ?_)
  · have h := wq_ip z1 h
    refine wq_iconst hC (v := 0) dX6_costByTurns_9 (by decide) ?_
    have h := Option.some.inj h
    subst h
    exact wq_iret hC dX6_costByTurns_10 K.1 K.2
  · have h := wq_in_ z1 h
    refine wq_iload_n hC dX6_costByTurns_5 (i := 2) rfl rfl ?_
    refine wq_if_ge hC dX6_costByTurns_6 (tgt := 11) (by decide) (fun z2 => ?_) (fun z2 => ?_)
    · have h := wq_ip z2 h
      refine wq_ldc hC (v := (-1000000)) tw_431 dX6_costByTurns_11 ?_
      refine wq_istore hC dX6_costByTurns_13 (lv' := [some (.ref (E.2.1 p0)), some (.int x1), some (.int x2), some (.int x3), some (.int x4), some (.int (-1000000)), none, none, none]) (by decide) rfl ?_
      refine wq_iconst hC (v := 0) dX6_costByTurns_15 (by decide) ?_
      refine wq_istore hC dX6_costByTurns_16 (lv' := [some (.ref (E.2.1 p0)), some (.int x1), some (.int x2), some (.int x3), some (.int x4), some (.int (-1000000)), some (.int 0), none, none]) (by decide) rfl ?_
      obtain ⟨e18, hl19, h⟩ := wq_ob h
      refine gX6_costByTurns_L18 rcH hC hd0 p0 x1 x2 x3 x4 M hp0 wq_FU _ _ hl19 ?_
      refine wq_iload hC dX6_costByTurns_121 rfl ?_
      refine wq_ldc hC (v := (-1000000)) tw_431 dX6_costByTurns_123 ?_
      refine wq_icmp_ne hC dX6_costByTurns_125 (tgt := 132) (by decide) (fun z20 => ?_) (fun z20 => ?_)
      · have h := wq_in_ z20 h
        refine wq_iload hC dX6_costByTurns_132 rfl ?_
        have h := Option.some.inj h
        subst h
        exact wq_iret hC dX6_costByTurns_134 K.1 K.2
      · have h := wq_ip z20 h
        refine wq_iconst hC (v := 0) dX6_costByTurns_128 (by decide) ?_
        refine wq_goto hC dX6_costByTurns_129 (tgt := 134) (by decide) ?_
        have h := Option.some.inj h
        subst h
        exact wq_iret hC dX6_costByTurns_134 K.1 K.2
    · have h := wq_in_ z2 h
      refine wq_iconst hC (v := 0) dX6_costByTurns_9 (by decide) ?_
      have h := Option.some.inj h
      subst h
      exact wq_iret hC dX6_costByTurns_10 K.1 K.2
theorem ctX6_costByTurns : ∀ (n : Nat) {l : Launch} {E : wq_E} {d : Nat} (hd0 : n + 5 ≤ d) {p0 : Nat} {x1 : Int32} {x2 : Int32} {x3 : Int32} {x4 : Int32} {M : wq_M} {r : Int32} (hp0 : wq_W p0) (h : fX6_costByTurns n p0 x1 x2 x3 x4 M = some r), wq_ct l E wq_yC yX6_costByTurns cX6_costByTurns 9 (some .int) d [.ref (E.2.1 p0), .int x1, .int x2, .int x3, .int x4] M (some (.int r)) M
  | 0, l, E, d, hd0, p0, x1, x2, x3, x4, M, r, hp0, h => by simp [fX6_costByTurns] at h
  | n + 1, l, E, d, hd0, p0, x1, x2, x3, x4, M, r, hp0, h => ctX6_costByTurns_e (rc := fX6_costByTurns n) (fun hp0 h => ctX6_costByTurns n (by omega) hp0 h) (by omega) hp0 h
theorem npX6_byTurns : yX6_byTurns.cls ≠ "java/lang/invoke/MethodHandle" ∧ yX6_byTurns.cls ≠ "java/lang/invoke/VarHandle" ∧ (parseMethodDescriptor yX6_byTurns.desc).map (fun d => d.parameters.length) = some 1 := by decide +kernel
def fX6_byTurns (x1 : Int32) (M : wq_M) : Option Int32 :=
  (fX6_hasNoWell  M).bind fun r1 => (if r1 = true then
    some (-1000002)
  else
    (if x1 < 0 then
      some (-1000001)
    else
      (if 4 < x1 then
        some (-1000001)
      else
        (if x1 ≤ (M.1 20 0) then
          (fX6_costByTurns wq_RF 20 x1 ((M.1 20 0) - 1) 0 1 M).bind fun r7 => some r7
        else
          some (-1000001)))))
set_option maxHeartbeats 4000000 in
set_option maxRecDepth 100000 in
theorem ctX6_byTurns {l : Launch} {E : wq_E} {d : Nat} (hd0 : 46 ≤ d) {x1 : Int32} {M : wq_M} {r : Int32}  (h : fX6_byTurns x1 M = some r) : wq_ct l E wq_yC yX6_byTurns cX6_byTurns 2 (some .int) d [.ref (E.2.1 0), .int x1] M (some (.int r)) M := by
  refine wq_ent (own := "WellPipes") (lv0 := [some (.ref (E.2.1 0)), some (.int x1)]) (by decide +kernel) rfl (Nat.le_of_ble_eq_true rfl) rfl (fun g h1 h2 hC => ?_)
  have K : wq_ki g M r := ⟨h1, h2⟩
  unfold fX6_byTurns at h
  refine wq_aload_n hC dX6_byTurns_0 (i := 0) rfl rfl ?_
  obtain ⟨r1, hc2, h⟩ := wq_ob h
  refine cv_6 hC (ctX6_hasNoWell (d := d - 1) (by omega)  hc2) (by omega) (by decide) oC_0 rfl rfl npX6_hasNoWell tw_427 tw_429 tw_12 tw_430 (st := []) (Nat.le_of_ble_eq_true rfl) rfl dX6_byTurns_1 (st1 := [.int (wq_b r1)]) rfl ?_
  refine wq_bif_eq hC dX6_byTurns_4 (tgt := 10) (by decide) (fun z3 => ?_) (fun z3 => ?_)
  · have h := wq_in_ z3 h
    refine wq_iload_n hC dX6_byTurns_10 (i := 1) rfl rfl ?_
    refine wq_if_lt hC dX6_byTurns_11 (tgt := 30) (by decide) (fun z4 => ?_) (fun z4 => ?_)
    · have h := wq_ip z4 h
      refine wq_ldc hC (v := (-1000001)) tw_270 dX6_byTurns_30 ?_
      have h := Option.some.inj h
      subst h
      exact wq_iret hC dX6_byTurns_32 K.1 K.2
    · have h := wq_in_ z4 h
      refine wq_iload_n hC dX6_byTurns_14 (i := 1) rfl rfl ?_
      refine wq_iconst hC (v := 4) dX6_byTurns_15 (by decide) ?_
      refine wq_icmp_gt hC dX6_byTurns_16 (tgt := 30) (by decide) (fun z5 => ?_) (fun z5 => ?_)
      · have h := wq_ip z5 h
        refine wq_ldc hC (v := (-1000001)) tw_270 dX6_byTurns_30 ?_
        have h := Option.some.inj h
        subst h
        exact wq_iret hC dX6_byTurns_32 K.1 K.2
      · have h := wq_in_ z5 h
        refine wq_iload_n hC dX6_byTurns_19 (i := 1) rfl rfl ?_
        refine wq_aload_n hC dX6_byTurns_20 (i := 0) rfl rfl ?_
        refine gf_6 hC oC_0 2 (.ref (E.2.1 20)) (by decide) rfl tw_237 dX6_byTurns_21 ?_
        refine gf_5 hC W_20.1 0 (.int (M.1 20 0)) (by decide) rfl tw_110 dX6_byTurns_24 ?_
        refine wq_icmp_le hC dX6_byTurns_27 (tgt := 33) (by decide) (fun z6 => ?_) (fun z6 => ?_)
        · have h := wq_ip z6 h
          refine wq_aload_n hC dX6_byTurns_33 (i := 0) rfl rfl ?_
          refine gf_6 hC oC_0 2 (.ref (E.2.1 20)) (by decide) rfl tw_237 dX6_byTurns_34 ?_
          refine wq_iload_n hC dX6_byTurns_37 (i := 1) rfl rfl ?_
          refine wq_aload_n hC dX6_byTurns_38 (i := 0) rfl rfl ?_
          refine gf_6 hC oC_0 2 (.ref (E.2.1 20)) (by decide) rfl tw_237 dX6_byTurns_39 ?_
          refine gf_5 hC W_20.1 0 (.int (M.1 20 0)) (by decide) rfl tw_110 dX6_byTurns_42 ?_
          refine wq_iconst hC (v := 1) dX6_byTurns_45 (by decide) ?_
          refine wq_isub hC dX6_byTurns_46 ?_
          refine wq_iconst hC (v := 0) dX6_byTurns_47 (by decide) ?_
          refine wq_iconst hC (v := 1) dX6_byTurns_48 (by decide) ?_
          obtain ⟨r7, hc8, h⟩ := wq_ob h
          refine wq_callS hC (ctX6_costByTurns wq_RF (d := d - 1) (by unfold wq_RF; omega) W_20 hc8) (by omega) (by decide) rfl npX6_costByTurns tw_605 tw_606 tw_51 tw_607 (st := []) (Nat.le_of_ble_eq_true rfl) rfl dX6_byTurns_49 (st1 := [.int r7]) rfl ?_
          have h := Option.some.inj h
          subst h
          exact wq_iret hC dX6_byTurns_52 K.1 K.2
        · have h := wq_in_ z6 h
          refine wq_ldc hC (v := (-1000001)) tw_270 dX6_byTurns_30 ?_
          have h := Option.some.inj h
          subst h
          exact wq_iret hC dX6_byTurns_32 K.1 K.2
  · have h := wq_ip z3 h
    refine wq_ldc hC (v := (-1000002)) tw_392 dX6_byTurns_7 ?_
    have h := Option.some.inj h
    subst h
    exact wq_iret hC dX6_byTurns_9 K.1 K.2
theorem npX6_isBest : yX6_isBest.cls ≠ "java/lang/invoke/MethodHandle" ∧ yX6_isBest.cls ≠ "java/lang/invoke/VarHandle" ∧ (parseMethodDescriptor yX6_isBest.desc).map (fun d => d.parameters.length) = some 3 := by decide +kernel
def fX6_isBest_L18 (p1 : Nat) (p2 : Nat) (x3 : Int32) (M : wq_M) : Int32 → Option (Int32 ⊕ ((Bool × wq_M) ⊕ Unit)) := fun s =>
  (if (M.1 p1 0) ≤ s then
    some (.inr (.inr ()))
  else
    if wq_in (x3 + s) 40 then if wq_in s 8 then (if (M.1 (p2 + 1) (x3 + s).toNatClampNeg) = (M.1 42 s.toNatClampNeg) then
      some (.inl (s + 1))
    else
      some (.inr (.inl (false, M)))) else none else none)
set_option maxHeartbeats 4000000 in
set_option maxRecDepth 100000 in
theorem gX6_isBest_L18 {g : wq_G} {E : wq_E} {d : Nat} (hC : wq_C g E wq_yC cX6_isBest 5 "WellPipes" (some .boolean) d) (hd0 : 6 ≤ d) (p1 : Nat) (p2 : Nat) (x3 : Int32) (M : wq_M) (hp1 : wq_W p1) (hp2 : wq_Rw p2) : ∀ (n : Nat) (s : Int32) (e : ((Bool × wq_M) ⊕ Unit)), wq_lp (fX6_isBest_L18 p1 p2 x3 M) n s = some e → (Sum.elim (wq_kB g) (fun (e : Unit) => wq_g g E wq_yC 5 57 [none, none, none, none, none] [] M)) e → wq_g g E wq_yC 5 18 [some (.ref (E.2.1 0)), some (.ref (E.2.1 p1)), some (.ref (E.2.1 p2)), some (.int x3), some (.int s)] [] M := by
  refine wq_lq_ok (fun (s : Int32) => wq_g g E wq_yC 5 18 [some (.ref (E.2.1 0)), some (.ref (E.2.1 p1)), some (.ref (E.2.1 p2)), some (.int x3), some (.int s)] [] M) (Sum.elim (wq_kB g) (fun (e : Unit) => wq_g g E wq_yC 5 57 [none, none, none, none, none] [] M)) (fun s x h K => ?_)
  unfold fX6_isBest_L18 at h
  refine wq_iload hC dX6_isBest_18 rfl ?_
  refine wq_aload_n hC dX6_isBest_20 (i := 1) rfl rfl ?_
  refine gf_5 hC hp1.1 0 (.int (M.1 p1 0)) (by decide) rfl tw_110 dX6_isBest_21 ?_
  refine wq_icmp_ge hC dX6_isBest_24 (tgt := 57) (by decide) (fun z4 => ?_) (fun z4 => ?_)
  · have h := wq_ip z4 h
    have h := Option.some.inj h
    subst h
    refine wq_mask [false, false, false, false, false] (lv' := [none, none, none, none, none]) rfl ?_
    exact K
  · have h := wq_in_ z4 h
    refine wq_aload_n hC dX6_isBest_27 (i := 2) rfl rfl ?_
    refine gf_3 hC hp2.1 0 (.ref (E.2.1 (p2 + 1))) (by decide) rfl tw_223 dX6_isBest_28 ?_
    refine wq_iload_n hC dX6_isBest_31 (i := 3) rfl rfl ?_
    refine wq_iload hC dX6_isBest_32 rfl ?_
    refine wq_iadd hC dX6_isBest_34 ?_
    obtain ⟨z5, h⟩ := wq_ii h
    refine wq_ald hC hp2.2 z5 dX6_isBest_35 ?_
    refine wq_aload_n hC dX6_isBest_36 (i := 0) rfl rfl ?_
    refine gf_6 hC oC_0 5 (.ref (E.2.1 41)) (by decide) rfl tw_240 dX6_isBest_37 ?_
    refine gf_4 hC oC_41 0 (.ref (E.2.1 42)) (by decide) rfl tw_149 dX6_isBest_40 ?_
    refine wq_iload hC dX6_isBest_43 rfl ?_
    obtain ⟨z6, h⟩ := wq_ii h
    refine wq_ald hC aC_42 z6 dX6_isBest_45 ?_
    refine wq_icmp_eq hC dX6_isBest_46 (tgt := 51) (by decide) (fun z7 => ?_) (fun z7 => ?_)
    · have h := wq_ip z7 h
      refine wq_iinc hC (v := (s + 1)) dX6_isBest_51 (lv' := [some (.ref (E.2.1 0)), some (.ref (E.2.1 p1)), some (.ref (E.2.1 p2)), some (.int x3), some (.int (s + 1))]) rfl rfl (by decide) rfl ?_
      refine wq_goto hC dX6_isBest_54 (tgt := 18) (by decide) ?_
      have h := Option.some.inj h
      subst h
      exact K
    · have h := wq_in_ z7 h
      refine wq_iconst hC (v := 0) dX6_isBest_49 (by decide) ?_
      have h := Option.some.inj h
      subst h
      exact wq_zret hC (b := false) dX6_isBest_50 (by decide) K.1 K.2
def fX6_isBest (p1 : Nat) (p2 : Nat) (x3 : Int32) (M : wq_M) : Option (Bool × wq_M) :=
  (fX4_find p1 (-1000000) M).bind fun r1 => (if r1.1 = true then
    (wq_lp (fX6_isBest_L18 p1 p2 x3 r1.2) wq_FU 0).bind fun e8 => Sum.elim (fun x => some x) (fun e8n => some (true, r1.2)) e8
  else
    some (false, r1.2))
set_option maxHeartbeats 4000000 in
set_option maxRecDepth 100000 in
theorem ctX6_isBest {l : Launch} {E : wq_E} {d : Nat} (hd0 : 6 ≤ d) {p1 : Nat} {p2 : Nat} {x3 : Int32} {M : wq_M} {r : (Bool × wq_M)} (hp1 : wq_W p1) (hp2 : wq_Rw p2) (h : fX6_isBest p1 p2 x3 M = some r) : wq_ct l E wq_yC yX6_isBest cX6_isBest 5 (some .boolean) d [.ref (E.2.1 0), .ref (E.2.1 p1), .ref (E.2.1 p2), .int x3] M (some (.int (wq_b r.1))) r.2 := by
  refine wq_ent (own := "WellPipes") (lv0 := [some (.ref (E.2.1 0)), some (.ref (E.2.1 p1)), some (.ref (E.2.1 p2)), some (.int x3), none]) (by decide +kernel) rfl (Nat.le_of_ble_eq_true rfl) rfl (fun g h1 h2 hC => ?_)
  have K : wq_kB g r := ⟨h1, h2⟩
  unfold fX6_isBest at h
  refine wq_aload_n hC dX6_isBest_0 (i := 0) rfl rfl ?_
  refine gf_6 hC oC_0 5 (.ref (E.2.1 41)) (by decide) rfl tw_240 dX6_isBest_1 ?_
  refine wq_aload_n hC dX6_isBest_4 (i := 1) rfl rfl ?_
  refine wq_ldc hC (v := (-1000000)) tw_431 dX6_isBest_5 ?_
  obtain ⟨r1, hc2, h⟩ := wq_ob h
  refine cv_4 hC (ctX4_find (d := d - 1) (by omega) hp1 hc2) (by omega) (by decide) oC_41 rfl rfl npX4_find tw_432 tw_433 tw_434 tw_435 (st := []) (Nat.le_of_ble_eq_true rfl) rfl dX6_isBest_7 (st1 := [.int (wq_b r1.1)]) rfl ?_
  refine wq_bif_ne hC dX6_isBest_10 (tgt := 15) (by decide) (fun z3 => ?_) (fun z3 => ?_)
  · have h := wq_ip z3 h
    refine wq_iconst hC (v := 0) dX6_isBest_15 (by decide) ?_
    refine wq_istore hC dX6_isBest_16 (lv' := [some (.ref (E.2.1 0)), some (.ref (E.2.1 p1)), some (.ref (E.2.1 p2)), some (.int x3), some (.int 0)]) (by decide) rfl ?_
    obtain ⟨e8, hl9, h⟩ := wq_ob h
    refine gX6_isBest_L18 hC hd0 p1 p2 x3 r1.2 hp1 hp2 wq_FU _ _ hl9 ?_
    rcases e8 with e8x | e8n
    · have h := Option.some.inj h
      subst h
      exact K
    · refine wq_iconst hC (v := 1) dX6_isBest_57 (by decide) ?_
      have h := Option.some.inj h
      subst h
      exact wq_zret hC (b := true) dX6_isBest_58 (by decide) K.1 K.2
  · have h := wq_in_ z3 h
    refine wq_iconst hC (v := 0) dX6_isBest_13 (by decide) ?_
    have h := Option.some.inj h
    subst h
    exact wq_zret hC (b := false) dX6_isBest_14 (by decide) K.1 K.2
theorem npX6_who : yX6_who.cls ≠ "java/lang/invoke/MethodHandle" ∧ yX6_who.cls ≠ "java/lang/invoke/VarHandle" ∧ (parseMethodDescriptor yX6_who.desc).map (fun d => d.parameters.length) = some 4 := by decide +kernel
def fX6_who_L89_J136 (x1 : Int32) (x2 : Int32) (x4 : Int32) (p5 : Nat) (x6 : Int32) (x7 : Int32) (M : wq_M) : Option ((Int32 × Int32 × wq_M) ⊕ (Int32 × wq_M)) :=
  (fX6_isBest 25 p5 x4 M).bind fun r23 => (if r23.1 = true then
    some (.inl ((x6 ||| (1 <<< (x7 &&& 31))), (x7 + 1), r23.2))
  else
    some (.inl (x6, (x7 + 1), r23.2)))
set_option maxHeartbeats 4000000 in
set_option maxRecDepth 100000 in
theorem gX6_who_L89_J136 {g : wq_G} {E : wq_E} {d : Nat} (hC : wq_C g E wq_yC cX6_who 8 "WellPipes" (some .int) d) (hd0 : 7 ≤ d) (x1 : Int32) (x2 : Int32) (x4 : Int32) (p5 : Nat) (x6 : Int32) (x7 : Int32) (M : wq_M) (hp5 : wq_Rw p5) {x : ((Int32 × Int32 × wq_M) ⊕ (Int32 × wq_M))} (h : fX6_who_L89_J136 x1 x2 x4 p5 x6 x7 M = some x) (K : (Sum.elim (fun (s : (Int32 × Int32 × wq_M)) => wq_g g E wq_yC 8 89 [some (.ref (E.2.1 0)), some (.int x1), some (.int x2), none, some (.int x4), some (.ref (E.2.1 p5)), some (.int s.1), some (.int s.2.1)] [] s.2.2) (fun (e : (Int32 × wq_M)) => wq_g g E wq_yC 8 166 [some (.ref (E.2.1 0)), none, none, none, none, none, some (.int e.1), none] [] e.2)) x) : wq_g g E wq_yC 8 136 [some (.ref (E.2.1 0)), some (.int x1), some (.int x2), none, some (.int x4), some (.ref (E.2.1 p5)), some (.int x6), some (.int x7)] [] M := by
  unfold fX6_who_L89_J136 at h
  refine wq_aload_n hC dX6_who_136 (i := 0) rfl rfl ?_
  refine wq_aload_n hC dX6_who_137 (i := 0) rfl rfl ?_
  refine gf_6 hC oC_0 3 (.ref (E.2.1 25)) (by decide) rfl tw_238 dX6_who_138 ?_
  refine wq_aload hC dX6_who_141 rfl ?_
  refine wq_iload hC dX6_who_143 rfl ?_
  obtain ⟨r23, hc24, h⟩ := wq_ob h
  refine cv_6 hC (ctX6_isBest (d := d - 1) (by omega) W_25 hp5 hc24) (by omega) (by decide) oC_0 rfl rfl npX6_isBest tw_613 tw_615 tw_18 tw_616 (st := []) (Nat.le_of_ble_eq_true rfl) rfl dX6_who_145 (st1 := [.int (wq_b r23.1)]) rfl ?_
  refine wq_bif_eq hC dX6_who_148 (tgt := 160) (by decide) (fun z25 => ?_) (fun z25 => ?_)
  · have h := wq_in_ z25 h
    refine wq_iinc hC (v := (x7 + 1)) dX6_who_160 (lv' := [some (.ref (E.2.1 0)), some (.int x1), some (.int x2), none, some (.int x4), some (.ref (E.2.1 p5)), some (.int x6), some (.int (x7 + 1))]) rfl rfl (by decide) rfl ?_
    refine wq_goto hC dX6_who_163 (tgt := 89) (by decide) ?_
    have h := Option.some.inj h
    subst h
    exact K
  · have h := wq_ip z25 h
    refine wq_iload hC dX6_who_151 rfl ?_
    refine wq_iconst hC (v := 1) dX6_who_153 (by decide) ?_
    refine wq_iload hC dX6_who_154 rfl ?_
    refine wq_ishl hC dX6_who_156 ?_
    refine wq_ior hC dX6_who_157 ?_
    refine wq_istore hC dX6_who_158 (lv' := [some (.ref (E.2.1 0)), some (.int x1), some (.int x2), none, some (.int x4), some (.ref (E.2.1 p5)), some (.int (x6 ||| (1 <<< (x7 &&& 31)))), some (.int x7)]) (by decide) rfl ?_
    refine wq_iinc hC (v := (x7 + 1)) dX6_who_160 (lv' := [some (.ref (E.2.1 0)), some (.int x1), some (.int x2), none, some (.int x4), some (.ref (E.2.1 p5)), some (.int (x6 ||| (1 <<< (x7 &&& 31)))), some (.int (x7 + 1))]) rfl rfl (by decide) rfl ?_
    refine wq_goto hC dX6_who_163 (tgt := 89) (by decide) ?_
    have h := Option.some.inj h
    subst h
    exact K
def fX6_who_L89_J104 (x1 : Int32) (x2 : Int32) (x4 : Int32) (p5 : Nat) (x6 : Int32) (x7 : Int32) (y0 : Int32) (y1 : Int32) (M : wq_M) : Option ((Int32 × Int32 × wq_M) ⊕ (Int32 × wq_M)) :=
  (if y0 < y1 then
    some (.inr (x6, M))
  else
    (if x2 = 0 then
      if wq_in x1 5 then fX6_who_L89_J136 x1 x2 x4 p5 x6 x7 (wq_st M 27 x1.toNatClampNeg x7) else none
    else
      if wq_in 3 4 then fX6_who_L89_J136 x1 x2 x4 p5 x6 x7 (wq_st M 26 (3 : Int32).toNatClampNeg x7) else none))
set_option maxHeartbeats 4000000 in
set_option maxRecDepth 100000 in
theorem gX6_who_L89_J104 {g : wq_G} {E : wq_E} {d : Nat} (hC : wq_C g E wq_yC cX6_who 8 "WellPipes" (some .int) d) (hd0 : 7 ≤ d) (x1 : Int32) (x2 : Int32) (x4 : Int32) (p5 : Nat) (x6 : Int32) (x7 : Int32) (y0 : Int32) (y1 : Int32) (M : wq_M) (hp5 : wq_Rw p5) {x : ((Int32 × Int32 × wq_M) ⊕ (Int32 × wq_M))} (h : fX6_who_L89_J104 x1 x2 x4 p5 x6 x7 y0 y1 M = some x) (K : (Sum.elim (fun (s : (Int32 × Int32 × wq_M)) => wq_g g E wq_yC 8 89 [some (.ref (E.2.1 0)), some (.int x1), some (.int x2), none, some (.int x4), some (.ref (E.2.1 p5)), some (.int s.1), some (.int s.2.1)] [] s.2.2) (fun (e : (Int32 × wq_M)) => wq_g g E wq_yC 8 166 [some (.ref (E.2.1 0)), none, none, none, none, none, some (.int e.1), none] [] e.2)) x) : wq_g g E wq_yC 8 104 [some (.ref (E.2.1 0)), some (.int x1), some (.int x2), none, some (.int x4), some (.ref (E.2.1 p5)), some (.int x6), some (.int x7)] [.int y0, .int y1] M := by
  unfold fX6_who_L89_J104 at h
  refine wq_icmp_gt hC dX6_who_104 (tgt := 166) (by decide) (fun z20 => ?_) (fun z20 => ?_)
  · have h := wq_ip z20 h
    have h := Option.some.inj h
    subst h
    refine wq_mask [true, false, false, false, false, false, true, false] (lv' := [some (.ref (E.2.1 0)), none, none, none, none, none, some (.int x6), none]) rfl ?_
    exact K
  · have h := wq_in_ z20 h
    refine wq_iload_n hC dX6_who_107 (i := 2) rfl rfl ?_
    refine wq_if_ne hC dX6_who_108 (tgt := 125) (by decide) (fun z21 => ?_) (fun z21 => ?_)
    · have h := wq_in_ z21 h
      refine wq_aload_n hC dX6_who_125 (i := 0) rfl rfl ?_
      refine gf_6 hC oC_0 3 (.ref (E.2.1 25)) (by decide) rfl tw_238 dX6_who_126 ?_
      refine gf_5 hC W_25.1 2 (.ref (E.2.1 26)) (by decide) rfl tw_119 dX6_who_129 ?_
      refine wq_iconst hC (v := 3) dX6_who_132 (by decide) ?_
      refine wq_iload hC dX6_who_133 rfl ?_
      obtain ⟨z22, h⟩ := wq_ii h
      refine wq_ast hC aC_26 z22 dX6_who_135 ?_
      exact gX6_who_L89_J136 hC hd0 x1 x2 x4 p5 x6 x7 (wq_st M 26 (3 : Int32).toNatClampNeg x7) hp5 h K
    · have h := wq_ip z21 h
      refine wq_aload_n hC dX6_who_111 (i := 0) rfl rfl ?_
      refine gf_6 hC oC_0 3 (.ref (E.2.1 25)) (by decide) rfl tw_238 dX6_who_112 ?_
      refine gf_5 hC W_25.1 3 (.ref (E.2.1 27)) (by decide) rfl tw_123 dX6_who_115 ?_
      refine wq_iload_n hC dX6_who_118 (i := 1) rfl rfl ?_
      refine wq_iload hC dX6_who_119 rfl ?_
      obtain ⟨z26, h⟩ := wq_ii h
      refine wq_ast hC aC_27 z26 dX6_who_121 ?_
      refine wq_goto hC dX6_who_122 (tgt := 136) (by decide) ?_
      exact gX6_who_L89_J136 hC hd0 x1 x2 x4 p5 x6 x7 (wq_st M 27 x1.toNatClampNeg x7) hp5 h K
def fX6_who_L89 (x1 : Int32) (x2 : Int32) (x4 : Int32) (p5 : Nat) : (Int32 × Int32 × wq_M) → Option ((Int32 × Int32 × wq_M) ⊕ (Int32 × wq_M)) := fun s =>
  (if x2 = 0 then
    fX6_who_L89_J104 x1 x2 x4 p5 s.1 s.2.1 5 s.2.1 s.2.2
  else
    if wq_in 3 4 then fX6_who_L89_J104 x1 x2 x4 p5 s.1 s.2.1 (wq_sf 1 (3 : Int32).toNatClampNeg) s.2.1 s.2.2 else none)
set_option maxHeartbeats 4000000 in
set_option maxRecDepth 100000 in
theorem gX6_who_L89 {g : wq_G} {E : wq_E} {d : Nat} (hC : wq_C g E wq_yC cX6_who 8 "WellPipes" (some .int) d) (hd0 : 7 ≤ d) (x1 : Int32) (x2 : Int32) (x4 : Int32) (p5 : Nat) (hp5 : wq_Rw p5) : ∀ (n : Nat) (s : (Int32 × Int32 × wq_M)) (e : (Int32 × wq_M)), wq_lp (fX6_who_L89 x1 x2 x4 p5) n s = some e → (fun (e : (Int32 × wq_M)) => wq_g g E wq_yC 8 166 [some (.ref (E.2.1 0)), none, none, none, none, none, some (.int e.1), none] [] e.2) e → wq_g g E wq_yC 8 89 [some (.ref (E.2.1 0)), some (.int x1), some (.int x2), none, some (.int x4), some (.ref (E.2.1 p5)), some (.int s.1), some (.int s.2.1)] [] s.2.2 := by
  refine wq_lq_ok (fun (s : (Int32 × Int32 × wq_M)) => wq_g g E wq_yC 8 89 [some (.ref (E.2.1 0)), some (.int x1), some (.int x2), none, some (.int x4), some (.ref (E.2.1 p5)), some (.int s.1), some (.int s.2.1)] [] s.2.2) (fun (e : (Int32 × wq_M)) => wq_g g E wq_yC 8 166 [some (.ref (E.2.1 0)), none, none, none, none, none, some (.int e.1), none] [] e.2) (fun s x h K => ?_)
  unfold fX6_who_L89 at h
  refine wq_iload hC dX6_who_89 rfl ?_
  refine wq_iload_n hC dX6_who_91 (i := 2) rfl rfl ?_
  refine wq_if_ne hC dX6_who_92 (tgt := 99) (by decide) (fun z18 => ?_) (fun z18 => ?_)
  · have h := wq_in_ z18 h
    refine wq_gets hC 1 (by decide) tw_509 dX6_who_99 ?_
    refine wq_iconst hC (v := 3) dX6_who_102 (by decide) ?_
    obtain ⟨z19, h⟩ := wq_ii h
    refine wq_tald hC 1 (by decide) rfl z19 dX6_who_103 ?_
    exact gX6_who_L89_J104 hC hd0 x1 x2 x4 p5 s.1 s.2.1 (wq_sf 1 (3 : Int32).toNatClampNeg) s.2.1 s.2.2 hp5 h K
  · have h := wq_ip z18 h
    refine wq_iconst hC (v := 5) dX6_who_95 (by decide) ?_
    refine wq_goto hC dX6_who_96 (tgt := 104) (by decide) ?_
    exact gX6_who_L89_J104 hC hd0 x1 x2 x4 p5 s.1 s.2.1 5 s.2.1 s.2.2 hp5 h K
def fX6_who (x1 : Int32) (x2 : Int32) (x3 : Int32) (x4 : Int32) (M : wq_M) : Option (Int32 × wq_M) :=
  (fX6_isGrade x1 M).bind fun r1 => (if r1 = true then
    (if x2 < 0 then
      some ((-1000001), M)
    else
      (if 1 < x2 then
        some ((-1000001), M)
      else
        (fX6_isRow x3 M).bind fun r6 => (if r6 = true then
          if wq_in x3 8 then (fX3_isMissing (2 + 2 * x3.toNatClampNeg) M).bind fun r10 => (if r10 = true then
            (fX6_found 1 M).bind fun r33 => some (r33.1, r33.2)
          else
            (fX3_hasPlaces (2 + 2 * x3.toNatClampNeg) x4 (M.1 20 0) M).bind fun r13 => (if r13 = true then
              (fX5_becomes 25 20 M).bind fun r16 => (wq_lp (fX6_who_L89 x1 x2 x4 (2 + 2 * x3.toNatClampNeg)) wq_FU (0, 1, r16)).bind fun e27 => (fX6_passed e27.1 e27.2).bind fun r29 => some (r29.1, r29.2)
            else
              (fX6_found 2 M).bind fun r31 => some (r31.1, r31.2))) else none
        else
          some ((-1000001), M))))
  else
    some ((-1000001), M))
set_option maxHeartbeats 4000000 in
set_option maxRecDepth 100000 in
theorem ctX6_who {l : Launch} {E : wq_E} {d : Nat} (hd0 : 7 ≤ d) {x1 : Int32} {x2 : Int32} {x3 : Int32} {x4 : Int32} {M : wq_M} {r : (Int32 × wq_M)}  (h : fX6_who x1 x2 x3 x4 M = some r) : wq_ct l E wq_yC yX6_who cX6_who 8 (some .int) d [.ref (E.2.1 0), .int x1, .int x2, .int x3, .int x4] M (some (.int r.1)) r.2 := by
  refine wq_ent (own := "WellPipes") (lv0 := [some (.ref (E.2.1 0)), some (.int x1), some (.int x2), some (.int x3), some (.int x4), none, none, none]) (by decide +kernel) rfl (Nat.le_of_ble_eq_true rfl) rfl (fun g h1 h2 hC => ?_)
  have K : wq_kI g r := ⟨h1, h2⟩
  unfold fX6_who at h
  refine wq_aload_n hC dX6_who_0 (i := 0) rfl rfl ?_
  refine wq_iload_n hC dX6_who_1 (i := 1) rfl rfl ?_
  obtain ⟨r1, hc2, h⟩ := wq_ob h
  refine cv_6 hC (ctX6_isGrade (d := d - 1) (by omega)  hc2) (by omega) (by decide) oC_0 rfl rfl npX6_isGrade tw_410 tw_412 tw_11 tw_413 (st := []) (Nat.le_of_ble_eq_true rfl) rfl dX6_who_2 (st1 := [.int (wq_b r1)]) rfl ?_
  refine wq_bif_eq hC dX6_who_5 (tgt := 24) (by decide) (fun z3 => ?_) (fun z3 => ?_)
  · have h := wq_in_ z3 h
    refine wq_ldc hC (v := (-1000001)) tw_270 dX6_who_24 ?_
    have h := Option.some.inj h
    subst h
    exact wq_iret hC dX6_who_26 K.1 K.2
  · have h := wq_ip z3 h
    refine wq_iload_n hC dX6_who_8 (i := 2) rfl rfl ?_
    refine wq_if_lt hC dX6_who_9 (tgt := 24) (by decide) (fun z4 => ?_) (fun z4 => ?_)
    · have h := wq_ip z4 h
      refine wq_ldc hC (v := (-1000001)) tw_270 dX6_who_24 ?_
      have h := Option.some.inj h
      subst h
      exact wq_iret hC dX6_who_26 K.1 K.2
    · have h := wq_in_ z4 h
      refine wq_iload_n hC dX6_who_12 (i := 2) rfl rfl ?_
      refine wq_iconst hC (v := 1) dX6_who_13 (by decide) ?_
      refine wq_icmp_gt hC dX6_who_14 (tgt := 24) (by decide) (fun z5 => ?_) (fun z5 => ?_)
      · have h := wq_ip z5 h
        refine wq_ldc hC (v := (-1000001)) tw_270 dX6_who_24 ?_
        have h := Option.some.inj h
        subst h
        exact wq_iret hC dX6_who_26 K.1 K.2
      · have h := wq_in_ z5 h
        refine wq_iload_n hC dX6_who_17 (i := 3) rfl rfl ?_
        obtain ⟨r6, hc7, h⟩ := wq_ob h
        refine wq_callS hC (ctX6_isRow (d := d - 1) (by omega)  hc7) (by omega) (by decide) rfl npX6_isRow tw_267 tw_268 tw_51 tw_269 (st := []) (Nat.le_of_ble_eq_true rfl) rfl dX6_who_18 (st1 := [.int (wq_b r6)]) rfl ?_
        refine wq_bif_ne hC dX6_who_21 (tgt := 27) (by decide) (fun z8 => ?_) (fun z8 => ?_)
        · have h := wq_ip z8 h
          refine wq_aload_n hC dX6_who_27 (i := 0) rfl rfl ?_
          refine gf_6 hC oC_0 0 (.ref (E.2.1 1)) (by decide) rfl tw_235 dX6_who_28 ?_
          refine wq_iload_n hC dX6_who_31 (i := 3) rfl rfl ?_
          obtain ⟨z9, h⟩ := wq_ii h
          refine wq_aldR hC oC_1.1 oC_1.2 rfl z9 dX6_who_32 ?_
          refine wq_astore hC dX6_who_33 (lv' := [some (.ref (E.2.1 0)), some (.int x1), some (.int x2), some (.int x3), some (.int x4), some (.ref (E.2.1 (2 + 2 * x3.toNatClampNeg))), none, none]) (by decide) rfl ?_
          refine wq_aload hC dX6_who_35 rfl ?_
          obtain ⟨r10, hc11, h⟩ := wq_ob h
          refine cv_3 hC (ctX3_isMissing (d := d - 1) (by omega) (Rw_of z9) hc11) (by omega) (by decide) (Rw_of z9).1 rfl rfl npX3_isMissing tw_291 tw_292 tw_293 tw_294 (st := []) (Nat.le_of_ble_eq_true rfl) rfl dX6_who_37 (st1 := [.int (wq_b r10)]) rfl ?_
          refine wq_bif_eq hC dX6_who_40 (tgt := 49) (by decide) (fun z12 => ?_) (fun z12 => ?_)
          · have h := wq_in_ z12 h
            refine wq_aload hC dX6_who_49 rfl ?_
            refine wq_iload hC dX6_who_51 rfl ?_
            refine wq_aload_n hC dX6_who_53 (i := 0) rfl rfl ?_
            refine gf_6 hC oC_0 2 (.ref (E.2.1 20)) (by decide) rfl tw_237 dX6_who_54 ?_
            refine gf_5 hC W_20.1 0 (.int (M.1 20 0)) (by decide) rfl tw_110 dX6_who_57 ?_
            obtain ⟨r13, hc14, h⟩ := wq_ob h
            refine cv_3 hC (ctX3_hasPlaces (d := d - 1) (by omega) (Rw_of z9) hc14) (by omega) (by decide) (Rw_of z9).1 rfl rfl npX3_hasPlaces tw_295 tw_296 tw_297 tw_298 (st := []) (Nat.le_of_ble_eq_true rfl) rfl dX6_who_60 (st1 := [.int (wq_b r13)]) rfl ?_
            refine wq_bif_ne hC dX6_who_63 (tgt := 72) (by decide) (fun z15 => ?_) (fun z15 => ?_)
            · have h := wq_ip z15 h
              refine wq_aload_n hC dX6_who_72 (i := 0) rfl rfl ?_
              refine gf_6 hC oC_0 3 (.ref (E.2.1 25)) (by decide) rfl tw_238 dX6_who_73 ?_
              refine wq_aload_n hC dX6_who_76 (i := 0) rfl rfl ?_
              refine gf_6 hC oC_0 2 (.ref (E.2.1 20)) (by decide) rfl tw_237 dX6_who_77 ?_
              obtain ⟨r16, hc17, h⟩ := wq_ob h
              refine cv_5 hC (ctX5_becomes (d := d - 1) (by omega) W_25 W_20 hc17) (by omega) (by decide) W_25.1 rfl rfl npX5_becomes tw_375 tw_376 tw_377 tw_378 (st := []) (Nat.le_of_ble_eq_true rfl) rfl dX6_who_80 (st1 := []) rfl ?_
              refine wq_iconst hC (v := 0) dX6_who_83 (by decide) ?_
              refine wq_istore hC dX6_who_84 (lv' := [some (.ref (E.2.1 0)), some (.int x1), some (.int x2), some (.int x3), some (.int x4), some (.ref (E.2.1 (2 + 2 * x3.toNatClampNeg))), some (.int 0), none]) (by decide) rfl ?_
              refine wq_iconst hC (v := 1) dX6_who_86 (by decide) ?_
              refine wq_istore hC dX6_who_87 (lv' := [some (.ref (E.2.1 0)), some (.int x1), some (.int x2), some (.int x3), some (.int x4), some (.ref (E.2.1 (2 + 2 * x3.toNatClampNeg))), some (.int 0), some (.int 1)]) (by decide) rfl ?_
              obtain ⟨e27, hl28, h⟩ := wq_ob h
              refine wq_mask [true, true, true, false, true, true, true, true] (lv' := [some (.ref (E.2.1 0)), some (.int x1), some (.int x2), none, some (.int x4), some (.ref (E.2.1 (2 + 2 * x3.toNatClampNeg))), some (.int 0), some (.int 1)]) rfl ?_
              refine gX6_who_L89 hC hd0 x1 x2 x4 (2 + 2 * x3.toNatClampNeg) (Rw_of z9) wq_FU _ _ hl28 ?_
              refine wq_aload_n hC dX6_who_166 (i := 0) rfl rfl ?_
              refine wq_iload hC dX6_who_167 rfl ?_
              obtain ⟨r29, hc30, h⟩ := wq_ob h
              refine cv_6 hC (ctX6_passed (d := d - 1) (by omega)  hc30) (by omega) (by decide) oC_0 rfl rfl npX6_passed tw_283 tw_285 tw_1 tw_286 (st := []) (Nat.le_of_ble_eq_true rfl) rfl dX6_who_169 (st1 := [.int r29.1]) rfl ?_
              have h := Option.some.inj h
              subst h
              exact wq_iret hC dX6_who_172 K.1 K.2
            · have h := wq_in_ z15 h
              refine wq_aload_n hC dX6_who_66 (i := 0) rfl rfl ?_
              refine wq_iconst hC (v := 2) dX6_who_67 (by decide) ?_
              obtain ⟨r31, hc32, h⟩ := wq_ob h
              refine cv_6 hC (ctX6_found (d := d - 1) (by omega)  hc32) (by omega) (by decide) oC_0 rfl rfl npX6_found tw_271 tw_273 tw_0 tw_274 (st := []) (Nat.le_of_ble_eq_true rfl) rfl dX6_who_68 (st1 := [.int r31.1]) rfl ?_
              have h := Option.some.inj h
              subst h
              exact wq_iret hC dX6_who_71 K.1 K.2
          · have h := wq_ip z12 h
            refine wq_aload_n hC dX6_who_43 (i := 0) rfl rfl ?_
            refine wq_iconst hC (v := 1) dX6_who_44 (by decide) ?_
            obtain ⟨r33, hc34, h⟩ := wq_ob h
            refine cv_6 hC (ctX6_found (d := d - 1) (by omega)  hc34) (by omega) (by decide) oC_0 rfl rfl npX6_found tw_271 tw_273 tw_0 tw_274 (st := []) (Nat.le_of_ble_eq_true rfl) rfl dX6_who_45 (st1 := [.int r33.1]) rfl ?_
            have h := Option.some.inj h
            subst h
            exact wq_iret hC dX6_who_48 K.1 K.2
        · have h := wq_in_ z8 h
          refine wq_ldc hC (v := (-1000001)) tw_270 dX6_who_24 ?_
          have h := Option.some.inj h
          subst h
          exact wq_iret hC dX6_who_26 K.1 K.2
theorem npX6_greatestDivisor : yX6_greatestDivisor.cls ≠ "java/lang/invoke/MethodHandle" ∧ yX6_greatestDivisor.cls ≠ "java/lang/invoke/VarHandle" ∧ (parseMethodDescriptor yX6_greatestDivisor.desc).map (fun d => d.parameters.length) = some 2 := by decide +kernel
def fX6_greatestDivisor_L9 (M : wq_M) : (Int64 × Int64 × Int32) → Option ((Int64 × Int64 × Int32) ⊕ Int64) := fun s =>
  (if 128 ≤ s.2.2 then
    some (.inr s.1)
  else
    (if (lg_cmp s.2.1 (0 : Int64)) = 0 then
      some (.inr s.1)
    else
      if ¬ s.2.1 = 0 then some (.inl (s.2.1, (s.1 - s.1 / s.2.1 * s.2.1), (s.2.2 + 1))) else none))
set_option maxHeartbeats 4000000 in
set_option maxRecDepth 100000 in
theorem gX6_greatestDivisor_L9 {g : wq_G} {E : wq_E} {d : Nat} (hC : wq_C g E wq_yC cX6_greatestDivisor 11 "WellPipes" (some .long) d) (hd0 : 0 ≤ d) (M : wq_M)  : ∀ (n : Nat) (s : (Int64 × Int64 × Int32)) (e : Int64), wq_lp (fX6_greatestDivisor_L9 M) n s = some e → (fun (e : Int64) => wq_g g E wq_yC 11 45 [none, none, none, none, some (.long e), none, none, none, none, none, none] [] M) e → wq_g g E wq_yC 11 9 [none, none, none, none, some (.long s.1), none, some (.long s.2.1), none, some (.int s.2.2), none, none] [] M := by
  refine wq_lq_ok (fun (s : (Int64 × Int64 × Int32)) => wq_g g E wq_yC 11 9 [none, none, none, none, some (.long s.1), none, some (.long s.2.1), none, some (.int s.2.2), none, none] [] M) (fun (e : Int64) => wq_g g E wq_yC 11 45 [none, none, none, none, some (.long e), none, none, none, none, none, none] [] M) (fun s x h K => ?_)
  unfold fX6_greatestDivisor_L9 at h
  refine wq_iload hC dX6_greatestDivisor_9 rfl ?_
  refine wq_sipush hC (v := 128) dX6_greatestDivisor_11 (by decide) ?_
  refine wq_icmp_ge hC dX6_greatestDivisor_14 (tgt := 45) (by decide) (fun z1 => ?_) (fun z1 => ?_)
  · have h := wq_ip z1 h
    have h := Option.some.inj h
    subst h
    refine wq_mask [false, false, false, false, true, false, false, false, false, false, false] (lv' := [none, none, none, none, some (.long s.1), none, none, none, none, none, none]) rfl ?_
    exact K
  · have h := wq_in_ z1 h
    refine wq_lload hC dX6_greatestDivisor_17 rfl ?_
    refine wq_lconst hC (v := 0) dX6_greatestDivisor_19 (by decide) ?_
    refine wq_lcmp hC dX6_greatestDivisor_20 ?_
    refine wq_if_eq hC dX6_greatestDivisor_21 (tgt := 45) (by decide) (fun z2 => ?_) (fun z2 => ?_)
    · have h := wq_ip z2 h
      have h := Option.some.inj h
      subst h
      refine wq_mask [false, false, false, false, true, false, false, false, false, false, false] (lv' := [none, none, none, none, some (.long s.1), none, none, none, none, none, none]) rfl ?_
      exact K
    · have h := wq_in_ z2 h
      refine wq_lload hC dX6_greatestDivisor_24 rfl ?_
      refine wq_lload hC dX6_greatestDivisor_26 rfl ?_
      obtain ⟨z3, h⟩ := wq_ii h
      refine wq_lrem hC dX6_greatestDivisor_28 z3 ?_
      refine wq_lstore hC dX6_greatestDivisor_29 (lv' := [none, none, none, none, some (.long s.1), none, some (.long s.2.1), none, some (.int s.2.2), some (.long (s.1 - s.1 / s.2.1 * s.2.1)), none]) (by decide) rfl ?_
      refine wq_lload hC dX6_greatestDivisor_31 rfl ?_
      refine wq_lstore hC dX6_greatestDivisor_33 (lv' := [none, none, none, none, some (.long s.2.1), none, some (.long s.2.1), none, some (.int s.2.2), some (.long (s.1 - s.1 / s.2.1 * s.2.1)), none]) (by decide) rfl ?_
      refine wq_lload hC dX6_greatestDivisor_35 rfl ?_
      refine wq_lstore hC dX6_greatestDivisor_37 (lv' := [none, none, none, none, some (.long s.2.1), none, some (.long (s.1 - s.1 / s.2.1 * s.2.1)), none, some (.int s.2.2), some (.long (s.1 - s.1 / s.2.1 * s.2.1)), none]) (by decide) rfl ?_
      refine wq_iinc hC (v := (s.2.2 + 1)) dX6_greatestDivisor_39 (lv' := [none, none, none, none, some (.long s.2.1), none, some (.long (s.1 - s.1 / s.2.1 * s.2.1)), none, some (.int (s.2.2 + 1)), some (.long (s.1 - s.1 / s.2.1 * s.2.1)), none]) rfl rfl (by decide) rfl ?_
      refine wq_goto hC dX6_greatestDivisor_42 (tgt := 9) (by decide) ?_
      have h := Option.some.inj h
      subst h
      refine wq_mask [false, false, false, false, true, false, true, false, true, false, false] (lv' := [none, none, none, none, some (.long s.2.1), none, some (.long (s.1 - s.1 / s.2.1 * s.2.1)), none, some (.int (s.2.2 + 1)), none, none]) rfl ?_
      exact K
def fX6_greatestDivisor (x0 : Int64) (x2 : Int64) (M : wq_M) : Option Int64 :=
  (wq_lp (fX6_greatestDivisor_L9 M) wq_FU (x2, x0, 0)).bind fun e4 => some e4
set_option maxHeartbeats 4000000 in
set_option maxRecDepth 100000 in
theorem ctX6_greatestDivisor {l : Launch} {E : wq_E} {d : Nat} (hd0 : 0 ≤ d) {x0 : Int64} {x2 : Int64} {M : wq_M} {r : Int64}  (h : fX6_greatestDivisor x0 x2 M = some r) : wq_ct l E wq_yC yX6_greatestDivisor cX6_greatestDivisor 11 (some .long) d [.long x0, .long x2] M (some (.long r)) M := by
  refine wq_ent (own := "WellPipes") (lv0 := [some (.long x0), none, some (.long x2), none, none, none, none, none, none, none, none]) (by decide +kernel) rfl (Nat.le_of_ble_eq_true rfl) rfl (fun g h1 h2 hC => ?_)
  have K : wq_kl g M r := ⟨h1, h2⟩
  unfold fX6_greatestDivisor at h
  refine wq_lload_n hC dX6_greatestDivisor_0 (i := 2) rfl rfl ?_
  refine wq_lstore hC dX6_greatestDivisor_1 (lv' := [some (.long x0), none, some (.long x2), none, some (.long x2), none, none, none, none, none, none]) (by decide) rfl ?_
  refine wq_lload_n hC dX6_greatestDivisor_3 (i := 0) rfl rfl ?_
  refine wq_lstore hC dX6_greatestDivisor_4 (lv' := [some (.long x0), none, some (.long x2), none, some (.long x2), none, some (.long x0), none, none, none, none]) (by decide) rfl ?_
  refine wq_iconst hC (v := 0) dX6_greatestDivisor_6 (by decide) ?_
  refine wq_istore hC dX6_greatestDivisor_7 (lv' := [some (.long x0), none, some (.long x2), none, some (.long x2), none, some (.long x0), none, some (.int 0), none, none]) (by decide) rfl ?_
  obtain ⟨e4, hl5, h⟩ := wq_ob h
  refine wq_mask [false, false, false, false, true, false, true, false, true, false, false] (lv' := [none, none, none, none, some (.long x2), none, some (.long x0), none, some (.int 0), none, none]) rfl ?_
  refine gX6_greatestDivisor_L9 hC hd0  M  wq_FU _ _ hl5 ?_
  refine wq_lload hC dX6_greatestDivisor_45 rfl ?_
  have h := Option.some.inj h
  subst h
  exact wq_lret hC dX6_greatestDivisor_47 K.1 K.2
theorem npX6_flaws : yX6_flaws.cls ≠ "java/lang/invoke/MethodHandle" ∧ yX6_flaws.cls ≠ "java/lang/invoke/VarHandle" ∧ (parseMethodDescriptor yX6_flaws.desc).map (fun d => d.parameters.length) = some 2 := by decide +kernel
def fX6_flaws_L58 (x1 : Int32) (x2 : Int32) (M : wq_M) : (Int64 × Int64 × Int32) → Option ((Int64 × Int64 × Int32) ⊕ (Int64 × Int64)) := fun s =>
  (if (M.1 20 0) ≤ s.2.2 then
    some (.inr (s.1, s.2.1))
  else
    (if (lg_cmp s.1 (0 : Int64)) = 0 then
      some (.inl (s.1, s.2.1, (s.2.2 + 1)))
    else
      (fX5_holdsFlawed 20 s.2.2 M).bind fun r13 => (if r13 = true then
        some (.inl (s.1, s.2.1, (s.2.2 + 1)))
      else
        some (.inl ((s.1 * (10 - x1).toInt64), (s.2.1 * (10 : Int64)), (s.2.2 + 1))))))
set_option maxHeartbeats 4000000 in
set_option maxRecDepth 100000 in
theorem gX6_flaws_L58 {g : wq_G} {E : wq_E} {d : Nat} (hC : wq_C g E wq_yC cX6_flaws 9 "WellPipes" (some .long) d) (hd0 : 6 ≤ d) (x1 : Int32) (x2 : Int32) (M : wq_M)  : ∀ (n : Nat) (s : (Int64 × Int64 × Int32)) (e : (Int64 × Int64)), wq_lp (fX6_flaws_L58 x1 x2 M) n s = some e → (fun (e : (Int64 × Int64)) => wq_g g E wq_yC 9 110 [none, none, some (.int x2), some (.long e.1), none, some (.long e.2), none, none, none] [] M) e → wq_g g E wq_yC 9 58 [some (.ref (E.2.1 0)), some (.int x1), some (.int x2), some (.long s.1), none, some (.long s.2.1), none, some (.int s.2.2), none] [] M := by
  refine wq_lq_ok (fun (s : (Int64 × Int64 × Int32)) => wq_g g E wq_yC 9 58 [some (.ref (E.2.1 0)), some (.int x1), some (.int x2), some (.long s.1), none, some (.long s.2.1), none, some (.int s.2.2), none] [] M) (fun (e : (Int64 × Int64)) => wq_g g E wq_yC 9 110 [none, none, some (.int x2), some (.long e.1), none, some (.long e.2), none, none, none] [] M) (fun s x h K => ?_)
  unfold fX6_flaws_L58 at h
  refine wq_iload hC dX6_flaws_58 rfl ?_
  refine wq_aload_n hC dX6_flaws_60 (i := 0) rfl rfl ?_
  refine gf_6 hC oC_0 2 (.ref (E.2.1 20)) (by decide) rfl tw_237 dX6_flaws_61 ?_
  refine gf_5 hC W_20.1 0 (.int (M.1 20 0)) (by decide) rfl tw_110 dX6_flaws_64 ?_
  refine wq_icmp_ge hC dX6_flaws_67 (tgt := 110) (by decide) (fun z11 => ?_) (fun z11 => ?_)
  · have h := wq_ip z11 h
    have h := Option.some.inj h
    subst h
    refine wq_mask [false, false, true, true, false, true, false, false, false] (lv' := [none, none, some (.int x2), some (.long s.1), none, some (.long s.2.1), none, none, none]) rfl ?_
    exact K
  · have h := wq_in_ z11 h
    refine wq_lload_n hC dX6_flaws_70 (i := 3) rfl rfl ?_
    refine wq_lconst hC (v := 0) dX6_flaws_71 (by decide) ?_
    refine wq_lcmp hC dX6_flaws_72 ?_
    refine wq_if_eq hC dX6_flaws_73 (tgt := 104) (by decide) (fun z12 => ?_) (fun z12 => ?_)
    · have h := wq_ip z12 h
      refine wq_iinc hC (v := (s.2.2 + 1)) dX6_flaws_104 (lv' := [some (.ref (E.2.1 0)), some (.int x1), some (.int x2), some (.long s.1), none, some (.long s.2.1), none, some (.int (s.2.2 + 1)), none]) rfl rfl (by decide) rfl ?_
      refine wq_goto hC dX6_flaws_107 (tgt := 58) (by decide) ?_
      have h := Option.some.inj h
      subst h
      exact K
    · have h := wq_in_ z12 h
      refine wq_aload_n hC dX6_flaws_76 (i := 0) rfl rfl ?_
      refine gf_6 hC oC_0 2 (.ref (E.2.1 20)) (by decide) rfl tw_237 dX6_flaws_77 ?_
      refine wq_iload hC dX6_flaws_80 rfl ?_
      obtain ⟨r13, hc14, h⟩ := wq_ob h
      refine cv_5 hC (ctX5_holdsFlawed (d := d - 1) (by omega) W_20 hc14) (by omega) (by decide) W_20.1 rfl rfl npX5_holdsFlawed tw_623 tw_624 tw_625 tw_626 (st := []) (Nat.le_of_ble_eq_true rfl) rfl dX6_flaws_82 (st1 := [.int (wq_b r13)]) rfl ?_
      refine wq_bif_ne hC dX6_flaws_85 (tgt := 104) (by decide) (fun z15 => ?_) (fun z15 => ?_)
      · have h := wq_ip z15 h
        refine wq_iinc hC (v := (s.2.2 + 1)) dX6_flaws_104 (lv' := [some (.ref (E.2.1 0)), some (.int x1), some (.int x2), some (.long s.1), none, some (.long s.2.1), none, some (.int (s.2.2 + 1)), none]) rfl rfl (by decide) rfl ?_
        refine wq_goto hC dX6_flaws_107 (tgt := 58) (by decide) ?_
        have h := Option.some.inj h
        subst h
        exact K
      · have h := wq_in_ z15 h
        refine wq_lload_n hC dX6_flaws_88 (i := 3) rfl rfl ?_
        refine wq_bipush hC (v := 10) dX6_flaws_89 (by decide) ?_
        refine wq_iload_n hC dX6_flaws_91 (i := 1) rfl rfl ?_
        refine wq_isub hC dX6_flaws_92 ?_
        refine wq_i2l hC dX6_flaws_93 ?_
        refine wq_lmul hC dX6_flaws_94 ?_
        refine wq_lstore_n hC dX6_flaws_95 (i := 3) (lv' := [some (.ref (E.2.1 0)), some (.int x1), some (.int x2), some (.long (s.1 * (10 - x1).toInt64)), none, some (.long s.2.1), none, some (.int s.2.2), none]) rfl (by decide) rfl ?_
        refine wq_lload hC dX6_flaws_96 rfl ?_
        refine wq_ldc2 hC (v := (10 : Int64)) tw_627 dX6_flaws_98 ?_
        refine wq_lmul hC dX6_flaws_101 ?_
        refine wq_lstore hC dX6_flaws_102 (lv' := [some (.ref (E.2.1 0)), some (.int x1), some (.int x2), some (.long (s.1 * (10 - x1).toInt64)), none, some (.long (s.2.1 * (10 : Int64))), none, some (.int s.2.2), none]) (by decide) rfl ?_
        refine wq_iinc hC (v := (s.2.2 + 1)) dX6_flaws_104 (lv' := [some (.ref (E.2.1 0)), some (.int x1), some (.int x2), some (.long (s.1 * (10 - x1).toInt64)), none, some (.long (s.2.1 * (10 : Int64))), none, some (.int (s.2.2 + 1)), none]) rfl rfl (by decide) rfl ?_
        refine wq_goto hC dX6_flaws_107 (tgt := 58) (by decide) ?_
        have h := Option.some.inj h
        subst h
        exact K
def fX6_flaws_J51 (x1 : Int32) (x2 : Int32) (y0 : Int64) (M : wq_M) : Option Int64 :=
  (wq_lp (fX6_flaws_L58 x1 x2 M) wq_FU (y0, (1 : Int64), 0)).bind fun e16 => (fX6_greatestDivisor e16.1 e16.2 M).bind fun r18 => (if x2 = 0 then
    if ¬ (if r18 < (1 : Int64) then (1 : Int64) else r18) = 0 then some (e16.1 / (if r18 < (1 : Int64) then (1 : Int64) else r18)) else none
  else
    if ¬ (if r18 < (1 : Int64) then (1 : Int64) else r18) = 0 then some (e16.2 / (if r18 < (1 : Int64) then (1 : Int64) else r18)) else none)
set_option maxHeartbeats 4000000 in
set_option maxRecDepth 100000 in
theorem gX6_flaws_J51 {g : wq_G} {E : wq_E} {d : Nat} (hC : wq_C g E wq_yC cX6_flaws 9 "WellPipes" (some .long) d) (hd0 : 6 ≤ d) (x1 : Int32) (x2 : Int32) (y0 : Int64) (M : wq_M)  {x : Int64} (h : fX6_flaws_J51 x1 x2 y0 M = some x) (K : (wq_kl g M) x) : wq_g g E wq_yC 9 51 [some (.ref (E.2.1 0)), some (.int x1), some (.int x2), none, none, none, none, none, none] [.long y0] M := by
  unfold fX6_flaws_J51 at h
  refine wq_lstore_n hC dX6_flaws_51 (i := 3) (lv' := [some (.ref (E.2.1 0)), some (.int x1), some (.int x2), some (.long y0), none, none, none, none, none]) rfl (by decide) rfl ?_
  refine wq_lconst hC (v := 1) dX6_flaws_52 (by decide) ?_
  refine wq_lstore hC dX6_flaws_53 (lv' := [some (.ref (E.2.1 0)), some (.int x1), some (.int x2), some (.long y0), none, some (.long (1 : Int64)), none, none, none]) (by decide) rfl ?_
  refine wq_iconst hC (v := 0) dX6_flaws_55 (by decide) ?_
  refine wq_istore hC dX6_flaws_56 (lv' := [some (.ref (E.2.1 0)), some (.int x1), some (.int x2), some (.long y0), none, some (.long (1 : Int64)), none, some (.int 0), none]) (by decide) rfl ?_
  obtain ⟨e16, hl17, h⟩ := wq_ob h
  refine gX6_flaws_L58 hC hd0 x1 x2 M  wq_FU _ _ hl17 ?_
  refine wq_lconst hC (v := 1) dX6_flaws_110 (by decide) ?_
  refine wq_lload_n hC dX6_flaws_111 (i := 3) rfl rfl ?_
  refine wq_lload hC dX6_flaws_112 rfl ?_
  obtain ⟨r18, hc19, h⟩ := wq_ob h
  refine wq_callS hC (ctX6_greatestDivisor (d := d - 1) (by omega)  hc19) (by omega) (by decide) rfl npX6_greatestDivisor tw_628 tw_629 tw_51 tw_630 (st := [.long (1 : Int64)]) (Nat.le_of_ble_eq_true rfl) rfl dX6_flaws_114 (st1 := [.long r18, .long (1 : Int64)]) rfl ?_
  refine wq_mlmax hC (st := []) tw_631 (Nat.le_of_ble_eq_true rfl) dX6_flaws_117 ?_
  refine wq_lstore hC dX6_flaws_120 (lv' := [none, none, some (.int x2), some (.long e16.1), none, some (.long e16.2), none, some (.long (if r18 < (1 : Int64) then (1 : Int64) else r18)), none]) (by decide) rfl ?_
  refine wq_iload_n hC dX6_flaws_122 (i := 2) rfl rfl ?_
  refine wq_if_ne hC dX6_flaws_123 (tgt := 130) (by decide) (fun z20 => ?_) (fun z20 => ?_)
  · have h := wq_in_ z20 h
    refine wq_lload hC dX6_flaws_130 rfl ?_
    refine wq_lload hC dX6_flaws_132 rfl ?_
    obtain ⟨z21, h⟩ := wq_ii h
    refine wq_ldiv hC dX6_flaws_134 z21 ?_
    have h := Option.some.inj h
    subst h
    exact wq_lret hC dX6_flaws_135 K.1 K.2
  · have h := wq_ip z20 h
    refine wq_lload_n hC dX6_flaws_126 (i := 3) rfl rfl ?_
    refine wq_goto hC dX6_flaws_127 (tgt := 132) (by decide) ?_
    refine wq_lload hC dX6_flaws_132 rfl ?_
    obtain ⟨z22, h⟩ := wq_ii h
    refine wq_ldiv hC dX6_flaws_134 z22 ?_
    have h := Option.some.inj h
    subst h
    exact wq_lret hC dX6_flaws_135 K.1 K.2
def fX6_flaws (x1 : Int32) (x2 : Int32) (M : wq_M) : Option Int64 :=
  (fX6_hasNoWell  M).bind fun r1 => (if r1 = true then
    some (-1000002 : Int64)
  else
    (if x1 < 0 then
      some (-1000001 : Int64)
    else
      (if 10 < x1 then
        some (-1000001 : Int64)
      else
        (if x2 < 0 then
          some (-1000001 : Int64)
        else
          (if x2 ≤ 1 then
            (fX5_firstThatFails 20 M).bind fun r8 => (if r8 = (-1000000) then
              fX6_flaws_J51 x1 x2 (1 : Int64) M
            else
              fX6_flaws_J51 x1 x2 (0 : Int64) M)
          else
            some (-1000001 : Int64))))))
set_option maxHeartbeats 4000000 in
set_option maxRecDepth 100000 in
theorem ctX6_flaws {l : Launch} {E : wq_E} {d : Nat} (hd0 : 6 ≤ d) {x1 : Int32} {x2 : Int32} {M : wq_M} {r : Int64}  (h : fX6_flaws x1 x2 M = some r) : wq_ct l E wq_yC yX6_flaws cX6_flaws 9 (some .long) d [.ref (E.2.1 0), .int x1, .int x2] M (some (.long r)) M := by
  refine wq_ent (own := "WellPipes") (lv0 := [some (.ref (E.2.1 0)), some (.int x1), some (.int x2), none, none, none, none, none, none]) (by decide +kernel) rfl (Nat.le_of_ble_eq_true rfl) rfl (fun g h1 h2 hC => ?_)
  have K : wq_kl g M r := ⟨h1, h2⟩
  unfold fX6_flaws at h
  refine wq_aload_n hC dX6_flaws_0 (i := 0) rfl rfl ?_
  obtain ⟨r1, hc2, h⟩ := wq_ob h
  refine cv_6 hC (ctX6_hasNoWell (d := d - 1) (by omega)  hc2) (by omega) (by decide) oC_0 rfl rfl npX6_hasNoWell tw_427 tw_429 tw_12 tw_430 (st := []) (Nat.le_of_ble_eq_true rfl) rfl dX6_flaws_1 (st1 := [.int (wq_b r1)]) rfl ?_
  refine wq_bif_eq hC dX6_flaws_4 (tgt := 11) (by decide) (fun z3 => ?_) (fun z3 => ?_)
  · have h := wq_in_ z3 h
    refine wq_iload_n hC dX6_flaws_11 (i := 1) rfl rfl ?_
    refine wq_if_lt hC dX6_flaws_12 (tgt := 30) (by decide) (fun z4 => ?_) (fun z4 => ?_)
    · have h := wq_ip z4 h
      refine wq_ldc2 hC (v := (-1000001 : Int64)) tw_622 dX6_flaws_30 ?_
      have h := Option.some.inj h
      subst h
      exact wq_lret hC dX6_flaws_33 K.1 K.2
    · have h := wq_in_ z4 h
      refine wq_iload_n hC dX6_flaws_15 (i := 1) rfl rfl ?_
      refine wq_bipush hC (v := 10) dX6_flaws_16 (by decide) ?_
      refine wq_icmp_gt hC dX6_flaws_18 (tgt := 30) (by decide) (fun z5 => ?_) (fun z5 => ?_)
      · have h := wq_ip z5 h
        refine wq_ldc2 hC (v := (-1000001 : Int64)) tw_622 dX6_flaws_30 ?_
        have h := Option.some.inj h
        subst h
        exact wq_lret hC dX6_flaws_33 K.1 K.2
      · have h := wq_in_ z5 h
        refine wq_iload_n hC dX6_flaws_21 (i := 2) rfl rfl ?_
        refine wq_if_lt hC dX6_flaws_22 (tgt := 30) (by decide) (fun z6 => ?_) (fun z6 => ?_)
        · have h := wq_ip z6 h
          refine wq_ldc2 hC (v := (-1000001 : Int64)) tw_622 dX6_flaws_30 ?_
          have h := Option.some.inj h
          subst h
          exact wq_lret hC dX6_flaws_33 K.1 K.2
        · have h := wq_in_ z6 h
          refine wq_iload_n hC dX6_flaws_25 (i := 2) rfl rfl ?_
          refine wq_iconst hC (v := 1) dX6_flaws_26 (by decide) ?_
          refine wq_icmp_le hC dX6_flaws_27 (tgt := 34) (by decide) (fun z7 => ?_) (fun z7 => ?_)
          · have h := wq_ip z7 h
            refine wq_aload_n hC dX6_flaws_34 (i := 0) rfl rfl ?_
            refine gf_6 hC oC_0 2 (.ref (E.2.1 20)) (by decide) rfl tw_237 dX6_flaws_35 ?_
            obtain ⟨r8, hc9, h⟩ := wq_ob h
            refine cv_5 hC (ctX5_firstThatFails (d := d - 1) (by omega) W_20 hc9) (by omega) (by decide) W_20.1 rfl rfl npX5_firstThatFails tw_560 tw_561 tw_562 tw_563 (st := []) (Nat.le_of_ble_eq_true rfl) rfl dX6_flaws_38 (st1 := [.int r8]) rfl ?_
            refine wq_ldc hC (v := (-1000000)) tw_431 dX6_flaws_41 ?_
            refine wq_icmp_ne hC dX6_flaws_43 (tgt := 50) (by decide) (fun z10 => ?_) (fun z10 => ?_)
            · have h := wq_in_ z10 h
              refine wq_lconst hC (v := 0) dX6_flaws_50 (by decide) ?_
              exact gX6_flaws_J51 hC hd0 x1 x2 (0 : Int64) M  h K
            · have h := wq_ip z10 h
              refine wq_lconst hC (v := 1) dX6_flaws_46 (by decide) ?_
              refine wq_goto hC dX6_flaws_47 (tgt := 51) (by decide) ?_
              exact gX6_flaws_J51 hC hd0 x1 x2 (1 : Int64) M  h K
          · have h := wq_in_ z7 h
            refine wq_ldc2 hC (v := (-1000001 : Int64)) tw_622 dX6_flaws_30 ?_
            have h := Option.some.inj h
            subst h
            exact wq_lret hC dX6_flaws_33 K.1 K.2
  · have h := wq_ip z3 h
    refine wq_ldc2 hC (v := (-1000002 : Int64)) tw_621 dX6_flaws_7 ?_
    have h := Option.some.inj h
    subst h
    exact wq_lret hC dX6_flaws_10 K.1 K.2
theorem npX6_drawn : yX6_drawn.cls ≠ "java/lang/invoke/MethodHandle" ∧ yX6_drawn.cls ≠ "java/lang/invoke/VarHandle" ∧ (parseMethodDescriptor yX6_drawn.desc).map (fun d => d.parameters.length) = some 3 := by decide +kernel
def fX6_drawn_L64 (x1 : Int32) (x3 : Int32) : (Int32 × Int32 × Int32 × wq_M) → Option ((Int32 × Int32 × Int32 × wq_M) ⊕ (Int32 × wq_M)) := fun s =>
  (if x1 ≤ s.2.2.1 then
    some (.inr (s.2.1, s.2.2.2))
  else
    (fX5_changeByDraw 25 (((s.1.toInt64 * (16807 : Int64)) - (s.1.toInt64 * (16807 : Int64)) / (2147483647 : Int64) * (2147483647 : Int64)).toInt32) s.2.2.2).bind fun r13 => (fX5_howManyHold 25 r13).bind fun r15 => some (.inl (((s.1.toInt64 * (16807 : Int64)) - (s.1.toInt64 * (16807 : Int64)) / (2147483647 : Int64) * (2147483647 : Int64)).toInt32, (s.2.1 + r15), (s.2.2.1 + 1), r13)))
set_option maxHeartbeats 4000000 in
set_option maxRecDepth 100000 in
theorem gX6_drawn_L64 {g : wq_G} {E : wq_E} {d : Nat} (hC : wq_C g E wq_yC cX6_drawn 7 "WellPipes" (some .int) d) (hd0 : 6 ≤ d) (x1 : Int32) (x3 : Int32)  : ∀ (n : Nat) (s : (Int32 × Int32 × Int32 × wq_M)) (e : (Int32 × wq_M)), wq_lp (fX6_drawn_L64 x1 x3) n s = some e → (fun (e : (Int32 × wq_M)) => wq_g g E wq_yC 7 111 [some (.ref (E.2.1 0)), none, none, some (.int x3), none, some (.int e.1), none] [] e.2) e → wq_g g E wq_yC 7 64 [some (.ref (E.2.1 0)), some (.int x1), none, some (.int x3), some (.int s.1), some (.int s.2.1), some (.int s.2.2.1)] [] s.2.2.2 := by
  refine wq_lq_ok (fun (s : (Int32 × Int32 × Int32 × wq_M)) => wq_g g E wq_yC 7 64 [some (.ref (E.2.1 0)), some (.int x1), none, some (.int x3), some (.int s.1), some (.int s.2.1), some (.int s.2.2.1)] [] s.2.2.2) (fun (e : (Int32 × wq_M)) => wq_g g E wq_yC 7 111 [some (.ref (E.2.1 0)), none, none, some (.int x3), none, some (.int e.1), none] [] e.2) (fun s x h K => ?_)
  unfold fX6_drawn_L64 at h
  refine wq_iload hC dX6_drawn_64 rfl ?_
  refine wq_iload_n hC dX6_drawn_66 (i := 1) rfl rfl ?_
  refine wq_icmp_ge hC dX6_drawn_67 (tgt := 111) (by decide) (fun z12 => ?_) (fun z12 => ?_)
  · have h := wq_ip z12 h
    have h := Option.some.inj h
    subst h
    refine wq_mask [true, false, false, true, false, true, false] (lv' := [some (.ref (E.2.1 0)), none, none, some (.int x3), none, some (.int s.2.1), none]) rfl ?_
    exact K
  · have h := wq_in_ z12 h
    refine wq_iload hC dX6_drawn_70 rfl ?_
    refine wq_i2l hC dX6_drawn_72 ?_
    refine wq_ldc2 hC (v := (16807 : Int64)) tw_639 dX6_drawn_73 ?_
    refine wq_lmul hC dX6_drawn_76 ?_
    refine wq_ldc2 hC (v := (2147483647 : Int64)) tw_640 dX6_drawn_77 ?_
    refine wq_lrem hC dX6_drawn_80 (by decide) ?_
    refine wq_l2i hC dX6_drawn_81 ?_
    refine wq_istore hC dX6_drawn_82 (lv' := [some (.ref (E.2.1 0)), some (.int x1), none, some (.int x3), some (.int (((s.1.toInt64 * (16807 : Int64)) - (s.1.toInt64 * (16807 : Int64)) / (2147483647 : Int64) * (2147483647 : Int64)).toInt32)), some (.int s.2.1), some (.int s.2.2.1)]) (by decide) rfl ?_
    refine wq_aload_n hC dX6_drawn_84 (i := 0) rfl rfl ?_
    refine gf_6 hC oC_0 3 (.ref (E.2.1 25)) (by decide) rfl tw_238 dX6_drawn_85 ?_
    refine wq_iload hC dX6_drawn_88 rfl ?_
    obtain ⟨r13, hc14, h⟩ := wq_ob h
    refine cv_5 hC (ctX5_changeByDraw (d := d - 1) (by omega) W_25 hc14) (by omega) (by decide) W_25.1 rfl rfl npX5_changeByDraw tw_641 tw_642 tw_643 tw_644 (st := []) (Nat.le_of_ble_eq_true rfl) rfl dX6_drawn_90 (st1 := []) rfl ?_
    refine wq_iload hC dX6_drawn_93 rfl ?_
    refine wq_aload_n hC dX6_drawn_95 (i := 0) rfl rfl ?_
    refine gf_6 hC oC_0 3 (.ref (E.2.1 25)) (by decide) rfl tw_238 dX6_drawn_96 ?_
    obtain ⟨r15, hc16, h⟩ := wq_ob h
    refine cv_5 hC (ctX5_howManyHold (d := d - 1) (by omega) W_25 hc16) (by omega) (by decide) W_25.1 rfl rfl npX5_howManyHold tw_645 tw_646 tw_647 tw_648 (st := [.int s.2.1]) (Nat.le_of_ble_eq_true rfl) rfl dX6_drawn_99 (st1 := [.int r15, .int s.2.1]) rfl ?_
    refine wq_iadd hC dX6_drawn_102 ?_
    refine wq_istore hC dX6_drawn_103 (lv' := [some (.ref (E.2.1 0)), some (.int x1), none, some (.int x3), some (.int (((s.1.toInt64 * (16807 : Int64)) - (s.1.toInt64 * (16807 : Int64)) / (2147483647 : Int64) * (2147483647 : Int64)).toInt32)), some (.int (s.2.1 + r15)), some (.int s.2.2.1)]) (by decide) rfl ?_
    refine wq_iinc hC (v := (s.2.2.1 + 1)) dX6_drawn_105 (lv' := [some (.ref (E.2.1 0)), some (.int x1), none, some (.int x3), some (.int (((s.1.toInt64 * (16807 : Int64)) - (s.1.toInt64 * (16807 : Int64)) / (2147483647 : Int64) * (2147483647 : Int64)).toInt32)), some (.int (s.2.1 + r15)), some (.int (s.2.2.1 + 1))]) rfl rfl (by decide) rfl ?_
    refine wq_goto hC dX6_drawn_108 (tgt := 64) (by decide) ?_
    have h := Option.some.inj h
    subst h
    exact K
def fX6_drawn (x1 : Int32) (x2 : Int32) (x3 : Int32) (M : wq_M) : Option (Int32 × wq_M) :=
  (fX6_hasNoWell  M).bind fun r1 => (if r1 = true then
    some ((-1000002), M)
  else
    (if x1 < 0 then
      some ((-1000001), M)
    else
      (if 60 < x1 then
        some ((-1000001), M)
      else
        (if x2 < 1 then
          some ((-1000001), M)
        else
          (if 999999 < x2 then
            some ((-1000001), M)
          else
            (if x3 < 0 then
              some ((-1000001), M)
            else
              (if x3 ≤ 1 then
                (fX5_becomes 25 20 M).bind fun r10 => (wq_lp (fX6_drawn_L64 x1 x3) wq_FU (x2, 0, 0, r10)).bind fun e17 => (if x3 = 0 then
                  some (e17.1, e17.2)
                else
                  (fX5_sumOfLaid 25 4 e17.2).bind fun r20 => some (r20, e17.2))
              else
                some ((-1000001), M))))))))
set_option maxHeartbeats 4000000 in
set_option maxRecDepth 100000 in
theorem ctX6_drawn {l : Launch} {E : wq_E} {d : Nat} (hd0 : 6 ≤ d) {x1 : Int32} {x2 : Int32} {x3 : Int32} {M : wq_M} {r : (Int32 × wq_M)}  (h : fX6_drawn x1 x2 x3 M = some r) : wq_ct l E wq_yC yX6_drawn cX6_drawn 7 (some .int) d [.ref (E.2.1 0), .int x1, .int x2, .int x3] M (some (.int r.1)) r.2 := by
  refine wq_ent (own := "WellPipes") (lv0 := [some (.ref (E.2.1 0)), some (.int x1), some (.int x2), some (.int x3), none, none, none]) (by decide +kernel) rfl (Nat.le_of_ble_eq_true rfl) rfl (fun g h1 h2 hC => ?_)
  have K : wq_kI g r := ⟨h1, h2⟩
  unfold fX6_drawn at h
  refine wq_aload_n hC dX6_drawn_0 (i := 0) rfl rfl ?_
  obtain ⟨r1, hc2, h⟩ := wq_ob h
  refine cv_6 hC (ctX6_hasNoWell (d := d - 1) (by omega)  hc2) (by omega) (by decide) oC_0 rfl rfl npX6_hasNoWell tw_427 tw_429 tw_12 tw_430 (st := []) (Nat.le_of_ble_eq_true rfl) rfl dX6_drawn_1 (st1 := [.int (wq_b r1)]) rfl ?_
  refine wq_bif_eq hC dX6_drawn_4 (tgt := 10) (by decide) (fun z3 => ?_) (fun z3 => ?_)
  · have h := wq_in_ z3 h
    refine wq_iload_n hC dX6_drawn_10 (i := 1) rfl rfl ?_
    refine wq_if_lt hC dX6_drawn_11 (tgt := 41) (by decide) (fun z4 => ?_) (fun z4 => ?_)
    · have h := wq_ip z4 h
      refine wq_ldc hC (v := (-1000001)) tw_270 dX6_drawn_41 ?_
      have h := Option.some.inj h
      subst h
      exact wq_iret hC dX6_drawn_43 K.1 K.2
    · have h := wq_in_ z4 h
      refine wq_iload_n hC dX6_drawn_14 (i := 1) rfl rfl ?_
      refine wq_bipush hC (v := 60) dX6_drawn_15 (by decide) ?_
      refine wq_icmp_gt hC dX6_drawn_17 (tgt := 41) (by decide) (fun z5 => ?_) (fun z5 => ?_)
      · have h := wq_ip z5 h
        refine wq_ldc hC (v := (-1000001)) tw_270 dX6_drawn_41 ?_
        have h := Option.some.inj h
        subst h
        exact wq_iret hC dX6_drawn_43 K.1 K.2
      · have h := wq_in_ z5 h
        refine wq_iload_n hC dX6_drawn_20 (i := 2) rfl rfl ?_
        refine wq_iconst hC (v := 1) dX6_drawn_21 (by decide) ?_
        refine wq_icmp_lt hC dX6_drawn_22 (tgt := 41) (by decide) (fun z6 => ?_) (fun z6 => ?_)
        · have h := wq_ip z6 h
          refine wq_ldc hC (v := (-1000001)) tw_270 dX6_drawn_41 ?_
          have h := Option.some.inj h
          subst h
          exact wq_iret hC dX6_drawn_43 K.1 K.2
        · have h := wq_in_ z6 h
          refine wq_iload_n hC dX6_drawn_25 (i := 2) rfl rfl ?_
          refine wq_ldc_w hC (v := 999999) tw_638 dX6_drawn_26 ?_
          refine wq_icmp_gt hC dX6_drawn_29 (tgt := 41) (by decide) (fun z7 => ?_) (fun z7 => ?_)
          · have h := wq_ip z7 h
            refine wq_ldc hC (v := (-1000001)) tw_270 dX6_drawn_41 ?_
            have h := Option.some.inj h
            subst h
            exact wq_iret hC dX6_drawn_43 K.1 K.2
          · have h := wq_in_ z7 h
            refine wq_iload_n hC dX6_drawn_32 (i := 3) rfl rfl ?_
            refine wq_if_lt hC dX6_drawn_33 (tgt := 41) (by decide) (fun z8 => ?_) (fun z8 => ?_)
            · have h := wq_ip z8 h
              refine wq_ldc hC (v := (-1000001)) tw_270 dX6_drawn_41 ?_
              have h := Option.some.inj h
              subst h
              exact wq_iret hC dX6_drawn_43 K.1 K.2
            · have h := wq_in_ z8 h
              refine wq_iload_n hC dX6_drawn_36 (i := 3) rfl rfl ?_
              refine wq_iconst hC (v := 1) dX6_drawn_37 (by decide) ?_
              refine wq_icmp_le hC dX6_drawn_38 (tgt := 44) (by decide) (fun z9 => ?_) (fun z9 => ?_)
              · have h := wq_ip z9 h
                refine wq_aload_n hC dX6_drawn_44 (i := 0) rfl rfl ?_
                refine gf_6 hC oC_0 3 (.ref (E.2.1 25)) (by decide) rfl tw_238 dX6_drawn_45 ?_
                refine wq_aload_n hC dX6_drawn_48 (i := 0) rfl rfl ?_
                refine gf_6 hC oC_0 2 (.ref (E.2.1 20)) (by decide) rfl tw_237 dX6_drawn_49 ?_
                obtain ⟨r10, hc11, h⟩ := wq_ob h
                refine cv_5 hC (ctX5_becomes (d := d - 1) (by omega) W_25 W_20 hc11) (by omega) (by decide) W_25.1 rfl rfl npX5_becomes tw_375 tw_376 tw_377 tw_378 (st := []) (Nat.le_of_ble_eq_true rfl) rfl dX6_drawn_52 (st1 := []) rfl ?_
                refine wq_iload_n hC dX6_drawn_55 (i := 2) rfl rfl ?_
                refine wq_istore hC dX6_drawn_56 (lv' := [some (.ref (E.2.1 0)), some (.int x1), some (.int x2), some (.int x3), some (.int x2), none, none]) (by decide) rfl ?_
                refine wq_iconst hC (v := 0) dX6_drawn_58 (by decide) ?_
                refine wq_istore hC dX6_drawn_59 (lv' := [some (.ref (E.2.1 0)), some (.int x1), some (.int x2), some (.int x3), some (.int x2), some (.int 0), none]) (by decide) rfl ?_
                refine wq_iconst hC (v := 0) dX6_drawn_61 (by decide) ?_
                refine wq_istore hC dX6_drawn_62 (lv' := [some (.ref (E.2.1 0)), some (.int x1), some (.int x2), some (.int x3), some (.int x2), some (.int 0), some (.int 0)]) (by decide) rfl ?_
                obtain ⟨e17, hl18, h⟩ := wq_ob h
                refine wq_mask [true, true, false, true, true, true, true] (lv' := [some (.ref (E.2.1 0)), some (.int x1), none, some (.int x3), some (.int x2), some (.int 0), some (.int 0)]) rfl ?_
                refine gX6_drawn_L64 hC hd0 x1 x3  wq_FU _ _ hl18 ?_
                refine wq_iload_n hC dX6_drawn_111 (i := 3) rfl rfl ?_
                refine wq_if_ne hC dX6_drawn_112 (tgt := 120) (by decide) (fun z19 => ?_) (fun z19 => ?_)
                · have h := wq_in_ z19 h
                  refine wq_aload_n hC dX6_drawn_120 (i := 0) rfl rfl ?_
                  refine gf_6 hC oC_0 3 (.ref (E.2.1 25)) (by decide) rfl tw_238 dX6_drawn_121 ?_
                  refine wq_iconst hC (v := 4) dX6_drawn_124 (by decide) ?_
                  obtain ⟨r20, hc21, h⟩ := wq_ob h
                  refine cv_5 hC (ctX5_sumOfLaid (d := d - 1) (by omega) W_25 hc21) (by omega) (by decide) W_25.1 rfl rfl npX5_sumOfLaid tw_556 tw_557 tw_558 tw_559 (st := []) (Nat.le_of_ble_eq_true rfl) rfl dX6_drawn_125 (st1 := [.int r20]) rfl ?_
                  have h := Option.some.inj h
                  subst h
                  exact wq_iret hC dX6_drawn_128 K.1 K.2
                · have h := wq_ip z19 h
                  refine wq_iload hC dX6_drawn_115 rfl ?_
                  refine wq_goto hC dX6_drawn_117 (tgt := 128) (by decide) ?_
                  have h := Option.some.inj h
                  subst h
                  exact wq_iret hC dX6_drawn_128 K.1 K.2
              · have h := wq_in_ z9 h
                refine wq_ldc hC (v := (-1000001)) tw_270 dX6_drawn_41 ?_
                have h := Option.some.inj h
                subst h
                exact wq_iret hC dX6_drawn_43 K.1 K.2
  · have h := wq_ip z3 h
    refine wq_ldc hC (v := (-1000002)) tw_392 dX6_drawn_7 ?_
    have h := Option.some.inj h
    subst h
    exact wq_iret hC dX6_drawn_9 K.1 K.2
theorem npX6_image : yX6_image.cls ≠ "java/lang/invoke/MethodHandle" ∧ yX6_image.cls ≠ "java/lang/invoke/VarHandle" ∧ (parseMethodDescriptor yX6_image.desc).map (fun d => d.parameters.length) = some 1 := by decide +kernel
def fX6_image (x1 : Int32) (M : wq_M) : Option (Int32 × wq_M) :=
  (if x1 < 0 then
    some ((-1000001), M)
  else
    (if x1 < 2 then
      (fX6_hasNoWell  M).bind fun r3 => (if r3 = true then
        some ((-1000002), M)
      else
        if wq_in x1 2 then (fX5_becomes (31 + 5 * x1.toNatClampNeg) 20 M).bind fun r7 => some (1, r7) else none)
    else
      some ((-1000001), M)))
set_option maxHeartbeats 4000000 in
set_option maxRecDepth 100000 in
theorem ctX6_image {l : Launch} {E : wq_E} {d : Nat} (hd0 : 1 ≤ d) {x1 : Int32} {M : wq_M} {r : (Int32 × wq_M)}  (h : fX6_image x1 M = some r) : wq_ct l E wq_yC yX6_image cX6_image 2 (some .int) d [.ref (E.2.1 0), .int x1] M (some (.int r.1)) r.2 := by
  refine wq_ent (own := "WellPipes") (lv0 := [some (.ref (E.2.1 0)), some (.int x1)]) (by decide +kernel) rfl (Nat.le_of_ble_eq_true rfl) rfl (fun g h1 h2 hC => ?_)
  have K : wq_kI g r := ⟨h1, h2⟩
  unfold fX6_image at h
  refine wq_iload_n hC dX6_image_0 (i := 1) rfl rfl ?_
  refine wq_if_lt hC dX6_image_1 (tgt := 9) (by decide) (fun z1 => ?_) (fun z1 => ?_)
  · have h := wq_ip z1 h
    refine wq_ldc hC (v := (-1000001)) tw_270 dX6_image_9 ?_
    have h := Option.some.inj h
    subst h
    exact wq_iret hC dX6_image_11 K.1 K.2
  · have h := wq_in_ z1 h
    refine wq_iload_n hC dX6_image_4 (i := 1) rfl rfl ?_
    refine wq_iconst hC (v := 2) dX6_image_5 (by decide) ?_
    refine wq_icmp_lt hC dX6_image_6 (tgt := 12) (by decide) (fun z2 => ?_) (fun z2 => ?_)
    · have h := wq_ip z2 h
      refine wq_aload_n hC dX6_image_12 (i := 0) rfl rfl ?_
      obtain ⟨r3, hc4, h⟩ := wq_ob h
      refine cv_6 hC (ctX6_hasNoWell (d := d - 1) (by omega)  hc4) (by omega) (by decide) oC_0 rfl rfl npX6_hasNoWell tw_427 tw_429 tw_12 tw_430 (st := []) (Nat.le_of_ble_eq_true rfl) rfl dX6_image_13 (st1 := [.int (wq_b r3)]) rfl ?_
      refine wq_bif_eq hC dX6_image_16 (tgt := 22) (by decide) (fun z5 => ?_) (fun z5 => ?_)
      · have h := wq_in_ z5 h
        refine wq_aload_n hC dX6_image_22 (i := 0) rfl rfl ?_
        refine gf_6 hC oC_0 4 (.ref (E.2.1 30)) (by decide) rfl tw_239 dX6_image_23 ?_
        refine wq_iload_n hC dX6_image_26 (i := 1) rfl rfl ?_
        obtain ⟨z6, h⟩ := wq_ii h
        refine wq_aldW hC oC_30.1 oC_30.2 rfl z6 dX6_image_27 ?_
        refine wq_aload_n hC dX6_image_28 (i := 0) rfl rfl ?_
        refine gf_6 hC oC_0 2 (.ref (E.2.1 20)) (by decide) rfl tw_237 dX6_image_29 ?_
        obtain ⟨r7, hc8, h⟩ := wq_ob h
        refine cv_5 hC (ctX5_becomes (d := d - 1) (by omega) (W_of z6) W_20 hc8) (by omega) (by decide) (W_of z6).1 rfl rfl npX5_becomes tw_375 tw_376 tw_377 tw_378 (st := []) (Nat.le_of_ble_eq_true rfl) rfl dX6_image_32 (st1 := []) rfl ?_
        refine wq_iconst hC (v := 1) dX6_image_35 (by decide) ?_
        have h := Option.some.inj h
        subst h
        exact wq_iret hC dX6_image_36 K.1 K.2
      · have h := wq_ip z5 h
        refine wq_ldc hC (v := (-1000002)) tw_392 dX6_image_19 ?_
        have h := Option.some.inj h
        subst h
        exact wq_iret hC dX6_image_21 K.1 K.2
    · have h := wq_in_ z2 h
      refine wq_ldc hC (v := (-1000001)) tw_270 dX6_image_9 ?_
      have h := Option.some.inj h
      subst h
      exact wq_iret hC dX6_image_11 K.1 K.2
theorem npX6_restore : yX6_restore.cls ≠ "java/lang/invoke/MethodHandle" ∧ yX6_restore.cls ≠ "java/lang/invoke/VarHandle" ∧ (parseMethodDescriptor yX6_restore.desc).map (fun d => d.parameters.length) = some 1 := by decide +kernel
def fX6_restore (x1 : Int32) (M : wq_M) : Option (Int32 × wq_M) :=
  (if x1 < 0 then
    some ((-1000001), M)
  else
    (if x1 < 2 then
      if wq_in x1 2 then (if (M.1 (31 + 5 * x1.toNatClampNeg) 0) = 0 then
        some ((-1000002), M)
      else
        if wq_in x1 2 then (fX5_becomes 20 (31 + 5 * x1.toNatClampNeg) M).bind fun r6 => (fX0_forgetAll  r6).bind fun r8 => some (1, r8) else none) else none
    else
      some ((-1000001), M)))
set_option maxHeartbeats 4000000 in
set_option maxRecDepth 100000 in
theorem ctX6_restore {l : Launch} {E : wq_E} {d : Nat} (hd0 : 1 ≤ d) {x1 : Int32} {M : wq_M} {r : (Int32 × wq_M)}  (h : fX6_restore x1 M = some r) : wq_ct l E wq_yC yX6_restore cX6_restore 2 (some .int) d [.ref (E.2.1 0), .int x1] M (some (.int r.1)) r.2 := by
  refine wq_ent (own := "WellPipes") (lv0 := [some (.ref (E.2.1 0)), some (.int x1)]) (by decide +kernel) rfl (Nat.le_of_ble_eq_true rfl) rfl (fun g h1 h2 hC => ?_)
  have K : wq_kI g r := ⟨h1, h2⟩
  unfold fX6_restore at h
  refine wq_iload_n hC dX6_restore_0 (i := 1) rfl rfl ?_
  refine wq_if_lt hC dX6_restore_1 (tgt := 9) (by decide) (fun z1 => ?_) (fun z1 => ?_)
  · have h := wq_ip z1 h
    refine wq_ldc hC (v := (-1000001)) tw_270 dX6_restore_9 ?_
    have h := Option.some.inj h
    subst h
    exact wq_iret hC dX6_restore_11 K.1 K.2
  · have h := wq_in_ z1 h
    refine wq_iload_n hC dX6_restore_4 (i := 1) rfl rfl ?_
    refine wq_iconst hC (v := 2) dX6_restore_5 (by decide) ?_
    refine wq_icmp_lt hC dX6_restore_6 (tgt := 12) (by decide) (fun z2 => ?_) (fun z2 => ?_)
    · have h := wq_ip z2 h
      refine wq_aload_n hC dX6_restore_12 (i := 0) rfl rfl ?_
      refine gf_6 hC oC_0 4 (.ref (E.2.1 30)) (by decide) rfl tw_239 dX6_restore_13 ?_
      refine wq_iload_n hC dX6_restore_16 (i := 1) rfl rfl ?_
      obtain ⟨z3, h⟩ := wq_ii h
      refine wq_aldW hC oC_30.1 oC_30.2 rfl z3 dX6_restore_17 ?_
      refine gf_5 hC (W_of z3).1 0 (.int (M.1 (31 + 5 * x1.toNatClampNeg) 0)) (by decide) rfl tw_110 dX6_restore_18 ?_
      refine wq_if_ne hC dX6_restore_21 (tgt := 27) (by decide) (fun z4 => ?_) (fun z4 => ?_)
      · have h := wq_in_ z4 h
        refine wq_aload_n hC dX6_restore_27 (i := 0) rfl rfl ?_
        refine gf_6 hC oC_0 2 (.ref (E.2.1 20)) (by decide) rfl tw_237 dX6_restore_28 ?_
        refine wq_aload_n hC dX6_restore_31 (i := 0) rfl rfl ?_
        refine gf_6 hC oC_0 4 (.ref (E.2.1 30)) (by decide) rfl tw_239 dX6_restore_32 ?_
        refine wq_iload_n hC dX6_restore_35 (i := 1) rfl rfl ?_
        obtain ⟨z5, h⟩ := wq_ii h
        refine wq_aldW hC oC_30.1 oC_30.2 rfl z5 dX6_restore_36 ?_
        obtain ⟨r6, hc7, h⟩ := wq_ob h
        refine cv_5 hC (ctX5_becomes (d := d - 1) (by omega) W_20 (W_of z5) hc7) (by omega) (by decide) W_20.1 rfl rfl npX5_becomes tw_375 tw_376 tw_377 tw_378 (st := []) (Nat.le_of_ble_eq_true rfl) rfl dX6_restore_37 (st1 := []) rfl ?_
        refine wq_aload_n hC dX6_restore_40 (i := 0) rfl rfl ?_
        refine gf_6 hC oC_0 6 (.ref (E.2.1 47)) (by decide) rfl tw_241 dX6_restore_41 ?_
        obtain ⟨r8, hc9, h⟩ := wq_ob h
        refine cv_0 hC (ctX0_forgetAll (d := d - 1) (by omega)  hc9) (by omega) (by decide) oC_47 rfl rfl npX0_forgetAll tw_380 tw_381 tw_382 tw_383 (st := []) (Nat.le_of_ble_eq_true rfl) rfl dX6_restore_44 (st1 := []) rfl ?_
        refine wq_iconst hC (v := 1) dX6_restore_47 (by decide) ?_
        have h := Option.some.inj h
        subst h
        exact wq_iret hC dX6_restore_48 K.1 K.2
      · have h := wq_ip z4 h
        refine wq_ldc hC (v := (-1000002)) tw_392 dX6_restore_24 ?_
        have h := Option.some.inj h
        subst h
        exact wq_iret hC dX6_restore_26 K.1 K.2
    · have h := wq_in_ z2 h
      refine wq_ldc hC (v := (-1000001)) tw_270 dX6_restore_9 ?_
      have h := Option.some.inj h
      subst h
      exact wq_iret hC dX6_restore_11 K.1 K.2
theorem npX6_kind : yX6_kind.cls ≠ "java/lang/invoke/MethodHandle" ∧ yX6_kind.cls ≠ "java/lang/invoke/VarHandle" ∧ (parseMethodDescriptor yX6_kind.desc).map (fun d => d.parameters.length) = some 1 := by decide +kernel
def fX6_kind (x1 : Int32) (M : wq_M) : Option Int32 :=
  (fX6_isGrade x1 M).bind fun r1 => (if r1 = true then
    if wq_in x1 5 then some (M.1 22 x1.toNatClampNeg) else none
  else
    some (-1000001))
set_option maxHeartbeats 4000000 in
set_option maxRecDepth 100000 in
theorem ctX6_kind {l : Launch} {E : wq_E} {d : Nat} (hd0 : 1 ≤ d) {x1 : Int32} {M : wq_M} {r : Int32}  (h : fX6_kind x1 M = some r) : wq_ct l E wq_yC yX6_kind cX6_kind 2 (some .int) d [.ref (E.2.1 0), .int x1] M (some (.int r)) M := by
  refine wq_ent (own := "WellPipes") (lv0 := [some (.ref (E.2.1 0)), some (.int x1)]) (by decide +kernel) rfl (Nat.le_of_ble_eq_true rfl) rfl (fun g h1 h2 hC => ?_)
  have K : wq_ki g M r := ⟨h1, h2⟩
  unfold fX6_kind at h
  refine wq_aload_n hC dX6_kind_0 (i := 0) rfl rfl ?_
  refine wq_iload_n hC dX6_kind_1 (i := 1) rfl rfl ?_
  obtain ⟨r1, hc2, h⟩ := wq_ob h
  refine cv_6 hC (ctX6_isGrade (d := d - 1) (by omega)  hc2) (by omega) (by decide) oC_0 rfl rfl npX6_isGrade tw_410 tw_412 tw_11 tw_413 (st := []) (Nat.le_of_ble_eq_true rfl) rfl dX6_kind_2 (st1 := [.int (wq_b r1)]) rfl ?_
  refine wq_bif_eq hC dX6_kind_5 (tgt := 20) (by decide) (fun z3 => ?_) (fun z3 => ?_)
  · have h := wq_in_ z3 h
    refine wq_ldc hC (v := (-1000001)) tw_270 dX6_kind_20 ?_
    have h := Option.some.inj h
    subst h
    exact wq_iret hC dX6_kind_22 K.1 K.2
  · have h := wq_ip z3 h
    refine wq_aload_n hC dX6_kind_8 (i := 0) rfl rfl ?_
    refine gf_6 hC oC_0 2 (.ref (E.2.1 20)) (by decide) rfl tw_237 dX6_kind_9 ?_
    refine gf_5 hC W_20.1 3 (.ref (E.2.1 22)) (by decide) rfl tw_123 dX6_kind_12 ?_
    refine wq_iload_n hC dX6_kind_15 (i := 1) rfl rfl ?_
    obtain ⟨z4, h⟩ := wq_ii h
    refine wq_ald hC aC_22 z4 dX6_kind_16 ?_
    refine wq_goto hC dX6_kind_17 (tgt := 22) (by decide) ?_
    have h := Option.some.inj h
    subst h
    exact wq_iret hC dX6_kind_22 K.1 K.2
theorem npX6_as : yX6_as.cls ≠ "java/lang/invoke/MethodHandle" ∧ yX6_as.cls ≠ "java/lang/invoke/VarHandle" ∧ (parseMethodDescriptor yX6_as.desc).map (fun d => d.parameters.length) = some 2 := by decide +kernel
def fX6_as (x1 : Int32) (x2 : Int32) (M : wq_M) : Option (Int32 × wq_M) :=
  (fX6_isGrade x1 M).bind fun r1 => (if r1 = true then
    (if x2 < 0 then
      some ((-1000001), M)
    else
      (if x2 ≤ 5 then
        if wq_in x1 5 then (if x2 = 0 then
          (fX6_passed x1 M).bind fun r8 => some (r8.1, r8.2)
        else
          (if x2 = (M.1 22 x1.toNatClampNeg) then
            (fX6_passed x1 M).bind fun r11 => some (r11.1, r11.2)
          else
            if wq_in (M.1 22 x1.toNatClampNeg) 6 then (if x2 = (wq_sf 3 (M.1 22 x1.toNatClampNeg).toNatClampNeg) then
              (fX6_passed x1 M).bind fun r15 => some (r15.1, r15.2)
            else
              (fX6_found 3 M).bind fun r17 => some (r17.1, r17.2)) else none)) else none
      else
        some ((-1000001), M)))
  else
    some ((-1000001), M))
set_option maxHeartbeats 4000000 in
set_option maxRecDepth 100000 in
theorem ctX6_as {l : Launch} {E : wq_E} {d : Nat} (hd0 : 1 ≤ d) {x1 : Int32} {x2 : Int32} {M : wq_M} {r : (Int32 × wq_M)}  (h : fX6_as x1 x2 M = some r) : wq_ct l E wq_yC yX6_as cX6_as 4 (some .int) d [.ref (E.2.1 0), .int x1, .int x2] M (some (.int r.1)) r.2 := by
  refine wq_ent (own := "WellPipes") (lv0 := [some (.ref (E.2.1 0)), some (.int x1), some (.int x2), none]) (by decide +kernel) rfl (Nat.le_of_ble_eq_true rfl) rfl (fun g h1 h2 hC => ?_)
  have K : wq_kI g r := ⟨h1, h2⟩
  unfold fX6_as at h
  refine wq_aload_n hC dX6_as_0 (i := 0) rfl rfl ?_
  refine wq_iload_n hC dX6_as_1 (i := 1) rfl rfl ?_
  obtain ⟨r1, hc2, h⟩ := wq_ob h
  refine cv_6 hC (ctX6_isGrade (d := d - 1) (by omega)  hc2) (by omega) (by decide) oC_0 rfl rfl npX6_isGrade tw_410 tw_412 tw_11 tw_413 (st := []) (Nat.le_of_ble_eq_true rfl) rfl dX6_as_2 (st1 := [.int (wq_b r1)]) rfl ?_
  refine wq_bif_eq hC dX6_as_5 (tgt := 17) (by decide) (fun z3 => ?_) (fun z3 => ?_)
  · have h := wq_in_ z3 h
    refine wq_ldc hC (v := (-1000001)) tw_270 dX6_as_17 ?_
    have h := Option.some.inj h
    subst h
    exact wq_iret hC dX6_as_19 K.1 K.2
  · have h := wq_ip z3 h
    refine wq_iload_n hC dX6_as_8 (i := 2) rfl rfl ?_
    refine wq_if_lt hC dX6_as_9 (tgt := 17) (by decide) (fun z4 => ?_) (fun z4 => ?_)
    · have h := wq_ip z4 h
      refine wq_ldc hC (v := (-1000001)) tw_270 dX6_as_17 ?_
      have h := Option.some.inj h
      subst h
      exact wq_iret hC dX6_as_19 K.1 K.2
    · have h := wq_in_ z4 h
      refine wq_iload_n hC dX6_as_12 (i := 2) rfl rfl ?_
      refine wq_iconst hC (v := 5) dX6_as_13 (by decide) ?_
      refine wq_icmp_le hC dX6_as_14 (tgt := 20) (by decide) (fun z5 => ?_) (fun z5 => ?_)
      · have h := wq_ip z5 h
        refine wq_aload_n hC dX6_as_20 (i := 0) rfl rfl ?_
        refine gf_6 hC oC_0 2 (.ref (E.2.1 20)) (by decide) rfl tw_237 dX6_as_21 ?_
        refine gf_5 hC W_20.1 3 (.ref (E.2.1 22)) (by decide) rfl tw_123 dX6_as_24 ?_
        refine wq_iload_n hC dX6_as_27 (i := 1) rfl rfl ?_
        obtain ⟨z6, h⟩ := wq_ii h
        refine wq_ald hC aC_22 z6 dX6_as_28 ?_
        refine wq_istore_n hC dX6_as_29 (i := 3) (lv' := [some (.ref (E.2.1 0)), some (.int x1), some (.int x2), some (.int (M.1 22 x1.toNatClampNeg))]) rfl (by decide) rfl ?_
        refine wq_iload_n hC dX6_as_30 (i := 2) rfl rfl ?_
        refine wq_if_eq hC dX6_as_31 (tgt := 54) (by decide) (fun z7 => ?_) (fun z7 => ?_)
        · have h := wq_ip z7 h
          refine wq_aload_n hC dX6_as_54 (i := 0) rfl rfl ?_
          refine wq_iload_n hC dX6_as_55 (i := 1) rfl rfl ?_
          obtain ⟨r8, hc9, h⟩ := wq_ob h
          refine cv_6 hC (ctX6_passed (d := d - 1) (by omega)  hc9) (by omega) (by decide) oC_0 rfl rfl npX6_passed tw_283 tw_285 tw_1 tw_286 (st := []) (Nat.le_of_ble_eq_true rfl) rfl dX6_as_56 (st1 := [.int r8.1]) rfl ?_
          have h := Option.some.inj h
          subst h
          exact wq_iret hC dX6_as_59 K.1 K.2
        · have h := wq_in_ z7 h
          refine wq_iload_n hC dX6_as_34 (i := 2) rfl rfl ?_
          refine wq_iload_n hC dX6_as_35 (i := 3) rfl rfl ?_
          refine wq_icmp_eq hC dX6_as_36 (tgt := 54) (by decide) (fun z10 => ?_) (fun z10 => ?_)
          · have h := wq_ip z10 h
            refine wq_aload_n hC dX6_as_54 (i := 0) rfl rfl ?_
            refine wq_iload_n hC dX6_as_55 (i := 1) rfl rfl ?_
            obtain ⟨r11, hc12, h⟩ := wq_ob h
            refine cv_6 hC (ctX6_passed (d := d - 1) (by omega)  hc12) (by omega) (by decide) oC_0 rfl rfl npX6_passed tw_283 tw_285 tw_1 tw_286 (st := []) (Nat.le_of_ble_eq_true rfl) rfl dX6_as_56 (st1 := [.int r11.1]) rfl ?_
            have h := Option.some.inj h
            subst h
            exact wq_iret hC dX6_as_59 K.1 K.2
          · have h := wq_in_ z10 h
            refine wq_iload_n hC dX6_as_39 (i := 2) rfl rfl ?_
            refine wq_gets hC 3 (by decide) tw_665 dX6_as_40 ?_
            refine wq_iload_n hC dX6_as_43 (i := 3) rfl rfl ?_
            obtain ⟨z13, h⟩ := wq_ii h
            refine wq_tald hC 3 (by decide) rfl z13 dX6_as_44 ?_
            refine wq_icmp_eq hC dX6_as_45 (tgt := 54) (by decide) (fun z14 => ?_) (fun z14 => ?_)
            · have h := wq_ip z14 h
              refine wq_aload_n hC dX6_as_54 (i := 0) rfl rfl ?_
              refine wq_iload_n hC dX6_as_55 (i := 1) rfl rfl ?_
              obtain ⟨r15, hc16, h⟩ := wq_ob h
              refine cv_6 hC (ctX6_passed (d := d - 1) (by omega)  hc16) (by omega) (by decide) oC_0 rfl rfl npX6_passed tw_283 tw_285 tw_1 tw_286 (st := []) (Nat.le_of_ble_eq_true rfl) rfl dX6_as_56 (st1 := [.int r15.1]) rfl ?_
              have h := Option.some.inj h
              subst h
              exact wq_iret hC dX6_as_59 K.1 K.2
            · have h := wq_in_ z14 h
              refine wq_aload_n hC dX6_as_48 (i := 0) rfl rfl ?_
              refine wq_iconst hC (v := 3) dX6_as_49 (by decide) ?_
              obtain ⟨r17, hc18, h⟩ := wq_ob h
              refine cv_6 hC (ctX6_found (d := d - 1) (by omega)  hc18) (by omega) (by decide) oC_0 rfl rfl npX6_found tw_271 tw_273 tw_0 tw_274 (st := []) (Nat.le_of_ble_eq_true rfl) rfl dX6_as_50 (st1 := [.int r17.1]) rfl ?_
              have h := Option.some.inj h
              subst h
              exact wq_iret hC dX6_as_53 K.1 K.2
      · have h := wq_in_ z5 h
        refine wq_ldc hC (v := (-1000001)) tw_270 dX6_as_17 ?_
        have h := Option.some.inj h
        subst h
        exact wq_iret hC dX6_as_19 K.1 K.2
theorem npX6_ask : yX6_ask.cls ≠ "java/lang/invoke/MethodHandle" ∧ yX6_ask.cls ≠ "java/lang/invoke/VarHandle" ∧ (parseMethodDescriptor yX6_ask.desc).map (fun d => d.parameters.length) = some 2 := by decide +kernel
def fX6_ask (x1 : Int32) (x2 : Int32) (M : wq_M) : Option (Int32 × wq_M) :=
  (fX6_isGrade x1 M).bind fun r1 => (if r1 = true then
    (if x2 < 0 then
      some ((-1000001), M)
    else
      (if x2 ≤ 1 then
        (fX1_answer 20 x1 x2 M).bind fun r6 => some (r6.1, r6.2)
      else
        some ((-1000001), M)))
  else
    some ((-1000001), M))
set_option maxHeartbeats 4000000 in
set_option maxRecDepth 100000 in
theorem ctX6_ask {l : Launch} {E : wq_E} {d : Nat} (hd0 : 44 ≤ d) {x1 : Int32} {x2 : Int32} {M : wq_M} {r : (Int32 × wq_M)}  (h : fX6_ask x1 x2 M = some r) : wq_ct l E wq_yC yX6_ask cX6_ask 3 (some .int) d [.ref (E.2.1 0), .int x1, .int x2] M (some (.int r.1)) r.2 := by
  refine wq_ent (own := "WellPipes") (lv0 := [some (.ref (E.2.1 0)), some (.int x1), some (.int x2)]) (by decide +kernel) rfl (Nat.le_of_ble_eq_true rfl) rfl (fun g h1 h2 hC => ?_)
  have K : wq_kI g r := ⟨h1, h2⟩
  unfold fX6_ask at h
  refine wq_aload_n hC dX6_ask_0 (i := 0) rfl rfl ?_
  refine wq_iload_n hC dX6_ask_1 (i := 1) rfl rfl ?_
  obtain ⟨r1, hc2, h⟩ := wq_ob h
  refine cv_6 hC (ctX6_isGrade (d := d - 1) (by omega)  hc2) (by omega) (by decide) oC_0 rfl rfl npX6_isGrade tw_410 tw_412 tw_11 tw_413 (st := []) (Nat.le_of_ble_eq_true rfl) rfl dX6_ask_2 (st1 := [.int (wq_b r1)]) rfl ?_
  refine wq_bif_eq hC dX6_ask_5 (tgt := 17) (by decide) (fun z3 => ?_) (fun z3 => ?_)
  · have h := wq_in_ z3 h
    refine wq_ldc hC (v := (-1000001)) tw_270 dX6_ask_17 ?_
    have h := Option.some.inj h
    subst h
    exact wq_iret hC dX6_ask_19 K.1 K.2
  · have h := wq_ip z3 h
    refine wq_iload_n hC dX6_ask_8 (i := 2) rfl rfl ?_
    refine wq_if_lt hC dX6_ask_9 (tgt := 17) (by decide) (fun z4 => ?_) (fun z4 => ?_)
    · have h := wq_ip z4 h
      refine wq_ldc hC (v := (-1000001)) tw_270 dX6_ask_17 ?_
      have h := Option.some.inj h
      subst h
      exact wq_iret hC dX6_ask_19 K.1 K.2
    · have h := wq_in_ z4 h
      refine wq_iload_n hC dX6_ask_12 (i := 2) rfl rfl ?_
      refine wq_iconst hC (v := 1) dX6_ask_13 (by decide) ?_
      refine wq_icmp_le hC dX6_ask_14 (tgt := 20) (by decide) (fun z5 => ?_) (fun z5 => ?_)
      · have h := wq_ip z5 h
        refine wq_aload_n hC dX6_ask_20 (i := 0) rfl rfl ?_
        refine gf_6 hC oC_0 7 (.ref (E.2.1 50)) (by decide) rfl tw_242 dX6_ask_21 ?_
        refine wq_aload_n hC dX6_ask_24 (i := 0) rfl rfl ?_
        refine gf_6 hC oC_0 2 (.ref (E.2.1 20)) (by decide) rfl tw_237 dX6_ask_25 ?_
        refine wq_iload_n hC dX6_ask_28 (i := 1) rfl rfl ?_
        refine wq_iload_n hC dX6_ask_29 (i := 2) rfl rfl ?_
        obtain ⟨r6, hc7, h⟩ := wq_ob h
        refine cv_1 hC (ctX1_answer (d := d - 1) (by omega) W_20 hc7) (by omega) (by decide) oC_50 rfl rfl npX1_answer tw_671 tw_672 tw_673 tw_674 (st := []) (Nat.le_of_ble_eq_true rfl) rfl dX6_ask_30 (st1 := [.int r6.1]) rfl ?_
        have h := Option.some.inj h
        subst h
        exact wq_iret hC dX6_ask_33 K.1 K.2
      · have h := wq_in_ z5 h
        refine wq_ldc hC (v := (-1000001)) tw_270 dX6_ask_17 ?_
        have h := Option.some.inj h
        subst h
        exact wq_iret hC dX6_ask_19 K.1 K.2
theorem npX6_trace : yX6_trace.cls ≠ "java/lang/invoke/MethodHandle" ∧ yX6_trace.cls ≠ "java/lang/invoke/VarHandle" ∧ (parseMethodDescriptor yX6_trace.desc).map (fun d => d.parameters.length) = some 1 := by decide +kernel
def fX6_trace (x1 : Int32) (M : wq_M) : Option Int32 :=
  (if x1 < 0 then
    some (-1000000)
  else
    (if (M.1 50 1) ≤ x1 then
      some (-1000000)
    else
      if wq_in x1 16 then some (M.1 51 x1.toNatClampNeg) else none))
set_option maxHeartbeats 4000000 in
set_option maxRecDepth 100000 in
theorem ctX6_trace {l : Launch} {E : wq_E} {d : Nat} (hd0 : 0 ≤ d) {x1 : Int32} {M : wq_M} {r : Int32}  (h : fX6_trace x1 M = some r) : wq_ct l E wq_yC yX6_trace cX6_trace 2 (some .int) d [.ref (E.2.1 0), .int x1] M (some (.int r)) M := by
  refine wq_ent (own := "WellPipes") (lv0 := [some (.ref (E.2.1 0)), some (.int x1)]) (by decide +kernel) rfl (Nat.le_of_ble_eq_true rfl) rfl (fun g h1 h2 hC => ?_)
  have K : wq_ki g M r := ⟨h1, h2⟩
  unfold fX6_trace at h
  refine wq_iload_n hC dX6_trace_0 (i := 1) rfl rfl ?_
  refine wq_if_lt hC dX6_trace_1 (tgt := 27) (by decide) (fun z1 => ?_) (fun z1 => ?_)
  · have h := wq_ip z1 h
    refine wq_ldc hC (v := (-1000000)) tw_431 dX6_trace_27 ?_
    have h := Option.some.inj h
    subst h
    exact wq_iret hC dX6_trace_29 K.1 K.2
  · have h := wq_in_ z1 h
    refine wq_iload_n hC dX6_trace_4 (i := 1) rfl rfl ?_
    refine wq_aload_n hC dX6_trace_5 (i := 0) rfl rfl ?_
    refine gf_6 hC oC_0 7 (.ref (E.2.1 50)) (by decide) rfl tw_242 dX6_trace_6 ?_
    refine gf_1 hC oC_50 1 (.int (M.1 50 1)) (by decide) rfl tw_205 dX6_trace_9 ?_
    refine wq_icmp_ge hC dX6_trace_12 (tgt := 27) (by decide) (fun z2 => ?_) (fun z2 => ?_)
    · have h := wq_ip z2 h
      refine wq_ldc hC (v := (-1000000)) tw_431 dX6_trace_27 ?_
      have h := Option.some.inj h
      subst h
      exact wq_iret hC dX6_trace_29 K.1 K.2
    · have h := wq_in_ z2 h
      refine wq_aload_n hC dX6_trace_15 (i := 0) rfl rfl ?_
      refine gf_6 hC oC_0 7 (.ref (E.2.1 50)) (by decide) rfl tw_242 dX6_trace_16 ?_
      refine gf_1 hC oC_50 0 (.ref (E.2.1 51)) (by decide) rfl tw_203 dX6_trace_19 ?_
      refine wq_iload_n hC dX6_trace_22 (i := 1) rfl rfl ?_
      obtain ⟨z3, h⟩ := wq_ii h
      refine wq_ald hC aC_51 z3 dX6_trace_23 ?_
      refine wq_goto hC dX6_trace_24 (tgt := 29) (by decide) ?_
      have h := Option.some.inj h
      subst h
      exact wq_iret hC dX6_trace_29 K.1 K.2
theorem npX6_howManyRows : yX6_howManyRows.cls ≠ "java/lang/invoke/MethodHandle" ∧ yX6_howManyRows.cls ≠ "java/lang/invoke/VarHandle" ∧ (parseMethodDescriptor yX6_howManyRows.desc).map (fun d => d.parameters.length) = some 0 := by decide +kernel
def fX6_howManyRows_L4 (M : wq_M) : (Int32 × Int32) → Option ((Int32 × Int32) ⊕ Int32) := fun s =>
  (if 8 ≤ s.2 then
    some (.inr s.1)
  else
    if wq_in s.2 8 then (fX3_isMissing (2 + 2 * s.2.toNatClampNeg) M).bind fun r3 => (if r3 = true then
      some (.inl (s.1, (s.2 + 1)))
    else
      some (.inl ((s.1 + 1), (s.2 + 1)))) else none)
set_option maxHeartbeats 4000000 in
set_option maxRecDepth 100000 in
theorem gX6_howManyRows_L4 {g : wq_G} {E : wq_E} {d : Nat} (hC : wq_C g E wq_yC cX6_howManyRows 3 "WellPipes" (some .int) d) (hd0 : 1 ≤ d) (M : wq_M)  : ∀ (n : Nat) (s : (Int32 × Int32)) (e : Int32), wq_lp (fX6_howManyRows_L4 M) n s = some e → (fun (e : Int32) => wq_g g E wq_yC 3 31 [none, some (.int e), none] [] M) e → wq_g g E wq_yC 3 4 [some (.ref (E.2.1 0)), some (.int s.1), some (.int s.2)] [] M := by
  refine wq_lq_ok (fun (s : (Int32 × Int32)) => wq_g g E wq_yC 3 4 [some (.ref (E.2.1 0)), some (.int s.1), some (.int s.2)] [] M) (fun (e : Int32) => wq_g g E wq_yC 3 31 [none, some (.int e), none] [] M) (fun s x h K => ?_)
  unfold fX6_howManyRows_L4 at h
  refine wq_iload_n hC dX6_howManyRows_4 (i := 2) rfl rfl ?_
  refine wq_bipush hC (v := 8) dX6_howManyRows_5 (by decide) ?_
  refine wq_icmp_ge hC dX6_howManyRows_7 (tgt := 31) (by decide) (fun z1 => ?_) (fun z1 => ?_)
  · have h := wq_ip z1 h
    have h := Option.some.inj h
    subst h
    refine wq_mask [false, true, false] (lv' := [none, some (.int s.1), none]) rfl ?_
    exact K
  · have h := wq_in_ z1 h
    refine wq_aload_n hC dX6_howManyRows_10 (i := 0) rfl rfl ?_
    refine gf_6 hC oC_0 0 (.ref (E.2.1 1)) (by decide) rfl tw_235 dX6_howManyRows_11 ?_
    refine wq_iload_n hC dX6_howManyRows_14 (i := 2) rfl rfl ?_
    obtain ⟨z2, h⟩ := wq_ii h
    refine wq_aldR hC oC_1.1 oC_1.2 rfl z2 dX6_howManyRows_15 ?_
    obtain ⟨r3, hc4, h⟩ := wq_ob h
    refine cv_3 hC (ctX3_isMissing (d := d - 1) (by omega) (Rw_of z2) hc4) (by omega) (by decide) (Rw_of z2).1 rfl rfl npX3_isMissing tw_291 tw_292 tw_293 tw_294 (st := []) (Nat.le_of_ble_eq_true rfl) rfl dX6_howManyRows_16 (st1 := [.int (wq_b r3)]) rfl ?_
    refine wq_bif_ne hC dX6_howManyRows_19 (tgt := 25) (by decide) (fun z5 => ?_) (fun z5 => ?_)
    · have h := wq_ip z5 h
      refine wq_iinc hC (v := (s.2 + 1)) dX6_howManyRows_25 (lv' := [some (.ref (E.2.1 0)), some (.int s.1), some (.int (s.2 + 1))]) rfl rfl (by decide) rfl ?_
      refine wq_goto hC dX6_howManyRows_28 (tgt := 4) (by decide) ?_
      have h := Option.some.inj h
      subst h
      exact K
    · have h := wq_in_ z5 h
      refine wq_iinc hC (v := (s.1 + 1)) dX6_howManyRows_22 (lv' := [some (.ref (E.2.1 0)), some (.int (s.1 + 1)), some (.int s.2)]) rfl rfl (by decide) rfl ?_
      refine wq_iinc hC (v := (s.2 + 1)) dX6_howManyRows_25 (lv' := [some (.ref (E.2.1 0)), some (.int (s.1 + 1)), some (.int (s.2 + 1))]) rfl rfl (by decide) rfl ?_
      refine wq_goto hC dX6_howManyRows_28 (tgt := 4) (by decide) ?_
      have h := Option.some.inj h
      subst h
      exact K
def fX6_howManyRows  (M : wq_M) : Option Int32 :=
  (wq_lp (fX6_howManyRows_L4 M) wq_FU (0, 0)).bind fun e6 => some e6
set_option maxHeartbeats 4000000 in
set_option maxRecDepth 100000 in
theorem ctX6_howManyRows {l : Launch} {E : wq_E} {d : Nat} (hd0 : 1 ≤ d)  {M : wq_M} {r : Int32}  (h : fX6_howManyRows M = some r) : wq_ct l E wq_yC yX6_howManyRows cX6_howManyRows 3 (some .int) d [.ref (E.2.1 0)] M (some (.int r)) M := by
  refine wq_ent (own := "WellPipes") (lv0 := [some (.ref (E.2.1 0)), none, none]) (by decide +kernel) rfl (Nat.le_of_ble_eq_true rfl) rfl (fun g h1 h2 hC => ?_)
  have K : wq_ki g M r := ⟨h1, h2⟩
  unfold fX6_howManyRows at h
  refine wq_iconst hC (v := 0) dX6_howManyRows_0 (by decide) ?_
  refine wq_istore_n hC dX6_howManyRows_1 (i := 1) (lv' := [some (.ref (E.2.1 0)), some (.int 0), none]) rfl (by decide) rfl ?_
  refine wq_iconst hC (v := 0) dX6_howManyRows_2 (by decide) ?_
  refine wq_istore_n hC dX6_howManyRows_3 (i := 2) (lv' := [some (.ref (E.2.1 0)), some (.int 0), some (.int 0)]) rfl (by decide) rfl ?_
  obtain ⟨e6, hl7, h⟩ := wq_ob h
  refine gX6_howManyRows_L4 hC hd0  M  wq_FU _ _ hl7 ?_
  refine wq_iload_n hC dX6_howManyRows_31 (i := 1) rfl rfl ?_
  have h := Option.some.inj h
  subst h
  exact wq_iret hC dX6_howManyRows_32 K.1 K.2
theorem npX6_count : yX6_count.cls ≠ "java/lang/invoke/MethodHandle" ∧ yX6_count.cls ≠ "java/lang/invoke/VarHandle" ∧ (parseMethodDescriptor yX6_count.desc).map (fun d => d.parameters.length) = some 1 := by decide +kernel
def fX6_count (x1 : Int32) (M : wq_M) : Option Int32 :=
  (if x1 = 0 then (fX6_howManyRows  M).bind fun r2 => some r2 else if x1 = 1 then some (M.1 20 1) else if x1 = 2 then some (M.1 20 0) else if x1 = 3 then (fX5_howManyLaid 20 M).bind fun r7 => some r7 else if x1 = 4 then (fX5_howManySections 20 M).bind fun r10 => some r10 else if x1 = 5 then some (M.1 47 2) else if x1 = 6 then some (M.1 18 1) else some (-1000001))
set_option maxHeartbeats 4000000 in
set_option maxRecDepth 100000 in
theorem ctX6_count {l : Launch} {E : wq_E} {d : Nat} (hd0 : 2 ≤ d) {x1 : Int32} {M : wq_M} {r : Int32}  (h : fX6_count x1 M = some r) : wq_ct l E wq_yC yX6_count cX6_count 2 (some .int) d [.ref (E.2.1 0), .int x1] M (some (.int r)) M := by
  refine wq_ent (own := "WellPipes") (lv0 := [some (.ref (E.2.1 0)), some (.int x1)]) (by decide +kernel) rfl (Nat.le_of_ble_eq_true rfl) rfl (fun g h1 h2 hC => ?_)
  have K : wq_ki g M r := ⟨h1, h2⟩
  unfold fX6_count at h
  refine wq_iload_n hC dX6_count_0 (i := 1) rfl rfl ?_
  by_cases z1 : x1 = 0
  · have h := wq_ip z1 h
    refine wq_tableIn hC dX6_count_1 (tgt := 44) (by rw [z1]; decide) (by rw [z1]; decide) (off := 43) (by rw [z1]; decide) (by decide) ?_
    refine wq_aload_n hC dX6_count_44 (i := 0) rfl rfl ?_
    obtain ⟨r2, hc3, h⟩ := wq_ob h
    refine cv_6 hC (ctX6_howManyRows (d := d - 1) (by omega)  hc3) (by omega) (by decide) oC_0 rfl rfl npX6_howManyRows tw_696 tw_698 tw_21 tw_699 (st := []) (Nat.le_of_ble_eq_true rfl) rfl dX6_count_45 (st1 := [.int r2]) rfl ?_
    have h := Option.some.inj h
    subst h
    exact wq_iret hC dX6_count_48 K.1 K.2
  · have h := wq_in_ z1 h
    by_cases z4 : x1 = 1
    · have h := wq_ip z4 h
      refine wq_tableIn hC dX6_count_1 (tgt := 49) (by rw [z4]; decide) (by rw [z4]; decide) (off := 48) (by rw [z4]; decide) (by decide) ?_
      refine wq_aload_n hC dX6_count_49 (i := 0) rfl rfl ?_
      refine gf_6 hC oC_0 2 (.ref (E.2.1 20)) (by decide) rfl tw_237 dX6_count_50 ?_
      refine gf_5 hC W_20.1 1 (.int (M.1 20 1)) (by decide) rfl tw_114 dX6_count_53 ?_
      have h := Option.some.inj h
      subst h
      exact wq_iret hC dX6_count_56 K.1 K.2
    · have h := wq_in_ z4 h
      by_cases z5 : x1 = 2
      · have h := wq_ip z5 h
        refine wq_tableIn hC dX6_count_1 (tgt := 57) (by rw [z5]; decide) (by rw [z5]; decide) (off := 56) (by rw [z5]; decide) (by decide) ?_
        refine wq_aload_n hC dX6_count_57 (i := 0) rfl rfl ?_
        refine gf_6 hC oC_0 2 (.ref (E.2.1 20)) (by decide) rfl tw_237 dX6_count_58 ?_
        refine gf_5 hC W_20.1 0 (.int (M.1 20 0)) (by decide) rfl tw_110 dX6_count_61 ?_
        have h := Option.some.inj h
        subst h
        exact wq_iret hC dX6_count_64 K.1 K.2
      · have h := wq_in_ z5 h
        by_cases z6 : x1 = 3
        · have h := wq_ip z6 h
          refine wq_tableIn hC dX6_count_1 (tgt := 65) (by rw [z6]; decide) (by rw [z6]; decide) (off := 64) (by rw [z6]; decide) (by decide) ?_
          refine wq_aload_n hC dX6_count_65 (i := 0) rfl rfl ?_
          refine gf_6 hC oC_0 2 (.ref (E.2.1 20)) (by decide) rfl tw_237 dX6_count_66 ?_
          obtain ⟨r7, hc8, h⟩ := wq_ob h
          refine cv_5 hC (ctX5_howManyLaid (d := d - 1) (by omega) W_20 hc8) (by omega) (by decide) W_20.1 rfl rfl npX5_howManyLaid tw_700 tw_701 tw_702 tw_703 (st := []) (Nat.le_of_ble_eq_true rfl) rfl dX6_count_69 (st1 := [.int r7]) rfl ?_
          have h := Option.some.inj h
          subst h
          exact wq_iret hC dX6_count_72 K.1 K.2
        · have h := wq_in_ z6 h
          by_cases z9 : x1 = 4
          · have h := wq_ip z9 h
            refine wq_tableIn hC dX6_count_1 (tgt := 73) (by rw [z9]; decide) (by rw [z9]; decide) (off := 72) (by rw [z9]; decide) (by decide) ?_
            refine wq_aload_n hC dX6_count_73 (i := 0) rfl rfl ?_
            refine gf_6 hC oC_0 2 (.ref (E.2.1 20)) (by decide) rfl tw_237 dX6_count_74 ?_
            obtain ⟨r10, hc11, h⟩ := wq_ob h
            refine cv_5 hC (ctX5_howManySections (d := d - 1) (by omega) W_20 hc11) (by omega) (by decide) W_20.1 rfl rfl npX5_howManySections tw_704 tw_705 tw_706 tw_707 (st := []) (Nat.le_of_ble_eq_true rfl) rfl dX6_count_77 (st1 := [.int r10]) rfl ?_
            have h := Option.some.inj h
            subst h
            exact wq_iret hC dX6_count_80 K.1 K.2
          · have h := wq_in_ z9 h
            by_cases z12 : x1 = 5
            · have h := wq_ip z12 h
              refine wq_tableIn hC dX6_count_1 (tgt := 81) (by rw [z12]; decide) (by rw [z12]; decide) (off := 80) (by rw [z12]; decide) (by decide) ?_
              refine wq_aload_n hC dX6_count_81 (i := 0) rfl rfl ?_
              refine gf_6 hC oC_0 6 (.ref (E.2.1 47)) (by decide) rfl tw_241 dX6_count_82 ?_
              refine gf_0 hC oC_47 2 (.int (M.1 47 2)) (by decide) rfl tw_188 dX6_count_85 ?_
              have h := Option.some.inj h
              subst h
              exact wq_iret hC dX6_count_88 K.1 K.2
            · have h := wq_in_ z12 h
              by_cases z13 : x1 = 6
              · have h := wq_ip z13 h
                refine wq_tableIn hC dX6_count_1 (tgt := 89) (by rw [z13]; decide) (by rw [z13]; decide) (off := 88) (by rw [z13]; decide) (by decide) ?_
                refine wq_aload_n hC dX6_count_89 (i := 0) rfl rfl ?_
                refine gf_6 hC oC_0 1 (.ref (E.2.1 18)) (by decide) rfl tw_236 dX6_count_90 ?_
                refine gf_2 hC oC_18 1 (.int (M.1 18 1)) (by decide) rfl tw_80 dX6_count_93 ?_
                have h := Option.some.inj h
                subst h
                exact wq_iret hC dX6_count_96 K.1 K.2
              · have h := wq_in_ z13 h
                refine wq_tableOut hC dX6_count_1 (tgt := 97) (by have := lv_neT z1 (show (0 : Int32).toInt = 0 by decide); have := lv_neT z4 (show (1 : Int32).toInt = 1 by decide); have := lv_neT z5 (show (2 : Int32).toInt = 2 by decide); have := lv_neT z6 (show (3 : Int32).toInt = 3 by decide); have := lv_neT z9 (show (4 : Int32).toInt = 4 by decide); have := lv_neT z12 (show (5 : Int32).toInt = 5 by decide); have := lv_neT z13 (show (6 : Int32).toInt = 6 by decide); omega) (by decide) ?_
                refine wq_ldc hC (v := (-1000001)) tw_270 dX6_count_97 ?_
                have h := Option.some.inj h
                subst h
                exact wq_iret hC dX6_count_99 K.1 K.2
theorem npX6_status : yX6_status.cls ≠ "java/lang/invoke/MethodHandle" ∧ yX6_status.cls ≠ "java/lang/invoke/VarHandle" ∧ (parseMethodDescriptor yX6_status.desc).map (fun d => d.parameters.length) = some 0 := by decide +kernel
def fX6_status  (M : wq_M) : Option Int32 :=
  some (M.1 0 8)
set_option maxHeartbeats 4000000 in
set_option maxRecDepth 100000 in
theorem ctX6_status {l : Launch} {E : wq_E} {d : Nat} (hd0 : 0 ≤ d)  {M : wq_M} {r : Int32}  (h : fX6_status M = some r) : wq_ct l E wq_yC yX6_status cX6_status 1 (some .int) d [.ref (E.2.1 0)] M (some (.int r)) M := by
  refine wq_ent (own := "WellPipes") (lv0 := [some (.ref (E.2.1 0))]) (by decide +kernel) rfl (Nat.le_of_ble_eq_true rfl) rfl (fun g h1 h2 hC => ?_)
  have K : wq_ki g M r := ⟨h1, h2⟩
  unfold fX6_status at h
  refine wq_aload_n hC dX6_status_0 (i := 0) rfl rfl ?_
  refine gf_6 hC oC_0 8 (.int (M.1 0 8)) (by decide) rfl tw_243 dX6_status_1 ?_
  have h := Option.some.inj h
  subst h
  exact wq_iret hC dX6_status_4 K.1 K.2
