theorem RA_one {D : va_G} {cl : List vw_C} {tys : List (ClassId × FieldType)} {s : State} {a b : ClassId} {ty : FieldType} (h : va_K D cl tys s) (i j : Nat) (hi : tys[i]? = some (a, ty)) (hj : tys[j]? = some (b, ty)) : a = b := by
  have h1 := (h.2 i _ hi).2
  have h2 := (h.2 j _ hj).2
  cases ty with
  | object C =>
    obtain ⟨-, -, -, -, -, h1⟩ := h1
    obtain ⟨-, -, -, -, -, h2⟩ := h2
    exact Option.some.inj (h1.symm.trans h2)
  | _ => exact Option.some.inj (h1.symm.trans h2)
def lsX0 (cI : ClassId) (h0 : Nat) (u : Nat × Nat) : va_W := [(h0, .inr (0, [.ref u.1, .ref u.2, .int 0])), (u.1, .inl (cI, 24, .inl (fun _ => 0))), (u.2, .inl (cI, 24, .inl (fun _ => 0)))]
set_option maxHeartbeats 4000000 in
set_option maxRecDepth 100000 in
theorem ciX0 (l : Launch) (D : va_G) (cI : ClassId) (h0 sz : Nat) : Met l yX0_init (Cond.code yX0_init cX0_init 1 none :: wq_TB) ({ frames := 1, cells := 2, slots := 48, locals := 12 }) (va_Pc [.ref h0] (fun U => U.heap.size = sz ∧ va_P D wq_cl [(h0, .inr (0, [.null, .null, .int 0]))] U.heap ∧ va_K D wq_cl [(cI, .int)] U ∧ va_D (fun _ => True) [(h0, .inr (0, [.null, .null, .int 0]))])) (va_Qv (fun _ : Nat × Nat => True) (fun u t => va_P D wq_cl (lsX0 cI h0 u) t.heap ∧ va_K D wq_cl [(cI, .int)] t ∧ va_D (va_A [(h0, .inr (0, [.null, .null, .int 0]))] sz) (lsX0 cI h0 u)) (va_A [(h0, .inr (0, [.null, .null, .int 0]))] sz)) 2 48 (va_A [(h0, .inr (0, [.null, .null, .int 0]))] sz) := by
  refine Met.ofW (cc := cX0_init) (maxL := 1) (ret := none) (by decide +kernel) rfl ?_
  intro p e s m args below meth c s₁ B hml hv
  obtain ⟨rfl, hsz, hP, hK, hD0⟩ := hv
  have hx := B.exec
  have hb := B.bytes
  have hr := B.returns
  have hts : ∀ w ∈ wq_TB, w.before #[Value.ref h0] s = true := fun w hw => atoms_spec (ws := Cond.code yX0_init cX0_init 1 none :: wq_TB) B.pre w (List.mem_cons_of_mem _ hw)
  have hown : s.vm.findClass RX0 = some m.cls := findClass_of_methodNamed B.named
  have hin : meth.name = "<init>" := (name_of_methodNamed B.named B.method).1
  subst hsz
  have hD := hD0.self (sz := s.heap.size)
  generalize hAe : va_A [(h0, .inr (0, [.null, .null, .int 0]))] s.heap.size = A at hD ⊢
  have hA : ∀ q : Nat, s.heap.size ≤ q → A q := fun q h => by rw [← hAe]; exact Or.inr h
  have hS : va_S A s.heap s.heap [] := va_S.rf
  have hP : va_P D wq_cl [(h0, .inr (0, [.null, .null, .int 0]))] s.heap := hP
  have hl := lv_entry ([.ref h0]) (n := 1) (Nat.le_of_ble_eq_true rfl)
  rw [lg_entry_eq]
  generalize (lg_sl ([.ref h0]) ++ List.replicate (1 - (lg_sl ([.ref h0])).length) Slot.unset).toArray = ls at hl ⊢
  have hl : lv_has ls 1 [(0, .ref h0)] := hl
  refine lv_aload_n hx hb dX0_init_0 rfl (lv_at hl 0 rfl) ?_
  refine W.objInit hx hb hown (hts _ tw_184) (hts _ tw_68) (hts _ tw_69) rfl (by rw [hml]; exact hl.1) rfl dX0_init_1 (Nat.le_of_ble_eq_true rfl) (Nat.le_of_ble_eq_true rfl) ?_
  refine W.eq (g2 := F0 m 4 ls []) rfl ?_
  refine lv_aload_n hx hb dX0_init_4 rfl (lv_at hl 0 rfl) ?_
  refine lv_bipush (v := 24) hx hb dX0_init_5 (by decide) ?_
  refine va_newa (a0 := (24, .inl (fun _ => 0))) (ty := .int) hx hb (hts _ (tb_1 50 rfl rfl)) rfl hK hP hD hS hA (N' := 24) (fun _ => rfl) (by decide) (by decide) (by decide) (by decide) (by decide) dX0_init_7 (fun q1 cA1 H hKn hP hD hS => ?_)
  have e1 : cA1 = cI := RA_one hKn 1 0 rfl rfl
  rw [e1] at hP hD
  have hP : va_P D wq_cl [(h0, .inr (0, [.null, .null, .int 0])), (q1, .inl (cI, 24, .inl (fun _ => 0)))] H := hP
  have hD : va_D A [(h0, .inr (0, [.null, .null, .int 0])), (q1, .inl (cI, 24, .inl (fun _ => 0)))] := hD
  refine W.widen (k := 1) (n := 24) (by omega) (by omega) ?_
  refine va_putF (D := D) (ci := 0) (v := .ref q1) (ty := .array .int) (C := RX0) (T := TX0) (N := 3) hx hb hts in_X0 tyX0 tyX0_ok nmX0 hown hK hP hD hS 0 rfl rfl 0 (by decide) (hts _ tw_185) (fun _ h9 => h9) rfl hin rfl (by decide +kernel) rfl rfl (Nat.le_of_ble_eq_true rfl) dX0_init_9 (fun H locs hP hD hS => ?_)
  have hP : va_P D wq_cl [(h0, .inr (0, [.ref q1, .null, .int 0])), (q1, .inl (cI, 24, .inl (fun _ => 0)))] H := hP
  have hD : va_D A [(h0, .inr (0, [.ref q1, .null, .int 0])), (q1, .inl (cI, 24, .inl (fun _ => 0)))] := hD
  refine lv_aload_n hx hb dX0_init_12 rfl (lv_at hl 0 rfl) ?_
  refine lv_bipush (v := 24) hx hb dX0_init_13 (by decide) ?_
  refine va_newa (a0 := (24, .inl (fun _ => 0))) (ty := .int) hx hb (hts _ (tb_1 50 rfl rfl)) rfl hK hP hD hS hA (N' := 24) (fun _ => rfl) (by decide) (by decide) (by decide) (by decide) (by decide) dX0_init_15 (fun q2 cA2 H hKn hP hD hS => ?_)
  have e2 : cA2 = cI := RA_one hKn 1 0 rfl rfl
  rw [e2] at hP hD
  have hP : va_P D wq_cl [(h0, .inr (0, [.ref q1, .null, .int 0])), (q1, .inl (cI, 24, .inl (fun _ => 0))), (q2, .inl (cI, 24, .inl (fun _ => 0)))] H := hP
  have hD : va_D A [(h0, .inr (0, [.ref q1, .null, .int 0])), (q1, .inl (cI, 24, .inl (fun _ => 0))), (q2, .inl (cI, 24, .inl (fun _ => 0)))] := hD
  refine W.widen (k := 2) (n := 48) (by omega) (by omega) ?_
  refine va_putF (D := D) (ci := 0) (v := .ref q2) (ty := .array .int) (C := RX0) (T := TX0) (N := 3) hx hb hts in_X0 tyX0 tyX0_ok nmX0 hown hK hP hD hS 0 rfl rfl 1 (by decide) (hts _ tw_186) (fun _ h9 => h9) rfl hin rfl (by decide +kernel) rfl rfl (Nat.le_of_ble_eq_true rfl) dX0_init_17 (fun H locs hP hD hS => ?_)
  have hP : va_P D wq_cl [(h0, .inr (0, [.ref q1, .ref q2, .int 0])), (q1, .inl (cI, 24, .inl (fun _ => 0))), (q2, .inl (cI, 24, .inl (fun _ => 0)))] H := hP
  have hD : va_D A [(h0, .inr (0, [.ref q1, .ref q2, .int 0])), (q1, .inl (cI, 24, .inl (fun _ => 0))), (q2, .inl (cI, 24, .inl (fun _ => 0)))] := hD
  exact W.vret hx hb hr (fun t ht hW => ⟨⟨(q1, q2), rfl, trivial, by rw [ht]; exact hP, va_K.moved hW.alike hK, hD⟩, hS.F ht⟩) hS.2.2 dX0_init_20
def lsX1 (cI : ClassId) (h0 : Nat) (u : Nat) : va_W := [(h0, .inr (1, [.ref u, .int 0, .null, .int 0])), (u, .inl (cI, 16, .inl (fun _ => 0)))]
set_option maxHeartbeats 4000000 in
set_option maxRecDepth 100000 in
theorem ciX1 (l : Launch) (D : va_G) (cI : ClassId) (h0 sz : Nat) : Met l yX1_init (Cond.code yX1_init cX1_init 1 none :: wq_TB) ({ frames := 1, cells := 1, slots := 16, locals := 12 }) (va_Pc [.ref h0] (fun U => U.heap.size = sz ∧ va_P D wq_cl [(h0, .inr (1, [.null, .int 0, .null, .int 0]))] U.heap ∧ va_K D wq_cl [(cI, .int)] U ∧ va_D (fun _ => True) [(h0, .inr (1, [.null, .int 0, .null, .int 0]))])) (va_Qv (fun _ : Nat => True) (fun u t => va_P D wq_cl (lsX1 cI h0 u) t.heap ∧ va_K D wq_cl [(cI, .int)] t ∧ va_D (va_A [(h0, .inr (1, [.null, .int 0, .null, .int 0]))] sz) (lsX1 cI h0 u)) (va_A [(h0, .inr (1, [.null, .int 0, .null, .int 0]))] sz)) 1 16 (va_A [(h0, .inr (1, [.null, .int 0, .null, .int 0]))] sz) := by
  refine Met.ofW (cc := cX1_init) (maxL := 1) (ret := none) (by decide +kernel) rfl ?_
  intro p e s m args below meth c s₁ B hml hv
  obtain ⟨rfl, hsz, hP, hK, hD0⟩ := hv
  have hx := B.exec
  have hb := B.bytes
  have hr := B.returns
  have hts : ∀ w ∈ wq_TB, w.before #[Value.ref h0] s = true := fun w hw => atoms_spec (ws := Cond.code yX1_init cX1_init 1 none :: wq_TB) B.pre w (List.mem_cons_of_mem _ hw)
  have hown : s.vm.findClass RX1 = some m.cls := findClass_of_methodNamed B.named
  have hin : meth.name = "<init>" := (name_of_methodNamed B.named B.method).1
  subst hsz
  have hD := hD0.self (sz := s.heap.size)
  generalize hAe : va_A [(h0, .inr (1, [.null, .int 0, .null, .int 0]))] s.heap.size = A at hD ⊢
  have hA : ∀ q : Nat, s.heap.size ≤ q → A q := fun q h => by rw [← hAe]; exact Or.inr h
  have hS : va_S A s.heap s.heap [] := va_S.rf
  have hP : va_P D wq_cl [(h0, .inr (1, [.null, .int 0, .null, .int 0]))] s.heap := hP
  have hl := lv_entry ([.ref h0]) (n := 1) (Nat.le_of_ble_eq_true rfl)
  rw [lg_entry_eq]
  generalize (lg_sl ([.ref h0]) ++ List.replicate (1 - (lg_sl ([.ref h0])).length) Slot.unset).toArray = ls at hl ⊢
  have hl : lv_has ls 1 [(0, .ref h0)] := hl
  refine lv_aload_n hx hb dX1_init_0 rfl (lv_at hl 0 rfl) ?_
  refine W.objInit hx hb hown (hts _ tw_201) (hts _ tw_68) (hts _ tw_69) rfl (by rw [hml]; exact hl.1) rfl dX1_init_1 (Nat.le_of_ble_eq_true rfl) (Nat.le_of_ble_eq_true rfl) ?_
  refine W.eq (g2 := F0 m 4 ls []) rfl ?_
  refine lv_aload_n hx hb dX1_init_4 rfl (lv_at hl 0 rfl) ?_
  refine lv_bipush (v := 16) hx hb dX1_init_5 (by decide) ?_
  refine va_newa (a0 := (16, .inl (fun _ => 0))) (ty := .int) hx hb (hts _ (tb_1 50 rfl rfl)) rfl hK hP hD hS hA (N' := 16) (fun _ => rfl) (by decide) (by decide) (by decide) (by decide) (by decide) dX1_init_7 (fun q1 cA1 H hKn hP hD hS => ?_)
  have e1 : cA1 = cI := RA_one hKn 1 0 rfl rfl
  rw [e1] at hP hD
  have hP : va_P D wq_cl [(h0, .inr (1, [.null, .int 0, .null, .int 0])), (q1, .inl (cI, 16, .inl (fun _ => 0)))] H := hP
  have hD : va_D A [(h0, .inr (1, [.null, .int 0, .null, .int 0])), (q1, .inl (cI, 16, .inl (fun _ => 0)))] := hD
  refine W.widen (k := 1) (n := 16) (by omega) (by omega) ?_
  refine va_putF (D := D) (ci := 1) (v := .ref q1) (ty := .array .int) (C := RX1) (T := TX1) (N := 4) hx hb hts in_X1 tyX1 tyX1_ok nmX1 hown hK hP hD hS 0 rfl rfl 0 (by decide) (hts _ tw_202) (fun _ h9 => h9) rfl hin rfl (by decide +kernel) rfl rfl (Nat.le_of_ble_eq_true rfl) dX1_init_9 (fun H locs hP hD hS => ?_)
  have hP : va_P D wq_cl [(h0, .inr (1, [.ref q1, .int 0, .null, .int 0])), (q1, .inl (cI, 16, .inl (fun _ => 0)))] H := hP
  have hD : va_D A [(h0, .inr (1, [.ref q1, .int 0, .null, .int 0])), (q1, .inl (cI, 16, .inl (fun _ => 0)))] := hD
  exact W.vret hx hb hr (fun t ht hW => ⟨⟨(q1), rfl, trivial, by rw [ht]; exact hP, va_K.moved hW.alike hK, hD⟩, hS.F ht⟩) hS.2.2 dX1_init_12
def lsX2 (cI : ClassId) (h0 : Nat) (u : Nat) : va_W := [(h0, .inr (2, [.ref u, .int 0, .int 0, .int 0, .int 0, .int 0])), (u, .inl (cI, 130, .inl (fun _ => 0)))]
set_option maxHeartbeats 4000000 in
set_option maxRecDepth 100000 in
theorem ciX2 (l : Launch) (D : va_G) (cI : ClassId) (h0 sz : Nat) : Met l yX2_init (Cond.code yX2_init cX2_init 1 none :: wq_TB) ({ frames := 1, cells := 1, slots := 130, locals := 12 }) (va_Pc [.ref h0] (fun U => U.heap.size = sz ∧ va_P D wq_cl [(h0, .inr (2, [.null, .int 0, .int 0, .int 0, .int 0, .int 0]))] U.heap ∧ va_K D wq_cl [(cI, .int)] U ∧ va_D (fun _ => True) [(h0, .inr (2, [.null, .int 0, .int 0, .int 0, .int 0, .int 0]))])) (va_Qv (fun _ : Nat => True) (fun u t => va_P D wq_cl (lsX2 cI h0 u) t.heap ∧ va_K D wq_cl [(cI, .int)] t ∧ va_D (va_A [(h0, .inr (2, [.null, .int 0, .int 0, .int 0, .int 0, .int 0]))] sz) (lsX2 cI h0 u)) (va_A [(h0, .inr (2, [.null, .int 0, .int 0, .int 0, .int 0, .int 0]))] sz)) 1 130 (va_A [(h0, .inr (2, [.null, .int 0, .int 0, .int 0, .int 0, .int 0]))] sz) := by
  refine Met.ofW (cc := cX2_init) (maxL := 1) (ret := none) (by decide +kernel) rfl ?_
  intro p e s m args below meth c s₁ B hml hv
  obtain ⟨rfl, hsz, hP, hK, hD0⟩ := hv
  have hx := B.exec
  have hb := B.bytes
  have hr := B.returns
  have hts : ∀ w ∈ wq_TB, w.before #[Value.ref h0] s = true := fun w hw => atoms_spec (ws := Cond.code yX2_init cX2_init 1 none :: wq_TB) B.pre w (List.mem_cons_of_mem _ hw)
  have hown : s.vm.findClass RX2 = some m.cls := findClass_of_methodNamed B.named
  have hin : meth.name = "<init>" := (name_of_methodNamed B.named B.method).1
  subst hsz
  have hD := hD0.self (sz := s.heap.size)
  generalize hAe : va_A [(h0, .inr (2, [.null, .int 0, .int 0, .int 0, .int 0, .int 0]))] s.heap.size = A at hD ⊢
  have hA : ∀ q : Nat, s.heap.size ≤ q → A q := fun q h => by rw [← hAe]; exact Or.inr h
  have hS : va_S A s.heap s.heap [] := va_S.rf
  have hP : va_P D wq_cl [(h0, .inr (2, [.null, .int 0, .int 0, .int 0, .int 0, .int 0]))] s.heap := hP
  have hl := lv_entry ([.ref h0]) (n := 1) (Nat.le_of_ble_eq_true rfl)
  rw [lg_entry_eq]
  generalize (lg_sl ([.ref h0]) ++ List.replicate (1 - (lg_sl ([.ref h0])).length) Slot.unset).toArray = ls at hl ⊢
  have hl : lv_has ls 1 [(0, .ref h0)] := hl
  refine lv_aload_n hx hb dX2_init_0 rfl (lv_at hl 0 rfl) ?_
  refine W.objInit hx hb hown (hts _ tw_77) (hts _ tw_68) (hts _ tw_69) rfl (by rw [hml]; exact hl.1) rfl dX2_init_1 (Nat.le_of_ble_eq_true rfl) (Nat.le_of_ble_eq_true rfl) ?_
  refine W.eq (g2 := F0 m 4 ls []) rfl ?_
  refine lv_aload_n hx hb dX2_init_4 rfl (lv_at hl 0 rfl) ?_
  refine lv_sipush (v := 130) hx hb dX2_init_5 (by decide) ?_
  refine va_newa (a0 := (130, .inl (fun _ => 0))) (ty := .int) hx hb (hts _ (tb_1 50 rfl rfl)) rfl hK hP hD hS hA (N' := 130) (fun _ => rfl) (by decide) (by decide) (by decide) (by decide) (by decide) dX2_init_8 (fun q1 cA1 H hKn hP hD hS => ?_)
  have e1 : cA1 = cI := RA_one hKn 1 0 rfl rfl
  rw [e1] at hP hD
  have hP : va_P D wq_cl [(h0, .inr (2, [.null, .int 0, .int 0, .int 0, .int 0, .int 0])), (q1, .inl (cI, 130, .inl (fun _ => 0)))] H := hP
  have hD : va_D A [(h0, .inr (2, [.null, .int 0, .int 0, .int 0, .int 0, .int 0])), (q1, .inl (cI, 130, .inl (fun _ => 0)))] := hD
  refine W.widen (k := 1) (n := 130) (by omega) (by omega) ?_
  refine va_putF (D := D) (ci := 2) (v := .ref q1) (ty := .array .int) (C := RX2) (T := TX2) (N := 6) hx hb hts in_X2 tyX2 tyX2_ok nmX2 hown hK hP hD hS 0 rfl rfl 0 (by decide) (hts _ tw_78) (fun _ h9 => h9) rfl hin rfl (by decide +kernel) rfl rfl (Nat.le_of_ble_eq_true rfl) dX2_init_10 (fun H locs hP hD hS => ?_)
  have hP : va_P D wq_cl [(h0, .inr (2, [.ref q1, .int 0, .int 0, .int 0, .int 0, .int 0])), (q1, .inl (cI, 130, .inl (fun _ => 0)))] H := hP
  have hD : va_D A [(h0, .inr (2, [.ref q1, .int 0, .int 0, .int 0, .int 0, .int 0])), (q1, .inl (cI, 130, .inl (fun _ => 0)))] := hD
  exact W.vret hx hb hr (fun t ht hW => ⟨⟨(q1), rfl, trivial, by rw [ht]; exact hP, va_K.moved hW.alike hK, hD⟩, hS.F ht⟩) hS.2.2 dX2_init_13
def lsX3 (cI : ClassId) (h0 : Nat) (u : Nat) : va_W := [(h0, .inr (3, [.ref u, .int 0, .int (-1)])), (u, .inl (cI, 40, .inl (fun _ => 0)))]
set_option maxHeartbeats 4000000 in
set_option maxRecDepth 100000 in
theorem ciX3 (l : Launch) (D : va_G) (cI : ClassId) (h0 sz : Nat) : Met l yX3_init (Cond.code yX3_init cX3_init 1 none :: wq_TB) ({ frames := 1, cells := 1, slots := 40, locals := 12 }) (va_Pc [.ref h0] (fun U => U.heap.size = sz ∧ va_P D wq_cl [(h0, .inr (3, [.null, .int 0, .int 0]))] U.heap ∧ va_K D wq_cl [(cI, .int)] U ∧ va_D (fun _ => True) [(h0, .inr (3, [.null, .int 0, .int 0]))])) (va_Qv (fun _ : Nat => True) (fun u t => va_P D wq_cl (lsX3 cI h0 u) t.heap ∧ va_K D wq_cl [(cI, .int)] t ∧ va_D (va_A [(h0, .inr (3, [.null, .int 0, .int 0]))] sz) (lsX3 cI h0 u)) (va_A [(h0, .inr (3, [.null, .int 0, .int 0]))] sz)) 1 40 (va_A [(h0, .inr (3, [.null, .int 0, .int 0]))] sz) := by
  refine Met.ofW (cc := cX3_init) (maxL := 1) (ret := none) (by decide +kernel) rfl ?_
  intro p e s m args below meth c s₁ B hml hv
  obtain ⟨rfl, hsz, hP, hK, hD0⟩ := hv
  have hx := B.exec
  have hb := B.bytes
  have hr := B.returns
  have hts : ∀ w ∈ wq_TB, w.before #[Value.ref h0] s = true := fun w hw => atoms_spec (ws := Cond.code yX3_init cX3_init 1 none :: wq_TB) B.pre w (List.mem_cons_of_mem _ hw)
  have hown : s.vm.findClass RX3 = some m.cls := findClass_of_methodNamed B.named
  have hin : meth.name = "<init>" := (name_of_methodNamed B.named B.method).1
  subst hsz
  have hD := hD0.self (sz := s.heap.size)
  generalize hAe : va_A [(h0, .inr (3, [.null, .int 0, .int 0]))] s.heap.size = A at hD ⊢
  have hA : ∀ q : Nat, s.heap.size ≤ q → A q := fun q h => by rw [← hAe]; exact Or.inr h
  have hS : va_S A s.heap s.heap [] := va_S.rf
  have hP : va_P D wq_cl [(h0, .inr (3, [.null, .int 0, .int 0]))] s.heap := hP
  have hl := lv_entry ([.ref h0]) (n := 1) (Nat.le_of_ble_eq_true rfl)
  rw [lg_entry_eq]
  generalize (lg_sl ([.ref h0]) ++ List.replicate (1 - (lg_sl ([.ref h0])).length) Slot.unset).toArray = ls at hl ⊢
  have hl : lv_has ls 1 [(0, .ref h0)] := hl
  refine lv_aload_n hx hb dX3_init_0 rfl (lv_at hl 0 rfl) ?_
  refine W.objInit hx hb hown (hts _ tw_221) (hts _ tw_68) (hts _ tw_69) rfl (by rw [hml]; exact hl.1) rfl dX3_init_1 (Nat.le_of_ble_eq_true rfl) (Nat.le_of_ble_eq_true rfl) ?_
  refine W.eq (g2 := F0 m 4 ls []) rfl ?_
  refine lv_aload_n hx hb dX3_init_4 rfl (lv_at hl 0 rfl) ?_
  refine lv_bipush (v := 40) hx hb dX3_init_5 (by decide) ?_
  refine va_newa (a0 := (40, .inl (fun _ => 0))) (ty := .int) hx hb (hts _ (tb_1 50 rfl rfl)) rfl hK hP hD hS hA (N' := 40) (fun _ => rfl) (by decide) (by decide) (by decide) (by decide) (by decide) dX3_init_7 (fun q1 cA1 H hKn hP hD hS => ?_)
  have e1 : cA1 = cI := RA_one hKn 1 0 rfl rfl
  rw [e1] at hP hD
  have hP : va_P D wq_cl [(h0, .inr (3, [.null, .int 0, .int 0])), (q1, .inl (cI, 40, .inl (fun _ => 0)))] H := hP
  have hD : va_D A [(h0, .inr (3, [.null, .int 0, .int 0])), (q1, .inl (cI, 40, .inl (fun _ => 0)))] := hD
  refine W.widen (k := 1) (n := 40) (by omega) (by omega) ?_
  refine va_putF (D := D) (ci := 3) (v := .ref q1) (ty := .array .int) (C := RX3) (T := TX3) (N := 3) hx hb hts in_X3 tyX3 tyX3_ok nmX3 hown hK hP hD hS 0 rfl rfl 0 (by decide) (hts _ tw_222) (fun _ h9 => h9) rfl hin rfl (by decide +kernel) rfl rfl (Nat.le_of_ble_eq_true rfl) dX3_init_9 (fun H locs hP hD hS => ?_)
  have hP : va_P D wq_cl [(h0, .inr (3, [.ref q1, .int 0, .int 0])), (q1, .inl (cI, 40, .inl (fun _ => 0)))] H := hP
  have hD : va_D A [(h0, .inr (3, [.ref q1, .int 0, .int 0])), (q1, .inl (cI, 40, .inl (fun _ => 0)))] := hD
  refine lv_aload_n hx hb dX3_init_12 rfl (lv_at hl 0 rfl) ?_
  refine lv_iconst (v := (-1)) hx hb dX3_init_13 (by decide) ?_
  refine va_put (D := D) (ci := 3) (v := .int (-1)) (ty := .int) (C := RX3) (T := TX3) (N := 3) hx hb hts in_X3 tyX3 tyX3_ok nmX3 hown hK hP hD hS 0 rfl rfl 2 (by decide) (hts _ tw_226) (fun _ h9 => h9) rfl (by decide +kernel) rfl rfl (Nat.le_of_ble_eq_true rfl) dX3_init_14 (fun H locs hP hD hS => ?_)
  have hP : va_P D wq_cl [(h0, .inr (3, [.ref q1, .int 0, .int (-1)])), (q1, .inl (cI, 40, .inl (fun _ => 0)))] H := hP
  have hD : va_D A [(h0, .inr (3, [.ref q1, .int 0, .int (-1)])), (q1, .inl (cI, 40, .inl (fun _ => 0)))] := hD
  exact W.vret hx hb hr (fun t ht hW => ⟨⟨(q1), rfl, trivial, by rw [ht]; exact hP, va_K.moved hW.alike hK, hD⟩, hS.F ht⟩) hS.2.2 dX3_init_17
def lsX4 (cI : ClassId) (h0 : Nat) (u : Nat × Nat × Nat × Nat × Nat) : va_W := [(h0, .inr (4, [.ref u.1, .int 0, .int 0, .ref u.2.1, .ref u.2.2.1, .ref u.2.2.2.1, .ref u.2.2.2.2, .null, .int 0])), (u.1, .inl (cI, 8, .inl (fun _ => 0))), (u.2.1, .inl (cI, 1095, .inl (fun _ => 0))), (u.2.2.1, .inl (cI, 1095, .inl (fun _ => 0))), (u.2.2.2.1, .inl (cI, 73, .inl (fun _ => 0))), (u.2.2.2.2, .inl (cI, 73, .inl (fun _ => 0)))]
set_option maxHeartbeats 4000000 in
set_option maxRecDepth 100000 in
theorem ciX4 (l : Launch) (D : va_G) (cI : ClassId) (h0 sz : Nat) : Met l yX4_init (Cond.code yX4_init cX4_init 1 none :: wq_TB) ({ frames := 1, cells := 5, slots := 2344, locals := 12 }) (va_Pc [.ref h0] (fun U => U.heap.size = sz ∧ va_P D wq_cl [(h0, .inr (4, [.null, .int 0, .int 0, .null, .null, .null, .null, .null, .int 0]))] U.heap ∧ va_K D wq_cl [(cI, .int)] U ∧ va_D (fun _ => True) [(h0, .inr (4, [.null, .int 0, .int 0, .null, .null, .null, .null, .null, .int 0]))])) (va_Qv (fun _ : Nat × Nat × Nat × Nat × Nat => True) (fun u t => va_P D wq_cl (lsX4 cI h0 u) t.heap ∧ va_K D wq_cl [(cI, .int)] t ∧ va_D (va_A [(h0, .inr (4, [.null, .int 0, .int 0, .null, .null, .null, .null, .null, .int 0]))] sz) (lsX4 cI h0 u)) (va_A [(h0, .inr (4, [.null, .int 0, .int 0, .null, .null, .null, .null, .null, .int 0]))] sz)) 5 2344 (va_A [(h0, .inr (4, [.null, .int 0, .int 0, .null, .null, .null, .null, .null, .int 0]))] sz) := by
  refine Met.ofW (cc := cX4_init) (maxL := 1) (ret := none) (by decide +kernel) rfl ?_
  intro p e s m args below meth c s₁ B hml hv
  obtain ⟨rfl, hsz, hP, hK, hD0⟩ := hv
  have hx := B.exec
  have hb := B.bytes
  have hr := B.returns
  have hts : ∀ w ∈ wq_TB, w.before #[Value.ref h0] s = true := fun w hw => atoms_spec (ws := Cond.code yX4_init cX4_init 1 none :: wq_TB) B.pre w (List.mem_cons_of_mem _ hw)
  have hown : s.vm.findClass RX4 = some m.cls := findClass_of_methodNamed B.named
  have hin : meth.name = "<init>" := (name_of_methodNamed B.named B.method).1
  subst hsz
  have hD := hD0.self (sz := s.heap.size)
  generalize hAe : va_A [(h0, .inr (4, [.null, .int 0, .int 0, .null, .null, .null, .null, .null, .int 0]))] s.heap.size = A at hD ⊢
  have hA : ∀ q : Nat, s.heap.size ≤ q → A q := fun q h => by rw [← hAe]; exact Or.inr h
  have hS : va_S A s.heap s.heap [] := va_S.rf
  have hP : va_P D wq_cl [(h0, .inr (4, [.null, .int 0, .int 0, .null, .null, .null, .null, .null, .int 0]))] s.heap := hP
  have hl := lv_entry ([.ref h0]) (n := 1) (Nat.le_of_ble_eq_true rfl)
  rw [lg_entry_eq]
  generalize (lg_sl ([.ref h0]) ++ List.replicate (1 - (lg_sl ([.ref h0])).length) Slot.unset).toArray = ls at hl ⊢
  have hl : lv_has ls 1 [(0, .ref h0)] := hl
  refine lv_aload_n hx hb dX4_init_0 rfl (lv_at hl 0 rfl) ?_
  refine W.objInit hx hb hown (hts _ tw_147) (hts _ tw_68) (hts _ tw_69) rfl (by rw [hml]; exact hl.1) rfl dX4_init_1 (Nat.le_of_ble_eq_true rfl) (Nat.le_of_ble_eq_true rfl) ?_
  refine W.eq (g2 := F0 m 4 ls []) rfl ?_
  refine lv_aload_n hx hb dX4_init_4 rfl (lv_at hl 0 rfl) ?_
  refine lv_bipush (v := 8) hx hb dX4_init_5 (by decide) ?_
  refine va_newa (a0 := (8, .inl (fun _ => 0))) (ty := .int) hx hb (hts _ (tb_1 50 rfl rfl)) rfl hK hP hD hS hA (N' := 8) (fun _ => rfl) (by decide) (by decide) (by decide) (by decide) (by decide) dX4_init_7 (fun q1 cA1 H hKn hP hD hS => ?_)
  have e1 : cA1 = cI := RA_one hKn 1 0 rfl rfl
  rw [e1] at hP hD
  have hP : va_P D wq_cl [(h0, .inr (4, [.null, .int 0, .int 0, .null, .null, .null, .null, .null, .int 0])), (q1, .inl (cI, 8, .inl (fun _ => 0)))] H := hP
  have hD : va_D A [(h0, .inr (4, [.null, .int 0, .int 0, .null, .null, .null, .null, .null, .int 0])), (q1, .inl (cI, 8, .inl (fun _ => 0)))] := hD
  refine W.widen (k := 1) (n := 8) (by omega) (by omega) ?_
  refine va_putF (D := D) (ci := 4) (v := .ref q1) (ty := .array .int) (C := RX4) (T := TX4) (N := 9) hx hb hts in_X4 tyX4 tyX4_ok nmX4 hown hK hP hD hS 0 rfl rfl 0 (by decide) (hts _ tw_148) (fun _ h9 => h9) rfl hin rfl (by decide +kernel) rfl rfl (Nat.le_of_ble_eq_true rfl) dX4_init_9 (fun H locs hP hD hS => ?_)
  have hP : va_P D wq_cl [(h0, .inr (4, [.ref q1, .int 0, .int 0, .null, .null, .null, .null, .null, .int 0])), (q1, .inl (cI, 8, .inl (fun _ => 0)))] H := hP
  have hD : va_D A [(h0, .inr (4, [.ref q1, .int 0, .int 0, .null, .null, .null, .null, .null, .int 0])), (q1, .inl (cI, 8, .inl (fun _ => 0)))] := hD
  refine lv_aload_n hx hb dX4_init_12 rfl (lv_at hl 0 rfl) ?_
  refine lv_sipush (v := 1095) hx hb dX4_init_13 (by decide) ?_
  refine va_newa (a0 := (1095, .inl (fun _ => 0))) (ty := .int) hx hb (hts _ (tb_1 50 rfl rfl)) rfl hK hP hD hS hA (N' := 1095) (fun _ => rfl) (by decide) (by decide) (by decide) (by decide) (by decide) dX4_init_16 (fun q2 cA2 H hKn hP hD hS => ?_)
  have e2 : cA2 = cI := RA_one hKn 1 0 rfl rfl
  rw [e2] at hP hD
  have hP : va_P D wq_cl [(h0, .inr (4, [.ref q1, .int 0, .int 0, .null, .null, .null, .null, .null, .int 0])), (q1, .inl (cI, 8, .inl (fun _ => 0))), (q2, .inl (cI, 1095, .inl (fun _ => 0)))] H := hP
  have hD : va_D A [(h0, .inr (4, [.ref q1, .int 0, .int 0, .null, .null, .null, .null, .null, .int 0])), (q1, .inl (cI, 8, .inl (fun _ => 0))), (q2, .inl (cI, 1095, .inl (fun _ => 0)))] := hD
  refine W.widen (k := 2) (n := 1103) (by omega) (by omega) ?_
  refine va_put (D := D) (ci := 4) (v := .ref q2) (ty := .array .int) (C := RX4) (T := TX4) (N := 9) hx hb hts in_X4 tyX4 tyX4_ok nmX4 hown hK hP hD hS 0 rfl rfl 3 (by decide) (hts _ tw_154) (fun _ h9 => h9) rfl (by decide +kernel) rfl rfl (Nat.le_of_ble_eq_true rfl) dX4_init_18 (fun H locs hP hD hS => ?_)
  have hP : va_P D wq_cl [(h0, .inr (4, [.ref q1, .int 0, .int 0, .ref q2, .null, .null, .null, .null, .int 0])), (q1, .inl (cI, 8, .inl (fun _ => 0))), (q2, .inl (cI, 1095, .inl (fun _ => 0)))] H := hP
  have hD : va_D A [(h0, .inr (4, [.ref q1, .int 0, .int 0, .ref q2, .null, .null, .null, .null, .int 0])), (q1, .inl (cI, 8, .inl (fun _ => 0))), (q2, .inl (cI, 1095, .inl (fun _ => 0)))] := hD
  refine lv_aload_n hx hb dX4_init_21 rfl (lv_at hl 0 rfl) ?_
  refine lv_sipush (v := 1095) hx hb dX4_init_22 (by decide) ?_
  refine va_newa (a0 := (1095, .inl (fun _ => 0))) (ty := .int) hx hb (hts _ (tb_1 50 rfl rfl)) rfl hK hP hD hS hA (N' := 1095) (fun _ => rfl) (by decide) (by decide) (by decide) (by decide) (by decide) dX4_init_25 (fun q3 cA3 H hKn hP hD hS => ?_)
  have e3 : cA3 = cI := RA_one hKn 1 0 rfl rfl
  rw [e3] at hP hD
  have hP : va_P D wq_cl [(h0, .inr (4, [.ref q1, .int 0, .int 0, .ref q2, .null, .null, .null, .null, .int 0])), (q1, .inl (cI, 8, .inl (fun _ => 0))), (q2, .inl (cI, 1095, .inl (fun _ => 0))), (q3, .inl (cI, 1095, .inl (fun _ => 0)))] H := hP
  have hD : va_D A [(h0, .inr (4, [.ref q1, .int 0, .int 0, .ref q2, .null, .null, .null, .null, .int 0])), (q1, .inl (cI, 8, .inl (fun _ => 0))), (q2, .inl (cI, 1095, .inl (fun _ => 0))), (q3, .inl (cI, 1095, .inl (fun _ => 0)))] := hD
  refine W.widen (k := 3) (n := 2198) (by omega) (by omega) ?_
  refine va_put (D := D) (ci := 4) (v := .ref q3) (ty := .array .int) (C := RX4) (T := TX4) (N := 9) hx hb hts in_X4 tyX4 tyX4_ok nmX4 hown hK hP hD hS 0 rfl rfl 4 (by decide) (hts _ tw_155) (fun _ h9 => h9) rfl (by decide +kernel) rfl rfl (Nat.le_of_ble_eq_true rfl) dX4_init_27 (fun H locs hP hD hS => ?_)
  have hP : va_P D wq_cl [(h0, .inr (4, [.ref q1, .int 0, .int 0, .ref q2, .ref q3, .null, .null, .null, .int 0])), (q1, .inl (cI, 8, .inl (fun _ => 0))), (q2, .inl (cI, 1095, .inl (fun _ => 0))), (q3, .inl (cI, 1095, .inl (fun _ => 0)))] H := hP
  have hD : va_D A [(h0, .inr (4, [.ref q1, .int 0, .int 0, .ref q2, .ref q3, .null, .null, .null, .int 0])), (q1, .inl (cI, 8, .inl (fun _ => 0))), (q2, .inl (cI, 1095, .inl (fun _ => 0))), (q3, .inl (cI, 1095, .inl (fun _ => 0)))] := hD
  refine lv_aload_n hx hb dX4_init_30 rfl (lv_at hl 0 rfl) ?_
  refine lv_bipush (v := 73) hx hb dX4_init_31 (by decide) ?_
  refine va_newa (a0 := (73, .inl (fun _ => 0))) (ty := .int) hx hb (hts _ (tb_1 50 rfl rfl)) rfl hK hP hD hS hA (N' := 73) (fun _ => rfl) (by decide) (by decide) (by decide) (by decide) (by decide) dX4_init_33 (fun q4 cA4 H hKn hP hD hS => ?_)
  have e4 : cA4 = cI := RA_one hKn 1 0 rfl rfl
  rw [e4] at hP hD
  have hP : va_P D wq_cl [(h0, .inr (4, [.ref q1, .int 0, .int 0, .ref q2, .ref q3, .null, .null, .null, .int 0])), (q1, .inl (cI, 8, .inl (fun _ => 0))), (q2, .inl (cI, 1095, .inl (fun _ => 0))), (q3, .inl (cI, 1095, .inl (fun _ => 0))), (q4, .inl (cI, 73, .inl (fun _ => 0)))] H := hP
  have hD : va_D A [(h0, .inr (4, [.ref q1, .int 0, .int 0, .ref q2, .ref q3, .null, .null, .null, .int 0])), (q1, .inl (cI, 8, .inl (fun _ => 0))), (q2, .inl (cI, 1095, .inl (fun _ => 0))), (q3, .inl (cI, 1095, .inl (fun _ => 0))), (q4, .inl (cI, 73, .inl (fun _ => 0)))] := hD
  refine W.widen (k := 4) (n := 2271) (by omega) (by omega) ?_
  refine va_put (D := D) (ci := 4) (v := .ref q4) (ty := .array .int) (C := RX4) (T := TX4) (N := 9) hx hb hts in_X4 tyX4 tyX4_ok nmX4 hown hK hP hD hS 0 rfl rfl 5 (by decide) (hts _ tw_156) (fun _ h9 => h9) rfl (by decide +kernel) rfl rfl (Nat.le_of_ble_eq_true rfl) dX4_init_35 (fun H locs hP hD hS => ?_)
  have hP : va_P D wq_cl [(h0, .inr (4, [.ref q1, .int 0, .int 0, .ref q2, .ref q3, .ref q4, .null, .null, .int 0])), (q1, .inl (cI, 8, .inl (fun _ => 0))), (q2, .inl (cI, 1095, .inl (fun _ => 0))), (q3, .inl (cI, 1095, .inl (fun _ => 0))), (q4, .inl (cI, 73, .inl (fun _ => 0)))] H := hP
  have hD : va_D A [(h0, .inr (4, [.ref q1, .int 0, .int 0, .ref q2, .ref q3, .ref q4, .null, .null, .int 0])), (q1, .inl (cI, 8, .inl (fun _ => 0))), (q2, .inl (cI, 1095, .inl (fun _ => 0))), (q3, .inl (cI, 1095, .inl (fun _ => 0))), (q4, .inl (cI, 73, .inl (fun _ => 0)))] := hD
  refine lv_aload_n hx hb dX4_init_38 rfl (lv_at hl 0 rfl) ?_
  refine lv_bipush (v := 73) hx hb dX4_init_39 (by decide) ?_
  refine va_newa (a0 := (73, .inl (fun _ => 0))) (ty := .int) hx hb (hts _ (tb_1 50 rfl rfl)) rfl hK hP hD hS hA (N' := 73) (fun _ => rfl) (by decide) (by decide) (by decide) (by decide) (by decide) dX4_init_41 (fun q5 cA5 H hKn hP hD hS => ?_)
  have e5 : cA5 = cI := RA_one hKn 1 0 rfl rfl
  rw [e5] at hP hD
  have hP : va_P D wq_cl [(h0, .inr (4, [.ref q1, .int 0, .int 0, .ref q2, .ref q3, .ref q4, .null, .null, .int 0])), (q1, .inl (cI, 8, .inl (fun _ => 0))), (q2, .inl (cI, 1095, .inl (fun _ => 0))), (q3, .inl (cI, 1095, .inl (fun _ => 0))), (q4, .inl (cI, 73, .inl (fun _ => 0))), (q5, .inl (cI, 73, .inl (fun _ => 0)))] H := hP
  have hD : va_D A [(h0, .inr (4, [.ref q1, .int 0, .int 0, .ref q2, .ref q3, .ref q4, .null, .null, .int 0])), (q1, .inl (cI, 8, .inl (fun _ => 0))), (q2, .inl (cI, 1095, .inl (fun _ => 0))), (q3, .inl (cI, 1095, .inl (fun _ => 0))), (q4, .inl (cI, 73, .inl (fun _ => 0))), (q5, .inl (cI, 73, .inl (fun _ => 0)))] := hD
  refine W.widen (k := 5) (n := 2344) (by omega) (by omega) ?_
  refine va_put (D := D) (ci := 4) (v := .ref q5) (ty := .array .int) (C := RX4) (T := TX4) (N := 9) hx hb hts in_X4 tyX4 tyX4_ok nmX4 hown hK hP hD hS 0 rfl rfl 6 (by decide) (hts _ tw_157) (fun _ h9 => h9) rfl (by decide +kernel) rfl rfl (Nat.le_of_ble_eq_true rfl) dX4_init_43 (fun H locs hP hD hS => ?_)
  have hP : va_P D wq_cl [(h0, .inr (4, [.ref q1, .int 0, .int 0, .ref q2, .ref q3, .ref q4, .ref q5, .null, .int 0])), (q1, .inl (cI, 8, .inl (fun _ => 0))), (q2, .inl (cI, 1095, .inl (fun _ => 0))), (q3, .inl (cI, 1095, .inl (fun _ => 0))), (q4, .inl (cI, 73, .inl (fun _ => 0))), (q5, .inl (cI, 73, .inl (fun _ => 0)))] H := hP
  have hD : va_D A [(h0, .inr (4, [.ref q1, .int 0, .int 0, .ref q2, .ref q3, .ref q4, .ref q5, .null, .int 0])), (q1, .inl (cI, 8, .inl (fun _ => 0))), (q2, .inl (cI, 1095, .inl (fun _ => 0))), (q3, .inl (cI, 1095, .inl (fun _ => 0))), (q4, .inl (cI, 73, .inl (fun _ => 0))), (q5, .inl (cI, 73, .inl (fun _ => 0)))] := hD
  exact W.vret hx hb hr (fun t ht hW => ⟨⟨(q1, q2, q3, q4, q5), rfl, trivial, by rw [ht]; exact hP, va_K.moved hW.alike hK, hD⟩, hS.F ht⟩) hS.2.2 dX4_init_46
def lsX5 (cI : ClassId) (h0 : Nat) (u : Nat × Nat × Nat × Nat) : va_W := [(h0, .inr (5, [.int 0, .int 0, .ref u.1, .ref u.2.1, .ref u.2.2.1, .ref u.2.2.2])), (u.1, .inl (cI, 4, .inl (fun _ => 0))), (u.2.1, .inl (cI, 5, .inl (fun _ => 0))), (u.2.2.1, .inl (cI, 25, .inl (fun _ => 0))), (u.2.2.2, .inl (cI, 8, .inl (fun _ => 0)))]
set_option maxHeartbeats 4000000 in
set_option maxRecDepth 100000 in
theorem ciX5 (l : Launch) (D : va_G) (cI : ClassId) (h0 sz : Nat) : Met l yX5_init (Cond.code yX5_init cX5_init 1 none :: wq_TB) ({ frames := 1, cells := 4, slots := 42, locals := 12 }) (va_Pc [.ref h0] (fun U => U.heap.size = sz ∧ va_P D wq_cl [(h0, .inr (5, [.int 0, .int 0, .null, .null, .null, .null]))] U.heap ∧ va_K D wq_cl [(cI, .int)] U ∧ va_D (fun _ => True) [(h0, .inr (5, [.int 0, .int 0, .null, .null, .null, .null]))])) (va_Qv (fun _ : Nat × Nat × Nat × Nat => True) (fun u t => va_P D wq_cl (lsX5 cI h0 u) t.heap ∧ va_K D wq_cl [(cI, .int)] t ∧ va_D (va_A [(h0, .inr (5, [.int 0, .int 0, .null, .null, .null, .null]))] sz) (lsX5 cI h0 u)) (va_A [(h0, .inr (5, [.int 0, .int 0, .null, .null, .null, .null]))] sz)) 4 42 (va_A [(h0, .inr (5, [.int 0, .int 0, .null, .null, .null, .null]))] sz) := by
  refine Met.ofW (cc := cX5_init) (maxL := 1) (ret := none) (by decide +kernel) rfl ?_
  intro p e s m args below meth c s₁ B hml hv
  obtain ⟨rfl, hsz, hP, hK, hD0⟩ := hv
  have hx := B.exec
  have hb := B.bytes
  have hr := B.returns
  have hts : ∀ w ∈ wq_TB, w.before #[Value.ref h0] s = true := fun w hw => atoms_spec (ws := Cond.code yX5_init cX5_init 1 none :: wq_TB) B.pre w (List.mem_cons_of_mem _ hw)
  have hown : s.vm.findClass RX5 = some m.cls := findClass_of_methodNamed B.named
  have hin : meth.name = "<init>" := (name_of_methodNamed B.named B.method).1
  subst hsz
  have hD := hD0.self (sz := s.heap.size)
  generalize hAe : va_A [(h0, .inr (5, [.int 0, .int 0, .null, .null, .null, .null]))] s.heap.size = A at hD ⊢
  have hA : ∀ q : Nat, s.heap.size ≤ q → A q := fun q h => by rw [← hAe]; exact Or.inr h
  have hS : va_S A s.heap s.heap [] := va_S.rf
  have hP : va_P D wq_cl [(h0, .inr (5, [.int 0, .int 0, .null, .null, .null, .null]))] s.heap := hP
  have hl := lv_entry ([.ref h0]) (n := 1) (Nat.le_of_ble_eq_true rfl)
  rw [lg_entry_eq]
  generalize (lg_sl ([.ref h0]) ++ List.replicate (1 - (lg_sl ([.ref h0])).length) Slot.unset).toArray = ls at hl ⊢
  have hl : lv_has ls 1 [(0, .ref h0)] := hl
  refine lv_aload_n hx hb dX5_init_0 rfl (lv_at hl 0 rfl) ?_
  refine W.objInit hx hb hown (hts _ tw_106) (hts _ tw_68) (hts _ tw_69) rfl (by rw [hml]; exact hl.1) rfl dX5_init_1 (Nat.le_of_ble_eq_true rfl) (Nat.le_of_ble_eq_true rfl) ?_
  refine W.eq (g2 := F0 m 4 ls []) rfl ?_
  refine lv_aload_n hx hb dX5_init_4 rfl (lv_at hl 0 rfl) ?_
  refine lv_iconst (v := 4) hx hb dX5_init_5 (by decide) ?_
  refine va_newa (a0 := (4, .inl (fun _ => 0))) (ty := .int) hx hb (hts _ (tb_1 50 rfl rfl)) rfl hK hP hD hS hA (N' := 4) (fun _ => rfl) (by decide) (by decide) (by decide) (by decide) (by decide) dX5_init_6 (fun q1 cA1 H hKn hP hD hS => ?_)
  have e1 : cA1 = cI := RA_one hKn 1 0 rfl rfl
  rw [e1] at hP hD
  have hP : va_P D wq_cl [(h0, .inr (5, [.int 0, .int 0, .null, .null, .null, .null])), (q1, .inl (cI, 4, .inl (fun _ => 0)))] H := hP
  have hD : va_D A [(h0, .inr (5, [.int 0, .int 0, .null, .null, .null, .null])), (q1, .inl (cI, 4, .inl (fun _ => 0)))] := hD
  refine W.widen (k := 1) (n := 4) (by omega) (by omega) ?_
  refine va_putF (D := D) (ci := 5) (v := .ref q1) (ty := .array .int) (C := RX5) (T := TX5) (N := 6) hx hb hts in_X5 tyX5 tyX5_ok nmX5 hown hK hP hD hS 0 rfl rfl 2 (by decide) (hts _ tw_115) (fun _ h9 => h9) rfl hin rfl (by decide +kernel) rfl rfl (Nat.le_of_ble_eq_true rfl) dX5_init_8 (fun H locs hP hD hS => ?_)
  have hP : va_P D wq_cl [(h0, .inr (5, [.int 0, .int 0, .ref q1, .null, .null, .null])), (q1, .inl (cI, 4, .inl (fun _ => 0)))] H := hP
  have hD : va_D A [(h0, .inr (5, [.int 0, .int 0, .ref q1, .null, .null, .null])), (q1, .inl (cI, 4, .inl (fun _ => 0)))] := hD
  refine lv_aload_n hx hb dX5_init_11 rfl (lv_at hl 0 rfl) ?_
  refine lv_iconst (v := 5) hx hb dX5_init_12 (by decide) ?_
  refine va_newa (a0 := (5, .inl (fun _ => 0))) (ty := .int) hx hb (hts _ (tb_1 50 rfl rfl)) rfl hK hP hD hS hA (N' := 5) (fun _ => rfl) (by decide) (by decide) (by decide) (by decide) (by decide) dX5_init_13 (fun q2 cA2 H hKn hP hD hS => ?_)
  have e2 : cA2 = cI := RA_one hKn 1 0 rfl rfl
  rw [e2] at hP hD
  have hP : va_P D wq_cl [(h0, .inr (5, [.int 0, .int 0, .ref q1, .null, .null, .null])), (q1, .inl (cI, 4, .inl (fun _ => 0))), (q2, .inl (cI, 5, .inl (fun _ => 0)))] H := hP
  have hD : va_D A [(h0, .inr (5, [.int 0, .int 0, .ref q1, .null, .null, .null])), (q1, .inl (cI, 4, .inl (fun _ => 0))), (q2, .inl (cI, 5, .inl (fun _ => 0)))] := hD
  refine W.widen (k := 2) (n := 9) (by omega) (by omega) ?_
  refine va_putF (D := D) (ci := 5) (v := .ref q2) (ty := .array .int) (C := RX5) (T := TX5) (N := 6) hx hb hts in_X5 tyX5 tyX5_ok nmX5 hown hK hP hD hS 0 rfl rfl 3 (by decide) (hts _ tw_120) (fun _ h9 => h9) rfl hin rfl (by decide +kernel) rfl rfl (Nat.le_of_ble_eq_true rfl) dX5_init_15 (fun H locs hP hD hS => ?_)
  have hP : va_P D wq_cl [(h0, .inr (5, [.int 0, .int 0, .ref q1, .ref q2, .null, .null])), (q1, .inl (cI, 4, .inl (fun _ => 0))), (q2, .inl (cI, 5, .inl (fun _ => 0)))] H := hP
  have hD : va_D A [(h0, .inr (5, [.int 0, .int 0, .ref q1, .ref q2, .null, .null])), (q1, .inl (cI, 4, .inl (fun _ => 0))), (q2, .inl (cI, 5, .inl (fun _ => 0)))] := hD
  refine lv_aload_n hx hb dX5_init_18 rfl (lv_at hl 0 rfl) ?_
  refine lv_bipush (v := 25) hx hb dX5_init_19 (by decide) ?_
  refine va_newa (a0 := (25, .inl (fun _ => 0))) (ty := .int) hx hb (hts _ (tb_1 50 rfl rfl)) rfl hK hP hD hS hA (N' := 25) (fun _ => rfl) (by decide) (by decide) (by decide) (by decide) (by decide) dX5_init_21 (fun q3 cA3 H hKn hP hD hS => ?_)
  have e3 : cA3 = cI := RA_one hKn 1 0 rfl rfl
  rw [e3] at hP hD
  have hP : va_P D wq_cl [(h0, .inr (5, [.int 0, .int 0, .ref q1, .ref q2, .null, .null])), (q1, .inl (cI, 4, .inl (fun _ => 0))), (q2, .inl (cI, 5, .inl (fun _ => 0))), (q3, .inl (cI, 25, .inl (fun _ => 0)))] H := hP
  have hD : va_D A [(h0, .inr (5, [.int 0, .int 0, .ref q1, .ref q2, .null, .null])), (q1, .inl (cI, 4, .inl (fun _ => 0))), (q2, .inl (cI, 5, .inl (fun _ => 0))), (q3, .inl (cI, 25, .inl (fun _ => 0)))] := hD
  refine W.widen (k := 3) (n := 34) (by omega) (by omega) ?_
  refine va_putF (D := D) (ci := 5) (v := .ref q3) (ty := .array .int) (C := RX5) (T := TX5) (N := 6) hx hb hts in_X5 tyX5 tyX5_ok nmX5 hown hK hP hD hS 0 rfl rfl 4 (by decide) (hts _ tw_124) (fun _ h9 => h9) rfl hin rfl (by decide +kernel) rfl rfl (Nat.le_of_ble_eq_true rfl) dX5_init_23 (fun H locs hP hD hS => ?_)
  have hP : va_P D wq_cl [(h0, .inr (5, [.int 0, .int 0, .ref q1, .ref q2, .ref q3, .null])), (q1, .inl (cI, 4, .inl (fun _ => 0))), (q2, .inl (cI, 5, .inl (fun _ => 0))), (q3, .inl (cI, 25, .inl (fun _ => 0)))] H := hP
  have hD : va_D A [(h0, .inr (5, [.int 0, .int 0, .ref q1, .ref q2, .ref q3, .null])), (q1, .inl (cI, 4, .inl (fun _ => 0))), (q2, .inl (cI, 5, .inl (fun _ => 0))), (q3, .inl (cI, 25, .inl (fun _ => 0)))] := hD
  refine lv_aload_n hx hb dX5_init_26 rfl (lv_at hl 0 rfl) ?_
  refine lv_bipush (v := 8) hx hb dX5_init_27 (by decide) ?_
  refine va_newa (a0 := (8, .inl (fun _ => 0))) (ty := .int) hx hb (hts _ (tb_1 50 rfl rfl)) rfl hK hP hD hS hA (N' := 8) (fun _ => rfl) (by decide) (by decide) (by decide) (by decide) (by decide) dX5_init_29 (fun q4 cA4 H hKn hP hD hS => ?_)
  have e4 : cA4 = cI := RA_one hKn 1 0 rfl rfl
  rw [e4] at hP hD
  have hP : va_P D wq_cl [(h0, .inr (5, [.int 0, .int 0, .ref q1, .ref q2, .ref q3, .null])), (q1, .inl (cI, 4, .inl (fun _ => 0))), (q2, .inl (cI, 5, .inl (fun _ => 0))), (q3, .inl (cI, 25, .inl (fun _ => 0))), (q4, .inl (cI, 8, .inl (fun _ => 0)))] H := hP
  have hD : va_D A [(h0, .inr (5, [.int 0, .int 0, .ref q1, .ref q2, .ref q3, .null])), (q1, .inl (cI, 4, .inl (fun _ => 0))), (q2, .inl (cI, 5, .inl (fun _ => 0))), (q3, .inl (cI, 25, .inl (fun _ => 0))), (q4, .inl (cI, 8, .inl (fun _ => 0)))] := hD
  refine W.widen (k := 4) (n := 42) (by omega) (by omega) ?_
  refine va_putF (D := D) (ci := 5) (v := .ref q4) (ty := .array .int) (C := RX5) (T := TX5) (N := 6) hx hb hts in_X5 tyX5 tyX5_ok nmX5 hown hK hP hD hS 0 rfl rfl 5 (by decide) (hts _ tw_125) (fun _ h9 => h9) rfl hin rfl (by decide +kernel) rfl rfl (Nat.le_of_ble_eq_true rfl) dX5_init_31 (fun H locs hP hD hS => ?_)
  have hP : va_P D wq_cl [(h0, .inr (5, [.int 0, .int 0, .ref q1, .ref q2, .ref q3, .ref q4])), (q1, .inl (cI, 4, .inl (fun _ => 0))), (q2, .inl (cI, 5, .inl (fun _ => 0))), (q3, .inl (cI, 25, .inl (fun _ => 0))), (q4, .inl (cI, 8, .inl (fun _ => 0)))] H := hP
  have hD : va_D A [(h0, .inr (5, [.int 0, .int 0, .ref q1, .ref q2, .ref q3, .ref q4])), (q1, .inl (cI, 4, .inl (fun _ => 0))), (q2, .inl (cI, 5, .inl (fun _ => 0))), (q3, .inl (cI, 25, .inl (fun _ => 0))), (q4, .inl (cI, 8, .inl (fun _ => 0)))] := hD
  exact W.vret hx hb hr (fun t ht hW => ⟨⟨(q1, q2, q3, q4), rfl, trivial, by rw [ht]; exact hP, va_K.moved hW.alike hK, hD⟩, hS.F ht⟩) hS.2.2 dX5_init_34
