def wq_Mr0 : wq_M := (fun p => if p = 1 then (upd (upd (upd (upd (upd (upd (upd (upd (fun _ => 0) 0 (-1)) 1 (-1)) 2 (-1)) 3 (-1)) 4 (-1)) 5 (-1)) 6 (-1)) 7 (-1)) else (fun _ => 0), fun _ _ => none)
def wq_Er (D : va_G) (cI cZ cR cW : ClassId) (ts : Nat → Nat) (h0 : Nat) (u : Nat × Nat × Nat × Nat × Nat × Nat × Nat × Nat × Nat × Nat × Nat × Nat × Nat × Nat) : wq_E := (D, fun p => ([h0, u.1, u.2.1, u.2.2.1, u.2.2.2.1, u.2.2.2.2.1, u.2.2.2.2.2.1, u.2.2.2.2.2.2.1, u.2.2.2.2.2.2.2.1, u.2.2.2.2.2.2.2.2.1, u.2.2.2.2.2.2.2.2.2.1, u.2.2.2.2.2.2.2.2.2.2.1, u.2.2.2.2.2.2.2.2.2.2.2.1, u.2.2.2.2.2.2.2.2.2.2.2.2.1, u.2.2.2.2.2.2.2.2.2.2.2.2.2] : List Nat).getD p 0, fun k => if k = 0 then cI else if k = 1 then cZ else if k = 2 then cR else cW, ts)
set_option maxHeartbeats 4000000 in
set_option maxRecDepth 100000 in
theorem model_at {D : va_G} {H : Heap} {cI cZ cR cW : ClassId} {ts : Nat → Nat} {h0 : Nat} {u : Nat × Nat × Nat × Nat × Nat × Nat × Nat × Nat × Nat × Nat × Nat × Nat × Nat × Nat} (hP : va_P D wq_cl (lsX7 cI cZ h0 u) H) : ∀ k, k < 15 → va_at D wq_cl ((wq_Er D cI cZ cR cW ts h0 u).2.1 k, wq_ce (wq_Er D cI cZ cR cW ts h0 u) wq_yR wq_Mr0 k) H
  | 0, _ => hP 0 _ rfl
  | 1, _ => hP 1 _ rfl
  | 2, _ => hP 2 _ rfl
  | 3, _ => hP 3 _ rfl
  | 4, _ => hP 4 _ rfl
  | 5, _ => hP 5 _ rfl
  | 6, _ => hP 6 _ rfl
  | 7, _ => hP 7 _ rfl
  | 8, _ => hP 8 _ rfl
  | 9, _ => hP 9 _ rfl
  | 10, _ => hP 10 _ rfl
  | 11, _ => hP 11 _ rfl
  | 12, _ => hP 12 _ rfl
  | 13, _ => hP 13 _ rfl
  | 14, _ => hP 14 _ rfl
  | k + 15, h => absurd h (by omega)
theorem model_P {D : va_G} {H : Heap} {cI cZ cR cW : ClassId} {ts : Nat → Nat} {h0 : Nat} {u : Nat × Nat × Nat × Nat × Nat × Nat × Nat × Nat × Nat × Nat × Nat × Nat × Nat × Nat} (hP : va_P D wq_cl (lsX7 cI cZ h0 u) H) : va_P D wq_cl (wq_ws (wq_Er D cI cZ cR cW ts h0 u) wq_yR wq_Mr0) H := fun k q hk => by
  obtain ⟨h1, rfl⟩ := wq_ws_inv hk
  exact model_at hP k h1
theorem model_key {D : va_G} {cI cZ cR cW : ClassId} {ts : Nat → Nat} {h0 : Nat} {u : Nat × Nat × Nat × Nat × Nat × Nat × Nat × Nat × Nat × Nat × Nat × Nat × Nat × Nat} : ∀ k, k < 15 → ∃ e, (lsX7 cI cZ h0 u)[k]? = some ((wq_Er D cI cZ cR cW ts h0 u).2.1 k, e)
  | 0, _ => ⟨_, rfl⟩
  | 1, _ => ⟨_, rfl⟩
  | 2, _ => ⟨_, rfl⟩
  | 3, _ => ⟨_, rfl⟩
  | 4, _ => ⟨_, rfl⟩
  | 5, _ => ⟨_, rfl⟩
  | 6, _ => ⟨_, rfl⟩
  | 7, _ => ⟨_, rfl⟩
  | 8, _ => ⟨_, rfl⟩
  | 9, _ => ⟨_, rfl⟩
  | 10, _ => ⟨_, rfl⟩
  | 11, _ => ⟨_, rfl⟩
  | 12, _ => ⟨_, rfl⟩
  | 13, _ => ⟨_, rfl⟩
  | 14, _ => ⟨_, rfl⟩
  | k + 15, h => absurd h (by omega)
theorem Inv_0 : Inv wq_Mc0 wq_Mr0 := by
  have hz : ∀ p j, p ≠ 1 → wq_Mr0.1 p j = 0 := fun p j hp => by
    simp only [wq_Mr0]
    rw [if_neg hp]
  have hc : ∀ p j, 18 ≤ p → wq_Mc0.1 p j = 0 := fun p j hp => by
    simp only [wq_Mc0]
    rw [if_neg (by omega)]
  refine ⟨fun k => if 36 ≤ k then 1 else 0, ⟨Or.inl ⟨rfl, rfl⟩, ⟨?_, ?_, ?_, ?_, ?_, ?_, fun g hg => by simp at hg, fun g hg => by simp at hg, fun s hs => ?_⟩, ⟨fun k hk => ?_, fun s hs => ?_⟩⟩, ⟨0, fun _ => _, by omega, ?_, ?_, rfl, fun i hi => by omega⟩, fun r hr => Or.inl ⟨?_, ?_⟩, ⟨0, by omega, ?_, ?_, fun j hj => by omega⟩, ?_, ?_, fun k hk => Or.inl ⟨?_, ?_⟩, ⟨0, by omega, ?_, ?_, fun j hj => by omega⟩, ?_⟩
  · rw [hc _ _ (by omega)]; rfl
  · rw [hc _ _ (by omega)]; rfl
  · rw [hc _ _ (by omega)]; rfl
  · rw [hc _ _ (by omega)]; rfl
  · rw [hc _ _ (by omega)]; rfl
  · rw [hc _ _ (by omega)]; rfl
  · rw [hc _ _ (by omega)]
    show (0 : Int32) = nI (if 36 ≤ 36 + s then 1 else 0) - 1
    rw [if_pos (by omega)]
    rfl
  · rw [hz _ _ (by omega)]
    show (0 : Int32) = nI (if 36 ≤ k then 1 else 0)
    rw [if_neg (by omega)]
    rfl
  · rw [hz _ _ (by omega)]
    show (0 : Int32) = nI (if 36 ≤ 36 + s then 1 else 0) - 1
    rw [if_pos (by omega)]
    rfl
  · rw [hc _ _ (by omega)]; rfl
  · rw [hz _ _ (by omega)]; rfl
  · simp only [wq_Mc0]
    rw [if_pos (by omega)]
    rfl
  · match r, hr with
    | 0, _ => rfl
    | 1, _ => rfl
    | 2, _ => rfl
    | 3, _ => rfl
    | 4, _ => rfl
    | 5, _ => rfl
    | 6, _ => rfl
    | 7, _ => rfl
    | r + 8, hr => exact absurd hr (by omega)
  · rw [hc _ _ (by omega)]; rfl
  · rw [hz _ _ (by omega)]; rfl
  · show wq_Mc0.1 0 8 = wq_Mr0.1 0 1
    rw [hz _ _ (by omega)]
    rfl
  · show wq_Mc0.1 18 3 = wq_Mr0.1 0 18
    rw [hz _ _ (by omega), hc _ _ (by omega)]
  · rw [hc _ _ (by omega)]
  · rw [hz _ _ (by omega)]
  · rw [hc _ _ (by omega)]; rfl
  · rw [hz _ _ (by omega)]; rfl
  · exact ⟨Or.inl ⟨rfl, rfl⟩, Or.inl ⟨rfl, rfl⟩⟩
set_option maxHeartbeats 4000000 in
set_option maxRecDepth 100000 in
theorem st_T {args : Array Value} {s : State} (h : (Jvm.Cond.and given_1 narrow_1).before args s = true) : ∀ k, k < 6 → ∃ t : Nat, (Term.static (wq_sn k).1 (wq_sn k).2 "[I").eval args s none [] s = some (.ref t) ∧ va_T .int t (wq_sl k) (fun j => .int (wq_sf k j)) (fun q => s.heap.size ≤ q) s s.heap := by
  have hs := flat_of_before _ h
  intro k hk
  match k, hk with
  | 0, _ =>
    obtain ⟨t, h1, h2⟩ := va_Tof (tm := .static "WellPipes" "RULE_LOW" "[I") (ty := .int) (N := 4) (f := fun j => .int (wq_sf 0 j)) (A := fun q => s.heap.size ≤ q) (by omega) (hs (.arrayOf (.static "WellPipes" "RULE_LOW" "[I") .int) (by decide +kernel)) (va_eqt (z := 4) (hs (.eq (.length (.static "WellPipes" "RULE_LOW" "[I")) (.int 4)) (by decide +kernel))) (fun j hj => by
      match j, hj with
      | 0, _ => exact va_eqt (z := 0) (hs (.eq (.elem (.static "WellPipes" "RULE_LOW" "[I") (.int 0)) (.int 0)) (by decide +kernel))
      | 1, _ => exact va_eqt (z := 0) (hs (.eq (.elem (.static "WellPipes" "RULE_LOW" "[I") (.int 1)) (.int 0)) (by decide +kernel))
      | 2, _ => exact va_eqt (z := 0) (hs (.eq (.elem (.static "WellPipes" "RULE_LOW" "[I") (.int 2)) (.int 0)) (by decide +kernel))
      | 3, _ => exact va_eqt (z := 1) (hs (.eq (.elem (.static "WellPipes" "RULE_LOW" "[I") (.int 3)) (.int 1)) (by decide +kernel))
      | j + 4, hj => exact absurd hj (by omega)) (fun a ha => Nat.not_le.mpr ha)
    exact ⟨t, h1, h2⟩
  | 1, _ =>
    obtain ⟨t, h1, h2⟩ := va_Tof (tm := .static "WellPipes" "RULE_HIGH" "[I") (ty := .int) (N := 4) (f := fun j => .int (wq_sf 1 j)) (A := fun q => s.heap.size ≤ q) (by omega) (hs (.arrayOf (.static "WellPipes" "RULE_HIGH" "[I") .int) (by decide +kernel)) (va_eqt (z := 4) (hs (.eq (.length (.static "WellPipes" "RULE_HIGH" "[I")) (.int 4)) (by decide +kernel))) (fun j hj => by
      match j, hj with
      | 0, _ => exact va_eqt (z := 20) (hs (.eq (.elem (.static "WellPipes" "RULE_HIGH" "[I") (.int 0)) (.int 20)) (by decide +kernel))
      | 1, _ => exact va_eqt (z := 99) (hs (.eq (.elem (.static "WellPipes" "RULE_HIGH" "[I") (.int 1)) (.int 99)) (by decide +kernel))
      | 2, _ => exact va_eqt (z := 20) (hs (.eq (.elem (.static "WellPipes" "RULE_HIGH" "[I") (.int 2)) (.int 20)) (by decide +kernel))
      | 3, _ => exact va_eqt (z := 3) (hs (.eq (.elem (.static "WellPipes" "RULE_HIGH" "[I") (.int 3)) (.int 3)) (by decide +kernel))
      | j + 4, hj => exact absurd hj (by omega)) (fun a ha => Nat.not_le.mpr ha)
    exact ⟨t, h1, h2⟩
  | 2, _ =>
    obtain ⟨t, h1, h2⟩ := va_Tof (tm := .static "WellPipes" "FIGURE_HIGH" "[I") (ty := .int) (N := 5) (f := fun j => .int (wq_sf 2 j)) (A := fun q => s.heap.size ≤ q) (by omega) (hs (.arrayOf (.static "WellPipes" "FIGURE_HIGH" "[I") .int) (by decide +kernel)) (va_eqt (z := 5) (hs (.eq (.length (.static "WellPipes" "FIGURE_HIGH" "[I")) (.int 5)) (by decide +kernel))) (fun j hj => by
      match j, hj with
      | 0, _ => exact va_eqt (z := 99) (hs (.eq (.elem (.static "WellPipes" "FIGURE_HIGH" "[I") (.int 0)) (.int 99)) (by decide +kernel))
      | 1, _ => exact va_eqt (z := 99) (hs (.eq (.elem (.static "WellPipes" "FIGURE_HIGH" "[I") (.int 1)) (.int 99)) (by decide +kernel))
      | 2, _ => exact va_eqt (z := 99) (hs (.eq (.elem (.static "WellPipes" "FIGURE_HIGH" "[I") (.int 2)) (.int 99)) (by decide +kernel))
      | 3, _ => exact va_eqt (z := 9) (hs (.eq (.elem (.static "WellPipes" "FIGURE_HIGH" "[I") (.int 3)) (.int 9)) (by decide +kernel))
      | 4, _ => exact va_eqt (z := 99) (hs (.eq (.elem (.static "WellPipes" "FIGURE_HIGH" "[I") (.int 4)) (.int 99)) (by decide +kernel))
      | j + 5, hj => exact absurd hj (by omega)) (fun a ha => Nat.not_le.mpr ha)
    exact ⟨t, h1, h2⟩
  | 3, _ =>
    obtain ⟨t, h1, h2⟩ := va_Tof (tm := .static "WellPipes" "WIDER_KIND" "[I") (ty := .int) (N := 6) (f := fun j => .int (wq_sf 3 j)) (A := fun q => s.heap.size ≤ q) (by omega) (hs (.arrayOf (.static "WellPipes" "WIDER_KIND" "[I") .int) (by decide +kernel)) (va_eqt (z := 6) (hs (.eq (.length (.static "WellPipes" "WIDER_KIND" "[I")) (.int 6)) (by decide +kernel))) (fun j hj => by
      match j, hj with
      | 0, _ => exact va_eqt (z := 0) (hs (.eq (.elem (.static "WellPipes" "WIDER_KIND" "[I") (.int 0)) (.int 0)) (by decide +kernel))
      | 1, _ => exact va_eqt (z := 0) (hs (.eq (.elem (.static "WellPipes" "WIDER_KIND" "[I") (.int 1)) (.int 0)) (by decide +kernel))
      | 2, _ => exact va_eqt (z := 1) (hs (.eq (.elem (.static "WellPipes" "WIDER_KIND" "[I") (.int 2)) (.int 1)) (by decide +kernel))
      | 3, _ => exact va_eqt (z := 1) (hs (.eq (.elem (.static "WellPipes" "WIDER_KIND" "[I") (.int 3)) (.int 1)) (by decide +kernel))
      | 4, _ => exact va_eqt (z := 0) (hs (.eq (.elem (.static "WellPipes" "WIDER_KIND" "[I") (.int 4)) (.int 0)) (by decide +kernel))
      | 5, _ => exact va_eqt (z := 4) (hs (.eq (.elem (.static "WellPipes" "WIDER_KIND" "[I") (.int 5)) (.int 4)) (by decide +kernel))
      | j + 6, hj => exact absurd hj (by omega)) (fun a ha => Nat.not_le.mpr ha)
    exact ⟨t, h1, h2⟩
  | 4, _ =>
    obtain ⟨t, h1, h2⟩ := va_Tof (tm := .static "WellPipes$Asks" "SIZE_BODIES" "[I") (ty := .int) (N := 6) (f := fun j => .int (wq_sf 4 j)) (A := fun q => s.heap.size ≤ q) (by omega) (hs (.arrayOf (.static "WellPipes$Asks" "SIZE_BODIES" "[I") .int) (by decide +kernel)) (va_eqt (z := 6) (hs (.eq (.length (.static "WellPipes$Asks" "SIZE_BODIES" "[I")) (.int 6)) (by decide +kernel))) (fun j hj => by
      match j, hj with
      | 0, _ => exact va_eqt (z := 10) (hs (.eq (.elem (.static "WellPipes$Asks" "SIZE_BODIES" "[I") (.int 0)) (.int 10)) (by decide +kernel))
      | 1, _ => exact va_eqt (z := 11) (hs (.eq (.elem (.static "WellPipes$Asks" "SIZE_BODIES" "[I") (.int 1)) (.int 11)) (by decide +kernel))
      | 2, _ => exact va_eqt (z := 12) (hs (.eq (.elem (.static "WellPipes$Asks" "SIZE_BODIES" "[I") (.int 2)) (.int 12)) (by decide +kernel))
      | 3, _ => exact va_eqt (z := 11) (hs (.eq (.elem (.static "WellPipes$Asks" "SIZE_BODIES" "[I") (.int 3)) (.int 11)) (by decide +kernel))
      | 4, _ => exact va_eqt (z := 13) (hs (.eq (.elem (.static "WellPipes$Asks" "SIZE_BODIES" "[I") (.int 4)) (.int 13)) (by decide +kernel))
      | 5, _ => exact va_eqt (z := 14) (hs (.eq (.elem (.static "WellPipes$Asks" "SIZE_BODIES" "[I") (.int 5)) (.int 14)) (by decide +kernel))
      | j + 6, hj => exact absurd hj (by omega)) (fun a ha => Nat.not_le.mpr ha)
    exact ⟨t, h1, h2⟩
  | 5, _ =>
    obtain ⟨t, h1, h2⟩ := va_Tof (tm := .static "WellPipes$Asks" "MARK_BODIES" "[I") (ty := .int) (N := 6) (f := fun j => .int (wq_sf 5 j)) (A := fun q => s.heap.size ≤ q) (by omega) (hs (.arrayOf (.static "WellPipes$Asks" "MARK_BODIES" "[I") .int) (by decide +kernel)) (va_eqt (z := 6) (hs (.eq (.length (.static "WellPipes$Asks" "MARK_BODIES" "[I")) (.int 6)) (by decide +kernel))) (fun j hj => by
      match j, hj with
      | 0, _ => exact va_eqt (z := 20) (hs (.eq (.elem (.static "WellPipes$Asks" "MARK_BODIES" "[I") (.int 0)) (.int 20)) (by decide +kernel))
      | 1, _ => exact va_eqt (z := 21) (hs (.eq (.elem (.static "WellPipes$Asks" "MARK_BODIES" "[I") (.int 1)) (.int 21)) (by decide +kernel))
      | 2, _ => exact va_eqt (z := 24) (hs (.eq (.elem (.static "WellPipes$Asks" "MARK_BODIES" "[I") (.int 2)) (.int 24)) (by decide +kernel))
      | 3, _ => exact va_eqt (z := 22) (hs (.eq (.elem (.static "WellPipes$Asks" "MARK_BODIES" "[I") (.int 3)) (.int 22)) (by decide +kernel))
      | 4, _ => exact va_eqt (z := 23) (hs (.eq (.elem (.static "WellPipes$Asks" "MARK_BODIES" "[I") (.int 4)) (.int 23)) (by decide +kernel))
      | 5, _ => exact va_eqt (z := 23) (hs (.eq (.elem (.static "WellPipes$Asks" "MARK_BODIES" "[I") (.int 5)) (.int 23)) (by decide +kernel))
      | j + 6, hj => exact absurd hj (by omega)) (fun a ha => Nat.not_le.mpr ha)
    exact ⟨t, h1, h2⟩
  | k + 6, hk => exact absurd hk (by omega)
theorem st_S {args : Array Value} {s : State} (h : (Jvm.Cond.and given_1 narrow_1).before args s = true) (hts : ∀ w ∈ lw_tbl, w.before args s = true) : ∃ ts : Nat → Nat, ∀ (E : wq_E) (Y : wq_Y), E.2.2.2 = ts → (∀ p, p < Y.1 → s.heap.size ≤ E.2.1 p) → wq_S E Y s := by
  have h6 : ∀ k, ∃ t : Nat, k < 6 → (Term.static (wq_sn k).1 (wq_sn k).2 "[I").eval args s none [] s = some (.ref t) ∧ va_T .int t (wq_sl k) (fun j => .int (wq_sf k j)) (fun q => s.heap.size ≤ q) s s.heap := fun k => by
    by_cases hk : k < 6
    · obtain ⟨t, ht⟩ := st_T h k hk
      exact ⟨t, fun _ => ht⟩
    · exact ⟨0, fun q => absurd q hk⟩
  refine ⟨fun k => Classical.choose (h6 k), fun E Y hE hge => ⟨fun k hk => ?_, fun w hw => ?_⟩⟩
  · obtain ⟨e1, e2⟩ := Classical.choose_spec (h6 k) hk
    rw [hE]
    have hA : ∀ q, wq_A E Y q → s.heap.size ≤ q := fun q hq => by
      obtain ⟨z, z1, rfl⟩ := hq
      exact hge z z1
    refine ⟨?_, va_T.narrow e2 hA⟩
    have hl : (Cond.laysStatic (wq_sn k).1 (wq_sn k).2 "[I").before args s = true ∧ (Cond.initialized (wq_sn k).1).before args s = true := by
      match k, hk with
      | 0, _ => exact ⟨hts _ (List.mem_append_right _ (List.mem_append_right _ (List.mem_append_left _ (List.mem_of_getElem? (i := 62) rfl)))), hts _ (List.mem_append_right _ (List.mem_append_left _ (List.mem_of_getElem? (i := 1) rfl)))⟩
      | 1, _ => exact ⟨hts _ (List.mem_append_right _ (List.mem_append_right _ (List.mem_append_left _ (List.mem_of_getElem? (i := 64) rfl)))), hts _ (List.mem_append_right _ (List.mem_append_left _ (List.mem_of_getElem? (i := 1) rfl)))⟩
      | 2, _ => exact ⟨hts _ (List.mem_append_right _ (List.mem_append_right _ (List.mem_append_left _ (List.mem_of_getElem? (i := 78) rfl)))), hts _ (List.mem_append_right _ (List.mem_append_left _ (List.mem_of_getElem? (i := 1) rfl)))⟩
      | 3, _ => exact ⟨hts _ (List.mem_append_right _ (List.mem_append_right _ (List.mem_append_right _ (List.mem_append_left _ (List.mem_of_getElem? (i := 136) rfl))))), hts _ (List.mem_append_right _ (List.mem_append_left _ (List.mem_of_getElem? (i := 1) rfl)))⟩
      | 4, _ => exact ⟨hts _ (List.mem_append_right _ (List.mem_append_right _ (List.mem_append_right _ (List.mem_append_left _ (List.mem_of_getElem? (i := 150) rfl))))), hts _ (List.mem_append_right _ (List.mem_append_left _ (List.mem_of_getElem? (i := 6) rfl)))⟩
      | 5, _ => exact ⟨hts _ (List.mem_append_right _ (List.mem_append_right _ (List.mem_append_right _ (List.mem_append_left _ (List.mem_of_getElem? (i := 152) rfl))))), hts _ (List.mem_append_right _ (List.mem_append_left _ (List.mem_of_getElem? (i := 6) rfl)))⟩
      | k + 6, hk => exact absurd hk (by omega)
    exact va_Zref hl.1 hl.2 e1 (fun a ha hq => absurd (hA a hq) (Nat.not_le.mpr ha))
  · simp only [wq_nw, List.mem_cons, List.not_mem_nil, or_false] at hw
    rcases hw with rfl | rfl | rfl
    · exact va_Nw.of rfl (hts _ (List.mem_append_right _ (List.mem_append_right _ (List.mem_append_left _ (List.mem_of_getElem? (i := 61) rfl)))))
    · exact va_Nw.of rfl (hts _ (List.mem_append_right _ (List.mem_append_right _ (List.mem_append_left _ (List.mem_of_getElem? (i := 63) rfl)))))
    · exact va_Nw.of rfl (hts _ (List.mem_append_right _ (List.mem_append_right _ (List.mem_append_left _ (List.mem_of_getElem? (i := 77) rfl)))))
theorem gdX6 : GoodIn wq_TB (Cond.code yX6_init cX6_init 2 none :: wq_TB) := tb_good (fun w hw => by
  rcases List.mem_cons.mp hw with rfl | h
  · exact tw_66
  · exact h)
theorem gdX7 : GoodIn wq_TB (Cond.code yX7_init cX7_init 1 none :: wq_TB) := tb_good (fun w hw => by
  rcases List.mem_cons.mp hw with rfl | h
  · exact tw_716
  · exact h)
theorem nwI_tab : ∀ w ∈ wq_nwI, w.onTables = true := by
  intro w hw
  simp only [wq_nwI, List.mem_cons, List.not_mem_nil, or_false] at hw
  rcases hw with rfl | rfl | rfl | rfl | rfl | rfl <;> rfl
theorem nwI_warm {s U : State} (hW : s.WarmedH U.vm) : ∀ w ∈ wq_nwI, va_Nw w s → va_Nw w U := by
  intro w hw h
  simp only [wq_nwI, List.mem_cons, List.not_mem_nil, or_false] at hw
  rcases hw with rfl | rfl | rfl | rfl | rfl | rfl <;> exact va_Nw.warmM hW h
set_option maxHeartbeats 8000000 in
set_option maxRecDepth 100000 in
theorem whole_start {p : Program} {e : Env} {s : State} {m : MethodId} {below : List Frame} {meth : Method} {c : Code} (l : Launch) (hflags : l.flags = flags0) {b L : Nat} {xs : Nat → Int32} (hL : L ≤ 3072) (C0 : lw_At p s m meth c b L xs) : W p l e room_1 s m #[Value.ref b] below meth c s.heap [] 0 0 (lw_Z below #[Value.ref b] s) (entryFrame m ([Value.ref b] : List Value).toArray 4) := by
  obtain ⟨hx, hb, hr, hml, hown, hts, hX, hbl, hlocks, hgv⟩ := id C0
  have htb : ∀ w ∈ wq_TB, w.before #[Value.ref b] s = true := fun w hw => hts w (List.mem_filter.mp hw).1
  have hA : ∀ q : Nat, s.heap.size ≤ q → (fun q : Nat => s.heap.size ≤ q) q := fun _ h => h
  obtain ⟨c0, i0, hk0⟩ := u_known (C := RX0) (T := TX0) (N := 3) (n := 3) htb in_X0 (hts _ (List.mem_append_right _ (List.mem_append_left _ (List.mem_of_getElem? (i := 130) rfl))))
  obtain ⟨c1, i1, hk1⟩ := u_known (C := RX1) (T := TX1) (N := 4) (n := 4) htb in_X1 (hts _ (List.mem_append_right _ (List.mem_append_left _ (List.mem_of_getElem? (i := 147) rfl))))
  obtain ⟨c2, i2, hk2⟩ := u_known (C := RX2) (T := TX2) (N := 6) (n := 6) htb in_X2 (hts _ (List.mem_append_right _ (List.mem_append_left _ (List.mem_of_getElem? (i := 23) rfl))))
  obtain ⟨c3, i3, hk3⟩ := u_known (C := RX3) (T := TX3) (N := 3) (n := 3) htb in_X3 (hts _ (List.mem_append_right _ (List.mem_append_left _ (List.mem_of_getElem? (i := 167) rfl))))
  obtain ⟨c4, i4, hk4⟩ := u_known (C := RX4) (T := TX4) (N := 9) (n := 9) htb in_X4 (hts _ (List.mem_append_right _ (List.mem_append_left _ (List.mem_of_getElem? (i := 93) rfl))))
  obtain ⟨c5, i5, hk5⟩ := u_known (C := RX5) (T := TX5) (N := 6) (n := 6) htb in_X5 (hts _ (List.mem_append_right _ (List.mem_append_left _ (List.mem_of_getElem? (i := 52) rfl))))
  obtain ⟨c6, i6, hk6⟩ := u_known (C := RX6) (T := TX6) (N := 9) (n := 9) htb in_X6 (hts _ (List.mem_append_right _ (List.mem_append_left _ (List.mem_of_getElem? (i := 13) rfl))))
  obtain ⟨c7, i7, hk7⟩ := u_known (C := RX7) (T := TX7) (N := 26) (n := 26) htb in_X7 (hts _ (List.mem_append_right _ (List.mem_append_right _ (List.mem_append_right _ (List.mem_append_left _ (List.mem_of_getElem? (i := 183) rfl))))))
  obtain ⟨D, hKc⟩ : ∃ D : va_G, ∀ (k : Nat) (q : vw_C), wq_cl[k]? = some q → u_Kn s q.1 q.2.1 q.2.2 (D.1 k) (D.2 k) := by
    refine ⟨(fun k => match k with | 0 => c0 | 1 => c1 | 2 => c2 | 3 => c3 | 4 => c4 | 5 => c5 | 6 => c6 | _ => c7, fun k => match k with | 0 => i0 | 1 => i1 | 2 => i2 | 3 => i3 | 4 => i4 | 5 => i5 | 6 => i6 | _ => i7), ?_⟩
    intro k q hq
    match k, hq with
    | 0, hq => cases hq; exact hk0
    | 1, hq => cases hq; exact hk1
    | 2, hq => cases hq; exact hk2
    | 3, hq => cases hq; exact hk3
    | 4, hq => cases hq; exact hk4
    | 5, hq => cases hq; exact hk5
    | 6, hq => cases hq; exact hk6
    | 7, hq => cases hq; exact hk7
    | k + 8, hq => simp [wq_cl] at hq
  obtain ⟨cI, kI, mI, fI, gI, jI⟩ := Cond.arrayClass_spec (hts (.arrayClass .int) (List.mem_append_right _ (List.mem_append_left _ (List.mem_of_getElem? (i := 50) rfl))))
  obtain ⟨cZ, kZ, mZ, fZ, gZ, jZ⟩ := Cond.arrayClass_spec (hts (.arrayClass .boolean) (List.mem_append_right _ (List.mem_append_right _ (List.mem_append_right _ (List.mem_append_right _ (List.mem_append_left _ (List.mem_of_getElem? (i := 27) rfl)))))))
  have hKI : va_K D wq_cl [(cI, .int)] s := ⟨hKc, fun k q h => by
    match k, h with
    | 0, h =>
      cases h
      exact ⟨fun n z => ⟨fun k h => (by cases h), kI, gI, mI, jI⟩, fI⟩
    | k + 1, h => simp at h⟩
  have hKZ : va_K D wq_cl [(cZ, .boolean)] s := ⟨hKc, fun k q h => by
    match k, h with
    | 0, h =>
      cases h
      exact ⟨fun n z => ⟨fun k h => (by cases h), kZ, gZ, mZ, jZ⟩, fZ⟩
    | k + 1, h => simp at h⟩
  obtain ⟨ts, hst⟩ := st_S hgv hts
  have hnw : ∀ w ∈ wq_nwI, va_Nw w s := fun w hw => by
    simp only [wq_nwI, List.mem_cons, List.not_mem_nil, or_false] at hw
    rcases hw with rfl | rfl | rfl | rfl | rfl | rfl
    · exact va_Nw.of rfl (hts _ (List.mem_append_right _ (List.mem_append_left _ (List.mem_of_getElem? (i := 24) rfl))))
    · exact va_Nw.of rfl (hts _ (List.mem_append_right _ (List.mem_append_left _ (List.mem_of_getElem? (i := 53) rfl))))
    · exact va_Nw.of rfl (hts _ (List.mem_append_right _ (List.mem_append_left _ (List.mem_of_getElem? (i := 94) rfl))))
    · exact va_Nw.of rfl (hts _ (List.mem_append_right _ (List.mem_append_left _ (List.mem_of_getElem? (i := 131) rfl))))
    · exact va_Nw.of rfl (hts _ (List.mem_append_right _ (List.mem_append_left _ (List.mem_of_getElem? (i := 148) rfl))))
    · exact va_Nw.of rfl (hts _ (List.mem_append_right _ (List.mem_append_left _ (List.mem_of_getElem? (i := 168) rfl))))
  have hS : va_S (fun q : Nat => s.heap.size ≤ q) s.heap s.heap [] := va_S.rf
  have hP : va_P D wq_cl [] s.heap := fun k q h => by simp at h
  have hD : va_D (fun q : Nat => s.heap.size ≤ q) [] := ⟨fun i j p q h => by simp at h, fun k q h => by simp at h⟩
  have hl := lv_entry ([.ref b]) (n := 4) (Nat.le_of_ble_eq_true rfl)
  rw [lg_entry_eq]
  generalize (lg_sl ([.ref b]) ++ List.replicate (4 - (lg_sl ([.ref b])).length) Slot.unset).toArray = ls at hl ⊢
  have hl : lv_has ls 4 [(0, .ref b)] := hl
  refine va_new (ci := 6) (fs := [.null, .null, .null, .null, .null, .null, .null, .null, .int 0]) (C := RX6) (T := TX6) (N := 9) hx hb htb in_X6 tyX6 tyX6_ok hown (htb _ (tb_1 12 rfl rfl)) (htb _ (tb_1 13 rfl rfl)) (htb _ tw_51) hKI hP hD hS hA rfl (fun j hj => by rcases (show j = 0 ∨ j = 1 ∨ j = 2 ∨ j = 3 ∨ j = 4 ∨ j = 5 ∨ j = 6 ∨ j = 7 ∨ j = 8 by omega) with rfl | rfl | rfl | rfl | rfl | rfl | rfl | rfl | rfl <;> rfl) (by decide) (by decide) dL_law_0 (fun a6 H hP hD hS => ?_)
  have hP : va_P D wq_cl [(a6, .inr (6, [.null, .null, .null, .null, .null, .null, .null, .null, .int 0]))] H := hP
  have hD : va_D (fun q : Nat => s.heap.size ≤ q) [(a6, .inr (6, [.null, .null, .null, .null, .null, .null, .null, .null, .int 0]))] := hD
  refine W.widen (k := 1) (n := 9) (by omega) (by omega) ?_
  refine lv_dup hx hb dL_law_3 rfl ?_
  have hFc := va_free (wc := [(a6, .inr (6, [.null, .null, .null, .null, .null, .null, .null, .null, .int 0]))]) hD hS hA [0] rfl
  refine va_callv (va_runI (As := []) (rest := [.ref a6]) ⟨hx, hb, hml, hown, htb⟩ (ciX6 l D cI cZ ts a6 H.size) (cwI 0 htb gdX6 rfl rfl rfl (htb _ tw_51) (htb _ tw_64) (htb _ tw_65) rfl (by decide +kernel) ⟨Nat.le_of_ble_eq_true rfl, Nat.le_of_ble_eq_true rfl⟩) ⟨fun a U g mk q => by obtain ⟨q0, q1, qP, qK, qD, qN, qR, qW⟩ := q; exact ⟨q0, q1, qP, va_K.moved (u := U) (U := U.calling g mk a) (Vm.Alike.refl U.vm) qK, qD, fun w hw => va_Nw.same (u := U) (U := U.calling g mk a) (nwI_tab w hw) rfl (qN w hw), va_AO.moved (u := U) (U := U.calling g mk a) (Vm.Alike.refl U.vm) qR, va_AO.moved (u := U) (U := U.calling g mk a) (Vm.Alike.refl U.vm) qW⟩, fun U hU hW => ⟨rfl, by rw [hU], by rw [hU]; exact hP, va_K.moved hW.alike hKI, hD.weaken (fun _ _ _ _ => trivial), fun w hw => nwI_warm hW w hw (hnw w hw), va_AO.moved hW.alike (hts _ (List.mem_append_right _ (List.mem_append_left _ (List.mem_of_getElem? (i := 21) rfl)))), va_AO.moved hW.alike (hts _ (List.mem_append_right _ (List.mem_append_left _ (List.mem_of_getElem? (i := 91) rfl))))⟩⟩ rfl rfl hl.1 rfl (lv_room (Nat.le_of_ble_eq_true rfl)) dL_law_4 ⟨Nat.le_of_ble_eq_true rfl, Nat.le_of_ble_eq_true rfl⟩) hS (fun q _ h => hFc q h) hFc (fun u t H1 locs ht hvm hw hB hz1 hk1 hS => ?_)
  obtain ⟨hP6, hK6, hi6, hA6⟩ := hB
  rw [ht] at hP6
  have hK6 := va_K.moved hvm.symm hK6
  have hz6 : u.1.getD 0 0 = a6 := hw
  have hge6 : ∀ p, p < 52 → s.heap.size ≤ (wq_Ec D cI cZ ts u).2.1 p := fun p hp => hFc _ (hA6 p hp)
  have hD6 : va_D (fun q : Nat => s.heap.size ≤ q) (wq_ws (wq_Ec D cI cZ ts u) wq_yC wq_Mc0) := ⟨fun i j p q h1 h2 he => by
    obtain ⟨k1, rfl⟩ := wq_ws_inv h1
    obtain ⟨k2, rfl⟩ := wq_ws_inv h2
    exact hi6 i j k1 k2 he, fun k q hq => by
    obtain ⟨k1, rfl⟩ := wq_ws_inv hq
    exact hge6 k k1⟩
  refine W.widen (k := 52) (n := 3115) (by omega) (by omega) ?_
  refine lv_astore_n (lv' := [(1, .ref a6), (0, .ref b)]) hx hb dL_law_7 rfl hl (by decide) rfl (fun ls hl => ?_)
  have hlen : (wq_ws (wq_Ec D cI cZ ts u) wq_yC wq_Mc0).length = 52 := by simp [wq_ws, wq_yC]
  refine va_new (ci := 7) (fs := [.int 0, .int 0, .null, .null, .null, .null, .null, .null, .null, .int 0, .null, .int 0, .int 0, .int 0, .int 0, .int 0, .int 0, .int 0, .int 0, .null, .null, .null, .null, .null, .null, .int 0]) (C := RX7) (T := TX7) (N := 26) hx hb htb in_X7 tyX7 tyX7_ok hown (htb _ (tb_3 182 rfl rfl)) (htb _ (tb_3 183 rfl rfl)) (htb _ tw_58) hK6 hP6 hD6 hS hA rfl (fun j hj => by rcases (show j = 0 ∨ j = 1 ∨ j = 2 ∨ j = 3 ∨ j = 4 ∨ j = 5 ∨ j = 6 ∨ j = 7 ∨ j = 8 ∨ j = 9 ∨ j = 10 ∨ j = 11 ∨ j = 12 ∨ j = 13 ∨ j = 14 ∨ j = 15 ∨ j = 16 ∨ j = 17 ∨ j = 18 ∨ j = 19 ∨ j = 20 ∨ j = 21 ∨ j = 22 ∨ j = 23 ∨ j = 24 ∨ j = 25 by omega) with rfl | rfl | rfl | rfl | rfl | rfl | rfl | rfl | rfl | rfl | rfl | rfl | rfl | rfl | rfl | rfl | rfl | rfl | rfl | rfl | rfl | rfl | rfl | rfl | rfl | rfl <;> rfl) (by decide) (by decide) dL_law_8 (fun a7 H2 hP2 hD2 hS => ?_)
  refine W.widen (k := 53) (n := 3141) (by omega) (by omega) ?_
  refine lv_dup hx hb dL_law_11 rfl ?_
  have h52 : ∀ k, (wq_ws (wq_Ec D cI cZ ts u) wq_yC wq_Mc0 ++ [(a7, .inr (7, [.int 0, .int 0, .null, .null, .null, .null, .null, .null, .null, .int 0, .null, .int 0, .int 0, .int 0, .int 0, .int 0, .int 0, .int 0, .int 0, .null, .null, .null, .null, .null, .null, .int 0]))])[52 + k]? = ([(a7, .inr (7, [.int 0, .int 0, .null, .null, .null, .null, .null, .null, .null, .int 0, .null, .int 0, .int 0, .int 0, .int 0, .int 0, .int 0, .int 0, .int 0, .null, .null, .null, .null, .null, .null, .int 0]))] : va_W)[k]? := fun k => by
    rw [List.getElem?_append_right (by omega), hlen, show 52 + k - 52 = k by omega]
  have hlo : ∀ k, k < 52 → (wq_ws (wq_Ec D cI cZ ts u) wq_yC wq_Mc0 ++ [(a7, .inr (7, [.int 0, .int 0, .null, .null, .null, .null, .null, .null, .null, .int 0, .null, .int 0, .int 0, .int 0, .int 0, .int 0, .int 0, .int 0, .int 0, .null, .null, .null, .null, .null, .null, .int 0]))])[k]? = some ((wq_Ec D cI cZ ts u).2.1 k, wq_ce (wq_Ec D cI cZ ts u) wq_yC wq_Mc0 k) := fun k hk => by
    rw [List.getElem?_append_left (by omega)]
    exact wq_ws_at hk
  have hPc : va_P D wq_cl [(a7, .inr (7, [.int 0, .int 0, .null, .null, .null, .null, .null, .null, .null, .int 0, .null, .int 0, .int 0, .int 0, .int 0, .int 0, .int 0, .int 0, .int 0, .null, .null, .null, .null, .null, .null, .int 0]))] H2 := fun k q hk => hP2 (52 + k) q (by rw [h52]; exact hk)
  have hDc : va_D (fun _ : Nat => True) [(a7, .inr (7, [.int 0, .int 0, .null, .null, .null, .null, .null, .null, .null, .int 0, .null, .int 0, .int 0, .int 0, .int 0, .int 0, .int 0, .int 0, .int 0, .null, .null, .null, .null, .null, .null, .int 0]))] := ⟨fun i j p q h1 h2 _ => by
    have z1 := (List.getElem?_eq_some_iff.mp h1).1
    have z2 := (List.getElem?_eq_some_iff.mp h2).1
    simp only [List.length_cons, List.length_nil] at z1 z2
    omega, fun _ _ _ => trivial⟩
  have ha7 : s.heap.size ≤ a7 := hD2.2 52 _ (h52 0)
  have hsz2 : s.heap.size ≤ H2.size := hS.1
  have hFc7 : ∀ q, va_A [(a7, .inr (7, [.int 0, .int 0, .null, .null, .null, .null, .null, .null, .null, .int 0, .null, .int 0, .int 0, .int 0, .int 0, .int 0, .int 0, .int 0, .int 0, .null, .null, .null, .null, .null, .null, .int 0]))] H2.size q → s.heap.size ≤ q := fun q hq => by
    rcases hq with ⟨k, e, hk⟩ | hq
    · have z1 := (List.getElem?_eq_some_iff.mp hk).1
      simp only [List.length_cons, List.length_nil] at z1
      rw [show k = 0 by omega] at hk
      cases hk
      exact ha7
    · omega
  have hlt6 : ∀ p, p < 52 → (wq_Ec D cI cZ ts u).2.1 p < H2.size ∧ (wq_Ec D cI cZ ts u).2.1 p ≠ a7 := fun p hp => by
    refine ⟨(hP2 p _ (hlo p hp)).lt, fun he => ?_⟩
    have := hD2.1 p 52 _ _ (hlo p hp) (h52 0) he
    omega
  have hnA : ∀ p, p < 52 → ¬ va_A [(a7, .inr (7, [.int 0, .int 0, .null, .null, .null, .null, .null, .null, .null, .int 0, .null, .int 0, .int 0, .int 0, .int 0, .int 0, .int 0, .int 0, .int 0, .null, .null, .null, .null, .null, .null, .int 0]))] H2.size ((wq_Ec D cI cZ ts u).2.1 p) := fun p hp hq => by
    rcases hq with ⟨k, e, hk⟩ | hq
    · have z1 := (List.getElem?_eq_some_iff.mp hk).1
      simp only [List.length_cons, List.length_nil] at z1
      rw [show k = 0 by omega] at hk
      have : a7 = (wq_Ec D cI cZ ts u).2.1 p := congrArg Prod.fst (Option.some.inj hk)
      exact (hlt6 p hp).2 this.symm
    · have := (hlt6 p hp).1
      omega
  have hKIZ : va_K D wq_cl [(cI, .int), (cZ, .boolean)] s := hKI.app hKZ
  refine va_callv (va_runI (As := []) (rest := [.ref a7]) ⟨hx, hb, hml, hown, htb⟩ (ciX7 l D cI cZ a7 H2.size) (cwI 0 htb gdX7 rfl rfl rfl (htb _ tw_58) (htb _ tw_714) (htb _ tw_715) rfl (by decide +kernel) ⟨Nat.le_of_ble_eq_true rfl, Nat.le_of_ble_eq_true rfl⟩) ⟨fun a U g mk q => by obtain ⟨q0, q1, qP, qK, qD⟩ := q; exact ⟨q0, q1, qP, va_K.moved (u := U) (U := U.calling g mk a) (Vm.Alike.refl U.vm) qK, qD⟩, fun U hU hW => ⟨rfl, by rw [hU], by rw [hU]; exact hPc, va_K.moved hW.alike hKIZ, hDc⟩⟩ rfl rfl hl.1 rfl (lv_room (Nat.le_of_ble_eq_true rfl)) dL_law_12 ⟨Nat.le_of_ble_eq_true rfl, Nat.le_of_ble_eq_true rfl⟩) hS (fun q _ h => hFc7 q h) hFc7 (fun u7 t7 H3 locs ht7 hvm7 hw7 hB7 hz7 hk7 hS => ?_)
  obtain ⟨hP7, -, hD7⟩ := hB7
  rw [ht7] at hP7
  have hP6 : va_P D wq_cl (wq_ws (wq_Ec D cI cZ ts u) wq_yC wq_Mc0) H3 := fun k q hk => by
    obtain ⟨k1, rfl⟩ := wq_ws_inv hk
    exact (hP2 k _ (hlo k k1)).kept (hk7 _ (hlt6 k k1).1 (hnA k k1))
  refine W.widen (k := 67) (n := 19125) (by omega) (by omega) ?_
  refine lv_astore_n (lv' := [(2, .ref a7), (1, .ref a6), (0, .ref b)]) hx hb dL_law_15 rfl hl (by decide) rfl (fun ls hl => ?_)
  refine lv_iconst (v := 0) hx hb dL_law_16 (by decide) ?_
  refine lv_istore_n (lv' := [(3, .int 0), (2, .ref a7), (1, .ref a6), (0, .ref b)]) hx hb dL_law_17 rfl hl (by decide) rfl (fun ls hl => ?_)
  have hKall : va_K D wq_cl [(cI, .int), (cZ, .boolean), (u.2.1, .object RX3), (u.2.2, .object RX5)] s := (hKIZ.app hK6).sub [0, 1, 3, 4] rfl
  have hge7 : ∀ p, p < 15 → s.heap.size ≤ (wq_Er D cI cZ u.2.1 u.2.2 ts a7 u7).2.1 p := fun p hp => by
    obtain ⟨e, he⟩ := model_key (D := D) (cI := cI) (cZ := cZ) (cR := u.2.1) (cW := u.2.2) (ts := ts) (h0 := a7) (u := u7) p hp
    exact hFc7 _ (hD7.2 p _ he)
  have hF : lw_F2 s (wq_Ec D cI cZ ts u) (wq_Er D cI cZ u.2.1 u.2.2 ts a7 u7) := by
    refine ⟨hKall, hKall, hi6, fun p q hp hq he => ?_, hst _ _ rfl hge6, hst _ _ rfl hge7, hge6, hge7, fun p q hp hq he => ?_⟩
    · obtain ⟨e1, h1⟩ := model_key (D := D) (cI := cI) (cZ := cZ) (cR := u.2.1) (cW := u.2.2) (ts := ts) (h0 := a7) (u := u7) p hp
      obtain ⟨e2, h2⟩ := model_key (D := D) (cI := cI) (cZ := cZ) (cR := u.2.1) (cW := u.2.2) (ts := ts) (h0 := a7) (u := u7) q hq
      exact hD7.1 p q _ _ h1 h2 he
    · obtain ⟨e2, h2⟩ := model_key (D := D) (cI := cI) (cZ := cZ) (cR := u.2.1) (cW := u.2.2) (ts := ts) (h0 := a7) (u := u7) q hq
      have := hD7.2 q _ h2
      rw [← he] at this
      exact hnA p hp this
  have hl : lv_has ls 4 [(0, .ref b), (1, .ref ((wq_Ec D cI cZ ts u).2.1 0)), (2, .ref ((wq_Er D cI cZ u.2.1 u.2.2 ts a7 u7).2.1 0)), (3, .int (nI 0))] := by
    show lv_has ls 4 [(0, .ref b), (1, .ref (u.1.getD 0 0)), (2, .ref a7), (3, .int 0)]
    rw [hz6]
    exact lv_sub hl [3, 2, 1, 0] rfl
  exact law_loop hL C0 hF (kc := 67) (ks := 19125) (by omega) (by omega) (L + 7) 0 (by omega) (by omega) wq_Mc0 wq_Mr0 H3 locs hP6 (model_P hP7) hS Inv_0 ls hl
