theorem npJ7_fill_53178 : yJ7_fill_53178.cls ≠ "java/lang/invoke/MethodHandle" ∧ yJ7_fill_53178.cls ≠ "java/lang/invoke/VarHandle" ∧ (parseMethodDescriptor yJ7_fill_53178.desc).map (fun d => d.parameters.length) = some 2 := by decide +kernel
def fJ7_fill_53178_L5 (p0 : Nat) (x1 : Int32) (x3 : Int32) : (Int32 × wq_M) → Option ((Int32 × wq_M) ⊕ wq_M) := fun s =>
  (if x3 ≤ s.1 then
    some (.inr s.2)
  else
    if wq_in s.1 (wq_yC.2.2 p0) then some (.inl ((s.1 + 1), (wq_st s.2 p0 s.1.toNatClampNeg x1))) else none)
set_option maxHeartbeats 4000000 in
set_option maxRecDepth 100000 in
theorem gJ7_fill_53178_L5 {g : wq_G} {E : wq_E} {d : Nat} (hC : wq_C g E wq_yC cJ7_fill_53178 4 "java/util/Arrays" (none) d) (hd0 : 0 ≤ d) (p0 : Nat) (x1 : Int32) (x3 : Int32) (hp0 : wq_a wq_yC p0 (wq_yC.2.2 p0)) : ∀ (n : Nat) (s : (Int32 × wq_M)) (e : wq_M), wq_lp (fJ7_fill_53178_L5 p0 x1 x3) n s = some e → (fun (e : wq_M) => wq_g g E wq_yC 4 20 [none, none, none, none] [] e) e → wq_g g E wq_yC 4 5 [some (.ref (E.2.1 p0)), some (.int x1), some (.int s.1), some (.int x3)] [] s.2 := by
  refine wq_lq_ok (fun (s : (Int32 × wq_M)) => wq_g g E wq_yC 4 5 [some (.ref (E.2.1 p0)), some (.int x1), some (.int s.1), some (.int x3)] [] s.2) (fun (e : wq_M) => wq_g g E wq_yC 4 20 [none, none, none, none] [] e) (fun s x h K => ?_)
  unfold fJ7_fill_53178_L5 at h
  refine wq_iload_n hC dJ7_fill_53178_5 (i := 2) rfl rfl ?_
  refine wq_iload_n hC dJ7_fill_53178_6 (i := 3) rfl rfl ?_
  refine wq_icmp_ge hC dJ7_fill_53178_7 (tgt := 20) (by decide) (fun z1 => ?_) (fun z1 => ?_)
  · have h := wq_ip z1 h
    have h := Option.some.inj h
    subst h
    refine wq_mask [false, false, false, false] (lv' := [none, none, none, none]) rfl ?_
    exact K
  · have h := wq_in_ z1 h
    refine wq_aload_n hC dJ7_fill_53178_10 (i := 0) rfl rfl ?_
    refine wq_iload_n hC dJ7_fill_53178_11 (i := 2) rfl rfl ?_
    refine wq_iload_n hC dJ7_fill_53178_12 (i := 1) rfl rfl ?_
    obtain ⟨z2, h⟩ := wq_ii h
    refine wq_ast hC hp0 z2 dJ7_fill_53178_13 ?_
    refine wq_iinc hC (v := (s.1 + 1)) dJ7_fill_53178_14 (lv' := [some (.ref (E.2.1 p0)), some (.int x1), some (.int (s.1 + 1)), some (.int x3)]) rfl rfl (by decide) rfl ?_
    refine wq_goto hC dJ7_fill_53178_17 (tgt := 5) (by decide) ?_
    have h := Option.some.inj h
    subst h
    exact K
def fJ7_fill_53178 (p0 : Nat) (x1 : Int32) (M : wq_M) : Option wq_M :=
  (wq_lp (fJ7_fill_53178_L5 p0 x1 (Int32.ofNat (wq_yC.2.2 p0))) wq_FU (0, M)).bind fun e3 => some e3
set_option maxHeartbeats 4000000 in
set_option maxRecDepth 100000 in
theorem ctJ7_fill_53178 {l : Launch} {E : wq_E} {d : Nat} (hd0 : 0 ≤ d) {p0 : Nat} {x1 : Int32} {M : wq_M} {r : wq_M} (hp0 : wq_a wq_yC p0 (wq_yC.2.2 p0)) (h : fJ7_fill_53178 p0 x1 M = some r) : wq_ct l E wq_yC yJ7_fill_53178 cJ7_fill_53178 4 (none) d [.ref (E.2.1 p0), .int x1] M (none) r := by
  refine wq_ent (own := "java/util/Arrays") (lv0 := [some (.ref (E.2.1 p0)), some (.int x1), none, none]) (by decide +kernel) rfl (Nat.le_of_ble_eq_true rfl) rfl (fun g h1 h2 hC => ?_)
  have K : wq_kV g r := ⟨h1, h2⟩
  unfold fJ7_fill_53178 at h
  refine wq_iconst hC (v := 0) dJ7_fill_53178_0 (by decide) ?_
  refine wq_istore_n hC dJ7_fill_53178_1 (i := 2) (lv' := [some (.ref (E.2.1 p0)), some (.int x1), some (.int 0), none]) rfl (by decide) rfl ?_
  refine wq_aload_n hC dJ7_fill_53178_2 (i := 0) rfl rfl ?_
  refine wq_alen hC hp0.1 hp0.2.1 hp0.2.2 rfl dJ7_fill_53178_3 ?_
  refine wq_istore_n hC dJ7_fill_53178_4 (i := 3) (lv' := [some (.ref (E.2.1 p0)), some (.int x1), some (.int 0), some (.int (Int32.ofNat (wq_yC.2.2 p0)))]) rfl (by decide) rfl ?_
  obtain ⟨e3, hl4, h⟩ := wq_ob h
  refine gJ7_fill_53178_L5 hC hd0 p0 x1 (Int32.ofNat (wq_yC.2.2 p0)) hp0 wq_FU _ _ hl4 ?_
  have h := Option.some.inj h
  subst h
  exact wq_vret hC dJ7_fill_53178_20 K.1 K.2
