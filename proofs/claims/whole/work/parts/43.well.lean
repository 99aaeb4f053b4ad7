section EJ
variable {Mc Mr : wq_M}
def wP (r : Bool × wq_M) : Option (Int32 × wq_M) := if r.1 = true then some (((-1000100) - (r.2.1 0 17)), r.2) else (wq_lp (fX7_well_L202) wq_FU (0, (wq_st r.2 0 9 0))).bind fun e58 => if wq_in 5 44 then some ((e58.1 4 (5 : Int32).toNatClampNeg), e58) else none
def wA (N : wq_M) : Option (Bool × wq_M) := (fX7_isSort N).bind fun r42 => (if r42 = true then (wq_lp (fX7_well_L166) wq_FU N).bind fX7_failed else (fX7_bad 1 N).bind fun r61 => (wq_lp (fX7_well_L166) wq_FU r61).bind fX7_failed)
theorem wA_eq (N : wq_M) : ((fX7_isSort N).bind fun r42 => (if r42 = true then (wq_lp (fX7_well_L166) wq_FU N).bind fun e50 => (fX7_failed e50).bind fun r52 => (if r52.1 = true then some (((-1000100) - (r52.2.1 0 17)), r52.2) else (wq_lp (fX7_well_L202) wq_FU (0, (wq_st r52.2 0 9 0))).bind fun e58 => if wq_in 5 44 then some ((e58.1 4 (5 : Int32).toNatClampNeg), e58) else none) else (fX7_bad 1 N).bind fun r61 => (wq_lp (fX7_well_L166) wq_FU r61).bind fun e63 => (fX7_failed e63).bind fun r65 => (if r65.1 = true then some (((-1000100) - (r65.2.1 0 17)), r65.2) else (wq_lp (fX7_well_L202) wq_FU (0, (wq_st r65.2 0 9 0))).bind fun e68 => if wq_in 5 44 then some ((e68.1 4 (5 : Int32).toNatClampNeg), e68) else none))) = (wA N).bind wP := by
  unfold wA
  cases fX7_isSort N with
  | none => rfl
  | some r =>
    cases r with
    | true =>
      simp only [Option.bind_some, if_true]
      rw [Option.bind_assoc]
      rfl
    | false =>
      simp only [Option.bind_some, if_false, Bool.false_eq_true]
      rw [Option.bind_assoc]
      congr 1
      funext r61
      rw [Option.bind_assoc]
      rfl
theorem E_well (hI : Inv Mc Mr) : ∃ a C N, fX6_well Mc = some (a, C) ∧ fX7_well Mr = some (a, N) ∧ Inv C N := by
  have hI := Inv_t0 hI
  obtain ⟨v, i1, i2, i3, ⟨t, ht, t1, t2, t3⟩, i5, i6, i7, i8, i9⟩ := hI
  have hb : ∀ j, j < t → ((wq_st Mr 0 0 0).1 8 j).toNatClampNeg < 256 ∧ Mc.1 19 j = nI ((wq_st Mr 0 0 0).1 8 j).toNatClampNeg ∧ (wq_st Mr 0 0 0).1 8 j = nI ((wq_st Mr 0 0 0).1 8 j).toNatClampNeg := by
    intro j hj
    obtain ⟨x, hx, e1, e2⟩ := t3 j hj
    rw [e2, cl_nI (by omega)]
    exact ⟨hx, e1, rfl⟩
  generalize hbd : (fun j => ((wq_st Mr 0 0 0).1 8 j).toNatClampNeg) = b
  have hb : ∀ j, j < t → b j < 256 ∧ Mc.1 19 j = nI (b j) ∧ (wq_st Mr 0 0 0).1 8 j = nI (b j) := by
    intro j hj
    rw [← hbd]
    exact hb j hj
  unfold fX6_well fX2_read fX7_well fX7_begin
  generalize wq_st Mr 0 0 0 = N at i1 i2 i3 t2 i5 i6 i7 i8 hb ⊢
  -- where both begin
  have hk0 : kR N (wq_st (wq_st N 0 12 0) 0 16 0) := (kR.rf.st (by omega) _).st (by omega) _
  have hT0 : Tp b t (wq_st (wq_st N 0 12 0) 0 16 0) := Tp.k ⟨ht, t2, fun j hj => ⟨(hb j hj).1, (hb j hj).2.2⟩⟩ hk0
  obtain ⟨N1, n1, n2, n3, n4, n5⟩ := R_next hT0 (a := 0) (by omega) (by rw [st0_ne (by omega), st_eq]; rfl)
  rw [st_eq] at n3
  have hps : WS b t (Mc.1 18 3) Mc N (FG 0) (wq_st (wq_st Mc 18 4 0) 18 5 0) (frs N1 44) := by
    have hf : ∀ q, q ≠ 5 → (frs N1 44).1 q = N1.1 q := fun q hq => by funext k; simp [frs, hq]
    have hk1 := hk0.tr n2
    refine ⟨⟨⟨?_, fun j hj => ?_⟩, ⟨ht, ?_, fun j hj => ⟨(hb j hj).1, ?_⟩⟩, 0, by omega, ?_, Or.inl ⟨st_eq, ?_, ?_, ?_⟩⟩, fun _ => ⟨fun _ => 0, ⟨fun k hk => ?_, fun s hs => ?_⟩, rfl, fun _ _ => rfl, fun q => by omega, fun q => by omega, fun q => by omega, fun q => by omega, fun q => by omega⟩, ⟨fun q x y => by rw [wq_st_ne x, wq_st_ne x], rfl⟩, ⟨fun q x y => by rw [hf q y, hk1.1 q x], fun j hj => by rw [hf 0 (by omega), hk1.2 j hj]⟩⟩
    · rw [st_ne2 (by omega), st_ne2 (by omega)]; exact t1
    · rw [wq_st_ne (by omega), wq_st_ne (by omega)]; exact (hb j hj).2.1
    · rw [hf 0 (by omega), hk1.2 11 (by omega)]; exact t2
    · rw [hf 8 (by omega), hk1.1 8 (by omega)]; exact (hb j hj).2.2
    · rw [st_ne2 (by omega), st_eq]; rfl
    · rw [hf 0 (by omega), n3]
    · rw [st_ne2 (by omega), st_ne2 (by omega)]
    · unfold TK
      rw [hf 0 (by omega)]
      exact n5
    · simp only [frs, if_true]
      rw [if_pos (by omega), if_pos hk]
      rfl
    · simp only [frs, if_true]
      rw [if_pos (by omega), if_neg (by omega)]
      rfl
  obtain ⟨C2, N2, e1, e2, w2⟩ := law_both hps (fun r40 => (wA r40).bind wP)
  have w3 : WS b t (Mc.1 18 3) Mc N (Fh 0) (wq_st C2 (25 + 0) 1 0) N2 := ws_stc w2 (by omega) _ (fun q hF => by
    obtain ⟨v, z1, z2⟩ := hF
    obtain ⟨a1, a2, a3, a4, a5, a6, a7⟩ := z2
    exact ⟨v, z1, ⟨by simp; exact a3 (by omega), by simp; exact a4 (by omega), by simp; exact a5 (by omega), by simp; exact a6 (by omega), by simp; exact a7 (by omega), a1, a2, fun g hg => by omega⟩, by simp; rfl⟩)
  obtain ⟨r, C3, N3, l1, l2, l3⟩ := loop_a w3
  have l2 : wA N2 = some (r, N3) := l2
  obtain ⟨kw, ks, kz, k11, kf⟩ := l3
  rw [← Option.bind_assoc, e1]
  simp only [Option.bind_some]
  rw [show wq_st C2 25 1 0 = wq_st C2 (25 + 0) 1 0 from rfl, l1]
  simp only [Option.bind_some]
  unfold fX2_read_J66
  rw [C_fill _ _ _ (show wq_yC.2.2 29 < 10000 by decide), n1]
  simp only [Option.bind_some]
  rw [R_frs]
  simp only [Option.bind_some, wA_eq]
  rw [e2, l2]
  simp only [Option.bind_some]
  have hfl : ∀ q, q ≠ 29 → (fill C3 29 (-1)).1 q = C3.1 q := fun q hq => fill_ne hq
  rw [st_ne2 (show 5 ≠ 1 by omega), hfl 18 (by omega)]
  -- what is kept whatever comes out
  have hcC : ∀ q, q ≠ 18 → (q < 25 ∨ 30 ≤ q) → (wq_st (fill C3 (25 + 4) (-1)) 18 1 0).1 q = Mc.1 q := fun q x y => by rw [wq_st_ne x, hfl q (by omega), kw.1 q x y]
  have hcC2 : (wq_st (fill C3 (25 + 4) (-1)) 18 1 0).2 = Mc.2 := kw.2
  have c18_1 : (wq_st (fill C3 (25 + 4) (-1)) 18 1 0).1 18 1 = 0 := st_eq
  have c18_2 : (wq_st (fill C3 (25 + 4) (-1)) 18 1 0).1 18 2 = C3.1 18 2 := by rw [st_ne2 (by omega), hfl 18 (by omega)]
  have c18_3 : (wq_st (fill C3 (25 + 4) (-1)) 18 1 0).1 18 3 = C3.1 18 3 := by rw [st_ne2 (by omega), hfl 18 (by omega)]
  have cfC : ∀ q, q < 4 → (wq_st (fill C3 (25 + 4) (-1)) 18 1 0).1 (25 + q) = fC C3 q := fun q hq => by rw [wq_st_ne (by omega), hfl _ (by omega)]; rfl
  have c29 : ∀ s, s < 8 → (wq_st (fill C3 (25 + 4) (-1)) 18 1 0).1 29 s = -1 := fun s hs => by
    rw [wq_st_ne (by omega)]
    exact fill_at (by rw [show wq_yC.2.2 (25 + 4) = 8 by decide]; exact hs)
  generalize wq_st (fill C3 (25 + 4) (-1)) 18 1 0 = C4 at hcC hcC2 c18_1 c18_2 c18_3 cfC c29
  rcases kf with ⟨rfl, k1, f, pl, k3, k4, k5, k6⟩ | ⟨rfl, k1, k2, k3, m, hm, u, ru, hd, h01⟩
  · -- a fault
    unfold wP
    rw [k1, if_neg (show ¬ (1 : Int32) = 0 by decide), if_pos rfl]
    simp only [Option.bind_some, if_false, Bool.false_eq_true]
    rw [c18_2, k5, k6]
    refine ⟨_, _, _, rfl, rfl, v, iWe_c i1 (fun q x y => hcC q (by omega) (by omega)) (ks 4 (by omega) (by omega)), iAc_c i2 (by rw [hcC 47 (by omega) (by omega)]) (hcC 48 (by omega) (by omega)) (hcC 49 (by omega) (by omega)) (kz 9 (by omega)) (ks 7 (by omega) (by omega)), iRow_c i3 (fun q x y => hcC q (by omega) (by omega)) (ks 1 (by omega) (by omega)) (ks 2 (by omega) (by omega)) (ks 3 (by omega) (by omega)), ⟨0, by omega, c18_1, k11, fun j hj => by omega⟩, ?_, ?_, iIm_c i7 (fun q x y => hcC q (by omega) (by omega)) (ks 12 (by omega) (by omega)) (ks 13 (by omega) (by omega)), iTr_c i8 (by rw [hcC 50 (by omega) (by omega)]) (hcC 51 (by omega) (by omega)) (kz 25 (by omega)) (ks 14 (by omega) (by omega)), iSr_c i9 (by rw [hcC2])⟩
    · unfold iSt
      rw [hcC 0 (by omega) (by omega), kz 1 (by omega)]
      exact i5
    · unfold iFl
      rw [c18_3, k3, k4]
  · -- none
    unfold wP
    rw [k1, if_pos rfl, if_neg (show ¬ (false, N3).1 = true from Bool.false_ne_true), R_well2]
    simp only [Option.bind_some, if_true, in_5_44, cl_5]
    have wf := Hd_wf hd hm
    have hd5 := hd.2.2.2.2.2.1
    have hC : RepC C4 25 u := by
      obtain ⟨a1, a2, a3, a4, a5, a6, a7, a8⟩ := hd
      refine ⟨?_, ?_, ?_, ?_, ?_, ?_, fun g hg => ?_, fun g hg k hk => ?_, fun s hs => ?_⟩
      · rw [show C4.1 25 = fC C3 0 from cfC 0 (by omega)]; exact a1.1
      · rw [show C4.1 25 = fC C3 0 from cfC 0 (by omega), a6]; exact h01
      · rw [cfC 1 (by omega)]; exact a3.1
      · rw [cfC 1 (by omega)]; exact a4.1
      · rw [cfC 1 (by omega)]; exact a5.1
      · rw [cfC 1 (by omega)]; exact a2.1
      · rw [cfC 2 (by omega)]; exact (a8 g (by omega)).1
      · rw [cfC 3 (by omega)]; exact ((a8 g (by omega)).2.2 k hk).1
      · rw [show C4.1 (25 + 4) s = -1 from c29 s hs, a7 s hs]; rfl
    obtain ⟨C5, b1, b2, b3, b4⟩ := C_becomes (p := 20) (q := 25) (by omega) wf.m5 hC
    rw [b1]
    simp only [Option.bind_some, fX0_forgetAll]
    have hR : RepA ((blk (wq_st N3 0 9 0) 4 0 5 0 44).1 4) u := by
      have := RepA_blk (M := wq_st N3 0 9 0) (q := 4) (D := 0) (p := 5) (S := 0) (v := u) (by rw [wq_st_ne (by omega)]; exact RepA_0.mpr ru)
      exact RepA_0.mp this
    rw [wq_st_ne (show 20 ≠ 47 by omega), b2.2.1, hR.1 5 (by omega)]
    have hN : ∀ q, q ≠ 0 → q ≠ 4 → q ≠ 5 → (blk (wq_st N3 0 9 0) 4 0 5 0 44).1 q = N.1 q := fun q x y z => by rw [blk_ne y, wq_st_ne x, ks q x z]
    have hN0 : ∀ j, j ≠ 9 → (blk (wq_st N3 0 9 0) 4 0 5 0 44).1 0 j = N3.1 0 j := fun j hj => by rw [blk_ne (by omega), st0_ne hj]
    have hC5 : ∀ q, q ≠ 18 → (q < 20 ∨ 30 ≤ q) → q ≠ 47 → (wq_st C5 47 2 0).1 q = Mc.1 q := fun q x y z => by rw [wq_st_ne z, b3 q (by omega), hcC q x (by omega)]
    have hC5b : (wq_st C5 47 2 0).1 18 = C4.1 18 := by rw [wq_st_ne (by omega), b3 18 (by omega)]
    have h09 : (blk (wq_st N3 0 9 0) 4 0 5 0 44).1 0 9 = 0 := by rw [blk_ne (by omega), st_eq]
    generalize blk (wq_st N3 0 9 0) 4 0 5 0 44 = N5 at hR hN hN0 h09
    refine ⟨_, _, _, rfl, rfl, u, ⟨Or.inr wf, RepC_c b2 (fun q x y => wq_st_ne (by omega)), hR⟩, ⟨0, fun _ => u, by omega, st_eq, h09, rfl, fun i hi => by omega⟩, iRow_c i3 (fun q x y => hC5 q (by omega) (by omega) (by omega)) (hN 1 (by omega) (by omega) (by omega)) (hN 2 (by omega) (by omega) (by omega)) (hN 3 (by omega) (by omega) (by omega)), ⟨0, by omega, by rw [hC5b]; exact c18_1, by rw [hN0 11 (by omega)]; exact k11, fun j hj => by omega⟩, ?_, ?_, iIm_c i7 (fun q x y => hC5 q (by omega) (by omega) (by omega)) (hN 12 (by omega) (by omega) (by omega)) (hN 13 (by omega) (by omega) (by omega)), iTr_c i8 (by rw [hC5 50 (by omega) (by omega) (by omega)]) (hC5 51 (by omega) (by omega) (by omega)) (by rw [hN0 25 (by omega), kz 25 (by omega)]) (hN 14 (by omega) (by omega) (by omega)), iSr_c i9 (by show C5.2 41 = _; rw [b4, hcC2])⟩
    · unfold iSt
      rw [hC5 0 (by omega) (by omega) (by omega), hN0 1 (by omega), kz 1 (by omega)]
      exact i5
    · unfold iFl
      rw [hC5b, c18_3, k2, hN0 18 (by omega), k3]
      exact i6
end EJ
