section EI
variable {b : Nat → Nat} {t : Nat} {L : Int32} {Mc Mr : wq_M} {F : (Nat → Nat → Int32) → (Nat → Int32) → Prop}
def FRl (L : Int32) (Mc Mr : wq_M) (r : Bool) (C N : wq_M) : Prop := kW Mc C ∧ (∀ q, q ≠ 0 → q ≠ 5 → N.1 q = Mr.1 q) ∧ (∀ j, (j < 11 ∨ 18 < j) → N.1 0 j = Mr.1 0 j) ∧ N.1 0 11 = 0 ∧ ((r = true ∧ C.1 18 5 = 1 ∧ ∃ f pl, C.1 18 3 = nI f ∧ N.1 0 18 = nI f ∧ C.1 18 2 = nI pl ∧ N.1 0 17 = nI pl) ∨ (r = false ∧ C.1 18 5 = 0 ∧ C.1 18 3 = L ∧ N.1 0 18 = Mr.1 0 18 ∧ ∃ m, (1 ≤ m ∧ m ≤ 5) ∧ Fh m (fC C) (N.1 5)))
theorem fail_J20 {C N : wq_M} (h : WS b t L Mc Mr F C N) (hf : C.1 18 5 = 1) : ∃ N', fX7_failed_J20 N = some (true, N') ∧ FRl L Mc Mr true C N' := by
  obtain ⟨⟨h1, h2, a, ha, h4, hp⟩, -, kw, ks⟩ := h
  rcases hp with ⟨g1, -⟩ | ⟨-, f, pl, hf3, hpl, e1, e2, e3, e4⟩
  · rw [g1] at hf
    exact absurd hf (by decide)
  unfold fX7_failed_J20 fX7_failed_J44
  rw [st0_ne (show 16 ≠ 11 by omega), e1, if_neg (nI_nle (by omega) (by omega)), st0_ne (show 16 ≠ 18 by omega), st0_ne (show 16 ≠ 11 by omega), e1, if_neg (nI_nle (by omega) (by omega))]
  refine ⟨_, rfl, kw, fun q x y => by rw [wq_st_ne x, wq_st_ne x, ks.1 q x y], fun j hj => by rw [st0_ne (by omega), st0_ne (by omega), ks.2 j (by omega)], by rw [st0_ne (by omega), st_eq], Or.inl ⟨rfl, hf, f, pl, e3, st_eq, e4, ?_⟩⟩
  rw [st0_ne (by omega), st0_ne (by omega), e2]
theorem fail_end {C N : wq_M} (h : WS b t L Mc Mr F C N) (hf : C.1 18 5 = 1) : ∃ N', fX7_failed N = some (true, N') ∧ FRl L Mc Mr true C N' := by
  have h16 : ¬ N.1 0 16 = 0 := by
    rcases h.1.f5 with ⟨q, -⟩ | ⟨-, q⟩
    · rw [q] at hf
      exact absurd hf (by decide)
    · exact q
  unfold fX7_failed
  rw [if_neg h16]
  exact fail_J20 h hf
theorem ok_end {C N : wq_M} {m a : Nat} (h : WS b t L Mc Mr (Fh m) C N) (hm : 1 ≤ m ∧ m ≤ 5) (hok : pOk b t L a C N) (h14 : N.1 0 14 = 1) : ∃ N', fX7_failed N = some (false, N') ∧ FRl L Mc Mr false C N' := by
  obtain ⟨-, hF, kw, ks⟩ := h
  obtain ⟨g1, g2, g3, g4⟩ := hok
  unfold fX7_failed fX7_failed_J20 fX7_failed_J44
  rw [if_pos g2, if_pos h14, st0_ne (show 16 ≠ 11 by omega), g2, if_pos (show (0 : Int32) ≤ 0 by decide), st0_ne (show 16 ≠ 18 by omega), st0_ne (show 16 ≠ 11 by omega), g2, if_pos (show (0 : Int32) ≤ 0 by decide), st0_ne (show 18 ≠ 11 by omega)]
  refine ⟨_, rfl, kw, fun q x y => by rw [wq_st_ne x, wq_st_ne x, ks.1 q x y], fun j hj => by rw [st0_ne (by omega), st0_ne (by omega), ks.2 j (by omega)], by rw [st0_ne (by omega), st_eq], Or.inr ⟨rfl, g1, g3, ?_, m, hm, ?_⟩⟩
  · rw [st_eq, ks.2 18 (by omega)]
  · rw [wq_st_ne (by omega), wq_st_ne (by omega)]
    exact hF g1
theorem C_exf {C : wq_M} (hf : C.1 18 5 = 1) (x : Int32) : fX2_read_L27 25 (x, C) = some (.inr C) := by
  unfold fX2_read_L27
  simp only []
  by_cases h : 5 < x
  · rw [if_pos h]
  · rw [if_neg h, if_neg (show ¬ C.1 18 5 = 0 by rw [hf]; decide)]
theorem loop_f {C N : wq_M} (h : WS b t L Mc Mr F C N) (hf : C.1 18 5 = 1) (x : Int32) (n n' : Nat) : ∃ N', wq_lp (fX2_read_L27 25) (n + 1) (x, C) = some C ∧ (wq_lp (fX7_well_L166) (n' + 1) N).bind fX7_failed = some (true, N') ∧ FRl L Mc Mr true C N' := by
  have h16 : ¬ N.1 0 16 = 0 := by
    rcases h.1.f5 with ⟨q, -⟩ | ⟨-, q⟩
    · rw [q] at hf
      exact absurd hf (by decide)
    · exact q
  obtain ⟨N', e1, e2⟩ := fail_end h hf
  refine ⟨N', lp_exit (C_exf hf x), ?_, e2⟩
  rw [lp_exit (show fX7_well_L166 N = some (.inr N) by unfold fX7_well_L166; rw [R_isSortf h16]; rfl)]
  exact e1
theorem J27f {C : wq_M} (hf : C.1 18 5 = 1) (x y : Int32) : fX2_readGrade_J27 25 x y C = some C := by
  unfold fX2_readGrade_J27
  rw [if_neg (show ¬ C.1 18 5 = 0 by rw [hf]; decide)]
/-- a word that begins no grade -/
theorem grade_no {C N : wq_M} {a : Nat} (h : WS b t L Mc Mr F C N) (ha : a ≤ t) (h4 : C.1 18 4 = nI a) (hn : ¬ (a < t ∧ ¬ kd (b a) = 0)) (x : Int32) : ∃ C' N', fX2_readGrade 25 x C = some C' ∧ fX7_bad 1 N = some N' ∧ WS b t L Mc Mr F C' N' ∧ C'.1 18 5 = 1 ∧ ¬ N'.1 0 16 = 0 := by
  obtain ⟨p1, p2, -⟩ := id h.1
  obtain ⟨C', N', e1, e2, e3, e4, e5, e6, e7⟩ := fail_both h.1 (f := 1) (by omega)
  refine ⟨C', N', ?_, e2, ws_k h e3 e4 e5, e6, e7⟩
  unfold fX2_readGrade
  rw [C_kind p1 (fun j hj => (p2.2.2 j hj).1) p2.1 ha h4]
  have hz : (if a < t then kd (b a) else 0) = 0 := by
    by_cases hlt : a < t
    · rw [if_pos hlt]
      by_cases q : kd (b a) = 0
      · exact q
      · exact absurd ⟨hlt, q⟩ hn
    · rw [if_neg hlt]
  rw [hz]
  simp only [Option.bind_some]
  rw [if_pos (show nI 0 = 0 by decide), show (1 : Int32) = nI 1 from rfl, e1]
  exact J27f e6 _ _
theorem grade_six {C N : wq_M} {a : Nat} (h : WS b t L Mc Mr (Fh 5) C N) (h4 : C.1 18 4 = nI a) (hok : pOk b t L a C N) (hat : a < t) (hk : ¬ kd (b a) = 0) : ∃ C' N', fX2_readGrade 25 (nI 5) C = some C' ∧ fX7_readGrade N = some N' ∧ WS b t L Mc Mr (Fh 5) C' N' ∧ C'.1 18 5 = 1 := by
  obtain ⟨p1, p2, -⟩ := id h.1
  obtain ⟨g1, g2, g3, g4⟩ := hok
  obtain ⟨v0, r0, hd0, -⟩ := h.2.1 g1
  have hN5 : N.1 5 5 = nI 5 := by rw [r0.1 5 (by omega), hd0.2.2.2.2.2.1]
  have hb : ∀ j, j < t → b j < 256 := fun j hj => (p2.2.2 j hj).1
  have hkl := kd_le (b a)
  have htok : N.1 0 15 = nI (b a) := by
    have hl := kd_l hk
    obtain ⟨h13, h | h | h | h | h | h | h⟩ := g4
    · omega
    · exact h.2.2.2.1
    · omega
    · have := h.1.2; omega
    · have := h.1.2; omega
    · have := h.1.2; omega
    · omega
  obtain ⟨C', N', e1, e2, e3, e4, e5, e6, e7⟩ := fail_both h.1 (f := 3) (by omega)
  refine ⟨C', N', ?_, ?_, ws_k h e3 e4 e5, e6⟩
  · unfold fX2_readGrade
    rw [C_kind p1 hb p2.1 (by omega) h4, if_pos hat]
    simp only [Option.bind_some]
    rw [if_neg (nI_ne0 (show 0 < kd (b a) by omega) (by omega)), if_neg (show ¬ nI 5 < 5 by decide), show (3 : Int32) = nI 3 from rfl, e1]
    exact J27f e6 _ _
  · unfold fX7_readGrade
    rw [htok, R_kindBy (hb a hat), in_5_44, cl_5, hN5]
    simp only [Option.bind_some, if_true]
    rw [if_pos (show nI 5 = 5 by decide), show (3 : Int32) = nI 3 from rfl, e2]
    exact R_23f e7 _
theorem loop_b : ∀ (d m : Nat) (C N : wq_M) (n n' : Nat), m + d = 5 → 1 ≤ m → d + 2 < n → d + 2 < n' → WS b t L Mc Mr (Fh m) C N → ∃ r C' N', wq_lp (fX2_read_L27 25) n (nI m, C) = some C' ∧ (wq_lp (fX7_well_L166) n' N).bind fX7_failed = some (r, N') ∧ FRl L Mc Mr r C' N' := by
  intro d
  induction d with
  | zero =>
    intro m C N n n' hmd hm hn hn' h
    obtain ⟨n, rfl⟩ : ∃ k, n = k + 1 + 1 := ⟨n - 2, by omega⟩
    obtain ⟨n', rfl⟩ : ∃ k, n' = k + 1 + 1 := ⟨n' - 2, by omega⟩
    have hm5 : m = 5 := by omega
    subst hm5
    obtain ⟨h1, h2, a, ha, h4, hp⟩ := id h.1
    have hb : ∀ j, j < t → b j < 256 := fun j hj => (h2.2.2 j hj).1
    have ht := h2.1
    rcases hp with hok | hno
    · have hso := R_isSort hb hok.2.1 hok.2.2.2
      have hc0 : a < t → fX2_read_L27 25 (nI 5, C) = (fX2_readGrade 25 (nI 5) C).bind fun r8 => some (.inl (nI 5 + 1, r8)) := by
        intro hlt
        unfold fX2_read_L27 fX2_read_L27_J54
        simp only []
        rw [if_neg (show ¬ 5 < nI 5 by decide), if_pos hok.1, if_neg (show ¬ nI 5 = 0 by decide), h1.1, h4, if_neg (show ¬ nI t ≤ nI a by rw [nI_leI (by omega) (by omega)]; omega)]
      by_cases hk : a < t ∧ ¬ kd (b a) = 0
      · obtain ⟨C', N', e1, e2, e3, e4⟩ := grade_six h h4 hok hk.1 hk.2
        have hc := hc0 hk.1
        rw [e1] at hc
        obtain ⟨N2, q1, q2, q3⟩ := loop_f e3 e4 (nI 5 + 1) n n'
        have hr : fX7_well_L166 N = some (.inl N') := by
          unfold fX7_well_L166
          rw [hso, decide_eq_true hk, ]
          simp only [Option.bind_some, if_true, e2]
        rw [lp_step hc, lp_step hr]
        exact ⟨true, C', N2, q1, q2, q3⟩
      · have hr : fX7_well_L166 N = some (.inr N) := by
          unfold fX7_well_L166
          rw [hso, decide_eq_false hk]
          rfl
        rw [lp_exit hr]
        by_cases hlt : a < t
        · obtain ⟨C', N', e1, e2, e3, e4, e5⟩ := grade_no h ha h4 hk (nI 5)
          have hc := hc0 hlt
          rw [e1] at hc
          rw [lp_step hc, lp_exit (C_exf e4 _)]
          obtain ⟨N2, q1, q2⟩ := fail_J20 e3 e4
          refine ⟨true, C', N2, rfl, ?_, q2⟩
          show fX7_failed N = _
          unfold fX7_failed
          rw [if_pos hok.2.1, if_neg, e2]
          · exact q1
          · obtain ⟨-, -, -, h13, tk⟩ := hok
            rcases tk with q | q | q | q | q | q | q
            · omega
            · rw [q.2.2.1]; decide
            · rw [q.2.2.1]; decide
            · rw [q.2.2.1]; decide
            · rw [q.2.2.2.1]; decide
            · rw [q.2.2.2]; decide
            · rw [q.2.2.2.2]; decide
        · have hat : a = t := by omega
          have h14 : N.1 0 14 = 1 := by
            obtain ⟨-, -, -, h13, tk⟩ := hok
            rcases tk with q | q | q | q | q | q | q
            · exact q.2
            · omega
            · omega
            · have := q.1.1; omega
            · have := q.1.1; omega
            · have := q.1.1; omega
            · omega
          obtain ⟨N2, q1, q2⟩ := ok_end h (by omega) hok h14
          refine ⟨false, C, N2, lp_exit ?_, q1, q2⟩
          unfold fX2_read_L27
          simp only []
          rw [if_neg (show ¬ 5 < nI 5 by decide), if_pos hok.1, if_neg (show ¬ nI 5 = 0 by decide), h1.1, h4, if_pos (show nI t ≤ nI a by rw [nI_leI (by omega) (by omega)]; omega)]
    · obtain ⟨N2, q1, q2, q3⟩ := loop_f h hno.1 (nI 5) (n + 1) (n' + 1)
      exact ⟨true, C, N2, q1, q2, q3⟩
  | succ d ih =>
    intro m C N n n' hmd hm hn hn' h
    obtain ⟨n, rfl⟩ : ∃ k, n = k + 1 + 1 := ⟨n - 2, by omega⟩
    obtain ⟨n', rfl⟩ : ∃ k, n' = k + 1 + 1 := ⟨n' - 2, by omega⟩
    obtain ⟨h1, h2, a, ha, h4, hp⟩ := id h.1
    have hb : ∀ j, j < t → b j < 256 := fun j hj => (h2.2.2 j hj).1
    have ht := h2.1
    rcases hp with hok | hno
    · have hso := R_isSort hb hok.2.1 hok.2.2.2
      have hc0 : a < t → fX2_read_L27 25 (nI m, C) = (fX2_readGrade 25 (nI m) C).bind fun r8 => some (.inl (nI m + 1, r8)) := by
        intro hlt
        unfold fX2_read_L27 fX2_read_L27_J54
        simp only []
        rw [if_neg (show ¬ 5 < nI m by rw [lit_nI 5, nI_ltI (by omega) (by omega)]; omega), if_pos hok.1, if_neg (nI_ne0 (by omega) (by omega)), h1.1, h4, if_neg (show ¬ nI t ≤ nI a by rw [nI_leI (by omega) (by omega)]; omega)]
      by_cases hk : a < t ∧ ¬ kd (b a) = 0
      · obtain ⟨C', N', e1, e2, e3⟩ := grade_both (show m < 5 by omega) h h4 hok hk.1 hk.2
        have hc := hc0 hk.1
        rw [e1, nI_1] at hc
        have hr : fX7_well_L166 N = some (.inl N') := by
          unfold fX7_well_L166
          rw [hso, decide_eq_true hk]
          simp only [Option.bind_some, if_true, e2]
        rw [lp_step hc, lp_step hr]
        exact ih (m + 1) C' N' (n + 1) (n' + 1) (by omega) (by omega) (by omega) (by omega) e3
      · have hr : fX7_well_L166 N = some (.inr N) := by
          unfold fX7_well_L166
          rw [hso, decide_eq_false hk]
          rfl
        rw [lp_exit hr]
        by_cases hlt : a < t
        · obtain ⟨C', N', e1, e2, e3, e4, e5⟩ := grade_no h ha h4 hk (nI m)
          have hc := hc0 hlt
          rw [e1] at hc
          rw [lp_step hc, lp_exit (C_exf e4 _)]
          obtain ⟨N2, q1, q2⟩ := fail_J20 e3 e4
          refine ⟨true, C', N2, rfl, ?_, q2⟩
          show fX7_failed N = _
          unfold fX7_failed
          rw [if_pos hok.2.1, if_neg, e2]
          · exact q1
          · obtain ⟨-, -, -, h13, tk⟩ := hok
            rcases tk with q | q | q | q | q | q | q
            · omega
            · rw [q.2.2.1]; decide
            · rw [q.2.2.1]; decide
            · rw [q.2.2.1]; decide
            · rw [q.2.2.2.1]; decide
            · rw [q.2.2.2]; decide
            · rw [q.2.2.2.2]; decide
        · have hat : a = t := by omega
          have h14 : N.1 0 14 = 1 := by
            obtain ⟨-, -, -, h13, tk⟩ := hok
            rcases tk with q | q | q | q | q | q | q
            · exact q.2
            · omega
            · omega
            · have := q.1.1; omega
            · have := q.1.1; omega
            · have := q.1.1; omega
            · omega
          obtain ⟨N2, q1, q2⟩ := ok_end h (by omega) hok h14
          refine ⟨false, C, N2, lp_exit ?_, q1, q2⟩
          unfold fX2_read_L27
          simp only []
          rw [if_neg (show ¬ 5 < nI m by rw [lit_nI 5, nI_ltI (by omega) (by omega)]; omega), if_pos hok.1, if_neg (nI_ne0 (by omega) (by omega)), h1.1, h4, if_pos (show nI t ≤ nI a by rw [nI_leI (by omega) (by omega)]; omega)]
    · obtain ⟨N2, q1, q2, q3⟩ := loop_f h hno.1 (nI m) (n + 1) (n' + 1)
      exact ⟨true, C, N2, q1, q2, q3⟩
/-- all the grades, from the first -/
theorem loop_a {C N : wq_M} (h : WS b t L Mc Mr (Fh 0) C N) : ∃ r C' N', wq_lp (fX2_read_L27 25) wq_FU (0, C) = some C' ∧ ((fX7_isSort N).bind fun r42 => (if r42 = true then (wq_lp (fX7_well_L166) wq_FU N).bind fX7_failed else (fX7_bad 1 N).bind fun r61 => (wq_lp (fX7_well_L166) wq_FU r61).bind fX7_failed)) = some (r, N') ∧ FRl L Mc Mr r C' N' := by
  obtain ⟨h1, h2, a, ha, h4, hp⟩ := id h.1
  have hb : ∀ j, j < t → b j < 256 := fun j hj => (h2.2.2 j hj).1
  have ht := h2.1
  rcases hp with hok | hno
  · have hso := R_isSort hb hok.2.1 hok.2.2.2
    have hc0 : fX2_read_L27 25 (0, C) = (fX2_readGrade 25 (nI 0) C).bind fun r8 => some (.inl (nI 0 + 1, r8)) := by
      unfold fX2_read_L27 fX2_read_L27_J54
      simp only []
      rw [if_neg (show ¬ (5 : Int32) < 0 by decide), if_pos hok.1]
      rfl
    by_cases hk : a < t ∧ ¬ kd (b a) = 0
    · rw [hso, decide_eq_true hk]
      simp only [Option.bind_some, if_true]
      obtain ⟨C', N', e1, e2, e3⟩ := grade_both (show 0 < 5 by omega) h h4 hok hk.1 hk.2
      rw [e1, nI_1] at hc0
      have hr : fX7_well_L166 N = some (.inl N') := by
        unfold fX7_well_L166
        rw [hso, decide_eq_true hk]
        simp only [Option.bind_some, if_true, e2]
      rw [FU_succ, lp_step hc0, lp_step hr]
      exact loop_b 4 1 C' N' 99999 99999 (by omega) (by omega) (by omega) (by omega) e3
    · rw [hso, decide_eq_false hk]
      simp only [Option.bind_some, if_false, Bool.false_eq_true]
      obtain ⟨C', N', e1, e2, e3, e4, e5⟩ := grade_no h ha h4 hk (nI 0)
      rw [e1] at hc0
      rw [e2]
      simp only [Option.bind_some]
      rw [FU_succ, lp_step hc0]
      obtain ⟨N2, q1, q2, q3⟩ := loop_f e3 e4 (nI 0 + 1) 99998 99999
      exact ⟨true, C', N2, q1, q2, q3⟩
  · have h16 : ¬ N.1 0 16 = 0 := by
      rcases h.1.f5 with ⟨q, -⟩ | ⟨-, q⟩
      · rw [hno.1] at q
        exact absurd q (by decide)
      · exact q
    rw [R_isSortf h16, R_badf h16]
    simp only [Option.bind_some, if_false, Bool.false_eq_true]
    obtain ⟨N2, q1, q2, q3⟩ := loop_f h hno.1 0 99999 99999
    exact ⟨true, C, N2, q1, q2, q3⟩
def frs (M : wq_M) (i : Nat) : wq_M := (fun q k => if q = 5 then (if k < i then (if k < 36 then 0 else -1) else M.1 q k) else M.1 q k, M.2)
theorem R_frs (M : wq_M) : wq_lp (fX7_well_L11) wq_FU (0, M) = some (frs M 44) := by
  have hs : ∀ (i : Nat) (x : Int32), x = (if i < 36 then 0 else -1) → wq_st (frs M i) 5 i x = frs M (i + 1) := by
    intro i x hx
    unfold wq_st frs
    simp only [Prod.mk.injEq, and_true]
    funext q k
    by_cases hq : q = 5
    · simp only [hq, if_true]
      by_cases hk : k = i
      · rw [if_pos hk, if_pos (by omega), hk, hx]
      · rw [if_neg hk]
        by_cases h2 : k < i
        · rw [if_pos h2, if_pos (show k < i + 1 by omega)]
        · rw [if_neg h2, if_neg (by omega)]
    · simp [hq]
  have key := lp_run (body := fX7_well_L11) (fun i => (nI i, frs M i)) 44 (y := frs M 44) (n := wq_FU) (fun i hi => by
    unfold fX7_well_L11
    simp only []
    rw [if_neg (show ¬ 44 ≤ nI i by rw [lit_nI 44, nI_leI (by omega) (by omega)]; omega), in_nI hi (by omega), cl_nI (by omega), nI_1]
    simp only [if_true]
    by_cases h36 : i < 36
    · rw [if_pos (show nI i < 36 by rw [lit_nI 36, nI_ltI (by omega) (by omega)]; exact h36), hs i 0 (by rw [if_pos h36])]
    · rw [if_neg (show ¬ nI i < 36 by rw [lit_nI 36, nI_ltI (by omega) (by omega)]; exact h36), hs i (-1) (by rw [if_neg h36])]) (by
    unfold fX7_well_L11
    rfl) (FU_gt (by omega))
  rw [show ((0 : Int32), M) = (fun i => (nI i, frs M i)) 0 by
    simp only [frs]
    rw [show (fun q k => if q = 5 then (if k < 0 then (if k < 36 then (0 : Int32) else -1) else M.1 q k) else M.1 q k) = M.1 by
      funext q k
      by_cases hq : q = 5
      · rw [if_pos hq, if_neg (by omega)]
      · rw [if_neg hq]]
    rfl, key]
theorem R_well2 (M : wq_M) : wq_lp (fX7_well_L202) wq_FU (0, M) = some (blk M 4 0 5 0 44) := by
  have key := lp_run (body := fX7_well_L202) (fun i => (nI i, blk M 4 0 5 0 i)) 44 (y := blk M 4 0 5 0 44) (n := wq_FU) (fun i hi => by
    unfold fX7_well_L202
    simp only []
    rw [if_neg (show ¬ 44 ≤ nI i by rw [lit_nI 44, nI_leI (by omega) (by omega)]; omega), in_nI hi (by omega), cl_nI (by omega), nI_1]
    have := blk_step (M := M) (q := 4) (D := 0) (p := 5) (S := 0) (n := i) (by omega)
    rw [Nat.zero_add] at this
    rw [this]
    rfl) (by
    unfold fX7_well_L202
    rfl) (FU_gt (by omega))
  rw [show ((0 : Int32), M) = (fun i => (nI i, blk M 4 0 5 0 i)) 0 by simp only [blk_0]; rfl, key]
theorem Hd_wf {m : Nat} {f : Nat → Nat → Int32} {v : Nat → Nat} (h : Hd m f v) (hm : 1 ≤ m ∧ m ≤ 5) : WF v := by
  obtain ⟨a1, a2, a3, a4, a5, a6, a7, a8⟩ := h
  refine ⟨⟨a1.2.1, a1.2.2⟩, ⟨a2.2.1, a2.2.2⟩, by omega, a4.2, a5.2, by omega, fun g hg => ?_, fun s hs => by rw [a7 s hs]; omega, fun s _ hs => a7 s hs⟩
  obtain ⟨z1, z2, z3⟩ := a8 g (by omega)
  have q0 := (z3 0 (by omega)).2
  have q1 := (z3 1 (by omega)).2
  have q2 := (z3 2 (by omega)).2
  have q3 := (z3 3 (by omega)).2
  have q4 := (z3 4 (by omega)).2
  simp only [hF] at q0 q1 q2 q3 q4
  exact ⟨z2, q0, q1, q2, q3, q4⟩
end EI
