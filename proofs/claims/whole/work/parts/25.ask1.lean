theorem hi_f {x : Int32} {b : Nat} (hb : b < 2 ^ 30) (h : nI b < x) : ¬ x < 0 ∧ ¬ x < nI (b + 1) ∧ ¬ x ≤ nI b ∧ nI (b + 1) ≤ x := by
  rw [Int32.lt_iff_toInt_lt, nI_toInt (by omega)] at h
  refine ⟨?_, ?_, ?_, ?_⟩
  · rw [Int32.lt_iff_toInt_lt, show (0 : Int32).toInt = 0 by decide]; omega
  · rw [Int32.lt_iff_toInt_lt, nI_toInt (by omega)]; omega
  · rw [Int32.le_iff_toInt_le, nI_toInt (by omega)]; omega
  · rw [Int32.le_iff_toInt_le, nI_toInt (by omega)]; omega
section E1
variable {Mc Mr : wq_M}
theorem E_grade (hI : Inv Mc Mr) (x1 x2 : Int32) : ∃ a N, fX6_grade x1 x2 Mc = some a ∧ fX7_grade x1 x2 Mr = some (a, N) ∧ Inv Mc N := by
  unfold fX6_grade fX7_grade
  have hI := Inv_t0 hI
  generalize wq_st Mr 0 0 0 = N at hI ⊢
  obtain ⟨v, hW, -⟩ := id hI
  rcases grade_cases hW x1 with ⟨e1, e2⟩ | ⟨g, hg, rfl, wf, e1, e2⟩
  · rw [e1, e2]
    exact ⟨_, N, rfl, rfl, hI⟩
  · have hm := wf.m5
    rw [e1, e2]
    simp only [Option.bind_some, if_true]
    rw [lit_lN 0, lit_lN 4]
    rcases R_inb x2 0 4 (by omega) (by omega) N with ⟨h, e⟩ | ⟨h, e⟩ | ⟨k, h1, h2, rfl, e⟩
    · rw [if_pos (show x2 < 0 from h), e]
      exact ⟨_, N, rfl, rfl, hI⟩
    · rw [if_neg (hi_f (by omega) h).1, if_neg (show ¬ x2 < 5 from (hi_f (by omega) h).2.1), e]
      exact ⟨_, N, rfl, rfl, hI⟩
    · rw [if_neg (nI_pos (by omega)), if_pos (show nI k < 5 by rw [lit_nI 5, nI_ltI (by omega) (by omega)]; omega), C_figure hW.2.1 hm hg (by omega), e]
      simp only [Option.bind_some, if_true]
      rw [show (1 : Int32) = nI 1 from rfl, nI_add, R_of hW.2.2 (by omega) (by omega)]
      exact ⟨_, N, rfl, rfl, hI⟩
theorem E_kind (hI : Inv Mc Mr) (x1 : Int32) : ∃ a N, fX6_kind x1 Mc = some a ∧ fX7_kind x1 Mr = some (a, N) ∧ Inv Mc N := by
  unfold fX6_kind fX7_kind
  have hI := Inv_t0 hI
  generalize wq_st Mr 0 0 0 = N at hI ⊢
  obtain ⟨v, hW, -⟩ := id hI
  rcases grade_cases hW x1 with ⟨e1, e2⟩ | ⟨g, hg, rfl, wf, e1, e2⟩
  · rw [e1, e2]
    exact ⟨_, N, rfl, rfl, hI⟩
  · have hm := wf.m5
    rw [e1, e2]
    simp only [Option.bind_some, if_true]
    rw [in_nI (by omega) (by omega), cl_nI (by omega), hW.2.1.2.2.2.2.2.2.1 g hg, show (0 : Int32) = nI 0 from rfl, R_of hW.2.2 (by omega) (by omega)]
    exact ⟨_, N, rfl, rfl, hI⟩
theorem E_step (hI : Inv Mc Mr) (x1 x2 : Int32) : ∃ a N, fX6_step x1 x2 Mc = some a ∧ fX7_step x1 x2 Mr = some (a, N) ∧ Inv Mc N := by
  unfold fX6_step fX7_step
  have hI := Inv_t0 hI
  generalize wq_st Mr 0 0 0 = N at hI ⊢
  obtain ⟨v, hW, -⟩ := id hI
  rcases step_cases hW x1 with ⟨e1, e2⟩ | ⟨s, hs, rfl, wf, e1, e2⟩
  · rw [e1, e2]
    exact ⟨_, N, rfl, rfl, hI⟩
  · have h8 := wf.n8
    have hm := wf.m5
    have hl := wf.ld (s := s) (by omega)
    rw [e1, e2]
    simp only [Option.bind_some, if_true]
    by_cases z0 : x2 = 0
    · rw [if_pos z0, if_pos z0, in_nI (by omega) (by omega), cl_nI (by omega), hW.2.1.2.2.2.2.2.2.2.2 s (by omega), lit_nI 36, nI_add, in_nI (by omega) (by omega), cl_nI (by omega), hW.2.2.2 s (by omega)]
      exact ⟨_, N, rfl, rfl, hI⟩
    rw [if_neg z0, if_neg z0]
    by_cases z1 : x2 = 1
    · rw [if_pos z1, if_pos z1, C_burstLoad hW.2.1 wf (by omega), R_burstLoad hW.2.2 wf (by omega)]
      exact ⟨_, N, rfl, rfl, hI⟩
    rw [if_neg z1, if_neg z1]
    by_cases z2 : x2 = 2
    · rw [if_pos z2, if_pos z2, C_crushLoad hW.2.1, R_crushLoad hW.2.2]
      exact ⟨_, N, rfl, rfl, hI⟩
    rw [if_neg z2, if_neg z2]
    by_cases z3 : x2 = 3
    · rw [if_pos z3, if_pos z3, C_pullLoad hW.2.1 wf hs, lit_nI 36, nI_add, in_nI (by omega) (by omega), cl_nI (by omega), hW.2.2.2 s (by omega), R_hangs hW.2.2 wf (by omega)]
      simp only [if_true]
      by_cases hz : v (36 + s) = 0
      · rw [if_neg (show ¬ 0 ≤ nI (v (36 + s)) - 1 by rw [ld_ge0 (by omega)]; exact fun z => z hz), if_pos hz]
        exact ⟨_, N, rfl, rfl, hI⟩
      · rw [if_pos (show 0 ≤ nI (v (36 + s)) - 1 by rw [ld_ge0 (by omega)]; exact hz), if_neg hz]
        exact ⟨_, N, rfl, rfl, hI⟩
    rw [if_neg z3, if_neg z3]
    by_cases z4 : x2 = 4
    · rw [if_pos z4, if_pos z4, C_holds hW.2.1 wf hs, R_holds hW.2.2 wf hs]
      cases aHolds v s
      · exact ⟨_, N, rfl, rfl, hI⟩
      · exact ⟨_, N, rfl, rfl, hI⟩
    rw [if_neg z4, if_neg z4]
    by_cases z5 : x2 = 5
    · rw [if_pos z5, if_pos z5, C_sectionLength hW.2.1 wf hs, R_sectionOf hW.2.2 wf hs]
      exact ⟨_, N, rfl, rfl, hI⟩
    rw [if_neg z5, if_neg z5]
    exact ⟨_, N, rfl, rfl, hI⟩
theorem E_bears (hI : Inv Mc Mr) (x1 x2 : Int32) : ∃ a N, fX6_bears x1 x2 Mc = some a ∧ fX7_bears x1 x2 Mr = some (a, N) ∧ Inv Mc N := by
  unfold fX6_bears fX7_bears
  have hI := Inv_t0 hI
  generalize wq_st Mr 0 0 0 = N at hI ⊢
  obtain ⟨v, hW, -⟩ := id hI
  rcases step_cases hW x1 with ⟨e1, e2⟩ | ⟨s, hs, rfl, wf, e1, e2⟩
  · rw [e1, e2]
    exact ⟨_, N, rfl, rfl, hI⟩
  · have h8 := wf.n8
    have hm := wf.m5
    have hl := wf.ld (s := s) (by omega)
    rw [e1, e2]
    simp only [Option.bind_some, if_true]
    rw [lit_lN 0, lit_lN 2]
    rcases R_inb x2 0 2 (by omega) (by omega) N with ⟨h, e⟩ | ⟨h, e⟩ | ⟨k, h1, h2, rfl, e⟩
    · rw [if_pos (show x2 < 0 from h), e]
      exact ⟨_, N, rfl, rfl, hI⟩
    · rw [if_neg (hi_f (by omega) h).1, if_neg (show ¬ x2 ≤ 2 from (hi_f (by omega) h).2.2.1), e]
      exact ⟨_, N, rfl, rfl, hI⟩
    · rw [if_neg (nI_pos (by omega)), if_pos (show nI k ≤ 2 by rw [lit_nI 2, nI_leI (by omega) (by omega)]; omega), e, in_nI (by omega) (by omega), cl_nI (by omega), show Mc.1 24 s = nI (v (36 + s)) - 1 from hW.2.1.2.2.2.2.2.2.2.2 s (by omega), lit_nI 36, nI_add, in_nI (by omega) (by omega), cl_nI (by omega), hW.2.2.2 s (by omega)]
      simp only [Option.bind_some, if_true]
      by_cases hz : v (36 + s) = 0
      · rw [if_pos (show nI (v (36 + s)) - 1 = -1 by rw [ld_m1 (by omega)]; exact hz), if_neg (show ¬ 0 ≤ nI (v (36 + s)) - 1 by rw [ld_ge0 (by omega)]; exact fun z => z hz)]
        exact ⟨_, N, rfl, rfl, hI⟩
      · have hg := wf.ldg (s := s) (by omega) hz
        have hh := aHang_le wf (s := s)
        rw [if_neg (show ¬ nI (v (36 + s)) - 1 = -1 by rw [ld_m1 (by omega)]; exact hz), if_pos (show 0 ≤ nI (v (36 + s)) - 1 by rw [ld_ge0 (by omega)]; exact hz), ld_of hz, C_burstBorne hW.2.1 wf hg, R_bearsBurst hW.2.2 wf hg, C_pullLoad hW.2.1 wf hs, R_hangs hW.2.2 wf (by omega), C_pullBorne hW.2.1 wf hg, R_bearsPull hW.2.2 wf hg, if_neg hz]
        simp only [Option.bind_some]
        rw [C_crushBorne hW.2.1 wf hg (by omega), R_bearsCrush hW.2.2 wf hg (by omega)]
        by_cases z0 : nI k = 0
        · rw [if_pos z0, if_pos z0]
          exact ⟨_, N, rfl, rfl, hI⟩
        rw [if_neg z0, if_neg z0]
        by_cases z1 : nI k = 1
        · rw [if_pos z1, if_pos z1]
          exact ⟨_, N, rfl, rfl, hI⟩
        rw [if_neg z1, if_neg z1]
        exact ⟨_, N, rfl, rfl, hI⟩
theorem E_stand (hI : Inv Mc Mr) (x1 : Int32) : ∃ a N, fX6_stand x1 Mc = some a ∧ fX7_stand x1 Mr = some (a, N) ∧ Inv Mc N := by
  unfold fX6_stand fX7_stand
  have hI := Inv_t0 hI
  generalize wq_st Mr 0 0 0 = N at hI ⊢
  obtain ⟨v, hW, -⟩ := id hI
  rcases there_cases hW with ⟨e1, e2⟩ | ⟨wf, e1, e2⟩
  · rw [e1, e2]
    exact ⟨_, N, rfl, rfl, hI⟩
  · have h8 := wf.n8
    rw [e1, e2]
    simp only [Option.bind_some, if_true, Bool.false_eq_true, if_false]
    by_cases z0 : x1 = 0
    · subst z0
      simp only [if_true, in_0_44, cl_0, hW.2.1.1, hW.2.2.1 0 (by omega)]
      exact ⟨_, N, rfl, rfl, hI⟩
    rw [if_neg z0, if_neg z0]
    by_cases z1 : x1 = 1
    · subst z1
      simp only [if_true, in_1_44, cl_1, in_3_4, cl_3, show Mc.1 21 3 = nI (v 1) from hW.2.1.2.2.2.2.2.1, hW.2.2.1 1 (by omega)]
      exact ⟨_, N, rfl, rfl, hI⟩
    rw [if_neg z1, if_neg z1]
    by_cases z2 : x1 = 2
    · subst z2
      simp only [if_true, in_2_44, cl_2, in_0_4, cl_0, show Mc.1 21 0 = nI (v 2) from hW.2.1.2.2.1, hW.2.2.1 2 (by omega)]
      exact ⟨_, N, rfl, rfl, hI⟩
    rw [if_neg z2, if_neg z2]
    by_cases z3 : x1 = 3
    · subst z3
      simp only [if_true, in_3_44, cl_3, in_1_4, cl_1, show Mc.1 21 1 = nI (v 3) from hW.2.1.2.2.2.1, hW.2.2.1 3 (by omega)]
      exact ⟨_, N, rfl, rfl, hI⟩
    rw [if_neg z3, if_neg z3]
    by_cases z4 : x1 = 4
    · subst z4
      simp only [if_true, in_4_44, cl_4, in_2_4, cl_2, show Mc.1 21 2 = nI (v 4) from hW.2.1.2.2.2.2.1, hW.2.2.1 4 (by omega)]
      exact ⟨_, N, rfl, rfl, hI⟩
    rw [if_neg z4, if_neg z4]
    by_cases z5 : x1 = 5
    · rw [if_pos z5, if_pos z5, C_cost hW.2.1 wf, R_costOf hW.2.2 wf]
      exact ⟨_, N, rfl, rfl, hI⟩
    rw [if_neg z5, if_neg z5]
    by_cases z6 : x1 = 6
    · rw [if_pos z6, if_pos z6, C_heft hW.2.1 wf, show (0 : Int32) = nI 0 from rfl, R_hangs hW.2.2 wf (by omega)]
      exact ⟨_, N, rfl, rfl, hI⟩
    rw [if_neg z6, if_neg z6]
    by_cases z7 : x1 = 7
    · rw [if_pos z7, if_pos z7, C_firstThatFails hW.2.1 wf, R_firstLoose hW.2.2 wf]
      exact ⟨_, N, rfl, rfl, hI⟩
    rw [if_neg z7, if_neg z7]
    by_cases z8 : x1 = 8
    · rw [if_pos z8, if_pos z8, C_isSound hW.2.1 wf, R_isSound hW.2.2 wf]
      cases aSound v
      · exact ⟨_, N, rfl, rfl, hI⟩
      · exact ⟨_, N, rfl, rfl, hI⟩
    rw [if_neg z8, if_neg z8]
    exact ⟨_, N, rfl, rfl, hI⟩
theorem E_status (hI : Inv Mc Mr) : ∃ a N, fX6_status Mc = some a ∧ fX7_status Mr = some (a, N) ∧ Inv Mc N := by
  unfold fX6_status fX7_status
  have hI := Inv_t0 hI
  generalize wq_st Mr 0 0 0 = N at hI ⊢
  obtain ⟨v, h1, h2, h3, h4, h5, h6, h7, h8, h9⟩ := id hI
  exact ⟨_, N, rfl, by rw [show Mc.1 0 8 = N.1 0 1 from h5], hI⟩
theorem E_fault (hI : Inv Mc Mr) : ∃ a N, fX6_fault Mc = some a ∧ fX7_fault Mr = some (a, N) ∧ Inv Mc N := by
  unfold fX6_fault fX7_fault
  have hI := Inv_t0 hI
  generalize wq_st Mr 0 0 0 = N at hI ⊢
  obtain ⟨v, h1, h2, h3, h4, h5, h6, h7, h8, h9⟩ := id hI
  exact ⟨_, N, rfl, by rw [show Mc.1 18 3 = N.1 0 18 from h6], hI⟩
theorem E_trace (hI : Inv Mc Mr) (x1 : Int32) : ∃ a N, fX6_trace x1 Mc = some a ∧ fX7_trace x1 Mr = some (a, N) ∧ Inv Mc N := by
  unfold fX6_trace fX7_trace
  have hI := Inv_t0 hI
  generalize wq_st Mr 0 0 0 = N at hI ⊢
  obtain ⟨v, h1, h2, h3, h4, h5, h6, h7, ⟨t, ht, e1, e2, e3⟩, h9⟩ := id hI
  rw [e1, e2, show (0 : Int64) = (0 : Int32).toInt64 by decide, R_in]
  simp only [Option.bind_some]
  by_cases h0 : x1 < 0
  · rw [if_pos h0]
    simp only [decide_eq_false (Int32.not_le.mpr h0), Bool.false_and]
    exact ⟨_, N, rfl, rfl, hI⟩
  · rw [if_neg h0]
    obtain ⟨s, hs, rfl⟩ := nI_of h0
    rw [decide_eq_true (Int32.not_lt.mp h0)]
    by_cases hs1 : s < t
    · rw [if_neg (by rw [nI_leI (by omega) (by omega)]; omega), ld_of (by omega), decide_eq_true ((nI_leI (by omega) (by omega)).mpr (by omega)), in_nI (by omega) (by omega), cl_nI (by omega), e3 s hs1]
      exact ⟨_, N, rfl, rfl, hI⟩
    · have hne : ¬ nI s ≤ nI t - 1 := by
        rw [Int32.le_iff_toInt_le, ld_toInt (by omega), nI_toInt hs]
        omega
      rw [if_pos (by rw [nI_leI (by omega) (by omega)]; omega), decide_eq_false hne]
      exact ⟨_, N, rfl, rfl, hI⟩
end E1
