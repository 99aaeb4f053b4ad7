section E5
variable {Mc Mr : wq_M} {v : Nat → Nat}
def rowB (M : wq_M) (r : Nat) : Bool := decide (0 ≤ M.1 1 r)
theorem C_rows (h : iRow Mc Mr) : fX6_howManyRows Mc = some (nI (sSum (fun r => aB (rowB Mr r)) 0 8)) := by
  unfold fX6_howManyRows
  have key := lp_run (body := fX6_howManyRows_L4 Mc) (fun i => (nI (sSum (fun r => aB (rowB Mr r)) 0 i), nI i)) 8 (y := nI (sSum (fun r => aB (rowB Mr r)) 0 8)) (n := wq_FU) (fun i hi => by
    unfold fX6_howManyRows_L4
    simp only []
    rw [if_neg (show ¬ 8 ≤ nI i by rw [lit_nI 8, nI_leI (by omega) (by omega)]; omega), in_nI hi (by omega), cl_nI (by omega)]
    simp only [if_true, sSum, Nat.zero_add, nI_1]
    rcases row_at h hi with ⟨q1, q2, q3, q4⟩ | ⟨n, l, q1, q2, q3, q4, q5, q6, q7, q8, q9, q10⟩
    · rw [q3]
      simp [rowB, Int32.not_le.mpr q4, aB]
    · rw [q8]
      simp [rowB, q9, aB]) (by
    unfold fX6_howManyRows_L4
    rfl) (FU_gt (by omega))
  rw [show ((0 : Int32), (0 : Int32)) = (fun i => (nI (sSum (fun r => aB (rowB Mr r)) 0 i), nI i)) 0 from rfl, key]
  rfl
theorem R_rows (M : wq_M) : wq_lp (fX7_count_L54 M) wq_FU (0, 0) = some (nI (sSum (fun r => aB (rowB M r)) 0 8)) := by
  have key := lp_run (body := fX7_count_L54 M) (fun i => (nI (sSum (fun r => aB (rowB M r)) 0 i), nI i)) 8 (y := nI (sSum (fun r => aB (rowB M r)) 0 8)) (n := wq_FU) (fun i hi => by
    unfold fX7_count_L54
    simp only []
    rw [if_neg (show ¬ 8 ≤ nI i by rw [lit_nI 8, nI_leI (by omega) (by omega)]; omega), in_nI hi (by omega), cl_nI (by omega)]
    simp only [if_true, sSum, Nat.zero_add, nI_1, Int32.add_zero]
    by_cases z : M.1 1 i < 0
    · simp [rowB, z, Int32.not_le.mpr z, aB]
    · simp [rowB, z, Int32.not_lt.mp z, aB]) (by
    unfold fX7_count_L54
    rfl) (FU_gt (by omega))
  rw [show ((0 : Int32), (0 : Int32)) = (fun i => (nI (sSum (fun r => aB (rowB M r)) 0 i), nI i)) 0 from rfl, key]
theorem R_laidN {M : wq_M} (hR : RepA (M.1 4) v) (h : WF v) : wq_lp (fX7_count_L101 M) wq_FU (0, 0) = some (nI (aLaidN v)) := by
  have h8 := h.n8
  have hm := h.m5
  have key := lp_run (body := fX7_count_L101 M) (fun i => (nI (sSum (fun s => aB (decide (v (36 + s) ≠ 0))) 0 i), nI i)) (v 0) (y := nI (aLaidN v)) (n := wq_FU) (fun i hi => by
    have hl := h.ld (s := i) (by omega)
    unfold fX7_count_L101
    simp only [in_0_44, cl_0, hR.1 0 (by omega), if_true]
    rw [if_neg (show ¬ nI (v 0) ≤ nI i by rw [nI_leI (by omega) (by omega)]; omega), lit_nI 36, nI_add, in_nI (by omega) (by omega), cl_nI (by omega), hR.2 i (by omega)]
    simp only [if_true, sSum, Nat.zero_add, nI_1, ld_lt0 (show v (36 + i) < 1000 by omega), Int32.add_zero]
    by_cases hz : v (36 + i) = 0 <;> simp [hz, aB]) (by
    unfold fX7_count_L101
    simp only [in_0_44, cl_0, hR.1 0 (by omega), if_true]
    rw [if_pos (show nI (v 0) ≤ nI (v 0) from Int32.le_refl _)]
    rfl) (FU_gt (by omega))
  rw [show ((0 : Int32), (0 : Int32)) = (fun i => (nI (sSum (fun s => aB (decide (v (36 + s) ≠ 0))) 0 i), nI i)) 0 from rfl, key]
theorem FU_succ : wq_FU = 99999 + 1 := rfl
theorem E_count (hI : Inv Mc Mr) (x1 : Int32) : ∃ a N, fX6_count x1 Mc = some a ∧ fX7_count x1 Mr = some (a, N) ∧ Inv Mc N := by
  unfold fX6_count fX7_count
  have hI := Inv_t0 hI
  generalize wq_st Mr 0 0 0 = N at hI ⊢
  obtain ⟨v, hW, ⟨k, V, a1, a2, a3, a4⟩, g3, ⟨t, t1, t2, t3, t4⟩, -⟩ := id hI
  by_cases z0 : x1 = 0
  · rw [if_pos z0, if_pos z0, C_rows g3, R_rows]
    exact ⟨_, N, rfl, rfl, hI⟩
  rw [if_neg z0, if_neg z0]
  by_cases z1 : x1 = 1
  · rw [if_pos z1, if_pos z1, hW.2.1.2.1, in_5_44, cl_5, hW.2.2.1 5 (by omega)]
    exact ⟨_, N, rfl, rfl, hI⟩
  rw [if_neg z1, if_neg z1]
  by_cases z2 : x1 = 2
  · rw [if_pos z2, if_pos z2, hW.2.1.1, in_0_44, cl_0, hW.2.2.1 0 (by omega)]
    exact ⟨_, N, rfl, rfl, hI⟩
  rw [if_neg z2, if_neg z2]
  by_cases z3 : x1 = 3
  · rw [if_pos z3, if_pos z3]
    rcases hW.1 with ⟨n0, m0⟩ | wf
    · have c : fX5_howManyLaid 20 Mc = some 0 := by
        unfold fX5_howManyLaid
        rw [FU_succ, lp_exit (y := 0)]
        · rfl
        · unfold fX5_howManyLaid_L4
          rw [hW.2.1.1, n0]
          rfl
      have r : wq_lp (fX7_count_L101 N) wq_FU (0, 0) = some 0 := by
        rw [FU_succ, lp_exit (y := 0)]
        unfold fX7_count_L101
        rw [in_0_44, cl_0, hW.2.2.1 0 (by omega), n0]
        rfl
      rw [c, r]
      exact ⟨_, N, rfl, rfl, hI⟩
    · rw [C_howManyLaid hW.2.1 wf, R_laidN hW.2.2 wf]
      exact ⟨_, N, rfl, rfl, hI⟩
  rw [if_neg z3, if_neg z3]
  by_cases z4 : x1 = 4
  · rw [if_pos z4, if_pos z4]
    rcases hW.1 with ⟨n0, m0⟩ | wf
    · have c : fX5_howManySections 20 Mc = some 0 := by
        unfold fX5_howManySections
        rw [FU_succ, lp_exit (y := 0)]
        · rfl
        · unfold fX5_howManySections_L4
          rw [hW.2.1.1, n0]
          rfl
      have r : fX7_sections 4 N = some 0 := by
        unfold fX7_sections
        rw [FU_succ, lp_exit (y := 0)]
        · rfl
        · unfold fX7_sections_L4
          rw [in_0_44, cl_0, hW.2.2.1 0 (by omega), n0]
          rfl
      rw [c, r]
      exact ⟨_, N, rfl, rfl, hI⟩
    · rw [C_howManySections hW.2.1 wf, R_sections hW.2.2 wf]
      exact ⟨_, N, rfl, rfl, hI⟩
  rw [if_neg z4, if_neg z4]
  by_cases z5 : x1 = 5
  · rw [if_pos z5, if_pos z5, a2, a3]
    exact ⟨_, N, rfl, rfl, hI⟩
  rw [if_neg z5, if_neg z5]
  by_cases z6 : x1 = 6
  · rw [if_pos z6, if_pos z6, t2, t3]
    exact ⟨_, N, rfl, rfl, hI⟩
  rw [if_neg z6, if_neg z6]
  exact ⟨_, N, rfl, rfl, hI⟩
theorem as_tab : ∀ k j : Fin 6, (1 ≤ k.val) → (decide (j.val = 0) || decide (j.val = k.val) || decide (nI j.val = wq_sf 3 k.val)) = (decide (j.val = 0) || decide (k.val = j.val) || (decide (j.val = 1) && decide (k.val < 4)) || (decide (j.val = 4) && decide (k.val = 5))) := by decide
theorem R_isOf (M : wq_M) {k j : Nat} (hk : k < 6) (hj : j < 6) : fX7_isOf (nI k) (nI j) M = some (decide (j = 0) || decide (k = j) || (decide (j = 1) && decide (k < 4)) || (decide (j = 4) && decide (k = 5))) := by
  unfold fX7_isOf fX7_isOf_J19
  simp only [lit_nI 0, lit_nI 1, lit_nI 4, lit_nI 5, nI_eq (show j < 2 ^ 31 by omega) (show 0 < 2 ^ 31 by omega), nI_eq (show k < 2 ^ 31 by omega) (show j < 2 ^ 31 by omega), nI_eq (show j < 2 ^ 31 by omega) (show 1 < 2 ^ 31 by omega), nI_eq (show j < 2 ^ 31 by omega) (show 4 < 2 ^ 31 by omega), nI_eq (show k < 2 ^ 31 by omega) (show 5 < 2 ^ 31 by omega), nI_ltI (show k < 2 ^ 31 by omega) (show 4 < 2 ^ 31 by omega)]
  by_cases h0 : j = 0
  · simp [h0]
  · by_cases h1 : k = j
    · simp [h1]
    · by_cases h2 : j = 1
      · have h1' : ¬ k = 1 := by omega
        by_cases h3 : k < 4 <;> simp [h1', h2, h3]
      · by_cases h4 : j = 4
        · have h1' : ¬ k = 4 := by omega
          by_cases h5 : k = 5 <;> simp [h1', h4, h5]
        · simp [h0, h1, h2, h4]
theorem E_as (hI : Inv Mc Mr) (x1 x2 : Int32) : ∃ a C N, fX6_as x1 x2 Mc = some (a, C) ∧ fX7_as x1 x2 Mr = some (a, N) ∧ Inv C N := by
  unfold fX6_as fX7_as
  have hI := Inv_t0 hI
  generalize wq_st Mr 0 0 0 = N at hI ⊢
  obtain ⟨v, hW, -⟩ := id hI
  rcases grade_cases hW x1 with ⟨e1, e2⟩ | ⟨g, hg, rfl, wf, e1, e2⟩
  · rw [e1, e2]
    exact ⟨_, Mc, N, rfl, rfl, hI⟩
  have hm := wf.m5
  have hk := (wf.gr hg).1
  rw [e1, e2]
  simp only [Option.bind_some, if_true]
  rw [lit_lN 0, lit_lN 5]
  rcases R_inb x2 0 5 (by omega) (by omega) N with ⟨h, e⟩ | ⟨h, e⟩ | ⟨j, h1, h2, rfl, e⟩
  · rw [if_pos (show x2 < 0 from h), e]
    exact ⟨_, Mc, N, rfl, rfl, hI⟩
  · rw [if_neg (hi_f (by omega) h).1, if_neg (show ¬ x2 ≤ 5 from (hi_f (by omega) h).2.2.1), e]
    exact ⟨_, Mc, N, rfl, rfl, hI⟩
  · rw [if_neg (show ¬ nI j < 0 from nI_pos (by omega)), if_pos (show nI j ≤ 5 by rw [lit_nI 5, nI_leI (by omega) (by omega)]; omega), e]
    have hR1 : RepA ((wq_st N 0 1 0).1 4) v := by rw [wq_st_ne (by omega)]; exact hW.2.2
    rw [in_nI (show g < 5 by omega) (by omega), cl_nI (by omega), show Mc.1 22 g = nI (v (6 + 6 * g)) from hW.2.1.2.2.2.2.2.2.1 g hg]
    simp only [Option.bind_some, if_true]
    rw [show fX7_of 4 (nI g) 0 (wq_st N 0 1 0) = some (nI (v (6 + 6 * g))) from R_of hR1 (k := 0) (by omega) (by omega)]
    simp only [Option.bind_some]
    rw [R_isOf _ (by omega) (by omega), in_nI (show v (6 + 6 * g) < 6 by omega) (by omega), cl_nI (show v (6 + 6 * g) < 2 ^ 31 by omega)]
    have tab := as_tab ⟨v (6 + 6 * g), by omega⟩ ⟨j, by omega⟩ hk.1
    simp only [] at tab
    rw [← tab]
    simp only [Option.bind_some, if_true, fX6_passed, fX6_found, fX7_finding, st_idem]
    by_cases z0 : j = 0
    · subst z0
      rw [if_pos (show nI 0 = 0 from rfl)]
      exact ⟨_, _, _, rfl, rfl, Inv_found hI 0⟩
    rw [if_neg (show ¬ nI j = 0 from nI_ne0 (by omega) (by omega))]
    by_cases z1 : j = v (6 + 6 * g)
    · rw [if_pos (show nI j = nI (v (6 + 6 * g)) by rw [z1]), decide_eq_true z1]
      simp only [Bool.or_true, Bool.true_or, if_true]
      exact ⟨_, _, _, rfl, rfl, Inv_found hI 0⟩
    rw [if_neg (show ¬ nI j = nI (v (6 + 6 * g)) by rw [nI_eq (by omega) (by omega)]; exact z1)]
    by_cases z2 : nI j = wq_sf 3 (v (6 + 6 * g))
    · rw [if_pos z2, decide_eq_true z2]
      simp only [Bool.or_true, if_true]
      exact ⟨_, _, _, rfl, rfl, Inv_found hI 0⟩
    · rw [if_neg z2, decide_eq_false z0, decide_eq_false z1, decide_eq_false z2]
      exact ⟨_, _, _, rfl, rfl, Inv_found hI 3⟩
end E5
