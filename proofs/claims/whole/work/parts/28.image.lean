section E4
variable {Mc Mr : wq_M}
theorem E_feed (hI : Inv Mc Mr) (x1 : Int32) : ∃ a C N, fX6_feed x1 Mc = some (a, C) ∧ fX7_feed x1 Mr = some (a, N) ∧ Inv C N := by
  unfold fX6_feed fX7_feed
  have hI := Inv_t0 hI
  generalize wq_st Mr 0 0 0 = N at hI ⊢
  rw [lit_lN 0, lit_lN 255]
  rcases R_inb x1 0 255 (by omega) (by omega) N with ⟨h, e⟩ | ⟨h, e⟩ | ⟨k, h1, h2, rfl, e⟩
  · rw [if_pos (show x1 < 0 from h), e]
    exact ⟨_, Mc, N, rfl, rfl, hI⟩
  · rw [if_neg (hi_f (by omega) h).1, if_neg (show ¬ x1 ≤ 255 from (hi_f (by omega) h).2.2.1), e]
    exact ⟨_, Mc, N, rfl, rfl, hI⟩
  · rw [if_neg (nI_pos (by omega)), if_pos (show nI k ≤ 255 by rw [lit_nI 255, nI_leI (by omega) (by omega)]; omega), e]
    obtain ⟨v, g1, g2, g3, ⟨t, ht, e1, e2, e3⟩, g5, g6, g7, g8, g9⟩ := id hI
    unfold fX2_take
    rw [e1, e2]
    simp only [Option.bind_some, if_true]
    by_cases h130 : t = 130
    · subst h130
      rw [if_neg (show ¬ nI 130 < 130 by decide), if_pos (show nI 130 = 130 by decide)]
      exact ⟨_, _, _, rfl, rfl, hI⟩
    · rw [if_pos (show nI t < 130 by rw [lit_nI 130, nI_ltI (by omega) (by omega)]; omega), if_neg (show ¬ nI t = 130 by rw [lit_nI 130, nI_eq (by omega) (by omega)]; exact h130), in_nI (by omega) (by omega), cl_nI (by omega), wq_st_ne (show 18 ≠ 19 by omega), wq_st_ne (show 0 ≠ 8 by omega), e1, e2, nI_1]
      simp only [Option.bind_some, if_true, st_eq]
      refine ⟨_, _, _, rfl, rfl, ?_⟩
      refine ⟨v, iWe_c g1 (fun q a b => by rw [wq_st_ne (by omega), wq_st_ne (by omega)]) (by rw [wq_st_ne (by omega), wq_st_ne (by omega)]), iAc_c g2 (by rw [wq_st_ne (by omega), wq_st_ne (by omega)]) (by rw [wq_st_ne (by omega), wq_st_ne (by omega)]) (by rw [wq_st_ne (by omega), wq_st_ne (by omega)]) (by rw [st0_ne (by omega), wq_st_ne (by omega)]) (by rw [wq_st_ne (by omega), wq_st_ne (by omega)]), iRow_c g3 (fun q a b => by rw [wq_st_ne (by omega), wq_st_ne (by omega)]) (by rw [wq_st_ne (by omega), wq_st_ne (by omega)]) (by rw [wq_st_ne (by omega), wq_st_ne (by omega)]) (by rw [wq_st_ne (by omega), wq_st_ne (by omega)]), ⟨t + 1, by omega, st_eq, st_eq, fun j hj => ?_⟩, ?_, ?_, iIm_c g7 (fun q a b => by rw [wq_st_ne (by omega), wq_st_ne (by omega)]) (by rw [wq_st_ne (by omega), wq_st_ne (by omega)]) (by rw [wq_st_ne (by omega), wq_st_ne (by omega)]), iTr_c g8 (by rw [wq_st_ne (by omega), wq_st_ne (by omega)]) (by rw [wq_st_ne (by omega), wq_st_ne (by omega)]) (by rw [st0_ne (by omega), wq_st_ne (by omega)]) (by rw [wq_st_ne (by omega), wq_st_ne (by omega)]), g9⟩
      · rw [wq_st_ne (show 19 ≠ 18 by omega), wq_st_ne (show 8 ≠ 0 by omega)]
        by_cases hjt : j = t
        · subst hjt
          exact ⟨k, by omega, st_eq, st_eq⟩
        · rw [st_ne2 hjt, st_ne2 hjt]
          exact e3 j (by omega)
      · unfold iSt
        rw [wq_st_ne (by omega), wq_st_ne (by omega), st0_ne (by omega), wq_st_ne (by omega)]
        exact g5
      · unfold iFl
        rw [st_ne2 (by omega), wq_st_ne (by omega), st0_ne (by omega), wq_st_ne (by omega)]
        exact g6
theorem cpk_ok {n : Nat} (h : n < 2 ^ 31) : wq_cpk 0 0 (nI n) n n = true := by
  simp only [wq_cpk, Bool.and_eq_true, decide_eq_true_eq]
  rw [cl_nI h, cl_0]
  exact ⟨⟨⟨⟨by decide, by decide⟩, nI_pos' h⟩, by omega⟩, by omega⟩
theorem C_becomes {M : wq_M} {p q : Nat} {v : Nat → Nat} (hpq : p + 5 ≤ q ∨ q + 5 ≤ p) (hm : v 5 ≤ 5) (h : RepC M q v) : ∃ M', fX5_becomes p q M = some M' ∧ RepC M' p v ∧ (∀ r, (r < p ∨ p + 5 ≤ r) → M'.1 r = M.1 r) ∧ M'.2 = M.2 := by
  unfold fX5_becomes
  rw [show wq_cpk 0 0 4 4 4 = true from cpk_ok (n := 4) (by omega), show wq_cpk 0 0 5 5 5 = true from cpk_ok (n := 5) (by omega), show wq_cpk 0 0 25 25 25 = true from cpk_ok (n := 25) (by omega), show wq_cpk 0 0 8 8 8 = true from cpk_ok (n := 8) (by omega)]
  simp only [if_true, cl_0, cl_4, cl_5, cl_25, cl_8]
  refine ⟨_, rfl, ?_, fun r hr => ?_, rfl⟩
  · obtain ⟨a1, a2, a3, a4, a5, a6, a7, a8, a9⟩ := h
    have hr0 : ∀ j, j < 4 → (wq_cp (wq_cp (wq_cp (wq_cp (wq_st (wq_st M p 0 (M.1 q 0)) p 1 ((wq_st M p 0 (M.1 q 0)).1 q 1)) (q + 1) 0 (p + 1) 0 4) (q + 2) 0 (p + 2) 0 5) (q + 3) 0 (p + 3) 0 25) (q + 4) 0 (p + 4) 0 8).1 (p + 1) j = M.1 (q + 1) j := by
      intro j hj
      rw [wq_cp_ne (by omega), wq_cp_ne (by omega), wq_cp_ne (by omega), wq_cp_self, sb_cpy0 hj, wq_st_ne (by omega), wq_st_ne (by omega)]
    refine ⟨?_, ?_, ?_, ?_, ?_, ?_, fun g hg => ?_, fun g hg k hk => ?_, fun s hs => ?_⟩
    · rw [wq_cp_ne (by omega), wq_cp_ne (by omega), wq_cp_ne (by omega), wq_cp_ne (by omega), st_ne2 (by omega), st_eq]
      exact a1
    · rw [wq_cp_ne (by omega), wq_cp_ne (by omega), wq_cp_ne (by omega), wq_cp_ne (by omega), st_eq, wq_st_ne (by omega)]
      exact a2
    · rw [hr0 0 (by omega)]; exact a3
    · rw [hr0 1 (by omega)]; exact a4
    · rw [hr0 2 (by omega)]; exact a5
    · rw [hr0 3 (by omega)]; exact a6
    · rw [wq_cp_ne (by omega), wq_cp_ne (by omega), wq_cp_self, sb_cpy0 (by omega), wq_cp_ne (by omega), wq_st_ne (by omega), wq_st_ne (by omega)]
      exact a7 g hg
    · rw [wq_cp_ne (by omega), wq_cp_self, sb_cpy0 (by omega), wq_cp_ne (by omega), wq_cp_ne (by omega), wq_st_ne (by omega), wq_st_ne (by omega)]
      exact a8 g hg k hk
    · rw [wq_cp_self, sb_cpy0 hs, wq_cp_ne (by omega), wq_cp_ne (by omega), wq_cp_ne (by omega), wq_st_ne (by omega), wq_st_ne (by omega)]
      exact a9 s hs
  · rw [wq_cp_ne (by omega), wq_cp_ne (by omega), wq_cp_ne (by omega), wq_cp_ne (by omega), wq_st_ne (by omega), wq_st_ne (by omega)]
/-- a stretch of an array laid into another -/
def blk (M : wq_M) (q D p S n : Nat) : wq_M := (fun r t => if r = q then (if D ≤ t ∧ t < D + n then M.1 p (S + (t - D)) else M.1 r t) else M.1 r t, M.2)
theorem blk_0 (M : wq_M) (q D p S : Nat) : blk M q D p S 0 = M := by
  unfold blk
  rw [show (fun r t => if r = q then if D ≤ t ∧ t < D + 0 then M.1 p (S + (t - D)) else M.1 r t else M.1 r t) = M.1 by
    funext r t
    by_cases hr : r = q
    · rw [if_pos hr, if_neg (by omega)]
    · rw [if_neg hr]]
theorem blk_ne {M : wq_M} {q D p S n r : Nat} (h : r ≠ q) : (blk M q D p S n).1 r = M.1 r := by
  funext t
  simp [blk, h]
theorem blk_step {M : wq_M} {q D p S n : Nat} (h : p ≠ q) : wq_st (blk M q D p S n) q (D + n) ((blk M q D p S n).1 p (S + n)) = blk M q D p S (n + 1) := by
  rw [blk_ne h]
  unfold wq_st blk
  simp only [Prod.mk.injEq, and_true]
  funext r t
  by_cases hr : r = q
  · simp only [hr, if_true]
    by_cases ht : t = D + n
    · rw [if_pos ht, if_pos (by omega), show t - D = n by omega]
    · by_cases h2 : D ≤ t ∧ t < D + n
      · rw [if_neg ht, if_pos h2, if_pos (by omega)]
      · rw [if_neg ht, if_neg h2, if_neg (by omega)]
  · simp [hr]
theorem blk_at {M : wq_M} {q D p S n j : Nat} (h : j < n) : (blk M q D p S n).1 q (D + j) = M.1 p (S + j) := by
  simp only [blk, if_true]
  rw [if_pos (by omega), show D + j - D = j by omega]
theorem blk_off {M : wq_M} {q D p S n j : Nat} (h : j < D ∨ D + n ≤ j) : (blk M q D p S n).1 q j = M.1 q j := by
  simp only [blk, if_true]
  rw [if_neg (by omega)]
theorem RepA_blk {M : wq_M} {q D p S : Nat} {v : Nat → Nat} (h : RepA (fun j => M.1 p (S + j)) v) : RepA (fun j => (blk M q D p S 44).1 q (D + j)) v := by
  refine ⟨fun k hk => ?_, fun s hs => ?_⟩
  · show (blk M q D p S 44).1 q (D + k) = _
    rw [blk_at (by omega)]
    exact h.1 k hk
  · show (blk M q D p S 44).1 q (D + (36 + s)) = _
    rw [blk_at (by omega)]
    exact h.2 s hs
theorem RepA_0 {f : Nat → Int32} {v : Nat → Nat} : RepA (fun j => f (0 + j)) v ↔ RepA f v := by
  rw [show (fun j => f (0 + j)) = f by funext j; rw [Nat.zero_add]]
theorem R_layThen (M : wq_M) : fX7_layThen M = some (blk M 6 0 4 0 44) := by
  unfold fX7_layThen
  have key := lp_run (body := fX7_layThen_L2) (fun i => (nI i, blk M 6 0 4 0 i)) 44 (y := blk M 6 0 4 0 44) (n := wq_FU) (fun i hi => by
    unfold fX7_layThen_L2
    simp only []
    rw [if_neg (show ¬ 44 ≤ nI i by rw [lit_nI 44, nI_leI (by omega) (by omega)]; omega), in_nI hi (by omega), cl_nI (by omega), nI_1]
    have := blk_step (M := M) (q := 6) (D := 0) (p := 4) (S := 0) (n := i) (by omega)
    rw [Nat.zero_add] at this
    rw [this]
    rfl) (by
    unfold fX7_layThen_L2
    rfl) (FU_gt (by omega))
  rw [show ((0 : Int32), M) = (fun i => (nI i, blk M 6 0 4 0 i)) 0 by simp only [blk_0]; rfl, key]
  rfl
theorem R_imageL (M : wq_M) {k : Nat} (hk : k < 2) : wq_lp (fX7_image_L30 (nI k)) wq_FU (0, M) = some (blk M 13 (44 * k) 4 0 44) := by
  have key := lp_run (body := fX7_image_L30 (nI k)) (fun i => (nI i, blk M 13 (44 * k) 4 0 i)) 44 (y := blk M 13 (44 * k) 4 0 44) (n := wq_FU) (fun i hi => by
    unfold fX7_image_L30
    simp only []
    rw [if_neg (show ¬ 44 ≤ nI i by rw [lit_nI 44, nI_leI (by omega) (by omega)]; omega), lit_nI 44, pk_mul, nI_add, in_nI hi (by omega), in_nI (by omega) (by omega), cl_nI (by omega), cl_nI (by omega), nI_1]
    have := blk_step (M := M) (q := 13) (D := 44 * k) (p := 4) (S := 0) (n := i) (by omega)
    rw [Nat.zero_add] at this
    rw [this]
    rfl) (by
    unfold fX7_image_L30
    rfl) (FU_gt (by omega))
  rw [show ((0 : Int32), M) = (fun i => (nI i, blk M 13 (44 * k) 4 0 i)) 0 by simp only [blk_0]; rfl, key]
theorem R_restoreL (M : wq_M) {k : Nat} (hk : k < 2) : wq_lp (fX7_restore_L32 (nI k)) wq_FU (0, M) = some (blk M 4 0 13 (44 * k) 44) := by
  have key := lp_run (body := fX7_restore_L32 (nI k)) (fun i => (nI i, blk M 4 0 13 (44 * k) i)) 44 (y := blk M 4 0 13 (44 * k) 44) (n := wq_FU) (fun i hi => by
    unfold fX7_restore_L32
    simp only []
    rw [if_neg (show ¬ 44 ≤ nI i by rw [lit_nI 44, nI_leI (by omega) (by omega)]; omega), lit_nI 44, pk_mul, nI_add, in_nI hi (by omega), in_nI (by omega) (by omega), cl_nI (by omega), cl_nI (by omega), nI_1]
    have := blk_step (M := M) (q := 4) (D := 0) (p := 13) (S := 44 * k) (n := i) (by omega)
    rw [Nat.zero_add] at this
    rw [this]
    rfl) (by
    unfold fX7_restore_L32
    rfl) (FU_gt (by omega))
  rw [show ((0 : Int32), M) = (fun i => (nI i, blk M 4 0 13 (44 * k) i)) 0 by simp only [blk_0]; rfl, key]
theorem E_image (hI : Inv Mc Mr) (x1 : Int32) : ∃ a C N, fX6_image x1 Mc = some (a, C) ∧ fX7_image x1 Mr = some (a, N) ∧ Inv C N := by
  unfold fX6_image fX7_image
  have hI := Inv_t0 hI
  generalize wq_st Mr 0 0 0 = N at hI ⊢
  rw [lit_lN 0, lit_lN 1]
  rcases R_inb x1 0 1 (by omega) (by omega) N with ⟨h, e⟩ | ⟨h, e⟩ | ⟨k, h1, h2, rfl, e⟩
  · rw [if_pos (show x1 < 0 from h), e]
    exact ⟨_, Mc, N, rfl, rfl, hI⟩
  · rw [if_neg (hi_f (by omega) h).1, if_neg (show ¬ x1 < 2 from (hi_f (by omega) h).2.1), e]
    exact ⟨_, Mc, N, rfl, rfl, hI⟩
  · rw [if_neg (nI_pos (by omega)), if_pos (show nI k < 2 by rw [lit_nI 2, nI_ltI (by omega) (by omega)]; omega), e]
    obtain ⟨v, g1, g2, g3, g4, g5, g6, g7, g8, g9⟩ := id hI
    rcases there_cases g1 with ⟨e1, e2⟩ | ⟨wf, e1, e2⟩
    · rw [e1, e2]
      exact ⟨_, Mc, N, rfl, rfl, hI⟩
    · rw [e1, e2, in_nI (show k < 2 by omega) (by omega), cl_nI (by omega)]
      obtain ⟨C, b1, b2, b3, b4⟩ := C_becomes (p := 31 + 5 * k) (q := 20) (by omega) wf.m5 g1.2.1
      simp only [Option.bind_some, if_true, Bool.false_eq_true, if_false, b1, R_imageL N (show k < 2 by omega)]
      refine ⟨_, _, _, rfl, rfl, v, iWe_c g1 (fun q a b => b3 q (by omega)) (by rw [wq_st_ne (by omega), blk_ne (by omega)]), iAc_c g2 (by rw [b3 47 (by omega)]) (b3 48 (by omega)) (b3 49 (by omega)) (by rw [wq_st_ne (by omega), blk_ne (by omega)]) (by rw [wq_st_ne (by omega), blk_ne (by omega)]), iRow_c g3 (fun q a b => b3 q (by omega)) (by rw [wq_st_ne (by omega), blk_ne (by omega)]) (by rw [wq_st_ne (by omega), blk_ne (by omega)]) (by rw [wq_st_ne (by omega), blk_ne (by omega)]), iTp_c g4 (by rw [b3 18 (by omega)]) (b3 19 (by omega)) (by rw [wq_st_ne (by omega), blk_ne (by omega)]) (by rw [wq_st_ne (by omega), blk_ne (by omega)]), ?_, ?_, fun t ht => ?_, iTr_c g8 (by rw [b3 50 (by omega)]) (b3 51 (by omega)) (by rw [wq_st_ne (by omega), blk_ne (by omega)]) (by rw [wq_st_ne (by omega), blk_ne (by omega)]), by unfold iSr; rw [b4]; exact g9⟩
      · unfold iSt
        rw [b3 0 (by omega), wq_st_ne (by omega), blk_ne (by omega)]
        exact g5
      · unfold iFl
        rw [b3 18 (by omega), wq_st_ne (by omega), blk_ne (by omega)]
        exact g6
      · by_cases htk : t = k
        · subst htk
          refine Or.inr ⟨st_eq, v, wf, b2, ?_⟩
          rw [wq_st_ne (show 13 ≠ 12 by omega)]
          exact RepA_blk (RepA_0.mpr g1.2.2)
        · rw [b3 (31 + 5 * t) (by omega), st_ne2 htk, blk_ne (show 12 ≠ 13 by omega), wq_st_ne (show 13 ≠ 12 by omega)]
          rcases g7 t ht with y | ⟨y1, u, y2, y3, y4⟩
          · exact Or.inl y
          · refine Or.inr ⟨y1, u, y2, RepC_c y3 (fun q a b => b3 q (by omega)), ?_⟩
            refine ⟨fun j hj => ?_, fun s hs => ?_⟩
            · show (blk N 13 (44 * k) 4 0 44).1 13 (44 * t + j) = _
              rw [blk_off (by omega)]
              exact y4.1 j hj
            · show (blk N 13 (44 * k) 4 0 44).1 13 (44 * t + (36 + s)) = _
              rw [blk_off (by omega)]
              exact y4.2 s hs
theorem E_restore (hI : Inv Mc Mr) (x1 : Int32) : ∃ a C N, fX6_restore x1 Mc = some (a, C) ∧ fX7_restore x1 Mr = some (a, N) ∧ Inv C N := by
  unfold fX6_restore fX7_restore
  have hI := Inv_t0 hI
  generalize wq_st Mr 0 0 0 = N at hI ⊢
  rw [lit_lN 0, lit_lN 1]
  rcases R_inb x1 0 1 (by omega) (by omega) N with ⟨h, e⟩ | ⟨h, e⟩ | ⟨k, h1, h2, rfl, e⟩
  · rw [if_pos (show x1 < 0 from h), e]
    exact ⟨_, Mc, N, rfl, rfl, hI⟩
  · rw [if_neg (hi_f (by omega) h).1, if_neg (show ¬ x1 < 2 from (hi_f (by omega) h).2.1), e]
    exact ⟨_, Mc, N, rfl, rfl, hI⟩
  · rw [if_neg (nI_pos (by omega)), if_pos (show nI k < 2 by rw [lit_nI 2, nI_ltI (by omega) (by omega)]; omega), e]
    obtain ⟨v, g1, g2, g3, g4, g5, g6, g7, g8, g9⟩ := id hI
    rw [in_nI (show k < 2 by omega) (by omega), cl_nI (by omega)]
    rcases g7 k (by omega) with ⟨y1, y2⟩ | ⟨y1, u, y2, y3, y4⟩
    · rw [y1, y2]
      exact ⟨_, Mc, N, rfl, rfl, hI⟩
    · have hu := y2.1
      rw [y1, y3.1, if_neg (show ¬ nI (u 0) = 0 from nI_ne0 (by omega) (by omega))]
      obtain ⟨C, b1, b2, b3, b4⟩ := C_becomes (p := 20) (q := 31 + 5 * k) (by omega) y2.m5 y3
      simp only [Option.bind_some, if_true, show ¬ (1 : Int32) = 0 by decide, if_false, b1, R_restoreL N (show k < 2 by omega), fX0_forgetAll]
      have hb : RepA ((blk N 4 0 13 (44 * k) 44).1 4) u := RepA_0.mp (RepA_blk y4)
      refine ⟨_, _, _, rfl, rfl, u, ⟨Or.inr y2, RepC_c b2 (fun q a b => wq_st_ne (by omega)), by rw [wq_st_ne (by omega)]; exact hb⟩, ⟨0, fun _ => u, by omega, st_eq, st_eq, rfl, fun i hi => absurd hi (Nat.not_lt_zero i)⟩, iRow_c g3 (fun q a b => by rw [wq_st_ne (by omega), b3 q (by omega)]) (by rw [wq_st_ne (by omega), blk_ne (by omega)]) (by rw [wq_st_ne (by omega), blk_ne (by omega)]) (by rw [wq_st_ne (by omega), blk_ne (by omega)]), iTp_c g4 (by rw [wq_st_ne (by omega), b3 18 (by omega)]) (by rw [wq_st_ne (by omega), b3 19 (by omega)]) (by rw [st0_ne (by omega), blk_ne (by omega)]) (by rw [wq_st_ne (by omega), blk_ne (by omega)]), ?_, ?_, iIm_c g7 (fun q a b => by rw [wq_st_ne (by omega), b3 q (by omega)]) (by rw [wq_st_ne (by omega), blk_ne (by omega)]) (by rw [wq_st_ne (by omega), blk_ne (by omega)]), iTr_c g8 (by rw [wq_st_ne (by omega), b3 50 (by omega)]) (by rw [wq_st_ne (by omega), b3 51 (by omega)]) (by rw [st0_ne (by omega), blk_ne (by omega)]) (by rw [wq_st_ne (by omega), blk_ne (by omega)]), by unfold iSr; rw [show (wq_st C 47 2 0).2 = C.2 from rfl, b4]; exact g9⟩
      · unfold iSt
        rw [wq_st_ne (by omega), b3 0 (by omega), st0_ne (by omega), blk_ne (by omega)]
        exact g5
      · unfold iFl
        rw [wq_st_ne (by omega), b3 18 (by omega), st0_ne (by omega), blk_ne (by omega)]
        exact g6
end E4
