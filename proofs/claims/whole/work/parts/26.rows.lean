section E2
variable {Mc Mr : wq_M}
def fill (M : wq_M) (p : Nat) (x : Int32) : wq_M := (fun q j => if q = p then (if j < wq_yC.2.2 p then x else M.1 q j) else M.1 q j, M.2)
theorem fill_ne {M : wq_M} {p q : Nat} {x : Int32} (h : q ≠ p) : (fill M p x).1 q = M.1 q := by
  funext j
  simp [fill, h]
theorem fill_at {M : wq_M} {p j : Nat} {x : Int32} (h : j < wq_yC.2.2 p) : (fill M p x).1 p j = x := by
  simp [fill, h]
def fillN (M : wq_M) (p : Nat) (x : Int32) (n : Nat) : wq_M := (fun q j => if q = p then (if j < n then x else M.1 q j) else M.1 q j, M.2)
theorem fillN_step (M : wq_M) (p : Nat) (x : Int32) (n : Nat) : wq_st (fillN M p x n) p n x = fillN M p x (n + 1) := by
  unfold wq_st fillN
  simp only [Prod.mk.injEq, and_true]
  funext q j
  by_cases hq : q = p
  · simp only [hq, if_true]
    by_cases hj : j = n
    · simp [hj]
    · by_cases h2 : j < n
      · simp [hj, h2, show j < n + 1 by omega]
      · simp [hj, h2, show ¬ j < n + 1 by omega]
  · simp [hq]
theorem C_fill (M : wq_M) (p : Nat) (x : Int32) (h : wq_yC.2.2 p < 10000) : fJ7_fill_53178 p x M = some (fill M p x) := by
  unfold fJ7_fill_53178
  rw [show Int32.ofNat (wq_yC.2.2 p) = nI (wq_yC.2.2 p) from rfl]
  have key := lp_run (body := fJ7_fill_53178_L5 p x (nI (wq_yC.2.2 p))) (fun i => (nI i, fillN M p x i)) (wq_yC.2.2 p) (y := fill M p x) (n := wq_FU) (fun i hi => by
    unfold fJ7_fill_53178_L5
    simp only []
    rw [if_neg (show ¬ nI (wq_yC.2.2 p) ≤ nI i by rw [nI_leI (by omega) (by omega)]; omega), in_nI hi (by omega), cl_nI (by omega), fillN_step, nI_1]
    rfl) (by
    unfold fJ7_fill_53178_L5
    simp only []
    rw [if_pos (show nI (wq_yC.2.2 p) ≤ nI (wq_yC.2.2 p) from Int32.le_refl _)]
    rfl) (FU_gt (by omega))
  rw [show ((0 : Int32), M) = (fun i => (nI i, fillN M p x i)) 0 by
    simp only [fillN, Nat.not_lt_zero, if_false, ite_self]
    rfl, key]
  rfl
theorem C_rows_len {r : Nat} (h : r < 8) : wq_yC.2.2 (2 + 2 * r + 1) = 40 := by
  have : r = 0 ∨ r = 1 ∨ r = 2 ∨ r = 3 ∨ r = 4 ∨ r = 5 ∨ r = 6 ∨ r = 7 := by omega
  rcases this with rfl | rfl | rfl | rfl | rfl | rfl | rfl | rfl <;> rfl
def zer (M : wq_M) (a n : Nat) : wq_M := (fun q j => if q = 3 then (if a ≤ j ∧ j < a + n then 0 else M.1 q j) else M.1 q j, M.2)
theorem zer_step (M : wq_M) (a n : Nat) : wq_st (zer M a n) 3 (a + n) 0 = zer M a (n + 1) := by
  unfold wq_st zer
  simp only [Prod.mk.injEq, and_true]
  funext q j
  by_cases hq : q = 3
  · simp only [hq, if_true]
    by_cases hj : j = a + n
    · simp [hj]
    · by_cases h2 : a ≤ j ∧ j < a + n
      · rw [if_neg hj, if_pos h2, if_pos (by omega)]
      · rw [if_neg hj, if_neg h2, if_neg (by omega)]
  · simp [hq]
theorem R_zero (M : wq_M) {r : Nat} (hr : r < 8) (x3 : Int32) : wq_lp (fX7_row_L65 (nI r) x3) wq_FU (0, M) = some (zer M (40 * r) 40) := by
  have key := lp_run (body := fX7_row_L65 (nI r) x3) (fun i => (nI i, zer M (40 * r) i)) 40 (y := zer M (40 * r) 40) (n := wq_FU) (fun i hi => by
    unfold fX7_row_L65
    simp only []
    rw [lit_nI 40, if_neg (show ¬ nI 40 ≤ nI i by rw [nI_leI (by omega) (by omega)]; omega), pk_mul, nI_add, in_nI (by omega) (by omega), cl_nI (by omega), zer_step, nI_1]
    rfl) (by
    unfold fX7_row_L65
    rfl) (FU_gt (by omega))
  rw [show ((0 : Int32), M) = (fun i => (nI i, zer M (40 * r) i)) 0 by
    simp only [zer]
    rw [show (fun q j => if q = 3 then if 40 * r ≤ j ∧ j < 40 * r + 0 then (0 : Int32) else M.1 q j else M.1 q j) = M.1 by
      funext q j
      by_cases hq : q = 3
      · simp only [hq, if_true]
        rw [if_neg (by omega)]
      · simp [hq]]
    rfl, key]
theorem iSt_self {Mc Mr : wq_M} (x : Int32) : iSt (wq_st Mc 0 8 x) (wq_st Mr 0 1 x) := by simp [iSt, wq_st]
theorem obC_st (M : wq_M) (x : Int32) : (∀ q, q ≠ 0 → (wq_st M 0 8 x).1 q = M.1 q) := fun q h => wq_st_ne h
theorem st0_ne {M : wq_M} {k j : Nat} {x : Int32} (h : j ≠ k) : (wq_st M 0 k x).1 0 j = M.1 0 j := by simp [wq_st, h]
theorem st_ne2 {M : wq_M} {p k j : Nat} {x : Int32} (h : j ≠ k) : (wq_st M p k x).1 p j = M.1 p j := by simp [wq_st, h]
theorem st_eq {M : wq_M} {p k : Nat} {x : Int32} : (wq_st M p k x).1 p k = x := by simp [wq_st]
theorem Inv_found (hI : Inv Mc Mr) (x : Int32) : Inv (wq_st Mc 0 8 x) (wq_st Mr 0 1 x) := by
  obtain ⟨v, h1, h2, h3, h4, h5, h6, h7, h8, h9⟩ := hI
  refine ⟨v, iWe_c h1 (fun q a b => wq_st_ne (by omega)) (wq_st_ne (by omega)), iAc_c h2 (by rw [wq_st_ne (by omega)]) (wq_st_ne (by omega)) (wq_st_ne (by omega)) (st0_ne (by omega)) (wq_st_ne (by omega)), iRow_c h3 (fun q a b => wq_st_ne (by omega)) (wq_st_ne (by omega)) (wq_st_ne (by omega)) (wq_st_ne (by omega)), iTp_c h4 (by rw [wq_st_ne (by omega)]) (wq_st_ne (by omega)) (st0_ne (by omega)) (wq_st_ne (by omega)), iSt_self x, ?_, iIm_c h7 (fun q a b => wq_st_ne (by omega)) (wq_st_ne (by omega)) (wq_st_ne (by omega)), iTr_c h8 (by rw [wq_st_ne (by omega)]) (wq_st_ne (by omega)) (st0_ne (by omega)) (wq_st_ne (by omega)), h9⟩
  unfold iFl
  rw [st0_ne (by omega), wq_st_ne (by omega)]
  exact h6
theorem st_idem (M : wq_M) (p k : Nat) (x y : Int32) : wq_st (wq_st M p k x) p k y = wq_st M p k y := by
  unfold wq_st
  simp only [Prod.mk.injEq, and_true]
  funext q j
  by_cases hq : q = p <;> by_cases hj : j = k <;> simp [hq, hj]
/-- rows changed alone -/
theorem Inv_rows {Mc' Mr' : wq_M} (hI : Inv Mc Mr) (hc : ∀ q, (q < 2 ∨ 18 ≤ q) → Mc'.1 q = Mc.1 q) (hc2 : Mc'.2 = Mc.2) (hr : ∀ q, q ≠ 1 → q ≠ 2 → q ≠ 3 → Mr'.1 q = Mr.1 q) (hrow : iRow Mc' Mr') : Inv Mc' Mr' := by
  obtain ⟨v, h1, h2, h3, h4, h5, h6, h7, h8, h9⟩ := hI
  refine ⟨v, iWe_c h1 (fun q a b => hc q (by omega)) (hr 4 (by omega) (by omega) (by omega)), iAc_c h2 (by rw [hc 47 (by omega)]) (hc 48 (by omega)) (hc 49 (by omega)) (by rw [hr 0 (by omega) (by omega) (by omega)]) (hr 7 (by omega) (by omega) (by omega)), hrow, iTp_c h4 (by rw [hc 18 (by omega)]) (hc 19 (by omega)) (by rw [hr 0 (by omega) (by omega) (by omega)]) (hr 8 (by omega) (by omega) (by omega)), ?_, ?_, iIm_c h7 (fun q a b => hc q (by omega)) (hr 12 (by omega) (by omega) (by omega)) (hr 13 (by omega) (by omega) (by omega)), iTr_c h8 (by rw [hc 50 (by omega)]) (hc 51 (by omega)) (by rw [hr 0 (by omega) (by omega) (by omega)]) (hr 14 (by omega) (by omega) (by omega)), by unfold iSr; rw [hc2]; exact h9⟩
  · unfold iSt
    rw [hc 0 (by omega), hr 0 (by omega) (by omega) (by omega)]
    exact h5
  · unfold iFl
    rw [hc 18 (by omega), hr 0 (by omega) (by omega) (by omega)]
    exact h6
theorem E_row (hI : Inv Mc Mr) (x1 x2 x3 : Int32) : ∃ a C N, fX6_row x1 x2 x3 Mc = some (a, C) ∧ fX7_row x1 x2 x3 Mr = some (a, N) ∧ Inv C N := by
  unfold fX6_row fX7_row
  have hI := Inv_t0 hI
  generalize wq_st Mr 0 0 0 = N at hI ⊢
  rcases row_cases (Mc := Mc) (Mr := N) x1 with ⟨e1, e2⟩ | ⟨r, hr, rfl, e1, e2⟩
  · rw [e1, e2]
    exact ⟨_, Mc, N, rfl, rfl, hI⟩
  · rw [e1, e2]
    simp only [Option.bind_some, if_true]
    rw [lit_lN 0, lit_lN 2]
    rcases R_inb x2 0 2 (by omega) (by omega) N with ⟨h, e⟩ | ⟨h, e⟩ | ⟨k, h1, h2, rfl, e⟩
    · rw [if_pos (show x2 < 0 from h), e]
      exact ⟨_, Mc, N, rfl, rfl, hI⟩
    · rw [if_neg (hi_f (by omega) h).1, if_pos (show 3 ≤ x2 from (hi_f (by omega) h).2.2.2), e]
      exact ⟨_, Mc, N, rfl, rfl, hI⟩
    · rw [if_neg (nI_pos (by omega)), if_neg (show ¬ 3 ≤ nI k by rw [lit_nI 3, nI_leI (by omega) (by omega)]; omega), e]
      simp only [Option.bind_some, if_true]
      by_cases h40 : x3 ≤ 40
      · rw [if_pos h40, if_pos h40]
        by_cases h0 : 0 ≤ x3
        · rw [if_pos h0, if_pos h0]
          obtain ⟨n, hn, rfl⟩ := nI_of (Int32.not_lt.mpr h0)
          rw [lit_nI 40, nI_leI (by omega) (by omega)] at h40
          rw [in_nI hr (by omega), cl_nI (by omega)]
          simp only [if_true, fX3_begin]
          rw [C_fill _ _ _ (by rw [C_rows_len hr]; omega), R_zero _ hr]
          simp only [Option.bind_some, fX6_passed]
          refine ⟨_, _, _, rfl, rfl, ?_⟩
          have hI2 := Inv_found hI 0
          generalize wq_st N 0 1 0 = N1 at hI2 ⊢
          have hsw : wq_st (fill (wq_st (wq_st Mc (2 + 2 * r) 1 (nI k)) (2 + 2 * r) 2 (nI n)) (2 + 2 * r + 1) 0) 0 8 0 = fill (wq_st (wq_st (wq_st Mc 0 8 0) (2 + 2 * r) 1 (nI k)) (2 + 2 * r) 2 (nI n)) (2 + 2 * r + 1) 0 := by
            unfold wq_st fill
            simp only [Prod.mk.injEq, and_true]
            funext q j
            by_cases hq : q = 0
            · subst hq
              simp [show ¬ (0 = 2 + 2 * r) by omega, show ¬ (0 = 2 + 2 * r + 1) by omega]
            · simp [hq]
          rw [hsw]
          generalize wq_st Mc 0 8 0 = C1 at hI2 ⊢
          obtain ⟨v, g1, g2, g3, -⟩ := id hI2
          refine Inv_rows hI2 (fun q hq => by rw [fill_ne (by omega), wq_st_ne (by omega), wq_st_ne (by omega)]) rfl (fun q a b c => ?_) (fun t ht => ?_)
          · funext j
            simp only [zer, c, if_false]
            rw [wq_st_ne b, wq_st_ne a]
          · have hz : ∀ q j, q ≠ 3 → (zer (wq_st (wq_st N1 1 r (nI k)) 2 r (nI n)) (40 * r) 40).1 q j = (wq_st (wq_st N1 1 r (nI k)) 2 r (nI n)).1 q j := fun q j hq => by simp [zer, hq]
            rw [hz 1 t (by omega), hz 2 t (by omega), wq_st_ne (by omega)]
            by_cases htr : t = r
            · subst htr
              refine Or.inr ⟨n, k, h40, h2, ?_, ?_, ?_, ?_, fun j hj => ?_⟩
              · rw [fill_ne (by omega), st_eq]
              · rw [fill_ne (by omega), st_ne2 (by omega), st_eq]
              · rw [st_eq]
              · rw [st_eq]
              · rw [fill_at (by rw [C_rows_len ht]; exact hj)]
                simp only [zer, if_true]
                rw [if_pos (by omega)]
            · rw [st_ne2 htr, st_ne2 htr, wq_st_ne (by omega), fill_ne (by omega), fill_ne (by omega), wq_st_ne (by omega), wq_st_ne (by omega), wq_st_ne (by omega), wq_st_ne (by omega)]
              have := g3 t ht
              rcases this with q | ⟨n', l', q1, q2, q3, q4, q5, q6, q7⟩
              · exact Or.inl q
              · refine Or.inr ⟨n', l', q1, q2, q3, q4, q5, q6, fun j hj => ?_⟩
                rw [q7 j hj]
                simp only [zer, if_true]
                rw [if_neg (by omega), wq_st_ne (by omega), wq_st_ne (by omega)]
        · rw [if_neg h0, if_neg h0]
          simp only [fX6_found, fX7_finding, Option.bind_some]
          refine ⟨_, _, _, rfl, rfl, ?_⟩
          rw [st_idem]
          exact Inv_found hI 4
      · rw [if_neg h40, if_neg h40]
        exact ⟨_, Mc, N, rfl, rfl, hI⟩
theorem row_at (h : iRow Mc Mr) {r : Nat} (hr : r < 8) : (Mc.1 (2 + 2 * r) 2 = -1 ∧ Mr.1 1 r = -1 ∧ fX3_isMissing (2 + 2 * r) Mc = some true ∧ Mr.1 1 r < 0) ∨ ∃ n l, n ≤ 40 ∧ l ≤ 2 ∧ Mc.1 (2 + 2 * r) 2 = nI n ∧ Mc.1 (2 + 2 * r) 1 = nI l ∧ Mr.1 1 r = nI l ∧ Mr.1 2 r = nI n ∧ (∀ j, j < 40 → Mc.1 (2 + 2 * r + 1) j = Mr.1 3 (40 * r + j)) ∧ fX3_isMissing (2 + 2 * r) Mc = some false ∧ 0 ≤ Mr.1 1 r ∧ ¬ Mr.1 1 r < 0 := by
  rcases h r hr with ⟨q1, q2⟩ | ⟨n, l, q1, q2, q3, q4, q5, q6, q7⟩
  · refine Or.inl ⟨q1, q2, ?_, by rw [q2]; decide⟩
    unfold fX3_isMissing
    rw [q1, if_pos rfl]
  · refine Or.inr ⟨n, l, q1, q2, q3, q4, q5, q6, q7, ?_, by rw [q5]; exact nI_pos' (by omega), by rw [q5]; exact nI_pos (by omega)⟩
    unfold fX3_isMissing
    rw [q3, if_neg]
    intro e
    have : (nI n).toInt = (-1 : Int32).toInt := by rw [e]
    rw [nI_toInt (by omega), show (-1 : Int32).toInt = -1 by decide] at this
    omega
theorem E_drop (hI : Inv Mc Mr) (x1 : Int32) : ∃ a C N, fX6_drop x1 Mc = some (a, C) ∧ fX7_drop x1 Mr = some (a, N) ∧ Inv C N := by
  unfold fX6_drop fX7_drop
  have hI := Inv_t0 hI
  generalize wq_st Mr 0 0 0 = N at hI ⊢
  rcases row_cases (Mc := Mc) (Mr := N) x1 with ⟨e1, e2⟩ | ⟨r, hr, rfl, e1, e2⟩
  · rw [e1, e2]
    exact ⟨_, Mc, N, rfl, rfl, hI⟩
  · rw [e1, e2]
    have hI2 := Inv_found hI 0
    have hfi : ∀ x, wq_st (wq_st N 0 1 0) 0 1 x = wq_st N 0 1 x := fun x => st_idem _ _ _ _ _
    simp only [Option.bind_some, if_true, in_nI hr (show 8 < 2 ^ 31 by omega), cl_nI (show r < 2 ^ 31 by omega), fX6_found, fX6_passed, fX7_finding, hfi]
    obtain ⟨v, g1, g2, g3, -⟩ := id hI2
    rcases row_at g3 hr with ⟨q1, q2, q3, q4⟩ | ⟨n, l, q1, q2, q3, q4, q5, q6, q7, q8, q9, q10⟩
    · have q3' : fX3_isMissing (2 + 2 * r) Mc = some true := by
        unfold fX3_isMissing at q3 ⊢
        rw [wq_st_ne (by omega)] at q3
        exact q3
      rw [q3', if_neg (Int32.not_le.mpr q4)]
      exact ⟨_, _, _, rfl, rfl, Inv_found hI 1⟩
    · have q8' : fX3_isMissing (2 + 2 * r) Mc = some false := by
        unfold fX3_isMissing at q8 ⊢
        rw [wq_st_ne (by omega)] at q8
        exact q8
      have q3' : Mc.1 (2 + 2 * r) 2 = nI n := by rw [wq_st_ne (by omega)] at q3; exact q3
      rw [q8', if_pos q9, q3', wq_st_ne (show 2 ≠ 1 by omega), q6]
      refine ⟨_, _, _, rfl, rfl, ?_⟩
      have hsw : wq_st (wq_st Mc (2 + 2 * r) 2 (-1)) 0 8 0 = wq_st (wq_st Mc 0 8 0) (2 + 2 * r) 2 (-1) := by
        unfold wq_st
        simp only [Prod.mk.injEq, and_true]
        funext q j
        by_cases hq : q = 0
        · subst hq
          simp [show ¬ (0 = 2 + 2 * r) by omega]
        · simp [hq]
      simp only [hsw]
      refine Inv_rows hI2 (fun q hq => wq_st_ne (by omega)) rfl (fun q a b c => wq_st_ne a) (fun t ht => ?_)
      rw [wq_st_ne (show 2 ≠ 1 by omega), wq_st_ne (show 3 ≠ 1 by omega)]
      by_cases htr : t = r
      · subst htr
        exact Or.inl ⟨st_eq, st_eq⟩
      · rw [wq_st_ne (show 2 + 2 * t ≠ 2 + 2 * r by omega), wq_st_ne (show 2 + 2 * t + 1 ≠ 2 + 2 * r by omega), st_ne2 htr]
        exact g3 t ht
theorem E_set (hI : Inv Mc Mr) (x1 x2 x3 : Int32) : ∃ a C N, fX6_set x1 x2 x3 Mc = some (a, C) ∧ fX7_set x1 x2 x3 Mr = some (a, N) ∧ Inv C N := by
  unfold fX6_set fX7_set
  have hI := Inv_t0 hI
  generalize wq_st Mr 0 0 0 = N at hI ⊢
  rcases row_cases (Mc := Mc) (Mr := N) x1 with ⟨e1, e2⟩ | ⟨r, hr, rfl, e1, e2⟩
  · rw [e1, e2]
    exact ⟨_, Mc, N, rfl, rfl, hI⟩
  · rw [e1, e2]
    have hI2 := Inv_found hI 0
    have hfi : ∀ x, wq_st (wq_st N 0 1 0) 0 1 x = wq_st N 0 1 x := fun x => st_idem _ _ _ _ _
    simp only [Option.bind_some, if_true, in_nI hr (show 8 < 2 ^ 31 by omega), cl_nI (show r < 2 ^ 31 by omega), fX6_found, fX6_passed, fX7_finding, hfi]
    obtain ⟨v, g1, g2, g3, -⟩ := id hI2
    rcases row_at g3 hr with ⟨q1, q2, q3, q4⟩ | ⟨n, l, q1, q2, q3, q4, q5, q6, q7, q8, q9, q10⟩
    · have q3' : fX3_isMissing (2 + 2 * r) Mc = some true := by
        unfold fX3_isMissing at q3 ⊢
        rw [wq_st_ne (by omega)] at q3
        exact q3
      rw [q3', if_neg (Int32.not_le.mpr q4)]
      exact ⟨_, _, _, rfl, rfl, Inv_found hI 1⟩
    · have q8' : fX3_isMissing (2 + 2 * r) Mc = some false := by
        unfold fX3_isMissing at q8 ⊢
        rw [wq_st_ne (by omega)] at q8
        exact q8
      have q3' : Mc.1 (2 + 2 * r) 2 = nI n := by rw [wq_st_ne (by omega)] at q3; exact q3
      have q4' : Mc.1 (2 + 2 * r) 1 = nI l := by rw [wq_st_ne (by omega)] at q4; exact q4
      rw [q8', if_pos q9, q6, q5]
      simp only [Option.bind_some, Bool.false_eq_true, if_false]
      unfold fX3_hasPlaces fX3_put
      rw [q3', q4', show (0 : Int64) = (0 : Int32).toInt64 by decide, R_in]
      simp only [Option.bind_some]
      by_cases h0 : x2 < 0
      · rw [if_pos h0, decide_eq_false (Int32.not_le.mpr h0)]
        exact ⟨_, _, _, rfl, rfl, Inv_found hI 2⟩
      · rw [if_neg h0, if_neg (show ¬ (1 : Int32) < 0 by decide), decide_eq_true (Int32.not_lt.mp h0)]
        obtain ⟨s, hs, rfl⟩ := nI_of h0
        by_cases hs1 : s < n
        · rw [if_neg (show ¬ nI n - 1 < nI s by rw [Int32.lt_iff_toInt_lt, ld_toInt (by omega), nI_toInt hs]; omega), decide_eq_true (show nI s ≤ nI n - 1 by rw [Int32.le_iff_toInt_le, ld_toInt (by omega), nI_toInt hs]; omega), in_nI (show s < 40 by omega) (by omega), cl_nI (by omega)]
          simp only [Option.bind_some, if_true, Bool.and_self, fX7_set_J99, lit_nI 40, pk_mul, nI_add, in_nI (show 40 * r + s < 320 by omega) (show 320 < 2 ^ 31 by omega), cl_nI (show 40 * r + s < 2 ^ 31 by omega), st_eq]
          have fin : ∀ y : Int32, Inv (wq_st (wq_st Mc (2 + 2 * r + 1) s y) 0 8 0) (wq_st (wq_st N 0 1 0) 3 (40 * r + s) y) := by
            intro y
            have hsw : wq_st (wq_st Mc (2 + 2 * r + 1) s y) 0 8 0 = wq_st (wq_st Mc 0 8 0) (2 + 2 * r + 1) s y := by
              unfold wq_st
              simp only [Prod.mk.injEq, and_true]
              funext q j
              by_cases hq : q = 0
              · subst hq
                simp [show ¬ (0 = 2 + 2 * r + 1) by omega]
              · simp [hq]
            rw [hsw]
            refine Inv_rows hI2 (fun q hq => wq_st_ne (by omega)) rfl (fun q a b c => wq_st_ne c) (fun t ht => ?_)
            rw [wq_st_ne (show 1 ≠ 3 by omega), wq_st_ne (show 2 ≠ 3 by omega), wq_st_ne (show 2 + 2 * t ≠ 2 + 2 * r + 1 by omega)]
            rcases g3 t ht with w | ⟨n', l', w1, w2, w3, w4, w5, w6, w7⟩
            · exact Or.inl w
            · refine Or.inr ⟨n', l', w1, w2, w3, w4, w5, w6, fun j hj => ?_⟩
              by_cases htr : t = r
              · subst htr
                by_cases hjs : j = s
                · subst hjs
                  rw [st_eq, st_eq]
                · rw [st_ne2 hjs, st_ne2 (by omega)]
                  exact w7 j hj
              · rw [wq_st_ne (by omega), st_ne2 (by omega)]
                exact w7 j hj
          by_cases z0 : nI l = 0
          · rw [if_pos z0, if_pos z0]
            exact ⟨_, _, _, rfl, rfl, fin _⟩
          · rw [if_neg z0, if_neg z0]
            by_cases z1 : nI l = 1
            · rw [if_pos z1, if_pos z1]
              exact ⟨_, _, _, rfl, rfl, fin _⟩
            · rw [if_neg z1, if_neg z1]
              exact ⟨_, _, _, rfl, rfl, fin _⟩
        · rw [if_pos (show nI n - 1 < nI s by rw [Int32.lt_iff_toInt_lt, ld_toInt (by omega), nI_toInt hs]; omega), decide_eq_false (show ¬ nI s ≤ nI n - 1 by rw [Int32.le_iff_toInt_le, ld_toInt (by omega), nI_toInt hs]; omega)]
          exact ⟨_, _, _, rfl, rfl, Inv_found hI 2⟩
end E2
