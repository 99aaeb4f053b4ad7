theorem fb_bm {z : Int} (h1 : -2147483648 ≤ z) (h2 : z < 2147483648) : z.bmod (2 ^ 32) = z := by
  rw [Int.bmod_eq_of_le] <;> omega
theorem fb_bmL {z : Int} (h1 : -9223372036854775808 ≤ z) (h2 : z < 9223372036854775808) : z.bmod (2 ^ 64) = z := by
  rw [Int.bmod_eq_of_le] <;> omega
section E3
variable {Mc Mr : wq_M}
def cpR (M : wq_M) (S D lo hi : Nat) : wq_M := (fun q t => if q = 3 then (if D + lo ≤ t ∧ t < D + hi then M.1 3 (S + (t - D)) else M.1 q t) else M.1 q t, M.2)
theorem cpR_up (M : wq_M) (S D k n : Nat) (hk : k < n) (h : D ≤ S ∨ S + n ≤ D) : wq_st (cpR M S D 0 k) 3 (D + k) ((cpR M S D 0 k).1 3 (S + k)) = cpR M S D 0 (k + 1) := by
  have e : (cpR M S D 0 k).1 3 (S + k) = M.1 3 (S + k) := by
    simp only [cpR, if_true]
    rw [if_neg (by omega)]
  rw [e]
  unfold wq_st cpR
  simp only [Prod.mk.injEq, and_true]
  funext q t
  by_cases hq : q = 3
  · simp only [hq, if_true]
    by_cases ht : t = D + k
    · rw [if_pos ht, if_pos (by omega), show t - D = k by omega]
    · by_cases h2 : D + 0 ≤ t ∧ t < D + k
      · rw [if_neg ht, if_pos h2, if_pos (by omega)]
      · rw [if_neg ht, if_neg h2, if_neg (by omega)]
  · simp [hq]
theorem cpR_dn (M : wq_M) (S D k n : Nat) (hk : k < n) (h : S ≤ D ∨ D + n ≤ S) : wq_st (cpR M S D (n - k) n) 3 (D + (n - 1 - k)) ((cpR M S D (n - k) n).1 3 (S + (n - 1 - k))) = cpR M S D (n - (k + 1)) n := by
  have e : (cpR M S D (n - k) n).1 3 (S + (n - 1 - k)) = M.1 3 (S + (n - 1 - k)) := by
    simp only [cpR, if_true]
    rw [if_neg (by omega)]
  rw [e]
  unfold wq_st cpR
  simp only [Prod.mk.injEq, and_true]
  funext q t
  by_cases hq : q = 3
  · simp only [hq, if_true]
    by_cases ht : t = D + (n - 1 - k)
    · rw [if_pos ht, if_pos (by omega), show t - D = n - 1 - k by omega]
    · by_cases h2 : D + (n - k) ≤ t ∧ t < D + n
      · rw [if_neg ht, if_pos h2, if_pos (by omega)]
      · rw [if_neg ht, if_neg h2, if_neg (by omega)]
  · simp [hq]
theorem R_copyJ (M : wq_M) {a b i j n k at_ : Nat} (ha : 40 * a + i + n ≤ 320) (hb : 40 * b + j + n ≤ 320) (hat : at_ < n) (x6 : Int32) : fX7_copy_L143_J167 (nI a) (nI i) (nI b) (nI j) (nI n) x6 (nI k) (nI at_) M = some (.inl (nI (k + 1), wq_st M 3 (40 * b + j + at_) (M.1 3 (40 * a + i + at_)))) := by
  unfold fX7_copy_L143_J167
  rw [lit_nI 40, pk_mul, pk_mul, nI_add, nI_add, nI_add, nI_add, in_nI (by omega) (by omega), in_nI (by omega) (by omega), cl_nI (by omega), cl_nI (by omega), nI_1]
  rfl
theorem R_copyL (M : wq_M) {a b i j n : Nat} (ha8 : a < 8) (hb8 : b < 8) (ha : i + n ≤ 40) (hb : j + n ≤ 40) : (wq_lp (fX7_copy_L143 (nI a) (nI i) (nI b) (nI j) (nI n) (if nI i < nI j then 0 else 1)) wq_FU (0, M)) = some (cpR M (40 * a + i) (40 * b + j) 0 n) := by
  by_cases hij : i < j
  · rw [if_pos (by rw [nI_ltI (by omega) (by omega)]; exact hij)]
    have key := lp_run (body := fX7_copy_L143 (nI a) (nI i) (nI b) (nI j) (nI n) 0) (fun k => (nI k, cpR M (40 * a + i) (40 * b + j) (n - k) n)) n (y := cpR M (40 * a + i) (40 * b + j) 0 n) (n := wq_FU) (fun k hk => by
      unfold fX7_copy_L143
      simp only [if_true]
      rw [if_neg (show ¬ nI n ≤ nI k by rw [nI_leI (by omega) (by omega)]; omega), show (1 : Int32) = nI 1 from rfl, pk_sub (by omega), pk_sub (by omega), R_copyJ _ (by omega) (by omega) (by omega), cpR_dn _ _ _ _ _ hk (by omega)]) (by
      unfold fX7_copy_L143
      simp only []
      rw [if_pos (show nI n ≤ nI n from Int32.le_refl _), Nat.sub_self]) (FU_gt (by omega))
    rw [show ((0 : Int32), M) = (fun k => (nI k, cpR M (40 * a + i) (40 * b + j) (n - k) n)) 0 by
      simp only [cpR]
      rw [show (fun q t => if q = 3 then if 40 * b + j + (n - 0) ≤ t ∧ t < 40 * b + j + n then M.1 3 (40 * a + i + (t - (40 * b + j))) else M.1 q t else M.1 q t) = M.1 by
        funext q t
        by_cases hq : q = 3
        · simp only [hq, if_true]
          rw [if_neg (by omega)]
        · simp [hq]]
      rfl, key]
  · rw [if_neg (by rw [nI_ltI (by omega) (by omega)]; exact hij)]
    have key := lp_run (body := fX7_copy_L143 (nI a) (nI i) (nI b) (nI j) (nI n) 1) (fun k => (nI k, cpR M (40 * a + i) (40 * b + j) 0 k)) n (y := cpR M (40 * a + i) (40 * b + j) 0 n) (n := wq_FU) (fun k hk => by
      unfold fX7_copy_L143
      simp only []
      rw [if_neg (show ¬ nI n ≤ nI k by rw [nI_leI (by omega) (by omega)]; omega), if_neg (show ¬ (1 : Int32) = 0 by decide), R_copyJ _ (by omega) (by omega) (by omega), cpR_up _ _ _ _ n hk (by omega)]) (by
      unfold fX7_copy_L143
      simp only []
      rw [if_pos (show nI n ≤ nI n from Int32.le_refl _)]) (FU_gt (by omega))
    rw [show ((0 : Int32), M) = (fun k => (nI k, cpR M (40 * a + i) (40 * b + j) 0 k)) 0 by
      simp only [cpR]
      rw [show (fun q t => if q = 3 then if 40 * b + j + 0 ≤ t ∧ t < 40 * b + j + 0 then M.1 3 (40 * a + i + (t - (40 * b + j))) else M.1 q t else M.1 q t) = M.1 by
        funext q t
        by_cases hq : q = 3
        · simp only [hq, if_true]
          rw [if_neg (by omega)]
        · simp [hq]]
      rfl, key]
theorem C_has {M : wq_M} {p n : Nat} (hn : n ≤ 40) (he : M.1 p 2 = nI n) (x y : Int32) : (∃ i k, i + k ≤ n ∧ x = nI i ∧ y = nI k ∧ fX3_hasPlaces p x y M = some true) ∨ (fX3_hasPlaces p x y M = some false ∧ (x < 0 ∨ (¬ x < 0 ∧ y < 0) ∨ (¬ x < 0 ∧ ¬ y < 0 ∧ (nI n).toInt64 < x.toInt64 + y.toInt64))) := by
  unfold fX3_hasPlaces
  rw [he]
  by_cases h0 : x < 0
  · rw [if_pos h0]
    exact Or.inr ⟨rfl, Or.inl h0⟩
  · rw [if_neg h0]
    by_cases h1 : y < 0
    · rw [if_pos h1]
      exact Or.inr ⟨rfl, Or.inr (Or.inl ⟨h0, h1⟩)⟩
    · rw [if_neg h1]
      obtain ⟨i, hi, rfl⟩ := nI_of h0
      obtain ⟨k, hk, rfl⟩ := nI_of h1
      have es : (nI n - nI k).toInt = (n : Int) - k := by
        rw [Int32.toInt_sub, nI_toInt (by omega), nI_toInt (by omega)]
        exact fb_bm (by omega) (by omega)
      by_cases h2 : i + k ≤ n
      · rw [if_neg (by rw [Int32.lt_iff_toInt_lt, es, nI_toInt hi]; omega)]
        exact Or.inl ⟨i, k, h2, rfl, rfl, rfl⟩
      · rw [if_pos (by rw [Int32.lt_iff_toInt_lt, es, nI_toInt hi]; omega)]
        refine Or.inr ⟨rfl, Or.inr (Or.inr ⟨h0, h1, ?_⟩)⟩
        rw [Int64.lt_iff_toInt_lt, Int64.toInt_add, Int32.toInt_toInt64, Int32.toInt_toInt64, Int32.toInt_toInt64, nI_toInt (by omega), nI_toInt hi, nI_toInt hk, fb_bmL (by omega) (by omega)]
        omega
theorem R_gt {n i k : Nat} (hn : n ≤ 40) (hi : i + k ≤ n) : ¬ 0 < lg_cmp ((nI i).toInt64 + (nI k).toInt64) (nI n).toInt64 := by
  rw [cmp_gt0, Int64.lt_iff_toInt_lt, Int64.toInt_add, Int32.toInt_toInt64, Int32.toInt_toInt64, Int32.toInt_toInt64, nI_toInt (by omega), nI_toInt (by omega), nI_toInt (by omega), fb_bmL (by omega) (by omega)]
  omega
theorem E_copy (hI : Inv Mc Mr) (x1 x2 x3 x4 x5 : Int32) : ∃ a C N, fX6_copy x1 x2 x3 x4 x5 Mc = some (a, C) ∧ fX7_copy x1 x2 x3 x4 x5 Mr = some (a, N) ∧ Inv C N := by
  unfold fX6_copy fX7_copy
  have hI := Inv_t0 hI
  generalize wq_st Mr 0 0 0 = N at hI ⊢
  rcases row_cases (Mc := Mc) (Mr := N) x1 with ⟨e1, e2⟩ | ⟨a, ha8, rfl, e1, e2⟩
  · rw [e1, e2]
    exact ⟨_, Mc, N, rfl, rfl, hI⟩
  rw [e1, e2]
  simp only [Option.bind_some, if_true]
  rcases row_cases (Mc := Mc) (Mr := N) x3 with ⟨e3, e4⟩ | ⟨b, hb8, rfl, e3, e4⟩
  · rw [e3, e4]
    exact ⟨_, Mc, N, rfl, rfl, hI⟩
  rw [e3, e4]
  have hI2 := Inv_found hI 0
  have hfi : ∀ x, wq_st (wq_st N 0 1 0) 0 1 x = wq_st N 0 1 x := fun x => st_idem _ _ _ _ _
  simp only [Option.bind_some, if_true, in_nI ha8 (show 8 < 2 ^ 31 by omega), in_nI hb8 (show 8 < 2 ^ 31 by omega), cl_nI (show a < 2 ^ 31 by omega), cl_nI (show b < 2 ^ 31 by omega), fX6_found, fX6_passed, fX7_finding, hfi]
  obtain ⟨v, g1, g2, g3, -⟩ := id hI2
  have hmis : ∀ t, fX3_isMissing (2 + 2 * t) (wq_st Mc 0 8 0) = fX3_isMissing (2 + 2 * t) Mc := fun t => by
    unfold fX3_isMissing
    rw [wq_st_ne (by omega)]
  have hpl : ∀ t x y, fX3_hasPlaces (2 + 2 * t) x y (wq_st Mc 0 8 0) = fX3_hasPlaces (2 + 2 * t) x y Mc := fun t x y => by
    unfold fX3_hasPlaces
    rw [wq_st_ne (by omega)]
  rcases row_at g3 ha8 with ⟨q1, q2, q3, q4⟩ | ⟨n, l, q1, q2, q3, q4, q5, q6, q7, q8, q9, q10⟩
  · rw [hmis] at q3
    rw [q3, if_pos q4]
    exact ⟨_, _, _, rfl, rfl, Inv_found hI 1⟩
  rw [hmis] at q8
  rw [q8, if_neg q10]
  simp only [Option.bind_some, Bool.false_eq_true, if_false]
  rcases row_at g3 hb8 with ⟨w1, w2, w3, w4⟩ | ⟨n', l', w1, w2, w3, w4, w5, w6, w7, w8, w9, w10⟩
  · rw [hmis] at w3
    rw [w3, if_neg (Int32.not_le.mpr w4)]
    exact ⟨_, _, _, rfl, rfl, Inv_found hI 1⟩
  rw [hmis] at w8
  rw [w8, if_pos w9]
  simp only [Option.bind_some, Bool.false_eq_true, if_false]
  have q4' : Mc.1 (2 + 2 * a) 1 = nI l := by rw [wq_st_ne (by omega)] at q4; exact q4
  have w4' : Mc.1 (2 + 2 * b) 1 = nI l' := by rw [wq_st_ne (by omega)] at w4; exact w4
  rw [q4', w4', q5, w5, q6, w6]
  by_cases hl : nI l = nI l'
  · rw [if_pos hl, if_pos hl]
    rcases C_has q1 q3 x2 x5 with ⟨i, k, hik, rfl, rfl, f1⟩ | ⟨f1, hbad⟩
    · rw [hpl] at f1
      rw [f1]
      simp only [Option.bind_some, if_true]
      rw [if_neg (show ¬ nI i < 0 from nI_pos (by omega)), if_neg (show ¬ nI k < 0 from nI_pos (by omega)), if_neg (R_gt q1 hik)]
      rcases C_has w1 w3 x4 (nI k) with ⟨j, k', hjk, rfl, ek, f2⟩ | ⟨f2, hbad⟩
      · rw [nI_eq (by omega) (by omega)] at ek
        subst ek
        rw [hpl] at f2
        rw [f2, if_neg (show ¬ nI j < 0 from nI_pos (by omega)), if_pos (Int32.not_lt.mp (R_gt w1 hjk))]
        have hck : wq_cpk (nI i) (nI j) (nI k) 40 40 = true := by
          simp only [wq_cpk, Bool.and_eq_true, decide_eq_true_eq]
          rw [cl_nI (by omega), cl_nI (by omega), cl_nI (by omega)]
          exact ⟨⟨⟨⟨nI_pos' (by omega), nI_pos' (by omega)⟩, nI_pos' (by omega)⟩, by omega⟩, by omega⟩
        have hJ : (if nI i < nI j then fX7_copy_J138 (nI a) (nI i) (nI b) (nI j) (nI k) 0 (wq_st N 0 1 0) else fX7_copy_J138 (nI a) (nI i) (nI b) (nI j) (nI k) 1 (wq_st N 0 1 0)) = some (nI k, cpR (wq_st N 0 1 0) (40 * a + i) (40 * b + j) 0 k) := by
          have hL := R_copyL (wq_st N 0 1 0) (a := a) (b := b) (i := i) (j := j) (n := k) ha8 hb8 (by omega) (by omega)
          unfold fX7_copy_J138
          by_cases hij : nI i < nI j
          · rw [if_pos hij] at hL ⊢
            rw [hL]
            rfl
          · rw [if_neg hij] at hL ⊢
            rw [hL]
            rfl
        simp only [Option.bind_some, if_true, hck, hJ, cl_nI (show i < 2 ^ 31 by omega), cl_nI (show j < 2 ^ 31 by omega), cl_nI (show k < 2 ^ 31 by omega)]
        refine ⟨_, _, _, rfl, rfl, ?_⟩
        have hsw : wq_st (wq_cp Mc (2 + 2 * a + 1) i (2 + 2 * b + 1) j k) 0 8 0 = wq_cp (wq_st Mc 0 8 0) (2 + 2 * a + 1) i (2 + 2 * b + 1) j k := by
          unfold wq_st wq_cp
          simp only [Prod.mk.injEq, and_true]
          funext q t
          by_cases hq : q = 0
          · subst hq
            simp [show ¬ (0 = 2 + 2 * b + 1) by omega]
          · simp [hq]
        rw [hsw]
        refine Inv_rows hI2 (fun q hq => wq_cp_ne (by omega)) rfl (fun q _ _ c => by funext t; simp [cpR, c]) (fun t ht => ?_)
        rw [show (cpR (wq_st N 0 1 0) (40 * a + i) (40 * b + j) 0 k).1 1 t = (wq_st N 0 1 0).1 1 t by simp [cpR], show (cpR (wq_st N 0 1 0) (40 * a + i) (40 * b + j) 0 k).1 2 t = (wq_st N 0 1 0).1 2 t by simp [cpR], wq_cp_ne (show 2 + 2 * t ≠ 2 + 2 * b + 1 by omega)]
        rcases g3 t ht with y | ⟨n2, l2, y1, y2, y3, y4, y5, y6, y7⟩
        · exact Or.inl y
        · refine Or.inr ⟨n2, l2, y1, y2, y3, y4, y5, y6, fun z hz => ?_⟩
          by_cases htb : t = b
          · subst htb
            rw [wq_cp_self]
            simp only [cpR, if_true, va_cpy]
            by_cases hzz : j ≤ z ∧ z < j + k
            · rw [if_pos hzz, if_pos (by omega), q7 _ (by omega), show 40 * a + i + (40 * t + z - (40 * t + j)) = 40 * a + (i + (z - j)) by omega]
            · rw [if_neg hzz, if_neg (by omega)]
              exact y7 z hz
          · rw [wq_cp_ne (by omega), y7 z hz]
            simp only [cpR, if_true]
            rw [if_neg (by omega)]
      · rw [hpl] at f2
        rw [f2]
        simp only [Option.bind_some, Bool.false_eq_true, if_false]
        rcases hbad with hb1 | ⟨hb1, hb2⟩ | ⟨hb1, hb2, hb3⟩
        · rw [if_pos hb1]
          exact ⟨_, _, _, rfl, rfl, Inv_found hI 2⟩
        · exact absurd hb2 (nI_pos (by omega))
        · rw [if_neg hb1, if_neg (show ¬ lg_cmp (x4.toInt64 + (nI k).toInt64) (nI n').toInt64 ≤ 0 from Int32.not_le.mpr ((cmp_gt0 _ _).mpr hb3))]
          exact ⟨_, _, _, rfl, rfl, Inv_found hI 2⟩
    · rw [hpl] at f1
      rw [f1]
      simp only [Option.bind_some, Bool.false_eq_true, if_false]
      have goal : ∃ N2, (if x2 < 0 then some (-1000010 - 2, wq_st N 0 1 2) else if x4 < 0 then some (-1000010 - 2, wq_st N 0 1 2) else if x5 < 0 then some (-1000010 - 2, wq_st N 0 1 2) else if 0 < lg_cmp (x2.toInt64 + x5.toInt64) (nI n).toInt64 then some (-1000010 - 2, wq_st N 0 1 2) else if lg_cmp (x4.toInt64 + x5.toInt64) (nI n').toInt64 ≤ 0 then (if x2 < x4 then fX7_copy_J138 (nI a) x2 (nI b) x4 x5 0 (wq_st N 0 1 0) else fX7_copy_J138 (nI a) x2 (nI b) x4 x5 1 (wq_st N 0 1 0)) else some (-1000010 - 2, wq_st N 0 1 2)) = some ((-1000010 : Int32) - 2, N2) ∧ N2 = wq_st N 0 1 2 := by
        rcases hbad with hb1 | ⟨hb1, hb2⟩ | ⟨hb1, hb2, hb3⟩
        · rw [if_pos hb1]
          exact ⟨_, rfl, rfl⟩
        · rw [if_neg hb1, if_pos hb2, ite_self]
          exact ⟨_, rfl, rfl⟩
        · rw [if_neg hb1, if_neg hb2, if_pos ((cmp_gt0 _ _).mpr hb3), ite_self]
          exact ⟨_, rfl, rfl⟩
      obtain ⟨N2, e5, e6⟩ := goal
      exact ⟨_, _, N2, rfl, e5, by rw [e6]; exact Inv_found hI 2⟩
  · rw [if_neg hl, if_neg hl]
    exact ⟨_, _, _, rfl, rfl, Inv_found hI 5⟩
end E3
