theorem gcd_step {a b : Nat} : Nat.gcd b (a % b) = Nat.gcd a b := by
  rw [Nat.gcd_comm b, ← Nat.gcd_rec, Nat.gcd_comm]
theorem half_mod {b r : Nat} (h0 : 0 < r) (h : r < b) : 2 * (b % r) < b := by
  by_cases h2 : 2 * r ≤ b
  · have := Nat.mod_lt b h0
    omega
  · rw [Nat.mod_eq_sub_mod (by omega), Nat.mod_eq_of_lt (by omega)]
    omega
theorem L_z {a : Nat} (h : a < 2 ^ 63) : lg_cmp (lN a) 0 = 0 ↔ a = 0 := by
  rw [cmp_eq0, lit_lN 0, pk_lEQ h (by omega)]
theorem L_z' {a : Nat} (h : a < 2 ^ 63) : lN a = 0 ↔ a = 0 := by
  rw [lit_lN 0, pk_lEQ h (by omega)]
theorem C_gcd (M : wq_M) : ∀ (k a b i n : Nat), a < 2 ^ 62 → b < 2 ^ 62 → b < 2 ^ k → 2 * k < n → i + 2 * k < 128 → wq_lp (fX6_greatestDivisor_L9 M) n (lN a, lN b, nI i) = some (lN (Nat.gcd a b)) := by
  have hst : ∀ a b i, a < 2 ^ 62 → b < 2 ^ 62 → i < 128 → fX6_greatestDivisor_L9 M (lN a, lN b, nI i) = if b = 0 then some (.inr (lN a)) else some (.inl (lN b, lN (a % b), nI (i + 1))) := by
    intro a b i ha hb hi
    unfold fX6_greatestDivisor_L9
    simp only []
    rw [if_neg (show ¬ 128 ≤ nI i by rw [lit_nI 128, nI_leI (by omega) (by omega)]; omega), nI_1]
    by_cases h : b = 0
    · rw [if_pos ((L_z (by omega)).mpr h), if_pos h]
    · rw [if_neg (fun q => h ((L_z (by omega)).mp q)), if_neg h, if_pos (fun q => h ((L_z' (by omega)).mp q)), pk_lRem (by omega) (by omega) (by omega)]
  intro k
  induction k with
  | zero =>
    intro a b i n ha hb hk hn hi
    obtain ⟨n, rfl⟩ : ∃ m, n = m + 1 := ⟨n - 1, by omega⟩
    have hb0 : b = 0 := by omega
    subst hb0
    rw [lp_exit (hst a 0 i ha hb (by omega))]
    rw [Nat.gcd_zero_right]
  | succ k ih =>
    intro a b i n ha hb hk hn hi
    obtain ⟨n, rfl⟩ : ∃ m, n = m + 1 + 1 + 1 := ⟨n - 3, by omega⟩
    by_cases h : b = 0
    · have := hst a b i ha hb (by omega)
      rw [if_pos h] at this
      rw [lp_exit this, h, Nat.gcd_zero_right]
    · have h1 := hst a b i ha hb (by omega)
      rw [if_neg h] at h1
      have hr : a % b < b := Nat.mod_lt _ (by omega)
      rw [lp_step h1, ← gcd_step]
      have h2 := hst b (a % b) (i + 1) hb (by omega) (by omega)
      by_cases h3 : a % b = 0
      · rw [if_pos h3] at h2
        rw [lp_exit h2, h3, Nat.gcd_zero_right]
      · rw [if_neg h3] at h2
        have h4 := half_mod (b := b) (r := a % b) (by omega) hr
        rw [lp_step h2, ← gcd_step]
        exact ih _ _ _ _ (by omega) (by omega) (by rw [Nat.pow_succ] at hk; omega) (by omega) (by omega)
theorem R_gcd (M : wq_M) (x2 : Int32) (x3 x5 : Int64) : ∀ (k a b n : Nat), a < 2 ^ 62 → b < 2 ^ 62 → b < 2 ^ k → 2 * k < n → wq_lp (fX7_flaws_L166 x2 x3 x5 M) n (lN a, lN b) = some (lN (Nat.gcd a b)) := by
  have hst : ∀ a b, a < 2 ^ 62 → b < 2 ^ 62 → fX7_flaws_L166 x2 x3 x5 M (lN a, lN b) = if b = 0 then some (.inr (lN a)) else some (.inl (lN b, lN (a % b))) := by
    intro a b ha hb
    unfold fX7_flaws_L166
    simp only []
    by_cases h : b = 0
    · rw [if_pos ((L_z (by omega)).mpr h), if_pos h]
    · rw [if_neg (fun q => h ((L_z (by omega)).mp q)), if_neg h, if_pos (fun q => h ((L_z' (by omega)).mp q)), pk_lRem (by omega) (by omega) (by omega)]
  intro k
  induction k with
  | zero =>
    intro a b n ha hb hk hn
    obtain ⟨n, rfl⟩ : ∃ m, n = m + 1 := ⟨n - 1, by omega⟩
    have hb0 : b = 0 := by omega
    subst hb0
    rw [lp_exit (hst a 0 ha hb)]
    rw [Nat.gcd_zero_right]
  | succ k ih =>
    intro a b n ha hb hk hn
    obtain ⟨n, rfl⟩ : ∃ m, n = m + 1 + 1 + 1 := ⟨n - 3, by omega⟩
    by_cases h : b = 0
    · have := hst a b ha hb
      rw [if_pos h] at this
      rw [lp_exit this, h, Nat.gcd_zero_right]
    · have h1 := hst a b ha hb
      rw [if_neg h] at h1
      have hr : a % b < b := Nat.mod_lt _ (by omega)
      rw [lp_step h1, ← gcd_step]
      have h2 := hst b (a % b) hb (by omega)
      by_cases h3 : a % b = 0
      · rw [if_pos h3] at h2
        rw [lp_exit h2, h3, Nat.gcd_zero_right]
      · rw [if_neg h3] at h2
        have h4 := half_mod (b := b) (r := a % b) (by omega) hr
        rw [lp_step h2, ← gcd_step]
        exact ih _ _ _ (by omega) (by omega) (by rw [Nat.pow_succ] at hk; omega) (by omega)
theorem low_terms {A B A' B' : Nat} (hB : 0 < B) (hB' : 0 < B') (h : A * B' = A' * B) : A / Nat.gcd A B = A' / Nat.gcd A' B' ∧ B / Nat.gcd A B = B' / Nat.gcd A' B' := by
  have h1 : Nat.gcd A B * B' = Nat.gcd A' B' * B := by
    rw [← Nat.gcd_mul_right, ← Nat.gcd_mul_right, h, Nat.mul_comm B B']
  constructor
  · rw [← Nat.mul_div_mul_right A (Nat.gcd A B) hB', ← Nat.mul_div_mul_right A' (Nat.gcd A' B') hB, h1, h]
  · rw [← Nat.mul_div_mul_right B (Nat.gcd A B) hB', ← Nat.mul_div_mul_right B' (Nat.gcd A' B') hB, h1, Nat.mul_comm B B']
section EC
variable {Mc Mr : wq_M} {v : Nat → Nat}
def aFl (v : Nat → Nat) (s : Nat) : Bool := aHolds v s && decide (lBurst v s ≤ bBurst v (v (36 + s) - 1) / 2)
theorem C_flawed {M : wq_M} {p : Nat} (hC : RepC M p v) (wf : WF v) {s : Nat} (hs : s < v 0) : fX5_holdsFlawed p (nI s) M = some (aFl v s) := by
  have h8 := wf.n8
  unfold fX5_holdsFlawed aFl
  rw [C_holds hC wf hs]
  simp only [Option.bind_some]
  by_cases h : aHolds v s = true
  · have hz : ¬ v (36 + s) = 0 := by
      intro q
      simp [aHolds, q] at h
    have hg := wf.ldg (show s < 8 by omega) hz
    have hm := wf.m5
    have hb := bBurst_b wf hg
    have hl : lBurst v s ≤ 99 := by
      have := wf.2.2.2.1
      unfold lBurst
      omega
    rw [if_pos h, in_nI (show s < 8 by omega) (by omega), cl_nI (by omega), hC.2.2.2.2.2.2.2.2 s (by omega), ld_of hz, C_burstBorne hC wf hg, C_burstLoad hC wf (by omega)]
    simp only [Option.bind_some, if_true]
    rw [lit_nI 2, pk_div (by omega) (by omega) (by omega), h]
    by_cases hq : lBurst v s ≤ bBurst v (v (36 + s) - 1) / 2
    · rw [if_neg (by rw [nI_ltI (by omega) (by omega)]; omega)]
      simp [hq]
    · rw [if_pos (by rw [nI_ltI (by omega) (by omega)]; omega)]
      simp [hq]
  · rw [if_neg h]
    simp only [Bool.not_eq_true] at h
    rw [h]
    rfl
theorem aFl_holds {s : Nat} (h : aFl v s = true) : aHolds v s = true := by
  unfold aFl at h
  rw [Bool.and_eq_true] at h
  exact h.1
theorem C_flL {M : wq_M} {p : Nat} (hC : RepC M 20 v) (wf : WF v) (hp : p ≤ 10) (x2 : Int32) {s a b : Nat} (hs : s < v 0) (ha : a < 2 ^ 40) : fX6_flaws_L58 (nI p) x2 M (lN a, lN b, nI s) = some (.inl (if a = 0 ∨ aFl v s = true then (lN a, lN b, nI (s + 1)) else (lN (a * (10 - p)), lN (b * 10), nI (s + 1)))) := by
  have h8 := wf.n8
  unfold fX6_flaws_L58
  simp only []
  rw [hC.1, if_neg (show ¬ nI (v 0) ≤ nI s by rw [nI_leI (by omega) (by omega)]; omega), C_flawed hC wf hs, nI_1, lit_nI 10, pk_sub hp, nI_l (by omega), lN_mul, lit_lN 10, lN_mul]
  simp only [Option.bind_some]
  by_cases h : a = 0
  · rw [if_pos ((L_z (by omega)).mpr h), if_pos (Or.inl h)]
  · rw [if_neg (fun q => h ((L_z (by omega)).mp q))]
    by_cases h2 : aFl v s = true
    · rw [if_pos h2, if_pos (Or.inr h2)]
    · rw [if_neg h2, if_neg (by simp [h, h2])]
theorem R_flL {M : wq_M} {p : Nat} (hR : RepA (M.1 4) v) (wf : WF v) (hp : p ≤ 10) (x2 : Int32) {s a b : Nat} (hs : s < v 0) : fX7_flaws_L50 (nI p) x2 M (lN a, lN b, nI s) = some (.inl (lN (a * (if aHolds v s = true then (if aFl v s = true then 10 else 10 - p) else 0)), lN (b * 10), nI (s + 1))) := by
  have h8 := wf.n8
  have hm := wf.m5
  have hl := wf.ld (show s < 8 by omega)
  unfold fX7_flaws_L50 fX7_flaws_L50_J105 fX7_flaws_L50_J106 fX7_flaws_L50_J138 fX7_flaws_L50_J143
  simp only []
  rw [in_0_44, cl_0, hR.1 0 (by omega), if_pos rfl, if_neg (show ¬ nI (v 0) ≤ nI s by rw [nI_leI (by omega) (by omega)]; omega), lit_nI 36, nI_add, in_nI (show 36 + s < 44 by omega) (by omega), cl_nI (by omega), hR.2 s (by omega), nI_1, R_holds hR wf hs, nI_l (by omega), lit_lN 10, lN_sub hp, lN_mul, lit_lN 0, lN_add, lN_add, lN_mul, lN_mul, lN_mul]
  simp only [Option.bind_some, if_true]
  by_cases hz : v (36 + s) = 0
  · have hn : ¬ aHolds v s = true := by simp [aHolds, hz]
    rw [if_pos (show nI (v (36 + s)) - 1 < 0 by rw [ld_lt0 (by omega)]; exact hz), if_neg hn, if_neg hn]
  · have hg := wf.ldg (show s < 8 by omega) hz
    have hb := bBurst_b wf hg
    have hl : lBurst v s ≤ 99 := by
      have := wf.2.2.2.1
      unfold lBurst
      omega
    rw [if_neg (show ¬ nI (v (36 + s)) - 1 < 0 by rw [ld_lt0 (by omega)]; exact hz), ld_of hz, R_bearsBurst hR wf hg, R_burstLoad hR wf (by omega)]
    simp only [Option.bind_some]
    rw [lit_nI 2, pk_div (by omega) (by omega) (by omega)]
    by_cases hq : lBurst v s ≤ bBurst v (v (36 + s) - 1) / 2
    · rw [if_neg (by rw [nI_ltI (by omega) (by omega)]; omega), if_neg (show ¬ (1 : Int32) = 0 by decide)]
      by_cases hh : aHolds v s = true
      · rw [if_pos hh, if_pos hh, if_pos (show aFl v s = true by simp [aFl, hh, hq]), show 10 - p + p = 10 by omega]
      · rw [if_neg hh, if_neg hh]
    · rw [if_pos (by rw [nI_ltI (by omega) (by omega)]; omega)]
      by_cases hh : aHolds v s = true
      · rw [if_pos hh, if_pos hh, if_neg (show ¬ aFl v s = true by simp [aFl, hq])]
        rfl
      · rw [if_neg hh, if_neg hh]
theorem pw_b (j : Nat) (h : j ≤ 8) : 10 ^ j ≤ 100000000 := by
  have := Nat.pow_le_pow_right (n := 10) (by omega) h
  simpa using this
def aFs (v : Nat → Nat) : Bool := aAll (aHolds v) (v 0)
theorem aFs_first (wf : WF v) : aFirst v = -1000000 ↔ aFs v = true := by
  unfold aFs
  rw [aAll_iff]
  unfold aFirst
  have h8 := wf.n8
  cases h : aFst (aHolds v) 0 (v 0) with
  | none =>
    have h1 := aFst_none h
    exact ⟨fun _ i hi => by have := h1 i hi; rwa [Nat.zero_add] at this, fun _ => rfl⟩
  | some t =>
    obtain ⟨h1, h2, h3⟩ := aFst_some h
    refine ⟨fun q => ?_, fun q => ?_⟩
    · have h5 : nI t = -1000000 := q
      rw [← Int32.toInt_inj, nI_toInt (by omega), show (-1000000 : Int32).toInt = -1000000 by decide] at h5
      omega
    · have := q t (by omega)
      rw [h3] at this
      exact absurd this (by simp)
theorem fl_loops {N : wq_M} (hC : RepC Mc 20 v) (hR : RepA (N.1 4) v) (wf : WF v) {p : Nat} (hp : p ≤ 10) (x2 : Int32) : ∃ A B A' B', wq_lp (fX6_flaws_L58 (nI p) x2 Mc) wq_FU (lN (aB (aFs v)), 1, 0) = some (lN A', lN B') ∧ wq_lp (fX7_flaws_L50 (nI p) x2 N) wq_FU (1, 1, 0) = some (lN A, lN B) ∧ A * B' = A' * B ∧ 0 < B ∧ 0 < B' ∧ A ≤ 100000000 ∧ B ≤ 100000000 ∧ A' ≤ 100000000 ∧ B' ≤ 100000000 := by
  have h8 := wf.n8
  obtain ⟨y, z, f1, f2, A, B, A', B', rfl, rfl, hq⟩ := lp_rel (b1 := fX6_flaws_L58 (nI p) x2 Mc) (b2 := fX7_flaws_L50 (nI p) x2 N) (fun n s t => ∃ A B A' B' j, n + j = v 0 ∧ s = (lN A', lN B', nI j) ∧ t = (lN A, lN B, nI j) ∧ ((aFs v = true ∧ A * B' = A' * B) ∨ (aFs v = false ∧ A' = 0 ∧ (A = 0 ∨ ∀ i, i < j → aHolds v i = true))) ∧ 0 < B ∧ 0 < B' ∧ A ≤ 10 ^ j ∧ B ≤ 10 ^ j ∧ A' ≤ 10 ^ j ∧ B' ≤ 10 ^ j) (fun y z => ∃ A B A' B', y = (lN A', lN B') ∧ z = (lN A, lN B) ∧ A * B' = A' * B ∧ 0 < B ∧ 0 < B' ∧ A ≤ 100000000 ∧ B ≤ 100000000 ∧ A' ≤ 100000000 ∧ B' ≤ 100000000) (by
    rintro n _ _ ⟨A, B, A', B', j, hj, rfl, rfl, h1, h2, h3, h4, h5, h6, h7⟩
    have hpw := pw_b j (by omega)
    by_cases hz : n = 0
    · left
      refine ⟨(lN A', lN B'), (lN A, lN B), ?_, ?_, A, B, A', B', rfl, rfl, ?_, h2, h3, by omega, by omega, by omega, by omega⟩
      · unfold fX6_flaws_L58
        simp only []
        rw [hC.1, if_pos (show nI (v 0) ≤ nI j by rw [nI_leI (by omega) (by omega)]; omega)]
      · unfold fX7_flaws_L50
        simp only []
        rw [in_0_44, cl_0, hR.1 0 (by omega), if_pos rfl, if_pos (show nI (v 0) ≤ nI j by rw [nI_leI (by omega) (by omega)]; omega)]
      · rcases h1 with ⟨-, h⟩ | ⟨q1, q2, q3⟩
        · exact h
        · rcases q3 with rfl | q3
          · rw [q2, Nat.zero_mul, Nat.zero_mul]
          · have : aFs v = true := by
              unfold aFs
              rw [aAll_iff]
              intro i hi
              exact q3 i (by omega)
            rw [this] at q1
            exact absurd q1 (by simp)
    right
    obtain ⟨n, rfl⟩ : ∃ i, n = i + 1 := ⟨n - 1, by omega⟩
    have hpw2 : 10 ^ (j + 1) = 10 ^ j * 10 := Nat.pow_succ _ _
    rw [C_flL hC wf hp x2 (by omega) (by omega), R_flL hR wf hp x2 (by omega)]
    have hf : (if aHolds v j = true then (if aFl v j = true then 10 else 10 - p) else 0) ≤ 10 := by
      split
      · split <;> omega
      · omega
    have hA := Nat.mul_le_mul h4 hf
    have hA' := Nat.mul_le_mul h6 (show 10 - p ≤ 10 by omega)
    rcases h1 with ⟨q0, h⟩ | ⟨q1, q2, q3⟩
    · have hh : aHolds v j = true := by
        unfold aFs at q0
        exact aAll_iff.mp q0 j (by omega)
      rw [if_pos hh] at hA ⊢
      by_cases hfl : aFl v j = true
      · rw [if_pos hfl] at hA ⊢
        rw [if_pos (Or.inr hfl)]
        refine ⟨n, _, _, rfl, rfl, rfl, A * 10, B * 10, A', B', j + 1, by omega, rfl, rfl, Or.inl ⟨q0, ?_⟩, by omega, by omega, by omega, by omega, by omega, by omega⟩
        rw [Nat.mul_right_comm, h, Nat.mul_assoc]
      · rw [if_neg hfl] at hA ⊢
        by_cases ha : A' = 0
        · rw [if_pos (Or.inl ha)]
          refine ⟨n, _, _, rfl, rfl, rfl, A * (10 - p), B * 10, A', B', j + 1, by omega, rfl, rfl, Or.inl ⟨q0, ?_⟩, by omega, by omega, by omega, by omega, by omega, by omega⟩
          rw [Nat.mul_right_comm, h, ha]
          simp
        · rw [if_neg (by simp [ha, hfl])]
          refine ⟨n, _, _, rfl, rfl, rfl, A * (10 - p), B * 10, A' * (10 - p), B' * 10, j + 1, by omega, rfl, rfl, Or.inl ⟨q0, ?_⟩, by omega, by omega, by omega, by omega, by omega, by omega⟩
          rw [Nat.mul_mul_mul_comm, h, Nat.mul_mul_mul_comm]
    · subst q2
      rw [if_pos (Or.inl rfl)]
      refine ⟨n, _, _, rfl, rfl, rfl, _, B * 10, 0, B', j + 1, by omega, rfl, rfl, Or.inr ⟨q1, rfl, ?_⟩, by omega, by omega, by omega, by omega, by omega, by omega⟩
      rcases q3 with rfl | q3
      · left
        rw [Nat.zero_mul]
      · by_cases hh : aHolds v j = true
        · right
          intro i hi
          by_cases e : i = j
          · rw [e]; exact hh
          · exact q3 i (by omega)
        · left
          rw [if_neg hh, Nat.mul_zero]) (v 0) wq_FU (lN (aB (aFs v)), 1, 0) (1, 1, 0) ⟨1, 1, aB (aFs v), 1, 0, rfl, rfl, rfl, by
      cases aFs v with
      | true => exact Or.inl ⟨rfl, rfl⟩
      | false => exact Or.inr ⟨rfl, rfl, Or.inr (fun i hi => by omega)⟩, by omega, by omega, by omega, by omega, aB_le _, by omega⟩ (FU_gt (by omega))
  exact ⟨A, B, A', B', f1, f2, hq⟩
theorem E_flaws (hI : Inv Mc Mr) (x1 x2 : Int32) : ∃ a N, fX6_flaws x1 x2 Mc = some a ∧ fX7_flaws x1 x2 Mr = some (a, N) ∧ Inv Mc N := by
  unfold fX6_flaws fX7_flaws
  have hI := Inv_t0 hI
  generalize wq_st Mr 0 0 0 = N at hI ⊢
  obtain ⟨v, hW, -⟩ := id hI
  rcases there_cases hW with ⟨e1, e2⟩ | ⟨wf, e1, e2⟩
  · rw [e1, e2]
    exact ⟨_, N, rfl, rfl, hI⟩
  rw [e1, e2]
  simp only [Option.bind_some, if_true, if_false, Bool.false_eq_true]
  rw [lit_lN 0, lit_lN 10, show fX7_in x2.toInt64 (lN 0) 1 N = fX7_in x2.toInt64 (lN 0) (lN 1) N from rfl]
  rcases R_inb x1 0 10 (by omega) (by omega) N with ⟨h, e⟩ | ⟨h, e⟩ | ⟨p, h1, h2, rfl, e⟩
  · rw [if_pos (show x1 < 0 from h), e]
    exact ⟨_, N, rfl, rfl, hI⟩
  · rw [if_neg (hi_f (by omega) h).1, if_pos (show 10 < x1 from h), e]
    exact ⟨_, N, rfl, rfl, hI⟩
  rw [if_neg (nI_pos (by omega)), if_neg (show ¬ 10 < nI p by rw [lit_nI 10, nI_ltI (by omega) (by omega)]; omega), e]
  simp only [Option.bind_some, if_true]
  rcases R_inb x2 0 1 (by omega) (by omega) N with ⟨h, e⟩ | ⟨h, e⟩ | ⟨k, h3, h4, rfl, e⟩
  · rw [if_pos (show x2 < 0 from h), e]
    exact ⟨_, N, rfl, rfl, hI⟩
  · rw [if_neg (hi_f (by omega) h).1, if_neg (show ¬ x2 ≤ 1 from (hi_f (by omega) h).2.2.1), e]
    exact ⟨_, N, rfl, rfl, hI⟩
  rw [if_neg (nI_pos (by omega)), if_pos (show nI k ≤ 1 by rw [lit_nI 1, nI_leI (by omega) (by omega)]; omega), e, C_firstThatFails hW.2.1 wf]
  simp only [Option.bind_some, if_true]
  obtain ⟨A, B, A', B', f1, f2, g1, g2, g3, g4, g5, g6, g7⟩ := fl_loops hW.2.1 hW.2.2 wf h2 (nI k)
  have hsel : (if aFirst v = -1000000 then fX6_flaws_J51 (nI p) (nI k) 1 Mc else fX6_flaws_J51 (nI p) (nI k) (lN 0) Mc) = fX6_flaws_J51 (nI p) (nI k) (lN (aB (aFs v))) Mc := by
    by_cases h : aFirst v = -1000000
    · rw [if_pos h, (aFs_first wf).mp h]
      rfl
    · rw [if_neg h]
      have : aFs v = false := by
        cases hh : aFs v with
        | true => exact absurd ((aFs_first wf).mpr hh) h
        | false => rfl
      rw [this]
      rfl
  rw [hsel, f2]
  unfold fX6_flaws_J51 fX6_greatestDivisor
  rw [f1]
  simp only [Option.bind_some]
  rw [show ((lN B', lN A', (0 : Int32)) : Int64 × Int64 × Int32) = (lN B', lN A', nI 0) from rfl, C_gcd Mc 30 B' A' 0 wq_FU (by omega) (by omega) (by omega) (FU_gt (by omega)) (by omega), R_gcd N (nI k) _ _ 30 A B wq_FU (by omega) (by omega) (by omega) (FU_gt (by omega)), Nat.gcd_comm B' A']
  simp only [Option.bind_some]
  have hg1 : 0 < Nat.gcd A B := Nat.gcd_pos_of_pos_right _ g2
  have hg2 : 0 < Nat.gcd A' B' := Nat.gcd_pos_of_pos_right _ g3
  have hg3 : Nat.gcd A B ≤ B := Nat.gcd_le_right _ g2
  have hg4 : Nat.gcd A' B' ≤ B' := Nat.gcd_le_right _ g3
  have hlow := low_terms g2 g3 g1
  have hmx : (if lN (Nat.gcd A' B') < 1 then (1 : Int64) else lN (Nat.gcd A' B')) = lN (Nat.gcd A' B') := by
    rw [if_neg (show ¬ lN (Nat.gcd A' B') < 1 by rw [lit_lN 1, pk_lLT (by omega) (by omega)]; omega)]
  rw [hmx]
  have n1 : ¬ lN (Nat.gcd A' B') = 0 := fun q => by
    have := (L_z' (by omega)).mp q
    omega
  have n2 : ¬ lN (Nat.gcd A B) = lN 0 := fun q => by
    have := (L_z' (by omega)).mp q
    omega
  rw [if_pos n1, if_pos n1, if_pos n2, if_pos n2, pk_lDiv (by omega) (by omega) (by omega), pk_lDiv (by omega) (by omega) (by omega), pk_lDiv (by omega) (by omega) (by omega), pk_lDiv (by omega) (by omega) (by omega), hlow.1, hlow.2]
  by_cases hk : nI k = 0
  · rw [if_pos hk, if_pos hk]
    exact ⟨_, N, rfl, rfl, hI⟩
  · rw [if_neg hk, if_neg hk]
    exact ⟨_, N, rfl, rfl, hI⟩
end EC
