theorem wide_le (a b : Int32) : a.toInt64 ≤ b.toInt64 ↔ a ≤ b := by
  rw [Int64.le_iff_toInt_le, Int32.toInt_toInt64, Int32.toInt_toInt64, Int32.le_iff_toInt_le]
theorem wide_lt (a b : Int32) : a.toInt64 < b.toInt64 ↔ a < b := by
  rw [Int64.lt_iff_toInt_lt, Int32.toInt_toInt64, Int32.toInt_toInt64, Int32.lt_iff_toInt_lt]
theorem wide_eq (a b : Int32) : a.toInt64 = b.toInt64 ↔ a = b := by
  rw [← Int64.toInt_inj, Int32.toInt_toInt64, Int32.toInt_toInt64, Int32.toInt_inj]
theorem cmp_lt0 (x y : Int64) : lg_cmp x y < 0 ↔ x < y := by
  have h := lg_cmp_ge x y
  rw [← Int32.not_le, h, Int64.not_le]
theorem cmp_gt0 (x y : Int64) : 0 < lg_cmp x y ↔ y < x := by
  unfold lg_cmp
  by_cases h : y < x
  · simp [h]
  · by_cases h2 : x = y <;> simp [h, h2]
theorem cmp_eq0 (x y : Int64) : lg_cmp x y = 0 ↔ x = y := by
  unfold lg_cmp
  by_cases h : y < x
  · simp only [gt_iff_lt, h, if_true]
    constructor
    · intro z; exact absurd z (by decide)
    · rintro rfl; exact absurd h (Int64.lt_irrefl)
  · by_cases h2 : x = y <;> simp [h, h2]
theorem R_in (x a b : Int32) (M : wq_M) : fX7_in x.toInt64 a.toInt64 b.toInt64 M = some (decide (a ≤ x) && decide (x ≤ b)) := by
  unfold fX7_in
  simp only [cmp_lt0, cmp_gt0, wide_lt]
  by_cases h1 : a ≤ x <;> by_cases h2 : x ≤ b <;> simp [h1, h2, Int32.not_lt.mpr, Int32.not_le.mp, Int32.not_lt]
theorem R_inl (x : Int32) (a b : Nat) (ha : a < 2 ^ 31) (hb : b < 2 ^ 31) (M : wq_M) : fX7_in x.toInt64 (lN a) (lN b) M = some (decide (nI a ≤ x) && decide (x ≤ nI b)) := by
  rw [← nI_l ha, ← nI_l hb, R_in]
theorem lit_lN (n : Nat) : (OfNat.ofNat n : Int64) = lN n := rfl
theorem rng3 (x : Int32) (a b : Nat) (hb : b < 2 ^ 31) (hab : a ≤ b) : (x < nI a) ∨ (nI b < x) ∨ ∃ k, a ≤ k ∧ k ≤ b ∧ x = nI k := by
  by_cases h1 : x < nI a
  · exact Or.inl h1
  · by_cases h2 : nI b < x
    · exact Or.inr (Or.inl h2)
    · have h0 : ¬ x < 0 := by
        have hz : (nI a).toInt = (a : Int) := nI_toInt (by omega)
        rw [Int32.lt_iff_toInt_lt, hz] at h1
        rw [Int32.lt_iff_toInt_lt, show (0 : Int32).toInt = 0 by decide]
        omega
      obtain ⟨k, hk, rfl⟩ := nI_of h0
      rw [nI_ltI (by omega) (by omega)] at h1
      rw [nI_ltI (by omega) (by omega)] at h2
      exact Or.inr (Or.inr ⟨k, by omega, by omega, rfl⟩)
theorem R_inb (x : Int32) (a b : Nat) (hb : b < 2 ^ 31) (hab : a ≤ b) (M : wq_M) : (x < nI a ∧ fX7_in x.toInt64 (lN a) (lN b) M = some false) ∨ (nI b < x ∧ fX7_in x.toInt64 (lN a) (lN b) M = some false) ∨ ∃ k, a ≤ k ∧ k ≤ b ∧ x = nI k ∧ fX7_in x.toInt64 (lN a) (lN b) M = some true := by
  rw [R_inl x a b (by omega) hb]
  rcases rng3 x a b hb hab with h | h | ⟨k, h1, h2, rfl⟩
  · exact Or.inl ⟨h, by simp [Int32.not_le.mpr h]⟩
  · exact Or.inr (Or.inl ⟨h, by simp [Int32.not_le.mpr h]⟩)
  · refine Or.inr (Or.inr ⟨k, h1, h2, rfl, ?_⟩)
    rw [decide_eq_true ((nI_leI (by omega) (by omega)).mpr h1), decide_eq_true ((nI_leI (by omega) (by omega)).mpr h2)]
    rfl
def Und (what before : Int32) (vn vo : Nat → Nat) : Prop :=
  (what = 9 ∧ (∃ c, before = nI c ∧ c < 1679616 ∧ ∀ s, s < 8 → vo (36 + s) = c / 6 ^ s % 6) ∧ ∀ k, k < 36 → vo k = vn k) ∨
  (∃ g, g < vn 5 ∧ what = nI (4 + g) ∧ before = nI (vo (6 + 6 * g + 5)) ∧ ∀ k, k ≠ 6 + 6 * g + 5 → k < 44 → vo k = vn k) ∨
  (∃ q r, (q = 0 ∧ r = 2 ∨ q = 1 ∧ r = 3 ∨ q = 2 ∧ r = 4 ∨ q = 3 ∧ r = 1) ∧ what = nI q ∧ before = nI (vo r) ∧ ∀ k, k ≠ r → k < 44 → vo k = vn k)
def iRow (Mc Mr : wq_M) : Prop := ∀ r, r < 8 → (Mc.1 (2 + 2 * r) 2 = -1 ∧ Mr.1 1 r = -1) ∨ ∃ n l, n ≤ 40 ∧ l ≤ 2 ∧ Mc.1 (2 + 2 * r) 2 = nI n ∧ Mc.1 (2 + 2 * r) 1 = nI l ∧ Mr.1 1 r = nI l ∧ Mr.1 2 r = nI n ∧ ∀ j, j < 40 → Mc.1 (2 + 2 * r + 1) j = Mr.1 3 (40 * r + j)
def iTp (Mc Mr : wq_M) : Prop := ∃ t, t ≤ 130 ∧ Mc.1 18 1 = nI t ∧ Mr.1 0 11 = nI t ∧ ∀ j, j < t → ∃ b, b < 256 ∧ Mc.1 19 j = nI b ∧ Mr.1 8 j = nI b
def wOk (v : Nat → Nat) : Prop := (v 0 = 0 ∧ v 5 = 0) ∨ WF v
def iWe (Mc Mr : wq_M) (v : Nat → Nat) : Prop := wOk v ∧ RepC Mc 20 v ∧ RepA (Mr.1 4) v
def iAc (Mc Mr : wq_M) (v : Nat → Nat) : Prop := ∃ (k : Nat) (V : Nat → Nat → Nat), k ≤ 24 ∧ Mc.1 47 2 = nI k ∧ Mr.1 0 9 = nI k ∧ V k = v ∧ ∀ i, i < k → WF (V i) ∧ WF (V (i + 1)) ∧ RepA (fun j => Mr.1 7 (44 * i + j)) (V i) ∧ Und (Mc.1 48 i) (Mc.1 49 i) (V (i + 1)) (V i)
def iIm (Mc Mr : wq_M) : Prop := ∀ k, k < 2 → (Mc.1 (31 + 5 * k) 0 = 0 ∧ Mr.1 12 k = 0) ∨ (Mr.1 12 k = 1 ∧ ∃ u, WF u ∧ RepC Mc (31 + 5 * k) u ∧ RepA (fun j => Mr.1 13 (44 * k + j)) u)
def iTr (Mc Mr : wq_M) : Prop := ∃ t, t ≤ 16 ∧ Mc.1 50 1 = nI t ∧ Mr.1 0 25 = nI t ∧ ∀ i, i < t → Mc.1 51 i = Mr.1 14 i
def iSr (Mc : wq_M) : Prop := ((Mc.2 41 3 = some 43 ∧ Mc.2 41 4 = some 44) ∨ (Mc.2 41 3 = some 44 ∧ Mc.2 41 4 = some 43)) ∧ ((Mc.2 41 5 = some 45 ∧ Mc.2 41 6 = some 46) ∨ (Mc.2 41 5 = some 46 ∧ Mc.2 41 6 = some 45))
def iSt (Mc Mr : wq_M) : Prop := Mc.1 0 8 = Mr.1 0 1
def iFl (Mc Mr : wq_M) : Prop := Mc.1 18 3 = Mr.1 0 18
def Inv (Mc Mr : wq_M) : Prop := ∃ v, iWe Mc Mr v ∧ iAc Mc Mr v ∧ iRow Mc Mr ∧ iTp Mc Mr ∧ iSt Mc Mr ∧ iFl Mc Mr ∧ iIm Mc Mr ∧ iTr Mc Mr ∧ iSr Mc
section IV
variable {Mc Mr Mc' Mr' : wq_M} {v : Nat → Nat}
theorem RepC_c {p : Nat} (h : RepC Mc p v) (hq : ∀ q, p ≤ q → q < p + 5 → Mc'.1 q = Mc.1 q) : RepC Mc' p v := by
  unfold RepC
  rw [hq p (by omega) (by omega), hq (p + 1) (by omega) (by omega), hq (p + 2) (by omega) (by omega), hq (p + 3) (by omega) (by omega), hq (p + 4) (by omega) (by omega)]
  exact h
theorem iWe_c (h : iWe Mc Mr v) (hc : ∀ q, 20 ≤ q → q < 25 → Mc'.1 q = Mc.1 q) (hr : Mr'.1 4 = Mr.1 4) : iWe Mc' Mr' v := ⟨h.1, RepC_c h.2.1 hc, by rw [hr]; exact h.2.2⟩
theorem iAc_c (h : iAc Mc Mr v) (h1 : Mc'.1 47 2 = Mc.1 47 2) (h2 : Mc'.1 48 = Mc.1 48) (h3 : Mc'.1 49 = Mc.1 49) (h4 : Mr'.1 0 9 = Mr.1 0 9) (h5 : Mr'.1 7 = Mr.1 7) : iAc Mc' Mr' v := by
  unfold iAc
  rw [h1, h2, h3, h4, h5]
  exact h
theorem iRow_c (h : iRow Mc Mr) (hc : ∀ q, 2 ≤ q → q < 18 → Mc'.1 q = Mc.1 q) (h1 : Mr'.1 1 = Mr.1 1) (h2 : Mr'.1 2 = Mr.1 2) (h3 : Mr'.1 3 = Mr.1 3) : iRow Mc' Mr' := by
  intro r hr
  rw [hc (2 + 2 * r) (by omega) (by omega), hc (2 + 2 * r + 1) (by omega) (by omega), h1, h2, h3]
  exact h r hr
theorem iTp_c (h : iTp Mc Mr) (h1 : Mc'.1 18 1 = Mc.1 18 1) (h2 : Mc'.1 19 = Mc.1 19) (h3 : Mr'.1 0 11 = Mr.1 0 11) (h4 : Mr'.1 8 = Mr.1 8) : iTp Mc' Mr' := by
  unfold iTp
  rw [h1, h2, h3, h4]
  exact h
theorem iIm_c (h : iIm Mc Mr) (hc : ∀ q, 31 ≤ q → q < 41 → Mc'.1 q = Mc.1 q) (h1 : Mr'.1 12 = Mr.1 12) (h2 : Mr'.1 13 = Mr.1 13) : iIm Mc' Mr' := by
  intro k hk
  rw [hc (31 + 5 * k) (by omega) (by omega), h1, h2]
  rcases h k hk with h | ⟨h3, u, h4, h5, h6⟩
  · exact Or.inl h
  · exact Or.inr ⟨h3, u, h4, RepC_c h5 (fun q a b => hc q (by omega) (by omega)), h6⟩
theorem iTr_c (h : iTr Mc Mr) (h1 : Mc'.1 50 1 = Mc.1 50 1) (h2 : Mc'.1 51 = Mc.1 51) (h3 : Mr'.1 0 25 = Mr.1 0 25) (h4 : Mr'.1 14 = Mr.1 14) : iTr Mc' Mr' := by
  unfold iTr
  rw [h1, h2, h3, h4]
  exact h
theorem iSr_c (h : iSr Mc) (h1 : Mc'.2 41 = Mc.2 41) : iSr Mc' := by
  unfold iSr
  rw [h1]
  exact h
def obC (M M' : wq_M) : Prop := M'.1 0 8 = M.1 0 8 ∧ (∀ q, 2 ≤ q → q < 18 → M'.1 q = M.1 q) ∧ M'.1 18 1 = M.1 18 1 ∧ M'.1 18 3 = M.1 18 3 ∧ M'.1 19 = M.1 19 ∧ (∀ q, 20 ≤ q → q < 25 → M'.1 q = M.1 q) ∧ (∀ q, 31 ≤ q → q < 41 → M'.1 q = M.1 q) ∧ M'.1 47 2 = M.1 47 2 ∧ M'.1 48 = M.1 48 ∧ M'.1 49 = M.1 49 ∧ M'.1 50 1 = M.1 50 1 ∧ M'.1 51 = M.1 51
def obR (M M' : wq_M) : Prop := M'.1 0 1 = M.1 0 1 ∧ M'.1 0 9 = M.1 0 9 ∧ M'.1 0 11 = M.1 0 11 ∧ M'.1 0 18 = M.1 0 18 ∧ M'.1 0 25 = M.1 0 25 ∧ M'.1 1 = M.1 1 ∧ M'.1 2 = M.1 2 ∧ M'.1 3 = M.1 3 ∧ M'.1 4 = M.1 4 ∧ M'.1 7 = M.1 7 ∧ M'.1 8 = M.1 8 ∧ M'.1 12 = M.1 12 ∧ M'.1 13 = M.1 13 ∧ M'.1 14 = M.1 14
theorem obC.rf {M : wq_M} : obC M M := ⟨rfl, fun _ _ _ => rfl, rfl, rfl, rfl, fun _ _ _ => rfl, fun _ _ _ => rfl, rfl, rfl, rfl, rfl, rfl⟩
theorem obR.rf {M : wq_M} : obR M M := ⟨rfl, rfl, rfl, rfl, rfl, rfl, rfl, rfl, rfl, rfl, rfl, rfl, rfl, rfl⟩
theorem Inv_obs (h : Inv Mc Mr) (hc : obC Mc Mc') (hs : iSr Mc') (hr : obR Mr Mr') : Inv Mc' Mr' := by
  obtain ⟨v, h1, h2, h3, h4, h5, h6, h7, h8, h9⟩ := h
  obtain ⟨c1, c2, c3, c4, c5, c6, c7, c8, c9, c10, c11, c12⟩ := hc
  obtain ⟨r1, r2, r3, r4, r5, r6, r7, r8, r9, r10, r11, r12, r13, r14⟩ := hr
  exact ⟨v, iWe_c h1 c6 r9, iAc_c h2 c8 c9 c10 r2 r10, iRow_c h3 c2 r6 r7 r8, iTp_c h4 c3 c5 r3 r11, by unfold iSt; rw [c1, r1]; exact h5, by unfold iFl; rw [c4, r4]; exact h6, iIm_c h7 c7 r12 r13, iTr_c h8 c11 c12 r5 r14, hs⟩
theorem Inv_sr (h : Inv Mc Mr) : iSr Mc := by
  obtain ⟨v, h1, h2, h3, h4, h5, h6, h7, h8, h9⟩ := h
  exact h9
theorem Inv_r (h : Inv Mc Mr) (hr : obR Mr Mr') : Inv Mc Mr' := Inv_obs h obC.rf (Inv_sr h) hr
theorem Inv_t0 (h : Inv Mc Mr) : Inv Mc (wq_st Mr 0 0 0) := Inv_r h ⟨by simp [wq_st], by simp [wq_st], by simp [wq_st], by simp [wq_st], by simp [wq_st], wq_st_ne (by omega), wq_st_ne (by omega), wq_st_ne (by omega), wq_st_ne (by omega), wq_st_ne (by omega), wq_st_ne (by omega), wq_st_ne (by omega), wq_st_ne (by omega), wq_st_ne (by omega)⟩
theorem wOk.n8 (h : wOk v) : v 0 ≤ 8 := by
  rcases h with h | h
  · omega
  · exact h.n8
theorem wOk.m5 (h : wOk v) : v 5 ≤ 5 := by
  rcases h with h | h
  · omega
  · exact h.m5
theorem wOk.wf (h : wOk v) (hn : v 0 ≠ 0) : WF v := by
  rcases h with h | h
  · exact absurd h.1 hn
  · exact h
theorem wOk.wfg (h : wOk v) (hn : 0 < v 5) : WF v := by
  rcases h with h | h
  · omega
  · exact h
theorem step_cases (h : iWe Mc Mr v) (x : Int32) : (fX6_isStep x Mc = some false ∧ fX7_isStep x Mr = some false) ∨ ∃ s, s < v 0 ∧ x = nI s ∧ WF v ∧ fX6_isStep x Mc = some true ∧ fX7_isStep x Mr = some true := by
  have h8 := h.1.n8
  unfold fX6_isStep fX7_isStep
  rw [h.2.1.1]
  simp only [in_0_44, cl_0, h.2.2.1 0 (by omega), if_true]
  rw [show (0 : Int64) = (0 : Int32).toInt64 by decide, R_in]
  simp only [Option.bind_some]
  by_cases h0 : x < 0
  · rw [if_pos h0]
    exact Or.inl ⟨rfl, by simp [Int32.not_le.mpr h0]⟩
  · rw [if_neg h0]
    obtain ⟨s, hs, rfl⟩ := nI_of h0
    rw [decide_eq_true (Int32.not_lt.mp h0)]
    by_cases h1 : s < v 0
    · have hwf := h.1.wf (by omega)
      rw [if_neg (by rw [nI_leI (by omega) (by omega)]; omega)]
      refine Or.inr ⟨s, h1, rfl, hwf, rfl, ?_⟩
      rw [ld_of (by omega), decide_eq_true ((nI_leI (by omega) (by omega)).mpr (by omega))]
      rfl
    · rw [if_pos (by rw [nI_leI (by omega) (by omega)]; omega)]
      refine Or.inl ⟨rfl, ?_⟩
      have : ¬ nI s ≤ nI (v 0) - 1 := by
        rw [Int32.le_iff_toInt_le, ld_toInt (by omega), nI_toInt hs]
        omega
      simp [this]
theorem grade_cases (h : iWe Mc Mr v) (x : Int32) : (fX6_isGrade x Mc = some false ∧ fX7_isGrade x Mr = some false) ∨ ∃ g, g < v 5 ∧ x = nI g ∧ WF v ∧ fX6_isGrade x Mc = some true ∧ fX7_isGrade x Mr = some true := by
  have h8 := h.1.m5
  unfold fX6_isGrade fX7_isGrade
  rw [h.2.1.2.1]
  simp only [in_5_44, cl_5, h.2.2.1 5 (by omega), if_true]
  rw [show (0 : Int64) = (0 : Int32).toInt64 by decide, R_in]
  simp only [Option.bind_some]
  by_cases h0 : x < 0
  · rw [if_pos h0]
    exact Or.inl ⟨rfl, by simp [Int32.not_le.mpr h0]⟩
  · rw [if_neg h0]
    obtain ⟨s, hs, rfl⟩ := nI_of h0
    rw [decide_eq_true (Int32.not_lt.mp h0)]
    by_cases h1 : s < v 5
    · have hwf := h.1.wfg (by omega)
      rw [if_neg (by rw [nI_leI (by omega) (by omega)]; omega)]
      refine Or.inr ⟨s, h1, rfl, hwf, rfl, ?_⟩
      rw [ld_of (by omega), decide_eq_true ((nI_leI (by omega) (by omega)).mpr (by omega))]
      rfl
    · rw [if_pos (by rw [nI_leI (by omega) (by omega)]; omega)]
      refine Or.inl ⟨rfl, ?_⟩
      have : ¬ nI s ≤ nI (v 5) - 1 := by
        rw [Int32.le_iff_toInt_le, ld_toInt (by omega), nI_toInt hs]
        omega
      simp [this]
theorem there_cases (h : iWe Mc Mr v) : (fX6_hasNoWell Mc = some true ∧ fX7_isThere Mr = some false) ∨ (WF v ∧ fX6_hasNoWell Mc = some false ∧ fX7_isThere Mr = some true) := by
  have h8 := h.1.n8
  unfold fX6_hasNoWell fX7_isThere
  rw [h.2.1.1]
  simp only [in_0_44, cl_0, h.2.2.1 0 (by omega), if_true]
  by_cases hz : v 0 = 0
  · rw [hz]
    exact Or.inl ⟨rfl, rfl⟩
  · refine Or.inr ⟨h.1.wf hz, ?_, ?_⟩
    · rw [if_neg (nI_ne0 (by omega) (by omega))]
    · rw [if_neg (nI_nle (by omega) (by omega))]
theorem row_cases (x : Int32) : (fX6_isRow x Mc = some false ∧ fX7_isRow x Mr = some false) ∨ ∃ r, r < 8 ∧ x = nI r ∧ fX6_isRow x Mc = some true ∧ fX7_isRow x Mr = some true := by
  unfold fX6_isRow fX7_isRow
  rw [lit_lN 0, lit_lN 7]
  rcases R_inb x 0 7 (by omega) (by omega) Mr with ⟨h, e⟩ | ⟨h, e⟩ | ⟨k, h1, h2, rfl, e⟩
  · exact Or.inl ⟨by rw [if_pos (show x < 0 from h)], by rw [e]; rfl⟩
  · have h3 : ¬ x < 0 := by
      rw [Int32.lt_iff_toInt_lt] at h ⊢
      rw [nI_toInt (by omega)] at h
      rw [show (0 : Int32).toInt = 0 by decide]
      omega
    have h4 : (8 : Int32) ≤ x := by
      rw [Int32.lt_iff_toInt_lt, nI_toInt (by omega)] at h
      rw [Int32.le_iff_toInt_le, show (8 : Int32).toInt = 8 by decide]
      omega
    exact Or.inl ⟨by rw [if_neg h3, if_pos h4], by rw [e]; rfl⟩
  · refine Or.inr ⟨k, by omega, rfl, ?_, by rw [e]; rfl⟩
    rw [if_neg (nI_pos (by omega)), if_neg (by rw [lit_nI 8, nI_leI (by omega) (by omega)]; omega)]
end IV
