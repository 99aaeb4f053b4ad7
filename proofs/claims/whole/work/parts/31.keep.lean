section E7
variable {Mc Mr : wq_M} {v : Nat → Nat}
def chn (Mc Mr : wq_M) (k : Nat) (V : Nat → Nat → Nat) (v : Nat → Nat) : Prop := Mc.1 47 2 = nI k ∧ Mr.1 0 9 = nI k ∧ V k = v ∧ ∀ i, i < k → WF (V i) ∧ WF (V (i + 1)) ∧ RepA (fun j => Mr.1 7 (44 * i + j)) (V i) ∧ Und (Mc.1 48 i) (Mc.1 49 i) (V (i + 1)) (V i)
def kpC (C Mc : wq_M) : Prop := (∀ q, q ≠ 47 → q ≠ 48 → q ≠ 49 → C.1 q = Mc.1 q) ∧ C.2 = Mc.2
def kpR (N Mr : wq_M) : Prop := (∀ q, q ≠ 0 → q ≠ 7 → N.1 q = Mr.1 q) ∧ ∀ j, j ≠ 9 → N.1 0 j = Mr.1 0 j
theorem R_keepL (M : wq_M) {k : Nat} (hk : k < 24) (ha : M.1 0 9 = nI k) : fX7_keep_J49 M = some (wq_st (blk M 7 (44 * k) 4 0 44) 0 9 (nI (k + 1))) := by
  unfold fX7_keep_J49
  have key := lp_run (body := fX7_keep_L51) (fun i => (nI i, blk M 7 (44 * k) 4 0 i)) 44 (y := blk M 7 (44 * k) 4 0 44) (n := wq_FU) (fun i hi => by
    unfold fX7_keep_L51
    simp only []
    rw [if_neg (show ¬ 44 ≤ nI i by rw [lit_nI 44, nI_leI (by omega) (by omega)]; omega), blk_ne (show 0 ≠ 7 by omega), ha, lit_nI 44, pk_mul, nI_add, in_nI hi (by omega), in_nI (by omega) (by omega), cl_nI (by omega), cl_nI (by omega), nI_1]
    have := blk_step (M := M) (q := 7) (D := 44 * k) (p := 4) (S := 0) (n := i) (by omega)
    rw [Nat.zero_add] at this
    rw [this]
    rfl) (by
    unfold fX7_keep_L51
    rfl) (FU_gt (by omega))
  rw [show ((0 : Int32), M) = (fun i => (nI i, blk M 7 (44 * k) 4 0 i)) 0 by simp only [blk_0]; rfl, key]
  simp only [Option.bind_some]
  rw [blk_ne (show 0 ≠ 7 by omega), ha, nI_1]
theorem keep_lt {k : Nat} {V : Nat → Nat → Nat} (hk : k < 24) (hc : chn Mc Mr k V v) (hR : RepA (Mr.1 4) v) (wf : WF v) (what before : Int32) : ∃ C N, fX0_keep_J45 what before Mc = some C ∧ fX7_keep_J49 Mr = some N ∧ kpC C Mc ∧ kpR N Mr ∧ ∀ v', WF v' → Und what before v' v → ∀ C' N', C'.1 47 2 = C.1 47 2 → C'.1 48 = C.1 48 → C'.1 49 = C.1 49 → N'.1 0 9 = N.1 0 9 → N'.1 7 = N.1 7 → iAc C' N' v' := by
  obtain ⟨c1, c2, c3, c4⟩ := hc
  rw [R_keepL Mr hk c2]
  unfold fX0_keep_J45
  rw [c1, in_nI hk (by omega), wq_st_ne (show 47 ≠ 48 by omega), c1, in_nI hk (by omega), cl_nI (by omega), wq_st_ne (show 47 ≠ 49 by omega), wq_st_ne (show 47 ≠ 48 by omega), c1, nI_1]
  simp only [if_true]
  refine ⟨_, _, rfl, rfl, ⟨fun q a b c => by rw [wq_st_ne a, wq_st_ne c, wq_st_ne b], rfl⟩, ⟨fun q a b => by rw [wq_st_ne a, blk_ne b], fun j hj => by rw [st0_ne hj, blk_ne (by omega)]⟩, ?_⟩
  intro v' wf' hu C' N' d1 d2 d3 d4 d5
  rw [st_eq] at d1 d4
  rw [wq_st_ne (by omega), wq_st_ne (by omega)] at d2
  rw [wq_st_ne (by omega)] at d3
  rw [wq_st_ne (by omega)] at d5
  refine ⟨k + 1, fun i => if i = k + 1 then v' else V i, by omega, d1, d4, by simp, fun i hi => ?_⟩
  rw [d2, d3, d5]
  simp only [show ¬ i = k + 1 by omega, if_false]
  by_cases hik : i = k
  · subst hik
    simp only [if_true]
    rw [c3, st_eq, st_eq]
    refine ⟨wf, wf', RepA_blk (RepA_0.mpr hR), hu⟩
  · obtain ⟨w1, w2, w3, w4⟩ := c4 i (by omega)
    rw [if_neg (show ¬ i + 1 = k + 1 by omega), st_ne2 hik, st_ne2 hik, wq_st_ne (show 49 ≠ 48 by omega)]
    refine ⟨w1, w2, ⟨fun j hj => ?_, fun s hs => ?_⟩, w4⟩
    · show (blk Mr 7 (44 * k) 4 0 44).1 7 (44 * i + j) = _
      rw [blk_off (by omega)]
      exact w3.1 j hj
    · show (blk Mr 7 (44 * k) 4 0 44).1 7 (44 * i + (36 + s)) = _
      rw [blk_off (by omega)]
      exact w3.2 s hs
def shR (M : wq_M) (k : Nat) : wq_M := (fun q t => if q = 7 then (if t < k then M.1 7 (t + 44) else M.1 q t) else M.1 q t, M.2)
theorem shR_step (M : wq_M) (k : Nat) : wq_st (shR M k) 7 k ((shR M k).1 7 (k + 44)) = shR M (k + 1) := by
  have e : (shR M k).1 7 (k + 44) = M.1 7 (k + 44) := by
    simp only [shR, if_true]
    rw [if_neg (by omega)]
  rw [e]
  unfold wq_st shR
  simp only [Prod.mk.injEq, and_true]
  funext q t
  by_cases hq : q = 7
  · simp only [hq, if_true]
    by_cases ht : t = k
    · rw [if_pos ht, if_pos (by omega), ht]
    · by_cases h2 : t < k
      · rw [if_neg ht, if_pos h2, if_pos (by omega)]
      · rw [if_neg ht, if_neg h2, if_neg (by omega)]
  · simp [hq]
theorem R_shift (M : wq_M) : wq_lp (fX7_keep_L11) wq_FU (0, M) = some (shR M 1012) := by
  have key := lp_run (body := fX7_keep_L11) (fun i => (nI i, shR M i)) 1012 (y := shR M 1012) (n := wq_FU) (fun i hi => by
    unfold fX7_keep_L11
    simp only []
    rw [if_neg (show ¬ 1012 ≤ nI i by rw [lit_nI 1012, nI_leI (by omega) (by omega)]; omega), lit_nI 44, nI_add, in_nI (by omega) (by omega), in_nI (by omega) (by omega), cl_nI (by omega), cl_nI (by omega), nI_1, shR_step]
    rfl) (by
    unfold fX7_keep_L11
    rfl) (FU_gt (by omega))
  rw [show ((0 : Int32), M) = (fun i => (nI i, shR M i)) 0 by
    simp only [shR]
    rw [show (fun q t => if q = 7 then if t < 0 then M.1 7 (t + 44) else M.1 q t else M.1 q t) = M.1 by
      funext q t
      by_cases hq : q = 7
      · simp only [hq, if_true]
        rw [if_neg (by omega)]
      · simp [hq]]
    rfl, key]
theorem keep_both (hA : iAc Mc Mr v) (hR : RepA (Mr.1 4) v) (wf : WF v) (what before : Int32) : ∃ C N, fX0_keep what before Mc = some C ∧ fX7_keep Mr = some N ∧ kpC C Mc ∧ kpR N Mr ∧ ∀ v', WF v' → Und what before v' v → ∀ C' N', C'.1 47 2 = C.1 47 2 → C'.1 48 = C.1 48 → C'.1 49 = C.1 49 → N'.1 0 9 = N.1 0 9 → N'.1 7 = N.1 7 → iAc C' N' v' := by
  obtain ⟨k, V, hk, c1, c2, c3, c4⟩ := hA
  unfold fX0_keep fX7_keep
  rw [c1, c2]
  by_cases h24 : k = 24
  · subst h24
    rw [if_neg (show ¬ nI 24 < 24 by decide), if_pos (show nI 24 = 24 by decide), R_shift]
    rw [show wq_cpk 1 0 23 24 24 = true by decide]
    simp only [if_true, Option.bind_some, cl_0, cl_1, cl_23]
    have e9 : (shR Mr 1012).1 0 9 - 1 = nI 23 := by
      have : (shR Mr 1012).1 0 9 = Mr.1 0 9 := by simp [shR]
      rw [this, c2]
      decide
    rw [e9]
    have hc : chn (wq_st (wq_cp (wq_cp Mc 48 1 48 0 23) 49 1 49 0 23) 47 2 23) (wq_st (shR Mr 1012) 0 9 (nI 23)) 23 (fun i => V (i + 1)) v := by
      refine ⟨st_eq, st_eq, c3, fun i hi => ?_⟩
      obtain ⟨w1, w2, w3, w4⟩ := c4 (i + 1) (by omega)
      rw [wq_st_ne (show 48 ≠ 47 by omega), wq_cp_ne (show 48 ≠ 49 by omega), wq_cp_self, wq_st_ne (show 49 ≠ 47 by omega), wq_cp_self, wq_cp_ne (show 49 ≠ 48 by omega), wq_st_ne (show 7 ≠ 0 by omega)]
      simp only [va_cpy]
      rw [if_pos (by omega), if_pos (by omega), show 1 + (i - 0) = i + 1 by omega]
      refine ⟨w1, w2, ⟨fun j hj => ?_, fun s hs => ?_⟩, w4⟩
      · show (shR Mr 1012).1 7 (44 * i + j) = _
        simp only [shR, if_true]
        rw [if_pos (by omega), show 44 * i + j + 44 = 44 * (i + 1) + j by omega]
        exact w3.1 j hj
      · show (shR Mr 1012).1 7 (44 * i + (36 + s)) = _
        simp only [shR, if_true]
        rw [if_pos (by omega), show 44 * i + (36 + s) + 44 = 44 * (i + 1) + (36 + s) by omega]
        exact w3.2 s hs
    have hR' : RepA ((wq_st (shR Mr 1012) 0 9 (nI 23)).1 4) v := by
      rw [wq_st_ne (by omega), show (shR Mr 1012).1 4 = Mr.1 4 by funext t; simp [shR]]
      exact hR
    obtain ⟨C, N, f1, f2, f3, f4, f5⟩ := keep_lt (by omega) hc hR' wf what before
    refine ⟨C, N, f1, f2, ⟨fun q a b c => ?_, ?_⟩, ⟨fun q a b => ?_, fun j hj => ?_⟩, f5⟩
    · rw [f3.1 q a b c, wq_st_ne a, wq_cp_ne c, wq_cp_ne b]
    · rw [f3.2]
      rfl
    · rw [f4.1 q a b, wq_st_ne a]
      funext t
      simp [shR, b]
    · rw [f4.2 j hj, st0_ne hj]
      simp [shR]
  · rw [if_pos (show nI k < 24 by rw [lit_nI 24, nI_ltI (by omega) (by omega)]; omega), if_neg (show ¬ nI k = 24 by rw [lit_nI 24, nI_eq (by omega) (by omega)]; exact h24)]
    exact keep_lt (by omega) ⟨c1, c2, c3, c4⟩ hR wf what before
end E7
