section ED
variable {Mc Mr : wq_M} {v : Nat → Nat}
theorem C_draw {C : wq_M} (hC : RepC C 25 v) (wf : WF v) {x : Nat} (hx : x < 2 ^ 31) : fX5_changeByDraw 25 (nI x) C = some (if x % 5 = 0 then wq_st (wq_st C 29 (x % v 0) (nI (x / 16 % v 5))) 26 0 (nI (x / 256 % 21)) else wq_st C 29 (x % v 0) (nI (x / 16 % v 5))) := by
  have h8 := wf.n8
  have hm := wf.m5
  have h2 := wf.1.1
  have h1 := wf.2.2.2.2.2.1.1
  have hlt : x % v 0 < v 0 := Nat.mod_lt _ (by omega)
  unfold fX5_changeByDraw
  rw [hC.1, hC.2.1, if_neg (show ¬ nI (v 0) < 1 by rw [lit_nI 1, nI_ltI (by omega) (by omega)]; omega), if_pos (show 1 ≤ nI (v 5) by rw [lit_nI 1, nI_leI (by omega) (by omega)]; omega), if_pos (nI_ne0 (show 0 < v 0 by omega) (by omega)), if_pos (nI_ne0 (show 0 < v 5 by omega) (by omega)), pk_rem hx (by omega) (by omega), lit_nI 5, pk_rem hx (by omega) (by omega), lit_nI 16, pk_div hx (by omega) (by omega), pk_rem (by omega) (by omega) (by omega), lit_nI 256, pk_div hx (by omega) (by omega), lit_nI 21, pk_rem (by omega) (by omega) (by omega), in_nI (show x % v 0 < 8 by omega) (by omega), in_0_4, cl_nI (by omega), cl_0]
  simp only [if_true]
  by_cases h : x % 5 = 0
  · rw [if_pos (show nI (x % 5) = 0 by rw [h]; rfl), if_pos h]
  · rw [if_neg (nI_ne0 (show 0 < x % 5 by omega) (by omega)), if_neg h]
theorem R_draw {N : wq_M} (hR : RepA (N.1 6) v) (wf : WF v) {x m j : Nat} {n : Nat} (hx : x < 2 ^ 31) (hj : j < n) (hn : n ≤ 60) (c : Int32) (x3 : Int32) (hm' : m = x * 16807 % 2147483647) : fX7_drawn_L66 (nI n) x3 (lN x, c, nI j, N) = fX7_drawn_L66_J146 (nI n) x3 (lN m) c (nI j) (if m % 5 = 0 then wq_st (wq_st N 6 (36 + m % v 0) (nI (m / 16 % v 5))) 6 2 (nI (m / 256 % 21)) else wq_st N 6 (36 + m % v 0) (nI (m / 16 % v 5))) := by
  have h8 := wf.n8
  have hm := wf.m5
  have h2 := wf.1.1
  have h1 := wf.2.2.2.2.2.1.1
  have hlt : m % v 0 < v 0 := Nat.mod_lt _ (by omega)
  have hmm : m < 2147483647 := by rw [hm']; exact Nat.mod_lt _ (by omega)
  unfold fX7_drawn_L66
  simp only []
  rw [if_neg (show ¬ nI n ≤ nI j by rw [nI_leI (by omega) (by omega)]; omega), in_0_44, cl_0, hR.1 0 (by omega), in_5_44, cl_5, hR.1 5 (by omega), lit_lN 16807, lN_mul, lit_lN 2147483647, pk_lRem (by omega) (by omega) (by omega), ← hm', nI_l (by omega), nI_l (by omega), pk_lRem (by omega) (by omega) (by omega), lN_i, lit_lN 5, pk_lRem (by omega) (by omega) (by omega), lit_lN 16, pk_lDiv (by omega) (by omega) (by omega), pk_lRem (by omega) (by omega) (by omega), lN_i, lit_lN 256, pk_lDiv (by omega) (by omega) (by omega), lit_lN 21, pk_lRem (by omega) (by omega) (by omega), lN_i, lit_nI 36, nI_add, in_nI (show 36 + m % v 0 < 44 by omega) (by omega), cl_nI (by omega), in_2_44, cl_2]
  simp only [if_true]
  rw [if_pos (fun q => by have := (L_z' (by omega)).mp q; omega), if_pos (fun q => by have := (L_z' (by omega)).mp q; omega)]
  by_cases h : m % 5 = 0
  · rw [if_pos ((L_z (by omega)).mpr h), if_pos h]
  · rw [if_neg (fun q => h ((L_z (by omega)).mp q)), if_neg h]
theorem E_drawn (hI : Inv Mc Mr) (x1 x2 x3 : Int32) : ∃ a C N, fX6_drawn x1 x2 x3 Mc = some (a, C) ∧ fX7_drawn x1 x2 x3 Mr = some (a, N) ∧ Inv C N := by
  unfold fX6_drawn fX7_drawn
  have hI := Inv_t0 hI
  generalize wq_st Mr 0 0 0 = N at hI ⊢
  obtain ⟨v, hW, -⟩ := id hI
  rcases there_cases hW with ⟨e1, e2⟩ | ⟨wf, e1, e2⟩
  · rw [e1, e2]
    exact ⟨_, Mc, N, rfl, rfl, hI⟩
  rw [e1, e2]
  simp only [Option.bind_some, if_true, if_false, Bool.false_eq_true]
  rw [lit_lN 0, lit_lN 60, lit_lN 1, lit_lN 999999]
  rcases R_inb x1 0 60 (by omega) (by omega) N with ⟨h, e⟩ | ⟨h, e⟩ | ⟨n, h1, h2, rfl, e⟩
  · rw [if_pos (show x1 < 0 from h), e]
    exact ⟨_, Mc, N, rfl, rfl, hI⟩
  · rw [if_neg (hi_f (by omega) h).1, if_pos (show 60 < x1 from h), e]
    exact ⟨_, Mc, N, rfl, rfl, hI⟩
  rw [if_neg (nI_pos (by omega)), if_neg (show ¬ 60 < nI n by rw [lit_nI 60, nI_ltI (by omega) (by omega)]; omega), e]
  simp only [Option.bind_some, if_true]
  rcases R_inb x2 1 999999 (by omega) (by omega) N with ⟨h, e⟩ | ⟨h, e⟩ | ⟨x, h3, h4, rfl, e⟩
  · rw [if_pos (show x2 < 1 from h), e]
    exact ⟨_, Mc, N, rfl, rfl, hI⟩
  · have h3 : ¬ x2 < 1 := by
      rw [Int32.lt_iff_toInt_lt, nI_toInt (by omega)] at h
      rw [Int32.lt_iff_toInt_lt, show (1 : Int32).toInt = 1 by decide]
      omega
    rw [if_neg h3, if_pos (show 999999 < x2 from h), e]
    exact ⟨_, Mc, N, rfl, rfl, hI⟩
  rw [if_neg (show ¬ nI x < 1 by rw [lit_nI 1, nI_ltI (by omega) (by omega)]; omega), if_neg (show ¬ 999999 < nI x by rw [lit_nI 999999, nI_ltI (by omega) (by omega)]; omega), e]
  simp only [Option.bind_some, if_true]
  rcases R_inb x3 0 1 (by omega) (by omega) N with ⟨h, e⟩ | ⟨h, e⟩ | ⟨k, h5, h6, rfl, e⟩
  · rw [if_pos (show x3 < 0 from h), e]
    exact ⟨_, Mc, N, rfl, rfl, hI⟩
  · rw [if_neg (hi_f (by omega) h).1, if_neg (show ¬ x3 ≤ 1 from (hi_f (by omega) h).2.2.1), e]
    exact ⟨_, Mc, N, rfl, rfl, hI⟩
  rw [if_neg (nI_pos (by omega)), if_pos (show nI k ≤ 1 by rw [lit_nI 1, nI_leI (by omega) (by omega)]; omega), e, R_layThen]
  obtain ⟨C, b1, b2, b3, b4, b5⟩ := sup_both hW wf
  simp only [Option.bind_some, if_true, b1]
  obtain ⟨y, z, f1, f2, a, C', N', u, rfl, rfl, s1, s2, wf', hC', hR'⟩ := lp_rel (b1 := fX6_drawn_L64 (nI n) (nI k)) (b2 := fX7_drawn_L66 (nI n) (nI k)) (fun i s t => ∃ m c j C N' u, i + j = n ∧ m < 2 ^ 31 ∧ s = (nI m, c, nI j, C) ∧ t = (lN m, c, nI j, N') ∧ Sc Mc C ∧ Sr N N' ∧ WF u ∧ RepC C 25 u ∧ RepA (N'.1 6) u) (fun y z => ∃ a C' N' u, y = (a, C') ∧ z = (a, N') ∧ Sc Mc C' ∧ Sr N N' ∧ WF u ∧ RepC C' 25 u ∧ RepA (N'.1 6) u) (by
    rintro i _ _ ⟨m, c, j, C, N', u, hij, hm, rfl, rfl, s1, s2, wf, hC, hR⟩
    by_cases hz : i = 0
    · left
      refine ⟨_, _, ?_, ?_, c, C, N', u, rfl, rfl, s1, s2, wf, hC, hR⟩
      · unfold fX6_drawn_L64
        simp only []
        rw [if_pos (show nI n ≤ nI j by rw [nI_leI (by omega) (by omega)]; omega)]
      · unfold fX7_drawn_L66
        simp only []
        rw [if_pos (show nI n ≤ nI j by rw [nI_leI (by omega) (by omega)]; omega)]
    right
    obtain ⟨i, rfl⟩ : ∃ q, i = q + 1 := ⟨i - 1, by omega⟩
    have h8 := wf.n8
    have hm5 := wf.m5
    have hx' : m * 16807 % 2147483647 < 2147483647 := Nat.mod_lt _ (by omega)
    rw [R_draw hR wf hm (by omega) (by omega) c (nI k) rfl]
    unfold fX6_drawn_L64 fX7_drawn_L66_J146
    simp only []
    rw [if_neg (show ¬ nI n ≤ nI j by rw [nI_leI (by omega) (by omega)]; omega), nI_l (by omega), lit_lN 16807, lN_mul, lit_lN 2147483647, pk_lRem (by omega) (by omega) (by omega), lN_i]
    generalize m * 16807 % 2147483647 = m' at hx' ⊢
    rw [C_draw hC wf (by omega)]
    have hlt : m' % u 0 < u 0 := Nat.mod_lt _ (by have := wf.1.1; omega)
    have hlt5 : m' / 16 % u 5 < u 5 := Nat.mod_lt _ (by have := wf.2.2.2.2.2.1.1; omega)
    have wf1 := WF_lay wf hlt (x := m' / 16 % u 5 + 1) (by omega)
    have hC1 := RepC_lay (x := m' / 16 % u 5 + 1) hC hm5 (show m' % u 0 < 8 by omega)
    have hR1 := RepA_lay (x := m' / 16 % u 5 + 1) hR (show m' % u 0 < 8 by omega)
    rw [nI_pred] at hC1 hR1
    generalize vup u (36 + m' % u 0) (m' / 16 % u 5 + 1) = u1 at wf1 hC1 hR1
    have hfin : ∀ (C2 N2 : wq_M) (u2 : Nat → Nat), Sc Mc C2 → Sr N N2 → WF u2 → RepC C2 25 u2 → RepA (N2.1 6) u2 → ∃ k' s' t', i + 1 = k' + 1 ∧ ((some C2).bind fun r13 => (fX5_howManyHold 25 r13).bind fun r15 => some (Sum.inl (β := Int32 × wq_M) (nI m', c + r15, nI j + 1, r13))) = some (.inl s') ∧ ((fX7_manyHold 6 N2).bind fun r22 => some (Sum.inl (β := Int32 × wq_M) (lN m', c + r22, nI j + 1, N2))) = some (.inl t') ∧ ∃ m c j C N' u, k' + j = n ∧ m < 2 ^ 31 ∧ s' = (nI m, c, nI j, C) ∧ t' = (lN m, c, nI j, N') ∧ Sc Mc C ∧ Sr N N' ∧ WF u ∧ RepC C 25 u ∧ RepA (N'.1 6) u := by
      intro C2 N2 u2 t1 t2 t3 t4 t5
      simp only [Option.bind_some]
      rw [C_howManyHold t4 t3, R_manyHold t5 t3]
      simp only [Option.bind_some]
      rw [nI_1]
      exact ⟨i, _, _, rfl, rfl, rfl, m', _, j + 1, C2, N2, u2, by omega, by omega, rfl, rfl, t1, t2, t3, t4, t5⟩
    by_cases h5 : m' % 5 = 0
    · rw [if_pos h5, if_pos h5]
      have hq : rlp 0 2 := Or.inl ⟨rfl, rfl⟩
      refine hfin _ _ (vup u1 2 (m' / 256 % 21)) (Sc_st (Sc_st s1 (by omega) _) (by omega) _) (Sr_st (Sr_st s2 _) _) (WF_rule wf1 hq (by omega)) (RepC_rule (p := 25) hC1 hq) ?_
      rw [wq_st_self]
      refine RepA_up ?_ (by omega)
      rw [wq_st_self]
      exact hR1
    · rw [if_neg h5, if_neg h5]
      refine hfin _ _ u1 (Sc_st s1 (by omega) _) (Sr_st s2 _) wf1 hC1 ?_
      rw [wq_st_self]
      exact hR1) n wq_FU (nI x, 0, 0, C) ((nI x).toInt64, 0, 0, blk N 6 0 4 0 44) ⟨x, 0, 0, C, _, v, rfl, by omega, rfl, by rw [nI_l (by omega)]; rfl, b3, b5, wf, b2, b4⟩ (FU_gt (by omega))
  rw [f1, f2]
  simp only [Option.bind_some]
  by_cases hk : nI k = 0
  · rw [if_pos hk, if_pos hk]
    exact ⟨_, _, _, rfl, rfl, Inv_scr hI s1 s2⟩
  · rw [if_neg hk, if_neg hk, C_cost hC' wf', R_costOf hR' wf']
    exact ⟨_, _, _, rfl, rfl, Inv_scr hI s1 s2⟩
def tS (i x c : Nat) : Nat := if i % 2 = 0 then (if x ≤ c then x else c) else (if c ≤ x then x else c)
def tG (v : Nat → Nat) (i w : Nat) (rc : Nat → Nat) : Nat → Option Nat
  | 0 => none
  | j + 1 => if aWould v (v 0 - 1 - i) j (w + v (6 + 6 * j + 4)) = true then (match tG v i w rc j with | none => some (v (6 + 6 * j + 5) + rc (w + v (6 + 6 * j + 4))) | some x => some (tS i x (v (6 + 6 * j + 5) + rc (w + v (6 + 6 * j + 4))))) else tG v i w rc j
theorem tG_s (v : Nat → Nat) (i w : Nat) (rc : Nat → Nat) (j : Nat) : tG v i w rc (j + 1) = if aWould v (v 0 - 1 - i) j (w + v (6 + 6 * j + 4)) = true then (match tG v i w rc j with | none => some (v (6 + 6 * j + 5) + rc (w + v (6 + 6 * j + 4))) | some x => some (tS i x (v (6 + 6 * j + 5) + rc (w + v (6 + 6 * j + 4))))) else tG v i w rc j := rfl
def tT (v : Nat → Nat) : Nat → Nat → Nat → Nat
  | 0, _, _ => 0
  | t + 1, i, w => (tG v i w (tT v t (i + 1)) (v 5)).getD 0
theorem tG_le (wf : WF v) {i w B : Nat} {rc : Nat → Nat} (hr : ∀ w, rc w ≤ B) : ∀ {j x : Nat}, j ≤ v 5 → tG v i w rc j = some x → x ≤ 99 + B
  | 0, x, _, h => by simp [tG] at h
  | j + 1, x, hj, h => by
    have hp := (wf.gr (show j < v 5 by omega)).2.2.2.2.2
    have hr' := hr (w + v (6 + 6 * j + 4))
    unfold tG at h
    split at h
    · split at h
      · simp only [Option.some.injEq] at h
        omega
      · rename_i y hy
        have := tG_le wf hr (by omega) hy
        simp only [Option.some.injEq] at h
        unfold tS at h
        split at h <;> split at h <;> omega
    · exact tG_le wf hr (by omega) h
theorem tT_le (wf : WF v) : ∀ (t i w : Nat), tT v t i w ≤ 99 * t
  | 0, i, w => Nat.le_refl _
  | t + 1, i, w => by
    unfold tT
    cases h : tG v i w (tT v t (i + 1)) (v 5) with
    | none => exact Nat.zero_le _
    | some x =>
      have := tG_le wf (fun w => tT_le wf t (i + 1) w) (Nat.le_refl _) h
      show x ≤ _
      omega
def oI : Option Nat → Int32
  | none => -1000000
  | some x => nI x
theorem oI_s (x : Nat) : oI (some x) = nI x := rfl
theorem oI_n {o : Option Nat} (h : ∀ x, o = some x → x < 100000) : oI o = -1000000 ↔ o = none := by
  cases o with
  | none => simp [oI]
  | some x =>
    have := h x rfl
    simp only [oI, reduceCtorEq, iff_false]
    intro q
    rw [← Int32.toInt_inj, nI_toInt (by omega), show (-1000000 : Int32).toInt = -1000000 by decide] at q
    omega
theorem C_turns {M : wq_M} (hC : RepC M 20 v) (wf : WF v) : ∀ (t i w n : Nat), t + i ≤ v 0 → t < n → w ≤ 9 * i → fX6_costByTurns n 20 (nI t) (nI (v 0 - i) - 1) (nI w) (if i % 2 = 0 then 1 else 0) M = some (nI (tT v t i w)) := by
  have h8 := wf.n8
  have hm := wf.m5
  intro t
  induction t with
  | zero =>
    intro i w n hi hn hw
    obtain ⟨n, rfl⟩ : ∃ m, n = m + 1 := ⟨n - 1, by omega⟩
    show fX6_costByTurns_e _ _ _ _ _ _ _ = _
    unfold fX6_costByTurns_e
    rw [if_pos (show nI 0 < 1 by decide)]
    rfl
  | succ t ih =>
    intro i w n hi hn hw
    obtain ⟨n, rfl⟩ : ∃ m, n = m + 1 := ⟨n - 1, by omega⟩
    show fX6_costByTurns_e _ _ _ _ _ _ _ = _
    unfold fX6_costByTurns_e
    have hB : ∀ j x, j ≤ v 5 → tG v i w (tT v t (i + 1)) j = some x → x < 100000 := fun j x hj h => by
      have := tG_le wf (fun w => tT_le wf t (i + 1) w) hj h
      omega
    rw [if_neg (show ¬ nI (t + 1) < 1 by rw [lit_nI 1, nI_ltI (by omega) (by omega)]; omega), ld_of (by omega), if_pos (nI_pos' (by omega)), show v 0 - i - 1 = v 0 - 1 - i by omega]
    have key := lp_run (body := fX6_costByTurns_L18 (fX6_costByTurns n) 20 (nI (t + 1)) (nI (v 0 - 1 - i)) (nI w) (if i % 2 = 0 then 1 else 0) M) (fun j => (oI (tG v i w (tT v t (i + 1)) j), nI j)) (v 5) (y := oI (tG v i w (tT v t (i + 1)) (v 5))) (n := wq_FU) (fun j hj => by
      have hgr := wf.gr hj
      unfold fX6_costByTurns_L18
      simp only []
      rw [hC.2.1, if_neg (show ¬ nI (v 5) ≤ nI j by rw [nI_leI (by omega) (by omega)]; omega), lit_nI 3, C_figure hC hm hj (by omega)]
      simp only [Option.bind_some]
      rw [show 6 + 6 * j + (1 + 3) = 6 + 6 * j + 4 by omega, nI_add, C_wouldHold hC wf (by omega) hj (by omega)]
      simp only [Option.bind_some]
      show _ = some (Sum.inl (oI (tG v i w (tT v t (i + 1)) (j + 1)), nI (j + 1)))
      rw [tG_s]
      by_cases hh : aWould v (v 0 - 1 - i) j (w + v (6 + 6 * j + 4)) = true
      · rw [if_pos hh, if_pos hh, lit_nI 4, C_figure hC hm hj (by omega), nI_pred, show nI (v 0 - 1 - i) - 1 = nI (v 0 - (i + 1)) - 1 by rw [show v 0 - (i + 1) = v 0 - 1 - i by omega]]
        simp only [Option.bind_some]
        have hr := ih (i + 1) (w + v (6 + 6 * j + 4)) n (by omega) (by omega) (by omega)
        have hle := tT_le wf t (i + 1) (w + v (6 + 6 * j + 4))
        rw [show 6 + 6 * j + (1 + 4) = 6 + 6 * j + 5 by omega]
        by_cases hi2 : i % 2 = 0
        · rw [if_pos hi2, if_neg (show ¬ (1 : Int32) = 0 by decide)]
          rw [if_neg (show ¬ (i + 1) % 2 = 0 by omega)] at hr
          unfold fX6_costByTurns_L18_J76
          rw [hr]
          simp only [Option.bind_some]
          rw [nI_add, nI_1, if_neg (show ¬ (1 : Int32) = 0 by decide)]
          cases ho : tG v i w (tT v t (i + 1)) j with
          | none => rfl
          | some x =>
            have hx := hB j x (by omega) ho
            rw [if_neg (fun q => by have := (oI_n (o := some x) (fun y hy => by simp only [Option.some.injEq] at hy; omega)).mp q; simp at this)]
            simp only [tS, hi2, if_true]
            rw [oI_s, oI_s]
            by_cases hxx : x ≤ v (6 + 6 * j + 5) + tT v t (i + 1) (w + v (6 + 6 * j + 4))
            · rw [if_pos ((nI_leI (by omega) (by omega)).mpr hxx), if_pos hxx]
            · rw [if_neg (fun q => hxx ((nI_leI (by omega) (by omega)).mp q)), if_neg hxx]
        · rw [if_neg hi2, if_pos rfl]
          rw [if_pos (show (i + 1) % 2 = 0 by omega)] at hr
          unfold fX6_costByTurns_L18_J76
          rw [hr]
          simp only [Option.bind_some]
          simp only [if_true]
          rw [nI_add, nI_1]
          cases ho : tG v i w (tT v t (i + 1)) j with
          | none => rfl
          | some x =>
            have hx := hB j x (by omega) ho
            rw [if_neg (fun q => by have := (oI_n (o := some x) (fun y hy => by simp only [Option.some.injEq] at hy; omega)).mp q; simp at this)]
            simp only [tS, hi2, if_false]
            rw [oI_s, oI_s]
            by_cases hxx : v (6 + 6 * j + 5) + tT v t (i + 1) (w + v (6 + 6 * j + 4)) ≤ x
            · rw [if_pos ((nI_leI (by omega) (by omega)).mpr hxx), if_pos hxx]
            · rw [if_neg (fun q => hxx ((nI_leI (by omega) (by omega)).mp q)), if_neg hxx]
      · rw [if_neg hh, if_neg hh, nI_1]) (by
      unfold fX6_costByTurns_L18
      simp only []
      rw [hC.2.1, if_pos (show nI (v 5) ≤ nI (v 5) by rw [nI_leI (by omega) (by omega)]; omega)]) (FU_gt (by omega))
    rw [show ((-1000000 : Int32), (0 : Int32)) = (fun j => (oI (tG v i w (tT v t (i + 1)) j), nI j)) 0 from rfl, key]
    simp only [Option.bind_some]
    unfold tT
    cases ho : tG v i w (tT v t (i + 1)) (v 5) with
    | none => rfl
    | some x =>
      have hx := hB _ x (by omega) ho
      rw [if_neg (fun q => by have := (oI_n (o := some x) (fun y hy => by simp only [Option.some.injEq] at hy; omega)).mp q; simp at this)]
      rfl
theorem R_best {M : wq_M} (hR : RepA (M.1 4) v) (wf : WF v) {t i w : Nat} (hi : t + 1 + i ≤ v 0) (hi4 : i < 4) (hw : w ≤ 9 * i) (hT : ∀ u, u ≤ 9 * (i + 1) → M.1 11 (40 * (i + 1) + u) = nI (tT v t (i + 1) u)) : fX7_bestTurn (nI i) (nI w) M = some (nI (tT v (t + 1) i w)) := by
  have h8 := wf.n8
  have hm := wf.m5
  unfold fX7_bestTurn
  have hB : ∀ j x, j ≤ v 5 → tG v i w (tT v t (i + 1)) j = some x → x < 100000 := fun j x hj h => by
    have := tG_le wf (fun w => tT_le wf t (i + 1) w) hj h
    omega
  have key := lp_run (body := fX7_bestTurn_L6 (nI i) (nI w) M) (fun j => (oI (tG v i w (tT v t (i + 1)) j), nI j)) (v 5) (y := oI (tG v i w (tT v t (i + 1)) (v 5))) (n := wq_FU) (fun j hj => by
    have hgr := wf.gr hj
    unfold fX7_bestTurn_L6 fX7_bestTurn_L6_J109 fX7_bestTurn_L6_J113 fX7_bestTurn_L6_J114
    simp only []
    rw [in_5_44, cl_5, hR.1 5 (by omega), if_pos rfl, if_neg (show ¬ nI (v 5) ≤ nI j by rw [nI_leI (by omega) (by omega)]; omega), lit_nI 4, R_of hR (by omega) (by omega)]
    simp only [Option.bind_some]
    rw [in_0_44, cl_0, hR.1 0 (by omega), nI_add, lit_nI 1, pk_sub (by omega), pk_sub (by omega), R_wouldHold hR wf (by omega) hj (by omega)]
    simp only [Option.bind_some, if_true]
    show _ = some (Sum.inl (oI (tG v i w (tT v t (i + 1)) (j + 1)), nI (j + 1)))
    rw [tG_s]
    by_cases hh : aWould v (v 0 - 1 - i) j (w + v (6 + 6 * j + 4)) = true
    · have hle := tT_le wf t (i + 1) (w + v (6 + 6 * j + 4))
      rw [if_pos hh, if_pos hh, lit_nI 5, R_of hR (by omega) (by omega), nI_add, nI_add, lit_nI 40, pk_mul, nI_add, in_nI (show 40 * (i + 1) + (w + v (6 + 6 * j + 4)) < 200 by omega) (by omega), cl_nI (by omega), hT _ (by omega)]
      simp only [Option.bind_some, if_true]
      rw [nI_add, lit_nI 2, pk_rem (by omega) (by omega) (by omega)]
      cases ho : tG v i w (tT v t (i + 1)) j with
      | none => rfl
      | some x =>
        have hx := hB j x (by omega) ho
        rw [if_neg (fun q => by have := (oI_n (o := some x) (fun y hy => by simp only [Option.some.injEq] at hy; omega)).mp q; simp at this)]
        simp only [tS]
        rw [oI_s, oI_s]
        by_cases hi2 : i % 2 = 0
        · rw [hi2, if_pos (show nI 0 = 0 by decide), if_pos rfl]
          by_cases hxx : x ≤ v (6 + 6 * j + 5) + tT v t (i + 1) (w + v (6 + 6 * j + 4))
          · rw [if_pos ((nI_leI (by omega) (by omega)).mpr hxx), if_pos hxx]
          · rw [if_neg (fun q => hxx ((nI_leI (by omega) (by omega)).mp q)), if_neg hxx]; rfl
        · rw [if_neg (nI_ne0 (show 0 < i % 2 by omega) (by omega)), if_neg hi2]
          by_cases hxx : v (6 + 6 * j + 5) + tT v t (i + 1) (w + v (6 + 6 * j + 4)) ≤ x
          · rw [if_pos ((nI_leI (by omega) (by omega)).mpr hxx), if_pos hxx]
          · rw [if_neg (fun q => hxx ((nI_leI (by omega) (by omega)).mp q)), if_neg hxx]; rfl
    · rw [if_neg hh, if_neg hh, nI_add]) (by
    unfold fX7_bestTurn_L6
    simp only []
    rw [in_5_44, cl_5, hR.1 5 (by omega), if_pos rfl, if_pos (show nI (v 5) ≤ nI (v 5) by rw [nI_leI (by omega) (by omega)]; omega)]) (FU_gt (by omega))
  rw [show ((-1000000 : Int32), (0 : Int32)) = (fun j => (oI (tG v i w (tT v t (i + 1)) j), nI j)) 0 from rfl, key]
  simp only [Option.bind_some]
  unfold tT
  cases ho : tG v i w (tT v t (i + 1)) (v 5) with
  | none => rfl
  | some x =>
    have hx := hB _ x (by omega) ho
    rw [if_neg (fun q => by have := (oI_n (o := some x) (fun y hy => by simp only [Option.some.injEq] at hy; omega)).mp q; simp at this)]
    rfl
def S11 (N N' : wq_M) : Prop := ∀ q, q ≠ 11 → N'.1 q = N.1 q
theorem Inv_11 {N : wq_M} (h : Inv Mc Mr) (hr : S11 Mr N) : Inv Mc N := Inv_r h ⟨by rw [hr 0 (by omega)], by rw [hr 0 (by omega)], by rw [hr 0 (by omega)], by rw [hr 0 (by omega)], by rw [hr 0 (by omega)], hr 1 (by omega), hr 2 (by omega), hr 3 (by omega), hr 4 (by omega), hr 7 (by omega), hr 8 (by omega), hr 12 (by omega), hr 13 (by omega), hr 14 (by omega)⟩
def wrow (M : wq_M) (v : Nat → Nat) (t i j : Nat) : wq_M := ((fun q k => if q = 11 then (if 40 * i ≤ k ∧ k < 40 * i + j then nI (tT v t i (k - 40 * i)) else M.1 q k) else M.1 q k), M.2)
theorem wrow_0 (M : wq_M) (v : Nat → Nat) (t i : Nat) : wrow M v t i 0 = M := by
  unfold wrow
  rw [show (fun q k => if q = 11 then (if 40 * i ≤ k ∧ k < 40 * i + 0 then nI (tT v t i (k - 40 * i)) else M.1 q k) else M.1 q k) = M.1 by
    funext q k
    by_cases hq : q = 11
    · rw [if_pos hq, if_neg (by omega)]
    · rw [if_neg hq]]
theorem wrow_s (M : wq_M) (v : Nat → Nat) (t i j : Nat) : wq_st (wrow M v t i j) 11 (40 * i + j) (nI (tT v t i j)) = wrow M v t i (j + 1) := by
  unfold wq_st wrow
  simp only [Prod.mk.injEq, and_true]
  funext q k
  by_cases hq : q = 11
  · simp only [hq, if_true]
    by_cases hk : k = 40 * i + j
    · rw [if_pos hk, if_pos (by omega), hk, show 40 * i + j - 40 * i = j by omega]
    · rw [if_neg hk]
      by_cases h2 : 40 * i ≤ k ∧ k < 40 * i + j
      · rw [if_pos h2, if_pos (by omega)]
      · rw [if_neg h2, if_neg (by omega)]
  · simp [hq]
theorem wrow_ne {M : wq_M} {v : Nat → Nat} {t i j q : Nat} (h : q ≠ 11) : (wrow M v t i j).1 q = M.1 q := by
  funext k
  simp [wrow, h]
theorem wrow_in {M : wq_M} {v : Nat → Nat} {t i j u : Nat} (h : u < j) : (wrow M v t i j).1 11 (40 * i + u) = nI (tT v t i u) := by
  simp only [wrow, if_true]
  rw [if_pos (by omega), show 40 * i + u - 40 * i = u by omega]
theorem wrow_out {M : wq_M} {v : Nat → Nat} {t i j k : Nat} (h : k < 40 * i ∨ 40 * i + j ≤ k) : (wrow M v t i j).1 11 k = M.1 11 k := by
  simp only [wrow, if_true]
  rw [if_neg (by omega)]
/-- one row of worths -/
theorem R_row {M : wq_M} (hR : RepA (M.1 4) v) (wf : WF v) {t i : Nat} (hi : t + 1 + i ≤ v 0) (hi4 : i < 4) (hT : ∀ u, u ≤ 9 * (i + 1) → M.1 11 (40 * (i + 1) + u) = nI (tT v t (i + 1) u)) : wq_lp (fX7_byTurns_L70_L76 (nI i)) wq_FU (0, M) = some (wrow M v (t + 1) i (9 * i + 1)) := by
  have key := lp_run (body := fX7_byTurns_L70_L76 (nI i)) (fun j => (nI j, wrow M v (t + 1) i j)) (9 * i + 1) (y := wrow M v (t + 1) i (9 * i + 1)) (n := wq_FU) (fun j hj => by
    unfold fX7_byTurns_L70_L76
    simp only []
    rw [lit_nI 9, pk_mul, if_neg (show ¬ nI (9 * i) < nI j by rw [nI_ltI (by omega) (by omega)]; omega), R_best (t := t) (by rw [wrow_ne (by omega)]; exact hR) wf hi hi4 (by omega) (fun u hu => by rw [wrow_out (by omega)]; exact hT u hu)]
    simp only [Option.bind_some]
    rw [lit_nI 40, pk_mul, nI_add, in_nI (show 40 * i + j < 200 by omega) (by omega), cl_nI (by omega), nI_1, wrow_s]
    rfl) (by
    unfold fX7_byTurns_L70_L76
    simp only []
    rw [lit_nI 9, pk_mul, if_pos (show nI (9 * i) < nI (9 * i + 1) by rw [nI_ltI (by omega) (by omega)]; omega)]) (FU_gt (by omega))
  rw [show ((0 : Int32), M) = (fun j => (nI j, wrow M v (t + 1) i j)) 0 by simp only [wrow_0]; rfl, key]
theorem R_zeros (M : wq_M) (v : Nat → Nat) {n : Nat} (hn : n ≤ 4) : wq_lp (fX7_byTurns_L42 (nI n)) wq_FU (0, M) = some (wrow M v 0 n 40) := by
  have key := lp_run (body := fX7_byTurns_L42 (nI n)) (fun j => (nI j, wrow M v 0 n j)) 40 (y := wrow M v 0 n 40) (n := wq_FU) (fun j hj => by
    unfold fX7_byTurns_L42
    simp only []
    rw [if_neg (show ¬ 40 ≤ nI j by rw [lit_nI 40, nI_leI (by omega) (by omega)]; omega), lit_nI 40, pk_mul, nI_add, in_nI (show 40 * n + j < 200 by omega) (by omega), cl_nI (by omega), nI_1, ← wrow_s]
    rfl) (by
    unfold fX7_byTurns_L42
    rfl) (FU_gt (by omega))
  rw [show ((0 : Int32), M) = (fun j => (nI j, wrow M v 0 n j)) 0 by simp only [wrow_0]; rfl, key]
theorem R_table (wf : WF v) {n : Nat} (hn : n ≤ 4) (hn8 : n ≤ v 0) : ∀ (i m : Nat) (M : wq_M), i ≤ n → i < m → RepA (M.1 4) v → (∀ u, u ≤ 9 * i → M.1 11 (40 * i + u) = nI (tT v (n - i) i u)) → ∃ M', wq_lp (fX7_byTurns_L70) m (nI i - 1, M) = some M' ∧ S11 M M' ∧ M'.1 11 0 = nI (tT v n 0 0) := by
  intro i
  induction i with
  | zero =>
    intro m M hi hm hR hT
    obtain ⟨m, rfl⟩ : ∃ q, m = q + 1 := ⟨m - 1, by omega⟩
    refine ⟨M, lp_exit ?_, fun q _ => rfl, ?_⟩
    · unfold fX7_byTurns_L70
      rfl
    · have := hT 0 (by omega)
      simpa using this
  | succ i ih =>
    intro m M hi hm hR hT
    obtain ⟨m, rfl⟩ : ∃ q, m = q + 1 := ⟨m - 1, by omega⟩
    have hrow := R_row hR wf (t := n - (i + 1)) (i := i) (by omega) (by omega) hT
    have hb : fX7_byTurns_L70 (nI (i + 1) - 1, M) = some (.inl (nI i - 1, wrow M v (n - (i + 1) + 1) i (9 * i + 1))) := by
      unfold fX7_byTurns_L70
      simp only []
      rw [nI_pred, if_neg (nI_pos (by omega)), hrow]
      simp only [Option.bind_some]
      rw [Int32.sub_eq_add_neg]
    rw [lp_step hb]
    obtain ⟨M', e, s1, s2⟩ := ih m (wrow M v (n - (i + 1) + 1) i (9 * i + 1)) (by omega) (by omega) (by rw [wrow_ne (by omega)]; exact hR) (fun u hu => by rw [wrow_in (by omega), show n - (i + 1) + 1 = n - i by omega])
    exact ⟨M', e, fun q hq => by rw [s1 q hq, wrow_ne hq], s2⟩
theorem E_byTurns (hI : Inv Mc Mr) (x1 : Int32) : ∃ a N, fX6_byTurns x1 Mc = some a ∧ fX7_byTurns x1 Mr = some (a, N) ∧ Inv Mc N := by
  unfold fX6_byTurns fX7_byTurns
  have hI := Inv_t0 hI
  generalize wq_st Mr 0 0 0 = N at hI ⊢
  obtain ⟨v, hW, -⟩ := id hI
  rcases there_cases hW with ⟨e1, e2⟩ | ⟨wf, e1, e2⟩
  · rw [e1, e2]
    exact ⟨_, N, rfl, rfl, hI⟩
  have h8 := wf.n8
  rw [e1, e2]
  simp only [Option.bind_some, if_true, if_false, Bool.false_eq_true]
  rw [lit_lN 0, lit_lN 4]
  rcases R_inb x1 0 4 (by omega) (by omega) N with ⟨h, e⟩ | ⟨h, e⟩ | ⟨n, h1, h2, rfl, e⟩
  · rw [if_pos (show x1 < 0 from h), e]
    exact ⟨_, N, rfl, rfl, hI⟩
  · rw [if_neg (hi_f (by omega) h).1, if_pos (show 4 < x1 from h), e]
    exact ⟨_, N, rfl, rfl, hI⟩
  rw [if_neg (nI_pos (by omega)), if_neg (show ¬ 4 < nI n by rw [lit_nI 4, nI_ltI (by omega) (by omega)]; omega), e, hW.2.1.1, in_0_44, cl_0, hW.2.2.1 0 (by omega)]
  simp only [Option.bind_some, if_true]
  by_cases hn : n ≤ v 0
  · rw [if_pos ((nI_leI (by omega) (by omega)).mpr hn), if_pos ((nI_leI (by omega) (by omega)).mpr hn)]
    have hc := C_turns hW.2.1 wf n 0 0 wq_RF (by omega) (show n < 40 by omega) (by omega)
    rw [show (if 0 % 2 = 0 then (1 : Int32) else 0) = 1 from rfl] at hc
    rw [show fX6_costByTurns wq_RF 20 (nI n) (nI (v 0) - 1) 0 1 Mc = some (nI (tT v n 0 0)) from hc, R_zeros N v h2]
    simp only [Option.bind_some]
    obtain ⟨M', e3, s1, s2⟩ := R_table wf h2 hn n wq_FU (wrow N v 0 n 40) (by omega) (FU_gt (by omega)) (by rw [wrow_ne (by omega)]; exact hW.2.2) (fun u hu => by rw [wrow_in (by omega), Nat.sub_self])
    rw [e3, show wq_in 0 200 = true by decide]
    simp only [Option.bind_some, if_true]
    rw [s2]
    exact ⟨_, _, rfl, rfl, Inv_11 hI (fun q hq => by rw [s1 q hq, wrow_ne hq])⟩
  · rw [if_neg (fun q => hn ((nI_leI (by omega) (by omega)).mp q)), if_neg (fun q => hn ((nI_leI (by omega) (by omega)).mp q))]
    exact ⟨_, N, rfl, rfl, hI⟩
end ED
