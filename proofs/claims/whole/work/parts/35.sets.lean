theorem sSum_ge {f : Nat → Nat} {k i : Nat} : ∀ {j : Nat}, i < j → f (k + i) ≤ sSum f k j
  | 0, h => by omega
  | j + 1, h => by
    show f (k + i) ≤ sSum f k j + f (k + j)
    by_cases e : i = j
    · subst e; omega
    · have := sSum_ge (f := f) (k := k) (i := i) (j := j) (by omega)
      omega
section EB
variable {Mc Mr : wq_M} {v : Nat → Nat}
theorem aHf_0 (wf : WF v) {s : Nat} (hs : s < 8) : aHf v s = 0 ↔ v (36 + s) = 0 := by
  unfold aHf
  by_cases h : v (36 + s) = 0
  · simp [h]
  · rw [if_neg h]
    have := (wf.gr (wf.ldg hs h)).2.2.2.2.1
    omega
theorem R_heftAt {M : wq_M} (hR : RepA (M.1 4) v) (wf : WF v) {s : Nat} (hs : s < 8) : fX7_heftAt (nI s) M = some (nI (aHf v s)) := by
  have hm := wf.m5
  have hl := wf.ld hs
  unfold fX7_heftAt
  rw [lit_nI 36, nI_add, in_nI (show 36 + s < 44 by omega) (by omega), cl_nI (by omega), hR.2 s hs]
  simp only [if_true]
  unfold aHf
  by_cases h : v (36 + s) = 0
  · rw [if_neg (show ¬ 0 ≤ nI (v (36 + s)) - 1 by rw [ld_ge0 (by omega)]; omega), if_pos h]
    rfl
  · rw [if_pos (show 0 ≤ nI (v (36 + s)) - 1 by rw [ld_ge0 (by omega)]; omega), if_neg h, ld_of h, lit_nI 4, R_of hR (by omega) (by omega)]
    rfl
theorem E_share (hI : Inv Mc Mr) (x1 x2 : Int32) : ∃ a N, fX6_share x1 x2 Mc = some a ∧ fX7_share x1 x2 Mr = some (a, N) ∧ Inv Mc N := by
  unfold fX6_share fX7_share
  have hI := Inv_t0 hI
  generalize wq_st Mr 0 0 0 = N at hI ⊢
  obtain ⟨v, hW, -⟩ := id hI
  rcases step_cases hW x1 with ⟨e1, e2⟩ | ⟨s, hs, rfl, wf, e1, e2⟩
  · rw [e1, e2]
    exact ⟨_, N, rfl, rfl, hI⟩
  have h8 := wf.n8
  have hm := wf.m5
  rw [e1, e2]
  simp only [Option.bind_some, if_true]
  rw [lit_lN 0, lit_lN 999]
  rcases R_inb x2 0 999 (by omega) (by omega) N with ⟨h, e⟩ | ⟨h, e⟩ | ⟨k, h1, h2, rfl, e⟩
  · rw [if_pos (show x2 < 0 from h), e]
    exact ⟨_, N, rfl, rfl, hI⟩
  · rw [if_neg (hi_f (by omega) h).1, if_neg (show ¬ x2 ≤ 999 from (hi_f (by omega) h).2.2.1), e]
    exact ⟨_, N, rfl, rfl, hI⟩
  rw [if_neg (nI_pos (by omega)), if_pos (show nI k ≤ 999 by rw [lit_nI 999, nI_leI (by omega) (by omega)]; omega), e, C_heft hW.2.1 wf, R_heftAt hW.2.2 wf (by omega), show fX7_hangs 4 0 N = some (nI (aHang v 0)) from R_hangs (s := 0) hW.2.2 wf (by omega), in_nI (show s < 8 by omega) (by omega), cl_nI (by omega), show Mc.1 24 s = nI (v (36 + s)) - 1 from hW.2.1.2.2.2.2.2.2.2.2 s (by omega)]
  simp only [Option.bind_some, if_true]
  have hb := aHf_le wf (show s < 8 by omega)
  have hH := aHang_le wf (s := 0)
  have hge : aHf v s ≤ aHang v 0 := by
    have := sSum_ge (f := aHf v) (k := 0) (i := s) (j := v 0) hs
    rwa [Nat.zero_add] at this
  by_cases hz : v (36 + s) = 0
  · rw [(aHf_0 wf (by omega)).mpr hz, hz, if_pos (show nI 0 = 0 by decide), if_pos (show nI 0 - 1 = -1 by decide)]
    exact ⟨_, N, by split <;> rfl, rfl, hI⟩
  have hnz : ¬ aHf v s = 0 := fun q => hz ((aHf_0 wf (by omega)).mp q)
  have hl := wf.ld (show s < 8 by omega)
  rw [if_neg (nI_ne0 (show 0 < aHang v 0 by omega) (by omega)), if_neg (show ¬ nI (v (36 + s)) - 1 = -1 by rw [ld_m1 (by omega)]; exact hz), if_neg (nI_ne0 (show 0 < aHf v s by omega) (by omega))]
  obtain ⟨y, z, f1, f2, hQ⟩ := lp_rel (b1 := fX6_share_L59 (nI s) (nI k) (nI (aHang v 0)) Mc) (b2 := fX7_share_L60 (nI s) (nI k) (nI (aHang v 0)) (nI (aHf v s)) N) (fun n p t => p = t ∧ ∃ j, p.2.2 = nI j ∧ n + j = v 0) (fun y z => y = z) (by
    rintro n ⟨p1, p2, p3⟩ _ ⟨rfl, j, h1, h2⟩
    simp only at h1
    subst h1
    unfold fX6_share_L59 fX7_share_L60
    simp only []
    rw [in_0_44, cl_0, hW.2.1.1, hW.2.2.1 0 (by omega)]
    simp only [if_true]
    by_cases hz : n = 0
    · left
      rw [if_pos (show nI (v 0) ≤ nI j by rw [nI_leI (by omega) (by omega)]; omega), if_pos (show nI (v 0) ≤ nI j by rw [nI_leI (by omega) (by omega)]; omega)]
      exact ⟨_, _, rfl, rfl, rfl⟩
    right
    obtain ⟨n, rfl⟩ : ∃ i, n = i + 1 := ⟨n - 1, by omega⟩
    have hlj := wf.ld (show j < 8 by omega)
    have hbj := aHf_le wf (show j < 8 by omega)
    rw [if_neg (show ¬ nI (v 0) ≤ nI j by rw [nI_leI (by omega) (by omega)]; omega), if_neg (show ¬ nI (v 0) ≤ nI j by rw [nI_leI (by omega) (by omega)]; omega), lit_nI 3, C_laidFigure hW.2.1 wf (by omega) (by omega), R_heftAt hW.2.2 wf (by omega), in_nI (show j < 8 by omega) (by omega), cl_nI (by omega), show Mc.1 24 j = nI (v (36 + j)) - 1 from hW.2.1.2.2.2.2.2.2.2.2 j (by omega)]
    show ∃ k' s' t', _ ∧ (Option.bind (some (nI (aHf v j))) _) = _ ∧ _ ∧ _
    simp only [Option.bind_some, if_true]
    rw [if_pos (nI_ne0 (show 0 < aHang v 0 by omega) (by omega)), if_pos (nI_ne0 (show 0 < aHang v 0 by omega) (by omega)), Int32.add_zero, nI_1]
    by_cases hsj : nI s ≤ nI j
    · rw [if_pos hsj, if_pos hsj]
      exact ⟨n, _, _, rfl, rfl, rfl, rfl, j + 1, rfl, by omega⟩
    · rw [if_neg hsj, if_neg hsj]
      by_cases hb2 : v (36 + j) = 0
      · rw [if_pos (show nI (v (36 + j)) - 1 = -1 by rw [ld_m1 (by omega)]; exact hb2), if_pos (show nI (aHf v j) ≤ 0 by rw [(aHf_0 wf (by omega)).mpr hb2]; decide)]
        exact ⟨n, _, _, rfl, rfl, rfl, rfl, j + 1, rfl, by omega⟩
      · rw [if_neg (show ¬ nI (v (36 + j)) - 1 = -1 by rw [ld_m1 (by omega)]; exact hb2), if_neg (show ¬ nI (aHf v j) ≤ 0 by
          have : ¬ aHf v j = 0 := fun q => hb2 ((aHf_0 wf (by omega)).mp q)
          exact nI_nle (by omega) (by omega))]
        exact ⟨n, _, _, rfl, rfl, rfl, rfl, j + 1, rfl, by omega⟩) (v 0) wq_FU (nI k, 0, 0) (nI k, 0, 0) ⟨rfl, 0, rfl, rfl⟩ (FU_gt (by omega))
  rw [f1, f2, lit_nI 3, C_laidFigure hW.2.1 wf (by omega) (by omega)]
  subst hQ
  show ∃ a N_1, (Option.bind (some y) fun _ => Option.bind (some (nI (aHf v s))) _) = _ ∧ _ ∧ _
  simp only [Option.bind_some, if_true]
  rw [if_pos (nI_ne0 (show 0 < aHang v 0 by omega) (by omega)), if_pos (nI_ne0 (show 0 < aHang v 0 by omega) (by omega))]
  by_cases hy : y.1 ≤ y.2
  · rw [if_pos hy, if_pos hy]
    exact ⟨_, N, rfl, rfl, hI⟩
  · rw [if_neg hy, if_neg hy]
    exact ⟨_, N, rfl, rfl, hI⟩
def pAcc (v : Nat → Nat) (B : Nat → Bool) : Nat → Nat → Nat → Option Nat
  | 0, _, a => some a
  | j + 1, s, a => if B s = true then (if v (36 + s) = 0 then none else pAcc v B j (s + 1) (a + v (6 + 6 * (v (36 + s) - 1) + 5))) else pAcc v B j (s + 1) a
def btB (x : Int32) (j : Nat) : Bool := decide (((x >>> (nI j &&& 31)) &&& 1) = 1)
theorem pAcc_le (wf : WF v) {B : Nat → Bool} : ∀ {j s a b : Nat}, s + j ≤ 8 → pAcc v B j s a = some b → b ≤ a + 99 * j
  | 0, s, a, b, _, h => by
    simp only [pAcc, Option.some.injEq] at h
    omega
  | j + 1, s, a, b, hs, h => by
    unfold pAcc at h
    split at h
    · split at h
      · exact absurd h (by simp)
      · rename_i h1 h2
        have := pAcc_le wf (by omega) h
        have := (wf.gr (wf.ldg (show s < 8 by omega) h2)).2.2.2.2.2
        omega
    · have := pAcc_le wf (by omega) h
      omega
theorem C_pr {M : wq_M} {p : Nat} (hC : RepC M p v) (wf : WF v) (x : Int32) : ∀ (j s a n : Nat), s + j = v 0 → j < n → wq_lp (fX5_priceOf_L4 p x M) n (nI a, nI s) = some (match pAcc v (btB x) j s a with | none => .inl (-1000000) | some b => .inr (nI b)) := by
  have h8 := wf.n8
  have hm := wf.m5
  intro j
  induction j with
  | zero =>
    intro s a n hs hn
    obtain ⟨n, rfl⟩ : ∃ m, n = m + 1 := ⟨n - 1, by omega⟩
    refine lp_exit ?_
    unfold fX5_priceOf_L4
    simp only []
    rw [hC.1, if_pos (show nI (v 0) ≤ nI s by rw [nI_leI (by omega) (by omega)]; omega)]
    rfl
  | succ j ih =>
    intro s a n hs hn
    obtain ⟨n, rfl⟩ : ∃ m, n = m + 1 := ⟨n - 1, by omega⟩
    have hl := wf.ld (show s < 8 by omega)
    have hb : fX5_priceOf_L4 p x M (nI a, nI s) = if btB x s = true then (if v (36 + s) = 0 then some (.inr (.inl (-1000000))) else some (.inl (nI (a + v (6 + 6 * (v (36 + s) - 1) + 5)), nI (s + 1)))) else some (.inl (nI a, nI (s + 1))) := by
      unfold fX5_priceOf_L4
      simp only []
      rw [hC.1, if_neg (show ¬ nI (v 0) ≤ nI s by rw [nI_leI (by omega) (by omega)]; omega), in_nI (show s < 8 by omega) (by omega), cl_nI (by omega), hC.2.2.2.2.2.2.2.2 s (by omega), nI_1]
      simp only [if_true, btB, decide_eq_true_eq]
      by_cases hb : ((x >>> (nI s &&& 31)) &&& 1) = 1
      · rw [if_pos hb, if_pos hb]
        by_cases hz : v (36 + s) = 0
        · rw [if_pos (show nI (v (36 + s)) - 1 = -1 by rw [ld_m1 (by omega)]; exact hz), if_pos hz]
        · rw [if_neg (show ¬ nI (v (36 + s)) - 1 = -1 by rw [ld_m1 (by omega)]; exact hz), if_neg hz, ld_of hz, lit_nI 4, C_figure hC hm (wf.ldg (by omega) hz) (by omega)]
          simp only [Option.bind_some]
          rw [nI_add]
      · rw [if_neg hb, if_neg hb]
    unfold pAcc
    by_cases h1 : btB x s = true
    · rw [if_pos h1] at hb ⊢
      by_cases h2 : v (36 + s) = 0
      · rw [if_pos h2] at hb ⊢
        rw [lp_exit hb]
      · rw [if_neg h2] at hb ⊢
        rw [lp_step hb]
        exact ih (s + 1) _ n (by omega) (by omega)
    · rw [if_neg h1] at hb ⊢
      rw [lp_step hb]
      exact ih (s + 1) _ n (by omega) (by omega)
theorem R_pr {M : wq_M} (hR : RepA (M.1 4) v) (wf : WF v) (x1 x2 x3 x4 x5 x : Int32) : ∀ (j s a g n : Nat), s + j = v 0 → j < n → g ≤ 1 → ∃ y z, wq_lp (fX7_sets_L53_L75 x1 x2 x3 x4 x5 x M) n (nI a, nI g, nI s) = some (y, z) ∧ (g = 0 → z = 0) ∧ (g = 1 → (match pAcc v (btB x) j s a with | none => z = 0 | some b => y = nI b ∧ z = 1)) := by
  have h8 := wf.n8
  have hm := wf.m5
  intro j
  induction j with
  | zero =>
    intro s a g n hs hn hg
    obtain ⟨n, rfl⟩ : ∃ m, n = m + 1 := ⟨n - 1, by omega⟩
    refine ⟨nI a, nI g, lp_exit ?_, fun h => by rw [h]; rfl, fun h => ⟨rfl, by rw [h]; rfl⟩⟩
    unfold fX7_sets_L53_L75
    simp only []
    rw [in_0_44, cl_0, hR.1 0 (by omega), if_pos rfl, if_pos (show nI (v 0) ≤ nI s by rw [nI_leI (by omega) (by omega)]; omega)]
  | succ j ih =>
    intro s a g n hs hn hg
    obtain ⟨n, rfl⟩ : ∃ m, n = m + 1 := ⟨n - 1, by omega⟩
    have hl := wf.ld (show s < 8 by omega)
    have hb : fX7_sets_L53_L75 x1 x2 x3 x4 x5 x M (nI a, nI g, nI s) = some (.inl (nI (if btB x s = true then (if v (36 + s) = 0 then a else a + v (6 + 6 * (v (36 + s) - 1) + 5)) else a), nI (if g = 0 then 0 else if btB x s = true then (if v (36 + s) = 0 then 0 else 1) else 1), nI (s + 1))) := by
      unfold fX7_sets_L53_L75 fX7_sets_L53_L75_J104 fX7_sets_L53_L75_J144 fX7_sets_L53_L75_J145 fX7_has
      simp only []
      rw [in_0_44, cl_0, hR.1 0 (by omega), if_pos rfl, if_neg (show ¬ nI (v 0) ≤ nI s by rw [nI_leI (by omega) (by omega)]; omega), lit_nI 36, nI_add, in_nI (show 36 + s < 44 by omega) (by omega), cl_nI (by omega), hR.2 s (by omega), nI_1]
      simp only [if_true, btB, decide_eq_true_eq]
      have hg0 : nI g = 0 ↔ g = 0 := by
        rw [lit_nI 0, nI_eq (by omega) (by omega)]
      by_cases hb : ((x >>> (nI s &&& 31)) &&& 1) = 1
      · simp only [hb, if_true, Option.bind_some]
        by_cases hz : v (36 + s) = 0
        · rw [if_neg (show ¬ 0 ≤ nI (v (36 + s)) - 1 by rw [ld_ge0 (by omega)]; omega), if_pos hz, if_pos hz, if_neg (show ¬ (1 : Int32) = 0 by decide), Int32.add_zero]
          by_cases hgz : g = 0
          · rw [if_pos (hg0.mpr hgz), if_pos hgz]; rfl
          · rw [if_neg (fun q => hgz (hg0.mp q)), if_neg hgz]; rfl
        · rw [if_pos (show 0 ≤ nI (v (36 + s)) - 1 by rw [ld_ge0 (by omega)]; omega), if_neg hz, if_neg hz, ld_of hz, lit_nI 5, R_of hR (by have := wf.ldg (show s < 8 by omega) hz; omega) (by omega)]
          simp only [Option.bind_some]
          rw [nI_add]
          by_cases hgz : g = 0
          · rw [if_pos (hg0.mpr hgz), if_pos hgz]; rfl
          · rw [if_neg (fun q => hgz (hg0.mp q)), if_neg hgz]; rfl
      · simp only [hb, if_false, Option.bind_some, Bool.false_eq_true]
        rw [Int32.add_zero]
        by_cases hgz : g = 0
        · rw [if_pos (hg0.mpr hgz), if_pos hgz]; split <;> rfl
        · rw [if_neg (fun q => hgz (hg0.mp q)), if_neg hgz]; split <;> rfl
    rw [lp_step hb]
    obtain ⟨y, z, e, q1, q2⟩ := ih (s + 1) (if btB x s = true then (if v (36 + s) = 0 then a else a + v (6 + 6 * (v (36 + s) - 1) + 5)) else a) (if g = 0 then 0 else if btB x s = true then (if v (36 + s) = 0 then 0 else 1) else 1) n (by omega) (by omega) (by
      split
      · omega
      · split
        · split <;> omega
        · omega)
    refine ⟨y, z, e, fun h => q1 (by rw [if_pos h]), fun h => ?_⟩
    subst h
    rw [if_neg (by omega)] at q1 q2
    unfold pAcc
    by_cases h1 : btB x s = true
    · rw [if_pos h1] at q1 q2 ⊢
      by_cases h2 : v (36 + s) = 0
      · rw [if_pos h2] at q1 ⊢
        exact q1 rfl
      · rw [if_neg h2] at q1 q2 ⊢
        rw [if_pos h1, if_neg h2] at q2
        exact q2 rfl
    · rw [if_neg h1] at q1 q2 ⊢
      rw [if_neg h1] at q2
      exact q2 rfl
theorem shl_tab : ∀ n : Fin 9, (1 : Int32) <<< (nI n.val &&& 31) = nI (2 ^ n.val) := by decide
theorem E_sets (hI : Inv Mc Mr) (x1 x2 : Int32) : ∃ a N, fX6_sets x1 x2 Mc = some a ∧ fX7_sets x1 x2 Mr = some (a, N) ∧ Inv Mc N := by
  unfold fX6_sets fX7_sets
  have hI := Inv_t0 hI
  generalize wq_st Mr 0 0 0 = N at hI ⊢
  obtain ⟨v, hW, -⟩ := id hI
  rcases there_cases hW with ⟨e1, e2⟩ | ⟨wf, e1, e2⟩
  · rw [e1, e2]
    exact ⟨_, N, rfl, rfl, hI⟩
  have h8 := wf.n8
  rw [e1, e2]
  simp only [Option.bind_some, if_true, if_false, Bool.false_eq_true]
  rw [lit_lN 0, lit_lN 792, lit_lN 2]
  rcases R_inb x1 0 792 (by omega) (by omega) N with ⟨h, e⟩ | ⟨h, e⟩ | ⟨w, h1, h2, rfl, e⟩
  · rw [if_pos (show x1 < 0 from h), e]
    exact ⟨_, N, rfl, rfl, hI⟩
  · rw [if_neg (hi_f (by omega) h).1, if_pos (show 792 < x1 from h), e]
    exact ⟨_, N, rfl, rfl, hI⟩
  rw [if_neg (nI_pos (by omega)), if_neg (show ¬ 792 < nI w by rw [lit_nI 792, nI_ltI (by omega) (by omega)]; omega), e]
  simp only [Option.bind_some, if_true]
  rcases R_inb x2 0 2 (by omega) (by omega) N with ⟨h, e⟩ | ⟨h, e⟩ | ⟨k, h3, h4, rfl, e⟩
  · rw [if_pos (show x2 < 0 from h), e]
    exact ⟨_, N, rfl, rfl, hI⟩
  · rw [if_neg (hi_f (by omega) h).1, if_neg (show ¬ x2 ≤ 2 from (hi_f (by omega) h).2.2.1), e]
    exact ⟨_, N, rfl, rfl, hI⟩
  rw [if_neg (nI_pos (by omega)), if_pos (show nI k ≤ 2 by rw [lit_nI 2, nI_leI (by omega) (by omega)]; omega), e]
  simp only [Option.bind_some, if_true]
  have hp : 2 ^ v 0 ≤ 256 := by
    have := Nat.pow_le_pow_right (n := 2) (by omega) h8
    simpa using this
  have hsh : (1 : Int32) <<< (nI (v 0) &&& 31) = nI (2 ^ v 0) := shl_tab ⟨v 0, by omega⟩
  obtain ⟨y, z, f1, f2, hQ⟩ := lp_rel (b1 := fX6_sets_L44 (nI w) (nI k) Mc) (b2 := fX7_sets_L53 (nI w) (nI k) N) (fun n p t => ∃ c j, j + n = 2 ^ v 0 ∧ c ≤ j ∧ p.1 = nI c ∧ t.1 = nI c ∧ (c = 0 → p.2.1 = -1 ∧ t.2.1 = 0) ∧ (c ≠ 0 → p.2.1 = t.2.1) ∧ p.2.2.1 = t.2.2.1 ∧ p.2.2.2 = nI j ∧ t.2.2.2 = nI j) (fun y z => ∃ c, c ≤ 256 ∧ y.1 = nI c ∧ z.1 = nI c ∧ (c = 0 → z.2.1 = 0) ∧ (c ≠ 0 → y.2.1 = z.2.1) ∧ y.2.2 = z.2.2) (by
    rintro n ⟨p1, p2, p3, p4⟩ ⟨t1, t2, t3, t4⟩ ⟨c, j, g1, g2, g3, g4, g5, g6, g7, g8, g9⟩
    simp only at g3 g4 g5 g6 g7 g8 g9
    subst g3 g4 g7 g8 g9
    unfold fX6_sets_L44 fX7_sets_L53 fX7_sets_L53_J206
    simp only []
    rw [in_0_44, cl_0, hW.2.1.1, hW.2.2.1 0 (by omega), hsh]
    simp only [if_true]
    by_cases hz : n = 0
    · left
      rw [if_pos (show nI (2 ^ v 0) ≤ nI j by rw [nI_leI (by omega) (by omega)]; omega), if_pos (show nI (2 ^ v 0) ≤ nI j by rw [nI_leI (by omega) (by omega)]; omega)]
      exact ⟨_, _, rfl, rfl, c, by omega, rfl, rfl, fun h => (g5 h).2, g6, rfl⟩
    right
    obtain ⟨n, rfl⟩ : ∃ i, n = i + 1 := ⟨n - 1, by omega⟩
    rw [if_neg (show ¬ nI (2 ^ v 0) ≤ nI j by rw [nI_leI (by omega) (by omega)]; omega), if_neg (show ¬ nI (2 ^ v 0) ≤ nI j by rw [nI_leI (by omega) (by omega)]; omega)]
    have hc := C_pr hW.2.1 wf (nI j) (v 0) 0 0 wq_FU (by omega) (FU_gt (by omega))
    obtain ⟨y, z, hr, -, hr2⟩ := R_pr hW.2.2 wf (nI w) (nI k) (nI c) t2 p3 (nI j) (v 0) 0 0 1 wq_FU (by omega) (FU_gt (by omega)) (by omega)
    have hr2 := hr2 rfl
    unfold fX5_priceOf
    rw [show ((0 : Int32), (0 : Int32)) = (nI 0, nI 0) from rfl, hc, show ((0 : Int32), (1 : Int32), (0 : Int32)) = (nI 0, nI 1, nI 0) from rfl, hr, nI_1]
    simp only [Option.bind_some]
    cases hpa : pAcc v (btB (nI j)) (v 0) 0 0 with
    | none =>
      rw [hpa] at hr2
      simp only [Option.bind_some, Sum.elim_inl]
      rw [if_neg (show ¬ (-1000000 : Int32) = nI w by
        rw [← Int32.toInt_inj, nI_toInt (by omega), show (-1000000 : Int32).toInt = -1000000 by decide]
        omega), if_pos hr2]
      exact ⟨n, _, _, rfl, rfl, rfl, c, j + 1, by omega, by omega, rfl, rfl, g5, g6, rfl, by first | rfl | exact nI_1 _, by first | rfl | exact nI_1 _⟩
    | some b =>
      rw [hpa] at hr2
      simp only [Option.bind_some, Sum.elim_inr]
      rw [hr2.1, hr2.2, if_neg (show ¬ (1 : Int32) = 0 by decide)]
      by_cases hw : nI b = nI w
      · rw [if_pos hw, if_pos hw, nI_1]
        by_cases hc0 : c = 0
        · rw [if_pos (show nI c = 0 by rw [hc0]; rfl)]
          refine ⟨n, _, _, rfl, rfl, rfl, c + 1, j + 1, by omega, by omega, rfl, rfl, fun h => by omega, fun h => ?_, rfl, by first | rfl | exact nI_1 _, by first | rfl | exact nI_1 _⟩
          show p2 &&& nI j = nI j
          rw [(g5 hc0).1]
          exact Int32.neg_one_and
        · rw [if_neg (show ¬ nI c = 0 from nI_ne0 (by omega) (by omega))]
          refine ⟨n, _, _, rfl, rfl, rfl, c + 1, j + 1, by omega, by omega, rfl, rfl, fun h => by omega, fun h => ?_, rfl, by first | rfl | exact nI_1 _, by first | rfl | exact nI_1 _⟩
          show p2 &&& nI j = t2 &&& nI j
          rw [g6 hc0]
      · rw [if_neg hw, if_neg hw]
        exact ⟨n, _, _, rfl, rfl, rfl, c, j + 1, by omega, by omega, rfl, rfl, g5, g6, rfl, by first | rfl | exact nI_1 _, by first | rfl | exact nI_1 _⟩) (2 ^ v 0) wq_FU (0, -1, 0, 0) (0, 0, 0, 0) ⟨0, 0, by omega, by omega, rfl, rfl, fun _ => ⟨rfl, rfl⟩, fun h => absurd rfl h, rfl, rfl, rfl⟩ (FU_gt (by omega))
  rw [f1, f2]
  simp only [Option.bind_some]
  obtain ⟨c, c1, c2, c3, c4, c5, c6⟩ := hQ
  rw [c2, c3, c6]
  have hk : k = 0 ∨ k = 1 ∨ k = 2 := by omega
  rcases hk with rfl | rfl | rfl
  · exact ⟨_, N, rfl, rfl, hI⟩
  · rw [if_neg (show ¬ nI 1 = 0 by decide), if_pos (show nI 1 = 1 by decide), if_neg (show ¬ nI 1 = 0 by decide), if_pos (show nI 1 = 1 by decide)]
    by_cases hc0 : c = 0
    · rw [if_pos (show nI c = 0 by rw [hc0]; rfl), c4 hc0]
      exact ⟨_, N, rfl, rfl, hI⟩
    · rw [if_neg (show ¬ nI c = 0 from nI_ne0 (by omega) (by omega)), c5 hc0]
      exact ⟨_, N, rfl, rfl, hI⟩
  · exact ⟨_, N, rfl, rfl, hI⟩
end EB
