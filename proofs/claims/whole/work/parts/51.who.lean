theorem aFst_c (P : Nat → Bool) (k j : Nat) : aFst P k (j + 1) = if P k = true then aFst P (k + 1) j else some k := rfl
section ER
variable {Mc Mr : wq_M} {v : Nat → Nat}
def cpL (M : wq_M) (i : Nat) : wq_M := (fun q k => if q = 4 then (if 36 ≤ k ∧ k < 36 + i then M.1 10 (k - 36) else M.1 q k) else M.1 q k, M.2)
theorem cpL_ne {M : wq_M} {i q : Nat} (h : q ≠ 4) : (cpL M i).1 q = M.1 q := by
  funext k
  simp [cpL, h]
theorem R_layL (M : wq_M) {n : Nat} (hn : n ≤ 8) (h0 : M.1 4 0 = nI n) : wq_lp (fX7_layBest_L38) wq_FU (0, M) = some (cpL M n) := by
  have hst : ∀ i, wq_st (cpL M i) 4 (36 + i) ((cpL M i).1 10 i) = cpL M (i + 1) := by
    intro i
    rw [cpL_ne (show 10 ≠ 4 by omega)]
    unfold wq_st cpL
    simp only [Prod.mk.injEq, and_true]
    funext q k
    by_cases hq : q = 4
    · simp only [hq, if_true]
      by_cases hk : k = 36 + i
      · rw [if_pos hk, if_pos (by omega), hk, show 36 + i - 36 = i by omega]
      · rw [if_neg hk]
        by_cases h2 : 36 ≤ k ∧ k < 36 + i
        · rw [if_pos h2, if_pos (by omega)]
        · rw [if_neg h2, if_neg (by omega)]
    · simp [hq]
  have h4 : ∀ i, (cpL M i).1 4 0 = nI n := fun i => by
    simp only [cpL, if_true]
    rw [if_neg (by omega), h0]
  have key := lp_run (body := fX7_layBest_L38) (fun i => (nI i, cpL M i)) n (y := cpL M n) (n := wq_FU) (fun i hi => by
    unfold fX7_layBest_L38
    simp only []
    rw [in_0_44, cl_0, h4, if_pos rfl, if_neg (show ¬ nI n ≤ nI i by rw [nI_leI (by omega) (by omega)]; omega), in_nI (show i < 8 by omega) (by omega), lit_nI 36, nI_add, in_nI (show 36 + i < 44 by omega) (by omega), cl_nI (by omega), cl_nI (by omega), hst, nI_1]
    rfl) (by
    unfold fX7_layBest_L38
    simp only []
    rw [in_0_44, cl_0, h4, if_pos rfl, if_pos (show nI n ≤ nI n from Int32.le_refl _)]) (FU_gt (by omega))
  rw [show ((0 : Int32), M) = (fun i => (nI i, cpL M i)) 0 by
    simp only [cpL]
    rw [show (fun q k => if q = 4 then (if 36 ≤ k ∧ k < 36 + 0 then M.1 10 (k - 36) else M.1 q k) else M.1 q k) = M.1 by
      funext q k
      by_cases hq : q = 4
      · rw [if_pos hq, if_neg (by omega)]
      · rw [if_neg hq]]
    rfl, key]
theorem E_layBest (hI : Inv Mc Mr) : ∃ a C N, fX6_layBest Mc = some (a, C) ∧ fX7_layBest Mr = some (a, N) ∧ Inv C N := by
  unfold fX6_layBest fX7_layBest
  have hI := Inv_t0 hI
  generalize wq_st Mr 0 0 0 = N at hI ⊢
  obtain ⟨v, hW, hA, -⟩ := id hI
  rcases there_cases hW with ⟨e1, e2⟩ | ⟨wf, e1, e2⟩
  · rw [e1, e2]
    exact ⟨_, Mc, N, rfl, rfl, hI⟩
  have h8 := wf.n8
  have hm5 := wf.m5
  rw [e1, e2]
  simp only [Option.bind_some, if_true, if_false, Bool.false_eq_true]
  obtain ⟨r, o, C, N1, f1, f2, f3, f4, f5, f6⟩ := best_both (x2c := -1000000) (x2r := -1) wf hW.2.1 (Inv_sr hI) (Or.inl rfl) hW.2.2 (Or.inl rfl) (no_bar _ (by decide)) (no_bar _ (by decide))
  have hI2 := Inv_best hI f3 f4 f5
  rw [f1, f2]
  simp only [Option.bind_some]
  rcases f6 with ⟨rfl, rfl⟩ | ⟨rfl, l, x, rfl, d1, d2, d3, d4, d5, d6, d7, d8, d9⟩
  · exact ⟨_, C, N1, rfl, rfl, hI2⟩
  rw [if_pos rfl, if_neg (rO_ne d5)]
  have hW1 : iWe C N1 v := iWe_c hW (fun q a b => f3.1 q (by omega)) (f5 4 (by omega) (by omega))
  have hA1 : iAc C N1 v := iAc_c hA (by rw [f3.1 47 (by omega)]) (f3.1 48 (by omega)) (f3.1 49 (by omega)) (by rw [f5 0 (by omega) (by omega)]) (f5 7 (by omega) (by omega))
  rw [C_stringCode hW1.2.1 wf.l5]
  obtain ⟨C2, N2, k1, k2, k3, k4, k5⟩ := keep_both hA1 hW1.2.2 wf 9 (nI (cdv v 8))
  simp only [Option.bind_some, k1, k2]
  rw [show wq_cpk 0 0 8 8 8 = true by decide, if_pos rfl, R_layL N2 h8 (by rw [k4.1 4 (by omega) (by omega)]; exact hW1.2.2.1 0 (by omega))]
  simp only [Option.bind_some, cl_0, cl_8]
  have wf' := WF_nw wf d1 d2
  have hR' : RepA ((cpL N2 (v 0)).1 4) (vnw v l) := by
    have hr := hW1.2.2
    rw [← k4.1 4 (by omega) (by omega)] at hr
    refine ⟨fun k hk => ?_, fun s hs => ?_⟩
    · rw [vnw_o hk]
      simp only [cpL, if_true]
      rw [if_neg (by omega)]
      exact hr.1 k hk
    · rw [vnw_l hs]
      simp only [cpL, if_true]
      by_cases h : s < v 0
      · rw [if_pos (by omega), if_pos h, show 36 + s - 36 = s by omega, k4.1 10 (by omega) (by omega), d9 s h, nI_pred]
      · rw [if_neg (by omega), if_neg h, hr.2 s hs, wf.2.2.2.2.2.2.2.2 s (by omega) hs]
  rw [R_costOf hR' wf', aCost_nw wf d1 d2, wq_cp_ne (show 41 ≠ 24 by omega), k3.1 41 (by omega) (by omega) (by omega), d6]
  simp only [Option.bind_some]
  have hd := cdv_dig wf.l5
  have hU : Und 9 (nI (cdv v 8)) (vnw v l) v := Or.inl ⟨rfl, ⟨cdv v 8, rfl, hd.1, hd.2⟩, fun k hk => (vnw_o hk).symm⟩
  refine ⟨_, _, _, rfl, rfl, Inv_act hI2 (v' := vnw v l) ⟨Or.inr wf', ?_, hR'⟩ (k5 _ wf' hU _ _ (by rw [wq_cp_ne (by omega)]) (wq_cp_ne (by omega)) (wq_cp_ne (by omega)) (by rw [cpL_ne (by omega)]) (cpL_ne (by omega))) (fun q hq => ?_) ?_ (fun q a b c => ?_) (fun j hj => ?_)⟩
  · obtain ⟨a1, a2, a3, a4, a5, a6, a7, a8, a9⟩ := hW1.2.1
    have hf : ∀ q, q ≠ 24 → 20 ≤ q → q < 25 → (wq_cp C2 42 0 24 0 8).1 q = C.1 q := fun q z1 z2 z3 => by rw [wq_cp_ne z1, k3.1 q (by omega) (by omega) (by omega)]
    refine ⟨?_, ?_, ?_, ?_, ?_, ?_, fun i hi => ?_, fun i hi k hk => ?_, fun t ht => ?_⟩
    · rw [hf _ (by omega) (by omega) (by omega), vnw_o (by omega)]; exact a1
    · rw [hf _ (by omega) (by omega) (by omega), vnw_o (by omega)]; exact a2
    · rw [hf _ (by omega) (by omega) (by omega), vnw_o (by omega)]; exact a3
    · rw [hf _ (by omega) (by omega) (by omega), vnw_o (by omega)]; exact a4
    · rw [hf _ (by omega) (by omega) (by omega), vnw_o (by omega)]; exact a5
    · rw [hf _ (by omega) (by omega) (by omega), vnw_o (by omega)]; exact a6
    · rw [vnw_o (by omega)] at hi
      rw [hf _ (by omega) (by omega) (by omega), vnw_o (by omega)]; exact a7 i hi
    · rw [vnw_o (by omega)] at hi
      rw [hf _ (by omega) (by omega) (by omega), vnw_o (by omega)]; exact a8 i hi k hk
    · rw [show (20 + 4 : Nat) = 24 from rfl, wq_cp_self, vnw_l ht]
      simp only [va_cpy]
      rw [if_pos (by omega), show 0 + (t - 0) = t by omega, k3.1 42 (by omega) (by omega) (by omega), d8 t ht]
  · rw [wq_cp_ne (by omega), k3.1 q (by omega) (by omega) (by omega)]
  · exact k3.2
  · rw [cpL_ne b, k4.1 q a c]
  · rw [cpL_ne (by omega), k4.2 j hj]
theorem RepC_kind {M : wq_M} {p g x : Nat} (h : RepC M p v) (hm : v 5 ≤ 5) (hg : g < v 5) : RepC (wq_st M (p + 2) g (nI x)) p (vup v (6 + 6 * g) x) := by
  obtain ⟨a1, a2, a3, a4, a5, a6, a7, a8, a9⟩ := h
  refine ⟨?_, ?_, ?_, ?_, ?_, ?_, fun i hi => ?_, fun i hi k hk => ?_, fun t ht => ?_⟩
  · rw [wq_st_ne (by omega), vup_n (by omega)]; exact a1
  · rw [wq_st_ne (by omega), vup_n (by omega)]; exact a2
  · rw [wq_st_ne (by omega), vup_n (by omega)]; exact a3
  · rw [wq_st_ne (by omega), vup_n (by omega)]; exact a4
  · rw [wq_st_ne (by omega), vup_n (by omega)]; exact a5
  · rw [wq_st_ne (by omega), vup_n (by omega)]; exact a6
  · rw [vup_n (by omega)] at hi
    by_cases e : i = g
    · subst e
      rw [st_eq, vup_s]
    · rw [st_ne2 e, vup_n (by omega)]; exact a7 i hi
  · rw [vup_n (by omega)] at hi
    rw [wq_st_ne (by omega), vup_n (by omega)]; exact a8 i hi k hk
  · rw [wq_st_ne (by omega), vup_n (by omega)]
    exact a9 t ht
theorem WF_kind (h : WF v) {g x : Nat} (hg : g < v 5) (hx : 1 ≤ x ∧ x ≤ 5) : WF (vup v (6 + 6 * g) x) := by
  have hm := h.m5
  obtain ⟨w1, w2, w3, w4, w5, w6, w7, w8, w9⟩ := h
  refine ⟨?_, ?_, ?_, ?_, ?_, ?_, fun i hi => ?_, fun t ht => ?_, fun t h1 h2 => ?_⟩
  · rw [vup_n (by omega)]; exact w1
  · rw [vup_n (by omega)]; exact w2
  · rw [vup_n (by omega)]; exact w3
  · rw [vup_n (by omega)]; exact w4
  · rw [vup_n (by omega)]; exact w5
  · rw [vup_n (by omega)]; exact w6
  · rw [vup_n (by omega)] at hi
    rw [vup_n (show 6 + 6 * i + 1 ≠ 6 + 6 * g by omega), vup_n (show 6 + 6 * i + 2 ≠ 6 + 6 * g by omega), vup_n (show 6 + 6 * i + 3 ≠ 6 + 6 * g by omega), vup_n (show 6 + 6 * i + 4 ≠ 6 + 6 * g by omega), vup_n (show 6 + 6 * i + 5 ≠ 6 + 6 * g by omega)]
    obtain ⟨z1, z2⟩ := w7 i hi
    refine ⟨?_, z2⟩
    by_cases e : i = g
    · rw [e, vup_s]; exact hx
    · rw [vup_n (by omega)]; exact z1
  · rw [vup_n (by omega), vup_n (by omega)]
    exact w8 t ht
  · rw [vup_n (by omega)] at h1
    rw [vup_n (by omega)]
    exact w9 t h1 h2
theorem vup_id (i : Nat) : vup v i (v i) = v := by
  funext j
  unfold vup
  by_cases h : j = i
  · rw [if_pos h, h]
  · rw [if_neg h]
theorem vup_vup {i x y : Nat} : vup (vup v i x) i y = vup v i y := by
  funext j
  unfold vup
  by_cases h : j = i
  · rw [if_pos h, if_pos h]
  · rw [if_neg h, if_neg h, if_neg h]
theorem C_cmpL {C : wq_M} {p2 i n : Nat} {E : Nat → Bool} (h0 : C.1 25 0 = nI n) (hn : n ≤ 8) (hi : i + n ≤ 40) (hE : ∀ s, s < n → (C.1 (p2 + 1) (i + s) = C.1 42 s ↔ E s = true)) : ∀ (j s m : Nat), s + j = n → j < m → wq_lp (fX6_isBest_L18 25 p2 (nI i) C) m (nI s) = some (match aFst E s j with | none => .inr () | some _ => .inl (false, C)) := by
  intro j
  induction j with
  | zero =>
    intro s m hs hm
    obtain ⟨m, rfl⟩ : ∃ q, m = q + 1 := ⟨m - 1, by omega⟩
    refine lp_exit ?_
    unfold fX6_isBest_L18
    rw [h0, if_pos (show nI n ≤ nI s by rw [nI_leI (by omega) (by omega)]; omega)]
    rfl
  | succ j ih =>
    intro s m hs hm
    obtain ⟨m, rfl⟩ : ∃ q, m = q + 1 := ⟨m - 1, by omega⟩
    have hb : fX6_isBest_L18 25 p2 (nI i) C (nI s) = if E s = true then some (.inl (nI (s + 1))) else some (.inr (.inl (false, C))) := by
      unfold fX6_isBest_L18
      rw [h0, if_neg (show ¬ nI n ≤ nI s by rw [nI_leI (by omega) (by omega)]; omega), nI_add, in_nI (show i + s < 40 by omega) (by omega), in_nI (show s < 8 by omega) (by omega), cl_nI (by omega), cl_nI (by omega), nI_1, if_pos rfl, if_pos rfl]
      by_cases he : E s = true
      · rw [if_pos ((hE s (by omega)).mpr he), if_pos he]
      · rw [if_neg (fun q => he ((hE s (by omega)).mp q)), if_neg he]
    unfold aFst
    by_cases he : E s = true
    · rw [if_pos he] at hb ⊢
      rw [lp_step hb]
      exact ih (s + 1) m (by omega) (by omega)
    · rw [if_neg he] at hb ⊢
      rw [lp_exit hb]
theorem R_cmpL {N : wq_M} {r i n : Nat} {E : Nat → Bool} (h0 : N.1 4 0 = nI n) (hn : n ≤ 8) (hr : r < 8) (hi : i + n ≤ 40) (hE : ∀ s, s < n → (N.1 10 s = N.1 3 (40 * r + i + s) ↔ E s = true)) (x1 x2 x6 x7 : Int32) : ∀ (j s y m : Nat), s + j = n → j < m → y ≤ 1 → wq_lp (fX7_who_L62_L128 x1 x2 (nI r) (nI i) x6 x7 N) m (nI y, nI s) = some (if y = 0 then 0 else match aFst E s j with | none => 1 | some _ => 0) := by
  intro j
  induction j with
  | zero =>
    intro s y m hs hm hy
    obtain ⟨m, rfl⟩ : ∃ q, m = q + 1 := ⟨m - 1, by omega⟩
    refine lp_exit ?_
    unfold fX7_who_L62_L128
    simp only []
    rw [in_0_44, cl_0, h0, if_pos rfl, if_pos (show nI n ≤ nI s by rw [nI_leI (by omega) (by omega)]; omega)]
    have : y = 0 ∨ y = 1 := by omega
    rcases this with rfl | rfl <;> rfl
  | succ j ih =>
    intro s y m hs hm hy
    obtain ⟨m, rfl⟩ : ∃ q, m = q + 1 := ⟨m - 1, by omega⟩
    have hb : fX7_who_L62_L128 x1 x2 (nI r) (nI i) x6 x7 N (nI y, nI s) = some (.inl (nI (if y = 0 then 0 else if E s = true then 1 else 0), nI (s + 1))) := by
      unfold fX7_who_L62_L128
      simp only []
      rw [in_0_44, cl_0, h0, if_pos rfl, if_neg (show ¬ nI n ≤ nI s by rw [nI_leI (by omega) (by omega)]; omega), nI_1]
      by_cases hy0 : y = 0
      · rw [hy0, if_pos (show nI 0 = 0 by decide), if_pos rfl]
        rfl
      · rw [if_neg (show ¬ nI y = 0 from nI_ne0 (by omega) (by omega)), if_neg hy0, lit_nI 40, pk_mul, nI_add, nI_add, in_nI (show s < 8 by omega) (by omega), in_nI (show 40 * r + i + s < 320 by omega) (by omega), cl_nI (by omega), cl_nI (by omega), if_pos rfl, if_pos rfl]
        by_cases he : E s = true
        · rw [if_pos ((hE s (by omega)).mpr he), if_pos he]
          rfl
        · rw [if_neg (fun q => he ((hE s (by omega)).mp q)), if_neg he]
          rfl
    rw [lp_step hb, ih (s + 1) _ m (by omega) (by omega) (by
      split
      · omega
      · split <;> omega)]
    rw [aFst_c]
    by_cases hy0 : y = 0
    · rw [if_pos hy0, if_pos rfl, if_pos hy0]
    · rw [if_neg hy0, if_neg hy0]
      by_cases he : E s = true
      · rw [if_pos he, if_pos he, if_neg (by omega)]
      · rw [if_neg he, if_neg he, if_pos rfl]
end ER
