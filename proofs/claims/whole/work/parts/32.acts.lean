section E8
variable {Mc Mr : wq_M} {v : Nat → Nat}
def cdv (v : Nat → Nat) : Nat → Nat
  | 0 => 0
  | j + 1 => cdv v j * 6 + v (36 + (7 - j))
theorem cdv_le {v : Nat → Nat} (h : ∀ s, s < 8 → v (36 + s) ≤ 5) : ∀ j, j ≤ 8 → cdv v j < 6 ^ j
  | 0, _ => by simp [cdv]
  | j + 1, hj => by
    have h1 := cdv_le h j (by omega)
    have h2 := h (7 - j) (by omega)
    show cdv v j * 6 + v (36 + (7 - j)) < 6 ^ (j + 1)
    rw [Nat.pow_succ]
    omega
theorem C_stringCode {M : wq_M} {p : Nat} (hC : RepC M p v) (h : ∀ s, s < 8 → v (36 + s) ≤ 5) : fX5_stringCode p M = some (nI (cdv v 8)) := by
  unfold fX5_stringCode
  have hst : ∀ i, i < 8 → fX5_stringCode_L5 p M (nI (cdv v i), nI (8 - i) - 1) = some (.inl (nI (cdv v (i + 1)), nI (8 - (i + 1)) - 1)) := by
    intro i hi
    have hb := cdv_le h i (by omega)
    unfold fX5_stringCode_L5
    simp only []
    rw [if_neg (show ¬ nI (8 - i) - 1 < 0 by rw [ld_lt0 (by omega)]; omega), ld_of (show ¬ 8 - i = 0 by omega), show 8 - i - 1 = 7 - i by omega, in_nI (by omega) (by omega), cl_nI (by omega), hC.2.2.2.2.2.2.2.2 (7 - i) (by omega), lit_nI 6, pk_mul]
    simp only [if_true]
    have e1 : nI (cdv v i * 6) + (nI (v (36 + (7 - i))) - 1) + 1 = nI (cdv v (i + 1)) := by
      rw [Int32.add_assoc, Int32.sub_add_cancel, nI_add]
      rfl
    have e2 : nI (7 - i) + -1 = nI (8 - (i + 1)) - 1 := by
      rw [show 8 - (i + 1) = 7 - i by omega, Int32.sub_eq_add_neg]
    rw [e1, e2]
  have key := lp_run (body := fX5_stringCode_L5 p M) (fun i => (nI (cdv v i), nI (8 - i) - 1)) 8 (y := nI (cdv v 8)) (n := wq_FU) hst (by
    unfold fX5_stringCode_L5
    rfl) (FU_gt (by omega))
  rw [show ((0 : Int32), (7 : Int32)) = (fun i => (nI (cdv v i), nI (8 - i) - 1)) 0 from rfl, key]
  rfl
theorem cdv_dig {v : Nat → Nat} (h : ∀ s, s < 8 → v (36 + s) ≤ 5) : cdv v 8 < 1679616 ∧ ∀ s, s < 8 → v (36 + s) = cdv v 8 / 6 ^ s % 6 := by
  have h0 := h 0 (by omega)
  have h1 := h 1 (by omega)
  have h2 := h 2 (by omega)
  have h3 := h 3 (by omega)
  have h4 := h 4 (by omega)
  have h5 := h 5 (by omega)
  have h6 := h 6 (by omega)
  have h7 := h 7 (by omega)
  simp only [Nat.reduceAdd] at h0 h1 h2 h3 h4 h5 h6 h7
  have e : cdv v 8 = (((((((v 43 * 6 + v 42) * 6 + v 41) * 6 + v 40) * 6 + v 39) * 6 + v 38) * 6 + v 37) * 6 + v 36) := by
    simp [cdv]
  rw [e]
  refine ⟨by omega, fun s hs => ?_⟩
  have : s = 0 ∨ s = 1 ∨ s = 2 ∨ s = 3 ∨ s = 4 ∨ s = 5 ∨ s = 6 ∨ s = 7 := by omega
  rcases this with rfl | rfl | rfl | rfl | rfl | rfl | rfl | rfl <;> simp only [Nat.reduceAdd, Nat.reducePow] <;> omega
theorem WF.l5 (h : WF v) : ∀ s, s < 8 → v (36 + s) ≤ 5 := fun s hs => Nat.le_trans (h.ld hs) h.m5
def lds (M : wq_M) (p : Nat) (c i : Nat) : wq_M := (fun q t => if q = p + 4 then (if t < i then nI (c / 6 ^ t % 6) - 1 else M.1 q t) else M.1 q t, M.2)
theorem C_layString (M : wq_M) (p c : Nat) (hc : c < 1679616) : fX5_layString p (nI c) M = some (lds M p c 8) := by
  unfold fX5_layString
  have hst : ∀ i, i < 8 → fX5_layString_L4 p (nI (c / 6 ^ i), nI i, lds M p c i) = some (.inl (nI (c / 6 ^ (i + 1)), nI (i + 1), lds M p c (i + 1))) := by
    intro i hi
    have hle : c / 6 ^ i ≤ c := Nat.div_le_self _ _
    unfold fX5_layString_L4
    simp only []
    rw [if_neg (show ¬ 8 ≤ nI i by rw [lit_nI 8, nI_leI (by omega) (by omega)]; omega), in_nI hi (by omega), cl_nI (by omega), lit_nI 6, pk_rem (by omega) (by omega) (by omega), pk_div (by omega) (by omega) (by omega), nI_1, Nat.div_div_eq_div_mul, ← Nat.pow_succ]
    simp only [if_true]
    congr 4
    unfold wq_st lds
    simp only [Prod.mk.injEq, and_true]
    funext q t
    by_cases hq : q = p + 4
    · simp only [hq, if_true]
      by_cases ht : t = i
      · rw [if_pos ht, if_pos (by omega), ht]
      · by_cases h2 : t < i
        · rw [if_neg ht, if_pos h2, if_pos (by omega)]
        · rw [if_neg ht, if_neg h2, if_neg (by omega)]
    · simp [hq]
  have key := lp_run (body := fX5_layString_L4 p) (fun i => (nI (c / 6 ^ i), nI i, lds M p c i)) 8 (y := lds M p c 8) (n := wq_FU) hst (by
    unfold fX5_layString_L4
    rfl) (FU_gt (by omega))
  rw [show (nI c, (0 : Int32), M) = (fun i => (nI (c / 6 ^ i), nI i, lds M p c i)) 0 by
    simp only [lds, Nat.pow_zero, Nat.div_one]
    rw [show (fun q t => if q = p + 4 then if t < 0 then nI (c / 6 ^ t % 6) - 1 else M.1 q t else M.1 q t) = M.1 by
      funext q t
      by_cases hq : q = p + 4
      · rw [if_pos hq, if_neg (by omega)]
      · rw [if_neg hq]]
    rfl, key]
  rfl
/-- one entry of the well is another -/
def vup (v : Nat → Nat) (k x : Nat) : Nat → Nat := fun j => if j = k then x else v j
theorem vup_s {v : Nat → Nat} {k x : Nat} : vup v k x k = x := by simp [vup]
theorem vup_n {v : Nat → Nat} {k x j : Nat} (h : j ≠ k) : vup v k x j = v j := by simp [vup, h]
theorem Inv_act {C N : wq_M} {v' : Nat → Nat} (hI : Inv Mc Mr) (hw : iWe C N v') (ha : iAc C N v') (hc : ∀ q, q < 20 ∨ (25 ≤ q ∧ q < 47) ∨ 50 ≤ q → C.1 q = Mc.1 q) (hc2 : C.2 = Mc.2) (hr : ∀ q, q ≠ 0 → q ≠ 4 → q ≠ 7 → N.1 q = Mr.1 q) (h0 : ∀ j, j ≠ 9 → N.1 0 j = Mr.1 0 j) : Inv C N := by
  obtain ⟨v, h1, h2, h3, h4, h5, h6, h7, h8, h9⟩ := hI
  refine ⟨v', hw, ha, iRow_c h3 (fun q a b => hc q (by omega)) (hr 1 (by omega) (by omega) (by omega)) (hr 2 (by omega) (by omega) (by omega)) (hr 3 (by omega) (by omega) (by omega)), iTp_c h4 (by rw [hc 18 (by omega)]) (hc 19 (by omega)) (h0 11 (by omega)) (hr 8 (by omega) (by omega) (by omega)), ?_, ?_, iIm_c h7 (fun q a b => hc q (by omega)) (hr 12 (by omega) (by omega) (by omega)) (hr 13 (by omega) (by omega) (by omega)), iTr_c h8 (by rw [hc 50 (by omega)]) (hc 51 (by omega)) (h0 25 (by omega)) (hr 14 (by omega) (by omega) (by omega)), by unfold iSr; rw [hc2]; exact h9⟩
  · unfold iSt
    rw [hc 0 (by omega), h0 1 (by omega)]
    exact h5
  · unfold iFl
    rw [hc 18 (by omega), h0 18 (by omega)]
    exact h6
theorem RepC_lay {M : wq_M} {p s x : Nat} (h : RepC M p v) (hm : v 5 ≤ 5) (hs : s < 8) : RepC (wq_st M (p + 4) s (nI x - 1)) p (vup v (36 + s) x) := by
  obtain ⟨a1, a2, a3, a4, a5, a6, a7, a8, a9⟩ := h
  refine ⟨?_, ?_, ?_, ?_, ?_, ?_, fun g hg => ?_, fun g hg k hk => ?_, fun t ht => ?_⟩
  · rw [wq_st_ne (by omega), vup_n (by omega)]; exact a1
  · rw [wq_st_ne (by omega), vup_n (by omega)]; exact a2
  · rw [wq_st_ne (by omega), vup_n (by omega)]; exact a3
  · rw [wq_st_ne (by omega), vup_n (by omega)]; exact a4
  · rw [wq_st_ne (by omega), vup_n (by omega)]; exact a5
  · rw [wq_st_ne (by omega), vup_n (by omega)]; exact a6
  · rw [vup_n (by omega)] at hg
    rw [wq_st_ne (by omega), a7 g hg]
    by_cases e : 6 + 6 * g = 36 + s
    · exact absurd hg (by omega)
    · rw [vup_n e]
  · rw [vup_n (by omega)] at hg
    rw [wq_st_ne (by omega), a8 g hg k hk]
    by_cases e : 6 + 6 * g + (1 + k) = 36 + s
    · exact absurd hg (by omega)
    · rw [vup_n e]
  · by_cases e : t = s
    · subst e
      rw [st_eq, vup_s]
    · rw [st_ne2 e, vup_n (by omega)]
      exact a9 t ht
theorem RepA_lay {f : Nat → Int32} {s x : Nat} (h : RepA f v) (hs : s < 8) : RepA (upd f (36 + s) (nI x - 1)) (vup v (36 + s) x) := by
  refine ⟨fun k hk => ?_, fun t ht => ?_⟩
  · rw [pk_un (by omega), vup_n (by omega)]
    exact h.1 k hk
  · by_cases e : t = s
    · subst e
      rw [pk_us, vup_s]
    · rw [pk_un (by omega), vup_n (by omega)]
      exact h.2 t ht
theorem WF_lay (h : WF v) {s x : Nat} (hs : s < v 0) (hx : x ≤ v 5) : WF (vup v (36 + s) x) := by
  have h8 := h.n8
  have hm := h.m5
  obtain ⟨w1, w2, w3, w4, w5, w6, w7, w8, w9⟩ := h
  refine ⟨?_, ?_, ?_, ?_, ?_, ?_, fun g hg => ?_, fun t ht => ?_, fun t h1 h2 => ?_⟩
  · rw [vup_n (by omega)]; exact w1
  · rw [vup_n (by omega)]; exact w2
  · rw [vup_n (by omega)]; exact w3
  · rw [vup_n (by omega)]; exact w4
  · rw [vup_n (by omega)]; exact w5
  · rw [vup_n (by omega)]; exact w6
  · rw [vup_n (by omega)] at hg
    rw [vup_n (by omega), vup_n (by omega), vup_n (by omega), vup_n (by omega), vup_n (by omega), vup_n (by omega)]
    exact w7 g hg
  · rw [vup_n (show 5 ≠ 36 + s by omega)]
    by_cases e : t = s
    · subst e
      rw [vup_s]; exact hx
    · rw [vup_n (by omega)]; exact w8 t ht
  · rw [vup_n (show 0 ≠ 36 + s by omega)] at h1
    rw [vup_n (by omega)]
    exact w9 t h1 h2
theorem Und_lay (h : WF v) {s x : Nat} : Und 9 (nI (cdv v 8)) (vup v (36 + s) x) v := by
  have hd := cdv_dig h.l5
  exact Or.inl ⟨rfl, ⟨cdv v 8, rfl, hd.1, hd.2⟩, fun k hk => by rw [vup_n (by omega)]⟩
theorem E_layJ (hI : Inv Mc Mr) (hW : iWe Mc Mr v) (hA : iAc Mc Mr v) (wf : WF v) {s x : Nat} (hs : s < v 0) (hx : x ≤ v 5) : ∃ a C N, fX6_lay_J24 (nI s) (nI x - 1) Mc = some (a, C) ∧ fX7_lay_J29 (nI s) (nI x - 1) Mr = some (a, N) ∧ Inv C N := by
  have h8 := wf.n8
  have hm := wf.m5
  have hl := wf.ld (s := s) (by omega)
  unfold fX6_lay_J24 fX7_lay_J29
  rw [lit_nI 36, nI_add, in_nI (show s < 8 by omega) (by omega), in_nI (show 36 + s < 44 by omega) (by omega), cl_nI (by omega), cl_nI (by omega), show Mc.1 24 s = nI (v (36 + s)) - 1 from hW.2.1.2.2.2.2.2.2.2.2 s (by omega), hW.2.2.2 s (by omega)]
  simp only [if_true]
  by_cases hz : nI (v (36 + s)) - 1 = nI x - 1
  · rw [if_pos hz, if_pos hz]
    exact ⟨_, Mc, Mr, rfl, rfl, hI⟩
  · rw [if_neg hz, if_neg hz, C_stringCode hW.2.1 wf.l5]
    obtain ⟨C, N, f1, f2, f3, f4, f5⟩ := keep_both hA hW.2.2 wf 9 (nI (cdv v 8))
    simp only [Option.bind_some, f1, f2]
    refine ⟨_, _, _, rfl, rfl, Inv_act hI (v' := vup v (36 + s) x) ⟨Or.inr (WF_lay wf hs hx), ?_, ?_⟩ (f5 _ (WF_lay wf hs hx) (Und_lay wf) _ _ (by rw [wq_st_ne (by omega)]) (wq_st_ne (by omega)) (wq_st_ne (by omega)) (by rw [wq_st_ne (by omega)]) (wq_st_ne (by omega))) (fun q hq => ?_) ?_ (fun q a b c => ?_) (fun j hj => ?_)⟩
    · exact RepC_lay (p := 20) (RepC_c hW.2.1 (fun q a b => f3.1 q (by omega) (by omega) (by omega))) hm (by omega)
    · rw [wq_st_self]
      exact RepA_lay (by rw [f4.1 4 (by omega) (by omega)]; exact hW.2.2) (by omega)
    · rw [wq_st_ne (by omega), f3.1 q (by omega) (by omega) (by omega)]
    · exact f3.2
    · rw [wq_st_ne b, f4.1 q a c]
    · rw [wq_st_ne (by omega), f4.2 j hj]
theorem E_lay (hI : Inv Mc Mr) (x1 x2 : Int32) : ∃ a C N, fX6_lay x1 x2 Mc = some (a, C) ∧ fX7_lay x1 x2 Mr = some (a, N) ∧ Inv C N := by
  unfold fX6_lay fX7_lay
  have hI := Inv_t0 hI
  generalize wq_st Mr 0 0 0 = N at hI ⊢
  obtain ⟨v, hW, hA, -⟩ := id hI
  rcases step_cases hW x1 with ⟨e1, e2⟩ | ⟨s, hs, rfl, wf, e1, e2⟩
  · rw [e1, e2]
    exact ⟨_, Mc, N, rfl, rfl, hI⟩
  rw [e1, e2]
  simp only [Option.bind_some, if_true]
  by_cases z : x2 = -1
  · rw [if_pos z, if_pos z, z, show (-1 : Int32) = nI 0 - 1 by decide]
    exact E_layJ hI hW hA wf hs (by omega)
  · rw [if_neg z, if_neg z]
    rcases grade_cases hW x2 with ⟨e1, e2⟩ | ⟨g, hg, rfl, -, e1, e2⟩
    · rw [e1, e2]
      exact ⟨_, Mc, N, rfl, rfl, hI⟩
    · rw [e1, e2]
      simp only [Option.bind_some, if_true]
      rw [← nI_pred g]
      exact E_layJ hI hW hA wf hs (by omega)
end E8
