section E6
variable {Mc Mr : wq_M} {v : Nat → Nat}
def puC (M : wq_M) (b : Int32) : wq_M := wq_st (wq_st M 51 (M.1 50 1).toNatClampNeg b) 50 1 ((M.1 50 1) + 1)
def puR (M : wq_M) (b : Int32) : wq_M := wq_st (wq_st M 14 (M.1 0 25).toNatClampNeg b) 0 25 ((M.1 0 25) + 1)
def AQ (M : wq_M) (g : Nat) (v : Nat → Nat) (t : Nat) : Prop := M.2 50 2 = some 20 ∧ M.1 50 3 = nI g ∧ RepC M 20 v ∧ M.1 50 1 = nI t
def AR (M : wq_M) (v : Nat → Nat) (t : Nat) : Prop := RepA (M.1 4) v ∧ M.1 0 25 = nI t
theorem AQ_pu {M : wq_M} {g t : Nat} (h : AQ M g v t) (b : Int32) : AQ (puC M b) g v (t + 1) := by
  obtain ⟨h1, h2, h3, h4⟩ := h
  refine ⟨h1, ?_, RepC_c h3 (fun q a c => ?_), ?_⟩
  · unfold puC
    rw [st_ne2 (by omega), wq_st_ne (by omega)]
    exact h2
  · unfold puC
    rw [wq_st_ne (by omega), wq_st_ne (by omega)]
  · unfold puC
    rw [st_eq, h4, nI_1]
theorem AR_pu {M : wq_M} {t : Nat} (h : AR M v t) (b : Int32) : AR (puR M b) v (t + 1) := by
  obtain ⟨h3, h4⟩ := h
  refine ⟨?_, ?_⟩
  · unfold puR
    rw [wq_st_ne (by omega), wq_st_ne (by omega)]
    exact h3
  · unfold puR
    rw [st_eq, h4, nI_1]
theorem C_bg {M : wq_M} {g t n dp : Nat} (h : AQ M g v t) (ht : t < 16) (hd : dp ≤ 16) (b : Int32) : fX1_begin (n + 1) b (nI dp) M = fX1_begin_J37 (fX1_begin n) b (nI dp) (puC M b) := by
  show fX1_begin_e (fX1_begin n) b (nI dp) M = _
  unfold fX1_begin_e
  rw [if_pos (show nI dp ≤ 16 by rw [lit_nI 16, nI_leI (by omega) (by omega)]; omega), h.2.2.2, if_neg (show ¬ 16 ≤ nI t by rw [lit_nI 16, nI_leI (by omega) (by omega)]; omega), in_nI ht (by omega), wq_st_ne (show 50 ≠ 51 by omega)]
  simp only [if_true, puC, h.2.2.2]
theorem R_bg {M : wq_M} {t : Nat} (h : AR M v t) (ht : t < 16) (b : Int32) : fX7_began b M = some (puR M b) := by
  unfold fX7_began puR
  rw [h.2, if_neg (show ¬ 16 ≤ nI t by rw [lit_nI 16, nI_leI (by omega) (by omega)]; omega), in_nI ht (by omega), wq_st_ne (show 0 ≠ 14 by omega), h.2]
  rfl
theorem C_bf {M : wq_M} {g t : Nat} (h : AQ M g v t) (hm : v 5 ≤ 5) (hg : g < v 5) (hk : v (6 + 6 * g) ≤ 5) (x : Int32) : fX1_bodyFor x M = some (if x = 0 then wq_sf 4 (v (6 + 6 * g)) else wq_sf 5 (v (6 + 6 * g))) := by
  unfold fX1_bodyFor
  rw [h.1]
  simp only [Option.bind_some]
  rw [show wq_okW 20 = true from rfl, h.2.1, in_nI (show g < 5 by omega) (by omega), cl_nI (by omega), show M.1 (20 + 2) g = nI (v (6 + 6 * g)) from h.2.2.1.2.2.2.2.2.2.1 g hg, in_nI (show v (6 + 6 * g) < 6 by omega) (by omega), cl_nI (by omega)]
  simp only [if_true]
  by_cases z : x = 0
  · rw [if_pos z, if_pos z]
  · rw [if_neg z, if_neg z]
theorem C_10 {M : wq_M} {g t n dp : Nat} (h : AQ M g v t) (wf : WF v) (hg : g < v 5) (ht : t < 16) (hd : dp ≤ 16) : fX1_begin (n + 1) 10 (nI dp) M = some (nI (v (6 + 6 * g + 5)), puC M 10) := by
  have h2 := AQ_pu h 10
  rw [C_bg h ht hd]
  unfold fX1_begin_J37
  rw [if_pos rfl, h2.1]
  simp only [Option.bind_some]
  rw [show wq_okW 20 = true from rfl, h2.2.1, show fX5_figure 20 (nI g) 4 (puC M 10) = some (nI (v (6 + 6 * g + (1 + 4)))) from C_figure h2.2.2.1 wf.m5 hg (k := 4) (by omega)]
  rfl
theorem C_20 {M : wq_M} {g t n dp : Nat} (h : AQ M g v t) (ht : t < 16) (hd : dp ≤ 16) : fX1_begin (n + 1) 20 (nI dp) M = some (nI g, puC M 20) := by
  have h2 := AQ_pu h 20
  rw [C_bg h ht hd]
  unfold fX1_begin_J37
  simp only [show ¬ (20 : Int32) = 10 by decide, show ¬ (20 : Int32) = 11 by decide, show ¬ (20 : Int32) = 12 by decide, show ¬ (20 : Int32) = 13 by decide, show ¬ (20 : Int32) = 14 by decide, show ¬ (20 : Int32) = 15 by decide, show ¬ (20 : Int32) = 16 by decide, show ¬ (20 : Int32) = 17 by decide, show ¬ (20 : Int32) = 18 by decide, show ¬ (20 : Int32) = 19 by decide, if_false, if_true, h2.2.1]
theorem C_21 {M : wq_M} {g t n dp : Nat} (h : AQ M g v t) (wf : WF v) (hg : g < v 5) (ht : t + 1 < 16) (hd : dp + 1 ≤ 16) : fX1_begin (n + 2) 21 (nI dp) M = some (nI g + nI (v (6 + 6 * g + 4)), puC (puC M 21) 20) := by
  have h2 := AQ_pu h 21
  have h3 := AQ_pu h2 20
  rw [C_bg h (by omega) (by omega)]
  unfold fX1_begin_J37
  simp only [show ¬ (21 : Int32) = 10 by decide, show ¬ (21 : Int32) = 11 by decide, show ¬ (21 : Int32) = 12 by decide, show ¬ (21 : Int32) = 13 by decide, show ¬ (21 : Int32) = 14 by decide, show ¬ (21 : Int32) = 15 by decide, show ¬ (21 : Int32) = 16 by decide, show ¬ (21 : Int32) = 17 by decide, show ¬ (21 : Int32) = 18 by decide, show ¬ (21 : Int32) = 19 by decide, show ¬ (21 : Int32) = 20 by decide, if_false, if_true, nI_1]
  rw [C_20 h2 ht hd]
  simp only [Option.bind_some]
  rw [h3.1]
  simp only [Option.bind_some]
  rw [show wq_okW 20 = true from rfl, h3.2.1, show fX5_figure 20 (nI g) 3 (puC (puC M 21) 20) = some (nI (v (6 + 6 * g + (1 + 3)))) from C_figure h3.2.2.1 wf.m5 hg (k := 3) (by omega)]
  rfl
theorem C_22 {M : wq_M} {g t n dp : Nat} (h : AQ M g v t) (wf : WF v) (hg : g < v 5) (ht : t + 2 < 16) (hd : dp + 2 ≤ 16) : fX1_begin (n + 3) 22 (nI dp) M = some (nI g + nI (v (6 + 6 * g + 4)) - 1000, puC (puC (puC M 22) 21) 20) := by
  rw [C_bg h (by omega) (by omega)]
  unfold fX1_begin_J37
  simp only [show ¬ (22 : Int32) = 10 by decide, show ¬ (22 : Int32) = 11 by decide, show ¬ (22 : Int32) = 12 by decide, show ¬ (22 : Int32) = 13 by decide, show ¬ (22 : Int32) = 14 by decide, show ¬ (22 : Int32) = 15 by decide, show ¬ (22 : Int32) = 16 by decide, show ¬ (22 : Int32) = 17 by decide, show ¬ (22 : Int32) = 18 by decide, show ¬ (22 : Int32) = 19 by decide, show ¬ (22 : Int32) = 20 by decide, show ¬ (22 : Int32) = 21 by decide, if_false, if_true, nI_1]
  rw [C_21 (AQ_pu h 22) wf hg (by omega) (by omega)]
  rfl
theorem C_24 {M : wq_M} {g t n dp : Nat} (h : AQ M g v t) (wf : WF v) (hg : g < v 5) (ht : t + 2 < 16) (hd : dp + 2 ≤ 16) : fX1_begin (n + 3) 24 (nI dp) M = some ((nI g + nI (v (6 + 6 * g + 4))) * 2, puC (puC (puC M 24) 21) 20) := by
  rw [C_bg h (by omega) (by omega)]
  unfold fX1_begin_J37
  simp only [show ¬ (24 : Int32) = 10 by decide, show ¬ (24 : Int32) = 11 by decide, show ¬ (24 : Int32) = 12 by decide, show ¬ (24 : Int32) = 13 by decide, show ¬ (24 : Int32) = 14 by decide, show ¬ (24 : Int32) = 15 by decide, show ¬ (24 : Int32) = 16 by decide, show ¬ (24 : Int32) = 17 by decide, show ¬ (24 : Int32) = 18 by decide, show ¬ (24 : Int32) = 19 by decide, show ¬ (24 : Int32) = 20 by decide, show ¬ (24 : Int32) = 21 by decide, show ¬ (24 : Int32) = 22 by decide, show ¬ (24 : Int32) = 23 by decide, if_false, if_true, nI_1]
  rw [C_21 (AQ_pu h 24) wf hg (by omega) (by omega)]
  rfl
theorem C_13 {M : wq_M} {g t n dp : Nat} (h : AQ M g v t) (wf : WF v) (hg : g < v 5) (ht : t + 1 < 16) (hd : dp + 1 ≤ 16) : fX1_begin (n + 2) 13 (nI dp) M = some (nI (v (6 + 6 * g + 5)) - 100, puC (puC M 13) 10) := by
  rw [C_bg h (by omega) (by omega)]
  unfold fX1_begin_J37
  simp only [show ¬ (13 : Int32) = 10 by decide, show ¬ (13 : Int32) = 11 by decide, show ¬ (13 : Int32) = 12 by decide, if_false, if_true, nI_1]
  rw [C_10 (AQ_pu h 13) wf hg (by omega) (by omega)]
  rfl
theorem C_14 {M : wq_M} {g t n dp : Nat} (h : AQ M g v t) (wf : WF v) (hg : g < v 5) (ht : t + 2 < 16) (hd : dp + 2 ≤ 16) : fX1_begin (n + 3) 14 (nI dp) M = some ((nI (v (6 + 6 * g + 5)) - 100) * 2, puC (puC (puC M 14) 13) 10) := by
  rw [C_bg h (by omega) (by omega)]
  unfold fX1_begin_J37
  simp only [show ¬ (14 : Int32) = 10 by decide, show ¬ (14 : Int32) = 11 by decide, show ¬ (14 : Int32) = 12 by decide, show ¬ (14 : Int32) = 13 by decide, if_false, if_true, nI_1]
  rw [C_13 (AQ_pu h 14) wf hg (by omega) (by omega)]
  rfl
def mkL (k : Nat) : List Int32 := if k = 1 then [21, 20] else if k = 2 then [24, 21, 20] else if k = 3 then [22, 21, 20] else if k = 4 then [23, 20, 13, 10] else [23, 20, 14, 13, 10]
def szL (k : Nat) : List Int32 := if k = 1 then [11, 10, 21, 20] else if k = 2 then [12, 11, 10, 24, 21, 20] else if k = 3 then [11, 10, 22, 21, 20] else if k = 4 then [13, 10] else [14, 13, 10]
def mkV (v : Nat → Nat) (g : Nat) : Int32 := if v (6 + 6 * g) = 1 then nI g + nI (v (6 + 6 * g + 4)) else if v (6 + 6 * g) = 2 then (nI g + nI (v (6 + 6 * g + 4))) * 2 else if v (6 + 6 * g) = 3 then nI g + nI (v (6 + 6 * g + 4)) - 1000 else if v (6 + 6 * g) = 4 then nI g - (nI (v (6 + 6 * g + 5)) - 100) else nI g - (nI (v (6 + 6 * g + 5)) - 100) * 2
def szV (v : Nat → Nat) (g : Nat) : Int32 := if v (6 + 6 * g) = 1 then nI (v (6 + 6 * g + 5)) + mkV v g else if v (6 + 6 * g) = 2 then -(nI (v (6 + 6 * g + 5)) + mkV v g) else if v (6 + 6 * g) = 3 then nI (v (6 + 6 * g + 5)) + mkV v g else if v (6 + 6 * g) = 4 then nI (v (6 + 6 * g + 5)) - 100 else (nI (v (6 + 6 * g + 5)) - 100) * 2
theorem C_23 {M : wq_M} {g t n dp : Nat} (h : AQ M g v t) (wf : WF v) (hg : g < v 5) (ht : t + 5 < 16) (hd : dp + 4 ≤ 16) (hk : 4 ≤ v (6 + 6 * g)) : fX1_begin (n + 5) 23 (nI dp) M = some (mkV v g, (mkL (v (6 + 6 * g))).foldl puC M) := by
  have hk5 := (wf.gr hg).1.2
  have h2 := AQ_pu h 23
  have h3 := AQ_pu h2 20
  rw [C_bg h (by omega) (by omega)]
  unfold fX1_begin_J37
  simp only [show ¬ (23 : Int32) = 10 by decide, show ¬ (23 : Int32) = 11 by decide, show ¬ (23 : Int32) = 12 by decide, show ¬ (23 : Int32) = 13 by decide, show ¬ (23 : Int32) = 14 by decide, show ¬ (23 : Int32) = 15 by decide, show ¬ (23 : Int32) = 16 by decide, show ¬ (23 : Int32) = 17 by decide, show ¬ (23 : Int32) = 18 by decide, show ¬ (23 : Int32) = 19 by decide, show ¬ (23 : Int32) = 20 by decide, show ¬ (23 : Int32) = 21 by decide, show ¬ (23 : Int32) = 22 by decide, if_false, if_true, nI_1]
  rw [C_20 h2 (by omega) (by omega)]
  simp only [Option.bind_some]
  rw [C_bf h3 wf.m5 hg hk5]
  simp only [Option.bind_some, if_true]
  rcases (show v (6 + 6 * g) = 4 ∨ v (6 + 6 * g) = 5 by omega) with z | z
  · rw [z, show wq_sf 4 4 = 13 from rfl, C_13 h3 wf hg (by omega) (by omega)]
    simp [mkV, mkL, z]
  · rw [z, show wq_sf 4 5 = 14 from rfl, C_14 h3 wf hg (by omega) (by omega)]
    simp [mkV, mkL, z]
theorem C_mark {M : wq_M} {g t n dp : Nat} (h : AQ M g v t) (wf : WF v) (hg : g < v 5) (ht : t + 5 < 16) (hd : dp + 4 ≤ 16) : fX1_begin (n + 5) (wq_sf 5 (v (6 + 6 * g))) (nI dp) M = some (mkV v g, (mkL (v (6 + 6 * g))).foldl puC M) := by
  have hk := (wf.gr hg).1
  rcases (show v (6 + 6 * g) = 1 ∨ v (6 + 6 * g) = 2 ∨ v (6 + 6 * g) = 3 ∨ 4 ≤ v (6 + 6 * g) by omega) with z | z | z | z
  · rw [z, show wq_sf 5 1 = 21 from rfl, C_21 (n := n + 3) h wf hg (by omega) (by omega)]
    simp [mkV, mkL, z]
  · rw [z, show wq_sf 5 2 = 24 from rfl, C_24 (n := n + 2) h wf hg (by omega) (by omega)]
    simp [mkV, mkL, z]
  · rw [z, show wq_sf 5 3 = 22 from rfl, C_22 (n := n + 2) h wf hg (by omega) (by omega)]
    simp [mkV, mkL, z]
  · rw [show wq_sf 5 (v (6 + 6 * g)) = 23 by rcases (show v (6 + 6 * g) = 4 ∨ v (6 + 6 * g) = 5 by omega) with q | q <;> rw [q] <;> rfl]
    exact C_23 h wf hg ht hd z
theorem C_11 {M : wq_M} {g t n dp : Nat} (h : AQ M g v t) (wf : WF v) (hg : g < v 5) (ht : t + 7 < 16) (hd : dp + 6 ≤ 16) : fX1_begin (n + 6) 11 (nI dp) M = some (nI (v (6 + 6 * g + 5)) + mkV v g, ((11 : Int32) :: 10 :: mkL (v (6 + 6 * g))).foldl puC M) := by
  have hk5 := (wf.gr hg).1.2
  have h2 := AQ_pu h 11
  have h3 := AQ_pu h2 10
  rw [C_bg h (by omega) (by omega)]
  unfold fX1_begin_J37
  simp only [show ¬ (11 : Int32) = 10 by decide, if_false, if_true, nI_1]
  rw [C_10 h2 wf hg (by omega) (by omega)]
  simp only [Option.bind_some]
  rw [C_bf h3 wf.m5 hg hk5]
  simp only [Option.bind_some, show ¬ (1 : Int32) = 0 by decide, if_false]
  rw [C_mark h3 wf hg (by omega) (by omega)]
  rfl
theorem C_size {M : wq_M} {g t n dp : Nat} (h : AQ M g v t) (wf : WF v) (hg : g < v 5) (ht : t + 8 < 16) (hd : dp + 7 ≤ 16) : fX1_begin (n + 7) (wq_sf 4 (v (6 + 6 * g))) (nI dp) M = some (szV v g, (szL (v (6 + 6 * g))).foldl puC M) := by
  have hk := (wf.gr hg).1
  rcases (show v (6 + 6 * g) = 1 ∨ v (6 + 6 * g) = 2 ∨ v (6 + 6 * g) = 3 ∨ v (6 + 6 * g) = 4 ∨ v (6 + 6 * g) = 5 by omega) with z | z | z | z | z
  · rw [z, show wq_sf 4 1 = 11 from rfl, C_11 (n := n + 1) h wf hg (by omega) (by omega)]
    simp [szV, szL, mkL, z]
  · rw [z, show wq_sf 4 2 = 12 from rfl, C_bg h (by omega) (by omega)]
    unfold fX1_begin_J37
    simp only [show ¬ (12 : Int32) = 10 by decide, show ¬ (12 : Int32) = 11 by decide, if_false, if_true, nI_1]
    rw [C_11 (AQ_pu h 12) wf hg (by omega) (by omega)]
    simp [szV, szL, mkL, z]
  · rw [z, show wq_sf 4 3 = 11 from rfl, C_11 (n := n + 1) h wf hg (by omega) (by omega)]
    simp [szV, szL, mkL, z]
  · rw [z, show wq_sf 4 4 = 13 from rfl, C_13 (n := n + 5) h wf hg (by omega) (by omega)]
    simp [szV, szL, z]
  · rw [z, show wq_sf 4 5 = 14 from rfl, C_14 (n := n + 4) h wf hg (by omega) (by omega)]
    simp [szV, szL, z]
theorem R_plain {M : wq_M} {g t : Nat} (h : AR M v t) (wf : WF v) (hg : g < v 5) (ht : t < 16) : fX7_plainSize (nI g) M = some (nI (v (6 + 6 * g + 5)), puR M 10) := by
  have hm := wf.m5
  unfold fX7_plainSize
  rw [R_bg h ht]
  simp only [Option.bind_some]
  rw [show fX7_of 4 (nI g) 5 (puR M 10) = _ from R_of (AR_pu h 10).1 (k := 5) (by omega) (by omega)]
  rfl
theorem R_thick {M : wq_M} {g t : Nat} (h : AR M v t) (wf : WF v) (hg : g < v 5) (ht : t + 2 < 16) (hk : 4 ≤ v (6 + 6 * g)) : fX7_thickSize (nI g) M = some (szV v g, (szL (v (6 + 6 * g))).foldl puR M) := by
  have hm := wf.m5
  have hk5 := (wf.gr hg).1.2
  unfold fX7_thickSize
  rw [show fX7_of 4 (nI g) 0 M = _ from R_of h.1 (k := 0) (by omega) (by omega)]
  simp only [Option.bind_some, Nat.add_zero]
  rcases (show v (6 + 6 * g) = 4 ∨ v (6 + 6 * g) = 5 by omega) with z | z
  · rw [z, if_neg (by decide)]
    unfold fX7_thickSize_J18 fX7_thickSize_J29
    rw [if_pos rfl, R_bg h (by omega)]
    simp only [Option.bind_some]
    rw [R_plain (AR_pu h 13) wf hg (by omega)]
    simp [szV, szL, z]
  · rw [z, if_pos (by decide)]
    unfold fX7_thickSize_J18 fX7_thickSize_J29
    rw [if_neg (by decide), R_bg h (by omega)]
    simp only [Option.bind_some]
    rw [R_bg (AR_pu h 14) (by omega)]
    simp only [Option.bind_some]
    rw [R_plain (AR_pu (AR_pu h 14) 13) wf hg (by omega)]
    simp [szV, szL, z, Int32.mul_comm]
theorem R_mark {M : wq_M} {g t : Nat} (h : AR M v t) (wf : WF v) (hg : g < v 5) (ht : t + 5 < 16) : fX7_markOf (nI g) M = some (mkV v g, (mkL (v (6 + 6 * g))).foldl puR M) := by
  have hm := wf.m5
  have hk := (wf.gr hg).1
  unfold fX7_markOf
  rw [show fX7_of 4 (nI g) 0 M = _ from R_of h.1 (k := 0) (by omega) (by omega)]
  simp only [Option.bind_some, Nat.add_zero]
  have hJ : ∀ (N : wq_M) (t' : Nat), AR N v t' → t' + 1 < 16 → ∀ x2, fX7_markOf_J56 (nI g) x2 N = if x2 = 1 then some (nI g + nI (v (6 + 6 * g + 4)), puR (puR N 21) 20) else if x2 = 3 then some (nI g + nI (v (6 + 6 * g + 4)) - 1000, puR (puR N 21) 20) else some (2 * (nI g + nI (v (6 + 6 * g + 4))), puR (puR N 21) 20) := by
    intro N t' hN ht' x2
    unfold fX7_markOf_J56
    rw [R_bg hN (by omega)]
    simp only [Option.bind_some]
    rw [R_bg (AR_pu hN 21) (by omega)]
    simp only [Option.bind_some]
    rw [show fX7_of 4 (nI g) 4 (puR (puR N 21) 20) = _ from R_of (AR_pu (AR_pu hN 21) 20).1 (k := 4) (by omega) (by omega)]
    rfl
  rcases (show v (6 + 6 * g) = 1 ∨ v (6 + 6 * g) = 2 ∨ v (6 + 6 * g) = 3 ∨ 4 ≤ v (6 + 6 * g) by omega) with z | z | z | z
  · rw [z, if_pos (by decide), if_pos (by decide), hJ M t h (by omega), if_pos (by decide)]
    simp [mkV, mkL, z]
  · rw [z, if_pos (by decide), if_neg (by decide), if_neg (by decide)]
    unfold fX7_markOf_J53
    rw [R_bg h (by omega)]
    simp only [Option.bind_some]
    rw [hJ _ (t + 1) (AR_pu h 24) (by omega), if_neg (by decide), if_neg (by decide)]
    simp [mkV, mkL, z, Int32.mul_comm]
  · rw [z, if_pos (by decide), if_neg (by decide), if_pos (by decide)]
    unfold fX7_markOf_J53
    rw [R_bg h (by omega)]
    simp only [Option.bind_some]
    rw [hJ _ (t + 1) (AR_pu h 22) (by omega), if_neg (by decide), if_pos (by decide)]
    simp [mkV, mkL, z]
  · rw [if_neg (show ¬ nI (v (6 + 6 * g)) < 4 by rw [lit_nI 4, nI_ltI (by omega) (by omega)]; omega), R_bg h (by omega)]
    simp only [Option.bind_some]
    rw [R_bg (AR_pu h 23) (by omega)]
    simp only [Option.bind_some]
    rw [R_thick (AR_pu (AR_pu h 23) 20) wf hg (by omega) z]
    rcases (show v (6 + 6 * g) = 4 ∨ v (6 + 6 * g) = 5 by omega) with z | z <;> simp [mkV, mkL, szV, szL, z]
theorem R_size {M : wq_M} {g t : Nat} (h : AR M v t) (wf : WF v) (hg : g < v 5) (ht : t + 8 < 16) : fX7_sizeOf (nI g) M = some (szV v g, (szL (v (6 + 6 * g))).foldl puR M) := by
  have hm := wf.m5
  have hk := (wf.gr hg).1
  unfold fX7_sizeOf
  rw [show fX7_of 4 (nI g) 0 M = _ from R_of h.1 (k := 0) (by omega) (by omega)]
  simp only [Option.bind_some, Nat.add_zero]
  have hJ : ∀ (N : wq_M) (t' : Nat), AR N v t' → t' + 7 < 16 → ∀ x2, fX7_sizeOf_J32 (nI g) x2 N = if x2 = 2 then some (-(nI (v (6 + 6 * g + 5)) + mkV v g), (mkL (v (6 + 6 * g))).foldl puR (puR (puR N 11) 10)) else some (nI (v (6 + 6 * g + 5)) + mkV v g, (mkL (v (6 + 6 * g))).foldl puR (puR (puR N 11) 10)) := by
    intro N t' hN ht' x2
    unfold fX7_sizeOf_J32
    rw [R_bg hN (by omega)]
    simp only [Option.bind_some]
    rw [R_plain (AR_pu hN 11) wf hg (by omega)]
    simp only [Option.bind_some]
    rw [R_mark (AR_pu (AR_pu hN 11) 10) wf hg (by omega)]
    rfl
  rcases (show v (6 + 6 * g) = 1 ∨ v (6 + 6 * g) = 2 ∨ v (6 + 6 * g) = 3 ∨ 4 ≤ v (6 + 6 * g) by omega) with z | z | z | z
  · rw [z, if_pos (by decide), if_neg (by decide), hJ M t h (by omega), if_neg (by decide)]
    simp [szV, szL, mkL, z]
  · rw [z, if_pos (by decide), if_pos (by decide), R_bg h (by omega)]
    simp only [Option.bind_some]
    rw [hJ _ (t + 1) (AR_pu h 12) (by omega), if_pos (by decide)]
    simp [szV, szL, mkL, z]
  · rw [z, if_pos (by decide), if_neg (by decide), hJ M t h (by omega), if_neg (by decide)]
    simp [szV, szL, mkL, z]
  · rw [if_neg (show ¬ nI (v (6 + 6 * g)) < 4 by rw [lit_nI 4, nI_ltI (by omega) (by omega)]; omega), R_thick h wf hg (by omega) z]
    rfl
theorem tr_fold : ∀ (l : List Int32) (C N : wq_M) (t : Nat), t + l.length ≤ 16 → C.1 50 1 = nI t → N.1 0 25 = nI t → (∀ i, i < t → C.1 51 i = N.1 14 i) → iTr (l.foldl puC C) (l.foldl puR N) ∧ (∀ q, q ≠ 50 → q ≠ 51 → (l.foldl puC C).1 q = C.1 q) ∧ (l.foldl puC C).2 = C.2 ∧ (∀ q, q ≠ 0 → q ≠ 14 → (l.foldl puR N).1 q = N.1 q) ∧ ∀ j, j ≠ 25 → (l.foldl puR N).1 0 j = N.1 0 j
  | [], C, N, t, h1, h2, h3, h4 => ⟨⟨t, by simpa using h1, h2, h3, h4⟩, fun _ _ _ => rfl, rfl, fun _ _ _ => rfl, fun _ _ => rfl⟩
  | b :: l, C, N, t, h1, h2, h3, h4 => by
    simp only [List.length_cons] at h1
    have k := tr_fold l (puC C b) (puR N b) (t + 1) (by omega) (by unfold puC; rw [st_eq, h2, nI_1]) (by unfold puR; rw [st_eq, h3, nI_1]) (fun i hi => by
      unfold puC puR
      rw [wq_st_ne (show 51 ≠ 50 by omega), wq_st_ne (show 14 ≠ 0 by omega), h2, h3, cl_nI (by omega)]
      by_cases hit : i = t
      · rw [hit, st_eq, st_eq]
      · rw [st_ne2 hit, st_ne2 hit]
        exact h4 i (by omega))
    refine ⟨k.1, fun q a c => ?_, ?_, fun q a c => ?_, fun j hj => ?_⟩
    · rw [List.foldl_cons, k.2.1 q a c]
      unfold puC
      rw [wq_st_ne a, wq_st_ne c]
    · rw [List.foldl_cons, k.2.2.1]
      rfl
    · rw [List.foldl_cons, k.2.2.2.1 q a c]
      unfold puR
      rw [wq_st_ne a, wq_st_ne c]
    · rw [List.foldl_cons, k.2.2.2.2 j hj]
      unfold puR
      rw [st0_ne hj, wq_st_ne (by omega)]
theorem E_ask (hI : Inv Mc Mr) (x1 x2 : Int32) : ∃ a C N, fX6_ask x1 x2 Mc = some (a, C) ∧ fX7_ask x1 x2 Mr = some (a, N) ∧ Inv C N := by
  unfold fX6_ask fX7_ask
  have hI := Inv_t0 hI
  generalize wq_st Mr 0 0 0 = N at hI ⊢
  obtain ⟨v, hW, h2, h3, h4, h5, h6, h7, h8, h9⟩ := id hI
  rcases grade_cases hW x1 with ⟨e1, e2⟩ | ⟨g, hg, rfl, wf, e1, e2⟩
  · rw [e1, e2]
    exact ⟨_, Mc, N, rfl, rfl, hI⟩
  rw [e1, e2]
  simp only [Option.bind_some, if_true]
  rw [lit_lN 0, lit_lN 1]
  rcases R_inb x2 0 1 (by omega) (by omega) N with ⟨h, e⟩ | ⟨h, e⟩ | ⟨j, j1, j2, rfl, e⟩
  · rw [if_pos (show x2 < 0 from h), e]
    exact ⟨_, Mc, N, rfl, rfl, hI⟩
  · rw [if_neg (hi_f (by omega) h).1, if_neg (show ¬ x2 ≤ 1 from (hi_f (by omega) h).2.2.1), e]
    exact ⟨_, Mc, N, rfl, rfl, hI⟩
  rw [if_neg (show ¬ nI j < 0 from nI_pos (by omega)), if_pos (show nI j ≤ 1 by rw [lit_nI 1, nI_leI (by omega) (by omega)]; omega), e]
  have aq : AQ (wq_st (wq_st (wq_sr Mc 50 2 (some 20)) 50 3 (nI g)) 50 1 0) g v 0 := by
    refine ⟨by simp [wq_st, wq_sr], ?_, RepC_c hW.2.1 (fun q a b => ?_), st_eq⟩
    · rw [st_ne2 (by omega), st_eq]
    · rw [wq_st_ne (by omega), wq_st_ne (by omega)]
      rfl
  have ar : AR (wq_st N 0 25 0) v 0 := ⟨by rw [wq_st_ne (by omega)]; exact hW.2.2, st_eq⟩
  unfold fX1_answer
  rw [C_bf aq wf.m5 hg (wf.gr hg).1.2]
  simp only [Option.bind_some, if_true]
  have fin : ∀ l : List Int32, l.length ≤ 16 → Inv (l.foldl puC (wq_st (wq_st (wq_sr Mc 50 2 (some 20)) 50 3 (nI g)) 50 1 0)) (l.foldl puR (wq_st N 0 25 0)) := by
    intro l hl
    obtain ⟨f1, f2, f3, f4, f5⟩ := tr_fold l (wq_st (wq_st (wq_sr Mc 50 2 (some 20)) 50 3 (nI g)) 50 1 0) (wq_st N 0 25 0) 0 (by omega) st_eq st_eq (fun i hi => absurd hi (Nat.not_lt_zero i))
    have fc : ∀ q, q ≠ 50 → q ≠ 51 → (l.foldl puC (wq_st (wq_st (wq_sr Mc 50 2 (some 20)) 50 3 (nI g)) 50 1 0)).1 q = Mc.1 q := fun q a b => by
      rw [f2 q a b, wq_st_ne a, wq_st_ne a]
      rfl
    have fr : ∀ q, q ≠ 0 → q ≠ 14 → (l.foldl puR (wq_st N 0 25 0)).1 q = N.1 q := fun q a b => by rw [f4 q a b, wq_st_ne a]
    have f0 : ∀ j, j ≠ 25 → (l.foldl puR (wq_st N 0 25 0)).1 0 j = N.1 0 j := fun j a => by rw [f5 j a, st0_ne a]
    refine ⟨v, iWe_c hW (fun q a b => fc q (by omega) (by omega)) (fr 4 (by omega) (by omega)), iAc_c h2 (by rw [fc 47 (by omega) (by omega)]) (fc 48 (by omega) (by omega)) (fc 49 (by omega) (by omega)) (f0 9 (by omega)) (fr 7 (by omega) (by omega)), iRow_c h3 (fun q a b => fc q (by omega) (by omega)) (fr 1 (by omega) (by omega)) (fr 2 (by omega) (by omega)) (fr 3 (by omega) (by omega)), iTp_c h4 (by rw [fc 18 (by omega) (by omega)]) (fc 19 (by omega) (by omega)) (f0 11 (by omega)) (fr 8 (by omega) (by omega)), ?_, ?_, iIm_c h7 (fun q a b => fc q (by omega) (by omega)) (fr 12 (by omega) (by omega)) (fr 13 (by omega) (by omega)), f1, iSr_c h9 ?_⟩
    · unfold iSt
      rw [fc 0 (by omega) (by omega), f0 1 (by omega)]
      exact h5
    · unfold iFl
      rw [fc 18 (by omega) (by omega), f0 18 (by omega)]
      exact h6
    · rw [f3]
      funext k
      simp [wq_st, wq_sr]
  rcases (show j = 0 ∨ j = 1 by omega) with rfl | rfl
  · have c := C_size (n := 33) (dp := 0) aq wf hg (by omega) (by omega)
    rw [show nI 0 = (0 : Int32) from rfl] at c
    rw [if_pos (show nI 0 = 0 from rfl), if_pos (show nI 0 = 0 from rfl), show wq_RF = 33 + 7 from rfl, c]
    rw [R_size ar wf hg (by omega)]
    refine ⟨_, _, _, rfl, rfl, fin _ ?_⟩
    unfold szL
    split <;> (try split) <;> (try split) <;> (try split) <;> decide
  · have c := C_mark (n := 35) (dp := 0) aq wf hg (by omega) (by omega)
    rw [show nI 0 = (0 : Int32) from rfl] at c
    rw [if_neg (show ¬ nI 1 = 0 by decide), if_neg (show ¬ nI 1 = 0 by decide), show wq_RF = 35 + 5 from rfl, c]
    rw [R_mark ar wf hg (by omega)]
    refine ⟨_, _, _, rfl, rfl, fin _ ?_⟩
    unfold mkL
    split <;> (try split) <;> (try split) <;> (try split) <;> decide
end E6
