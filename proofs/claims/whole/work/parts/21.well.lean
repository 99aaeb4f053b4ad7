section SW
variable {M : wq_M} {p : Nat} {v : Nat → Nat}
theorem WF.gr (h : WF v) {g : Nat} (hg : g < v 5) : (1 ≤ v (6 + 6 * g) ∧ v (6 + 6 * g) ≤ 5) ∧ (1 ≤ v (6 + 6 * g + 1) ∧ v (6 + 6 * g + 1) ≤ 99) ∧ (1 ≤ v (6 + 6 * g + 2) ∧ v (6 + 6 * g + 2) ≤ 99) ∧ (1 ≤ v (6 + 6 * g + 3) ∧ v (6 + 6 * g + 3) ≤ 99) ∧ (1 ≤ v (6 + 6 * g + 4) ∧ v (6 + 6 * g + 4) ≤ 9) ∧ (1 ≤ v (6 + 6 * g + 5) ∧ v (6 + 6 * g + 5) ≤ 99) := h.2.2.2.2.2.2.1 g hg
theorem WF.ld (h : WF v) {s : Nat} (hs : s < 8) : v (36 + s) ≤ v 5 := h.2.2.2.2.2.2.2.1 s hs
theorem WF.m5 (h : WF v) : v 5 ≤ 5 := h.2.2.2.2.2.1.2
theorem WF.n8 (h : WF v) : v 0 ≤ 8 := h.1.2
theorem WF.ldg (h : WF v) {s : Nat} (hs : s < 8) (hz : ¬ v (36 + s) = 0) : v (36 + s) - 1 < v 5 := by
  have := h.ld hs
  omega
theorem aHf_le (h : WF v) {s : Nat} (hs : s < 8) : aHf v s ≤ 9 := by
  unfold aHf
  split
  · omega
  · exact (h.gr (h.ldg hs ‹_›)).2.2.2.2.1.2
theorem aPr_le (h : WF v) {s : Nat} (hs : s < 8) : aPr v s ≤ 99 := by
  unfold aPr
  split
  · omega
  · exact (h.gr (h.ldg hs ‹_›)).2.2.2.2.2.2
theorem sSum_le {f : Nat → Nat} {k B : Nat} : ∀ {j : Nat}, (∀ i, i < j → f (k + i) ≤ B) → sSum f k j ≤ B * j
  | 0, _ => Nat.zero_le _
  | j + 1, h => by
    have h1 := sSum_le (j := j) (fun i hi => h i (by omega))
    have h2 := h j (by omega)
    show sSum f k j + f (k + j) ≤ B * (j + 1)
    rw [Nat.mul_succ]
    omega
theorem aHang_le (h : WF v) {s : Nat} : aHang v s ≤ 72 := by
  unfold aHang
  have h8 := h.n8
  have := sSum_le (f := aHf v) (k := s) (B := 9) (j := v 0 - s) (fun i hi => aHf_le h (by omega))
  omega
theorem aCost_le (h : WF v) : aCost v ≤ 792 := by
  unfold aCost
  have h8 := h.n8
  have := sSum_le (f := aPr v) (k := 0) (B := 99) (j := v 0) (fun i hi => aPr_le h (by omega))
  omega
theorem R_sum (hR : RepA (M.1 p) v) (h : WF v) {s i : Nat} (hs : s + i < v 0) (a : Nat) : fX7_hangs_L4 p M (nI a, nI (s + i)) = some (.inl (nI (a + aHf v (s + i)), nI (s + i + 1))) := by
  have h8 := h.n8
  have hl := h.ld (s := s + i) (by omega)
  have hm := h.m5
  unfold fX7_hangs_L4
  simp only [in_0_44, cl_0, hR.1 0 (by omega), if_true]
  rw [if_neg (by rw [nI_leI (by omega) (by omega)]; omega), lit_nI 36, nI_add, in_nI (by omega) (by omega), cl_nI (by omega), hR.2 _ (by omega)]
  simp only [if_true]
  by_cases hz : v (36 + (s + i)) = 0
  · rw [if_neg (by rw [ld_ge0 (by omega)]; exact fun z => z hz)]
    simp only [aHf, hz, if_true, Nat.add_zero, nI_1, Int32.add_zero]
  · rw [if_pos (by rw [ld_ge0 (by omega)]; exact hz), ld_of hz, lit_nI 4, R_of hR (by omega) (by omega)]
    simp only [aHf, hz, if_false, nI_1, nI_add, Option.bind_some]
theorem R_hangs (hR : RepA (M.1 p) v) (h : WF v) {s : Nat} (hs : s ≤ v 0) : fX7_hangs p (nI s) M = some (nI (aHang v s)) := by
  have h8 := h.n8
  unfold fX7_hangs
  have key := lp_run (body := fX7_hangs_L4 p M) (fun i => (nI (sSum (aHf v) s i), nI (s + i))) (v 0 - s) (y := nI (aHang v s)) (n := wq_FU) (fun i hi => R_sum hR h (by omega) _) (by
    unfold fX7_hangs_L4
    simp only [in_0_44, cl_0, hR.1 0 (by omega), if_true]
    rw [if_pos (by rw [nI_leI (by omega) (by omega)]; omega)]
    rfl) (FU_gt (by omega))
  rw [show ((0 : Int32), nI s) = (fun i => (nI (sSum (aHf v) s i), nI (s + i))) 0 from rfl, key]
  rfl
theorem lp_step {α β : Type} {body : α → Option (α ⊕ β)} {s s1 : α} {n : Nat} (h : body s = some (.inl s1)) : wq_lp body (n + 1) s = wq_lp body n s1 := by simp [wq_lp, h]
theorem lp_exit {α β : Type} {body : α → Option (α ⊕ β)} {s : α} {y : β} {n : Nat} (h : body s = some (.inr y)) : wq_lp body (n + 1) s = some y := by simp [wq_lp, h]
theorem sub_pos0 {a b : Nat} (ha : a < 2 ^ 30) (hb : b < 2 ^ 30) : (if 0 < nI a - nI b then nI a - nI b else 0) = nI (a - b) := by
  have e : (nI a - nI b).toInt = (a : Int) - b := pk_sub_toInt ha hb
  by_cases h : b < a
  · rw [if_pos (by rw [Int32.lt_iff_toInt_lt, e, show (0 : Int32).toInt = 0 by decide]; omega), pk_sub (by omega)]
  · rw [if_neg (by rw [Int32.lt_iff_toInt_lt, e, show (0 : Int32).toInt = 0 by decide]; omega), show a - b = 0 by omega]
    rfl
theorem sub_ge0 {a b : Nat} (ha : a < 2 ^ 30) (hb : b < 2 ^ 30) : (if 0 ≤ nI a - nI b then some (nI a - nI b) else some 0) = some (nI (a - b)) := by
  have e : (nI a - nI b).toInt = (a : Int) - b := pk_sub_toInt ha hb
  by_cases h : b ≤ a
  · rw [if_pos (by rw [Int32.le_iff_toInt_le, e, show (0 : Int32).toInt = 0 by decide]; omega), pk_sub (by omega)]
  · rw [if_neg (by rw [Int32.le_iff_toInt_le, e, show (0 : Int32).toInt = 0 by decide]; omega), show a - b = 0 by omega]
    rfl
theorem lB_b (h : WF v) {s : Nat} (hs : s < 8) : v 4 * s ≤ 140 := by
  have h4 : v 4 ≤ 20 := h.2.2.2.2.1
  have := Nat.mul_le_mul h4 (show s ≤ 7 by omega)
  omega
theorem lC_b (h : WF v) {s : Nat} (hs : s < 8) : v 2 * (s + 1) ≤ 320 := by
  have h2 : v 2 ≤ 40 := h.2.2.1
  have := Nat.mul_le_mul h2 (show s + 1 ≤ 8 by omega)
  omega
theorem R_burstLoad (hR : RepA (M.1 p) v) (h : WF v) {s : Nat} (hs : s < 8) : fX7_burstLoad p (nI s) M = some (nI (lBurst v s)) := by
  have hb := lB_b h hs
  have h3 : v 3 ≤ 99 := h.2.2.2.1
  unfold fX7_burstLoad lBurst
  simp only [in_3_44, in_4_44, cl_3, cl_4, hR.1 3 (by omega), hR.1 4 (by omega), if_true]
  rw [pk_mul, sub_ge0 (by omega) (by omega)]
theorem R_crushLoad (hR : RepA (M.1 p) v) {s : Nat} : fX7_crushLoad p (nI s) M = some (nI (lCrush v s)) := by
  unfold fX7_crushLoad lCrush
  simp only [in_2_44, cl_2, hR.1 2 (by omega), if_true]
  rw [nI_1, pk_mul]
theorem C_burstLoad (hC : RepC M p v) (h : WF v) {s : Nat} (hs : s < 8) : fX5_burstLoad p (nI s) M = some (nI (lBurst v s)) := by
  have hb := lB_b h hs
  have h3 : v 3 ≤ 99 := h.2.2.2.1
  unfold fX5_burstLoad lBurst
  simp only [in_1_4, in_2_4, cl_1, cl_2, hC.2.2.2.1, hC.2.2.2.2.1, if_true]
  rw [pk_mul, sub_pos0 (by omega) (by omega)]
theorem C_crushLoad (hC : RepC M p v) {s : Nat} : fX5_crushLoad p (nI s) M = some (nI (lCrush v s)) := by
  unfold fX5_crushLoad lCrush
  simp only [in_0_4, cl_0, hC.2.2.1, if_true]
  rw [nI_1, pk_mul]
theorem R_bearsBurst (hR : RepA (M.1 p) v) (h : WF v) {g : Nat} (hg : g < v 5) : fX7_bearsBurst p (nI g) M = some (nI (bBurst v g)) := by
  have hm := h.m5
  have hk := (h.gr hg).1
  unfold fX7_bearsBurst bBurst
  rw [lit_nI 1, lit_nI 0, R_of hR (by omega) (by omega), R_of hR (by omega) (by omega)]
  simp only [Option.bind_some, Nat.add_zero]
  rw [lit_nI 5, lit_nI 10]
  by_cases z : v (6 + 6 * g) = 5
  · rw [if_pos (by rw [z]), if_pos z, nI_add]
  · rw [if_neg (by rw [nI_eq (by omega) (by omega)]; exact z), if_neg z, nI_add]
theorem R_bearsPull (hR : RepA (M.1 p) v) (h : WF v) {g : Nat} (hg : g < v 5) : fX7_bearsPull p (nI g) M = some (nI (bPull v g)) := by
  have hm := h.m5
  have hk := (h.gr hg).1
  have hp := (h.gr hg).2.2.2.1
  unfold fX7_bearsPull bPull
  rw [lit_nI 0, lit_nI 3, R_of hR (by omega) (by omega), R_of hR (by omega) (by omega)]
  simp only [Option.bind_some, Nat.add_zero]
  rw [lit_nI 2]
  by_cases z : v (6 + 6 * g) = 3
  · rw [if_pos (by rw [z]), if_pos z, nI_1, pk_div (by omega) (by omega) (by omega)]
  · rw [if_neg (by rw [nI_eq (by omega) (by omega)]; exact z), if_neg z]
theorem bPull_b (h : WF v) {g : Nat} (hg : g < v 5) : 1 ≤ bPull v g ∧ bPull v g ≤ 99 := by
  have hp := (h.gr hg).2.2.2.1
  unfold bPull
  split <;> omega
theorem bDent_b {g pull : Nat} : bDent v g pull ≤ 10 := by
  unfold bDent
  split <;> omega
theorem bBurst_b (h : WF v) {g : Nat} (hg : g < v 5) : 1 ≤ bBurst v g ∧ bBurst v g ≤ 109 := by
  have hp := (h.gr hg).2.1
  unfold bBurst
  split <;> omega
theorem bCrush_b (h : WF v) {g pull : Nat} (hg : g < v 5) : bCrush v g pull ≤ 99 := by
  have hp := (h.gr hg).2.2.1
  unfold bCrush
  split
  · omega
  · have : v (6 + 6 * g + 2) * (10 - (if v (6 + 6 * g) = 2 then bDent v g pull / 2 else bDent v g pull)) ≤ 99 * 10 := Nat.mul_le_mul hp.2 (Nat.sub_le _ _)
    omega
theorem R_bearsCrush (hR : RepA (M.1 p) v) (h : WF v) {g pull : Nat} (hg : g < v 5) (hpl : pull < 10000) : fX7_bearsCrush p (nI g) (nI pull) M = some (nI (bCrush v g pull)) := by
  have hm := h.m5
  have hk := (h.gr hg).1
  have hp := bPull_b h hg
  have hc := (h.gr hg).2.2.1
  have hd := bDent_b (v := v) (g := g) (pull := pull)
  unfold fX7_bearsCrush
  rw [lit_nI 0, lit_nI 2, R_of hR (by omega) (by omega)]
  simp only [Option.bind_some, Nat.add_zero]
  have hJ : ∀ x, x ≤ 10 → fX7_bearsCrush_J45 p (nI g) (nI (v (6 + 6 * g))) (nI x) M = some (nI (v (6 + 6 * g + 2) * (10 - (if v (6 + 6 * g) = 2 then x / 2 else x)) / 10)) := by
    intro x hx
    have hJ2 : ∀ y, y ≤ 10 → fX7_bearsCrush_J61 p (nI g) (nI y) M = some (nI (v (6 + 6 * g + 2) * (10 - y) / 10)) := by
      intro y hy
      have : v (6 + 6 * g + 2) * (10 - y) ≤ 99 * 10 := Nat.mul_le_mul hc.2 (Nat.sub_le _ _)
      unfold fX7_bearsCrush_J61
      rw [lit_nI 2, R_of hR (by omega) (by omega)]
      simp only [Option.bind_some]
      rw [lit_nI 10, pk_sub (by omega), pk_mul, pk_div (by omega) (by omega) (by omega)]
    unfold fX7_bearsCrush_J45
    rw [lit_nI 2]
    by_cases z : v (6 + 6 * g) = 2
    · rw [if_pos (by rw [z]), if_pos z, pk_div (by omega) (by omega) (by omega), hJ2 _ (by omega)]
    · rw [if_neg (by rw [nI_eq (by omega) (by omega)]; exact z), if_neg z, hJ2 _ hx]
  by_cases z : 4 ≤ v (6 + 6 * g)
  · rw [if_neg (by rw [lit_nI 4, nI_ltI (by omega) (by omega)]; omega), R_of hR (by omega) (by omega)]
    simp only [Option.bind_some, bCrush, if_pos z]
  · rw [if_pos (by rw [lit_nI 4, nI_ltI (by omega) (by omega)]; omega), R_bearsPull hR h hg]
    simp only [Option.bind_some, bCrush, if_neg z]
    rw [if_pos (show ¬ nI (bPull v g) = nI 0 from nI_ne0 (by omega) (by omega)), lit_nI 10, pk_mul, pk_div (by omega) (by omega) (by omega)]
    have hq : 10 * pull / bPull v g ≤ 10 * pull := Nat.div_le_self _ _
    unfold bDent
    by_cases z2 : 10 * pull / bPull v g ≤ 10
    · rw [if_pos (by rw [nI_leI (by omega) (by omega)]; exact z2), hJ _ z2]
      simp only [if_pos z2]
    · rw [if_neg (by rw [nI_leI (by omega) (by omega)]; exact z2), hJ _ (by omega)]
      simp only [if_neg z2]
theorem aWould_of {a b c d e f : Nat} : (if a < b then some false else if c < d then some false else if e < f then some false else some true) = some (decide (b ≤ a) && decide (d ≤ c) && decide (f ≤ e)) := by
  by_cases h1 : b ≤ a <;> by_cases h2 : d ≤ c <;> by_cases h3 : f ≤ e <;> simp [h1, h2, h3, Nat.not_lt.mpr, Nat.lt_of_not_le] <;> omega
theorem aWould_of2 {a b c d e f : Nat} : (if a < b then some false else if c < d then some false else if e < f then some false else some true) = some (decide (b ≤ a) && decide (f ≤ e) && decide (d ≤ c)) := by
  by_cases h1 : b ≤ a <;> by_cases h2 : d ≤ c <;> by_cases h3 : f ≤ e <;> simp [h1, h2, h3, Nat.not_lt.mpr, Nat.lt_of_not_le] <;> omega
theorem R_wouldHold (hR : RepA (M.1 p) v) (h : WF v) {s g pull : Nat} (hs : s < 8) (hg : g < v 5) (hpl : pull < 10000) : fX7_wouldHold p (nI s) (nI g) (nI pull) M = some (aWould v s g pull) := by
  have h1 := bBurst_b h hg
  have h2 := bPull_b h hg
  have h3 := bCrush_b h (pull := pull) hg
  have h4 : lBurst v s ≤ 99 := by have h3 : v 3 ≤ 99 := h.2.2.2.1; unfold lBurst; omega
  have h5 : lCrush v s ≤ 320 := lC_b h hs
  unfold fX7_wouldHold aWould
  rw [R_bearsBurst hR h hg, R_burstLoad hR h hs, R_bearsCrush hR h hg hpl, R_crushLoad hR, R_bearsPull hR h hg]
  simp only [Option.bind_some, nI_ltI (show bBurst v g < 2 ^ 31 by omega) (show lBurst v s < 2 ^ 31 by omega), nI_ltI (show bCrush v g pull < 2 ^ 31 by omega) (show lCrush v s < 2 ^ 31 by omega), nI_ltI (show bPull v g < 2 ^ 31 by omega) (show pull < 2 ^ 31 by omega)]
  exact aWould_of2
theorem C_burstBorne (hC : RepC M p v) (h : WF v) {g : Nat} (hg : g < v 5) : fX5_burstBorne p (nI g) M = some (nI (bBurst v g)) := by
  have hm := h.m5
  have hk := (h.gr hg).1
  unfold fX5_burstBorne bBurst
  rw [lit_nI 0, C_figure hC hm hg (by omega)]
  simp only [Option.bind_some, Nat.add_zero]
  rw [in_nI (by omega) (by omega), cl_nI (by omega), hC.2.2.2.2.2.2.1 g hg, lit_nI 5, lit_nI 10]
  simp only [if_true]
  by_cases z : v (6 + 6 * g) = 5
  · rw [if_pos (by rw [z]), if_pos z, nI_add]
  · rw [if_neg (by rw [nI_eq (by omega) (by omega)]; exact z), if_neg z]
    rfl
theorem C_pullBorne (hC : RepC M p v) (h : WF v) {g : Nat} (hg : g < v 5) : fX5_pullBorne p (nI g) M = some (nI (bPull v g)) := by
  have hm := h.m5
  have hk := (h.gr hg).1
  have hp := (h.gr hg).2.2.2.1
  unfold fX5_pullBorne bPull
  rw [lit_nI 2, C_figure hC hm hg (by omega)]
  simp only [Option.bind_some]
  rw [in_nI (by omega) (by omega), cl_nI (by omega), hC.2.2.2.2.2.2.1 g hg, lit_nI 3, show 6 + 6 * g + (1 + 2) = 6 + 6 * g + 3 by omega]
  simp only [if_true]
  by_cases z : v (6 + 6 * g) = 3
  · rw [if_pos (by rw [z]), if_pos z, nI_1, pk_div (by omega) (by omega) (by omega)]
  · rw [if_neg (by rw [nI_eq (by omega) (by omega)]; exact z), if_neg z]
theorem C_dent {a b : Nat} (ha : a < 10000) (hb : 1 ≤ b) (hb2 : b < 10000) : fX5_dent (nI a) (nI b) M = some (nI (if 10 * a / b ≤ 10 then 10 * a / b else 10)) := by
  unfold fX5_dent
  have hq : 10 * a / b ≤ 10 * a := Nat.div_le_self _ _
  rw [lit_nI 1, if_pos (by rw [nI_leI (by omega) (by omega)]; exact hb), if_pos (nI_ne0 (by omega) (by omega)), lit_nI 10, pk_mul, pk_div (by omega) (by omega) (by omega)]
  by_cases z : 10 * a / b < 10
  · rw [if_pos (by rw [nI_ltI (by omega) (by omega)]; exact z), if_pos (by omega)]
  · rw [if_neg (by rw [nI_ltI (by omega) (by omega)]; exact z)]
    split
    · rw [show 10 * a / b = 10 by omega]
    · rfl
theorem C_crushBorne (hC : RepC M p v) (h : WF v) {g pull : Nat} (hg : g < v 5) (hpl : pull < 10000) : fX5_crushBorne p (nI g) (nI pull) M = some (nI (bCrush v g pull)) := by
  have hm := h.m5
  have hk := (h.gr hg).1
  have hp := bPull_b h hg
  have hc := (h.gr hg).2.2.1
  have hd := bDent_b (v := v) (g := g) (pull := pull)
  unfold fX5_crushBorne
  rw [lit_nI 1, C_figure hC hm hg (by omega)]
  simp only [Option.bind_some]
  rw [in_nI (by omega) (by omega), cl_nI (by omega), hC.2.2.2.2.2.2.1 g hg, show 6 + 6 * g + (1 + 1) = 6 + 6 * g + 2 by omega]
  simp only [if_true, lit_nI 4, lit_nI 5, lit_nI 2, nI_eq (show v (6 + 6 * g) < 2 ^ 31 by omega) (show 4 < 2 ^ 31 by omega), nI_eq (show v (6 + 6 * g) < 2 ^ 31 by omega) (show 5 < 2 ^ 31 by omega), nI_eq (show v (6 + 6 * g) < 2 ^ 31 by omega) (show 2 < 2 ^ 31 by omega)]
  by_cases z4 : v (6 + 6 * g) = 4
  · rw [if_pos z4]
    simp only [bCrush, if_pos (show 4 ≤ v (6 + 6 * g) by omega)]
  · rw [if_neg z4]
    by_cases z5 : v (6 + 6 * g) = 5
    · rw [if_pos z5]
      simp only [bCrush, if_pos (show 4 ≤ v (6 + 6 * g) by omega)]
    · rw [if_neg z5, C_pullBorne hC h hg]
      simp only [Option.bind_some]
      rw [C_dent hpl hp.1 (by omega)]
      simp only [Option.bind_some]
      have e : (if 10 * pull / bPull v g ≤ 10 then 10 * pull / bPull v g else 10) = bDent v g pull := rfl
      rw [e, lit_nI 10]
      have hb : ∀ y, v (6 + 6 * g + 2) * (10 - y) ≤ 99 * 10 := fun y => Nat.mul_le_mul hc.2 (Nat.sub_le _ _)
      have hb1 := hb (bDent v g pull / 2)
      have hb2 := hb (bDent v g pull)
      simp only [bCrush, if_neg (show ¬ 4 ≤ v (6 + 6 * g) by omega)]
      by_cases z2 : v (6 + 6 * g) = 2
      · rw [if_pos z2, if_pos z2, pk_div (by omega) (by omega) (by omega), pk_sub (by omega), pk_mul, pk_div (by omega) (by omega) (by omega)]
      · rw [if_neg z2, if_neg z2, pk_sub (by omega), pk_mul, pk_div (by omega) (by omega) (by omega)]
theorem C_wouldHold (hC : RepC M p v) (h : WF v) {s g pull : Nat} (hs : s < 8) (hg : g < v 5) (hpl : pull < 10000) : fX5_wouldHold p (nI s) (nI g) (nI pull) M = some (aWould v s g pull) := by
  have h1 := bBurst_b h hg
  have h2 := bPull_b h hg
  have h3 := bCrush_b h (pull := pull) hg
  have h4 : lBurst v s ≤ 99 := by have h3 : v 3 ≤ 99 := h.2.2.2.1; unfold lBurst; omega
  have h5 : lCrush v s ≤ 320 := lC_b h hs
  unfold fX5_wouldHold aWould
  rw [C_burstBorne hC h hg, C_burstLoad hC h hs, C_crushBorne hC h hg hpl, C_crushLoad hC, C_pullBorne hC h hg]
  simp only [Option.bind_some, nI_ltI (show bBurst v g < 2 ^ 31 by omega) (show lBurst v s < 2 ^ 31 by omega), nI_ltI (show bCrush v g pull < 2 ^ 31 by omega) (show lCrush v s < 2 ^ 31 by omega), nI_ltI (show bPull v g < 2 ^ 31 by omega) (show pull < 2 ^ 31 by omega)]
  exact aWould_of
end SW
