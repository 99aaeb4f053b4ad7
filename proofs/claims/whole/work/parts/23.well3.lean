section SY
variable {M : wq_M} {p : Nat} {v : Nat → Nat}
theorem C_low (hC : RepC M p v) (h : WF v) {t : Nat} (ht : t < 8) : ∀ (k n : Nat), k ≤ 8 → k < n → wq_lp (fX5_sectionLength_L14 p (nI t) M) n (nI k) = some (nI (aLow v (v (36 + t)) k)) := by
  have h8 := h.n8
  have hm := h.m5
  have ht1 := h.ld ht
  intro k
  induction k with
  | zero =>
    intro n hk hn
    obtain ⟨n, rfl⟩ : ∃ n1, n = n1 + 1 := ⟨n - 1, by omega⟩
    refine lp_exit ?_
    unfold fX5_sectionLength_L14
    rw [if_pos (by rw [lit_nI 0, nI_leI (by omega) (by omega)]; omega)]
    rfl
  | succ k ih =>
    intro n hk hn
    obtain ⟨n, rfl⟩ : ∃ n1, n = n1 + 1 := ⟨n - 1, by omega⟩
    have hk1 := h.ld (s := k) (by omega)
    have hb : fX5_sectionLength_L14 p (nI t) M (nI (k + 1)) = if v (36 + k) = v (36 + t) then some (.inl (nI k)) else some (.inr (nI (k + 1))) := by
      unfold fX5_sectionLength_L14
      rw [if_neg (by rw [lit_nI 0, nI_leI (by omega) (by omega)]; omega), nI_pred, in_nI (by omega) (by omega), in_nI (by omega) (by omega), cl_nI (by omega), cl_nI (by omega), hC.2.2.2.2.2.2.2.2 k (by omega), hC.2.2.2.2.2.2.2.2 t ht]
      simp only [if_true, ld_eq (show v (36 + k) < 1000 by omega) (show v (36 + t) < 1000 by omega), pk_m1]
    by_cases z : v (36 + k) = v (36 + t)
    · rw [if_pos z] at hb
      rw [lp_step hb, ih n (by omega) (by omega), aLow, if_pos z]
    · rw [if_neg z] at hb
      rw [lp_exit hb, aLow, if_neg z]
theorem C_up (hC : RepC M p v) (h : WF v) {t : Nat} (ht : t < 8) (x2 : Int32) : ∀ (j k n : Nat), k + j = v 0 → j < n → wq_lp (fX5_sectionLength_L45 p (nI t) x2 M) n (nI k) = some (nI (aUp v (v (36 + t)) k j)) := by
  have h8 := h.n8
  have hm := h.m5
  have ht1 := h.ld ht
  intro j
  induction j with
  | zero =>
    intro k n hk hn
    obtain ⟨n, rfl⟩ : ∃ n1, n = n1 + 1 := ⟨n - 1, by omega⟩
    refine lp_exit ?_
    unfold fX5_sectionLength_L45
    simp only [hC.1]
    rw [if_pos (by rw [nI_leI (by omega) (by omega)]; omega)]
    rfl
  | succ j ih =>
    intro k n hk hn
    obtain ⟨n, rfl⟩ : ∃ n1, n = n1 + 1 := ⟨n - 1, by omega⟩
    have hk1 := h.ld (s := k) (by omega)
    have hb : fX5_sectionLength_L45 p (nI t) x2 M (nI k) = if v (36 + k) = v (36 + t) then some (.inl (nI (k + 1))) else some (.inr (nI k)) := by
      unfold fX5_sectionLength_L45
      simp only [hC.1]
      rw [if_neg (by rw [nI_leI (by omega) (by omega)]; omega), in_nI (by omega) (by omega), in_nI (by omega) (by omega), cl_nI (by omega), cl_nI (by omega), hC.2.2.2.2.2.2.2.2 k (by omega), hC.2.2.2.2.2.2.2.2 t ht]
      simp only [if_true, ld_eq (show v (36 + k) < 1000 by omega) (show v (36 + t) < 1000 by omega), nI_1]
    by_cases z : v (36 + k) = v (36 + t)
    · rw [if_pos z] at hb
      rw [lp_step hb, ih (k + 1) n (by omega) (by omega), aUp, if_pos z]
    · rw [if_neg z] at hb
      rw [lp_exit hb, aUp, if_neg z]
theorem C_sectionLength (hC : RepC M p v) (h : WF v) {s : Nat} (hs : s < v 0) : fX5_sectionLength p (nI s) M = some (nI (aSec v s)) := by
  have h8 := h.n8
  have hm := h.m5
  have hl := h.ld (s := s) (by omega)
  unfold fX5_sectionLength aSec
  rw [in_nI (by omega) (by omega), cl_nI (by omega), hC.2.2.2.2.2.2.2.2 s (by omega)]
  simp only [if_true]
  by_cases hz : v (36 + s) = 0
  · rw [if_pos (by rw [ld_m1 (by omega)]; exact hz), if_pos hz]
    rfl
  · have h1 := aUp_le (v := v) (x := v (36 + s)) (j := v 0 - (s + 1)) (k := s + 1)
    have h2 := aLow_le (v := v) (x := v (36 + s)) (k := s)
    rw [if_neg (by rw [ld_m1 (by omega)]; exact hz), if_neg hz, C_low hC h (by omega) s wq_FU (by omega) (FU_gt (by omega))]
    simp only [Option.bind_some, fX5_sectionLength_J41, nI_1]
    rw [C_up hC h (by omega) _ (v 0 - (s + 1)) (s + 1) wq_FU (by omega) (FU_gt (by omega))]
    simp only [Option.bind_some]
    rw [pk_sub (by omega)]
theorem R_low (hR : RepA (M.1 p) v) (h : WF v) {x : Nat} (hx : x < 1000) (x1 : Int32) : ∀ (k n : Nat), k ≤ 8 → k < n → wq_lp (fX7_sectionOf_L15 p x1 (nI x - 1) M) n (nI k) = some (nI (aLow v x k)) := by
  have h8 := h.n8
  have hm := h.m5
  intro k
  induction k with
  | zero =>
    intro n hk hn
    obtain ⟨n, rfl⟩ : ∃ n1, n = n1 + 1 := ⟨n - 1, by omega⟩
    refine lp_exit ?_
    unfold fX7_sectionOf_L15
    rw [if_pos (by rw [lit_nI 0, nI_leI (by omega) (by omega)]; omega)]
    rfl
  | succ k ih =>
    intro n hk hn
    obtain ⟨n, rfl⟩ : ∃ n1, n = n1 + 1 := ⟨n - 1, by omega⟩
    have hk1 := h.ld (s := k) (by omega)
    have hb : fX7_sectionOf_L15 p x1 (nI x - 1) M (nI (k + 1)) = if v (36 + k) = x then some (.inl (nI k)) else some (.inr (nI (k + 1))) := by
      unfold fX7_sectionOf_L15
      rw [if_neg (by rw [lit_nI 0, nI_leI (by omega) (by omega)]; omega), lit_nI 36, nI_add, show 36 + (k + 1) = 36 + k + 1 by omega, nI_pred, in_nI (by omega) (by omega), cl_nI (by omega), hR.2 k (by omega)]
      simp only [if_true, ld_eq (show v (36 + k) < 1000 by omega) hx, pk_m1]
    by_cases z : v (36 + k) = x
    · rw [if_pos z] at hb
      rw [lp_step hb, ih n (by omega) (by omega), aLow, if_pos z]
    · rw [if_neg z] at hb
      rw [lp_exit hb, aLow, if_neg z]
theorem R_up (hR : RepA (M.1 p) v) (h : WF v) {x : Nat} (hx : x < 1000) (x3 : Int32) : ∀ (j k n : Nat), k + 1 + j = v 0 → j < n → wq_lp (fX7_sectionOf_L40 p (nI x - 1) x3 M) n (nI k) = some (nI (aUp v x (k + 1) j - 1)) := by
  have h8 := h.n8
  have hm := h.m5
  intro j
  induction j with
  | zero =>
    intro k n hk hn
    obtain ⟨n, rfl⟩ : ∃ n1, n = n1 + 1 := ⟨n - 1, by omega⟩
    refine lp_exit ?_
    unfold fX7_sectionOf_L40
    simp only [in_0_44, cl_0, hR.1 0 (by omega), if_true, nI_1]
    rw [if_pos (by rw [nI_leI (by omega) (by omega)]; omega)]
    simp [aUp]
  | succ j ih =>
    intro k n hk hn
    obtain ⟨n, rfl⟩ : ∃ n1, n = n1 + 1 := ⟨n - 1, by omega⟩
    have hk1 := h.ld (s := k + 1) (by omega)
    have hb : fX7_sectionOf_L40 p (nI x - 1) x3 M (nI k) = if v (36 + (k + 1)) = x then some (.inl (nI (k + 1))) else some (.inr (nI k)) := by
      unfold fX7_sectionOf_L40
      simp only [in_0_44, cl_0, hR.1 0 (by omega), if_true, nI_1]
      rw [if_neg (by rw [nI_leI (by omega) (by omega)]; omega), lit_nI 36, nI_add, nI_1, show 36 + k + 1 = 36 + (k + 1) by omega, in_nI (by omega) (by omega), cl_nI (by omega), hR.2 (k + 1) (by omega)]
      simp only [if_true, ld_eq (show v (36 + (k + 1)) < 1000 by omega) hx]
    by_cases z : v (36 + (k + 1)) = x
    · rw [if_pos z] at hb
      rw [lp_step hb, ih (k + 1) n (by omega) (by omega), aUp, if_pos z]
    · rw [if_neg z] at hb
      rw [lp_exit hb, aUp, if_neg z]
      rfl
theorem R_sectionOf (hR : RepA (M.1 p) v) (h : WF v) {s : Nat} (hs : s < v 0) : fX7_sectionOf p (nI s) M = some (nI (aSec v s)) := by
  have h8 := h.n8
  have hm := h.m5
  have hl := h.ld (s := s) (by omega)
  unfold fX7_sectionOf aSec
  rw [lit_nI 36, nI_add, in_nI (by omega) (by omega), cl_nI (by omega), hR.2 s (by omega)]
  simp only [if_true]
  by_cases hz : v (36 + s) = 0
  · rw [if_neg (by rw [ld_ge0 (by omega)]; exact fun z => z hz), if_pos hz]
    rfl
  · have h1 := aUp_le (v := v) (x := v (36 + s)) (j := v 0 - (s + 1)) (k := s + 1)
    have h2 := aLow_le (v := v) (x := v (36 + s)) (k := s)
    rw [if_pos (by rw [ld_ge0 (by omega)]; exact hz), if_neg hz, R_low hR h (by omega) _ s wq_FU (by omega) (FU_gt (by omega))]
    simp only [Option.bind_some, fX7_sectionOf_J37]
    rw [R_up hR h (by omega) _ (v 0 - (s + 1)) s wq_FU (by omega) (FU_gt (by omega))]
    simp only [Option.bind_some]
    rw [pk_sub (by omega), nI_1]
    congr 2
    omega
theorem C_isSound (hC : RepC M p v) (h : WF v) : fX5_isSound p M = some (aSound v) := by
  have h8 := h.n8
  have hL := h.2.1
  unfold fX5_isSound
  rw [C_firstThatFails hC h]
  simp only [Option.bind_some, aFirst]
  cases hf : aFst (aHolds v) 0 (v 0) with
  | some t =>
    have ht := aFst_some hf
    have hne : ¬ nI t = -1000000 := by
      intro e
      have : (nI t).toInt = (-1000000 : Int32).toInt := by rw [e]
      rw [nI_toInt (by omega), show (-1000000 : Int32).toInt = -1000000 by decide] at this
      omega
    simp only [hne, if_false]
    congr 1
    symm
    rw [Bool.eq_false_iff]
    intro z
    have := aAll_iff.mp z t (by omega)
    simp [ht.2.2] at this
  | none =>
    have hn := aFst_none hf
    simp only [if_true]
    have key : ∀ (j s n : Nat), s + j = v 0 → j < n → wq_lp (fX5_isSound_L13 p M) n (nI s) = some (match aFst (fun s => decide (v 1 ≤ aSec v s)) s j with | none => .inr () | some t => .inl false) := by
      intro j
      induction j with
      | zero =>
        intro s n hs hn
        obtain ⟨n, rfl⟩ : ∃ n1, n = n1 + 1 := ⟨n - 1, by omega⟩
        refine lp_exit ?_
        unfold fX5_isSound_L13
        simp only [hC.1]
        rw [if_pos (by rw [nI_leI (by omega) (by omega)]; omega)]
        rfl
      | succ j ih =>
        intro s n hs hn
        obtain ⟨n, rfl⟩ : ∃ n1, n = n1 + 1 := ⟨n - 1, by omega⟩
        have hb : fX5_isSound_L13 p M (nI s) = if v 1 ≤ aSec v s then some (.inl (nI (s + 1))) else some (.inr (.inl false)) := by
          have ha : aSec v s ≤ 8 := by
            unfold aSec
            have h1 := aUp_le (v := v) (x := v (36 + s)) (j := v 0 - (s + 1)) (k := s + 1)
            split <;> omega
          unfold fX5_isSound_L13
          simp only [hC.1]
          rw [if_neg (by rw [nI_leI (by omega) (by omega)]; omega), C_sectionLength hC h (by omega)]
          simp only [Option.bind_some, in_3_4, cl_3, if_true, hC.2.2.2.2.2.1, nI_leI (show v 1 < 2 ^ 31 by omega) (show aSec v s < 2 ^ 31 by omega), nI_1]
        by_cases z : v 1 ≤ aSec v s
        · rw [if_pos z] at hb
          rw [lp_step hb, ih (s + 1) n (by omega) (by omega)]
          simp only [aFst, z, decide_true, if_true]
        · rw [if_neg z] at hb
          rw [lp_exit hb]
          simp only [aFst, z, decide_false]
          rfl
    rw [show (0 : Int32) = nI 0 from rfl, key (v 0) 0 wq_FU (by omega) (FU_gt (by omega))]
    cases hf2 : aFst (fun s => decide (v 1 ≤ aSec v s)) 0 (v 0) with
    | some t =>
      have ht := aFst_some hf2
      simp only [Option.bind_some, Sum.elim_inl]
      congr 1
      symm
      rw [aSound, Bool.eq_false_iff]
      intro z
      have := aAll_iff.mp z t (by omega)
      simp only [Bool.and_eq_true] at this
      rw [ht.2.2] at this
      exact absurd this.2 (by decide)
    | none =>
      have hn2 := aFst_none hf2
      simp only [Option.bind_some, Sum.elim_inr]
      congr 1
      symm
      rw [aSound, aAll_iff]
      intro i hi
      have a1 := hn i hi
      have a2 := hn2 i hi
      rw [Nat.zero_add] at a1 a2
      simp only [a1, a2, Bool.and_self]
theorem R_isSound (hR : RepA (M.1 p) v) (h : WF v) : fX7_isSound p M = some (aSound v) := by
  have h8 := h.n8
  have hL := h.2.1
  unfold fX7_isSound
  have key := lp_run (body := fX7_isSound_L4 p M) (fun i => (wq_b (aAll (fun s => aHolds v s && decide (v 1 ≤ aSec v s)) i), nI i)) (v 0) (y := wq_b (aSound v)) (n := wq_FU) (fun i hi => by
    have ha : aSec v i ≤ 8 := by
      unfold aSec
      have h1 := aUp_le (v := v) (x := v (36 + i)) (j := v 0 - (i + 1)) (k := i + 1)
      split <;> omega
    unfold fX7_isSound_L4
    simp only [in_0_44, cl_0, hR.1 0 (by omega), if_true]
    rw [if_neg (by rw [nI_leI (by omega) (by omega)]; omega), R_holds hR h (by omega), R_sectionOf hR h (by omega)]
    simp only [Option.bind_some, in_1_44, cl_1, hR.1 1 (by omega), if_true, nI_ltI (show aSec v i < 2 ^ 31 by omega) (show v 1 < 2 ^ 31 by omega), nI_1, aAll]
    cases aAll (fun s => aHolds v s && decide (v 1 ≤ aSec v s)) i
    · simp [wq_b]
    · cases aHolds v i
      · simp [wq_b]
      · by_cases z : v 1 ≤ aSec v i
        · simp [wq_b, z, Nat.not_lt.mpr z]
        · simp [wq_b, z, Nat.lt_of_not_le z]) (by
    unfold fX7_isSound_L4
    simp only [in_0_44, cl_0, hR.1 0 (by omega), if_true]
    rw [if_pos (by rw [nI_leI (by omega) (by omega)]; omega)]
    rfl) (FU_gt (by omega))
  rw [show ((1 : Int32), (0 : Int32)) = (fun i => (wq_b (aAll (fun s => aHolds v s && decide (v 1 ≤ aSec v s)) i), nI i)) 0 from rfl, key]
  cases aSound v <;> rfl
theorem C_howManySections (hC : RepC M p v) (h : WF v) : fX5_howManySections p M = some (nI (aSecs v)) := by
  have h8 := h.n8
  have hm := h.m5
  unfold fX5_howManySections
  have key := lp_run (body := fX5_howManySections_L4 p M) (fun i => (nI (sSum (fun s => aB (aSecB v s)) 0 i), nI i)) (v 0) (y := nI (aSecs v)) (n := wq_FU) (fun i hi => by
    have hl := h.ld (s := i) (by omega)
    unfold fX5_howManySections_L4
    simp only [hC.1]
    rw [if_neg (by rw [nI_leI (by omega) (by omega)]; omega), in_nI (by omega) (by omega), cl_nI (by omega), hC.2.2.2.2.2.2.2.2 i (by omega)]
    simp only [if_true, sSum, Nat.zero_add, nI_1]
    by_cases hz : v (36 + i) = 0
    · rw [if_pos (by rw [ld_m1 (by omega)]; exact hz)]
      simp [aSecB, hz, aB]
    · rw [if_neg (by rw [ld_m1 (by omega)]; exact hz)]
      cases i with
      | zero =>
        rw [if_pos (show nI 0 = 0 from rfl)]
        have hz1 : ¬ v 36 = 0 := hz
        simp [aSecB, hz1, aB]
      | succ i =>
        have hl2 := h.ld (s := i) (by omega)
        rw [if_neg (by rw [lit_nI 0, nI_eq (by omega) (by omega)]; omega), nI_pred, in_nI (by omega) (by omega), cl_nI (by omega), hC.2.2.2.2.2.2.2.2 i (by omega)]
        simp only [if_true, ld_eq (show v (36 + i) < 1000 by omega) (show v (36 + (i + 1)) < 1000 by omega)]
        by_cases z : v (36 + i) = v (36 + (i + 1)) <;> simp [aSecB, hz, aB, z]) (by
    unfold fX5_howManySections_L4
    simp only [hC.1]
    rw [if_pos (by rw [nI_leI (by omega) (by omega)]; omega)]
    rfl) (FU_gt (by omega))
  rw [show ((0 : Int32), (0 : Int32)) = (fun i => (nI (sSum (fun s => aB (aSecB v s)) 0 i), nI i)) 0 from rfl, key]
  rfl
theorem R_sections (hR : RepA (M.1 p) v) (h : WF v) : fX7_sections p M = some (nI (aSecs v)) := by
  have h8 := h.n8
  have hm := h.m5
  unfold fX7_sections
  have key := lp_run (body := fX7_sections_L4 p M) (fun i => (nI (sSum (fun s => aB (aSecB v s)) 0 i), nI i)) (v 0) (y := nI (aSecs v)) (n := wq_FU) (fun i hi => by
    have hl := h.ld (s := i) (by omega)
    unfold fX7_sections_L4
    simp only [in_0_44, cl_0, hR.1 0 (by omega), if_true]
    rw [if_neg (by rw [nI_leI (by omega) (by omega)]; omega), lit_nI 36, nI_add, in_nI (by omega) (by omega), cl_nI (by omega), hR.2 i (by omega)]
    simp only [if_true, sSum, Nat.zero_add, nI_1]
    by_cases hz : v (36 + i) = 0
    · rw [if_pos (by rw [ld_lt0 (by omega)]; exact hz)]
      simp [aSecB, hz, aB]
    · rw [if_neg (by rw [ld_lt0 (by omega)]; exact hz)]
      cases i with
      | zero =>
        rw [if_pos (show nI 0 = 0 from rfl)]
        have hz1 : ¬ v 36 = 0 := hz
        simp [aSecB, hz1, aB]
      | succ i =>
        have hl2 := h.ld (s := i) (by omega)
        rw [if_neg (by rw [lit_nI 0, nI_eq (by omega) (by omega)]; omega), show 36 + (i + 1) = 36 + i + 1 by omega, nI_pred, in_nI (by omega) (by omega), cl_nI (by omega), hR.2 i (by omega)]
        simp only [if_true, ld_eq (show v (36 + i) < 1000 by omega) (show v (36 + i + 1) < 1000 by rw [show 36 + i + 1 = 36 + (i + 1) by omega]; omega)]
        by_cases z : v (36 + i) = v (36 + i + 1) <;> simp [aSecB, aB, z, show 36 + (i + 1) = 36 + i + 1 by omega, show ¬ v (36 + i + 1) = 0 from hz]) (by
    unfold fX7_sections_L4
    simp only [in_0_44, cl_0, hR.1 0 (by omega), if_true]
    rw [if_pos (by rw [nI_leI (by omega) (by omega)]; omega)]
    rfl) (FU_gt (by omega))
  rw [show ((0 : Int32), (0 : Int32)) = (fun i => (nI (sSum (fun s => aB (aSecB v s)) 0 i), nI i)) 0 from rfl, key]
  rfl
theorem C_howManyLaid (hC : RepC M p v) (h : WF v) : fX5_howManyLaid p M = some (nI (aLaidN v)) := by
  have h8 := h.n8
  have hm := h.m5
  unfold fX5_howManyLaid
  have key := lp_run (body := fX5_howManyLaid_L4 p M) (fun i => (nI (sSum (fun s => aB (decide (v (36 + s) ≠ 0))) 0 i), nI i)) (v 0) (y := nI (aLaidN v)) (n := wq_FU) (fun i hi => by
    have hl := h.ld (s := i) (by omega)
    unfold fX5_howManyLaid_L4
    simp only [hC.1]
    rw [if_neg (by rw [nI_leI (by omega) (by omega)]; omega), in_nI (by omega) (by omega), cl_nI (by omega), hC.2.2.2.2.2.2.2.2 i (by omega)]
    simp only [if_true, sSum, Nat.zero_add, nI_1, ld_m1 (show v (36 + i) < 1000 by omega)]
    by_cases hz : v (36 + i) = 0 <;> simp [hz, aB]) (by
    unfold fX5_howManyLaid_L4
    simp only [hC.1]
    rw [if_pos (by rw [nI_leI (by omega) (by omega)]; omega)]
    rfl) (FU_gt (by omega))
  rw [show ((0 : Int32), (0 : Int32)) = (fun i => (nI (sSum (fun s => aB (decide (v (36 + s) ≠ 0))) 0 i), nI i)) 0 from rfl, key]
  rfl
end SY
