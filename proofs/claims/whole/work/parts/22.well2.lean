def aUp (v : Nat → Nat) (x : Nat) (k : Nat) : Nat → Nat
  | 0 => k
  | j + 1 => if v (36 + k) = x then aUp v x (k + 1) j else k
def aLow (v : Nat → Nat) (x : Nat) : Nat → Nat
  | 0 => 0
  | k + 1 => if v (36 + k) = x then aLow v x k else k + 1
def aSec (v : Nat → Nat) (s : Nat) : Nat := if v (36 + s) = 0 then 0 else aUp v (v (36 + s)) (s + 1) (v 0 - (s + 1)) - aLow v (v (36 + s)) s
def aFst (P : Nat → Bool) (k : Nat) : Nat → Option Nat
  | 0 => none
  | j + 1 => if P k = true then aFst P (k + 1) j else some k
def aAll (P : Nat → Bool) : Nat → Bool
  | 0 => true
  | j + 1 => aAll P j && P j
def aB (b : Bool) : Nat := if b = true then 1 else 0
theorem wq_b_nI (b : Bool) : wq_b b = nI (aB b) := by cases b <;> rfl
def aMany (v : Nat → Nat) : Nat := sSum (fun s => aB (aHolds v s)) 0 (v 0)
def aLaidN (v : Nat → Nat) : Nat := sSum (fun s => aB (decide (v (36 + s) ≠ 0))) 0 (v 0)
def aSecB (v : Nat → Nat) (s : Nat) : Bool := decide (v (36 + s) ≠ 0) && (decide (s = 0) || decide (v (36 + (s - 1)) ≠ v (36 + s)))
def aSecs (v : Nat → Nat) : Nat := sSum (fun s => aB (aSecB v s)) 0 (v 0)
def aSound (v : Nat → Nat) : Bool := aAll (fun s => aHolds v s && decide (v 1 ≤ aSec v s)) (v 0)
theorem aB_le (b : Bool) : aB b ≤ 1 := by cases b <;> decide
theorem aUp_le {v : Nat → Nat} {x : Nat} : ∀ {j k : Nat}, k ≤ aUp v x k j ∧ aUp v x k j ≤ k + j
  | 0, k => ⟨Nat.le_refl _, Nat.le_refl _⟩
  | j + 1, k => by
    unfold aUp
    split
    · have := aUp_le (v := v) (x := x) (j := j) (k := k + 1)
      omega
    · omega
theorem aLow_le {v : Nat → Nat} {x : Nat} : ∀ {k : Nat}, aLow v x k ≤ k
  | 0 => Nat.le_refl _
  | k + 1 => by
    unfold aLow
    split
    · have := aLow_le (v := v) (x := x) (k := k)
      omega
    · omega
theorem aFst_none {P : Nat → Bool} : ∀ {j k : Nat}, aFst P k j = none → ∀ i, i < j → P (k + i) = true
  | 0, k, _, i, hi => by omega
  | j + 1, k, h, i, hi => by
    unfold aFst at h
    split at h
    · next hP =>
      cases i with
      | zero => exact hP
      | succ i =>
        have := aFst_none h i (by omega)
        rw [show k + (i + 1) = k + 1 + i by omega]
        exact this
    · cases h
theorem aFst_some {P : Nat → Bool} : ∀ {j k t : Nat}, aFst P k j = some t → k ≤ t ∧ t < k + j ∧ P t = false
  | 0, k, t, h => by cases h
  | j + 1, k, t, h => by
    unfold aFst at h
    split at h
    · have := aFst_some h
      exact ⟨by omega, by omega, this.2.2⟩
    · cases h
      refine ⟨by omega, by omega, ?_⟩
      simpa using ‹¬ P k = true›
theorem aAll_iff {P : Nat → Bool} : ∀ {n : Nat}, aAll P n = true ↔ ∀ i, i < n → P i = true
  | 0 => by simp [aAll]
  | n + 1 => by
    rw [aAll, Bool.and_eq_true, aAll_iff]
    constructor
    · rintro ⟨h1, h2⟩ i hi
      rcases Nat.lt_or_ge i n with q | q
      · exact h1 i q
      · rw [show i = n by omega]; exact h2
    · intro h
      exact ⟨fun i hi => h i (by omega), h n (by omega)⟩
theorem sSum_mono {f : Nat → Nat} {k : Nat} : ∀ {a b : Nat}, a ≤ b → sSum f k a ≤ sSum f k b
  | a, 0, h => by rw [show a = 0 by omega]; exact Nat.le_refl _
  | a, b + 1, h => by
    rcases Nat.lt_or_ge b a with q | q
    · rw [show a = b + 1 by omega]; exact Nat.le_refl _
    · have := sSum_mono (f := f) (k := k) (a := a) (b := b) q
      show _ ≤ sSum f k b + f (k + b)
      omega
section SX
variable {M : wq_M} {p : Nat} {v : Nat → Nat}
theorem R_holds (hR : RepA (M.1 p) v) (h : WF v) {s : Nat} (hs : s < v 0) : fX7_holds p (nI s) M = some (aHolds v s) := by
  have h8 := h.n8
  have hl := h.ld (s := s) (by omega)
  have hm := h.m5
  have hh := aHang_le h (s := s)
  unfold fX7_holds aHolds
  rw [lit_nI 36, nI_add, in_nI (by omega) (by omega), cl_nI (by omega), hR.2 _ (by omega)]
  simp only [if_true]
  by_cases hz : v (36 + s) = 0
  · rw [if_pos (by rw [ld_lt0 (by omega)]; exact hz)]
    simp [hz]
  · rw [if_neg (by rw [ld_lt0 (by omega)]; exact hz), R_hangs hR h (by omega), ld_of hz]
    simp only [Option.bind_some]
    rw [R_wouldHold hR h (by omega) (h.ldg (by omega) hz) (by omega)]
    simp only [Option.bind_some]
    cases aWould v s (v (36 + s) - 1) (aHang v s) <;> simp [hz]
theorem C_laidFigure (hC : RepC M p v) (h : WF v) {s k : Nat} (hs : s < 8) (hk : k < 5) : fX5_laidFigure p (nI s) (nI k) M = some (nI (if v (36 + s) = 0 then 0 else v (6 + 6 * (v (36 + s) - 1) + (1 + k)))) := by
  have hl := h.ld (s := s) (by omega)
  have hm := h.m5
  unfold fX5_laidFigure
  rw [in_nI (by omega) (by omega), cl_nI (by omega), hC.2.2.2.2.2.2.2.2 s hs]
  simp only [if_true]
  by_cases hz : v (36 + s) = 0
  · rw [if_pos (by rw [ld_m1 (by omega)]; exact hz), if_pos hz]
    rfl
  · rw [if_neg (by rw [ld_m1 (by omega)]; exact hz), if_neg hz, ld_of hz, C_figure hC hm (h.ldg hs hz) hk]
    rfl
theorem C_sum (hC : RepC M p v) (h : WF v) {k : Nat} (hk : k < 5) : fX5_sumOfLaid p (nI k) M = some (nI (sSum (fun s => if v (36 + s) = 0 then 0 else v (6 + 6 * (v (36 + s) - 1) + (1 + k))) 0 (v 0))) := by
  have h8 := h.n8
  unfold fX5_sumOfLaid
  have key := lp_run (body := fX5_sumOfLaid_L4 p (nI k) M) (fun i => (nI (sSum (fun s => if v (36 + s) = 0 then 0 else v (6 + 6 * (v (36 + s) - 1) + (1 + k))) 0 i), nI i)) (v 0) (y := nI (sSum (fun s => if v (36 + s) = 0 then 0 else v (6 + 6 * (v (36 + s) - 1) + (1 + k))) 0 (v 0))) (n := wq_FU) (fun i hi => by
    unfold fX5_sumOfLaid_L4
    simp only [hC.1]
    rw [if_neg (by rw [nI_leI (by omega) (by omega)]; omega), C_laidFigure hC h (by omega) hk]
    simp only [Option.bind_some, nI_add, nI_1, sSum, Nat.zero_add]) (by
    unfold fX5_sumOfLaid_L4
    simp only [hC.1]
    rw [if_pos (by rw [nI_leI (by omega) (by omega)]; omega)]) (FU_gt (by omega))
  rw [show ((0 : Int32), (0 : Int32)) = (fun i => (nI (sSum (fun s => if v (36 + s) = 0 then 0 else v (6 + 6 * (v (36 + s) - 1) + (1 + k))) 0 i), nI i)) 0 from rfl, key]
  rfl
theorem C_cost (hC : RepC M p v) (h : WF v) : fX5_sumOfLaid p 4 M = some (nI (aCost v)) := C_sum hC h (k := 4) (by omega)
theorem C_heft (hC : RepC M p v) (h : WF v) : fX5_sumOfLaid p 3 M = some (nI (aHang v 0)) := C_sum hC h (k := 3) (by omega)
theorem C_pullLoad (hC : RepC M p v) (h : WF v) {s : Nat} (hs : s < v 0) : fX5_pullLoad p (nI s) M = some (nI (if v (36 + s) = 0 then 0 else aHang v s)) := by
  have h8 := h.n8
  have hl := h.ld (s := s) (by omega)
  have hm := h.m5
  unfold fX5_pullLoad
  rw [in_nI (by omega) (by omega), cl_nI (by omega), hC.2.2.2.2.2.2.2.2 s (by omega)]
  simp only [if_true]
  by_cases hz : v (36 + s) = 0
  · rw [if_pos (by rw [ld_m1 (by omega)]; exact hz), if_pos hz]
    rfl
  · rw [if_neg (by rw [ld_m1 (by omega)]; exact hz), if_neg hz]
    have key := lp_run (body := fX5_pullLoad_L16 p M) (fun i => (nI (sSum (aHf v) s i), nI (s + i))) (v 0 - s) (y := nI (aHang v s)) (n := wq_FU) (fun i hi => by
      unfold fX5_pullLoad_L16
      simp only [hC.1]
      rw [if_neg (by rw [nI_leI (by omega) (by omega)]; omega), lit_nI 3, C_laidFigure hC h (by omega) (by omega)]
      simp only [Option.bind_some, nI_add, sSum, aHf]
      rw [lit_nI 1, nI_add]
      rfl) (by
      unfold fX5_pullLoad_L16
      simp only [hC.1]
      rw [if_pos (by rw [nI_leI (by omega) (by omega)]; omega)]
      rfl) (FU_gt (by omega))
    rw [show ((0 : Int32), nI s) = (fun i => (nI (sSum (aHf v) s i), nI (s + i))) 0 from rfl, key]
    rfl
theorem C_holds (hC : RepC M p v) (h : WF v) {s : Nat} (hs : s < v 0) : fX5_holds p (nI s) M = some (aHolds v s) := by
  have h8 := h.n8
  have hl := h.ld (s := s) (by omega)
  have hm := h.m5
  have hh := aHang_le h (s := s)
  unfold fX5_holds aHolds
  rw [in_nI (by omega) (by omega), cl_nI (by omega), hC.2.2.2.2.2.2.2.2 s (by omega)]
  simp only [if_true]
  by_cases hz : v (36 + s) = 0
  · rw [if_pos (by rw [ld_m1 (by omega)]; exact hz)]
    simp [hz]
  · rw [if_neg (by rw [ld_m1 (by omega)]; exact hz), C_pullLoad hC h hs, ld_of hz, if_neg hz]
    simp only [Option.bind_some]
    rw [C_wouldHold hC h (by omega) (h.ldg (by omega) hz) (by omega)]
    simp only [Option.bind_some]
    cases aWould v s (v (36 + s) - 1) (aHang v s) <;> simp [hz]
theorem C_howManyHold (hC : RepC M p v) (h : WF v) : fX5_howManyHold p M = some (nI (aMany v)) := by
  have h8 := h.n8
  unfold fX5_howManyHold
  have key := lp_run (body := fX5_howManyHold_L4 p M) (fun i => (nI (sSum (fun s => aB (aHolds v s)) 0 i), nI i)) (v 0) (y := nI (aMany v)) (n := wq_FU) (fun i hi => by
    unfold fX5_howManyHold_L4
    simp only [hC.1]
    rw [if_neg (by rw [nI_leI (by omega) (by omega)]; omega), C_holds hC h (by omega)]
    simp only [Option.bind_some, nI_1, sSum, Nat.zero_add]
    cases aHolds v i <;> simp [aB]) (by
    unfold fX5_howManyHold_L4
    simp only [hC.1]
    rw [if_pos (by rw [nI_leI (by omega) (by omega)]; omega)]
    rfl) (FU_gt (by omega))
  rw [show ((0 : Int32), (0 : Int32)) = (fun i => (nI (sSum (fun s => aB (aHolds v s)) 0 i), nI i)) 0 from rfl, key]
  rfl
theorem R_manyHold (hR : RepA (M.1 p) v) (h : WF v) : fX7_manyHold p M = some (nI (aMany v)) := by
  have h8 := h.n8
  unfold fX7_manyHold
  have key := lp_run (body := fX7_manyHold_L4 p M) (fun i => (nI (sSum (fun s => aB (aHolds v s)) 0 i), nI i)) (v 0) (y := nI (aMany v)) (n := wq_FU) (fun i hi => by
    unfold fX7_manyHold_L4
    simp only [in_0_44, cl_0, hR.1 0 (by omega), if_true]
    rw [if_neg (by rw [nI_leI (by omega) (by omega)]; omega), R_holds hR h (by omega)]
    simp only [Option.bind_some, nI_1, sSum, Nat.zero_add]
    cases aHolds v i <;> simp [aB]) (by
    unfold fX7_manyHold_L4
    simp only [in_0_44, cl_0, hR.1 0 (by omega), if_true]
    rw [if_pos (by rw [nI_leI (by omega) (by omega)]; omega)]
    rfl) (FU_gt (by omega))
  rw [show ((0 : Int32), (0 : Int32)) = (fun i => (nI (sSum (fun s => aB (aHolds v s)) 0 i), nI i)) 0 from rfl, key]
  rfl
theorem R_costOf (hR : RepA (M.1 p) v) (h : WF v) : fX7_costOf p M = some (nI (aCost v)) := by
  have h8 := h.n8
  have hm := h.m5
  unfold fX7_costOf
  have key := lp_run (body := fX7_costOf_L4 p M) (fun i => (nI (sSum (aPr v) 0 i), nI i)) (v 0) (y := nI (aCost v)) (n := wq_FU) (fun i hi => by
    have hl := h.ld (s := i) (by omega)
    unfold fX7_costOf_L4
    simp only [in_0_44, cl_0, hR.1 0 (by omega), if_true]
    rw [if_neg (by rw [nI_leI (by omega) (by omega)]; omega), lit_nI 36, nI_add, in_nI (by omega) (by omega), cl_nI (by omega), hR.2 _ (by omega)]
    simp only [if_true, sSum, Nat.zero_add]
    by_cases hz : v (36 + i) = 0
    · rw [if_neg (by rw [ld_ge0 (by omega)]; exact fun z => z hz)]
      simp only [aPr, hz, if_true, Nat.add_zero, nI_1, Int32.add_zero]
    · rw [if_pos (by rw [ld_ge0 (by omega)]; exact hz), ld_of hz, lit_nI 5, R_of hR (by omega) (by omega)]
      simp only [aPr, hz, if_false, nI_1, nI_add, Option.bind_some]) (by
    unfold fX7_costOf_L4
    simp only [in_0_44, cl_0, hR.1 0 (by omega), if_true]
    rw [if_pos (by rw [nI_leI (by omega) (by omega)]; omega)]
    rfl) (FU_gt (by omega))
  rw [show ((0 : Int32), (0 : Int32)) = (fun i => (nI (sSum (aPr v) 0 i), nI i)) 0 from rfl, key]
  rfl
theorem C_first (hC : RepC M p v) (h : WF v) : ∀ (j s n : Nat), s + j = v 0 → j < n → wq_lp (fX5_firstThatFails_L2 p M) n (nI s) = some (match aFst (aHolds v) s j with | none => .inr () | some t => .inl (nI t)) := by
  have h8 := h.n8
  intro j
  induction j with
  | zero =>
    intro s n hs hn
    obtain ⟨n, rfl⟩ : ∃ n1, n = n1 + 1 := ⟨n - 1, by omega⟩
    refine lp_exit ?_
    unfold fX5_firstThatFails_L2
    simp only [hC.1]
    rw [if_pos (by rw [nI_leI (by omega) (by omega)]; omega)]
    rfl
  | succ j ih =>
    intro s n hs hn
    obtain ⟨n, rfl⟩ : ∃ n1, n = n1 + 1 := ⟨n - 1, by omega⟩
    by_cases hh : aHolds v s = true
    · rw [lp_step (s1 := nI (s + 1)), ih (s + 1) n (by omega) (by omega)]
      · simp only [aFst, hh, if_true]
      · unfold fX5_firstThatFails_L2
        simp only [hC.1]
        rw [if_neg (by rw [nI_leI (by omega) (by omega)]; omega), C_holds hC h (by omega)]
        simp only [Option.bind_some, hh, if_true, nI_1]
    · refine lp_exit ?_
      unfold fX5_firstThatFails_L2
      simp only [hC.1]
      rw [if_neg (by rw [nI_leI (by omega) (by omega)]; omega), C_holds hC h (by omega)]
      simp only [Option.bind_some, hh, aFst]
      rfl
def aFirst (v : Nat → Nat) : Int32 := match aFst (aHolds v) 0 (v 0) with
  | none => -1000000
  | some t => nI t
theorem C_firstThatFails (hC : RepC M p v) (h : WF v) : fX5_firstThatFails p M = some (aFirst v) := by
  have h8 := h.n8
  unfold fX5_firstThatFails aFirst
  rw [show (0 : Int32) = nI 0 from rfl, C_first hC h (v 0) 0 wq_FU (by omega) (FU_gt (by omega))]
  cases aFst (aHolds v) 0 (v 0) <;> rfl
theorem R_first (hR : RepA (M.1 4) v) (h : WF v) : ∀ (j s n : Nat), s + j = v 0 → j < n → wq_lp (fX7_firstLoose_L2 M) n (nI s) = some (match aFst (aHolds v) s j with | none => .inr () | some t => .inl (nI t)) := by
  have h8 := h.n8
  intro j
  induction j with
  | zero =>
    intro s n hs hn
    obtain ⟨n, rfl⟩ : ∃ n1, n = n1 + 1 := ⟨n - 1, by omega⟩
    refine lp_exit ?_
    unfold fX7_firstLoose_L2
    simp only [in_0_44, cl_0, hR.1 0 (by omega), if_true]
    rw [if_pos (by rw [nI_leI (by omega) (by omega)]; omega)]
    rfl
  | succ j ih =>
    intro s n hs hn
    obtain ⟨n, rfl⟩ : ∃ n1, n = n1 + 1 := ⟨n - 1, by omega⟩
    by_cases hh : aHolds v s = true
    · rw [lp_step (s1 := nI (s + 1)), ih (s + 1) n (by omega) (by omega)]
      · simp only [aFst, hh, if_true]
      · unfold fX7_firstLoose_L2
        simp only [in_0_44, cl_0, hR.1 0 (by omega), if_true]
        rw [if_neg (by rw [nI_leI (by omega) (by omega)]; omega), R_holds hR h (by omega)]
        simp only [Option.bind_some, hh, if_true, nI_1]
    · refine lp_exit ?_
      unfold fX7_firstLoose_L2
      simp only [in_0_44, cl_0, hR.1 0 (by omega), if_true]
      rw [if_neg (by rw [nI_leI (by omega) (by omega)]; omega), R_holds hR h (by omega)]
      simp only [Option.bind_some, hh, aFst]
      rfl
theorem R_firstLoose (hR : RepA (M.1 4) v) (h : WF v) : fX7_firstLoose M = some (aFirst v) := by
  have h8 := h.n8
  unfold fX7_firstLoose aFirst
  rw [show (0 : Int32) = nI 0 from rfl, R_first hR h (v 0) 0 wq_FU (by omega) (FU_gt (by omega))]
  cases aFst (aHolds v) 0 (v 0) <;> rfl
end SX
