section EP
variable {v : Nat → Nat} {ok : Nat → Bool} {M M0 : wq_M} {p be ab wb wa : Nat} {x2 : Int32}
theorem C_grades {j : Nat} (h : TS v ok M0 p be ab wb wa j (fun g' _ _ => g' < 0) M) (hp : pls p be ab wb wa) (wf : WF v) (hj : j < v 0) (hx : ∀ g, g < 5 → (nI g = x2 ↔ ok g = false)) : ∃ M', wq_lp (fX4_find_L53_L64 p x2 (nI (v 0 - 1 - j))) wq_FU (0, M) = some M' ∧ TS v ok M0 p be ab wb wa j (fun g' _ _ => g' < v 5) M' := by
  have hm := wf.m5
  refine lp_inv (body := fX4_find_L53_L64 p x2 (nI (v 0 - 1 - j))) (fun n z => ∃ g, z.1 = nI g ∧ n + g = v 5 ∧ TS v ok M0 p be ab wb wa j (fun g' _ _ => g' < g) z.2) _ ?_ (v 5) wq_FU (0, M) ⟨0, rfl, rfl, h⟩ (FU_gt (by omega))
  rintro n ⟨x, M⟩ ⟨g, q1, q2, q4⟩
  simp only at q1 q4
  subst q1
  obtain ⟨a1, a2, a3, a4, a5, a6, a7⟩ := id q4.1
  unfold fX4_find_L53_L64
  simp only []
  rw [a7.2.1]
  by_cases hz : n = 0
  · left
    have : g = v 5 := by omega
    subst this
    exact ⟨M, by rw [if_pos (show nI (v 5) ≤ nI (v 5) by rw [nI_leI (by omega) (by omega)]; omega)], q4⟩
  · right
    obtain ⟨n, rfl⟩ : ∃ i, n = i + 1 := ⟨n - 1, by omega⟩
    rw [if_neg (show ¬ nI (v 5) ≤ nI g by rw [nI_leI (by omega) (by omega)]; omega)]
    by_cases ho : ok g = false
    · rw [if_pos ((hx g (by omega)).mpr ho), nI_1]
      refine ⟨n, _, rfl, rfl, g + 1, rfl, by omega, TS_c q4 (fun g' l k n' z1 z2 z3 z4 z5 => ?_)⟩
      constructor
      · intro z
        omega
      · intro z
        by_cases e : g' = g
        · rw [e, ho] at z3
          exact absurd z3 (by decide)
        · omega
    · have hot : ok g = true := by simpa using ho
      rw [if_neg (fun q => ho ((hx g (by omega)).mp q))]
      obtain ⟨M', e1, e2⟩ := C_layOnAll q4 hp wf hj (show g < v 5 by omega) hot
      rw [e1, nI_1]
      exact ⟨n, _, rfl, rfl, g + 1, rfl, by omega, e2⟩
theorem EB_SB {j : Nat} (i : Nat) (l : List Nat) : EB v ok j (fun g' _ _ => g' < v 5) i l ↔ SB v ok (j + 1) i l := by
  constructor
  · rintro ⟨n, ⟨g, l', k, rfl, h2, h3, h4, h5, h6⟩, h7⟩
    refine ⟨by simp [h2], n, ⟨h3, by rw [h2]; exact h4, ?_⟩, h7⟩
    rcases h6 with h6 | h6
    · exact Or.inl h6.2
    · exact Or.inr ⟨k, h6⟩
  · rintro ⟨h1, n, h2, h3⟩
    cases l with
    | nil => exact absurd h2 (by simp [Mk])
    | cons g l' =>
      obtain ⟨q1, q2, q3⟩ := h2
      have hl : l'.length = j := by simpa using h1
      rw [hl] at q2
      rcases q3 with q3 | ⟨k, q3⟩
      · exact ⟨n, ⟨g, l', 0, rfl, hl, q1, q2, q1.1, Or.inl ⟨rfl, q3⟩⟩, h3⟩
      · exact ⟨n, ⟨g, l', k, rfl, hl, q1, q2, q1.1, Or.inr q3⟩, h3⟩
theorem EW_SW {j : Nat} (i : Nat) (l : List Nat) : EW v ok j (fun g' _ _ => g' < v 5) i l ↔ SW v ok (j + 1) i l := by
  constructor
  · rintro ⟨⟨g, l', k, rfl, h2, h3, h4, h5, h6⟩, h7⟩
    refine ⟨by simp [h2], Or.inr ⟨h3, by rw [h2]; exact h4, ?_⟩, h7⟩
    rcases h6 with h6 | h6
    · exact Or.inl h6.2
    · exact Or.inr ⟨k, h6⟩
  · rintro ⟨h1, h2, h3⟩
    cases l with
    | nil => simp at h1
    | cons g l' =>
      rcases h2 with h2 | ⟨q1, q2, q3⟩
      · simp at h2
      have hl : l'.length = j := by simpa using h1
      rw [hl] at q2
      rcases q3 with q3 | ⟨k, q3⟩
      · exact ⟨⟨g, l', 0, rfl, hl, q1, q2, q1.1, Or.inl ⟨rfl, q3⟩⟩, h3⟩
      · exact ⟨⟨g, l', k, rfl, hl, q1, q2, q1.1, Or.inr q3⟩, h3⟩
/-- what the search leaves alone -/
def F41 (M0 M : wq_M) : Prop := (∀ q, (q < 41 ∨ 47 ≤ q) → M.1 q = M0.1 q) ∧ ∀ q, q ≠ 41 → M.2 q = M0.2 q
def HS (v : Nat → Nat) (ok : Nat → Bool) (M0 : wq_M) (p j : Nat) (M : wq_M) : Prop := ∃ be ab wb wa, pls p be ab wb wa ∧ SM v M p be ab wb wa ∧ Cv v 1095 (M.1 ab) (SB v ok j) ∧ Cv v 73 (M.1 wa) (SW v ok j) ∧ F41 M0 M
theorem C_swap (h : SM v M p be ab wb wa) (hp : pls p be ab wb wa) : ∃ M', fX4_swap M = some M' ∧ SM v M' p ab be wa wb ∧ (∀ i, i < 1095 → M'.1 be i = -1) ∧ (∀ i, i < 73 → M'.1 wb i = -1) ∧ (∀ q, q ≠ be → q ≠ wb → M'.1 q = M.1 q) ∧ ∀ q, q ≠ 41 → M'.2 q = M.2 q := by
  obtain ⟨a1, a2, a3, a4, a5, a6, a7⟩ := h
  obtain ⟨o1, o2, o3, o4, o5, l1, l2, l3, l4⟩ := pls_ok hp
  obtain ⟨hp0, hp1, hp2⟩ := hp
  unfold fX4_swap
  rw [a1]
  simp only [Option.bind_some, o1, if_true]
  rw [a2]
  simp only [Option.bind_some, o2, if_true]
  rw [show (wq_sr (wq_sr M 41 3 (some ab)) 41 4 (some be)).2 41 4 = some be by simp [wq_sr]]
  simp only [Option.bind_some, o1, if_true]
  rw [C_fill _ _ _ (by rw [l1]; omega)]
  simp only [Option.bind_some]
  have k5 : (fill (wq_sr (wq_sr M 41 3 (some ab)) 41 4 (some be)) be (-1)).2 41 5 = some wb := by
    show (wq_sr (wq_sr M 41 3 (some ab)) 41 4 (some be)).2 41 5 = some wb
    simp [wq_sr, a3]
  have k6 : (fill (wq_sr (wq_sr M 41 3 (some ab)) 41 4 (some be)) be (-1)).2 41 6 = some wa := by
    show (wq_sr (wq_sr M 41 3 (some ab)) 41 4 (some be)).2 41 6 = some wa
    simp [wq_sr, a4]
  have k3 : (fill (wq_sr (wq_sr M 41 3 (some ab)) 41 4 (some be)) be (-1)).2 41 3 = some ab := by
    show (wq_sr (wq_sr M 41 3 (some ab)) 41 4 (some be)).2 41 3 = some ab
    simp [wq_sr]
  have k4 : (fill (wq_sr (wq_sr M 41 3 (some ab)) 41 4 (some be)) be (-1)).2 41 4 = some be := by
    show (wq_sr (wq_sr M 41 3 (some ab)) 41 4 (some be)).2 41 4 = some be
    simp [wq_sr]
  have k7 : (fill (wq_sr (wq_sr M 41 3 (some ab)) 41 4 (some be)) be (-1)).2 41 7 = some p := by
    show (wq_sr (wq_sr M 41 3 (some ab)) 41 4 (some be)).2 41 7 = some p
    simp [wq_sr, a5]
  have kq : ∀ q, q ≠ 41 → (fill (wq_sr (wq_sr M 41 3 (some ab)) 41 4 (some be)) be (-1)).2 q = M.2 q := fun q hq => by
    show (wq_sr (wq_sr M 41 3 (some ab)) 41 4 (some be)).2 q = M.2 q
    rw [wq_sr_ne hq, wq_sr_ne hq]
  have kf : ∀ q, q ≠ be → (fill (wq_sr (wq_sr M 41 3 (some ab)) 41 4 (some be)) be (-1)).1 q = M.1 q := fun q hq => by
    rw [fill_ne hq]
    rfl
  have kb : ∀ i, i < 1095 → (fill (wq_sr (wq_sr M 41 3 (some ab)) 41 4 (some be)) be (-1)).1 be i = -1 := fun i hi => fill_at (by rw [l1]; exact hi)
  generalize fill (wq_sr (wq_sr M 41 3 (some ab)) 41 4 (some be)) be (-1) = K at k3 k4 k5 k6 k7 kq kf kb
  rw [k5]
  simp only [Option.bind_some, o3, if_true]
  rw [k6]
  simp only [Option.bind_some, o4, if_true]
  rw [show (wq_sr (wq_sr K 41 5 (some wa)) 41 6 (some wb)).2 41 6 = some wb by simp [wq_sr]]
  simp only [Option.bind_some, o3, if_true]
  rw [C_fill _ _ _ (by rw [l3]; omega)]
  simp only [Option.bind_some]
  have hfn : ∀ q, q ≠ wb → (fill (wq_sr (wq_sr K 41 5 (some wa)) 41 6 (some wb)) wb (-1)).1 q = K.1 q := fun q hq => by
    rw [fill_ne hq]
    rfl
  refine ⟨_, rfl, ⟨?_, ?_, ?_, ?_, ?_, ?_, ?_⟩, fun i hi => by rw [hfn be (by omega)]; exact kb i hi, fun i hi => fill_at (by rw [l3]; exact hi), fun q x y => by rw [hfn q y, kf q x], fun q hq => ?_⟩
  · show (wq_sr (wq_sr K 41 5 (some wa)) 41 6 (some wb)).2 41 3 = some ab
    simp [wq_sr, k3]
  · show (wq_sr (wq_sr K 41 5 (some wa)) 41 6 (some wb)).2 41 4 = some be
    simp [wq_sr, k4]
  · show (wq_sr (wq_sr K 41 5 (some wa)) 41 6 (some wb)).2 41 5 = some wa
    simp [wq_sr]
  · show (wq_sr (wq_sr K 41 5 (some wa)) 41 6 (some wb)).2 41 6 = some wb
    simp [wq_sr]
  · show (wq_sr (wq_sr K 41 5 (some wa)) 41 6 (some wb)).2 41 7 = some p
    simp [wq_sr, k7]
  · rw [hfn 41 (by omega), kf 41 (by omega)]
    exact a6
  · exact RepC_c a7 (fun q x y => by rw [hfn q (by omega), kf q (by omega)])
  · show (wq_sr (wq_sr K 41 5 (some wa)) 41 6 (some wb)).2 q = M.2 q
    rw [wq_sr_ne hq, wq_sr_ne hq, kq q hq]
theorem C_steps (wf : WF v) (hx : ∀ g, g < 5 → (nI g = x2 ↔ ok g = false)) (h : HS v ok M0 p 0 M) : ∃ M', wq_lp (fX4_find_L53 p x2) wq_FU (nI (v 0) - 1, M) = some M' ∧ HS v ok M0 p (v 0) M' := by
  have h8 := wf.n8
  refine lp_inv (body := fX4_find_L53 p x2) (fun n z => z.1 = nI n - 1 ∧ n ≤ v 0 ∧ HS v ok M0 p (v 0 - n) z.2) _ ?_ (v 0) wq_FU (nI (v 0) - 1, M) ⟨rfl, by omega, by rw [Nat.sub_self]; exact h⟩ (FU_gt (by omega))
  rintro n ⟨x, M⟩ ⟨q1, q2, q3⟩
  simp only at q1 q3
  subst q1
  unfold fX4_find_L53
  simp only []
  by_cases hz : n = 0
  · left
    subst hz
    exact ⟨M, rfl, q3⟩
  · right
    obtain ⟨n, rfl⟩ : ∃ i, n = i + 1 := ⟨n - 1, by omega⟩
    rw [nI_pred, if_neg (nI_pos (by omega))]
    obtain ⟨be, ab, wb, wa, r1, r2, r3, r4, r5⟩ := q3
    obtain ⟨M1, s1, s2, s3, s4, s5, s6⟩ := C_swap r2 r1
    rw [s1]
    simp only [Option.bind_some]
    obtain ⟨hp0, hp1, hp2⟩ := id r1
    have hpl : pls p ab be wa wb := ⟨hp0, by omega, by omega⟩
    have hj : v 0 - 1 - (v 0 - (n + 1)) = n := by omega
    obtain ⟨M2, t1, t2⟩ := C_grades (x2 := x2) (M0 := M1) (M := M1) (ok := ok) (j := v 0 - (n + 1)) ⟨s2, fun i hi => Or.inl ⟨s3 i hi, fun l hl => by
        obtain ⟨m, ⟨g, l', k, -, -, -, -, hf, -⟩, -⟩ := hl
        omega⟩, fun i hi => Or.inl ⟨s4 i hi, fun l hl => by
        obtain ⟨⟨g, l', k, -, -, -, -, hf, -⟩, -⟩ := hl
        omega⟩, by rw [s5 ab (by omega) (by omega)]; exact r3, by rw [s5 wa (by omega) (by omega)]; exact r4, fun _ _ _ => rfl, rfl⟩ hpl wf (by omega) hx
    rw [hj] at t1
    rw [t1]
    simp only [Option.bind_some]
    obtain ⟨u1, u2, u3, u4, u5, u6, u7⟩ := t2
    refine ⟨n, _, rfl, rfl, ?_, by omega, ab, be, wa, wb, hpl, u1, Cv_c u2 (fun i _ l => ?_), Cv_c u3 (fun i _ l => ?_), ⟨fun q hq => ?_, fun q hq => ?_⟩⟩
    · show nI n + -1 = nI n - 1
      rw [Int32.sub_eq_add_neg]
    · rw [EB_SB, show v 0 - (n + 1) + 1 = v 0 - n by omega]
    · rw [EW_SW, show v 0 - (n + 1) + 1 = v 0 - n by omega]
    · rw [u6 q (by omega) (by omega), s5 q (by omega) (by omega), r5.1 q hq]
    · rw [u7, s6 q hq, r5.2 q hq]
/-- which of two strings comes first -/
def bef (v : Nat → Nat) (l m : List Nat) : Prop := sC v l < sC v m ∨ (sC v l = sC v m ∧ (sP v l < sP v m ∨ (sP v l = sP v m ∧ sD l ≤ sD m)))
theorem C_choose (wf : WF v) (h : HS v ok M0 p (v 0) M) : ∃ c M', wq_lp (fX4_choose_L4) wq_FU (-1, 1, M) = some (c, M') ∧ M'.2 = M.2 ∧ (∀ q, q ≠ 41 → M'.1 q = M.1 q) ∧ (∀ k, k ≠ 2 → M'.1 41 k = M.1 41 k) ∧ ((c = -1 ∧ ∀ l, l.length = v 0 → ¬ Sd v ok l) ∨ ∃ l, l.length = v 0 ∧ Sd v ok l ∧ c = nI (val v l) ∧ M'.1 41 2 = nI (sP v l) ∧ ∀ m, m.length = v 0 → Sd v ok m → bef v l m) := by
  have h8 := wf.n8
  have h2 := wf.1.1
  have hL := wf.2.1
  obtain ⟨be, ab, wb, wa, r1, r2, r3, r4, r5⟩ := h
  obtain ⟨o1, o2, o3, o4, o5, l1, l2, l3, l4⟩ := pls_ok r1
  obtain ⟨hp0, hp1, hp2⟩ := id r1
  have hSW : ∀ i l, SW v ok (v 0) i l ↔ (l.length = v 0 ∧ Sd v ok l ∧ i = sP v l) := fun i l => by
    constructor
    · rintro ⟨q1, q2, q3⟩
      have hne : l ≠ [] := by
        rintro rfl
        simp at q1
        omega
      rcases q2 with q2 | q2
      · exact absurd q2 hne
      · exact ⟨q1, (Mk_L hL hne).mp q2, q3⟩
    · rintro ⟨q1, q2, q3⟩
      have hne : l ≠ [] := by
        rintro rfl
        simp at q1
        omega
      exact ⟨q1, Or.inr ((Mk_L hL hne).mpr q2), q3⟩
  obtain ⟨⟨c, M'⟩, e1, e2, e3, e4, e5⟩ := lp_inv (body := fX4_choose_L4) (fun n z => ∃ P, z.2.1 = nI P ∧ n + P = 73 ∧ 1 ≤ P ∧ z.2.2.2 = M.2 ∧ (∀ q, q ≠ 41 → z.2.2.1 q = M.1 q) ∧ (∀ k, k ≠ 2 → z.2.2.1 41 k = M.1 41 k) ∧ ((z.1 = -1 ∧ ∀ l, l.length = v 0 → Sd v ok l → ¬ sP v l < P) ∨ ∃ l, l.length = v 0 ∧ Sd v ok l ∧ sP v l < P ∧ z.1 = nI (val v l) ∧ z.2.2.1 41 2 = nI (sP v l) ∧ ∀ m, m.length = v 0 → Sd v ok m → sP v m < P → bef v l m)) (fun y => y.2.2 = M.2 ∧ (∀ q, q ≠ 41 → y.2.1 q = M.1 q) ∧ (∀ k, k ≠ 2 → y.2.1 41 k = M.1 41 k) ∧ ((y.1 = -1 ∧ ∀ l, l.length = v 0 → ¬ Sd v ok l) ∨ ∃ l, l.length = v 0 ∧ Sd v ok l ∧ y.1 = nI (val v l) ∧ y.2.1 41 2 = nI (sP v l) ∧ ∀ m, m.length = v 0 → Sd v ok m → bef v l m)) (by
    rintro n ⟨x, y, N⟩ ⟨P, q1, q2, q3, q4, q5, q6, q7⟩
    simp only at q1 q4 q5 q6 q7
    subst q1
    unfold fX4_choose_L4
    simp only []
    by_cases hz : n = 0
    · left
      have : P = 73 := by omega
      subst this
      refine ⟨(x, N), by rw [if_pos (show 73 ≤ nI 73 by decide)], q4, q5, q6, ?_⟩
      have hbd : ∀ l, l.length = v 0 → Sd v ok l → sP v l < 73 := fun l z1 z2 => by
        have := (sP_b wf l (Vd_mem l z2.1)).2
        omega
      rcases q7 with ⟨z1, z2⟩ | ⟨l, z1, z2, z3, z4, z5, z6⟩
      · exact Or.inl ⟨z1, fun l a b => z2 l a b (hbd l a b)⟩
      · exact Or.inr ⟨l, z1, z2, z4, z5, fun m a b => z6 m a b (hbd m a b)⟩
    · right
      obtain ⟨n, rfl⟩ : ∃ i, n = i + 1 := ⟨n - 1, by omega⟩
      rw [if_neg (show ¬ 73 ≤ nI P by rw [lit_nI 73, nI_leI (by omega) (by omega)]; omega), q4, r2.2.2.2.1]
      simp only [Option.bind_some, o4, l4, if_true]
      rw [in_nI (show P < 73 by omega) (by omega), cl_nI (by omega), q5 wa (by omega), nI_1]
      simp only [if_true]
      rcases r4 P (by omega) with ⟨b1, b2⟩ | ⟨m0, b1, b2, b3⟩
      · rw [if_pos b1]
        refine ⟨n, _, rfl, rfl, P + 1, rfl, by omega, by omega, q4, q5, q6, ?_⟩
        have hno : ∀ l, l.length = v 0 → Sd v ok l → sP v l ≠ P := fun l a b e => b2 l ((hSW P l).mpr ⟨a, b, e.symm⟩)
        rcases q7 with ⟨z1, z2⟩ | ⟨l, z1, z2, z3, z4, z5, z6⟩
        · exact Or.inl ⟨z1, fun l a b hlt => z2 l a b (by have := hno l a b; omega)⟩
        · exact Or.inr ⟨l, z1, z2, by omega, z4, z5, fun m a b hlt => z6 m a b (by have := hno m a b; omega)⟩
      · obtain ⟨c1, c2, c3⟩ := (hSW P m0).mp b1
        have hm0 := Vd_mem m0 c2.1
        have hvb := val_b wf hm0 (by omega)
        have hdm := val_dm wf hm0 (by omega)
        have hmin : ∀ m, m.length = v 0 → Sd v ok m → sP v m = P → val v m0 ≤ val v m := fun m a b e => b3 m ((hSW P m).mpr ⟨a, b, e.symm⟩)
        have hbef : ∀ m, m.length = v 0 → Sd v ok m → sP v m = P → bef v m0 m := fun m a b e => by
          have hv := hmin m a b e
          have hm1 := Vd_mem m b.1
          have hdm1 := val_dm wf hm1 (by omega)
          unfold bef
          have : val v m0 / 390625 ≤ val v m / 390625 := Nat.div_le_div_right hv
          by_cases hc : sC v m0 < sC v m
          · exact Or.inl hc
          · right
            have hce : sC v m0 = sC v m := by omega
            refine ⟨hce, Or.inr ⟨by omega, ?_⟩⟩
            have e1 := Nat.div_add_mod (val v m0) 390625
            have e2 := Nat.div_add_mod (val v m) 390625
            rw [hdm.1, hdm.2] at e1
            rw [hdm1.1, hdm1.2, ← hce] at e2
            omega
        rw [if_neg (show ¬ M.1 wa P = -1 by
          rw [b2]
          intro q
          rw [← Int32.toInt_inj, nI_toInt (by omega), show (-1 : Int32).toInt = -1 by decide] at q
          omega), b2]
        rcases q7 with ⟨z1, z2⟩ | ⟨l, z1, z2, z3, z4, z5, z6⟩
        · rw [if_pos z1]
          refine ⟨n, _, rfl, rfl, P + 1, rfl, by omega, by omega, q4, fun q hq => by rw [wq_st_ne hq, q5 q hq], fun k hk => by rw [st_ne2 hk, q6 k hk], Or.inr ⟨m0, c1, c2, by omega, rfl, by rw [st_eq, c3], fun m a b hlt => ?_⟩⟩
          exact hbef m a b (by have := z2 m a b; omega)
        · have hml := Vd_mem l z2.1
          have hvl := val_b wf hml (by omega)
          have hdl := val_dm wf hml (by omega)
          rw [if_neg (show ¬ x = -1 by
            rw [z4]
            intro q
            rw [← Int32.toInt_inj, nI_toInt (by omega), show (-1 : Int32).toInt = -1 by decide] at q
            omega), z4, lit_nI 390625, pk_div (by omega) (by omega) (by omega), pk_div (by omega) (by omega) (by omega), hdl.1, hdm.1]
          have hc1 := sC_b wf l hml
          have hc2 := sC_b wf m0 hm0
          by_cases hc : sC v l ≤ sC v m0
          · rw [if_pos ((nI_leI (by omega) (by omega)).mpr hc)]
            refine ⟨n, _, rfl, rfl, P + 1, rfl, by omega, by omega, q4, q5, q6, Or.inr ⟨l, z1, z2, by omega, rfl, z5, fun m a b hlt => ?_⟩⟩
            by_cases e : sP v m = P
            · have hb := hbef m a b e
              unfold bef at hb ⊢
              omega
            · exact z6 m a b (by omega)
          · rw [if_neg (fun q => hc ((nI_leI (by omega) (by omega)).mp q))]
            refine ⟨n, _, rfl, rfl, P + 1, rfl, by omega, by omega, q4, fun q hq => by rw [wq_st_ne hq, q5 q hq], fun k hk => by rw [st_ne2 hk, q6 k hk], Or.inr ⟨m0, c1, c2, by omega, rfl, by rw [st_eq, c3], fun m a b hlt => ?_⟩⟩
            by_cases e : sP v m = P
            · exact hbef m a b e
            · have hb := z6 m a b (by omega)
              unfold bef at hb ⊢
              omega) 72 wq_FU (-1, 1, M) ⟨1, rfl, rfl, by omega, rfl, fun _ _ => rfl, fun _ _ => rfl, Or.inl ⟨rfl, fun l a b hlt => by
        have := (sP_b wf l (Vd_mem l b.1)).1
        omega⟩⟩ (FU_gt (by omega))
  exact ⟨c, M', e1, e2, e3, e4, e5⟩
theorem C_tell (wf : WF v) (hw : M.2 41 7 = some p) (hp : p = 20 ∨ p = 25) (h0 : M.1 p 0 = nI (v 0)) {l : List Nat} (hl : l.length = v 0) (hm : ∀ e ∈ l, e < v 5) : ∃ M', fX4_tellString (nI (sD l)) M = some M' ∧ M'.2 = M.2 ∧ (∀ q, q ≠ 42 → M'.1 q = M.1 q) ∧ ∀ i, i < 8 → M'.1 42 i = nI (if i < v 0 then l.getD i 0 + 1 else 0) - 1 := by
  have h8 := wf.n8
  have hm5 := wf.m5
  have hok : wq_okW p = true := by rcases hp with rfl | rfl <;> decide
  unfold fX4_tellString
  rw [C_fill _ _ _ (show wq_yC.2.2 42 < 10000 by decide)]
  simp only [Option.bind_some]
  obtain ⟨M', e1, e2⟩ := lp_inv (body := fX4_tellString_L12) (fun n z => ∃ i d, z.1 = nI (sD d) ∧ z.2.1 = nI i ∧ n + i = v 0 ∧ d = l.drop i ∧ z.2.2.2 = M.2 ∧ (∀ q, q ≠ 42 → z.2.2.1 q = M.1 q) ∧ ∀ k, k < 8 → z.2.2.1 42 k = nI (if k < i then l.getD k 0 + 1 else 0) - 1) (fun M' => M'.2 = M.2 ∧ (∀ q, q ≠ 42 → M'.1 q = M.1 q) ∧ ∀ i, i < 8 → M'.1 42 i = nI (if i < v 0 then l.getD i 0 + 1 else 0) - 1) (by
    rintro n ⟨x, y, N⟩ ⟨i, d, q1, q2, q3, q4, q5, q6, q7⟩
    simp only at q1 q2 q5 q6 q7
    subst q1
    subst q2
    unfold fX4_tellString_L12
    simp only []
    rw [q5, hw]
    simp only [Option.bind_some, hok, if_true]
    rw [q6 p (by omega), h0]
    by_cases hz : n = 0
    · left
      have : i = v 0 := by omega
      subst this
      exact ⟨N, by rw [if_pos (show nI (v 0) ≤ nI (v 0) by rw [nI_leI (by omega) (by omega)]; omega)], q5, q6, q7⟩
    · right
      obtain ⟨n, rfl⟩ : ∃ i, n = i + 1 := ⟨n - 1, by omega⟩
      have hd : ∃ g d', d = g :: d' ∧ d' = l.drop (i + 1) ∧ l.getD i 0 = g ∧ g < v 5 := by
        have hi : i < l.length := by omega
        refine ⟨l[i], l.drop (i + 1), ?_, rfl, ?_, hm _ (List.getElem_mem hi)⟩
        · rw [q4]
          exact List.drop_eq_getElem_cons hi
        · simp [hi]
      obtain ⟨g, d', rfl, d2, d3, d4⟩ := hd
      have hdm : ∀ e ∈ g :: d', e < v 5 := fun e he => by
        rw [q4] at he
        exact hm e (List.mem_of_mem_drop he)
      have hb := (sD_lt8 wf hdm (by rw [q4]; simp; omega)).1
      rw [if_neg (show ¬ nI (v 0) ≤ nI i by rw [nI_leI (by omega) (by omega)]; omega), in_nI (show i < 8 by omega) (by omega), cl_nI (by omega), lit_nI 5, pk_rem (by omega) (by omega) (by omega), pk_div (by omega) (by omega) (by omega), nI_1, show sD (g :: d') % 5 = g by simp only [sD]; omega, show sD (g :: d') / 5 = sD d' by simp only [sD]; omega]
      refine ⟨n, _, rfl, rfl, i + 1, d', rfl, rfl, by omega, d2, q5, fun q hq => by rw [wq_st_ne hq, q6 q hq], fun k hk => ?_⟩
      by_cases e : k = i
      · subst e
        rw [st_eq, if_pos (by omega), d3, nI_pred]
      · rw [st_ne2 e, q7 k hk]
        by_cases h2 : k < i
        · rw [if_pos h2, if_pos (by omega)]
        · rw [if_neg h2, if_neg (by omega)]) (v 0) wq_FU (nI (sD l), 0, fill M 42 (-1)) ⟨0, l, rfl, rfl, rfl, rfl, rfl, fun q hq => fill_ne hq, fun k hk => by
        rw [if_neg (by omega)]
        exact fill_at (by rw [show wq_yC.2.2 42 = 8 by decide]; exact hk)⟩ (FU_gt (by omega))
  rw [e1]
  exact ⟨M', rfl, e2⟩
theorem val_nil : val v [] = 0 := by simp [val, sC, sD]
theorem C_find (wf : WF v) (hC : RepC M p v) (hs : iSr M) (hp : p = 20 ∨ p = 25) (hx : ∀ g, g < 5 → (nI g = x2 ↔ ok g = false)) : ∃ r C, fX4_find p x2 M = some (r, C) ∧ F41 M C ∧ iSr C ∧ (r = false → ∀ l, l.length = v 0 → ¬ Sd v ok l) ∧ (r = true → ∃ l, l.length = v 0 ∧ Sd v ok l ∧ C.1 41 1 = nI (sC v l) ∧ C.1 41 2 = nI (sP v l) ∧ (∀ i, i < 8 → C.1 42 i = nI (if i < v 0 then l.getD i 0 + 1 else 0) - 1) ∧ ∀ m, m.length = v 0 → Sd v ok m → bef v l m) := by
  have h8 := wf.n8
  have h2 := wf.1.1
  have hL := wf.2.1
  obtain ⟨be, ab, wb, wa, s1, s2, s3, s4, hpl⟩ : ∃ be ab wb wa, M.2 41 3 = some be ∧ M.2 41 4 = some ab ∧ M.2 41 5 = some wb ∧ M.2 41 6 = some wa ∧ pls p be ab wb wa := by
    obtain ⟨a | a, c | c⟩ := hs
    · exact ⟨43, 44, 45, 46, a.1, a.2, c.1, c.2, hp, by omega, by omega⟩
    · exact ⟨43, 44, 46, 45, a.1, a.2, c.1, c.2, hp, by omega, by omega⟩
    · exact ⟨44, 43, 45, 46, a.1, a.2, c.1, c.2, hp, by omega, by omega⟩
    · exact ⟨44, 43, 46, 45, a.1, a.2, c.1, c.2, hp, by omega, by omega⟩
  obtain ⟨o1, o2, o3, o4, o5, l1, l2, l3, l4⟩ := pls_ok hpl
  obtain ⟨hp0, hp1, hp2⟩ := id hpl
  have hsr : (wq_sr M 41 7 (some p)).1 = M.1 := rfl
  unfold fX4_find
  rw [in_3_4, if_pos rfl, cl_3, hsr, hC.2.2.2.2.2.1]
  have hleast : (if 1 < (if nI (v 1) < 3 then nI (v 1) else 3) then (if nI (v 1) < 3 then nI (v 1) else 3) else 1) = nI (v 1) := by
    have : v 1 = 1 ∨ v 1 = 2 ∨ v 1 = 3 := by omega
    rcases this with e | e | e <;> rw [e] <;> decide
  rw [hleast]
  have k3 : (wq_st (wq_sr M 41 7 (some p)) 41 8 (nI (v 1))).2 41 3 = some be := by show (wq_sr M 41 7 (some p)).2 41 3 = _; simp [wq_sr, s1]
  have k4 : (wq_st (wq_sr M 41 7 (some p)) 41 8 (nI (v 1))).2 41 4 = some ab := by show (wq_sr M 41 7 (some p)).2 41 4 = _; simp [wq_sr, s2]
  have k5 : (wq_st (wq_sr M 41 7 (some p)) 41 8 (nI (v 1))).2 41 5 = some wb := by show (wq_sr M 41 7 (some p)).2 41 5 = _; simp [wq_sr, s3]
  have k6 : (wq_st (wq_sr M 41 7 (some p)) 41 8 (nI (v 1))).2 41 6 = some wa := by show (wq_sr M 41 7 (some p)).2 41 6 = _; simp [wq_sr, s4]
  have k7 : (wq_st (wq_sr M 41 7 (some p)) 41 8 (nI (v 1))).2 41 7 = some p := by show (wq_sr M 41 7 (some p)).2 41 7 = _; simp [wq_sr]
  have kq : ∀ q, q ≠ 41 → (wq_st (wq_sr M 41 7 (some p)) 41 8 (nI (v 1))).2 q = M.2 q := fun q hq => wq_sr_ne hq
  have kf : ∀ q, q ≠ 41 → (wq_st (wq_sr M 41 7 (some p)) 41 8 (nI (v 1))).1 q = M.1 q := fun q hq => wq_st_ne hq
  have k8 : (wq_st (wq_sr M 41 7 (some p)) 41 8 (nI (v 1))).1 41 8 = nI (v 1) := st_eq
  generalize wq_st (wq_sr M 41 7 (some p)) 41 8 (nI (v 1)) = K at k3 k4 k5 k6 k7 kq kf k8
  rw [k4]
  simp only [Option.bind_some, o2, if_true]
  rw [C_fill _ _ _ (by rw [l2]; omega)]
  simp only [Option.bind_some]
  rw [show (fill K ab (-1)).2 41 6 = some wa from k6]
  simp only [Option.bind_some, o4, if_true]
  rw [C_fill _ _ _ (by rw [l4]; omega)]
  simp only [Option.bind_some]
  rw [show (fill (fill K ab (-1)) wa (-1)).2 41 6 = some wa from k6]
  simp only [Option.bind_some, o4, l4, if_true]
  rw [show wq_in 0 73 = true by decide, if_pos rfl, cl_0]
  have hHS : HS v ok M p 0 (wq_st (fill (fill K ab (-1)) wa (-1)) wa 0 0) := by
    have hf : ∀ q, q ≠ ab → q ≠ wa → (wq_st (fill (fill K ab (-1)) wa (-1)) wa 0 0).1 q = K.1 q := fun q x y => by rw [wq_st_ne y, fill_ne y, fill_ne x]
    refine ⟨be, ab, wb, wa, hpl, ⟨k3, k4, k5, k6, k7, by rw [hf 41 (by omega) (by omega)]; exact k8, RepC_c hC (fun q x y => by rw [hf q (by omega) (by omega), kf q (by omega)])⟩, fun i hi => Or.inl ⟨?_, fun l hl => ?_⟩, fun i hi => ?_, ⟨fun q hq => by rw [hf q (by omega) (by omega), kf q (by omega)], kq⟩⟩
    · rw [wq_st_ne (by omega), fill_ne (by omega)]
      exact fill_at (by rw [l2]; exact hi)
    · obtain ⟨z1, n, z2, -⟩ := hl
      cases l with
      | nil => exact absurd z2 (by simp [Mk])
      | cons g l => simp at z1
    · by_cases e : i = 0
      · subst e
        right
        refine ⟨[], ⟨rfl, Or.inl rfl, rfl⟩, by rw [st_eq, val_nil]; rfl, fun l' hl' => ?_⟩
        rw [val_nil]
        exact Nat.zero_le _
      · left
        refine ⟨?_, fun l hl => ?_⟩
        · rw [st_ne2 e]
          exact fill_at (by rw [l4]; exact hi)
        · obtain ⟨z1, -, z3⟩ := hl
          have : l = [] := by simpa using z1
          rw [this] at z3
          exact e z3
  have hK0 : (wq_st (fill (fill K ab (-1)) wa (-1)) wa 0 0).1 p 0 = nI (v 0) := by
    rw [wq_st_ne (by omega), fill_ne (by omega), fill_ne (by omega), kf p (by omega)]
    exact hC.1
  rw [hK0]
  obtain ⟨M1, t1, t2⟩ := C_steps wf hx hHS
  rw [t1]
  simp only [Option.bind_some]
  unfold fX4_choose
  obtain ⟨c, M2, c1, c2, c3, c4, c5⟩ := C_choose wf t2
  rw [c1]
  simp only [Option.bind_some]
  obtain ⟨be', ab', wb', wa', r1, r2, r3, r4, r5⟩ := t2
  have hsr2 : iSr M1 := by
    obtain ⟨-, hq1, hq2⟩ := r1
    obtain ⟨a1, a2, a3, a4, -⟩ := r2
    unfold iSr
    rw [a1, a2, a3, a4]
    rcases hq1 with ⟨rfl, rfl⟩ | ⟨rfl, rfl⟩ <;> rcases hq2 with ⟨rfl, rfl⟩ | ⟨rfl, rfl⟩ <;> simp
  have hF2 : F41 M M2 := ⟨fun q hq => by rw [c3 q (by omega), r5.1 q hq], fun q hq => by rw [c2, r5.2 q hq]⟩
  rcases c5 with ⟨rfl, c6⟩ | ⟨l, d1, d2, rfl, d4, d5⟩
  · rw [if_pos rfl]
    refine ⟨false, M2, rfl, hF2, iSr_c hsr2 (by rw [c2]), fun _ => c6, fun h => by simp at h⟩
  · have hml := Vd_mem l d2.1
    have hvb := val_b wf hml (by omega)
    have hdm := val_dm wf hml (by omega)
    rw [if_neg (show ¬ nI (val v l) = -1 by
      intro q
      rw [← Int32.toInt_inj, nI_toInt (by omega), show (-1 : Int32).toInt = -1 by decide] at q
      omega), lit_nI 390625, pk_rem (by omega) (by omega) (by omega), pk_div (by omega) (by omega) (by omega), hdm.1, hdm.2]
    obtain ⟨M3, e1, e2, e3, e4⟩ := C_tell (M := wq_st M2 41 1 (nI (sC v l))) (p := p) wf (by show M2.2 41 7 = _; rw [c2]; exact r2.2.2.2.2.1) hp0 (by rw [wq_st_ne (by omega), c3 p (by omega)]; exact r2.2.2.2.2.2.2.1) d1 hml
    rw [e1]
    refine ⟨true, M3, rfl, ⟨fun q hq => by rw [e3 q (by omega), wq_st_ne (by omega), hF2.1 q hq], fun q hq => by rw [e2]; exact hF2.2 q hq⟩, iSr_c hsr2 (by rw [e2]; show M2.2 41 = _; rw [c2]), fun h => by simp at h, fun _ => ⟨l, d1, d2, ?_, ?_, e4, d5⟩⟩
    · rw [e3 41 (by omega), st_eq]
    · rw [e3 41 (by omega), st_ne2 (by omega), d4]
end EP
