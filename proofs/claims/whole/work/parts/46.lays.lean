section EM
variable {v : Nat → Nat} {ok : Nat → Bool} {M M0 : wq_M} {p : Nat} {x2 : Int32}
def rng (v : Nat → Nat) (s P b r : Nat) : Prop := s < v 0 ∧ P ≤ 9 * (v 0 - 1 - s) ∧ b < v 5 ∧ 1 ≤ r ∧ r ≤ 3
def Dn (v : Nat → Nat) (ok : Nat → Bool) (K : Nat) (M : wq_M) : Prop := ∀ s P b r, rng v s P b r → tIx s P b r < K → M.1 9 (tIx s P b r) = rO (rA v ok (s + 1) P (some b) r)
def S9 (M M' : wq_M) : Prop := ∀ q, q ≠ 9 → M'.1 q = M.1 q
theorem Dn_tb {K s : Nat} (h : Dn v ok K M) (hs : s < v 0) (hK : tIx (s + 1) 0 0 1 ≤ K) (wf : WF v) : TBl v ok M s := by
  intro P b r h1 h2 h3 h4
  have h8 := wf.n8
  have hm := wf.m5
  refine h s P b r ⟨hs, h1, h2, h3, h4⟩ ?_
  unfold tIx at hK ⊢
  omega
theorem Dn_st {s P b r : Nat} (wf : WF v) (h : Dn v ok (tIx s P b r) M) (hr : rng v s P b r) : Dn v ok (tIx s P b (r + 1)) (wq_st M 9 (tIx s P b r) (rO (rA v ok (s + 1) P (some b) r))) := by
  have h8 := wf.n8
  have hm := wf.m5
  intro s' P' b' r' h1 h2
  obtain ⟨a1, a2, a3, a4, a5⟩ := hr
  obtain ⟨c1, c2, c3, c4, c5⟩ := id h1
  by_cases e : tIx s' P' b' r' = tIx s P b r
  · obtain ⟨rfl, rfl, rfl, rfl⟩ := tIx_inj (by omega) (by omega) (by omega) (by omega) (by omega) (by omega) e
    rw [st_eq]
  · rw [st_ne2 e]
    refine h s' P' b' r' h1 ?_
    unfold tIx at h2 e ⊢
    omega
theorem R_L44 (hR : RepA (M0.1 p) v) (hp : p ≠ 9) (wf : WF v) (hx : ∀ g, g < 5 → (nI g = x2 ↔ ok g = false)) {s P b : Nat} (hs : s < v 0) (hP : P ≤ 9 * (v 0 - 1 - s)) (hb : b < v 5) (hM : S9 M0 M) (hD : Dn v ok (tIx s P b 1) M) (x3 : Int32) : ∃ M', wq_lp (fX7_laysBest_L9_L18_L33_L44 p x2 x3 (nI s) (nI P) (nI b)) wq_FU (1, M) = some M' ∧ Dn v ok (tIx s P b 4) M' ∧ S9 M0 M' := by
  have h8 := wf.n8
  have hm := wf.m5
  refine lp_inv (body := fX7_laysBest_L9_L18_L33_L44 p x2 x3 (nI s) (nI P) (nI b)) (fun k z => ∃ r, z.1 = nI r ∧ k + r = 4 ∧ 1 ≤ r ∧ Dn v ok (tIx s P b r) z.2 ∧ S9 M0 z.2) _ ?_ 3 wq_FU (1, M) ⟨1, rfl, rfl, by omega, hD, hM⟩ (FU_gt (by omega))
  rintro k ⟨x, M⟩ ⟨r, h1, h2, h3, h4, h5⟩
  simp only at h1 h4 h5
  subst h1
  unfold fX7_laysBest_L9_L18_L33_L44
  simp only []
  by_cases hz : k = 0
  · left
    have : r = 4 := by omega
    subst this
    exact ⟨M, by rw [if_pos (show 4 ≤ nI 4 by decide)], h4, h5⟩
  · right
    obtain ⟨k, rfl⟩ : ∃ j, k = j + 1 := ⟨k - 1, by omega⟩
    have hlt := tIx_lt (s := s) (P := P) (b := b) (r := r) (by omega) (by omega) (by omega) (by omega)
    have hl := R_least (M := M) (p := p) (ok := ok) (k := s) (P := P) (b := some b) (r := r) (x2 := x2) (by rw [h5 p hp]; exact hR) wf hs hP (fun y hy => by simp at hy; omega) (by omega) hx (fun s' e => by
      subst e
      exact Dn_tb h4 (by omega) (by unfold tIx; omega) wf)
    rw [bO_s] at hl
    rw [if_neg (show ¬ 4 ≤ nI r by rw [lit_nI 4, nI_leI (by omega) (by omega)]; omega), R_at, hl]
    simp only [Option.bind_some]
    rw [in_nI hlt (by omega), cl_nI (by omega), if_pos rfl, nI_1]
    refine ⟨k, _, rfl, rfl, r + 1, rfl, by omega, by omega, Dn_st wf h4 ⟨hs, hP, hb, h3, by omega⟩, fun q hq => by rw [wq_st_ne hq, h5 q hq]⟩
theorem R_L33 (hR : RepA (M0.1 p) v) (hp : p ≠ 9) (wf : WF v) (hx : ∀ g, g < 5 → (nI g = x2 ↔ ok g = false)) {s P : Nat} (hs : s < v 0) (hP : P ≤ 9 * (v 0 - 1 - s)) (hM : S9 M0 M) (hD : Dn v ok (tIx s P 0 1) M) (x3 : Int32) : ∃ M', wq_lp (fX7_laysBest_L9_L18_L33 p x2 x3 (nI s) (nI P)) wq_FU (0, M) = some M' ∧ Dn v ok (tIx s P (v 5) 1) M' ∧ S9 M0 M' := by
  have h8 := wf.n8
  have hm := wf.m5
  refine lp_inv (body := fX7_laysBest_L9_L18_L33 p x2 x3 (nI s) (nI P)) (fun k z => ∃ b, z.1 = nI b ∧ k + b = v 5 ∧ Dn v ok (tIx s P b 1) z.2 ∧ S9 M0 z.2) _ ?_ (v 5) wq_FU (0, M) ⟨0, rfl, rfl, hD, hM⟩ (FU_gt (by omega))
  rintro k ⟨x, M⟩ ⟨b, h1, h2, h4, h5⟩
  simp only at h1 h4 h5
  subst h1
  unfold fX7_laysBest_L9_L18_L33
  simp only []
  rw [in_5_44, cl_5, h5 p hp, hR.1 5 (by omega), if_pos rfl]
  by_cases hz : k = 0
  · left
    have : b = v 5 := by omega
    subst this
    exact ⟨M, by rw [if_pos (show nI (v 5) ≤ nI (v 5) by rw [nI_leI (by omega) (by omega)]; omega)], h4, h5⟩
  · right
    obtain ⟨k, rfl⟩ : ∃ j, k = j + 1 := ⟨k - 1, by omega⟩
    obtain ⟨M', e1, e2, e3⟩ := R_L44 hR hp wf hx hs hP (show b < v 5 by omega) h5 h4 x3
    rw [if_neg (show ¬ nI (v 5) ≤ nI b by rw [nI_leI (by omega) (by omega)]; omega), e1, nI_1]
    refine ⟨k, _, rfl, rfl, b + 1, rfl, by omega, fun s' P' b' r' q1 q2 => e2 s' P' b' r' q1 ?_, e3⟩
    obtain ⟨c1, c2, c3, c4, c5⟩ := q1
    unfold tIx at q2 ⊢
    omega
theorem R_L18 (hR : RepA (M0.1 p) v) (hp : p ≠ 9) (wf : WF v) (hx : ∀ g, g < 5 → (nI g = x2 ↔ ok g = false)) {s : Nat} (hs : s < v 0) (hM : S9 M0 M) (hD : Dn v ok (tIx s 0 0 1) M) : ∃ M', wq_lp (fX7_laysBest_L9_L18 p x2 (nI (v 0 - 1)) (nI s)) wq_FU (0, M) = some M' ∧ Dn v ok (tIx s (9 * (v 0 - 1 - s) + 1) 0 1) M' ∧ S9 M0 M' := by
  have h8 := wf.n8
  have hm := wf.m5
  refine lp_inv (body := fX7_laysBest_L9_L18 p x2 (nI (v 0 - 1)) (nI s)) (fun k z => ∃ P, z.1 = nI P ∧ k + P = 9 * (v 0 - 1 - s) + 1 ∧ Dn v ok (tIx s P 0 1) z.2 ∧ S9 M0 z.2) _ ?_ (9 * (v 0 - 1 - s) + 1) wq_FU (0, M) ⟨0, rfl, rfl, hD, hM⟩ (FU_gt (by omega))
  rintro k ⟨x, M⟩ ⟨P, h1, h2, h4, h5⟩
  simp only at h1 h4 h5
  subst h1
  unfold fX7_laysBest_L9_L18
  simp only []
  rw [pk_sub (show s ≤ v 0 - 1 by omega), lit_nI 9, pk_mul]
  by_cases hz : k = 0
  · left
    have : P = 9 * (v 0 - 1 - s) + 1 := by omega
    subst this
    exact ⟨M, by rw [if_pos (show nI (9 * (v 0 - 1 - s)) < nI (9 * (v 0 - 1 - s) + 1) by rw [nI_ltI (by omega) (by omega)]; omega)], h4, h5⟩
  · right
    obtain ⟨k, rfl⟩ : ∃ j, k = j + 1 := ⟨k - 1, by omega⟩
    obtain ⟨M', e1, e2, e3⟩ := R_L33 hR hp wf hx hs (show P ≤ 9 * (v 0 - 1 - s) by omega) h5 h4 (nI (v 0 - 1))
    rw [if_neg (show ¬ nI (9 * (v 0 - 1 - s)) < nI P by rw [nI_ltI (by omega) (by omega)]; omega), e1, nI_1]
    refine ⟨k, _, rfl, rfl, P + 1, rfl, by omega, fun s' P' b' r' q1 q2 => e2 s' P' b' r' q1 ?_, e3⟩
    obtain ⟨c1, c2, c3, c4, c5⟩ := q1
    unfold tIx at q2 ⊢
    omega
theorem R_L9 (hR : RepA (M0.1 p) v) (hp : p ≠ 9) (wf : WF v) (hx : ∀ g, g < 5 → (nI g = x2 ↔ ok g = false)) : ∃ M', wq_lp (fX7_laysBest_L9 p x2 (nI (v 0 - 1))) wq_FU (0, M0) = some M' ∧ (∀ s, s + 1 < v 0 → TBl v ok M' s) ∧ S9 M0 M' := by
  have h8 := wf.n8
  have hm := wf.m5
  have h2 := wf.1.1
  refine lp_inv (body := fX7_laysBest_L9 p x2 (nI (v 0 - 1))) (fun k z => ∃ s, z.1 = nI s ∧ k + s = v 0 - 1 ∧ Dn v ok (tIx s 0 0 1) z.2 ∧ S9 M0 z.2) _ ?_ (v 0 - 1) wq_FU (0, M0) ⟨0, rfl, rfl, fun s P b r q1 q2 => by
    obtain ⟨c1, c2, c3, c4, c5⟩ := q1
    unfold tIx at q2
    omega, fun _ _ => rfl⟩ (FU_gt (by omega))
  rintro k ⟨x, M⟩ ⟨s, h1, h2, h4, h5⟩
  simp only at h1 h4 h5
  subst h1
  unfold fX7_laysBest_L9
  simp only []
  by_cases hz : k = 0
  · left
    exact ⟨M, by rw [if_pos (show nI (v 0 - 1) ≤ nI s by rw [nI_leI (by omega) (by omega)]; omega)], fun s' hs' => Dn_tb h4 (by omega) (by unfold tIx; omega) wf, h5⟩
  · right
    obtain ⟨k, rfl⟩ : ∃ j, k = j + 1 := ⟨k - 1, by omega⟩
    obtain ⟨M', e1, e2, e3⟩ := R_L18 hR hp wf hx (show s < v 0 by omega) h5 h4
    rw [if_neg (show ¬ nI (v 0 - 1) ≤ nI s by rw [nI_leI (by omega) (by omega)]; omega), e1, nI_1]
    refine ⟨k, _, rfl, rfl, s + 1, rfl, by omega, fun s' P' b' r' q1 q2 => e2 s' P' b' r' q1 ?_, e3⟩
    obtain ⟨c1, c2, c3, c4, c5⟩ := q1
    unfold tIx at q2 ⊢
    omega
/-- the first grade through which the least comes -/
theorem R_pick (hR : RepA (M.1 p) v) (wf : WF v) (hx : ∀ g, g < 5 → (nI g = x2 ↔ ok g = false)) {k P r x : Nat} {b : Option Nat} (hk : k < v 0) (hP : P ≤ 9 * (v 0 - 1 - k)) (hb : ∀ y, b = some y → y < 5) (hr : r ≤ 3) (hT : ∀ s, k = s + 1 → TBl v ok M s) (hA : rA v ok (k + 1) P b r = some x) (x4 : Int32) : ∃ g, wq_lp (fX7_laysBest_L132_L147 p x2 x4 (nI x) (nI P) (bO b) (nI r) (nI k) M) wq_FU 0 = some (nI g) ∧ g < v 5 ∧ ok g = true ∧ rTh v (rA v ok k) k P b r g = some x ∧ ∀ g', g' < g → ok g' = true → rTh v (rA v ok k) k P b r g' ≠ some x := by
  have h8 := wf.n8
  have hm := wf.m5
  have hxb := rA_le wf hA
  obtain ⟨⟨g0, a1, a2, a3⟩, -⟩ := rMin_some (show rMin ok (rTh v (rA v ok k) k P b r) (v 5) = some x from hA)
  obtain ⟨y, e1, g, rfl, q1, q2, q3, q4⟩ := lp_inv (body := fX7_laysBest_L132_L147 p x2 x4 (nI x) (nI P) (bO b) (nI r) (nI k) M) (fun n s => ∃ j, s = nI j ∧ n + j = v 5 ∧ j ≤ g0 ∧ ∀ g', g' < j → ok g' = true → rTh v (rA v ok k) k P b r g' ≠ some x) (fun y => ∃ g, y = nI g ∧ g < v 5 ∧ ok g = true ∧ rTh v (rA v ok k) k P b r g = some x ∧ ∀ g', g' < g → ok g' = true → rTh v (rA v ok k) k P b r g' ≠ some x) (by
    rintro n _ ⟨j, rfl, h2, h3, h4⟩
    unfold fX7_laysBest_L132_L147
    obtain ⟨n, rfl⟩ : ∃ q, n = q + 1 := ⟨n - 1, by omega⟩
    by_cases ho : ok j = false
    · right
      have hne : j ≠ g0 := by
        rintro rfl
        rw [ho] at a2
        exact absurd a2 (by decide)
      rw [if_pos ((hx j (by omega)).mpr ho), nI_1]
      refine ⟨n, _, rfl, rfl, j + 1, rfl, by omega, by omega, fun g' hg' hok' => ?_⟩
      by_cases e : g' = j
      · rw [e, ho] at hok'
        exact absurd hok' (by decide)
      · exact h4 g' (by omega) hok'
    · have hot : ok j = true := by simpa using ho
      rw [if_neg (fun q => ho ((hx j (by omega)).mp q)), R_through hR wf hk hP hb hr (by omega) hT]
      simp only [Option.bind_some]
      cases ht : rTh v (rA v ok k) k P b r j with
      | none =>
        right
        rw [rO_n, if_neg (show ¬ nI 1000000000 = nI x by rw [nI_eq (by omega) (by omega)]; omega), nI_1]
        have hne : j ≠ g0 := by
          rintro rfl
          rw [ht] at a3
          simp at a3
        refine ⟨n, _, rfl, rfl, j + 1, rfl, by omega, by omega, fun g' hg' hok' => ?_⟩
        by_cases e : g' = j
        · rw [e, ht]
          simp
        · exact h4 g' (by omega) hok'
      | some w =>
        have hw := rTh_le wf (show j < v 5 by omega) ht
        rw [rO_s]
        by_cases e : w = x
        · left
          subst e
          exact ⟨nI j, by rw [if_pos rfl], j, rfl, by omega, hot, ht, h4⟩
        · right
          rw [if_neg (show ¬ nI w = nI x by rw [nI_eq (by omega) (by omega)]; exact e), nI_1]
          have hne : j ≠ g0 := by
            rintro rfl
            rw [ht] at a3
            simp only [Option.some.injEq] at a3
            exact e a3
          refine ⟨n, _, rfl, rfl, j + 1, rfl, by omega, by omega, fun g' hg' hok' => ?_⟩
          by_cases e2 : g' = j
          · rw [e2, ht]
            simp only [ne_eq, Option.some.injEq]
            exact e
          · exact h4 g' (by omega) hok') (v 5) wq_FU 0 ⟨0, rfl, rfl, by omega, fun g' hg' => by omega⟩ (FU_gt (by omega))
  exact ⟨g, e1, q1, q2, q3, q4⟩
theorem R_greedy (wf : WF v) (hx : ∀ g, g < 5 → (nI g = x2 ↔ ok g = false)) {x4 : Int32} (hx4 : ¬ 1000000000 ≤ x4) (hp : p ≠ 10) : ∀ (k P r x n : Nat) (b : Option Nat) (M : wq_M), k ≤ v 0 → P ≤ 9 * (v 0 - k) → (∀ y, b = some y → y < 5) → r ≤ 3 → RepA (M.1 p) v → (∀ s, s + 1 < v 0 → TBl v ok M s) → rA v ok k P b r = some x → k < n → ∃ M' c, wq_lp (fX7_laysBest_L132 p x2 x4) n (nI x, nI P, bO b, nI r, nI k - 1, M) = some M' ∧ c.length = k ∧ Cmp v ok c P b r ∧ wt v c = x ∧ (∀ c', c'.length = k → Cmp v ok c' P b r → wt v c' = x → num c ≤ num c') ∧ (∀ i, i < k → M'.1 10 i = nI (c.getD (k - 1 - i) 0)) ∧ (∀ i, k ≤ i → M'.1 10 i = M.1 10 i) ∧ ∀ q, q ≠ 10 → M'.1 q = M.1 q := by
  have h8 := wf.n8
  have hm := wf.m5
  intro k
  induction k with
  | zero =>
    intro P r x n b M hk hP hb hr hR hT hA hn
    obtain ⟨n, rfl⟩ : ∃ q, n = q + 1 := ⟨n - 1, by omega⟩
    have hl : v 1 ≤ r ∧ x = 0 := by
      simp only [rA] at hA
      split at hA
      · rename_i q
        simp only [Option.some.injEq] at hA
        exact ⟨q, hA.symm⟩
      · simp at hA
    refine ⟨M, [], lp_exit ?_, rfl, hl.1, hl.2.symm, fun c' h1 h2 h3 => ?_, fun i hi => by omega, fun i _ => rfl, fun q _ => rfl⟩
    · unfold fX7_laysBest_L132
      rfl
    · simp [num]
  | succ k ih =>
    intro P r x n b M hk hP hb hr hR hT hA hn
    obtain ⟨n, rfl⟩ : ∃ q, n = q + 1 := ⟨n - 1, by omega⟩
    have hxb := rA_le wf hA
    obtain ⟨g, e1, q1, q2, q3, q4⟩ := R_pick hR wf hx (show k < v 0 by omega) (by omega) hb hr (fun s e => hT s (by omega)) hA x4
    have hgr := wf.gr q1
    have hhg : 1 ≤ hg v g ∧ hg v g ≤ 9 := hgr.2.2.2.2.1
    have hpg : 1 ≤ pg v g ∧ pg v g ≤ 99 := hgr.2.2.2.2.2
    have hth : (b = some g ∨ b = none ∨ v 1 ≤ r) ∧ aWould v k g (P + hg v g) = true ∧ ∃ y, rA v ok k (P + hg v g) (some g) (if b = some g then min (r + 1) 3 else 1) = some y ∧ y + 100 * pg v g + hg v g = x := by
      unfold rTh at q3
      split at q3
      · rename_i z1
        split at q3
        · rename_i z2
          rw [Option.map_eq_some_iff] at q3
          exact ⟨z1, z2, q3⟩
        · simp at q3
      · simp at q3
    obtain ⟨z1, z2, y, z3, z4⟩ := hth
    have hR1 : RepA ((wq_st M 10 k (nI g)).1 p) v := by rw [wq_st_ne hp]; exact hR
    have hT1 : ∀ s, s + 1 < v 0 → TBl v ok (wq_st M 10 k (nI g)) s := fun s hs => by
      unfold TBl
      rw [wq_st_ne (show 9 ≠ 10 by omega)]
      exact hT s hs
    have hJ : ∀ r', fX7_laysBest_L132_J213 p x2 x4 (nI x) (nI P) (nI k) (nI g) (nI r') (wq_st M 10 k (nI g)) = some (.inl (nI y, nI (P + hg v g), bO (some g), nI r', nI k - 1, wq_st M 10 k (nI g))) := by
      intro r'
      unfold fX7_laysBest_L132_J213
      rw [lit_nI 4, R_of hR1 (by omega) (by omega), lit_nI 5, R_of hR1 (by omega) (by omega)]
      simp only [Option.bind_some]
      rw [show v (6 + 6 * g + 5) = pg v g from rfl, show v (6 + 6 * g + 4) = hg v g from rfl, lit_nI 100, pk_mul, nI_add, nI_add, pk_sub (by omega), show x - (100 * pg v g + hg v g) = y by omega, bO_s, Int32.sub_eq_add_neg]
    have hbody : fX7_laysBest_L132 p x2 x4 (nI x, nI P, bO b, nI r, nI (k + 1) - 1, M) = some (.inl (nI y, nI (P + hg v g), bO (some g), nI (if b = some g then min (r + 1) 3 else 1), nI k - 1, wq_st M 10 k (nI g))) := by
      unfold fX7_laysBest_L132
      simp only []
      rw [nI_pred, if_neg (nI_pos (by omega)), if_neg hx4, e1]
      simp only [Option.bind_some]
      rw [in_nI (show k < 8 by omega) (by omega), cl_nI (by omega), if_pos rfl]
      by_cases hbg : b = some g
      · rw [if_pos ((bO_eq hb (by omega)).mpr hbg), if_pos hbg]
        by_cases h3 : 3 ≤ r
        · rw [if_pos (show 3 ≤ nI r by rw [lit_nI 3, nI_leI (by omega) (by omega)]; exact h3), show min (r + 1) 3 = 3 by omega]
          exact hJ 3
        · rw [if_neg (show ¬ 3 ≤ nI r by rw [lit_nI 3, nI_leI (by omega) (by omega)]; exact h3), show min (r + 1) 3 = r + 1 by omega, nI_1]
          exact hJ (r + 1)
      · rw [if_neg (fun q => hbg ((bO_eq hb (by omega)).mp q)), if_neg hbg]
        exact hJ 1
    rw [lp_step hbody]
    obtain ⟨M', c, c1, c2, c3, c4, c5, c6, c7, c8⟩ := ih (P + hg v g) (if b = some g then min (r + 1) 3 else 1) y n (some g) (wq_st M 10 k (nI g)) (by omega) (by omega) (fun y hy => by simp at hy; omega) (by split <;> omega) hR1 hT1 z3 (by omega)
    refine ⟨M', g :: c, c1, by simp [c2], ⟨⟨q1, q2⟩, z1, by rw [c2]; exact z2, c3⟩, ?_, ?_, ?_, ?_, ?_⟩
    · simp only [wt]
      omega
    · intro c' h1 h2 h3
      cases c' with
      | nil => simp at h1
      | cons e d =>
        simp only [List.length_cons, Nat.add_right_cancel_iff] at h1
        obtain ⟨d1, d2, d3, d4⟩ := h2
        rw [h1] at d3
        obtain ⟨w, w1, w2⟩ := rA_compl d _ _ _ d4
        rw [h1] at w1
        have hthe := rTh_of (rec := rA v ok k) d2 d3 w1
        have hmin := (rMin_some (show rMin ok (rTh v (rA v ok k) k P b r) (v 5) = some x from hA)).2 e _ d1.1 d1.2 hthe
        simp only [wt] at h3
        have hwe : w + 100 * pg v e + hg v e = x := by omega
        rw [hwe] at hthe
        have hge : g ≤ e := by
          by_cases q : g ≤ e
          · exact q
          · exact absurd hthe (q4 e (by omega) d1.2)
        have hmd := Cmp_mem d _ _ _ d4
        have hmc := Cmp_mem c _ _ _ c3
        have n1 := num_lt c (fun a ha => by have := hmc a ha; omega)
        simp only [num]
        rw [c2, h1]
        rw [c2] at n1
        by_cases hee : g = e
        · subst hee
          have := c5 d h1 d4 (by omega)
          omega
        · have : (g + 1) * 5 ^ k ≤ e * 5 ^ k := Nat.mul_le_mul_right _ (by omega)
          rw [Nat.add_mul, Nat.one_mul] at this
          omega
    · intro i hi
      by_cases e : i = k
      · subst e
        rw [c7 i (by omega), st_eq]
        simp
      · rw [c6 i (by omega), show k + 1 - 1 - i = (k - 1 - i) + 1 by omega]
        simp
    · intro i hi
      rw [c7 i (by omega), st_ne2 (by omega)]
    · intro q hq
      rw [c8 q hq, wq_st_ne hq]
def S910 (M M' : wq_M) : Prop := ∀ q, q ≠ 9 → q ≠ 10 → M'.1 q = M.1 q
theorem R_lays (hR : RepA (M.1 p) v) (hp : p = 4 ∨ p = 6) (wf : WF v) (hx : ∀ g, g < 5 → (nI g = x2 ↔ ok g = false)) : ∃ o M', fX7_laysBest p x2 M = some (rO o, M') ∧ S910 M M' ∧ (o = none → ∀ c, c.length = v 0 → ¬ Cmp v ok c 0 none 0) ∧ (∀ x, o = some x → x < 100000 ∧ ∃ c, c.length = v 0 ∧ Cmp v ok c 0 none 0 ∧ wt v c = x ∧ (∀ c', c'.length = v 0 → Cmp v ok c' 0 none 0 → x ≤ wt v c' ∧ (wt v c' = x → num c ≤ num c')) ∧ ∀ i, i < v 0 → M'.1 10 i = nI (c.getD (v 0 - 1 - i) 0)) := by
  have h8 := wf.n8
  have h2 := wf.1.1
  unfold fX7_laysBest
  rw [in_0_44, cl_0, hR.1 0 (by omega), if_pos rfl, ld_of (by omega)]
  obtain ⟨M1, e1, e2, e3⟩ := R_L9 (ok := ok) hR (by omega) wf hx
  rw [e1]
  simp only [Option.bind_some]
  have hR1 : RepA (M1.1 p) v := by rw [e3 p (by omega)]; exact hR
  have hl := R_least (M := M1) (p := p) (ok := ok) (k := v 0 - 1) (P := 0) (b := none) (r := 0) (x2 := x2) hR1 wf (by omega) (by omega) (fun y hy => by simp at hy) (by omega) hx (fun s hs => e2 s (by omega))
  rw [show v 0 - 1 + 1 = v 0 by omega] at hl
  rw [show fX7_leastAt p (nI (v 0 - 1)) 0 (-1) 0 x2 M1 = some (rO (rA v ok (v 0) 0 none 0)) from hl]
  simp only [Option.bind_some]
  cases ho : rA v ok (v 0) 0 none 0 with
  | none =>
    have hex : fX7_laysBest_L132 p x2 (rO none) (rO none, 0, -1, 0, nI (v 0 - 1), M1) = some (.inr M1) := by
      unfold fX7_laysBest_L132
      simp only []
      rw [if_neg (nI_pos (by omega)), if_pos (show (1000000000 : Int32) ≤ rO none by decide)]
    rw [FU_succ, lp_exit hex]
    refine ⟨none, M1, rfl, fun q a _ => e3 q a, fun _ c hc hC => ?_, fun x hx => by simp at hx⟩
    obtain ⟨x, x1, x2⟩ := rA_compl c _ _ _ hC
    rw [hc, ho] at x1
    simp at x1
  | some x =>
    have hxb := rA_le wf ho
    obtain ⟨M', c, c1, c2, c3, c4, c5, c6, c7, c8⟩ := R_greedy (p := p) wf hx (x4 := rO (some x)) (show ¬ 1000000000 ≤ rO (some x) by rw [rO_s, lit_nI 1000000000, nI_leI (by omega) (by omega)]; omega) (by omega) (v 0) 0 0 x wq_FU none M1 (by omega) (by omega) (fun y hy => by simp at hy) (by omega) hR1 e2 ho (FU_gt (by omega))
    rw [ld_of (by omega)] at c1
    rw [show ((rO (some x), (0 : Int32), (-1 : Int32), (0 : Int32), nI (v 0 - 1), M1) : Int32 × Int32 × Int32 × Int32 × Int32 × wq_M) = (nI x, nI 0, bO none, nI 0, nI (v 0 - 1), M1) from rfl, c1]
    refine ⟨some x, M', rfl, fun q a b => by rw [c8 q b, e3 q a], fun h => by simp at h, fun y hy => ?_⟩
    simp only [Option.some.injEq] at hy
    subst hy
    refine ⟨by omega, c, c2, c3, c4, fun c' h1 h2 => ⟨?_, c5 c' h1 h2⟩, c6⟩
    obtain ⟨w, w1, w2⟩ := rA_compl c' _ _ _ h2
    rw [h1, ho] at w1
    simp only [Option.some.injEq] at w1
    omega
end EM
