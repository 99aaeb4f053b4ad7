section EO
variable {v : Nat → Nat} {ok : Nat → Bool} {M M0 : wq_M} {p be ab wb wa : Nat}
def kn (v : Nat → Nat) (ok : Nat → Bool) (k n : Nat) (l : List Nat) (g : Nat) : Prop := (k = 0 ∧ n = 1 ∧ (l = [] ∨ Mk v ok l (v 1))) ∨ ((1 ≤ k ∧ k ≤ v 1) ∧ n = min (k + 1) (v 1) ∧ l.head? = some g ∧ Mk v ok l k)
def Ex (v : Nat → Nat) (ok : Nat → Bool) (j : Nat) (Q : Nat → Nat → Nat → Prop) (n : Nat) (l : List Nat) : Prop := ∃ g l' k, l = g :: l' ∧ l'.length = j ∧ (g < v 5 ∧ ok g = true) ∧ aWould v (v 0 - 1 - j) g (sP v l' + hg v g) = true ∧ Q g (sP v l') k ∧ kn v ok k n l' g
def EB (v : Nat → Nat) (ok : Nat → Bool) (j : Nat) (Q : Nat → Nat → Nat → Prop) (i : Nat) (l : List Nat) : Prop := ∃ n, Ex v ok j Q n l ∧ i = ix (sP v l) (l.headD 0) n
def EW (v : Nat → Nat) (ok : Nat → Bool) (j : Nat) (Q : Nat → Nat → Nat → Prop) (i : Nat) (l : List Nat) : Prop := Ex v ok j Q (v 1) l ∧ i = sP v l
def SB (v : Nat → Nat) (ok : Nat → Bool) (j i : Nat) (l : List Nat) : Prop := l.length = j ∧ ∃ n, Mk v ok l n ∧ i = ix (sP v l) (l.headD 0) n
def SW (v : Nat → Nat) (ok : Nat → Bool) (j i : Nat) (l : List Nat) : Prop := l.length = j ∧ (l = [] ∨ Mk v ok l (v 1)) ∧ i = sP v l
theorem Mk_n (hL : 1 ≤ v 1 ∧ v 1 ≤ 3) {l : List Nat} {n : Nat} (h : Mk v ok l n) : 1 ≤ n ∧ n ≤ v 1 := by
  cases l with
  | nil => exact absurd h (by simp [Mk])
  | cons g l =>
    obtain ⟨-, -, h | ⟨k, k1, k2, -⟩⟩ := h
    · omega
    · omega
theorem Mk_mem (hL : 1 ≤ v 1 ∧ v 1 ≤ 3) {l : List Nat} {n : Nat} (h : Mk v ok l n) : ∀ g ∈ l, g < v 5 := Vd_mem l (Mk_i hL l n h).1
theorem kn_mem (hL : 1 ≤ v 1 ∧ v 1 ≤ 3) {l : List Nat} {k n g : Nat} (h : kn v ok k n l g) : ∀ e ∈ l, e < v 5 := by
  rcases h with ⟨-, -, rfl | h⟩ | ⟨-, -, -, h⟩
  · intro e he
    simp at he
  · exact Mk_mem hL h
  · exact Mk_mem hL h
theorem kn_n {l : List Nat} {k n g : Nat} (h : kn v ok k n l g) : n = if k = 0 then 1 else min (k + 1) (v 1) := by
  rcases h with ⟨h1, h2, -⟩ | ⟨h1, h2, -⟩
  · rw [if_pos h1]; exact h2
  · rw [if_neg (by omega)]; exact h2
theorem Ex_b (wf : WF v) {j n : Nat} {Q : Nat → Nat → Nat → Prop} {l : List Nat} (hj : j ≤ 7) (h : Ex v ok j Q n l) : val v l < 2 ^ 30 ∧ (∀ e ∈ l, e < v 5) ∧ l.length = j + 1 := by
  obtain ⟨g, l', k, rfl, h2, h3, -, -, h6⟩ := h
  have hm := kn_mem wf.2.1 h6
  have hm2 : ∀ e ∈ g :: l', e < v 5 := fun e he => by
    rcases List.mem_cons.mp he with rfl | he
    · exact h3.1
    · exact hm e he
  have := val_b wf hm2 (by simp; omega)
  exact ⟨by omega, hm2, by simp [h2]⟩
theorem Ex_c {j n : Nat} {Q Q' : Nat → Nat → Nat → Prop} (hQ : ∀ g l k n, l.length = j → g < v 5 → ok g = true → aWould v (v 0 - 1 - j) g (sP v l + hg v g) = true → kn v ok k n l g → (Q g (sP v l) k ↔ Q' g (sP v l) k)) (l : List Nat) : Ex v ok j Q n l ↔ Ex v ok j Q' n l := by
  constructor
  · rintro ⟨g, l', k, h1, h2, h3, h4, h5, h6⟩
    exact ⟨g, l', k, h1, h2, h3, h4, (hQ g l' k n h2 h3.1 h3.2 h4 h6).mp h5, h6⟩
  · rintro ⟨g, l', k, h1, h2, h3, h4, h5, h6⟩
    exact ⟨g, l', k, h1, h2, h3, h4, (hQ g l' k n h2 h3.1 h3.2 h4 h6).mpr h5, h6⟩
/-- how a stage stands -/
def TS (v : Nat → Nat) (ok : Nat → Bool) (M0 : wq_M) (p be ab wb wa j : Nat) (Q : Nat → Nat → Nat → Prop) (M : wq_M) : Prop := SM v M p be ab wb wa ∧ Cv v 1095 (M.1 ab) (EB v ok j Q) ∧ Cv v 73 (M.1 wa) (EW v ok j Q) ∧ Cv v 1095 (M.1 be) (SB v ok j) ∧ Cv v 73 (M.1 wb) (SW v ok j) ∧ (∀ q, q ≠ ab → q ≠ wa → M.1 q = M0.1 q) ∧ M.2 = M0.2
theorem TS_c {j : Nat} {Q Q' : Nat → Nat → Nat → Prop} (h : TS v ok M0 p be ab wb wa j Q M) (hQ : ∀ g l k n, l.length = j → g < v 5 → ok g = true → aWould v (v 0 - 1 - j) g (sP v l + hg v g) = true → kn v ok k n l g → (Q g (sP v l) k ↔ Q' g (sP v l) k)) : TS v ok M0 p be ab wb wa j Q' M := by
  obtain ⟨h1, h2, h3, h4⟩ := h
  refine ⟨h1, Cv_c h2 (fun i _ l => ?_), Cv_c h3 (fun i _ l => ?_), h4⟩
  · constructor
    · rintro ⟨n, q1, q2⟩
      exact ⟨n, (Ex_c hQ l).mp q1, q2⟩
    · rintro ⟨n, q1, q2⟩
      exact ⟨n, (Ex_c hQ l).mpr q1, q2⟩
  · constructor
    · rintro ⟨q1, q2⟩
      exact ⟨(Ex_c hQ l).mp q1, q2⟩
    · rintro ⟨q1, q2⟩
      exact ⟨(Ex_c hQ l).mpr q1, q2⟩
theorem ts_step {j g u k : Nat} {Q : Nat → Nat → Nat → Prop} (h : TS v ok M0 p be ab wb wa j Q M) (hp : pls p be ab wb wa) (wf : WF v) (hj : j ≤ 7) (hgv : g < v 5) (hok : ok g = true) (hu : u ≤ 9 * j) (hw : aWould v (v 0 - 1 - j) g (u + hg v g) = true) (hk : k ≤ v 1) : ∃ M', fX4_layOn (if k = 0 then M.1 wb u else M.1 be (ix u g k)) (nI u) (nI g) (nI (if k = 0 then 1 else min (k + 1) (v 1))) M = some M' ∧ TS v ok M0 p be ab wb wa j (fun g' u' k' => Q g' u' k' ∨ (g' = g ∧ u' = u ∧ k' = k)) M' := by
  obtain ⟨h1, h2, h3, h4, h5, h6, h7⟩ := h
  have hm := wf.m5
  have hL := wf.2.1
  have hn : 1 ≤ (if k = 0 then 1 else min (k + 1) (v 1)) ∧ (if k = 0 then 1 else min (k + 1) (v 1)) ≤ 3 := by
    split <;> omega
  obtain ⟨M', e1, e2, e3, e4, e5, e6⟩ := lay_step (x := if k = 0 then M.1 wb u else M.1 be (ix u g k)) (B := fun l => l.length = j ∧ sP v l = u ∧ kn v ok k (if k = 0 then 1 else min (k + 1) (v 1)) l g) (n := if k = 0 then 1 else min (k + 1) (v 1)) h1 hp wf hj hu hgv hn (fun l hl => ⟨hl.1, kn_mem hL hl.2.2⟩) (by
    by_cases hk0 : k = 0
    · rw [if_pos hk0, if_pos hk0]
      have hq : ∀ l, SW v ok j u l ↔ (l.length = j ∧ sP v l = u ∧ kn v ok k 1 l g) := fun l => by
        constructor
        · rintro ⟨q1, q2, q3⟩
          exact ⟨q1, q3.symm, Or.inl ⟨hk0, rfl, q2⟩⟩
        · rintro ⟨q1, q2, q3⟩
          rcases q3 with q3 | q3
          · exact ⟨q1, q3.2.2, q2.symm⟩
          · omega
      rcases h5 u (by omega) with ⟨a1, a2⟩ | ⟨l, a1, a2, a3⟩
      · exact Or.inl ⟨a1, fun l hl => a2 l ((hq l).mpr hl)⟩
      · exact Or.inr ⟨l, (hq l).mp a1, a2, fun l' hl' => a3 l' ((hq l').mpr hl')⟩
    · rw [if_neg hk0, if_neg hk0]
      have hq : ∀ l, SB v ok j (ix u g k) l ↔ (l.length = j ∧ sP v l = u ∧ kn v ok k (min (k + 1) (v 1)) l g) := fun l => by
        constructor
        · rintro ⟨q1, n, q2, q3⟩
          have hn := Mk_n hL q2
          have hl : ∃ e l', l = e :: l' := by
            cases l with
            | nil => exact absurd q2 (by simp [Mk])
            | cons e l' => exact ⟨e, l', rfl⟩
          obtain ⟨e, l', rfl⟩ := hl
          have he := Mk_mem hL q2 e (by simp)
          simp only [List.headD_cons] at q3
          obtain ⟨z1, z2, z3⟩ := ix_inj (show g < 5 by omega) (by omega) (show e < 5 by omega) (by omega) q3
          subst z2
          subst z3
          exact ⟨q1, z1.symm, Or.inr ⟨by omega, rfl, rfl, q2⟩⟩
        · rintro ⟨q1, q2, q3⟩
          rcases q3 with q3 | q3
          · omega
          · refine ⟨q1, k, q3.2.2.2, ?_⟩
            have hd : l.headD 0 = g := by
              have := q3.2.2.1
              cases l with
              | nil => simp at this
              | cons e l' => simp at this; simp [this]
            rw [hd, q2]
      rcases h4 (ix u g k) (ix_lt (by omega) (by omega) (by omega)) with ⟨a1, a2⟩ | ⟨l, a1, a2, a3⟩
      · exact Or.inl ⟨a1, fun l hl => a2 l ((hq l).mpr hl)⟩
      · exact Or.inr ⟨l, (hq l).mp a1, a2, fun l' hl' => a3 l' ((hq l').mpr hl')⟩) h2 h3 (fun i l hl => by
    obtain ⟨n, q1, -⟩ := hl
    exact (Ex_b wf hj q1).1) (fun i l hl => (Ex_b wf hj hl.1).1)
  have hpl := hp
  obtain ⟨hp0, hp1, hp2⟩ := hpl
  refine ⟨M', e1, e2, Cv_c e5 (fun i _ l => ?_), Cv_c e6 (fun i _ l => ?_), ?_, ?_, fun q x y => by rw [e4 q x y, h6 q x y], by rw [e3, h7]⟩
  · constructor
    · rintro (⟨n, ⟨g', l', k', q1, q2, q3, q4, q5, q6⟩, q7⟩ | ⟨q1, l', ⟨q2, q3, q4⟩, rfl⟩)
      · exact ⟨n, ⟨g', l', k', q1, q2, q3, q4, Or.inl q5, q6⟩, q7⟩
      · refine ⟨_, ⟨g, l', k, rfl, q2, ⟨hgv, hok⟩, by rw [q3]; exact hw, Or.inr ⟨rfl, q3, rfl⟩, q4⟩, ?_⟩
        rw [q1]
        simp only [sP, List.headD_cons, q3]
    · rintro ⟨n, ⟨g', l', k', rfl, q2, q3, q4, q5, q6⟩, q7⟩
      rcases q5 with q5 | ⟨rfl, q5, rfl⟩
      · exact Or.inl ⟨n, ⟨g', l', k', rfl, q2, q3, q4, q5, q6⟩, q7⟩
      · right
        have := kn_n q6
        subst this
        refine ⟨?_, l', ⟨q2, q5, q6⟩, rfl⟩
        rw [q7]
        simp only [sP, List.headD_cons, q5]
  · constructor
    · rintro (⟨⟨g', l', k', q1, q2, q3, q4, q5, q6⟩, q7⟩ | ⟨q1, qn, l', ⟨q2, q3, q4⟩, rfl⟩)
      · exact ⟨⟨g', l', k', q1, q2, q3, q4, Or.inl q5, q6⟩, q7⟩
      · rw [qn] at q4
        refine ⟨⟨g, l', k, rfl, q2, ⟨hgv, hok⟩, by rw [q3]; exact hw, Or.inr ⟨rfl, q3, rfl⟩, q4⟩, ?_⟩
        rw [q1]
        simp only [sP, q3]
    · rintro ⟨⟨g', l', k', rfl, q2, q3, q4, q5, q6⟩, q7⟩
      rcases q5 with q5 | ⟨rfl, q5, rfl⟩
      · exact Or.inl ⟨⟨g', l', k', rfl, q2, q3, q4, q5, q6⟩, q7⟩
      · right
        have := kn_n q6
        rw [this] at q6
        refine ⟨?_, this.symm, l', ⟨q2, q5, q6⟩, rfl⟩
        rw [q7]
        simp only [sP, q5]
  · rw [e4 be (by omega) (by omega)]
    exact h4
  · rw [e4 wb (by omega) (by omega)]
    exact h5
theorem C_inner {j g u : Nat} {Q : Nat → Nat → Nat → Prop} (h : TS v ok M0 p be ab wb wa j (fun g' u' k' => Q g' u' k' ∨ (g' = g ∧ u' = u ∧ k' < 1)) M) (hp : pls p be ab wb wa) (wf : WF v) (hj : j ≤ 7) (hgv : g < v 5) (hok : ok g = true) (hu : u ≤ 9 * j) (hw : aWould v (v 0 - 1 - j) g (u + hg v g) = true) (x1 x3 x4 : Int32) : ∃ M', wq_lp (fX4_layOnAll_L26_L73 x1 (nI g) x3 x4 (nI u)) wq_FU (1, M) = some M' ∧ TS v ok M0 p be ab wb wa j (fun g' u' k' => Q g' u' k' ∨ (g' = g ∧ u' = u ∧ k' < v 1 + 1)) M' := by
  have hm := wf.m5
  have hL := wf.2.1
  obtain ⟨o1, o2, o3, o4, o5, l1, l2, l3, l4⟩ := pls_ok hp
  refine lp_inv (body := fX4_layOnAll_L26_L73 x1 (nI g) x3 x4 (nI u)) (fun n z => ∃ k, z.1 = nI k ∧ n + k = v 1 + 1 ∧ 1 ≤ k ∧ TS v ok M0 p be ab wb wa j (fun g' u' k' => Q g' u' k' ∨ (g' = g ∧ u' = u ∧ k' < k)) z.2) _ ?_ (v 1) wq_FU (1, M) ⟨1, rfl, rfl, by omega, h⟩ (FU_gt (by omega))
  rintro n ⟨x, M⟩ ⟨k, q1, q2, q3, q4⟩
  simp only at q1 q4
  subst q1
  obtain ⟨a1, a2, a3, a4, a5, a6, a7⟩ := id q4.1
  unfold fX4_layOnAll_L26_L73 fX4_state
  simp only []
  rw [a6]
  by_cases hz : n = 0
  · left
    have : k = v 1 + 1 := by omega
    subst this
    exact ⟨M, by rw [if_pos (show nI (v 1) < nI (v 1 + 1) by rw [nI_ltI (by omega) (by omega)]; omega)], q4⟩
  · right
    obtain ⟨n, rfl⟩ : ∃ i, n = i + 1 := ⟨n - 1, by omega⟩
    have hix := ix_lt (P := u) (g := g) (n := k) (by omega) (by omega) (by omega)
    obtain ⟨M', e1, e2⟩ := ts_step (k := k) q4 hp wf hj hgv hok hu hw (by omega)
    rw [if_neg (show ¬ k = 0 by omega), if_neg (show ¬ k = 0 by omega)] at e1
    rw [if_neg (show ¬ nI (v 1) < nI k by rw [nI_ltI (by omega) (by omega)]; omega), a1]
    simp only [Option.bind_some, o1, l1, if_true]
    rw [lit_nI 5, pk_mul, nI_add, lit_nI 3, pk_mul, nI_add, show nI ((u * 5 + g) * 3 + k) - 1 = nI (ix u g k) by rw [lit_nI 1, pk_sub (by omega)]; rfl, in_nI hix (by omega), cl_nI (by omega), nI_1]
    have hmn : (if nI (v 1) < nI (k + 1) then nI (v 1) else nI (k + 1)) = nI (min (k + 1) (v 1)) := by
      by_cases hlt : v 1 < k + 1
      · rw [if_pos ((nI_ltI (by omega) (by omega)).mpr hlt), Nat.min_eq_right (by omega)]
      · rw [if_neg (fun q => hlt ((nI_ltI (by omega) (by omega)).mp q)), Nat.min_eq_left (by omega)]
    rw [hmn]
    simp only [if_true, e1, Option.bind_some]
    refine ⟨n, _, rfl, rfl, k + 1, rfl, by omega, by omega, TS_c e2 (fun g' l k' n' _ _ _ _ _ => ?_)⟩
    constructor
    · rintro ((z | z) | z)
      · exact Or.inl z
      · exact Or.inr ⟨z.1, z.2.1, by omega⟩
      · exact Or.inr ⟨z.1, z.2.1, by omega⟩
    · rintro (z | z)
      · exact Or.inl (Or.inl z)
      · by_cases e : k' = k
        · exact Or.inr ⟨z.1, z.2.1, e⟩
        · exact Or.inl (Or.inr ⟨z.1, z.2.1, by omega⟩)
theorem C_layOnAll {j g : Nat} (h : TS v ok M0 p be ab wb wa j (fun g' _ _ => g' < g) M) (hp : pls p be ab wb wa) (wf : WF v) (hj : j < v 0) (hgv : g < v 5) (hok : ok g = true) : ∃ M', fX4_layOnAll (nI (v 0 - 1 - j)) (nI g) M = some M' ∧ TS v ok M0 p be ab wb wa j (fun g' _ _ => g' < g + 1) M' := by
  have h8 := wf.n8
  have hm := wf.m5
  have hL := wf.2.1
  have hhg : 1 ≤ hg v g ∧ hg v g ≤ 9 := (wf.gr hgv).2.2.2.2.1
  obtain ⟨o1, o2, o3, o4, o5, l1, l2, l3, l4⟩ := pls_ok hp
  obtain ⟨a1, a2, a3, a4, a5, a6, a7⟩ := id h.1
  unfold fX4_layOnAll
  rw [a5]
  simp only [Option.bind_some, o5, if_true]
  rw [a7.1, lit_nI 3, C_figure a7 hm hgv (by omega), show (1 : Int32) = nI 1 from rfl, pk_sub (by omega), pk_sub (by omega), show v 0 - 1 - (v 0 - 1 - j) = j by omega]
  simp only [Option.bind_some]
  rw [show v (6 + 6 * g + (1 + 3)) = hg v g from rfl]
  have hkey : ∃ M', wq_lp (fX4_layOnAll_L26 (nI (v 0 - 1 - j)) (nI g) (nI j) (nI (hg v g))) wq_FU (nI j, M) = some M' ∧ TS v ok M0 p be ab wb wa j (fun g' _ _ => g' < g + 1) M' := by
    refine lp_inv (body := fX4_layOnAll_L26 (nI (v 0 - 1 - j)) (nI g) (nI j) (nI (hg v g))) (fun n z => ∃ u, z.1 = nI u ∧ n + u = 9 * j + 1 ∧ j ≤ u ∧ TS v ok M0 p be ab wb wa j (fun g' u' _ => g' < g ∨ (g' = g ∧ u' < u)) z.2) _ ?_ (8 * j + 1) wq_FU (nI j, M) ⟨j, rfl, by omega, by omega, TS_c h (fun g' l k n z1 z2 z3 z4 z5 => ?_)⟩ (FU_gt (by omega))
    · rintro n ⟨x, M⟩ ⟨u, q1, q2, q3, q4⟩
      simp only at q1 q4
      subst q1
      obtain ⟨c1, c2, c3, c4, c5, c6, c7⟩ := id q4.1
      unfold fX4_layOnAll_L26
      simp only []
      rw [lit_nI 9, pk_mul]
      by_cases hz : n = 0
      · left
        refine ⟨M, by rw [if_pos (show nI (j * 9) < nI u by rw [nI_ltI (by omega) (by omega)]; omega)], TS_c q4 (fun g' l k n' z1 z2 z3 z4 z5 => ?_)⟩
        have hb := sP_b wf l (kn_mem hL z5)
        rw [z1] at hb
        constructor
        · rintro (z | z)
          · omega
          · omega
        · intro z
          by_cases e : g' = g
          · exact Or.inr ⟨e, by omega⟩
          · exact Or.inl (by omega)
      · obtain ⟨n, rfl⟩ : ∃ i, n = i + 1 := ⟨n - 1, by omega⟩
        rw [if_neg (show ¬ nI (j * 9) < nI u by rw [nI_ltI (by omega) (by omega)]; omega), c5]
        simp only [Option.bind_some, o5, if_true]
        rw [nI_add, C_wouldHold c7 wf (by omega) hgv (by omega)]
        simp only [Option.bind_some]
        by_cases hw : aWould v (v 0 - 1 - j) g (u + hg v g) = true
        · right
          rw [if_pos hw, c3]
          simp only [Option.bind_some, o3, l3, if_true]
          rw [in_nI (show u < 73 by omega) (by omega), cl_nI (by omega)]
          simp only [if_true]
          obtain ⟨M1, e1, e2⟩ := ts_step (k := 0) q4 hp wf (by omega) hgv hok (by omega) hw (by omega)
          rw [if_pos rfl, if_pos rfl] at e1
          rw [show (1 : Int32) = nI 1 from rfl, e1]
          simp only [Option.bind_some]
          obtain ⟨M2, e3, e4⟩ := C_inner (Q := fun g' u' _ => g' < g ∨ (g' = g ∧ u' < u)) (TS_c e2 (fun g' l k' n' _ _ _ _ _ => by
            constructor
            · rintro (z | z)
              · exact Or.inl z
              · exact Or.inr ⟨z.1, z.2.1, by omega⟩
            · rintro (z | z)
              · exact Or.inl z
              · exact Or.inr ⟨z.1, z.2.1, by omega⟩)) hp wf (by omega) hgv hok (by omega) hw (nI (v 0 - 1 - j)) (nI j) (nI (hg v g))
          rw [show (nI 1, M1) = ((1 : Int32), M1) from rfl, e3]
          simp only [Option.bind_some]
          rw [nI_add]
          refine ⟨n, _, rfl, rfl, u + 1, rfl, by omega, by omega, TS_c e4 (fun g' l k' n' z1 z2 z3 z4 z5 => ?_)⟩
          have hk' : k' < v 1 + 1 := by
            rcases z5 with ⟨z, -⟩ | ⟨z, -⟩
            · omega
            · omega
          constructor
          · rintro (z | z)
            · omega
            · omega
          · rintro z
            by_cases e : g' = g ∧ sP v l = u
            · exact Or.inr ⟨e.1, e.2, hk'⟩
            · exact Or.inl (by omega)
        · left
          rw [if_neg hw]
          refine ⟨M, rfl, TS_c q4 (fun g' l k n' z1 z2 z3 z4 z5 => ?_)⟩
          constructor
          · rintro z
            omega
          · intro z
            by_cases e : g' = g
            · subst e
              right
              refine ⟨rfl, ?_⟩
              by_cases hlt : sP v l < u
              · exact hlt
              · exact absurd (aWould_anti (show u + hg v g' ≤ sP v l + hg v g' by omega) z4) hw
            · exact Or.inl (by omega)
    · have hb := sP_b wf l (kn_mem hL z5)
      rw [z1] at hb
      constructor
      · exact Or.inl
      · rintro (z | z)
        · exact z
        · omega
  obtain ⟨M', e1, e2⟩ := hkey
  rw [e1]
  exact ⟨M', rfl, e2⟩
end EO
