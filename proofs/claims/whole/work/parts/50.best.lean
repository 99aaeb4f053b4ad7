theorem getD_get {l : List Nat} {i : Nat} (h : i < l.length) : l.getD i 0 = l[i] := by simp [h]
section EQ
variable {Mc Mr : wq_M} {v : Nat → Nat} {ok : Nat → Bool}
theorem best_both {p p' : Nat} {x2c x2r : Int32} (wf : WF v) (hC : RepC Mc p v) (hs : iSr Mc) (hp : p = 20 ∨ p = 25) (hR : RepA (Mr.1 p') v) (hp' : p' = 4 ∨ p' = 6) (hxc : ∀ g, g < 5 → (nI g = x2c ↔ ok g = false)) (hxr : ∀ g, g < 5 → (nI g = x2r ↔ ok g = false)) : ∃ r o C N, fX4_find p x2c Mc = some (r, C) ∧ fX7_laysBest p' x2r Mr = some (rO o, N) ∧ F41 Mc C ∧ iSr C ∧ S910 Mr N ∧ ((r = false ∧ o = none) ∨ (r = true ∧ ∃ l x, o = some x ∧ l.length = v 0 ∧ (∀ e ∈ l, e < v 5) ∧ x = 100 * sC v l + sP v l ∧ sP v l < 100 ∧ x < 100000 ∧ C.1 41 1 = nI (sC v l) ∧ C.1 41 2 = nI (sP v l) ∧ (∀ i, i < 8 → C.1 42 i = nI (if i < v 0 then l.getD i 0 + 1 else 0) - 1) ∧ ∀ i, i < v 0 → N.1 10 i = nI (l.getD i 0))) := by
  have h8 := wf.n8
  have hm5 := wf.m5
  obtain ⟨r, C, f1, f2, f3, f4, f5⟩ := C_find (ok := ok) wf hC hs hp hxc
  obtain ⟨o, N, g1, g2, g3, g4⟩ := R_lays (ok := ok) hR hp' wf hxr
  refine ⟨r, o, C, N, f1, g1, f2, f3, g2, ?_⟩
  have hcs : ∀ c : List Nat, c.length = v 0 → (Cmp v ok c 0 none 0 ↔ Sd v ok c.reverse) := fun c hc => by
    have := Cmp_iff (v := v) (ok := ok) c [] trivial (by simp [hc])
    rw [List.append_nil] at this
    exact this
  cases r with
  | false =>
    left
    refine ⟨rfl, ?_⟩
    cases o with
    | none => rfl
    | some x =>
      obtain ⟨-, c, c1, c2, -⟩ := g4 x rfl
      exact absurd ((hcs c c1).mp c2) (f4 rfl c.reverse (by simp [c1]))
  | true =>
    right
    refine ⟨rfl, ?_⟩
    obtain ⟨l, d1, d2, d3, d4, d5, d6⟩ := f5 rfl
    have hml := Vd_mem l d2.1
    have hcl : Cmp v ok l.reverse 0 none 0 := (hcs l.reverse (by simp [d1])).mpr (by rw [List.reverse_reverse]; exact d2)
    cases o with
    | none => exact absurd hcl (g3 rfl l.reverse (by simp [d1]))
    | some x =>
      obtain ⟨x5, c, c1, c2, c3, c4, c5⟩ := g4 x rfl
      have hsm := (hcs c c1).mp c2
      have hb := d6 c.reverse (by simp [c1]) hsm
      obtain ⟨q1, q2⟩ := c4 l.reverse (by simp [d1]) hcl
      have w1 := wt_rev (v := v) c []
      have w2 := wt_rev (v := v) l.reverse []
      have n1 := num_rev c []
      have n2 := num_rev l.reverse []
      rw [List.append_nil] at w1 w2 n1 n2
      rw [List.reverse_reverse] at w2 n2
      simp only [sC, sP, sD, Nat.zero_mul, Nat.zero_add, Nat.mul_zero, Nat.add_zero] at w1 w2 n1 n2
      have hpl := (sP_b wf l hml).2
      have hmc := Vd_mem c.reverse hsm.1
      have hpc := (sP_b wf c.reverse hmc).2
      rw [List.length_reverse] at hpc
      have heq : sC v l = sC v c.reverse ∧ sP v l = sP v c.reverse ∧ sD l ≤ sD c.reverse := by
        unfold bef at hb
        omega
      have hwe : wt v l.reverse = x := by omega
      have hnn := q2 hwe
      have hce : c = l.reverse := by
        refine num_inj c l.reverse (fun e he => ?_) (fun e he => ?_) (by simp [c1, d1]) (by omega)
        · have := hmc e (by simpa using he)
          omega
        · have := hml e (by simpa using he)
          omega
      refine ⟨l, x, rfl, d1, hml, by omega, by omega, x5, d3, d4, d5, fun i hi => ?_⟩
      rw [c5 i hi, hce]
      congr 1
      have h1 : v 0 - 1 - i < l.reverse.length := by simp; omega
      have h2 : i < l.length := by omega
      rw [getD_get h1, getD_get h2, List.getElem_reverse]
      congr 1
      omega
theorem Inv_best {C N : wq_M} (h : Inv Mc Mr) (hc : F41 Mc C) (hs : iSr C) (hr : S910 Mr N) : Inv C N := by
  obtain ⟨c1, c2⟩ := hc
  exact Inv_obs h ⟨by rw [c1 0 (by omega)], fun q a b => c1 q (by omega), by rw [c1 18 (by omega)], by rw [c1 18 (by omega)], c1 19 (by omega), fun q a b => c1 q (by omega), fun q a b => c1 q (by omega), by rw [c1 47 (by omega)], c1 48 (by omega), c1 49 (by omega), by rw [c1 50 (by omega)], c1 51 (by omega)⟩ hs ⟨by rw [hr 0 (by omega) (by omega)], by rw [hr 0 (by omega) (by omega)], by rw [hr 0 (by omega) (by omega)], by rw [hr 0 (by omega) (by omega)], by rw [hr 0 (by omega) (by omega)], hr 1 (by omega) (by omega), hr 2 (by omega) (by omega), hr 3 (by omega) (by omega), hr 4 (by omega) (by omega), hr 7 (by omega) (by omega), hr 8 (by omega) (by omega), hr 12 (by omega) (by omega), hr 13 (by omega) (by omega), hr 14 (by omega) (by omega)⟩
theorem no_bar (x : Int32) (hx : x < 0) : ∀ g, g < 5 → (nI g = x ↔ (fun _ : Nat => true) g = false) := by
  intro g hg
  simp only [Bool.true_eq_false, iff_false]
  rintro rfl
  exact nI_pos (by omega) hx
theorem rO_ne {x : Nat} (h : x < 100000) : ¬ rO (some x) = 1000000000 := by
  rw [rO_s, lit_nI 1000000000, nI_eq (by omega) (by omega)]
  omega
theorem E_bestJ (hI : Inv Mc Mr) (hW : iWe Mc Mr v) (wf : WF v) {x1 : Int32} (hx : x1 = 0 ∨ x1 = 1 ∨ ∃ s, s < v 0 ∧ x1 - 10 = nI s ∧ x1 ≠ 0 ∧ x1 ≠ 1) : ∃ a C N, fX6_best_J42 x1 Mc = some (a, C) ∧ fX7_best_J39 x1 Mr = some (a, N) ∧ Inv C N := by
  have h8 := wf.n8
  obtain ⟨r, o, C, N, f1, f2, f3, f4, f5, f6⟩ := best_both (x2c := -1000000) (x2r := -1) wf hW.2.1 (Inv_sr hI) (Or.inl rfl) hW.2.2 (Or.inl rfl) (no_bar _ (by decide)) (no_bar _ (by decide))
  have hI2 := Inv_best hI f3 f4 f5
  unfold fX6_best_J42 fX7_best_J39
  rw [f1, f2]
  simp only [Option.bind_some]
  rcases f6 with ⟨rfl, rfl⟩ | ⟨rfl, l, x, rfl, d1, d2, d3, d4, d5, d6, d7, d8, d9⟩
  · exact ⟨_, C, N, rfl, rfl, hI2⟩
  · rw [if_pos rfl, if_neg (rO_ne d5), rO_s, lit_nI 100, pk_rem (by omega) (by omega) (by omega), pk_div (by omega) (by omega) (by omega), show x / 100 = sC v l by omega, show x % 100 = sP v l by omega, d6, d7]
    rcases hx with rfl | rfl | ⟨s, hs, e, z0, z1⟩
    · exact ⟨_, C, N, rfl, rfl, hI2⟩
    · exact ⟨_, C, N, rfl, rfl, hI2⟩
    · rw [if_neg z0, if_neg z1, if_neg z0, if_neg z1, e, in_nI (show s < 8 by omega) (by omega), cl_nI (by omega), d8 s (by omega), if_pos hs, nI_pred, d9 s hs]
      exact ⟨_, C, N, rfl, rfl, hI2⟩
theorem E_best (hI : Inv Mc Mr) (x1 : Int32) : ∃ a C N, fX6_best x1 Mc = some (a, C) ∧ fX7_best x1 Mr = some (a, N) ∧ Inv C N := by
  unfold fX6_best fX7_best
  have hI := Inv_t0 hI
  generalize wq_st Mr 0 0 0 = N at hI ⊢
  obtain ⟨v, hW, -⟩ := id hI
  rcases there_cases hW with ⟨e1, e2⟩ | ⟨wf, e1, e2⟩
  · rw [e1, e2]
    exact ⟨_, Mc, N, rfl, rfl, hI⟩
  have h8 := wf.n8
  rw [e1, e2]
  simp only [Option.bind_some, if_true, if_false, Bool.false_eq_true]
  rw [lit_lN 0, lit_lN 1]
  by_cases hz : x1 = 0
  · subst hz
    rw [if_pos rfl, show fX7_in (0 : Int32).toInt64 (lN 0) (lN 1) N = some true by rw [R_inl 0 0 1 (by omega) (by omega)]; decide]
    exact E_bestJ hI hW wf (Or.inl rfl)
  rw [if_neg hz]
  by_cases hz1 : x1 = 1
  · subst hz1
    rw [if_pos rfl, show fX7_in (1 : Int32).toInt64 (lN 0) (lN 1) N = some true by rw [R_inl 1 0 1 (by omega) (by omega)]; decide]
    exact E_bestJ hI hW wf (Or.inr (Or.inl rfl))
  rw [if_neg hz1]
  have hin : fX7_in x1.toInt64 (lN 0) (lN 1) N = some false := by
    rcases R_inb x1 0 1 (by omega) (by omega) N with ⟨-, e⟩ | ⟨-, e⟩ | ⟨k, h1, h2, rfl, e⟩
    · exact e
    · exact e
    · have : k = 0 ∨ k = 1 := by omega
      rcases this with rfl | rfl
      · exact absurd rfl hz
      · exact absurd rfl hz1
  rw [hin, hW.2.1.1]
  simp only [Option.bind_some, if_false, Bool.false_eq_true]
  rcases step_cases hW (x1 - 10) with ⟨q1, q2⟩ | ⟨s, hs, e, -, q1, q2⟩
  · rw [q2]
    simp only [Option.bind_some, if_false, Bool.false_eq_true]
    by_cases h10 : x1 < 10
    · rw [if_pos h10]
      exact ⟨_, Mc, N, rfl, rfl, hI⟩
    · rw [if_neg h10]
      have h0 : ¬ x1 < 0 := by
        rw [Int32.lt_iff_toInt_lt, show (10 : Int32).toInt = 10 by decide] at h10
        rw [Int32.lt_iff_toInt_lt, show (0 : Int32).toInt = 0 by decide]
        omega
      obtain ⟨k, hk, rfl⟩ := nI_of h0
      rw [lit_nI 10, nI_ltI (by omega) (by omega)] at h10
      rw [lit_nI 10, pk_sub (by omega)] at q1 ⊢
      unfold fX6_isStep at q1
      rw [if_neg (nI_pos (by omega)), hW.2.1.1] at q1
      by_cases hlt : k - 10 < v 0
      · rw [if_neg (show ¬ nI (v 0) ≤ nI (k - 10) by rw [nI_leI (by omega) (by omega)]; omega)] at q1
        simp at q1
      · rw [if_neg (show ¬ nI (k - 10) < nI (v 0) by rw [nI_ltI (by omega) (by omega)]; exact hlt)]
        exact ⟨_, Mc, N, rfl, rfl, hI⟩
  · have hx1 : x1 = nI (s + 10) := by
      have : x1 = (x1 - 10) + 10 := (Int32.sub_add_cancel x1 10).symm
      rw [this, e, lit_nI 10, nI_add]
    rw [q2, if_neg (show ¬ x1 < 10 by rw [hx1, lit_nI 10, nI_ltI (by omega) (by omega)]; omega), if_pos (show x1 - 10 < nI (v 0) by rw [e, nI_ltI (by omega) (by omega)]; exact hs)]
    exact E_bestJ hI hW wf (Or.inr (Or.inr ⟨s, hs, e, hz, hz1⟩))
theorem E_without (hI : Inv Mc Mr) (x1 : Int32) : ∃ a C N, fX6_without x1 Mc = some (a, C) ∧ fX7_without x1 Mr = some (a, N) ∧ Inv C N := by
  unfold fX6_without fX7_without
  have hI := Inv_t0 hI
  generalize wq_st Mr 0 0 0 = N at hI ⊢
  obtain ⟨v, hW, -⟩ := id hI
  rcases grade_cases hW x1 with ⟨e1, e2⟩ | ⟨g, hg, rfl, wf, e1, e2⟩
  · rw [e1, e2]
    exact ⟨_, Mc, N, rfl, rfl, hI⟩
  have h8 := wf.n8
  have hm := wf.m5
  have hbar : ∀ e, e < 5 → (nI e = nI g ↔ (fun e => decide (e ≠ g)) e = false) := fun e he => by
    rw [nI_eq (by omega) (by omega)]
    simp
  obtain ⟨r, o, C, N1, f1, f2, f3, f4, f5, f6⟩ := best_both wf hW.2.1 (Inv_sr hI) (Or.inl rfl) hW.2.2 (Or.inl rfl) hbar hbar
  have hI2 := Inv_best hI f3 f4 f5
  rw [e1, e2]
  simp only [Option.bind_some, if_true, f1, f2]
  rcases f6 with ⟨rfl, rfl⟩ | ⟨rfl, l, x, rfl, d1, d2, d3, d4, d5, d6, d7, d8, d9⟩
  · exact ⟨_, C, N1, rfl, rfl, hI2⟩
  · rw [if_pos rfl, if_neg (rO_ne d5), rO_s, lit_nI 100, pk_div (by omega) (by omega) (by omega), show x / 100 = sC v l by omega, d6]
    exact ⟨_, C, N1, rfl, rfl, hI2⟩
def vnw (v : Nat → Nat) (l : List Nat) : Nat → Nat := fun k => if 36 ≤ k ∧ k < 44 then (if k - 36 < v 0 then l.getD (k - 36) 0 + 1 else 0) else v k
theorem vnw_o {l : List Nat} {k : Nat} (h : k < 36) : vnw v l k = v k := by
  unfold vnw
  rw [if_neg (by omega)]
theorem vnw_l {l : List Nat} {s : Nat} (h : s < 8) : vnw v l (36 + s) = if s < v 0 then l.getD s 0 + 1 else 0 := by
  unfold vnw
  rw [if_pos (by omega), show 36 + s - 36 = s by omega]
theorem WF_nw (wf : WF v) {l : List Nat} (hl : l.length = v 0) (hm : ∀ e ∈ l, e < v 5) : WF (vnw v l) := by
  have h8 := wf.n8
  have hm5 := wf.m5
  obtain ⟨w1, w2, w3, w4, w5, w6, w7, w8, w9⟩ := wf
  refine ⟨?_, ?_, ?_, ?_, ?_, ?_, fun g hg => ?_, fun t ht => ?_, fun t h1 h2 => ?_⟩
  · rw [vnw_o (by omega)]; exact w1
  · rw [vnw_o (by omega)]; exact w2
  · rw [vnw_o (by omega)]; exact w3
  · rw [vnw_o (by omega)]; exact w4
  · rw [vnw_o (by omega)]; exact w5
  · rw [vnw_o (by omega)]; exact w6
  · rw [vnw_o (by omega)] at hg
    rw [vnw_o (by omega), vnw_o (by omega), vnw_o (by omega), vnw_o (by omega), vnw_o (by omega), vnw_o (by omega)]
    exact w7 g hg
  · rw [vnw_l ht, vnw_o (by omega)]
    by_cases h : t < v 0
    · rw [if_pos h]
      have h2 : t < l.length := by omega
      have := hm _ (List.getElem_mem h2)
      rw [getD_get h2]
      omega
    · rw [if_neg h]
      omega
  · rw [vnw_o (by omega)] at h1
    rw [vnw_l h2, if_neg (by omega)]
theorem sSum_head (f : Nat → Nat) : ∀ n, sSum f 0 (n + 1) = f 0 + sSum (fun i => f (i + 1)) 0 n
  | 0 => by simp [sSum]
  | n + 1 => by
    have := sSum_head f n
    show sSum f 0 (n + 1) + f (0 + (n + 1)) = f 0 + (sSum (fun i => f (i + 1)) 0 n + f (0 + n + 1))
    rw [this]
    simp only [Nat.zero_add]
    omega
theorem sSum_c {f g : Nat → Nat} {k : Nat} : ∀ {n : Nat}, (∀ i, i < n → f (k + i) = g (k + i)) → sSum f k n = sSum g k n
  | 0, _ => rfl
  | n + 1, h => by
    show sSum f k n + f (k + n) = sSum g k n + g (k + n)
    rw [sSum_c (fun i hi => h i (by omega)), h n (by omega)]
theorem sC_sum (v : Nat → Nat) : ∀ l : List Nat, sC v l = sSum (fun i => pg v (l.getD i 0)) 0 l.length
  | [] => rfl
  | g :: l => by
    rw [List.length_cons, sSum_head]
    simp only [sC, List.getD_cons_zero, List.getD_cons_succ]
    rw [sC_sum v l, Nat.add_comm]
theorem aCost_nw (wf : WF v) {l : List Nat} (hl : l.length = v 0) (hm : ∀ e ∈ l, e < v 5) : aCost (vnw v l) = sC v l := by
  have h8 := wf.n8
  rw [sC_sum, hl]
  unfold aCost
  rw [vnw_o (by omega)]
  refine sSum_c (fun i hi => ?_)
  rw [Nat.zero_add]
  unfold aPr
  rw [vnw_l (by omega), if_pos hi, if_neg (by omega), Nat.add_sub_cancel]
  have h2 : i < l.length := by omega
  have hm5 := wf.m5
  have hb : 6 + 6 * l.getD i 0 + 5 < 36 := by
    have := hm _ (List.getElem_mem h2)
    rw [getD_get h2]
    omega
  rw [vnw_o hb]
  rfl
end EQ
