theorem lp_rel {α β γ δ : Type} {b1 : α → Option (α ⊕ β)} {b2 : γ → Option (γ ⊕ δ)} (J : Nat → α → γ → Prop) (Q : β → δ → Prop) (h : ∀ k s t, J k s t → (∃ y z, b1 s = some (.inr y) ∧ b2 t = some (.inr z) ∧ Q y z) ∨ (∃ k' s' t', k = k' + 1 ∧ b1 s = some (.inl s') ∧ b2 t = some (.inl t') ∧ J k' s' t')) : ∀ k n s t, J k s t → k < n → ∃ y z, wq_lp b1 n s = some y ∧ wq_lp b2 n t = some z ∧ Q y z := by
  intro k
  induction k with
  | zero =>
    intro n s t hJ hn
    obtain ⟨n, rfl⟩ : ∃ m, n = m + 1 := ⟨n - 1, by omega⟩
    rcases h 0 s t hJ with ⟨y, z, e1, e2, hq⟩ | ⟨k', s', t', hk, -⟩
    · exact ⟨y, z, lp_exit e1, lp_exit e2, hq⟩
    · omega
  | succ k ih =>
    intro n s t hJ hn
    obtain ⟨n, rfl⟩ : ∃ m, n = m + 1 := ⟨n - 1, by omega⟩
    rcases h (k + 1) s t hJ with ⟨y, z, e1, e2, hq⟩ | ⟨k', s', t', hk, e1, e2, hJ'⟩
    · exact ⟨y, z, lp_exit e1, lp_exit e2, hq⟩
    · have : k = k' := by omega
      subst this
      rw [lp_step e1, lp_step e2]
      exact ih n s' t' hJ' (by omega)
theorem cnt_all {P : Nat → Bool} : ∀ {n : Nat}, (∀ i, i < n → P i = true) → sSum (fun s => aB (P s)) 0 n = n
  | 0, _ => rfl
  | n + 1, h => by
    show sSum (fun s => aB (P s)) 0 n + aB (P (0 + n)) = n + 1
    rw [cnt_all (fun i hi => h i (by omega)), Nat.zero_add, h n (by omega)]
    rfl
theorem cnt_le {P : Nat → Bool} : ∀ {n : Nat}, sSum (fun s => aB (P s)) 0 n ≤ n
  | 0 => Nat.le_refl _
  | n + 1 => by
    show sSum (fun s => aB (P s)) 0 n + aB (P (0 + n)) ≤ n + 1
    have := cnt_le (P := P) (n := n)
    have := aB_le (P (0 + n))
    omega
theorem cnt_not {P : Nat → Bool} {t : Nat} (ht : P t = false) : ∀ {n : Nat}, t < n → sSum (fun s => aB (P s)) 0 n < n
  | 0, h => by omega
  | n + 1, h => by
    show sSum (fun s => aB (P s)) 0 n + aB (P (0 + n)) < n + 1
    have h1 := cnt_le (P := P) (n := n)
    have h2 := aB_le (P (0 + n))
    by_cases e : t = n
    · subst e
      rw [Nat.zero_add, ht]
      show _ + 0 < _
      omega
    · have := cnt_not (P := P) ht (n := n) (by omega)
      omega
section EA
variable {Mc Mr : wq_M} {v : Nat → Nat}
theorem first_many (wf : WF v) : aFirst v = -1000000 ↔ nI (aMany v) = nI (v 0) := by
  have h8 := wf.n8
  have hle : aMany v ≤ v 0 := cnt_le
  rw [nI_eq (by omega) (by omega)]
  unfold aFirst
  cases h : aFst (aHolds v) 0 (v 0) with
  | none =>
    have h1 := aFst_none h
    have : aMany v = v 0 := cnt_all (fun i hi => by have := h1 i hi; rwa [Nat.zero_add] at this)
    exact ⟨fun _ => this, fun _ => rfl⟩
  | some t =>
    obtain ⟨h1, h2, h3⟩ := aFst_some h
    have h4 : aMany v < v 0 := cnt_not h3 (by omega)
    refine ⟨fun q => ?_, fun q => by omega⟩
    have h5 : nI t = -1000000 := q
    rw [← Int32.toInt_inj, nI_toInt (by omega), show (-1000000 : Int32).toInt = -1000000 by decide] at h5
    omega
def Sc (Mc C : wq_M) : Prop := (∀ q, (q < 25 ∨ 30 ≤ q) → C.1 q = Mc.1 q) ∧ C.2 = Mc.2
def Sr (N N' : wq_M) : Prop := ∀ q, q ≠ 6 → N'.1 q = N.1 q
theorem Inv_scr {C N : wq_M} (h : Inv Mc Mr) (hc : Sc Mc C) (hr : Sr Mr N) : Inv C N := by
  obtain ⟨c1, c2⟩ := hc
  refine Inv_obs h ⟨by rw [c1 0 (by omega)], fun q a b => c1 q (by omega), by rw [c1 18 (by omega)], by rw [c1 18 (by omega)], c1 19 (by omega), fun q a b => c1 q (by omega), fun q a b => c1 q (by omega), by rw [c1 47 (by omega)], c1 48 (by omega), c1 49 (by omega), by rw [c1 50 (by omega)], c1 51 (by omega)⟩ ?_ ⟨by rw [hr 0 (by omega)], by rw [hr 0 (by omega)], by rw [hr 0 (by omega)], by rw [hr 0 (by omega)], by rw [hr 0 (by omega)], hr 1 (by omega), hr 2 (by omega), hr 3 (by omega), hr 4 (by omega), hr 7 (by omega), hr 8 (by omega), hr 12 (by omega), hr 13 (by omega), hr 14 (by omega)⟩
  unfold iSr
  rw [c2]
  exact Inv_sr h
theorem Sc_st {C : wq_M} (h : Sc Mc C) {p k : Nat} (hp : 25 ≤ p ∧ p < 30) (x : Int32) : Sc Mc (wq_st C p k x) := ⟨fun q hq => by rw [wq_st_ne (by omega)]; exact h.1 q hq, h.2⟩
theorem Sr_st {N : wq_M} (h : Sr Mr N) {k : Nat} (x : Int32) : Sr Mr (wq_st N 6 k x) := fun q hq => by rw [wq_st_ne hq]; exact h q hq
/-- what both do before they suppose -/
theorem sup_both (hW : iWe Mc Mr v) (wf : WF v) : ∃ C, fX5_becomes 25 20 Mc = some C ∧ RepC C 25 v ∧ Sc Mc C ∧ RepA ((blk Mr 6 0 4 0 44).1 6) v ∧ Sr Mr (blk Mr 6 0 4 0 44) := by
  obtain ⟨C, b1, b2, b3, b4⟩ := C_becomes (p := 25) (q := 20) (by omega) wf.m5 hW.2.1
  refine ⟨C, b1, b2, ⟨fun q hq => b3 q (by omega), b4⟩, ?_, fun q hq => blk_ne hq⟩
  have := RepA_blk (M := Mr) (q := 6) (D := 0) (p := 4) (S := 0) (v := v) (RepA_0.mpr hW.2.2)
  exact RepA_0.mp this
def Jm (Mc N : wq_M) (k : Nat) (s t : Int32 × wq_M) : Prop := s.1 = nI k - 1 ∧ t.1 = nI k - 1 ∧ Sc Mc s.2 ∧ Sr N t.2 ∧ ∃ u, WF u ∧ RepC s.2 25 u ∧ RepA (t.2.1 6) u
theorem E_mostL {N C : wq_M} {w r k : Nat} (hw : w = 0 ∧ r = 2 ∧ k ≤ 41 ∨ w = 1 ∧ r = 3 ∧ k ≤ 100) (h0 : Jm Mc N k (nI k - 1, C) (nI k - 1, Mr)) (hI : Inv Mc N) : ∃ a C' N', fX6_most_J44 (nI w) (nI k - 1) C = some (a, C') ∧ fX7_most_J43 (nI w) (nI k - 1) Mr = some (a, N') ∧ Inv C' N' := by
  have hq : rlp w r := by rcases hw with h | h <;> unfold rlp <;> omega
  have hw4 : w < 4 := by omega
  have key := lp_rel (b1 := fX6_most_L45 (nI w)) (b2 := fX7_most_L44 (nI w)) (fun k s t => Jm Mc N k s t ∧ (w = 0 ∧ r = 2 ∧ k ≤ 41 ∨ w = 1 ∧ r = 3 ∧ k ≤ 100)) (fun y z => (∃ a C' N', y = .inl (a, C') ∧ z = .inl (a, N') ∧ Sc Mc C' ∧ Sr N N') ∨ ∃ C' N', y = .inr C' ∧ z = .inr N' ∧ Sc Mc C' ∧ Sr N N') (by
    rintro k ⟨x, C⟩ ⟨y, M⟩ ⟨⟨h1, h2, h3, h4, u, wf, h5, h6⟩, hk⟩
    simp only at h1 h2 h3 h4 h5 h6
    subst h1
    subst h2
    unfold fX6_most_L45 fX7_most_L44
    simp only []
    by_cases hz : k = 0
    · left
      subst hz
      rw [if_pos (show nI 0 - 1 < 0 by decide)]
      exact ⟨_, _, rfl, rfl, Or.inr ⟨_, _, rfl, rfl, h3, h4⟩⟩
    obtain ⟨k, rfl⟩ : ∃ j, k = j + 1 := ⟨k - 1, by omega⟩
    rw [nI_pred, if_neg (nI_pos (by omega)), if_neg (nI_pos (by omega)), in_nI hw4 (by omega), cl_nI (by omega)]
    have wf' : WF (vup u r k) := WF_rule wf hq (by omega)
    have hC' : RepC (wq_st C 26 w (nI k)) 25 (vup u r k) := RepC_rule (p := 25) h5 hq
    have hR' : RepA ((wq_st M 6 r (nI k)).1 6) (vup u r k) := by
      rw [wq_st_self]
      exact RepA_up h6 (by omega)
    have e2 : (if nI w = 0 then fX7_most_L44_J61 (nI w) (nI k) 2 M else fX7_most_L44_J61 (nI w) (nI k) 3 M) = fX7_most_L44_J61 (nI w) (nI k) (nI r) M := by
      rcases hw with ⟨rfl, rfl, -⟩ | ⟨rfl, rfl, -⟩
      · rw [if_pos (by decide)]
        rfl
      · rw [if_neg (by decide)]
        rfl
    rw [e2]
    unfold fX7_most_L44_J61
    rw [in_nI (show r < 44 by omega) (by omega), cl_nI (show r < 2 ^ 31 by omega), C_firstThatFails hC' wf', R_manyHold hR' wf', in_0_44, cl_0, hR'.1 0 (by omega)]
    simp only [Option.bind_some, if_true]
    by_cases hf : aFirst (vup u r k) = -1000000
    · rw [if_pos hf, if_pos ((first_many wf').mp hf)]
      left
      exact ⟨_, _, rfl, rfl, Or.inl ⟨_, _, _, rfl, rfl, Sc_st h3 (by omega) _, Sr_st h4 _⟩⟩
    · rw [if_neg hf, if_neg (fun q => hf ((first_many wf').mpr q))]
      right
      refine ⟨k, _, _, rfl, rfl, rfl, ⟨?_, ?_, Sc_st h3 (by omega) _, Sr_st h4 _, _, wf', hC', hR'⟩, by omega⟩
      · show nI k + -1 = _
        rw [Int32.sub_eq_add_neg]
      · show nI k + -1 = _
        rw [Int32.sub_eq_add_neg]) k wq_FU _ _ ⟨h0, hw⟩ (FU_gt (by omega))
  obtain ⟨y, z, e1, e2, hQ⟩ := key
  unfold fX6_most_J44 fX7_most_J43
  rw [e1, e2]
  rcases hQ with ⟨a, C', N', rfl, rfl, s1, s2⟩ | ⟨C', N', rfl, rfl, s1, s2⟩
  · exact ⟨_, _, _, rfl, rfl, Inv_scr hI s1 s2⟩
  · exact ⟨_, _, _, rfl, rfl, Inv_scr hI s1 s2⟩
theorem E_most (hI : Inv Mc Mr) (x1 : Int32) : ∃ a C N, fX6_most x1 Mc = some (a, C) ∧ fX7_most x1 Mr = some (a, N) ∧ Inv C N := by
  unfold fX6_most fX7_most
  have hI := Inv_t0 hI
  generalize wq_st Mr 0 0 0 = N at hI ⊢
  obtain ⟨v, hW, -⟩ := id hI
  rcases there_cases hW with ⟨e1, e2⟩ | ⟨wf, e1, e2⟩
  · rw [e1, e2]
    exact ⟨_, Mc, N, rfl, rfl, hI⟩
  rw [e1, e2]
  simp only [Option.bind_some, if_true, if_false, Bool.false_eq_true]
  obtain ⟨C, b1, b2, b3, b4, b5⟩ := sup_both hW wf
  rw [lit_lN 0, lit_lN 1]
  rcases R_inb x1 0 1 (by omega) (by omega) N with ⟨h, e⟩ | ⟨h, e⟩ | ⟨k, h1, h2, rfl, e⟩
  · rw [if_neg (show ¬ x1 = 0 by rintro rfl; exact absurd h (by decide)), if_neg (show ¬ x1 = 1 by rintro rfl; exact absurd h (by decide)), e]
    exact ⟨_, Mc, N, rfl, rfl, hI⟩
  · rw [if_neg (show ¬ x1 = 0 by rintro rfl; exact absurd h (by decide)), if_neg (show ¬ x1 = 1 by rintro rfl; exact absurd h (by decide)), e]
    exact ⟨_, Mc, N, rfl, rfl, hI⟩
  · rw [e]
    unfold fX6_most_J22
    rw [b1, R_layThen]
    simp only [Option.bind_some, if_true]
    have hk : k = 0 ∨ k = 1 := by omega
    rcases hk with rfl | rfl
    · rw [if_pos (show nI 0 = 0 by decide), if_pos (show nI 0 = 0 by decide), if_pos (show nI 0 = 0 by decide), show (40 : Int32) = nI 41 - 1 by decide]
      exact E_mostL (r := 2) (Or.inl ⟨rfl, rfl, by omega⟩) ⟨rfl, rfl, b3, b5, v, wf, b2, b4⟩ hI
    · rw [if_neg (show ¬ nI 1 = 0 by decide), if_pos (show nI 1 = 1 by decide), if_neg (show ¬ nI 1 = 0 by decide), if_neg (show ¬ nI 1 = 0 by decide), show (99 : Int32) = nI 100 - 1 by decide]
      exact E_mostL (r := 3) (Or.inr ⟨rfl, rfl, by omega⟩) ⟨rfl, rfl, b3, b5, v, wf, b2, b4⟩ hI
theorem or_0 (x : Int32) : x ||| 0 = x := Int32.or_zero
theorem E_need (hI : Inv Mc Mr) (x1 : Int32) : ∃ a C N, fX6_need x1 Mc = some (a, C) ∧ fX7_need x1 Mr = some (a, N) ∧ Inv C N := by
  unfold fX6_need fX7_need
  have hI := Inv_t0 hI
  generalize wq_st Mr 0 0 0 = N at hI ⊢
  obtain ⟨v, hW, -⟩ := id hI
  rcases step_cases hW x1 with ⟨e1, e2⟩ | ⟨s, hs, rfl, wf, e1, e2⟩
  · rw [e1, e2]
    exact ⟨_, Mc, N, rfl, rfl, hI⟩
  have h8 := wf.n8
  have hm := wf.m5
  obtain ⟨C, b1, b2, b3, b4, b5⟩ := sup_both hW wf
  rw [e1, e2, R_layThen]
  simp only [Option.bind_some, if_true, b1]
  obtain ⟨y, z, e1, e2, hQ⟩ := lp_rel (b1 := fX6_need_L26 (nI s)) (b2 := fX7_need_L24 (nI s)) (fun k p t => ∃ x j u, p.1 = x ∧ t.1 = x ∧ p.2.1 = nI j ∧ t.2.1 = nI j ∧ k + j = v 5 ∧ Sc Mc p.2.2 ∧ Sr N t.2.2 ∧ WF u ∧ u 0 = v 0 ∧ u 5 = v 5 ∧ RepC p.2.2 25 u ∧ RepA (t.2.2.1 6) u) (fun y z => ∃ a C' N', y = (a, C') ∧ z = (a, N') ∧ Sc Mc C' ∧ Sr N N') (by
    rintro k ⟨p1, p2, p3⟩ ⟨t1, t2, t3⟩ ⟨x, j, u, g1, g2, g3, g4, g5, g6, g7, g8, g9, g10, g11, g12⟩
    simp only at g1 g2 g3 g4 g6 g7 g11 g12
    subst g1 g2 g3 g4
    unfold fX6_need_L26 fX7_need_L24
    simp only []
    rw [g6.1 20 (by omega), hW.2.1.2.1, in_5_44, cl_5, g7 4 (by omega), hW.2.2.1 5 (by omega)]
    simp only [if_true]
    by_cases hz : k = 0
    · left
      rw [if_pos (show nI (v 5) ≤ nI j by rw [nI_leI (by omega) (by omega)]; omega), if_pos (show nI (v 5) ≤ nI j by rw [nI_leI (by omega) (by omega)]; omega)]
      exact ⟨_, _, rfl, rfl, _, _, _, rfl, rfl, g6, g7⟩
    · right
      obtain ⟨k, rfl⟩ : ∃ i, k = i + 1 := ⟨k - 1, by omega⟩
      rw [if_neg (show ¬ nI (v 5) ≤ nI j by rw [nI_leI (by omega) (by omega)]; omega), if_neg (show ¬ nI (v 5) ≤ nI j by rw [nI_leI (by omega) (by omega)]; omega), in_nI (show s < 8 by omega) (by omega), lit_nI 36, nI_add, in_nI (show 36 + s < 44 by omega) (by omega), cl_nI (by omega), cl_nI (by omega)]
      simp only [if_true]
      have wf' : WF (vup u (36 + s) (j + 1)) := WF_lay g8 (by omega) (by omega)
      have hC' : RepC (wq_st p3 29 s (nI j)) 25 (vup u (36 + s) (j + 1)) := by
        rw [← nI_pred j]
        exact RepC_lay (p := 25) g11 (by omega) (by omega)
      have hR' : RepA ((wq_st t3 6 (36 + s) (nI j)).1 6) (vup u (36 + s) (j + 1)) := by
        rw [wq_st_self, ← nI_pred j]
        exact RepA_lay g12 (by omega)
      rw [C_holds hC' wf' (by rw [vup_n (by omega)]; omega), R_holds hR' wf' (by rw [vup_n (by omega)]; omega)]
      simp only [Option.bind_some]
      by_cases hh : aHolds (vup u (36 + s) (j + 1)) s = true
      · rw [if_pos hh, if_pos hh, nI_1]
        exact ⟨k, _, _, rfl, rfl, rfl, _, j + 1, _, rfl, rfl, rfl, rfl, by omega, Sc_st g6 (by omega) _, Sr_st g7 _, wf', by rw [vup_n (by omega)]; exact g9, by rw [vup_n (by omega)]; exact g10, hC', hR'⟩
      · rw [if_neg hh, if_neg hh, nI_1, or_0]
        exact ⟨k, _, _, rfl, rfl, rfl, _, j + 1, _, rfl, rfl, rfl, rfl, by omega, Sc_st g6 (by omega) _, Sr_st g7 _, wf', by rw [vup_n (by omega)]; exact g9, by rw [vup_n (by omega)]; exact g10, hC', hR'⟩) (v 5) wq_FU (0, 0, C) (0, 0, blk N 6 0 4 0 44) ⟨_, 0, v, rfl, rfl, rfl, rfl, rfl, b3, b5, wf, rfl, rfl, b2, b4⟩ (FU_gt (by omega))
  rw [e1, e2]
  obtain ⟨a, C', N', rfl, rfl, s1, s2⟩ := hQ
  exact ⟨_, _, _, rfl, rfl, Inv_scr hI s1 s2⟩
end EA
