section ES
variable {Mc Mr : wq_M} {v : Nat → Nat}
def kWc (Mc C : wq_M) : Prop := (∀ q, (q < 25 ∨ (30 ≤ q ∧ q < 41) ∨ 47 ≤ q) → C.1 q = Mc.1 q) ∧ ∀ q, q ≠ 41 → C.2 q = Mc.2 q
def kWr (N N' : wq_M) : Prop := ∀ q, q ≠ 6 → q ≠ 9 → q ≠ 10 → N'.1 q = N.1 q
theorem Inv_who {C N : wq_M} (h : Inv Mc Mr) (hc : kWc Mc C) (hs : iSr C) (hr : kWr Mr N) : Inv C N := by
  obtain ⟨c1, c2⟩ := hc
  exact Inv_obs h ⟨by rw [c1 0 (by omega)], fun q a b => c1 q (by omega), by rw [c1 18 (by omega)], by rw [c1 18 (by omega)], c1 19 (by omega), fun q a b => c1 q (by omega), fun q a b => c1 q (by omega), by rw [c1 47 (by omega)], c1 48 (by omega), c1 49 (by omega), by rw [c1 50 (by omega)], c1 51 (by omega)⟩ hs ⟨by rw [hr 0 (by omega) (by omega) (by omega)], by rw [hr 0 (by omega) (by omega) (by omega)], by rw [hr 0 (by omega) (by omega) (by omega)], by rw [hr 0 (by omega) (by omega) (by omega)], by rw [hr 0 (by omega) (by omega) (by omega)], hr 1 (by omega) (by omega) (by omega), hr 2 (by omega) (by omega) (by omega), hr 3 (by omega) (by omega) (by omega), hr 4 (by omega) (by omega) (by omega), hr 7 (by omega) (by omega) (by omega), hr 8 (by omega) (by omega) (by omega), hr 12 (by omega) (by omega) (by omega), hr 13 (by omega) (by omega) (by omega), hr 14 (by omega) (by omega) (by omega)⟩
/-- one supposition of `who` -/
theorem who_one {C N C0 N0 : wq_M} {u : Nat → Nat} {r i : Nat} (hr : r < 8) (hi : i + u 0 ≤ 40) (wf : WF u) (hC : RepC C 25 u) (hs : iSr C) (hR : RepA (N.1 6) u) (hN0 : N.1 4 0 = nI (u 0)) (hrow : ∀ j, j < 40 → C.1 (2 + 2 * r + 1) j = N.1 3 (40 * r + j)) (hkc : kWc C0 C) (hkr : kWr N0 N) (set val x1 x2 : Int32) : ∃ C' N' set', ((fX6_isBest 25 (2 + 2 * r) (nI i) C).bind fun r23 => (if r23.1 = true then some (Sum.inl (β := Int32 × wq_M) ((set ||| (1 <<< (val &&& 31))), (val + 1), r23.2)) else some (Sum.inl (set, (val + 1), r23.2)))) = some (.inl (set', val + 1, C')) ∧ ((fX7_laysBest 6 (-1) N).bind fun r20 => (if 1000000000 ≤ r20.1 then fX7_who_L62_J123 x1 x2 (nI r) (nI i) set val 0 r20.2 else fX7_who_L62_J123 x1 x2 (nI r) (nI i) set val 1 r20.2)) = some (.inl (set', val + 1, N')) ∧ kWc C0 C' ∧ kWr N0 N' ∧ RepC C' 25 u ∧ iSr C' := by
  have h8 := wf.n8
  have hm5 := wf.m5
  obtain ⟨rr, o, C1, N1, f1, f2, f3, f4, f5, f6⟩ := best_both (x2c := -1000000) (x2r := -1) wf hC hs (Or.inr rfl) hR (Or.inr rfl) (no_bar _ (by decide)) (no_bar _ (by decide))
  have kc : kWc C0 C1 := ⟨fun q hq => by rw [f3.1 q (by omega), hkc.1 q hq], fun q hq => by rw [f3.2 q hq, hkc.2 q hq]⟩
  have kr : kWr N0 N1 := fun q a b c => by rw [f5 q b c, hkr q a b c]
  have hC1 : RepC C1 25 u := RepC_c hC (fun q a b => f3.1 q (by omega))
  unfold fX6_isBest fX7_who_L62_J123
  rw [f1, f2]
  simp only [Option.bind_some]
  have h40 : N1.1 4 0 = nI (u 0) := by rw [f5 4 (by omega) (by omega)]; exact hN0
  rcases f6 with ⟨rfl, rfl⟩ | ⟨rfl, l, x, rfl, d1, d2, d3, d4, d5, d6, d7, d8, d9⟩
  · simp only [Bool.false_eq_true, if_false, Option.bind_some]
    rw [if_pos (show (1000000000 : Int32) ≤ rO none by decide)]
    have hl := R_cmpL (N := N1) (r := r) (i := i) (n := u 0) (E := fun s => decide (N1.1 10 s = N1.1 3 (40 * r + i + s))) h40 h8 hr hi (fun s _ => by simp) x1 x2 set val (u 0) 0 0 wq_FU (by omega) (FU_gt (by omega)) (by omega)
    rw [show (((0 : Int32), (0 : Int32)) : Int32 × Int32) = (nI 0, nI 0) from rfl, hl]
    simp only [if_true, Option.bind_some]
    rw [or_0]
    exact ⟨_, _, _, rfl, rfl, kc, kr, hC1, f4⟩
  · simp only [if_true]
    rw [if_neg (show ¬ 1000000000 ≤ rO (some x) by rw [rO_s, lit_nI 1000000000, nI_leI (by omega) (by omega)]; omega)]
    have hEc : ∀ s, s < u 0 → (C1.1 (2 + 2 * r + 1) (i + s) = C1.1 42 s ↔ decide (N.1 3 (40 * r + (i + s)) = nI (l.getD s 0)) = true) := fun s hs => by
      rw [f3.1 (2 + 2 * r + 1) (by omega), hrow (i + s) (by omega), d8 s (by omega), if_pos hs, nI_pred, decide_eq_true_eq]
    have hEr : ∀ s, s < u 0 → (N1.1 10 s = N1.1 3 (40 * r + i + s) ↔ decide (N.1 3 (40 * r + (i + s)) = nI (l.getD s 0)) = true) := fun s hs => by
      rw [d9 s hs, f5 3 (by omega) (by omega), decide_eq_true_eq, show 40 * r + i + s = 40 * r + (i + s) by omega]
      exact eq_comm
    have hlc := C_cmpL (C := C1) (p2 := 2 + 2 * r) (i := i) (n := u 0) (E := fun s => decide (N.1 3 (40 * r + (i + s)) = nI (l.getD s 0))) hC1.1 h8 hi hEc (u 0) 0 wq_FU (by omega) (FU_gt (by omega))
    have hlr := R_cmpL (N := N1) (r := r) (i := i) (n := u 0) (E := fun s => decide (N.1 3 (40 * r + (i + s)) = nI (l.getD s 0))) h40 h8 hr hi hEr x1 x2 set val (u 0) 0 1 wq_FU (by omega) (FU_gt (by omega)) (by omega)
    rw [show (0 : Int32) = nI 0 from rfl, hlc, show ((1 : Int32), nI 0) = (nI 1, nI 0) from rfl, hlr, if_neg (show ¬ 1 = 0 by omega)]
    cases aFst (fun s => decide (N.1 3 (40 * r + (i + s)) = nI (l.getD s 0))) 0 (u 0) with
    | none =>
      simp only [Option.bind_some, Sum.elim_inr, if_true]
      rw [if_neg (show ¬ (1 : Int32) = nI 0 by decide)]
      exact ⟨_, _, _, rfl, rfl, kc, kr, hC1, f4⟩
    | some s =>
      simp only [Option.bind_some, Sum.elim_inl, Bool.false_eq_true, if_false]
      rw [if_pos (show (0 : Int32) = nI 0 from rfl), show nI 0 = (0 : Int32) from rfl, or_0]
      exact ⟨_, _, _, rfl, rfl, kc, kr, hC1, f4⟩
theorem E_whoL {C N : wq_M} (hW : iWe Mc Mr v) (wf : WF v) {g r i w ixx hi : Nat} (hg : g < v 5) (hr : r < 8) (hiv : i + v 0 ≤ 40) (hw : w = 0 ∧ ixx = 6 + 6 * g ∧ hi = 5 ∨ w = 1 ∧ ixx = 1 ∧ hi = 3) (hrow : ∀ j, j < 40 → Mc.1 (2 + 2 * r + 1) j = Mr.1 3 (40 * r + j)) (hkc : kWc Mc C) (hkr : kWr Mr N) (hsr : iSr C) (hC : RepC C 25 v) : ∃ a C' N', wq_lp (fX6_who_L89 (nI g) (nI w) (nI i) (2 + 2 * r)) wq_FU (0, 1, C) = some (a, C') ∧ wq_lp (fX7_who_L62 (nI g) (nI w) (nI r) (nI i)) wq_FU (0, 1, N) = some (a, N') ∧ kWc Mc C' ∧ kWr Mr N' ∧ iSr C' := by
  have h8 := wf.n8
  have hm5 := wf.m5
  have hixx : ixx < 36 := by omega
  obtain ⟨y, z, e1, e2, a, C', N', rfl, rfl, q1, q2, q3⟩ := lp_rel (b1 := fX6_who_L89 (nI g) (nI w) (nI i) (2 + 2 * r)) (b2 := fX7_who_L62 (nI g) (nI w) (nI r) (nI i)) (fun k s t => ∃ set j C N y, s = (set, nI j, C) ∧ t = (set, nI j, N) ∧ 1 ≤ j ∧ k + j = hi + 1 ∧ kWc Mc C ∧ kWr Mr N ∧ iSr C ∧ RepC C 25 (vup v ixx y)) (fun y z => ∃ a C' N', y = (a, C') ∧ z = (a, N') ∧ kWc Mc C' ∧ kWr Mr N' ∧ iSr C') (by
    rintro k _ _ ⟨set, j, C, N, y, rfl, rfl, j1, j2, c1, c2, c3, c4⟩
    have hc : fX6_who_L89 (nI g) (nI w) (nI i) (2 + 2 * r) (set, nI j, C) = fX6_who_L89_J104 (nI g) (nI w) (nI i) (2 + 2 * r) set (nI j) (nI hi) (nI j) C := by
      unfold fX6_who_L89
      rcases hw with ⟨rfl, rfl, rfl⟩ | ⟨rfl, rfl, rfl⟩
      · rw [if_pos (show nI 0 = 0 by decide)]
        rfl
      · rw [if_neg (show ¬ nI 1 = 0 by decide), in_3_4, cl_3, if_pos rfl]
        rfl
    have hrr : fX7_who_L62 (nI g) (nI w) (nI r) (nI i) (set, nI j, N) = fX7_who_L62_J73 (nI g) (nI w) (nI r) (nI i) set (nI j) (nI hi) (nI j) N := by
      unfold fX7_who_L62
      rcases hw with ⟨rfl, rfl, rfl⟩ | ⟨rfl, rfl, rfl⟩
      · rw [if_pos (show nI 0 = 0 by decide)]
        rfl
      · rw [if_neg (show ¬ nI 1 = 0 by decide)]
        rfl
    rw [hc, hrr]
    unfold fX6_who_L89_J104 fX7_who_L62_J73
    by_cases hz : k = 0
    · left
      rw [if_pos (show nI hi < nI j by rw [nI_ltI (by omega) (by omega)]; omega), if_pos (show nI hi < nI j by rw [nI_ltI (by omega) (by omega)]; omega)]
      exact ⟨_, _, rfl, rfl, _, _, _, rfl, rfl, c1, c2, c3⟩
    · right
      obtain ⟨k, rfl⟩ : ∃ q, k = q + 1 := ⟨k - 1, by omega⟩
      rw [if_neg (show ¬ nI hi < nI j by rw [nI_ltI (by omega) (by omega)]; omega), if_neg (show ¬ nI hi < nI j by rw [nI_ltI (by omega) (by omega)]; omega), R_layThen]
      simp only [Option.bind_some]
      have hRb : RepA ((blk N 6 0 4 0 44).1 6) v := by
        have := RepA_blk (M := N) (q := 6) (D := 0) (p := 4) (S := 0) (v := v) (by rw [c2 4 (by omega) (by omega) (by omega)]; exact RepA_0.mpr hW.2.2)
        exact RepA_0.mp this
      have hRr : RepA ((wq_st (blk N 6 0 4 0 44) 6 ixx (nI j)).1 6) (vup v ixx j) := by
        rw [wq_st_self]
        exact RepA_up hRb hixx
      have kr1 : kWr Mr (wq_st (blk N 6 0 4 0 44) 6 ixx (nI j)) := fun q a b c => by rw [wq_st_ne a, blk_ne a, c2 q a b c]
      have hr4 : (wq_st (blk N 6 0 4 0 44) 6 ixx (nI j)).1 4 0 = nI (vup v ixx j 0) := by
        rw [kr1 4 (by omega) (by omega) (by omega), hW.2.2.1 0 (by omega), vup_n (by omega)]
      have hr3 : (wq_st (blk N 6 0 4 0 44) 6 ixx (nI j)).1 3 = Mr.1 3 := kr1 3 (by omega) (by omega) (by omega)
      have hgo : ∀ (C1 : wq_M) , kWc Mc C1 → iSr C1 → RepC C1 25 (vup v ixx j) → WF (vup v ixx j) → ∃ k' s' t', k + 1 = k' + 1 ∧ fX6_who_L89_J136 (nI g) (nI w) (nI i) (2 + 2 * r) set (nI j) C1 = some (.inl s') ∧ ((fX7_laysBest 6 (-1) (wq_st (blk N 6 0 4 0 44) 6 ixx (nI j))).bind fun r20 => (if 1000000000 ≤ r20.1 then fX7_who_L62_J123 (nI g) (nI w) (nI r) (nI i) set (nI j) 0 r20.2 else fX7_who_L62_J123 (nI g) (nI w) (nI r) (nI i) set (nI j) 1 r20.2)) = some (.inl t') ∧ ∃ set j C N y, s' = (set, nI j, C) ∧ t' = (set, nI j, N) ∧ 1 ≤ j ∧ k' + j = hi + 1 ∧ kWc Mc C ∧ kWr Mr N ∧ iSr C ∧ RepC C 25 (vup v ixx y) := by
        intro C1 z1 z2 z3 z4
        obtain ⟨C2, N2, set', o1, o2, o3, o4, o5, o6⟩ := who_one hr (by rw [vup_n (by omega)]; exact hiv) z4 z3 z2 hRr hr4 (fun j hj => by rw [z1.1 _ (by omega), hr3]; exact hrow j hj) z1 kr1 set (nI j) (nI g) (nI w)
        refine ⟨k, _, _, rfl, o1, o2, set', j + 1, C2, N2, j, by rw [nI_1], by rw [nI_1], by omega, by omega, o3, o4, o6, o5⟩
      rcases hw with ⟨rfl, rfl, rfl⟩ | ⟨rfl, rfl, rfl⟩
      · rw [if_pos (show nI 0 = 0 by decide), if_pos (show nI 0 = 0 by decide), in_nI (show g < 5 by omega) (by omega), cl_nI (by omega), if_pos rfl]
        unfold fX7_who_L62_J101
        rw [lit_nI 6, pk_mul, nI_add, show nI (6 + 6 * g) + 0 = nI (6 + 6 * g) from Int32.add_zero _, in_nI (show 6 + 6 * g < 44 by omega) (by omega), cl_nI (by omega), if_pos rfl]
        refine hgo _ ⟨fun q hq => by rw [wq_st_ne (by omega), c1.1 q hq], c1.2⟩ (iSr_c c3 rfl) ?_ (WF_kind wf hg (by omega))
        have := RepC_kind (p := 25) (x := j) c4 (by rw [vup_n (by omega)]; exact hm5) (g := g) (by rw [vup_n (by omega)]; exact hg)
        rw [vup_vup] at this
        exact this
      · rw [if_neg (show ¬ nI 1 = 0 by decide), if_neg (show ¬ nI 1 = 0 by decide), in_3_4, cl_3, if_pos rfl]
        unfold fX7_who_L62_J101
        rw [in_1_44, cl_1, if_pos rfl]
        have hq : rlp 3 1 := Or.inr (Or.inr (Or.inr ⟨rfl, rfl⟩))
        refine hgo _ ⟨fun q hq => by rw [wq_st_ne (by omega), c1.1 q hq], c1.2⟩ (iSr_c c3 rfl) ?_ (WF_rule wf hq (by omega))
        have := RepC_rule (p := 25) (x := j) c4 hq
        rw [vup_vup] at this
        exact this) hi wq_FU (0, 1, C) (0, 1, N) ⟨0, 1, C, N, v ixx, rfl, rfl, by omega, rfl, hkc, hkr, hsr, by rw [vup_id]; exact hC⟩ (FU_gt (by omega))
  exact ⟨a, C', N', e1, e2, q1, q2, q3⟩
theorem E_who (hI : Inv Mc Mr) (x1 x2 x3 x4 : Int32) : ∃ a C N, fX6_who x1 x2 x3 x4 Mc = some (a, C) ∧ fX7_who x1 x2 x3 x4 Mr = some (a, N) ∧ Inv C N := by
  unfold fX6_who fX7_who
  have hI := Inv_t0 hI
  generalize wq_st Mr 0 0 0 = N at hI ⊢
  obtain ⟨v, hW, -, hRow, -⟩ := id hI
  rcases grade_cases hW x1 with ⟨e1, e2⟩ | ⟨g, hg, rfl, wf, e1, e2⟩
  · rw [e1, e2]
    exact ⟨_, Mc, N, rfl, rfl, hI⟩
  have h8 := wf.n8
  rw [e1, e2]
  simp only [Option.bind_some, if_true]
  rw [lit_lN 0, lit_lN 1]
  rcases R_inb x2 0 1 (by omega) (by omega) N with ⟨h, e⟩ | ⟨h, e⟩ | ⟨w, w1, w2, rfl, e⟩
  · rw [if_pos (show x2 < 0 from h), e]
    exact ⟨_, Mc, N, rfl, rfl, hI⟩
  · rw [if_neg (hi_f (by omega) h).1, if_pos (show 1 < x2 from h), e]
    exact ⟨_, Mc, N, rfl, rfl, hI⟩
  rw [if_neg (nI_pos (by omega)), if_neg (show ¬ 1 < nI w by rw [lit_nI 1, nI_ltI (by omega) (by omega)]; omega), e]
  simp only [Option.bind_some, if_true]
  rcases row_cases (Mc := Mc) (Mr := N) x3 with ⟨q1, q2⟩ | ⟨r, hr, rfl, q1, q2⟩
  · rw [q1, q2]
    exact ⟨_, Mc, N, rfl, rfl, hI⟩
  rw [q1, q2, in_0_44, cl_0, in_nI hr (by omega), cl_nI (by omega), hW.2.2.1 0 (by omega), hW.2.1.1]
  simp only [Option.bind_some, if_true]
  unfold fX7_rowFound fX7_finding fX6_found fX6_passed
  rw [in_nI hr (by omega), cl_nI (by omega)]
  simp only [Option.bind_some, if_true]
  rcases row_at hRow hr with ⟨z1, z2, z3, z4⟩ | ⟨n, l, n1, n2, z1, z2, z3, z4, z5, z6, z7, z8⟩
  · rw [z3, if_neg (show ¬ 0 ≤ N.1 1 r from Int32.not_le.mpr z4)]
    simp only [Option.bind_some, if_true]
    rw [if_neg (show ¬ (-1000010 : Int32) - 1 = 0 by decide)]
    exact ⟨_, _, _, rfl, rfl, Inv_found hI 1⟩
  rw [z6, if_pos z7]
  simp only [Option.bind_some, Bool.false_eq_true, if_false]
  rcases C_has n1 z1 x4 (nI (v 0)) with ⟨i, k, i1, rfl, i3, i4⟩ | ⟨i4, i5⟩
  · have hk : k = v 0 ∨ ¬ k < 2 ^ 31 := by
      by_cases hk : k < 2 ^ 31
      · rw [nI_eq (by omega) hk] at i3
        exact Or.inl i3.symm
      · exact Or.inr hk
    have hk : k = v 0 := by omega
    subst hk
    rw [i4, if_neg (nI_pos (by omega)), z4, nI_l (by omega), nI_l (by omega), nI_l (by omega), lN_add]
    have hle : lg_cmp (lN (i + v 0)) (lN n) ≤ 0 := by
      rw [← Int32.not_lt, cmp_gt0, pk_lLT (by omega) (by omega)]
      omega
    rw [if_pos hle]
    simp only [Option.bind_some, if_true]
    obtain ⟨C, b1, b2, b3, b4, b5⟩ := sup_both hW wf
    rw [b1]
    simp only [Option.bind_some]
    -- the status that both clear
    have hIf := Inv_found hI 0
    have hWf : iWe (wq_st Mc 0 8 0) (wq_st N 0 1 0) v := iWe_c hW (fun q a b => wq_st_ne (by omega)) (wq_st_ne (by omega))
    have hkc : kWc Mc C := ⟨fun q hq => b3.1 q (by omega), fun q hq => by rw [b3.2]⟩
    have hsr : iSr C := iSr_c (Inv_sr hI) (by rw [b3.2])
    have hWn : iWe Mc (wq_st N 0 1 0) v := iWe_c hW (fun q a b => rfl) (wq_st_ne (by omega))
    obtain ⟨a, C', N', f1, f2, f3, f4, f5⟩ := E_whoL (Mc := Mc) (Mr := wq_st N 0 1 0) (w := w) (ixx := if w = 0 then 6 + 6 * g else 1) (hi := if w = 0 then 5 else 3) hWn wf hg hr (i := i) (by omega) (by
      have : w = 0 ∨ w = 1 := by omega
      rcases this with rfl | rfl
      · exact Or.inl ⟨rfl, rfl, rfl⟩
      · exact Or.inr ⟨rfl, rfl, rfl⟩) (fun j hj => by rw [wq_st_ne (by omega)]; exact z5 j hj) hkc (fun _ _ _ _ => rfl) hsr b2
    rw [f1, f2]
    simp only [Option.bind_some]
    refine ⟨_, _, _, rfl, rfl, Inv_who hIf ⟨fun q hq => ?_, fun q hq => f3.2 q hq⟩ (iSr_c f5 rfl) f4⟩
    by_cases hq0 : q = 0
    · subst hq0
      funext j
      by_cases hj : j = 8
      · subst hj
        rw [st_eq, st_eq]
      · rw [st0_ne hj, st0_ne hj, f3.1 0 (by omega)]
    · rw [wq_st_ne hq0, wq_st_ne hq0, f3.1 q hq]
  · rw [i4]
    simp only [Option.bind_some, Bool.false_eq_true, if_false]
    rcases i5 with i5 | ⟨i5, i6⟩ | ⟨i5, i6, i7⟩
    · rw [if_pos i5]
      simp only [Option.bind_some]
      rw [if_neg (show ¬ (-1000010 : Int32) - 2 = 0 by decide)]
      exact ⟨_, _, _, rfl, rfl, Inv_found hI 2⟩
    · exact absurd i6 (nI_pos (by omega))
    · rw [if_neg i5, z4]
      have hgt : ¬ lg_cmp (x4.toInt64 + (nI (v 0)).toInt64) (nI n).toInt64 ≤ 0 := by
        rw [Int32.not_le, cmp_gt0]
        exact i7
      rw [if_neg hgt]
      simp only [Option.bind_some]
      rw [if_neg (show ¬ (-1000010 : Int32) - 2 = 0 by decide)]
      exact ⟨_, _, _, rfl, rfl, Inv_found hI 2⟩
end ES
