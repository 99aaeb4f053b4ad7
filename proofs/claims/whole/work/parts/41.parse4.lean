section EH
variable {b : Nat → Nat} {t : Nat} {L : Int32} {Mc Mr : wq_M} {F : (Nat → Nat → Int32) → (Nat → Int32) → Prop}
def kd (x : Nat) : Nat := if x = 112 then 1 else if x = 104 then 2 else if x = 98 then 3 else if x = 116 then 4 else if x = 108 then 5 else 0
theorem kd_le (x : Nat) : kd x ≤ 5 := by
  unfold kd
  repeat' split
  all_goals omega
theorem kd_l {x : Nat} (h : ¬ kd x = 0) : 97 ≤ x ∧ x ≤ 122 := by
  unfold kd at h
  repeat' split at h
  all_goals omega
theorem kd_tab : ∀ x : Fin 256, (if nI x.val = 98 then some (3 : Int32) else if nI x.val = 104 then some 2 else if nI x.val = 108 then some 5 else if nI x.val = 112 then some 1 else if nI x.val = 116 then some 4 else some 0) = some (nI (kd x.val)) ∧ (if nI x.val = 112 then some (1 : Int32) else if nI x.val = 104 then some 2 else if nI x.val = 98 then some 3 else if nI x.val = 116 then some 4 else if nI x.val = 108 then some 5 else some (-1000000)) = some (if kd x.val = 0 then -1000000 else nI (kd x.val)) := by decide +kernel
theorem C_kind {M : wq_M} (h1 : TpC b t M) (h2 : ∀ j, j < t → b j < 256) (ht : t ≤ 130) {a : Nat} (ha : a ≤ t) (h4 : M.1 18 4 = nI a) : fX2_kindAtHand M = some (nI (if a < t then kd (b a) else 0)) := by
  unfold fX2_kindAtHand fX2_kindAtHand_J24
  rw [h1.1, h4]
  by_cases hlt : a < t
  · rw [if_neg (show ¬ nI t ≤ nI a by rw [nI_leI (by omega) (by omega)]; omega), in_nI (show a < 130 by omega) (by omega), cl_nI (by omega), h1.2 a hlt, if_pos hlt, if_pos rfl]
    exact (kd_tab ⟨b a, h2 a hlt⟩).1
  · rw [if_pos (show nI t ≤ nI a by rw [nI_leI (by omega) (by omega)]; omega), if_neg hlt]
    rfl
theorem R_kindBy {x : Nat} (hx : x < 256) (M : wq_M) : fX7_kindBy (nI x) M = some (if kd x = 0 then -1000000 else nI (kd x)) := (kd_tab ⟨x, hx⟩).2
theorem R_isSort {N : wq_M} {a : Nat} (h2 : ∀ j, j < t → b j < 256) (g2 : N.1 0 16 = 0) (tk : TK b t a N) : fX7_isSort N = some (decide (a < t ∧ ¬ kd (b a) = 0)) := by
  unfold fX7_isSort
  rw [if_pos g2]
  have hno : ¬ N.1 0 14 = 2 → ¬ (a < t ∧ ¬ kd (b a) = 0) → (if N.1 0 14 = 2 then (fX7_kindBy (N.1 0 15) N).bind fun r3 => (if r3 = (-1000000) then some false else some true) else some false) = some (decide (a < t ∧ ¬ kd (b a) = 0)) := by
    intro q1 q2
    rw [if_neg q1, decide_eq_false q2]
  obtain ⟨h13, h | h | h | h | h | h | h⟩ := tk
  · exact hno (by rw [h.2]; decide) (by omega)
  · rw [h.2.2.1, if_pos rfl, h.2.2.2.1, R_kindBy (h2 a h.1)]
    simp only [Option.bind_some]
    have hk := kd_le (b a)
    by_cases hz : kd (b a) = 0
    · rw [if_pos hz, if_pos rfl, decide_eq_false (by omega)]
    · rw [if_neg hz, if_neg (show ¬ nI (kd (b a)) = -1000000 by
        rw [← Int32.toInt_inj, nI_toInt (by omega), show (-1000000 : Int32).toInt = -1000000 by decide]
        omega), decide_eq_true ⟨h.1, hz⟩]
  · exact hno (by rw [h.2.2.1]; decide) (fun q => by have := kd_l q.2; omega)
  · exact hno (by rw [h.2.2.1]; decide) (fun q => by have := kd_l q.2; have := h.1.2; omega)
  · exact hno (by rw [h.2.2.2.1]; decide) (fun q => by have := kd_l q.2; have := h.1.2; omega)
  · exact hno (by rw [h.2.2.2]; decide) (fun q => by have := kd_l q.2; have := h.1.2; omega)
  · exact hno (by rw [h.2.2.2.2]; decide) (fun q => by have := kd_l q.2; omega)
theorem R_isSortf {N : wq_M} (h : ¬ N.1 0 16 = 0) : fX7_isSort N = some false := by
  unfold fX7_isSort
  rw [if_neg h]
def hF (k : Nat) : Nat := if k = 3 then 9 else 99
def Hd (m : Nat) (f : Nat → Nat → Int32) (v : Nat → Nat) : Prop := (f 0 0 = nI (v 0) ∧ 2 ≤ v 0 ∧ v 0 ≤ 8) ∧ (f 1 3 = nI (v 1) ∧ 1 ≤ v 1 ∧ v 1 ≤ 3) ∧ (f 1 0 = nI (v 2) ∧ v 2 ≤ 20) ∧ (f 1 1 = nI (v 3) ∧ v 3 ≤ 99) ∧ (f 1 2 = nI (v 4) ∧ v 4 ≤ 20) ∧ v 5 = m ∧ (∀ s, s < 8 → v (36 + s) = 0) ∧ ∀ g, g < m → f 2 g = nI (v (6 + 6 * g)) ∧ (1 ≤ v (6 + 6 * g) ∧ v (6 + 6 * g) ≤ 5) ∧ ∀ k, k < 5 → f 3 (5 * g + k) = nI (v (6 + 6 * g + (1 + k))) ∧ 1 ≤ v (6 + 6 * g + (1 + k)) ∧ v (6 + 6 * g + (1 + k)) ≤ hF k
theorem Hd_c {m : Nat} {f f' : Nat → Nat → Int32} {v : Nat → Nat} (h : Hd m f v) (h0 : f' 0 0 = f 0 0) (h1 : f' 1 = f 1) (h2 : ∀ g, g < m → f' 2 g = f 2 g) (h3 : ∀ i, i < 5 * m → f' 3 i = f 3 i) : Hd m f' v := by
  obtain ⟨a1, a2, a3, a4, a5, a6, a7, a8⟩ := h
  refine ⟨by rw [h0]; exact a1, by rw [h1]; exact a2, by rw [h1]; exact a3, by rw [h1]; exact a4, by rw [h1]; exact a5, a6, a7, fun g hg => ?_⟩
  obtain ⟨z1, z2, z3⟩ := a8 g hg
  refine ⟨by rw [h2 g hg]; exact z1, z2, fun k hk => ?_⟩
  rw [h3 _ (by omega)]
  exact z3 k hk
def Fh (m : Nat) (f : Nat → Nat → Int32) (g : Nat → Int32) : Prop := ∃ v, RepA g v ∧ Hd m f v ∧ f 0 1 = nI m
def Fk (m kk j : Nat) (ys : Nat → Int32) (f : Nat → Nat → Int32) (g : Nat → Int32) : Prop := ∃ (v w : Nat → Nat), RepA g v ∧ Hd m f v ∧ f 0 1 = nI (m + 1) ∧ f 2 m = nI kk ∧ ∀ k, k < j → f 3 (5 * m + k) = nI (w k) ∧ (1 ≤ w k ∧ w k ≤ hF k) ∧ ys k = nI (w k)
def ysu (ys : Nat → Int32) (j : Nat) (y : Int32) : Nat → Int32 := fun k => if k = j then y else ys k
theorem sf2_tab : ∀ j : Fin 5, wq_sf 2 j.val = nI (hF j.val) := by decide
theorem fig_step {C N : wq_M} {m kk j : Nat} {ys : Nat → Int32} (hm : m < 5) (hj : j < 5) (h : WS b t L Mc Mr (Fk m kk j ys) C N) : ∃ y C' N1 N2, fX2_readGrade_L62 25 (nI m) (nI j, C) = some (.inl (nI (j + 1), C')) ∧ fX7_number 1 (nI (hF j)) N = some (y, N1) ∧ fX7_mustSign (nI (if j = 4 then 59 else 44)) N1 = some N2 ∧ WS b t L Mc Mr (Fk m kk (j + 1) (ysu ys j y)) C' N2 := by
  have hf : hF j ≤ 99 := by unfold hF; split <;> omega
  have hf1 : 1 ≤ hF j := by unfold hF; split <;> omega
  obtain ⟨x, y, C1, N1, e1, e2, e3, e4⟩ := ws_num h (lo := 1) (hi := hF j) (by omega) hf1
  have h2 : WS b t L Mc Mr (Fk m kk (j + 1) (ysu ys j y)) (wq_st C1 (25 + 3) (5 * m + j) x) N1 := by
    refine ws_stc e3 (by omega) x (fun q hq => ?_)
    obtain ⟨k, k1, k2, rfl, rfl⟩ := e4 q
    obtain ⟨v, w, r1, r2, r3, r4, r5⟩ := hq
    refine ⟨v, fun i => if i = j then k else w i, r1, Hd_c r2 rfl (by funext i; simp) (fun g hg => by simp) (fun i hi => by simp; intro q; omega), r3, r4, fun i hi => ?_⟩
    by_cases e : i = j
    · subst e
      simp only [if_true, ysu]
      exact ⟨trivial, ⟨k1, k2⟩, trivial⟩
    · simp only [if_true, e, if_false, ysu]
      rw [if_neg (by omega)]
      exact r5 i (by omega)
  obtain ⟨C3, N3, a1, a2, a3⟩ := ws_sign h2 (s := if j = 4 then 59 else 44) (by split <;> omega)
  refine ⟨y, C3, N1, N3, ?_, e2, a2, a3⟩
  unfold fX2_readGrade_L62
  simp only []
  rw [if_neg (show ¬ 5 ≤ nI j by rw [lit_nI 5, nI_leI (by omega) (by omega)]; omega), in_nI hj (by omega), cl_nI (by omega), if_pos rfl, sf2_tab ⟨j, hj⟩, show (1 : Int32) = nI 1 from rfl, e1]
  simp only [Option.bind_some]
  rw [C_put _ _ hm hj]
  simp only [Option.bind_some]
  by_cases h4 : j = 4
  · rw [if_pos h4] at a1
    rw [if_pos (show nI j = 4 by rw [h4]; rfl), show (59 : Int32) = nI 59 from rfl, a1, nI_add]
    rfl
  · rw [if_neg h4] at a1
    rw [if_neg (show ¬ nI j = 4 by rw [lit_nI 4, nI_eq (by omega) (by omega)]; exact h4), show (44 : Int32) = nI 44 from rfl, a1, nI_add]
    rfl
theorem ws_n5 {C N N' : wq_M} {F' : (Nat → Nat → Int32) → (Nat → Int32) → Prop} (h : WS b t L Mc Mr F C N) (hN : ∀ q, q ≠ 5 → N'.1 q = N.1 q) (hF : C.1 18 5 = 0 → F (fC C) (N.1 5) → F' (fC C) (N'.1 5)) : WS b t L Mc Mr F' C N' := by
  obtain ⟨h1, h2, h3, h4⟩ := h
  refine ⟨?_, fun q => hF q (h2 q), h3, ⟨fun q a c => by rw [hN q c, h4.1 q a c], fun j hj => by rw [hN 0 (by omega), h4.2 j hj]⟩⟩
  unfold PS Tp pOk pNo TK
  rw [hN 0 (by omega), hN 8 (by omega)]
  exact h1
theorem Hd_last {m kk : Nat} {f : Nat → Nat → Int32} {v w : Nat → Nat} (hm : m < 5) (hk : 1 ≤ kk ∧ kk ≤ 5) (h : Hd m f v) (h2 : f 2 m = nI kk) (h3 : ∀ k, k < 5 → f 3 (5 * m + k) = nI (w k) ∧ (1 ≤ w k ∧ w k ≤ hF k)) : Hd (m + 1) f (vup (vup (vup (vup (vup (vup (vup v (6 + 6 * m + 0) kk) (6 + 6 * m + 1) (w 0)) (6 + 6 * m + 2) (w 1)) (6 + 6 * m + 3) (w 2)) (6 + 6 * m + 4) (w 3)) (6 + 6 * m + 5) (w 4)) 5 (m + 1)) := by
  have hlo : ∀ j, (j < 6 + 6 * m ∨ 6 + 6 * m + 5 < j) → j ≠ 5 → vup (vup (vup (vup (vup (vup (vup v (6 + 6 * m + 0) kk) (6 + 6 * m + 1) (w 0)) (6 + 6 * m + 2) (w 1)) (6 + 6 * m + 3) (w 2)) (6 + 6 * m + 4) (w 3)) (6 + 6 * m + 5) (w 4)) 5 (m + 1) j = v j := by
    intro j hj h5
    rw [vup_n h5, vup_n (by omega), vup_n (by omega), vup_n (by omega), vup_n (by omega), vup_n (by omega), vup_n (by omega)]
  have h6 : vup (vup (vup (vup (vup (vup (vup v (6 + 6 * m + 0) kk) (6 + 6 * m + 1) (w 0)) (6 + 6 * m + 2) (w 1)) (6 + 6 * m + 3) (w 2)) (6 + 6 * m + 4) (w 3)) (6 + 6 * m + 5) (w 4)) 5 (m + 1) (6 + 6 * m) = kk := by
    rw [vup_n (by omega), vup_n (by omega), vup_n (by omega), vup_n (by omega), vup_n (by omega), vup_n (by omega)]
    exact vup_s
  have hfg : ∀ k, k < 5 → vup (vup (vup (vup (vup (vup (vup v (6 + 6 * m + 0) kk) (6 + 6 * m + 1) (w 0)) (6 + 6 * m + 2) (w 1)) (6 + 6 * m + 3) (w 2)) (6 + 6 * m + 4) (w 3)) (6 + 6 * m + 5) (w 4)) 5 (m + 1) (6 + 6 * m + (1 + k)) = w k := by
    intro k hk
    have : k = 0 ∨ k = 1 ∨ k = 2 ∨ k = 3 ∨ k = 4 := by omega
    rw [vup_n (by omega)]
    rcases this with rfl | rfl | rfl | rfl | rfl
    · rw [vup_n (by omega), vup_n (by omega), vup_n (by omega), vup_n (by omega)]; exact vup_s
    · rw [vup_n (by omega), vup_n (by omega), vup_n (by omega)]; exact vup_s
    · rw [vup_n (by omega), vup_n (by omega)]; exact vup_s
    · rw [vup_n (by omega)]; exact vup_s
    · exact vup_s
  have h5 : vup (vup (vup (vup (vup (vup (vup v (6 + 6 * m + 0) kk) (6 + 6 * m + 1) (w 0)) (6 + 6 * m + 2) (w 1)) (6 + 6 * m + 3) (w 2)) (6 + 6 * m + 4) (w 3)) (6 + 6 * m + 5) (w 4)) 5 (m + 1) 5 = m + 1 := vup_s
  generalize vup (vup (vup (vup (vup (vup (vup v (6 + 6 * m + 0) kk) (6 + 6 * m + 1) (w 0)) (6 + 6 * m + 2) (w 1)) (6 + 6 * m + 3) (w 2)) (6 + 6 * m + 4) (w 3)) (6 + 6 * m + 5) (w 4)) 5 (m + 1) = u at hlo h6 hfg h5
  obtain ⟨a1, a2, a3, a4, a5, a6, a7, a8⟩ := h
  refine ⟨by rw [hlo 0 (by omega) (by omega)]; exact a1, by rw [hlo 1 (by omega) (by omega)]; exact a2, by rw [hlo 2 (by omega) (by omega)]; exact a3, by rw [hlo 3 (by omega) (by omega)]; exact a4, by rw [hlo 4 (by omega) (by omega)]; exact a5, h5, fun s hs => by rw [hlo _ (by omega) (by omega)]; exact a7 s hs, fun g hg => ?_⟩
  by_cases e : g = m
  · subst e
    rw [h6]
    refine ⟨h2, hk, fun k hk => ?_⟩
    rw [hfg k hk]
    exact h3 k hk
  · obtain ⟨z1, z2, z3⟩ := a8 g (by omega)
    rw [hlo (6 + 6 * g) (by omega) (by omega)]
    refine ⟨z1, z2, fun k hk => ?_⟩
    rw [hlo _ (by omega) (by omega)]
    exact z3 k hk
theorem R_23f {N : wq_M} (h : ¬ N.1 0 16 = 0) (x : Int32) : fX7_readGrade_J23 x N = some N := by
  have hn : ∀ lo hi : Int32, fX7_number lo hi N = some (lo, N) := by
    intro lo hi
    unfold fX7_number fX7_number_J20 fX7_number_J47 fX7_number_J62
    rw [if_neg h, if_neg h, if_neg h, R_must1, R_must9 h]
    rfl
  have hs : ∀ s : Int32, fX7_mustSign s N = some N := by
    intro s
    unfold fX7_mustSign
    rw [R_must0, R_must1, R_badf h, R_must9 h]
    simp only [Option.bind_some]
    rw [R_must9 h]
    simp only [Option.bind_some]
    split
    · split <;> rfl
    · rfl
  unfold fX7_readGrade_J23
  rw [R_must1, R_must9 h]
  simp only [Option.bind_some, hn, hs]
  rw [if_neg h]
theorem grade_both {C N : wq_M} {m a : Nat} (hm : m < 5) (h : WS b t L Mc Mr (Fh m) C N) (h4 : C.1 18 4 = nI a) (hok : pOk b t L a C N) (hat : a < t) (hk : ¬ kd (b a) = 0) : ∃ C' N', fX2_readGrade 25 (nI m) C = some C' ∧ fX7_readGrade N = some N' ∧ WS b t L Mc Mr (Fh (m + 1)) C' N' := by
  obtain ⟨p1, p2, -⟩ := id h.1
  have ht := p2.1
  have hb : ∀ j, j < t → b j < 256 := fun j hj => (p2.2.2 j hj).1
  have hkl := kd_le (b a)
  obtain ⟨g1, g2, g3, g4⟩ := hok
  obtain ⟨v0, r0, hd0, -⟩ := h.2.1 g1
  have hN5 : N.1 5 5 = nI m := by rw [r0.1 5 (by omega), hd0.2.2.2.2.2.1]
  have htok : N.1 0 15 = nI (b a) ∧ N.1 0 12 = nI (a + 1) := by
    have hl := kd_l hk
    obtain ⟨h13, h | h | h | h | h | h | h⟩ := g4
    · omega
    · exact ⟨h.2.2.2.1, h.2.2.2.2⟩
    · omega
    · have := h.1.2; omega
    · have := h.1.2; omega
    · have := h.1.2; omega
    · omega
  have w1 : WS b t L Mc Mr (Fk m (kd (b a)) 0 (fun _ => 0)) (wq_st (wq_st C (25 + 2) m (nI (kd (b a)))) (25 + 0) 1 (nI (m + 1))) N := by
    refine ws_stc (F := fun f g => ∃ v, RepA g v ∧ Hd m f v ∧ f 2 m = nI (kd (b a))) (ws_stc h (by omega) _ (fun q hF => ?_)) (by omega) _ (fun q hF => ?_)
    · obtain ⟨v, z1, z2, z3⟩ := hF
      exact ⟨v, z1, Hd_c z2 rfl (by funext i; simp) (fun g hg => by simp; intro q; omega) (fun i hi => by simp), by simp⟩
    · obtain ⟨v, z1, z2, z3⟩ := hF
      exact ⟨v, fun _ => 0, z1, Hd_c z2 (by simp) (by funext i; simp) (fun g hg => by simp) (fun i hi => by simp), by simp, by simp; exact z3, fun k hk => by omega⟩
  have c5 : (wq_st (wq_st C (25 + 2) m (nI (kd (b a)))) (25 + 0) 1 (nI (m + 1))).1 18 = C.1 18 := by rw [wq_st_ne (by omega), wq_st_ne (by omega)]
  have e0 : wq_st (wq_st C 27 m (nI (kd (b a)))) 25 1 (nI (m + 1)) = wq_st (wq_st C (25 + 2) m (nI (kd (b a)))) (25 + 0) 1 (nI (m + 1)) := rfl
  unfold fX2_readGrade fX2_readGrade_J27 fX7_readGrade
  rw [C_kind p1 hb ht (by omega) h4, if_pos hat, htok.1, R_kindBy (hb a hat), in_5_44, cl_5, hN5]
  simp only [Option.bind_some, if_true]
  rw [if_neg (nI_ne0 (show 0 < kd (b a) by omega) (by omega)), if_pos (show nI m < 5 by rw [lit_nI 5, nI_ltI (by omega) (by omega)]; exact hm), if_pos g1, in_nI hm (by omega), cl_nI (by omega), if_neg (show ¬ nI m = 5 by rw [lit_nI 5, nI_eq (by omega) (by omega)]; omega), if_neg hk, nI_1, show (25 + 2 : Nat) = 27 from rfl, e0, if_pos rfl]
  generalize wq_st (wq_st C (25 + 2) m (nI (kd (b a)))) (25 + 0) 1 (nI (m + 1)) = C0 at w1 c5
  rw [c5, h4, nI_1]
  obtain ⟨N0, n1, n2, n3⟩ := next_both (L := L) (Mc := wq_st C0 18 4 (nI (a + 1))) (w1.1.1.k (kC.rf.at _)) p2 (show a + 1 ≤ t by omega) st_eq (by rw [st_ne2 (by omega), c5, g1]) g2 (by rw [st_ne2 (by omega), c5, g3]) htok.2
  have w2 := ws_k w1 n2 (kC.rf.at _) n3
  obtain ⟨y0, C1, A1, B1, s1, q1, t1, w3⟩ := fig_step hm (show 0 < 5 by omega) w2
  obtain ⟨y1, C2, A2, B2, s2, q2, t2, w4⟩ := fig_step hm (show 1 < 5 by omega) w3
  obtain ⟨y2, C3, A3, B3, s3, q3, t3, w5⟩ := fig_step hm (show 2 < 5 by omega) w4
  obtain ⟨y3, C4, A4, B4, s4, q4, t4, w6⟩ := fig_step hm (show 3 < 5 by omega) w5
  obtain ⟨y4, C5, A5, B5, s5, q5, t5, w7⟩ := fig_step hm (show 4 < 5 by omega) w6
  have hex : fX2_readGrade_L62 25 (nI m) (nI (4 + 1), C5) = some (.inr C5) := by
    unfold fX2_readGrade_L62
    rfl
  rw [show (((0 : Int32), wq_st C0 18 4 (nI (a + 1))) : Int32 × wq_M) = (nI 0, wq_st C0 18 4 (nI (a + 1))) from rfl, FU_succ, lp_step s1, show (99999 : Nat) = 99994 + 1 + 1 + 1 + 1 + 1 from rfl, lp_step s2, lp_step s3, lp_step s4, lp_step s5, show (99994 + 1 : Nat) = 99994 + 1 from rfl, lp_exit hex]
  unfold fX7_readGrade_J23
  rw [R_must1, n1]
  simp only [Option.bind_some]
  rw [show fX7_number 1 99 N0 = fX7_number 1 (nI (hF 0)) N0 from rfl, q1]
  simp only [Option.bind_some]
  rw [show fX7_mustSign 44 A1 = fX7_mustSign (nI (if 0 = 4 then 59 else 44)) A1 from rfl, t1]
  simp only [Option.bind_some]
  rw [show fX7_number 1 99 B1 = fX7_number 1 (nI (hF 1)) B1 from rfl, q2]
  simp only [Option.bind_some]
  rw [show fX7_mustSign 44 A2 = fX7_mustSign (nI (if 1 = 4 then 59 else 44)) A2 from rfl, t2]
  simp only [Option.bind_some]
  rw [show fX7_number 1 99 B2 = fX7_number 1 (nI (hF 2)) B2 from rfl, q3]
  simp only [Option.bind_some]
  rw [show fX7_mustSign 44 A3 = fX7_mustSign (nI (if 2 = 4 then 59 else 44)) A3 from rfl, t3]
  simp only [Option.bind_some]
  rw [show fX7_number 1 9 B3 = fX7_number 1 (nI (hF 3)) B3 from rfl, q4]
  simp only [Option.bind_some]
  rw [show fX7_mustSign 44 A4 = fX7_mustSign (nI (if 3 = 4 then 59 else 44)) A4 from rfl, t4]
  simp only [Option.bind_some]
  rw [show fX7_number 1 99 B4 = fX7_number 1 (nI (hF 4)) B4 from rfl, q5]
  simp only [Option.bind_some]
  rw [show fX7_mustSign 59 A5 = fX7_mustSign (nI (if 4 = 4 then 59 else 44)) A5 from rfl, t5]
  simp only [Option.bind_some]
  rcases w7.1.f5 with ⟨f1, f2⟩ | ⟨f1, f2⟩
  · rw [if_pos f2]
    obtain ⟨v, w, z1, z2, z3, z4, z5⟩ := w7.2.1 f1
    have hB5 : B5.1 5 5 = nI m := by rw [z1.1 5 (by omega), z2.2.2.2.2.2.1]
    rw [cl_5, in_5_44, hB5, lit_nI 6, pk_mul, nI_add, show (nI (6 + 6 * m) + 0) = nI (6 + 6 * m + 0) by rw [lit_nI 0, nI_add], nI_1, show (nI (6 + 6 * m) + 2) = nI (6 + 6 * m + 2) by rw [lit_nI 2, nI_add], show (nI (6 + 6 * m) + 3) = nI (6 + 6 * m + 3) by rw [lit_nI 3, nI_add], show (nI (6 + 6 * m) + 4) = nI (6 + 6 * m + 4) by rw [lit_nI 4, nI_add], show (nI (6 + 6 * m) + 5) = nI (6 + 6 * m + 5) by rw [lit_nI 5, nI_add], in_nI (show 6 + 6 * m + 0 < 44 by omega) (by omega), in_nI (show 6 + 6 * m + 1 < 44 by omega) (by omega), in_nI (show 6 + 6 * m + 2 < 44 by omega) (by omega), in_nI (show 6 + 6 * m + 3 < 44 by omega) (by omega), in_nI (show 6 + 6 * m + 4 < 44 by omega) (by omega), in_nI (show 6 + 6 * m + 5 < 44 by omega) (by omega), cl_nI (by omega), cl_nI (by omega), cl_nI (by omega), cl_nI (by omega), cl_nI (by omega), cl_nI (by omega)]
    simp only [if_true]
    refine ⟨_, _, rfl, rfl, ws_n5 w7 (fun q hq => by rw [wq_st_ne hq, wq_st_ne hq, wq_st_ne hq, wq_st_ne hq, wq_st_ne hq, wq_st_ne hq, wq_st_ne hq]) (fun q _ => ?_)⟩
    have e0 := (z5 0 (by omega)).2.2
    have e1 := (z5 1 (by omega)).2.2
    have e2 := (z5 2 (by omega)).2.2
    have e3 := (z5 3 (by omega)).2.2
    have e4 := (z5 4 (by omega)).2.2
    have e0 : y0 = nI (w 0) := e0
    have e1 : y1 = nI (w 1) := e1
    have e2 : y2 = nI (w 2) := e2
    have e3 : y3 = nI (w 3) := e3
    have e4 : y4 = nI (w 4) := e4
    have hc : (wq_st (wq_st (wq_st (wq_st (wq_st (wq_st B5 5 (6 + 6 * m + 0) (nI (kd (b a)))) 5 (6 + 6 * m + 1) y0) 5 (6 + 6 * m + 2) y1) 5 (6 + 6 * m + 3) y2) 5 (6 + 6 * m + 4) y3) 5 (6 + 6 * m + 5) y4).1 5 5 + 1 = nI (m + 1) := by
      rw [st_ne2 (by omega), st_ne2 (by omega), st_ne2 (by omega), st_ne2 (by omega), st_ne2 (by omega), st_ne2 (by omega), hB5, nI_1]
    rw [hc, e0, e1, e2, e3, e4]
    refine ⟨_, ?_, Hd_last hm (show 1 ≤ kd (b a) ∧ kd (b a) ≤ 5 by omega) z2 z4 (fun k hk => ⟨(z5 k hk).1, (z5 k hk).2.1⟩), z3⟩
    simp only [wq_st_self]
    exact RepA_up (RepA_up (RepA_up (RepA_up (RepA_up (RepA_up (RepA_up z1 (by omega)) (by omega)) (by omega)) (by omega)) (by omega)) (by omega)) (by omega)
  · rw [if_neg f2]
    exact ⟨_, _, rfl, rfl, ws_w w7 (fun q => by rw [f1] at q; exact absurd q (by decide))⟩
end EH
