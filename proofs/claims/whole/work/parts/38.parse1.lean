section EE
variable {Mc Mr : wq_M} {b : Nat → Nat} {t : Nat}
def dgt (b : Nat → Nat) (t j : Nat) : Prop := j < t ∧ 48 ≤ b j ∧ b j ≤ 57
def TK (b : Nat → Nat) (t a : Nat) (N : wq_M) : Prop := N.1 0 13 = nI a ∧ ((a = t ∧ N.1 0 14 = 1) ∨ (a < t ∧ (97 ≤ b a ∧ b a ≤ 122) ∧ N.1 0 14 = 2 ∧ N.1 0 15 = nI (b a) ∧ N.1 0 12 = nI (a + 1)) ∨ (a < t ∧ (b a = 44 ∨ b a = 59) ∧ N.1 0 14 = 4 ∧ N.1 0 15 = nI (b a) ∧ N.1 0 12 = nI (a + 1)) ∨ (dgt b t a ∧ ¬ dgt b t (a + 1) ∧ N.1 0 14 = 3 ∧ N.1 0 15 = nI (b a - 48) ∧ N.1 0 12 = nI (a + 1)) ∨ (dgt b t a ∧ dgt b t (a + 1) ∧ ¬ dgt b t (a + 2) ∧ N.1 0 14 = 3 ∧ N.1 0 15 = nI (10 * (b a - 48) + (b (a + 1) - 48)) ∧ N.1 0 12 = nI (a + 2)) ∨ (dgt b t a ∧ dgt b t (a + 1) ∧ dgt b t (a + 2) ∧ N.1 0 14 = 0) ∨ (a < t ∧ ¬ (97 ≤ b a ∧ b a ≤ 122) ∧ ¬ (b a = 44 ∨ b a = 59) ∧ ¬ dgt b t a ∧ N.1 0 14 = 0))
def Tp (b : Nat → Nat) (t : Nat) (N : wq_M) : Prop := t ≤ 130 ∧ N.1 0 11 = nI t ∧ ∀ j, j < t → b j < 256 ∧ N.1 8 j = nI (b j)
def kR (Mr N : wq_M) : Prop := (∀ q, q ≠ 0 → N.1 q = Mr.1 q) ∧ ∀ j, (j < 12 ∨ 17 < j) → N.1 0 j = Mr.1 0 j
theorem kR.rf : kR Mr Mr := ⟨fun _ _ => rfl, fun _ _ => rfl⟩
theorem kR.tr {N L : wq_M} (h : kR Mr N) (h2 : kR N L) : kR Mr L := ⟨fun q hq => by rw [h2.1 q hq, h.1 q hq], fun j hj => by rw [h2.2 j hj, h.2 j hj]⟩
theorem kR.st {N : wq_M} (h : kR Mr N) {j : Nat} (hj : 12 ≤ j ∧ j ≤ 17) (x : Int32) : kR Mr (wq_st N 0 j x) := ⟨fun q hq => by rw [wq_st_ne hq, h.1 q hq], fun i hi => by rw [st0_ne (by omega), h.2 i hi]⟩
theorem Tp.k {N : wq_M} (h : Tp b t Mr) (hk : kR Mr N) : Tp b t N := ⟨h.1, by rw [hk.2 11 (by omega)]; exact h.2.1, fun j hj => by rw [hk.1 8 (by omega)]; exact h.2.2 j hj⟩
def k45 (Mr N : wq_M) : Prop := kR Mr N ∧ N.1 0 13 = Mr.1 0 13 ∧ N.1 0 16 = Mr.1 0 16 ∧ N.1 0 17 = Mr.1 0 17
theorem R_digits (hT : Tp b t Mr) (x13 : Nat) (hs : x13 < 1000) : ∀ (k c n : Nat) (M : wq_M), c + k = t → k < n → k45 Mr M → M.1 0 12 = nI c → Mr.1 0 13 = nI x13 → ∃ M' c', wq_lp (fX7_nextToken_L165) n M = some M' ∧ c ≤ c' ∧ M'.1 0 12 = nI c' ∧ c' ≤ t ∧ k45 Mr M' := by
  have ht := hT.1
  intro k
  induction k with
  | zero =>
    intro c n M hc hn hk h12 h13
    obtain ⟨n, rfl⟩ : ∃ m, n = m + 1 := ⟨n - 1, by omega⟩
    refine ⟨M, c, lp_exit ?_, Nat.le_refl _, h12, by omega, hk⟩
    unfold fX7_nextToken_L165
    rw [(hT.k hk.1).2.1, h12, if_pos (show nI t ≤ nI c by rw [nI_leI (by omega) (by omega)]; omega)]
  | succ k ih =>
    intro c n M hc hn hk h12 h13
    obtain ⟨n, rfl⟩ : ∃ m, n = m + 1 := ⟨n - 1, by omega⟩
    have hb := (hT.k hk.1).2.2 c (by omega)
    have hbody : ∃ M1, (fX7_nextToken_L165 M = some (.inr M)) ∨ (fX7_nextToken_L165 M = some (.inl M1) ∧ k45 Mr M1 ∧ M1.1 0 12 = nI (c + 1)) := by
      unfold fX7_nextToken_L165 fX7_nextToken_L165_J239
      rw [(hT.k hk.1).2.1, h12, if_neg (show ¬ nI t ≤ nI c by rw [nI_leI (by omega) (by omega)]; omega), in_nI (show c < 130 by omega) (by omega), cl_nI (by omega), hb.2, lit_lN 48, lit_lN 57, R_inl _ 48 57 (by omega) (by omega)]
      simp only [Option.bind_some, if_true]
      cases (decide (nI 48 ≤ nI (b c)) && decide (nI (b c) ≤ nI 57)) with
      | false => exact ⟨M, Or.inl rfl⟩
      | true =>
        simp only [if_true]
        have hz : ∀ y, k45 Mr (wq_st (wq_st M 0 15 y) 0 12 (((wq_st M 0 15 y).1 0 12) + 1)) ∧ (wq_st (wq_st M 0 15 y) 0 12 (((wq_st M 0 15 y).1 0 12) + 1)).1 0 12 = nI (c + 1) := fun y => by
          refine ⟨⟨(hk.1.st (by omega) _).st (by omega) _, ?_, ?_, ?_⟩, ?_⟩
          · rw [st0_ne (by omega), st0_ne (by omega)]; exact hk.2.1
          · rw [st0_ne (by omega), st0_ne (by omega)]; exact hk.2.2.1
          · rw [st0_ne (by omega), st0_ne (by omega)]; exact hk.2.2.2
          · rw [st_eq, st0_ne (by omega), h12, nI_1]
        by_cases h2 : 2 ≤ nI c - M.1 0 13
        · rw [if_pos h2]
          exact ⟨_, Or.inr ⟨rfl, (hz _).1, (hz _).2⟩⟩
        · rw [if_neg h2]
          exact ⟨_, Or.inr ⟨rfl, (hz _).1, (hz _).2⟩⟩
    obtain ⟨M1, h | ⟨h, h1, h2⟩⟩ := hbody
    · exact ⟨M, c, lp_exit h, Nat.le_refl _, h12, by omega, hk⟩
    · rw [lp_step h]
      obtain ⟨M', c', e1, e2, e3, e4, e5⟩ := ih (c + 1) n M1 (by omega) (by omega) h1 h2 h13
      exact ⟨M', c', e1, by omega, e3, e4, e5⟩
theorem in_dec {x lo hi : Nat} (h1 : x < 2 ^ 31) (h2 : lo < 2 ^ 31) (h3 : hi < 2 ^ 31) : (decide (nI lo ≤ nI x) && decide (nI x ≤ nI hi)) = decide (lo ≤ x ∧ x ≤ hi) := by
  rw [Bool.eq_iff_iff]
  simp only [Bool.and_eq_true, decide_eq_true_eq]
  rw [nI_leI h2 h1, nI_leI h1 h3]
theorem R_142 {M : wq_M} {a : Nat} (hT : Tp b t M) (ha : a < t) (h12 : M.1 0 12 = nI a) (y : Int32) : fX7_nextToken_J118 y M = fX7_nextToken_J142 1 (nI a) (wq_st M 0 14 y) := by
  have ht := hT.1
  unfold fX7_nextToken_J118
  rw [st0_ne (show 11 ≠ 14 by omega), st0_ne (show 12 ≠ 14 by omega), hT.2.1, h12, if_neg (show ¬ nI t ≤ nI a by rw [nI_leI (by omega) (by omega)]; omega)]
theorem R_142n {M : wq_M} {a : Nat} {y : Int32} (hy : ¬ y = 3) : fX7_nextToken_J142 1 (nI a) (wq_st M 0 14 y) = some (wq_st (wq_st M 0 14 y) 0 12 (nI (a + 1))) := by
  unfold fX7_nextToken_J142
  rw [st0_ne (show 14 ≠ 12 by omega), st_eq, if_neg hy, nI_1]
theorem sub_sm {c a : Nat} (h : a ≤ c) (hc : c < 1000) (k : Nat) (hk : k < 1000) : (nI k ≤ nI c - nI a ↔ k ≤ c - a) ∧ (nI c - nI a ≤ nI k ↔ c - a ≤ k) := by
  rw [pk_sub h, nI_leI (by omega) (by omega), nI_leI (by omega) (by omega)]
  exact ⟨Iff.rfl, Iff.rfl⟩
theorem R_next (hT : Tp b t Mr) {a : Nat} (ha : a ≤ t) (h12 : Mr.1 0 12 = nI a) : ∃ N, fX7_nextToken Mr = some N ∧ kR Mr N ∧ N.1 0 16 = Mr.1 0 16 ∧ N.1 0 17 = Mr.1 0 17 ∧ TK b t a N := by
  have ht := hT.1
  unfold fX7_nextToken
  rw [h12, st0_ne (show 11 ≠ 13 by omega), st0_ne (show 12 ≠ 13 by omega), hT.2.1, h12, wq_st_ne (show 8 ≠ 0 by omega)]
  have hk1 : kR Mr (wq_st Mr 0 13 (nI a)) := kR.rf.st (by omega) _
  have h12' : (wq_st Mr 0 13 (nI a)).1 0 12 = nI a := by rw [st0_ne (by omega), h12]
  have h13' : (wq_st Mr 0 13 (nI a)).1 0 13 = nI a := st_eq
  have h16' : (wq_st Mr 0 13 (nI a)).1 0 16 = Mr.1 0 16 := st0_ne (by omega)
  have h17' : (wq_st Mr 0 13 (nI a)).1 0 17 = Mr.1 0 17 := st0_ne (by omega)
  generalize wq_st Mr 0 13 (nI a) = M1 at hk1 h12' h13' h16' h17'
  have hT1 := hT.k hk1
  by_cases hend : a = t
  · subst hend
    rw [if_pos (show nI a ≤ nI a by rw [nI_leI (by omega) (by omega)]; omega)]
    unfold fX7_nextToken_J34
    rw [st0_ne (show 12 ≠ 15 by omega), st0_ne (show 11 ≠ 15 by omega), h12', hT1.2.1, if_pos rfl]
    unfold fX7_nextToken_J118
    rw [st0_ne (show 11 ≠ 14 by omega), st0_ne (show 12 ≠ 14 by omega), st0_ne (show 12 ≠ 15 by omega), st0_ne (show 11 ≠ 15 by omega), h12', hT1.2.1, if_pos (show nI a ≤ nI a by rw [nI_leI (by omega) (by omega)]; omega)]
    unfold fX7_nextToken_J142
    rw [st0_ne (show 14 ≠ 12 by omega), st_eq, if_neg (show ¬ (1 : Int32) = 3 by decide)]
    refine ⟨_, rfl, ((hk1.st (by omega) _).st (by omega) _).st (by omega) _, ?_, ?_, ?_, Or.inl ⟨rfl, ?_⟩⟩
    · rw [st0_ne (by omega), st0_ne (by omega), st0_ne (by omega), h16']
    · rw [st0_ne (by omega), st0_ne (by omega), st0_ne (by omega), h17']
    · rw [st0_ne (by omega), st0_ne (by omega), st0_ne (by omega), h13']
    · rw [st0_ne (by omega), st_eq]
  have hat : a < t := by omega
  have hb := hT.2.2 a hat
  rw [if_neg (show ¬ nI t ≤ nI a by rw [nI_leI (by omega) (by omega)]; omega), in_nI (show a < 130 by omega) (by omega), cl_nI (by omega), hb.2, if_pos rfl]
  unfold fX7_nextToken_J34
  rw [st0_ne (show 12 ≠ 15 by omega), st0_ne (show 11 ≠ 15 by omega), h12', hT1.2.1, if_neg (show ¬ nI a = nI t by rw [nI_eq (by omega) (by omega)]; omega), st_eq]
  have hk2 : kR Mr (wq_st M1 0 15 (nI (b a))) := hk1.st (by omega) _
  have h12'' : (wq_st M1 0 15 (nI (b a))).1 0 12 = nI a := by rw [st0_ne (by omega), h12']
  have h13'' : (wq_st M1 0 15 (nI (b a))).1 0 13 = nI a := by rw [st0_ne (by omega), h13']
  have h15'' : (wq_st M1 0 15 (nI (b a))).1 0 15 = nI (b a) := st_eq
  have h16'' : (wq_st M1 0 15 (nI (b a))).1 0 16 = Mr.1 0 16 := by rw [st0_ne (by omega), h16']
  have h17'' : (wq_st M1 0 15 (nI (b a))).1 0 17 = Mr.1 0 17 := by rw [st0_ne (by omega), h17']
  generalize wq_st M1 0 15 (nI (b a)) = M2 at hk2 h12'' h13'' h15'' h16'' h17''
  have hT2 := hT.k hk2
  rw [lit_lN 97, lit_lN 122, lit_lN 48, lit_lN 57, R_inl _ 97 122 (by omega) (by omega), R_inl _ 48 57 (by omega) (by omega), in_dec (by omega) (by omega) (by omega), in_dec (by omega) (by omega) (by omega)]
  simp only [Option.bind_some, decide_eq_true_eq]
  have hsimple : ∀ y : Int32, ¬ y = 3 → fX7_nextToken_J118 y M2 = some (wq_st (wq_st M2 0 14 y) 0 12 (nI (a + 1))) ∧ kR Mr (wq_st (wq_st M2 0 14 y) 0 12 (nI (a + 1))) ∧ (wq_st (wq_st M2 0 14 y) 0 12 (nI (a + 1))).1 0 16 = Mr.1 0 16 ∧ (wq_st (wq_st M2 0 14 y) 0 12 (nI (a + 1))).1 0 17 = Mr.1 0 17 ∧ (wq_st (wq_st M2 0 14 y) 0 12 (nI (a + 1))).1 0 13 = nI a ∧ (wq_st (wq_st M2 0 14 y) 0 12 (nI (a + 1))).1 0 14 = y ∧ (wq_st (wq_st M2 0 14 y) 0 12 (nI (a + 1))).1 0 15 = nI (b a) ∧ (wq_st (wq_st M2 0 14 y) 0 12 (nI (a + 1))).1 0 12 = nI (a + 1) := by
    intro y hy
    refine ⟨by rw [R_142 hT2 hat h12'', R_142n hy], (hk2.st (by omega) _).st (by omega) _, ?_, ?_, ?_, ?_, ?_, st_eq⟩
    · rw [st0_ne (by omega), st0_ne (by omega), h16'']
    · rw [st0_ne (by omega), st0_ne (by omega), h17'']
    · rw [st0_ne (by omega), st0_ne (by omega), h13'']
    · rw [st0_ne (by omega), st_eq]
    · rw [st0_ne (by omega), st0_ne (by omega), h15'']
  by_cases hl : 97 ≤ b a ∧ b a ≤ 122
  · rw [if_pos hl]
    obtain ⟨z1, z2, z3, z4, z5, z6, z7, z8⟩ := hsimple 2 (by decide)
    exact ⟨_, z1, z2, z3, z4, z5, Or.inr (Or.inl ⟨hat, hl, z6, z7, z8⟩)⟩
  rw [if_neg hl]
  by_cases hd : 48 ≤ b a ∧ b a ≤ 57
  · rw [if_pos hd, R_142 hT2 hat h12'']
    have hda : dgt b t a := ⟨hat, hd.1, hd.2⟩
    unfold fX7_nextToken_J142
    rw [st0_ne (show 14 ≠ 12 by omega), st_eq, if_pos rfl, nI_1, st0_ne (show 15 ≠ 12 by omega), st0_ne (show 15 ≠ 14 by omega), h15'', lit_nI 48, pk_sub hd.1]
    have hk3 : k45 M2 (wq_st (wq_st (wq_st M2 0 14 3) 0 12 (nI (a + 1))) 0 15 (nI (b a - 48))) := by
      refine ⟨((kR.rf.st (by omega) _).st (by omega) _).st (by omega) _, ?_, ?_, ?_⟩
      · rw [st0_ne (by omega), st0_ne (by omega), st0_ne (by omega)]
      · rw [st0_ne (by omega), st0_ne (by omega), st0_ne (by omega)]
      · rw [st0_ne (by omega), st0_ne (by omega), st0_ne (by omega)]
    have g12 : (wq_st (wq_st (wq_st M2 0 14 3) 0 12 (nI (a + 1))) 0 15 (nI (b a - 48))).1 0 12 = nI (a + 1) := by rw [st0_ne (by omega), st_eq]
    have g15 : (wq_st (wq_st (wq_st M2 0 14 3) 0 12 (nI (a + 1))) 0 15 (nI (b a - 48))).1 0 15 = nI (b a - 48) := st_eq
    generalize wq_st (wq_st (wq_st M2 0 14 3) 0 12 (nI (a + 1))) 0 15 (nI (b a - 48)) = M3 at hk3 g12 g15
    have hT3 := hT2.k hk3.1
    have g13 : M3.1 0 13 = nI a := by rw [hk3.2.1, h13'']
    have hfin : ∀ (M : wq_M) (y : Int32), k45 M2 M → kR Mr (wq_st M 0 14 y) ∧ (wq_st M 0 14 y).1 0 16 = Mr.1 0 16 ∧ (wq_st M 0 14 y).1 0 17 = Mr.1 0 17 ∧ (wq_st M 0 14 y).1 0 13 = nI a ∧ (wq_st M 0 14 y).1 0 14 = y ∧ (wq_st M 0 14 y).1 0 15 = M.1 0 15 ∧ (wq_st M 0 14 y).1 0 12 = M.1 0 12 := by
      intro M y hk
      refine ⟨(hk2.tr hk.1).st (by omega) _, ?_, ?_, ?_, st_eq, st0_ne (by omega), st0_ne (by omega)⟩
      · rw [st0_ne (by omega), hk.2.2.1, h16'']
      · rw [st0_ne (by omega), hk.2.2.2, h17'']
      · rw [st0_ne (by omega), hk.2.1, h13'']
    rw [FU_succ]
    by_cases hd1 : dgt b t (a + 1)
    · have hb1 := hT3.2.2 (a + 1) hd1.1
      have hst : fX7_nextToken_L165 M3 = some (.inl (wq_st (wq_st M3 0 15 (nI (10 * (b a - 48) + (b (a + 1) - 48)))) 0 12 (nI (a + 2)))) := by
        unfold fX7_nextToken_L165 fX7_nextToken_L165_J239
        rw [hT3.2.1, g12, if_neg (show ¬ nI t ≤ nI (a + 1) by rw [nI_leI (by omega) (by omega)]; have := hd1.1; omega), in_nI (show a + 1 < 130 by have := hd1.1; omega) (by omega), cl_nI (by omega), hb1.2, lit_lN 48, lit_lN 57, R_inl _ 48 57 (by omega) (by omega), in_dec (by omega) (by omega) (by omega), decide_eq_true hd1.2, g13]
        simp only [Option.bind_some, if_true]
        rw [if_neg (show ¬ 2 ≤ nI (a + 1) - nI a by rw [lit_nI 2, (sub_sm (by omega) (by omega) 2 (by omega)).1]; omega), st0_ne (show 12 ≠ 15 by omega), g12, nI_1, g15, lit_nI 10, pk_mul, nI_add, lit_nI 48, pk_sub (by have := hd1.2; omega), show 10 * (b a - 48) + b (a + 1) - 48 = 10 * (b a - 48) + (b (a + 1) - 48) by have := hd1.2; omega]
      rw [lp_step hst]
      have hk4 : k45 M2 (wq_st (wq_st M3 0 15 (nI (10 * (b a - 48) + (b (a + 1) - 48)))) 0 12 (nI (a + 2))) := by
        refine ⟨(hk3.1.st (by omega) _).st (by omega) _, ?_, ?_, ?_⟩
        · rw [st0_ne (by omega), st0_ne (by omega), hk3.2.1]
        · rw [st0_ne (by omega), st0_ne (by omega), hk3.2.2.1]
        · rw [st0_ne (by omega), st0_ne (by omega), hk3.2.2.2]
      have q12 : (wq_st (wq_st M3 0 15 (nI (10 * (b a - 48) + (b (a + 1) - 48)))) 0 12 (nI (a + 2))).1 0 12 = nI (a + 2) := st_eq
      have q15 : (wq_st (wq_st M3 0 15 (nI (10 * (b a - 48) + (b (a + 1) - 48)))) 0 12 (nI (a + 2))).1 0 15 = nI (10 * (b a - 48) + (b (a + 1) - 48)) := by rw [st0_ne (by omega), st_eq]
      generalize wq_st (wq_st M3 0 15 (nI (10 * (b a - 48) + (b (a + 1) - 48)))) 0 12 (nI (a + 2)) = M4 at hk4 q12 q15
      have hT4 := hT2.k hk4.1
      have q13 : M4.1 0 13 = nI a := by rw [hk4.2.1, h13'']
      by_cases hd2 : dgt b t (a + 2)
      · have hb2 := hT4.2.2 (a + 2) hd2.1
        have hst2 : fX7_nextToken_L165 M4 = some (.inl (wq_st (wq_st M4 0 15 (M4.1 0 15)) 0 12 (nI (a + 3)))) := by
          unfold fX7_nextToken_L165 fX7_nextToken_L165_J239
          rw [hT4.2.1, q12, if_neg (show ¬ nI t ≤ nI (a + 2) by rw [nI_leI (by omega) (by omega)]; have := hd2.1; omega), in_nI (show a + 2 < 130 by have := hd2.1; omega) (by omega), cl_nI (by omega), hb2.2, lit_lN 48, lit_lN 57, R_inl _ 48 57 (by omega) (by omega), in_dec (by omega) (by omega) (by omega), decide_eq_true hd2.2, q13]
          simp only [Option.bind_some, if_true]
          rw [if_pos (show 2 ≤ nI (a + 2) - nI a by rw [lit_nI 2, (sub_sm (by omega) (by omega) 2 (by omega)).1]; omega), st0_ne (show 12 ≠ 15 by omega), q12, nI_1]
        have hk5 : k45 M2 (wq_st (wq_st M4 0 15 (M4.1 0 15)) 0 12 (nI (a + 3))) := by
          refine ⟨(hk4.1.st (by omega) _).st (by omega) _, ?_, ?_, ?_⟩
          · rw [st0_ne (by omega), st0_ne (by omega), hk4.2.1]
          · rw [st0_ne (by omega), st0_ne (by omega), hk4.2.2.1]
          · rw [st0_ne (by omega), st0_ne (by omega), hk4.2.2.2]
        obtain ⟨M', c', e1, e2, e3, e4, e5⟩ := R_digits hT2 a (by omega) (t - (a + 3)) (a + 3) 99997 _ (by have := hd2.1; omega) (by omega) hk5 st_eq h13''
        rw [show (99999 : Nat) = 99998 + 1 from rfl, show (99998 : Nat) = 99997 + 1 from rfl, show (99997 + 1 + 1 : Nat) = (99997 + 1) + 1 from rfl]
        rw [lp_step hst2, show (99997 + 1 : Nat) = 99998 from rfl]
        obtain ⟨M', c', e1, e2, e3, e4, e5⟩ := R_digits hT2 a (by omega) (t - (a + 3)) (a + 3) 99998 _ (by have := hd2.1; omega) (by omega) hk5 st_eq h13''
        rw [e1]
        simp only [Option.bind_some]
        unfold fX7_nextToken_J255
        rw [e3, e5.2.1, h13'', if_neg (show ¬ nI c' - nI a ≤ 2 by rw [lit_nI 2, (sub_sm (by omega) (by omega) 2 (by omega)).2]; omega)]
        obtain ⟨z2, z3, z4, z5, z6, z7, z8⟩ := hfin M' 0 e5
        exact ⟨_, rfl, z2, z3, z4, z5, Or.inr (Or.inr (Or.inr (Or.inr (Or.inr (Or.inl ⟨hda, hd1, hd2, z6⟩)))))⟩
      · have hex : fX7_nextToken_L165 M4 = some (.inr M4) := by
          unfold fX7_nextToken_L165
          rw [hT4.2.1, q12]
          by_cases hlt : a + 2 < t
          · have hb2 := hT4.2.2 (a + 2) hlt
            rw [if_neg (show ¬ nI t ≤ nI (a + 2) by rw [nI_leI (by omega) (by omega)]; omega), in_nI (show a + 2 < 130 by omega) (by omega), cl_nI (by omega), hb2.2, lit_lN 48, lit_lN 57, R_inl _ 48 57 (by omega) (by omega), in_dec (by omega) (by omega) (by omega), decide_eq_false (fun q => hd2 ⟨hlt, q⟩)]
            rfl
          · rw [if_pos (show nI t ≤ nI (a + 2) by rw [nI_leI (by omega) (by omega)]; omega)]
        rw [show (99999 : Nat) = 99998 + 1 from rfl, lp_exit hex]
        simp only [Option.bind_some]
        unfold fX7_nextToken_J255
        rw [q12, q13, if_pos (show nI (a + 2) - nI a ≤ 2 by rw [lit_nI 2, (sub_sm (by omega) (by omega) 2 (by omega)).2]; omega)]
        obtain ⟨z2, z3, z4, z5, z6, z7, z8⟩ := hfin M4 3 hk4
        exact ⟨_, rfl, z2, z3, z4, z5, Or.inr (Or.inr (Or.inr (Or.inr (Or.inl ⟨hda, hd1, hd2, z6, by rw [z7, q15], by rw [z8, q12]⟩))))⟩
    · have hex : fX7_nextToken_L165 M3 = some (.inr M3) := by
        unfold fX7_nextToken_L165
        rw [hT3.2.1, g12]
        by_cases hlt : a + 1 < t
        · have hb2 := hT3.2.2 (a + 1) hlt
          rw [if_neg (show ¬ nI t ≤ nI (a + 1) by rw [nI_leI (by omega) (by omega)]; omega), in_nI (show a + 1 < 130 by omega) (by omega), cl_nI (by omega), hb2.2, lit_lN 48, lit_lN 57, R_inl _ 48 57 (by omega) (by omega), in_dec (by omega) (by omega) (by omega), decide_eq_false (fun q => hd1 ⟨hlt, q⟩)]
          rfl
        · rw [if_pos (show nI t ≤ nI (a + 1) by rw [nI_leI (by omega) (by omega)]; omega)]
      rw [lp_exit hex]
      simp only [Option.bind_some]
      unfold fX7_nextToken_J255
      rw [g12, g13, if_pos (show nI (a + 1) - nI a ≤ 2 by rw [lit_nI 2, (sub_sm (by omega) (by omega) 2 (by omega)).2]; omega)]
      obtain ⟨z2, z3, z4, z5, z6, z7, z8⟩ := hfin M3 3 hk3
      exact ⟨_, rfl, z2, z3, z4, z5, Or.inr (Or.inr (Or.inr (Or.inl ⟨hda, hd1, z6, by rw [z7, g15], by rw [z8, g12]⟩)))⟩
  rw [if_neg hd]
  unfold fX7_nextToken_J113
  have hnd : ¬ dgt b t a := fun q => hd q.2
  by_cases h44 : b a = 44
  · rw [if_pos (show nI (b a) = 44 by rw [h44]; rfl)]
    obtain ⟨z1, z2, z3, z4, z5, z6, z7, z8⟩ := hsimple 4 (by decide)
    exact ⟨_, z1, z2, z3, z4, z5, Or.inr (Or.inr (Or.inl ⟨hat, Or.inl h44, z6, z7, z8⟩))⟩
  rw [if_neg (show ¬ nI (b a) = 44 by rw [lit_nI 44, nI_eq (by omega) (by omega)]; exact h44)]
  by_cases h59 : b a = 59
  · rw [if_pos (show nI (b a) = 59 by rw [h59]; rfl)]
    obtain ⟨z1, z2, z3, z4, z5, z6, z7, z8⟩ := hsimple 4 (by decide)
    exact ⟨_, z1, z2, z3, z4, z5, Or.inr (Or.inr (Or.inl ⟨hat, Or.inr h59, z6, z7, z8⟩))⟩
  rw [if_neg (show ¬ nI (b a) = 59 by rw [lit_nI 59, nI_eq (by omega) (by omega)]; exact h59)]
  obtain ⟨z1, z2, z3, z4, z5, z6, z7, z8⟩ := hsimple 0 (by decide)
  exact ⟨_, z1, z2, z3, z4, z5, Or.inr (Or.inr (Or.inr (Or.inr (Or.inr (Or.inr ⟨hat, hl, by omega, hnd, z6⟩)))))⟩
end EE
