section EF
variable {Mc Mr : wq_M} {b : Nat → Nat} {t : Nat} {L : Int32}
def TpC (b : Nat → Nat) (t : Nat) (C : wq_M) : Prop := C.1 18 1 = nI t ∧ ∀ j, j < t → C.1 19 j = nI (b j)
def pOk (b : Nat → Nat) (t : Nat) (L : Int32) (a : Nat) (C N : wq_M) : Prop := C.1 18 5 = 0 ∧ N.1 0 16 = 0 ∧ C.1 18 3 = L ∧ TK b t a N
def pNo (t : Nat) (C N : wq_M) : Prop := C.1 18 5 = 1 ∧ ∃ f pl, (1 ≤ f ∧ f ≤ 3) ∧ pl ≤ t ∧ N.1 0 16 = nI f ∧ N.1 0 17 = nI pl ∧ C.1 18 3 = nI f ∧ C.1 18 2 = nI pl
def PS (b : Nat → Nat) (t : Nat) (L : Int32) (C N : wq_M) : Prop := TpC b t C ∧ Tp b t N ∧ ∃ a, a ≤ t ∧ C.1 18 4 = nI a ∧ (pOk b t L a C N ∨ pNo t C N)
def kC (Mc C : wq_M) : Prop := (∀ q, q ≠ 18 → C.1 q = Mc.1 q) ∧ C.2 = Mc.2 ∧ C.1 18 1 = Mc.1 18 1 ∧ (C.1 18 5 = 0 → Mc.1 18 5 = 0)
theorem kC.rf : kC Mc Mc := ⟨fun _ _ => rfl, rfl, rfl, fun h => h⟩
theorem kC.tr {C D : wq_M} (h : kC Mc C) (h2 : kC C D) : kC Mc D := ⟨fun q hq => by rw [h2.1 q hq, h.1 q hq], by rw [h2.2.1, h.2.1], by rw [h2.2.2.1, h.2.2.1], fun q => h.2.2.2 (h2.2.2.2 q)⟩
theorem kC.at {C : wq_M} (h : kC Mc C) (x : Int32) : kC Mc (wq_st C 18 4 x) := ⟨fun q hq => by rw [wq_st_ne hq, h.1 q hq], h.2.1, by rw [st_ne2 (by omega), h.2.2.1], fun q => by rw [st_ne2 (by omega)] at q; exact h.2.2.2 q⟩
theorem TpC.k {C : wq_M} (h : TpC b t Mc) (hk : kC Mc C) : TpC b t C := ⟨by rw [hk.2.2.1]; exact h.1, fun j hj => by rw [hk.1 19 (by omega)]; exact h.2 j hj⟩
theorem nI_f0 {f : Nat} (h : 1 ≤ f ∧ f ≤ 3) : ¬ nI f = 0 := nI_ne0 (by omega) (by omega)
theorem PS.f5 (h : PS b t L Mc Mr) : Mc.1 18 5 = 0 ∧ Mr.1 0 16 = 0 ∨ Mc.1 18 5 = 1 ∧ ¬ Mr.1 0 16 = 0 := by
  obtain ⟨h1, h2, a, ha, h4, h | ⟨q, f, pl, hf, -, e, -⟩⟩ := h
  · exact Or.inl ⟨h.1, h.2.1⟩
  · exact Or.inr ⟨q, by rw [e]; exact nI_f0 hf⟩
/-- both fail -/
theorem fail_both (h : PS b t L Mc Mr) {f : Nat} (hf : 1 ≤ f ∧ f ≤ 3) : ∃ C N, fX2_fail (nI f) Mc = some C ∧ fX7_bad (nI f) Mr = some N ∧ PS b t L C N ∧ kC Mc C ∧ kR Mr N ∧ C.1 18 5 = 1 ∧ ¬ N.1 0 16 = 0 := by
  unfold fX2_fail fX7_bad
  obtain ⟨h1, h2, a, ha, h4, ⟨g1, g2, g3, g4⟩ | ⟨g1, f', pl, hf', hpl, e1, e2, e3, e4⟩⟩ := id h
  · rw [if_pos g1, if_pos g2, st_ne2 (show 4 ≠ 5 by omega), h4, st0_ne (show 13 ≠ 16 by omega), g4.1]
    have kc : kC Mc (wq_st (wq_st (wq_st Mc 18 5 1) 18 2 (nI a)) 18 3 (nI f)) := by
      refine ⟨fun q hq => by rw [wq_st_ne hq, wq_st_ne hq, wq_st_ne hq], rfl, by rw [st_ne2 (by omega), st_ne2 (by omega), st_ne2 (by omega)], fun q => ?_⟩
      exact g1
    have kr : kR Mr (wq_st (wq_st Mr 0 16 (nI f)) 0 17 (nI a)) := (kR.rf.st (by omega) _).st (by omega) _
    have c5 : (wq_st (wq_st (wq_st Mc 18 5 1) 18 2 (nI a)) 18 3 (nI f)).1 18 5 = 1 := by rw [st_ne2 (by omega), st_ne2 (by omega), st_eq]
    have n16 : (wq_st (wq_st Mr 0 16 (nI f)) 0 17 (nI a)).1 0 16 = nI f := by rw [st0_ne (by omega), st_eq]
    refine ⟨_, _, rfl, rfl, ⟨h1.k kc, h2.k kr, a, ha, ?_, Or.inr ⟨c5, f, a, hf, ha, n16, st_eq, st_eq, ?_⟩⟩, kc, kr, c5, by rw [n16]; exact nI_f0 hf⟩
    · rw [st_ne2 (by omega), st_ne2 (by omega), st_ne2 (by omega), h4]
    · rw [st_ne2 (by omega), st_eq]
  · have n16 : ¬ Mr.1 0 16 = 0 := by rw [e1]; exact nI_f0 hf'
    rw [if_neg (show ¬ Mc.1 18 5 = 0 by rw [g1]; decide), if_neg n16]
    exact ⟨_, _, rfl, rfl, h, kC.rf, kR.rf, g1, n16⟩
theorem R_must9 {M : wq_M} (h : ¬ M.1 0 16 = 0) : fX7_must_J9 M = some M := by
  unfold fX7_must_J9
  rw [if_neg h]
/-- the next word after one that ends before `a` -/
theorem next_both (h1 : TpC b t Mc) (h2 : Tp b t Mr) {a : Nat} (ha : a ≤ t) (h4 : Mc.1 18 4 = nI a) (g1 : Mc.1 18 5 = 0) (g2 : Mr.1 0 16 = 0) (g3 : Mc.1 18 3 = L) (h12 : Mr.1 0 12 = nI a) : ∃ N, fX7_must_J9 Mr = some N ∧ PS b t L Mc N ∧ kR Mr N := by
  obtain ⟨N, e, k, k16, k17, tk⟩ := R_next h2 ha h12
  unfold fX7_must_J9
  rw [if_pos g2, e]
  exact ⟨N, rfl, ⟨h1, h2.k k, a, ha, h4, Or.inl ⟨g1, by rw [k16, g2], g3, tk⟩⟩, k⟩
theorem sign_both (h : PS b t L Mc Mr) {s : Nat} (hs : s < 256) {R : wq_M → Option wq_M} (hR1 : ¬ Mr.1 0 16 = 0 → R Mr = some Mr) (hR2 : ∀ a, Mr.1 0 16 = 0 → TK b t a Mr → a < t → b a = s → R Mr = fX7_must_J9 Mr ∧ Mr.1 0 12 = nI (a + 1)) (hR3 : ∀ a, Mr.1 0 16 = 0 → TK b t a Mr → ¬ (a < t ∧ b a = s) → R Mr = (fX7_bad 1 Mr).bind fX7_must_J9) : ∃ C N, fX2_readSign (nI s) Mc = some C ∧ R Mr = some N ∧ PS b t L C N ∧ kC Mc C ∧ kR Mr N := by
  obtain ⟨h1, h2, a, ha, h4, hh⟩ := id h
  have ht := h2.1
  unfold fX2_readSign fX2_readSign_J24
  rw [h1.1, h4]
  have hfail : ∃ C N, ((fX2_fail 1 Mc).bind fun r2 => some r2) = some C ∧ ((fX7_bad 1 Mr).bind fX7_must_J9) = some N ∧ PS b t L C N ∧ kC Mc C ∧ kR Mr N := by
    obtain ⟨C, N, e1, e2, e3, e4, e5, e6, e7⟩ := fail_both h (f := 1) (by omega)
    refine ⟨C, N, ?_, ?_, e3, e4, e5⟩
    · rw [show (1 : Int32) = nI 1 from rfl, e1]; rfl
    · rw [show (1 : Int32) = nI 1 from rfl, e2]
      exact R_must9 e7
  by_cases hm : a < t ∧ b a = s
  · rw [if_neg (show ¬ nI t ≤ nI a by rw [nI_leI (by omega) (by omega)]; omega), in_nI (show a < 130 by omega) (by omega), cl_nI (by omega), h1.2 a hm.1, hm.2, if_pos rfl, if_pos rfl, nI_1]
    have kc : kC Mc (wq_st Mc 18 4 (nI (a + 1))) := kC.rf.at _
    rcases hh with ⟨g1, g2, g3, g4⟩ | ⟨g1, f, pl, hf, hpl, e1, e2, e3, e4⟩
    · obtain ⟨q1, q2⟩ := hR2 a g2 g4 hm.1 hm.2
      obtain ⟨N, n1, n2, n3⟩ := next_both (L := L) (h1.k kc) h2 (show a + 1 ≤ t by omega) st_eq (by rw [st_ne2 (by omega), g1]) g2 (by rw [st_ne2 (by omega), g3]) q2
      rw [q1]
      exact ⟨_, N, rfl, n1, n2, kc, n3⟩
    · have n16 : ¬ Mr.1 0 16 = 0 := by rw [e1]; exact nI_f0 hf
      rw [hR1 n16]
      refine ⟨_, _, rfl, rfl, ⟨h1.k kc, h2, a + 1, by omega, st_eq, Or.inr ⟨by rw [st_ne2 (by omega), g1], f, pl, hf, hpl, e1, e2, by rw [st_ne2 (by omega), e3], by rw [st_ne2 (by omega), e4]⟩⟩, kc, kR.rf⟩
  · have hc : (if nI t ≤ nI a then (fX2_fail 1 Mc).bind fun r2 => some r2 else if wq_in (nI a) 130 then (if Mc.1 19 (nI a).toNatClampNeg = nI s then some (wq_st Mc 18 4 (nI a + 1)) else (fX2_fail 1 Mc).bind fun r2 => some r2) else none) = (fX2_fail 1 Mc).bind fun r2 => some r2 := by
      by_cases hlt : a < t
      · rw [if_neg (show ¬ nI t ≤ nI a by rw [nI_leI (by omega) (by omega)]; omega), in_nI (show a < 130 by omega) (by omega), cl_nI (by omega), h1.2 a hlt, if_pos rfl, if_neg (show ¬ nI (b a) = nI s by rw [nI_eq (by have := (h2.2.2 a hlt).1; omega) (by omega)]; intro q; exact hm ⟨hlt, q⟩)]
      · rw [if_pos (show nI t ≤ nI a by rw [nI_leI (by omega) (by omega)]; omega)]
    rw [hc]
    rcases hh with ⟨g1, g2, g3, g4⟩ | ⟨g1, f, pl, hf, hpl, e1, e2, e3, e4⟩
    · rw [hR3 a g2 g4 hm]
      exact hfail
    · have n16 : ¬ Mr.1 0 16 = 0 := by rw [e1]; exact nI_f0 hf
      obtain ⟨C, N, e1, e2, e3, e4, e5⟩ := hfail
      have : fX7_bad 1 Mr = some Mr := by
        unfold fX7_bad
        rw [if_neg n16]
      rw [this] at e2
      simp only [Option.bind_some] at e2
      rw [R_must9 n16] at e2
      simp only [Option.some.injEq] at e2
      subst e2
      exact ⟨C, Mr, e1, hR1 n16, e3, e4, e5⟩
theorem R_must0 (M : wq_M) : fX7_must 0 M = (fX7_bad 1 M).bind fX7_must_J9 := by
  unfold fX7_must
  rw [if_pos rfl]
theorem R_must1 (M : wq_M) : fX7_must 1 M = fX7_must_J9 M := by
  unfold fX7_must
  rw [if_neg (by decide)]
theorem bind_id {α : Type} (x : Option α) : (x.bind fun r => some r) = x := by cases x <;> rfl
theorem R_badf {M : wq_M} (h : ¬ M.1 0 16 = 0) (f : Int32) : fX7_bad f M = some M := by
  unfold fX7_bad
  rw [if_neg h]
theorem mustSign_both (h : PS b t L Mc Mr) {s : Nat} (hs : s = 44 ∨ s = 59) : ∃ C N, fX2_readSign (nI s) Mc = some C ∧ fX7_mustSign (nI s) Mr = some N ∧ PS b t L C N ∧ kC Mc C ∧ kR Mr N := by
  have hb := h.2.1.2.2
  have hno : ¬ Mr.1 0 16 = 0 → fX7_mustSign (nI s) Mr = some Mr := by
    intro n16
    unfold fX7_mustSign
    rw [R_must0, R_must1, R_badf n16, R_must9 n16]
    simp only [Option.bind_some]
    rw [R_must9 n16]
    simp only [Option.bind_some]
    split
    · split <;> rfl
    · rfl
  refine sign_both h (by omega) hno (fun a g2 tk hlt hbs => ?_) (fun a g2 tk hn => ?_)
  · obtain ⟨h13, h | h | h | h | h | h | h⟩ := tk
    · omega
    · omega
    · refine ⟨?_, h.2.2.2.2⟩
      unfold fX7_mustSign
      rw [h.2.2.1, h.2.2.2.1, hbs, if_pos rfl, if_pos rfl, R_must1, bind_id]
    · have := h.1.2; omega
    · have := h.1.2; omega
    · have := h.1.2; omega
    · omega
  · unfold fX7_mustSign
    rw [R_must0, R_must1, bind_id, bind_id]
    obtain ⟨h13, h | h | h | h | h | h | h⟩ := tk
    · rw [h.2, if_neg (by decide)]
    · rw [h.2.2.1, if_neg (by decide)]
    · have := (hb a h.1).1
      rw [h.2.2.1, h.2.2.2.1, if_pos rfl, if_neg (show ¬ nI (b a) = nI s by rw [nI_eq (by omega) (by omega)]; intro q; exact hn ⟨h.1, q⟩)]
    · rw [h.2.2.1, if_neg (by decide)]
    · rw [h.2.2.2.1, if_neg (by decide)]
    · rw [h.2.2.2, if_neg (by decide)]
    · rw [h.2.2.2.2, if_neg (by decide)]
theorem letter_both (h : PS b t L Mc Mr) {s : Nat} (hs : 97 ≤ s ∧ s ≤ 122) : ∃ C N, fX2_readSign (nI s) Mc = some C ∧ ((fX7_isLetter (nI s) Mr).bind fun r9 => fX7_must (wq_b r9) Mr) = some N ∧ PS b t L C N ∧ kC Mc C ∧ kR Mr N := by
  have hb := h.2.1.2.2
  have hF : fX7_isLetter (nI s) Mr = some false → (fX7_isLetter (nI s) Mr).bind (fun r9 => fX7_must (wq_b r9) Mr) = (fX7_bad 1 Mr).bind fX7_must_J9 := by
    intro q
    rw [q]
    exact R_must0 Mr
  refine sign_both h (R := fun M => (fX7_isLetter (nI s) M).bind fun r9 => fX7_must (wq_b r9) M) (by omega) (fun n16 => ?_) (fun a g2 tk hlt hbs => ?_) (fun a g2 tk hn => ?_)
  · show (fX7_isLetter (nI s) Mr).bind (fun r9 => fX7_must (wq_b r9) Mr) = _
    rw [hF (by unfold fX7_isLetter; rw [if_neg n16]), R_badf n16]
    exact R_must9 n16
  · obtain ⟨h13, h | h | h | h | h | h | h⟩ := tk
    · omega
    · refine ⟨?_, h.2.2.2.2⟩
      show (fX7_isLetter (nI s) Mr).bind (fun r9 => fX7_must (wq_b r9) Mr) = _
      unfold fX7_isLetter
      rw [if_pos g2, h.2.2.1, h.2.2.2.1, hbs, if_pos rfl, if_pos rfl]
      exact R_must1 Mr
    · omega
    · have := h.1.2; omega
    · have := h.1.2; omega
    · have := h.1.2; omega
    · omega
  · show (fX7_isLetter (nI s) Mr).bind (fun r9 => fX7_must (wq_b r9) Mr) = _
    apply hF
    unfold fX7_isLetter
    rw [if_pos g2]
    obtain ⟨h13, h | h | h | h | h | h | h⟩ := tk
    · rw [h.2, if_neg (by decide)]
    · have := (hb a h.1).1
      rw [h.2.2.1, h.2.2.2.1, if_pos rfl, if_neg (show ¬ nI (b a) = nI s by rw [nI_eq (by omega) (by omega)]; intro q; exact hn ⟨h.1, q⟩)]
    · rw [h.2.2.1, if_neg (by decide)]
    · rw [h.2.2.1, if_neg (by decide)]
    · rw [h.2.2.2.1, if_neg (by decide)]
    · rw [h.2.2.2, if_neg (by decide)]
    · rw [h.2.2.2.2, if_neg (by decide)]
/-- what the component reads as a number -/
theorem C_num {M : wq_M} (h1 : TpC b t M) (h2 : ∀ j, j < t → b j < 256) (ht : t ≤ 130) {a : Nat} (ha : a ≤ t) (h4 : M.1 18 4 = nI a) (x1 x2 : Int32) : ∃ e x, wq_lp (fX2_readNumber_L8 x1 x2 M) wq_FU (nI a, 0) = some (nI e, nI x) ∧ ((e = a ∧ ¬ dgt b t a) ∨ (e = a + 1 ∧ dgt b t a ∧ ¬ dgt b t (a + 1) ∧ x = b a - 48) ∨ (e = a + 2 ∧ dgt b t a ∧ dgt b t (a + 1) ∧ ¬ dgt b t (a + 2) ∧ x = 10 * (b a - 48) + (b (a + 1) - 48)) ∨ (e = a + 3 ∧ dgt b t a ∧ dgt b t (a + 1) ∧ dgt b t (a + 2))) := by
  have hex : ∀ e x, e ≤ t → ¬ dgt b t e → fX2_readNumber_L8 x1 x2 M (nI e, nI x) = some (.inr (nI e, nI x)) := by
    intro e x he hd
    unfold fX2_readNumber_L8
    simp only []
    rw [h1.1]
    by_cases hlt : e < t
    · have hb := h2 e hlt
      rw [if_neg (show ¬ nI t ≤ nI e by rw [nI_leI (by omega) (by omega)]; omega), in_nI (show e < 130 by omega) (by omega), cl_nI (by omega), h1.2 e hlt, if_pos rfl]
      by_cases h48 : b e < 48
      · rw [if_pos (show nI (b e) < 48 by rw [lit_nI 48, nI_ltI (by omega) (by omega)]; omega)]
      · rw [if_neg (show ¬ nI (b e) < 48 by rw [lit_nI 48, nI_ltI (by omega) (by omega)]; omega), if_pos rfl, if_pos (show 57 < nI (b e) by rw [lit_nI 57, nI_ltI (by omega) (by omega)]; exact Nat.lt_of_not_le (fun q => hd ⟨hlt, by omega, q⟩))]
    · rw [if_pos (show nI t ≤ nI e by rw [nI_leI (by omega) (by omega)]; omega)]
  have hst : ∀ e x, e < a + 3 → dgt b t e → fX2_readNumber_L8 x1 x2 M (nI e, nI x) = some (.inl (nI (e + 1), nI (x * 10 + (b e - 48)))) := by
    intro e x he hd
    have hb := h2 e hd.1
    have hd1 := hd.1
    have hd2 := hd.2
    unfold fX2_readNumber_L8
    simp only []
    rw [h1.1, if_neg (show ¬ nI t ≤ nI e by rw [nI_leI (by omega) (by omega)]; omega), in_nI (show e < 130 by omega) (by omega), cl_nI (by omega), h1.2 e hd1, if_pos rfl, if_neg (show ¬ nI (b e) < 48 by rw [lit_nI 48, nI_ltI (by omega) (by omega)]; omega), if_pos rfl, if_neg (show ¬ 57 < nI (b e) by rw [lit_nI 57, nI_ltI (by omega) (by omega)]; omega), h4, if_neg (show ¬ nI a + 3 ≤ nI e by rw [lit_nI 3, nI_add, nI_leI (by omega) (by omega)]; omega), if_pos rfl, nI_1, lit_nI 10, pk_mul, nI_add, lit_nI 48, pk_sub (by omega), show x * 10 + b e - 48 = x * 10 + (b e - 48) by omega]
  have hst3 : ∀ x, dgt b t (a + 2) → fX2_readNumber_L8 x1 x2 M (nI (a + 3), nI x) = some (.inr (nI (a + 3), nI x)) := by
    intro x hd2
    by_cases hd : dgt b t (a + 3)
    · have hb := h2 (a + 3) hd.1
      have hd1 := hd.1
      have hd2 := hd.2
      unfold fX2_readNumber_L8
      simp only []
      rw [h1.1, if_neg (show ¬ nI t ≤ nI (a + 3) by rw [nI_leI (by omega) (by omega)]; omega), in_nI (show a + 3 < 130 by omega) (by omega), cl_nI (by omega), h1.2 (a + 3) hd1, if_pos rfl, if_neg (show ¬ nI (b (a + 3)) < 48 by rw [lit_nI 48, nI_ltI (by omega) (by omega)]; omega), if_pos rfl, if_neg (show ¬ 57 < nI (b (a + 3)) by rw [lit_nI 57, nI_ltI (by omega) (by omega)]; omega), h4, if_pos (show nI a + 3 ≤ nI (a + 3) by rw [lit_nI 3, nI_add, nI_leI (by omega) (by omega)]; omega)]
    · exact hex _ _ (by have := hd2.1; omega) hd
  rw [show ((nI a, (0 : Int32)) : Int32 × Int32) = (nI a, nI 0) from rfl, FU_succ, show (99999 : Nat) = 99996 + 1 + 1 + 1 from rfl]
  by_cases d0 : dgt b t a
  · rw [lp_step (hst a 0 (by omega) d0)]
    by_cases d1 : dgt b t (a + 1)
    · rw [lp_step (hst _ _ (by omega) d1)]
      by_cases d2 : dgt b t (a + 2)
      · rw [lp_step (hst _ _ (by omega) d2), show (99996 + 1 : Nat) = 99996 + 1 from rfl, lp_exit (hst3 _ d2)]
        exact ⟨_, _, rfl, Or.inr (Or.inr (Or.inr ⟨rfl, d0, d1, d2⟩))⟩
      · rw [lp_exit (hex _ _ (by have := d1.1; omega) d2)]
        exact ⟨_, _, rfl, Or.inr (Or.inr (Or.inl ⟨rfl, d0, d1, d2, by omega⟩))⟩
    · rw [lp_exit (hex _ _ (by have := d0.1; omega) d1)]
      exact ⟨_, _, rfl, Or.inr (Or.inl ⟨rfl, d0, d1, by omega⟩)⟩
  · rw [lp_exit (hex _ _ ha d0)]
    exact ⟨_, _, rfl, Or.inl ⟨rfl, d0⟩⟩
theorem number_both (h : PS b t L Mc Mr) {lo hi : Nat} (hh : hi < 1000) (hlh : lo ≤ hi) : ∃ x y C N, fX2_readNumber (nI lo) (nI hi) Mc = some (x, C) ∧ fX7_number (nI lo) (nI hi) Mr = some (y, N) ∧ PS b t L C N ∧ kC Mc C ∧ kR Mr N ∧ (C.1 18 5 = 0 → ∃ k, lo ≤ k ∧ k ≤ hi ∧ x = nI k ∧ y = nI k) := by
  obtain ⟨h1, h2, a, ha, h4, hp⟩ := id h
  have ht := h2.1
  unfold fX2_readNumber
  rw [h4]
  obtain ⟨e, x, hl, hcase⟩ := C_num h1 (fun j hj => (h2.2.2 j hj).1) ht ha h4 (nI lo) (nI hi)
  rw [hl]
  simp only [Option.bind_some]
  unfold fX2_readNumber_J71 fX2_readNumber_J89 fX2_readNumber_J109
  rw [h4, lit_nI 3, nI_add]
  rcases hp with ⟨g1, g2, g3, g4⟩ | ⟨g1, f, pl, hf, hpl, e1, e2, e3, e4⟩
  · have hfail : ∀ f, 1 ≤ f ∧ f ≤ 3 → (fX7_number (nI lo) (nI hi) Mr = (fX7_bad (nI f) Mr).bind fun r => some (nI lo, r)) → ∃ x' y C N, ((fX2_fail (nI f) Mc).bind fun r11 => some (nI x, r11)) = some (x', C) ∧ fX7_number (nI lo) (nI hi) Mr = some (y, N) ∧ PS b t L C N ∧ kC Mc C ∧ kR Mr N ∧ (C.1 18 5 = 0 → ∃ k, lo ≤ k ∧ k ≤ hi ∧ x' = nI k ∧ y = nI k) := by
      intro f hf hr
      obtain ⟨C, N, e1, e2, e3, e4, e5, e6, e7⟩ := fail_both h hf
      rw [hr, e1, e2]
      exact ⟨_, _, C, N, rfl, rfl, e3, e4, e5, fun q => by rw [e6] at q; exact absurd q (by decide)⟩
    have hrb : ∀ f, 1 ≤ f ∧ f ≤ 3 → ∀ N, fX7_bad (nI f) Mr = some N → ¬ N.1 0 16 = 0 := by
      intro f hf N hN
      obtain ⟨C, N', e1, e2, e3, e4, e5, e6, e7⟩ := fail_both h hf
      rw [e2] at hN
      simp only [Option.some.injEq] at hN
      rw [← hN]
      exact e7
    have hr1 : ¬ Mr.1 0 14 = 3 → fX7_number (nI lo) (nI hi) Mr = (fX7_bad (nI 1) Mr).bind fun r => some (nI lo, r) := by
      intro h3
      unfold fX7_number
      rw [if_pos g2, if_neg h3, show (1 : Int32) = nI 1 from rfl]
      cases hb : fX7_bad (nI 1) Mr with
      | none => rfl
      | some N =>
        have n16 := hrb 1 (by omega) N hb
        simp only [Option.bind_some]
        unfold fX7_number_J20 fX7_number_J47 fX7_number_J62
        rw [if_neg n16, if_neg n16, R_must1, R_must9 n16]
        rfl
    have hr2 : Mr.1 0 14 = 3 → Mr.1 0 15 = nI x → x < 1000 → ¬ (lo ≤ x ∧ x ≤ hi) → fX7_number (nI lo) (nI hi) Mr = (fX7_bad (nI 2) Mr).bind fun r => some (nI lo, r) := by
      intro h3 h15 hx hb
      unfold fX7_number fX7_number_J20
      rw [if_pos g2, if_pos h3, if_pos g2, h15, R_in, in_dec (by omega) (by omega) (by omega), decide_eq_false hb]
      simp only [Option.bind_some, Bool.false_eq_true, if_false]
      rw [show (2 : Int32) = nI 2 from rfl]
      cases hb : fX7_bad (nI 2) Mr with
      | none => rfl
      | some N =>
        have n16 := hrb 2 (by omega) N hb
        simp only [Option.bind_some]
        unfold fX7_number_J47 fX7_number_J62
        rw [if_neg n16, R_must1, R_must9 n16]
        rfl
    have hr3 : Mr.1 0 14 = 3 → Mr.1 0 15 = nI x → x < 1000 → lo ≤ x ∧ x ≤ hi → fX7_number (nI lo) (nI hi) Mr = (fX7_must_J9 Mr).bind fun r => some (nI x, r) := by
      intro h3 h15 hx hb
      unfold fX7_number fX7_number_J20 fX7_number_J47 fX7_number_J62
      rw [if_pos g2, if_pos h3, if_pos g2, h15, R_in, in_dec (by omega) (by omega) (by omega), decide_eq_true hb]
      simp only [Option.bind_some, if_true]
      rw [if_pos g2, R_must1]
    have hgood : ∀ e, Mr.1 0 14 = 3 → Mr.1 0 15 = nI x → x < 1000 → e ≤ t → e ≠ a → e ≠ a + 3 → Mr.1 0 12 = nI e → ∃ x' y C N, (if nI e = nI a then (fX2_fail 1 Mc).bind fun r11 => some (nI x, r11) else if nI e = nI (a + 3) then (fX2_fail 1 Mc).bind fun r11 => some (nI x, r11) else if nI x < nI lo then (fX2_fail 2 Mc).bind fun r15 => some (nI x, r15) else if nI x ≤ nI hi then (if Mc.1 18 5 = 0 then some (nI x, wq_st Mc 18 4 (nI e)) else some (nI x, Mc)) else (fX2_fail 2 Mc).bind fun r15 => some (nI x, r15)) = some (x', C) ∧ fX7_number (nI lo) (nI hi) Mr = some (y, N) ∧ PS b t L C N ∧ kC Mc C ∧ kR Mr N ∧ (C.1 18 5 = 0 → ∃ k, lo ≤ k ∧ k ≤ hi ∧ x' = nI k ∧ y = nI k) := by
      intro e h3 h15 hx het hea hea3 h12
      rw [if_neg (show ¬ nI e = nI a by rw [nI_eq (by omega) (by omega)]; exact hea), if_neg (show ¬ nI e = nI (a + 3) by rw [nI_eq (by omega) (by omega)]; exact hea3)]
      by_cases hlo : x < lo
      · rw [if_pos ((nI_ltI (by omega) (by omega)).mpr hlo)]
        exact hfail 2 (by omega) (hr2 h3 h15 hx (by omega))
      · rw [if_neg (fun q => hlo ((nI_ltI (by omega) (by omega)).mp q))]
        by_cases hhi : x ≤ hi
        · rw [if_pos ((nI_leI (by omega) (by omega)).mpr hhi), if_pos g1, hr3 h3 h15 hx ⟨by omega, hhi⟩]
          have kc : kC Mc (wq_st Mc 18 4 (nI e)) := kC.rf.at _
          obtain ⟨N, n1, n2, n3⟩ := next_both (L := L) (h1.k kc) h2 het st_eq (by rw [st_ne2 (by omega), g1]) g2 (by rw [st_ne2 (by omega), g3]) h12
          rw [n1]
          exact ⟨_, _, _, N, rfl, rfl, n2, kc, n3, fun _ => ⟨x, by omega, hhi, rfl, rfl⟩⟩
        · rw [if_neg (fun q => hhi ((nI_leI (by omega) (by omega)).mp q))]
          exact hfail 2 (by omega) (hr2 h3 h15 hx (by omega))
    obtain ⟨h13, tk⟩ := g4
    rcases hcase with ⟨rfl, hd⟩ | ⟨rfl, d0, d1, hx⟩ | ⟨rfl, d0, d1, d2, hx⟩ | ⟨rfl, d0, d1, d2⟩
    · rw [if_pos rfl]
      refine hfail 1 (by omega) (hr1 ?_)
      rcases tk with h | h | h | h | h | h | h
      · rw [h.2]; decide
      · rw [h.2.2.1]; decide
      · rw [h.2.2.1]; decide
      · exact absurd h.1 hd
      · exact absurd h.1 hd
      · exact absurd h.1 hd
      · rw [h.2.2.2.2]; decide
    · have hd0 := d0.1
      have hd1 := d0.2
      have hb := (h2.2.2 a hd0).1
      rcases tk with h | h | h | h | h | h | h
      · omega
      · omega
      · omega
      · exact hgood (a + 1) h.2.2.1 (by rw [h.2.2.2.1, hx]) (by omega) (by omega) (by omega) (by omega) h.2.2.2.2
      · exact absurd h.2.1 d1
      · exact absurd h.2.1 d1
      · exact absurd d0 h.2.2.2.1
    · have hd0 := d0.1
      have hd1 := d0.2
      have hd2 := d1.1
      have hd3 := d1.2
      rcases tk with h | h | h | h | h | h | h
      · omega
      · omega
      · omega
      · exact absurd d1 h.2.1
      · exact hgood (a + 2) h.2.2.2.1 (by rw [h.2.2.2.2.1, hx]) (by omega) (by omega) (by omega) (by omega) h.2.2.2.2.2
      · exact absurd h.2.2.1 d2
      · exact absurd d0 h.2.2.2.1
    · have hd0 := d0.1
      have hd1 := d0.2
      rw [if_neg (show ¬ nI (a + 3) = nI a by rw [nI_eq (by omega) (by omega)]; omega), if_pos rfl]
      refine hfail 1 (by omega) (hr1 ?_)
      rcases tk with h | h | h | h | h | h | h
      · omega
      · omega
      · omega
      · exact absurd d1 h.2.1
      · exact absurd d2 h.2.2.1
      · rw [h.2.2.2]; decide
      · exact absurd d0 h.2.2.2.1
  · have n16 : ¬ Mr.1 0 16 = 0 := by rw [e1]; exact nI_f0 hf
    have n5 : ¬ Mc.1 18 5 = 0 := by rw [g1]; decide
    have hr : fX7_number (nI lo) (nI hi) Mr = some (nI lo, Mr) := by
      unfold fX7_number fX7_number_J20 fX7_number_J47 fX7_number_J62
      rw [if_neg n16, if_neg n16, if_neg n16, R_must1, R_must9 n16]
      rfl
    have hcf : ∀ f : Int32, fX2_fail f Mc = some Mc := by
      intro f
      unfold fX2_fail
      rw [if_neg n5]
    rw [hr, hcf, hcf, if_neg n5]
    simp only [Option.bind_some, ite_self]
    exact ⟨_, _, _, _, rfl, rfl, h, kC.rf, kR.rf, fun q => absurd q n5⟩
end EF
