section E9
variable {Mc Mr : wq_M} {v : Nat → Nat}
def rlp (q r : Nat) : Prop := q = 0 ∧ r = 2 ∨ q = 1 ∧ r = 3 ∨ q = 2 ∧ r = 4 ∨ q = 3 ∧ r = 1
theorem RepC_rule {M : wq_M} {p q r x : Nat} (h : RepC M p v) (hq : rlp q r) : RepC (wq_st M (p + 1) q (nI x)) p (vup v r x) := by
  obtain ⟨a1, a2, a3, a4, a5, a6, a7, a8, a9⟩ := h
  have hr : r = 1 ∨ r = 2 ∨ r = 3 ∨ r = 4 := by rcases hq with h | h | h | h <;> omega
  refine ⟨?_, ?_, ?_, ?_, ?_, ?_, fun g hg => ?_, fun g hg k hk => ?_, fun t ht => ?_⟩
  · rw [wq_st_ne (by omega), vup_n (by omega)]; exact a1
  · rw [wq_st_ne (by omega), vup_n (by omega)]; exact a2
  · by_cases e : r = 2
    · have : q = 0 := by rcases hq with h | h | h | h <;> omega
      subst e; subst this
      rw [st_eq, vup_s]
    · rw [st_ne2 (by rcases hq with h | h | h | h <;> omega), vup_n (by omega)]; exact a3
  · by_cases e : r = 3
    · have : q = 1 := by rcases hq with h | h | h | h <;> omega
      subst e; subst this
      rw [st_eq, vup_s]
    · rw [st_ne2 (by rcases hq with h | h | h | h <;> omega), vup_n (by omega)]; exact a4
  · by_cases e : r = 4
    · have : q = 2 := by rcases hq with h | h | h | h <;> omega
      subst e; subst this
      rw [st_eq, vup_s]
    · rw [st_ne2 (by rcases hq with h | h | h | h <;> omega), vup_n (by omega)]; exact a5
  · by_cases e : r = 1
    · have : q = 3 := by rcases hq with h | h | h | h <;> omega
      subst e; subst this
      rw [st_eq, vup_s]
    · rw [st_ne2 (by rcases hq with h | h | h | h <;> omega), vup_n (by omega)]; exact a6
  · rw [vup_n (by omega)] at hg
    rw [wq_st_ne (by omega), vup_n (by omega), a7 g hg]
  · rw [vup_n (by omega)] at hg
    rw [wq_st_ne (by omega), vup_n (by omega), a8 g hg k hk]
  · rw [wq_st_ne (by omega), vup_n (by omega)]
    exact a9 t ht
theorem RepA_up {f : Nat → Int32} {r x : Nat} (h : RepA f v) (hr : r < 36) : RepA (upd f r (nI x)) (vup v r x) := by
  refine ⟨fun k hk => ?_, fun t ht => ?_⟩
  · by_cases e : k = r
    · subst e
      rw [pk_us, vup_s]
    · rw [pk_un e, vup_n e]
      exact h.1 k hk
  · rw [pk_un (by omega), vup_n (by omega)]
    exact h.2 t ht
theorem C_rl {M : wq_M} {p q r : Nat} (h : RepC M p v) (hq : rlp q r) : M.1 (p + 1) q = nI (v r) := by
  obtain ⟨a1, a2, a3, a4, a5, a6, a7, a8, a9⟩ := h
  rcases hq with ⟨rfl, rfl⟩ | ⟨rfl, rfl⟩ | ⟨rfl, rfl⟩ | ⟨rfl, rfl⟩
  · exact a3
  · exact a4
  · exact a5
  · exact a6
theorem WF_rule (h : WF v) {q r x : Nat} (hq : rlp q r) (hx : (r = 1 → 1 ≤ x ∧ x ≤ 3) ∧ (r = 2 → x ≤ 40) ∧ (r = 3 → x ≤ 99) ∧ (r = 4 → x ≤ 20)) : WF (vup v r x) := by
  have hr : r = 1 ∨ r = 2 ∨ r = 3 ∨ r = 4 := by rcases hq with h | h | h | h <;> omega
  obtain ⟨w1, w2, w3, w4, w5, w6, w7, w8, w9⟩ := h
  refine ⟨?_, ?_, ?_, ?_, ?_, ?_, fun g hg => ?_, fun t ht => ?_, fun t h1 h2 => ?_⟩
  · rw [vup_n (by omega)]; exact w1
  · by_cases e : r = 1
    · rw [e, vup_s]; exact hx.1 e
    · rw [vup_n (by omega)]; exact w2
  · by_cases e : r = 2
    · rw [e, vup_s]; exact hx.2.1 e
    · rw [vup_n (by omega)]; exact w3
  · by_cases e : r = 3
    · rw [e, vup_s]; exact hx.2.2.1 e
    · rw [vup_n (by omega)]; exact w4
  · by_cases e : r = 4
    · rw [e, vup_s]; exact hx.2.2.2 e
    · rw [vup_n (by omega)]; exact w5
  · rw [vup_n (by omega)]; exact w6
  · rw [vup_n (by omega)] at hg
    rw [vup_n (by omega), vup_n (by omega), vup_n (by omega), vup_n (by omega), vup_n (by omega), vup_n (by omega)]
    exact w7 g hg
  · rw [vup_n (by omega), vup_n (by omega)]
    exact w8 t ht
  · rw [vup_n (by omega)] at h1
    rw [vup_n (by omega)]
    exact w9 t h1 h2
theorem E_ruleG (hI : Inv Mc Mr) (hW : iWe Mc Mr v) (hA : iAc Mc Mr v) (wf : WF v) {q r x : Nat} (hq : rlp q r) (wf' : WF (vup v r x)) : ∃ C N, fX0_keep (nI q) (nI (v r)) Mc = some C ∧ fX7_rule_J107 (nI x) (nI r) Mr = some (nI (v r), N) ∧ Inv (wq_st C 21 q (nI x)) N := by
  have hr : r = 1 ∨ r = 2 ∨ r = 3 ∨ r = 4 := by rcases hq with h | h | h | h <;> omega
  obtain ⟨C, N, f1, f2, f3, f4, f5⟩ := keep_both hA hW.2.2 wf (nI q) (nI (v r))
  unfold fX7_rule_J107
  simp only [f1, f2, Option.bind_some]
  rw [in_nI (show r < 44 by omega) (by omega), cl_nI (by omega), f4.1 4 (by omega) (by omega), hW.2.2.1 r (by omega)]
  simp only [if_true]
  refine ⟨_, _, rfl, rfl, Inv_act hI (v' := vup v r x) ⟨Or.inr wf', ?_, ?_⟩ (f5 _ wf' (Or.inr (Or.inr ⟨q, r, hq, rfl, rfl, fun k h1 h2 => (vup_n h1).symm⟩)) _ _ (by rw [wq_st_ne (by omega)]) (wq_st_ne (by omega)) (wq_st_ne (by omega)) (by rw [wq_st_ne (by omega)]) (wq_st_ne (by omega))) (fun q hq => ?_) ?_ (fun q a b c => ?_) (fun j hj => ?_)⟩
  · exact RepC_rule (p := 20) (RepC_c hW.2.1 (fun q a b => f3.1 q (by omega) (by omega) (by omega))) hq
  · rw [wq_st_self]
    exact RepA_up (by rw [f4.1 4 (by omega) (by omega)]; exact hW.2.2) (by omega)
  · rw [wq_st_ne (by omega), f3.1 q (by omega) (by omega) (by omega)]
  · exact f3.2
  · rw [wq_st_ne b, f4.1 q a c]
  · rw [wq_st_ne (by omega), f4.2 j hj]
theorem R_ruleB (M : wq_M) (x1 x2 : Int32) : fX7_rule_J86 x1 x2 M = some (-1000001, M) := by
  unfold fX7_rule_J86 fX7_rule_J87
  rfl
theorem R_ruleG (M : wq_M) (x1 x2 : Int32) : fX7_rule_J82 x1 x2 M = if x1 = 3 then fX7_rule_J107 x2 1 M else fX7_rule_J107 x2 (2 + x1) M := by
  unfold fX7_rule_J82 fX7_rule_J87
  rw [if_neg (by decide)]
theorem E_ruleC (hI : Inv Mc Mr) (hW : iWe Mc Mr v) (hA : iAc Mc Mr v) (wf : WF v) {q r lo hi r_ : Nat} (hq : rlp q r) (hl : wq_sf 0 q = nI lo) (hh : wq_sf 1 q = nI hi) (hlh : lo ≤ hi) (hb : hi < 100) (hx : ∀ x, lo ≤ x → x ≤ hi → (r = 1 → 1 ≤ x ∧ x ≤ 3) ∧ (r = 2 → x ≤ 40) ∧ (r = 3 → x ≤ 99) ∧ (r = 4 → x ≤ 20)) (x2 : Int32) {F : Option (Int32 × wq_M)} (hF : F = (fX7_in x2.toInt64 (lN lo) (lN hi) Mr).bind fun r => if r = true then fX7_rule_J107 x2 (nI r_) Mr else some (-1000001, Mr)) (hr_ : r_ = r) : ∃ a C N, (if x2 < wq_sf 0 q then some (-1000001, Mc) else if wq_in (nI q) 4 then (if x2 ≤ wq_sf 1 q then if wq_in (nI q) 4 then (fX0_keep (nI q) (Mc.1 21 q) Mc).bind fun r11 => if wq_in (nI q) 4 then some (Mc.1 21 q, wq_st r11 21 q x2) else none else none else some (-1000001, Mc)) else none) = some (a, C) ∧ F = some (a, N) ∧ Inv C N := by
  subst hr_
  have hq4 : q < 4 := by rcases hq with h | h | h | h <;> omega
  rw [hF, hl, hh, in_nI hq4 (by omega), C_rl (p := 20) hW.2.1 hq]
  simp only [if_true]
  rcases R_inb x2 lo hi (by omega) hlh Mr with ⟨h, e⟩ | ⟨h, e⟩ | ⟨x, h1, h2, rfl, e⟩
  · rw [if_pos h, e]
    exact ⟨_, Mc, Mr, rfl, rfl, hI⟩
  · have h3 : ¬ x2 < nI lo := by
      rw [Int32.lt_iff_toInt_lt, nI_toInt (by omega)] at h ⊢
      omega
    rw [if_neg h3, if_neg (Int32.not_le.mpr h), e]
    exact ⟨_, Mc, Mr, rfl, rfl, hI⟩
  · rw [if_neg (show ¬ nI x < nI lo by rw [nI_ltI (by omega) (by omega)]; omega), if_pos (show nI x ≤ nI hi by rw [nI_leI (by omega) (by omega)]; omega), e]
    obtain ⟨C, N, f1, f2, f3⟩ := E_ruleG hI hW hA wf hq (WF_rule wf hq (hx x h1 h2))
    simp only [f1, f2, Option.bind_some, if_true]
    exact ⟨_, _, _, rfl, rfl, f3⟩
theorem E_rule (hI : Inv Mc Mr) (x1 x2 : Int32) : ∃ a C N, fX6_rule x1 x2 Mc = some (a, C) ∧ fX7_rule x1 x2 Mr = some (a, N) ∧ Inv C N := by
  unfold fX6_rule fX7_rule
  have hI := Inv_t0 hI
  generalize wq_st Mr 0 0 0 = N at hI ⊢
  obtain ⟨v, hW, hA, -⟩ := id hI
  rcases there_cases hW with ⟨e1, e2⟩ | ⟨wf, e1, e2⟩
  · rw [e1, e2]
    exact ⟨_, Mc, N, rfl, rfl, hI⟩
  rw [e1, e2]
  simp only [Option.bind_some, if_true, if_false, Bool.false_eq_true]
  by_cases h0 : x1 < 0
  · have hne : ∀ k : Nat, k < 4 → ¬ x1 = nI k := by
      rintro k hk rfl
      exact nI_pos (by omega) h0
    rw [if_pos h0]
    unfold fX7_rule_J31 fX7_rule_J48 fX7_rule_J65
    rw [if_neg (show ¬ x1 = 0 from hne 0 (by omega)), if_neg (show ¬ x1 = 1 from hne 1 (by omega)), if_neg (show ¬ x1 = 2 from hne 2 (by omega)), if_neg (show ¬ x1 = 3 from hne 3 (by omega)), R_ruleB]
    exact ⟨_, Mc, N, rfl, rfl, hI⟩
  rw [if_neg h0]
  obtain ⟨q, hq, rfl⟩ := nI_of h0
  by_cases h4 : 4 ≤ q
  · rw [if_pos (show 4 ≤ nI q by rw [lit_nI 4, nI_leI (by omega) (by omega)]; exact h4)]
    have hne : ∀ k : Nat, k < 4 → ¬ nI q = nI k := by
      intro k hk
      rw [nI_eq (by omega) (by omega)]
      omega
    unfold fX7_rule_J31 fX7_rule_J48 fX7_rule_J65
    rw [if_neg (show ¬ nI q = 0 from hne 0 (by omega)), if_neg (show ¬ nI q = 1 from hne 1 (by omega)), if_neg (show ¬ nI q = 2 from hne 2 (by omega)), if_neg (show ¬ nI q = 3 from hne 3 (by omega)), R_ruleB]
    exact ⟨_, Mc, N, rfl, rfl, hI⟩
  rw [if_neg (show ¬ 4 ≤ nI q by rw [lit_nI 4, nI_leI (by omega) (by omega)]; exact h4), in_nI (show q < 4 by omega) (by omega), cl_nI (by omega), if_pos rfl]
  have hq4 : q = 0 ∨ q = 1 ∨ q = 2 ∨ q = 3 := by omega
  unfold fX7_rule_J31 fX7_rule_J48 fX7_rule_J65
  rcases hq4 with rfl | rfl | rfl | rfl
  · refine E_ruleC (r := 2) (r_ := 2) (lo := 0) (hi := 20) hI hW hA wf (Or.inl ⟨rfl, rfl⟩) rfl rfl (by omega) (by omega) (fun x _ _ => by omega) x2 ?_ rfl
    rw [if_pos (show nI 0 = 0 by decide), if_neg (show ¬ nI 0 = 1 by decide), if_neg (show ¬ nI 0 = 2 by decide), if_neg (show ¬ nI 0 = 3 by decide), R_ruleB, R_ruleG, if_neg (show ¬ nI 0 = 3 by decide), show (2 : Int32) + nI 0 = nI 2 by decide]
    rfl
  · refine E_ruleC (r := 3) (r_ := 3) (lo := 0) (hi := 99) hI hW hA wf (Or.inr (Or.inl ⟨rfl, rfl⟩)) rfl rfl (by omega) (by omega) (fun x _ _ => by omega) x2 ?_ rfl
    rw [if_neg (show ¬ nI 1 = 0 by decide), if_pos (show nI 1 = 1 by decide), if_neg (show ¬ nI 1 = 2 by decide), if_neg (show ¬ nI 1 = 3 by decide), R_ruleB, R_ruleG, if_neg (show ¬ nI 1 = 3 by decide), show (2 : Int32) + nI 1 = nI 3 by decide]
    rfl
  · refine E_ruleC (r := 4) (r_ := 4) (lo := 0) (hi := 20) hI hW hA wf (Or.inr (Or.inr (Or.inl ⟨rfl, rfl⟩))) rfl rfl (by omega) (by omega) (fun x _ _ => by omega) x2 ?_ rfl
    rw [if_neg (show ¬ nI 2 = 0 by decide), if_neg (show ¬ nI 2 = 1 by decide), if_pos (show nI 2 = 2 by decide), if_neg (show ¬ nI 2 = 3 by decide), R_ruleB, R_ruleG, if_neg (show ¬ nI 2 = 3 by decide), show (2 : Int32) + nI 2 = nI 4 by decide]
    rfl
  · refine E_ruleC (r := 1) (r_ := 1) (lo := 1) (hi := 3) hI hW hA wf (Or.inr (Or.inr (Or.inr ⟨rfl, rfl⟩))) rfl rfl (by omega) (by omega) (fun x _ _ => by omega) x2 ?_ rfl
    rw [if_neg (show ¬ nI 3 = 0 by decide), if_neg (show ¬ nI 3 = 1 by decide), if_neg (show ¬ nI 3 = 2 by decide), if_pos (show nI 3 = 3 by decide), R_ruleB, R_ruleG, if_pos (show nI 3 = 3 by decide)]
    rfl
theorem RepC_price {M : wq_M} {p g x : Nat} (h : RepC M p v) (hg : g < v 5) (hm : v 5 ≤ 5) : RepC (wq_st M (p + 3) (5 * g + 4) (nI x)) p (vup v (6 + 6 * g + 5) x) := by
  obtain ⟨a1, a2, a3, a4, a5, a6, a7, a8, a9⟩ := h
  refine ⟨?_, ?_, ?_, ?_, ?_, ?_, fun i hi => ?_, fun i hi k hk => ?_, fun t ht => ?_⟩
  · rw [wq_st_ne (by omega), vup_n (by omega)]; exact a1
  · rw [wq_st_ne (by omega), vup_n (by omega)]; exact a2
  · rw [wq_st_ne (by omega), vup_n (by omega)]; exact a3
  · rw [wq_st_ne (by omega), vup_n (by omega)]; exact a4
  · rw [wq_st_ne (by omega), vup_n (by omega)]; exact a5
  · rw [wq_st_ne (by omega), vup_n (by omega)]; exact a6
  · rw [vup_n (by omega)] at hi
    rw [wq_st_ne (by omega), vup_n (by omega), a7 i hi]
  · rw [vup_n (by omega)] at hi
    by_cases e : i = g ∧ k = 4
    · obtain ⟨rfl, rfl⟩ := e
      rw [st_eq, show 6 + 6 * i + (1 + 4) = 6 + 6 * i + 5 by omega, vup_s]
    · rw [st_ne2 (by omega), vup_n (by omega), a8 i hi k hk]
  · rw [wq_st_ne (by omega), vup_n (by omega)]
    exact a9 t ht
theorem WF_price (h : WF v) {g x : Nat} (hg : g < v 5) (hx : 1 ≤ x ∧ x ≤ 99) : WF (vup v (6 + 6 * g + 5) x) := by
  have hm := h.m5
  obtain ⟨w1, w2, w3, w4, w5, w6, w7, w8, w9⟩ := h
  refine ⟨?_, ?_, ?_, ?_, ?_, ?_, fun i hi => ?_, fun t ht => ?_, fun t h1 h2 => ?_⟩
  · rw [vup_n (by omega)]; exact w1
  · rw [vup_n (by omega)]; exact w2
  · rw [vup_n (by omega)]; exact w3
  · rw [vup_n (by omega)]; exact w4
  · rw [vup_n (by omega)]; exact w5
  · rw [vup_n (by omega)]; exact w6
  · rw [vup_n (by omega)] at hi
    rw [vup_n (by omega), vup_n (by omega), vup_n (by omega), vup_n (by omega), vup_n (by omega)]
    obtain ⟨z1, z2, z3, z4, z5, z6⟩ := w7 i hi
    refine ⟨z1, z2, z3, z4, z5, ?_⟩
    by_cases e : i = g
    · rw [e, vup_s]; exact hx
    · rw [vup_n (by omega)]; exact z6
  · rw [vup_n (by omega), vup_n (by omega)]
    exact w8 t ht
  · rw [vup_n (by omega)] at h1
    rw [vup_n (by omega)]
    exact w9 t h1 h2
theorem C_put (M : wq_M) (p : Nat) {g k : Nat} (hg : g < 5) (hk : k < 5) (x : Int32) : fX5_putFigure p (nI g) (nI k) x M = some (wq_st M (p + 3) (5 * g + k) x) := by
  unfold fX5_putFigure
  rw [lit_nI 5, pk_mul, nI_add, in_nI (by omega) (by omega), cl_nI (by omega), Nat.mul_comm g 5]
  rfl
theorem E_price (hI : Inv Mc Mr) (x1 x2 : Int32) : ∃ a C N, fX6_price x1 x2 Mc = some (a, C) ∧ fX7_price x1 x2 Mr = some (a, N) ∧ Inv C N := by
  unfold fX6_price fX7_price
  have hI := Inv_t0 hI
  generalize wq_st Mr 0 0 0 = N at hI ⊢
  obtain ⟨v, hW, hA, -⟩ := id hI
  rcases grade_cases hW x1 with ⟨e1, e2⟩ | ⟨g, hg, rfl, wf, e1, e2⟩
  · rw [e1, e2]
    exact ⟨_, Mc, N, rfl, rfl, hI⟩
  have hm := wf.m5
  rw [e1, e2]
  simp only [Option.bind_some, if_true]
  rw [in_4_5, cl_4, show wq_sf 2 4 = nI 99 from rfl, lit_lN 1, lit_lN 99]
  simp only [if_true]
  rcases R_inb x2 1 99 (by omega) (by omega) N with ⟨h, e⟩ | ⟨h, e⟩ | ⟨x, h1, h2, rfl, e⟩
  · rw [if_pos (show x2 < 1 from h), e]
    exact ⟨_, Mc, N, rfl, rfl, hI⟩
  · have h3 : ¬ x2 < 1 := by
      rw [Int32.lt_iff_toInt_lt, nI_toInt (by omega)] at h
      rw [Int32.lt_iff_toInt_lt, show (1 : Int32).toInt = 1 by decide]
      omega
    rw [if_neg h3, if_neg (Int32.not_le.mpr h), e]
    exact ⟨_, Mc, N, rfl, rfl, hI⟩
  · rw [if_neg (show ¬ nI x < 1 by rw [lit_nI 1, nI_ltI (by omega) (by omega)]; omega), if_pos (show nI x ≤ nI 99 by rw [nI_leI (by omega) (by omega)]; omega), e, lit_nI 4, C_figure hW.2.1 hm hg (by omega), nI_add]
    obtain ⟨C, N1, f1, f2, f3, f4, f5⟩ := keep_both hA hW.2.2 wf (nI (4 + g)) (nI (v (6 + 6 * g + (1 + 4))))
    simp only [f1, f2, Option.bind_some, if_true]
    have hR : RepA (N1.1 4) v := by rw [f4.1 4 (by omega) (by omega)]; exact hW.2.2
    rw [C_put _ _ (by omega) (by omega), lit_nI 5, R_of hR (by omega) (by omega), lit_nI 6, pk_mul, nI_add, nI_add, in_nI (show 6 + 6 * g + 5 < 44 by omega) (by omega), cl_nI (by omega)]
    simp only [Option.bind_some, if_true]
    have wf' := WF_price wf hg ⟨h1, h2⟩
    refine ⟨_, _, _, rfl, rfl, Inv_act hI (v' := vup v (6 + 6 * g + 5) x) ⟨Or.inr wf', ?_, ?_⟩ (f5 _ wf' (Or.inr (Or.inl ⟨g, by rw [vup_n (by omega)]; exact hg, rfl, rfl, fun k h1 h2 => (vup_n h1).symm⟩)) _ _ (by rw [wq_st_ne (by omega)]) (wq_st_ne (by omega)) (wq_st_ne (by omega)) (by rw [wq_st_ne (by omega)]) (wq_st_ne (by omega))) (fun q hq => ?_) ?_ (fun q a b c => ?_) (fun j hj => ?_)⟩
    · exact RepC_price (p := 20) (RepC_c hW.2.1 (fun q a b => f3.1 q (by omega) (by omega) (by omega))) hg hm
    · rw [wq_st_self]
      exact RepA_up hR (by omega)
    · rw [wq_st_ne (by omega), f3.1 q (by omega) (by omega) (by omega)]
    · exact f3.2
    · rw [wq_st_ne b, f4.1 q a c]
    · rw [wq_st_ne (by omega), f4.2 j hj]
theorem R_undoL (M : wq_M) {k : Nat} (hk : k < 24) (ha : M.1 0 9 = nI k) : wq_lp (fX7_undo_L27) wq_FU (0, M) = some (blk M 4 0 7 (44 * k) 44) := by
  have key := lp_run (body := fX7_undo_L27) (fun i => (nI i, blk M 4 0 7 (44 * k) i)) 44 (y := blk M 4 0 7 (44 * k) 44) (n := wq_FU) (fun i hi => by
    unfold fX7_undo_L27
    simp only []
    rw [if_neg (show ¬ 44 ≤ nI i by rw [lit_nI 44, nI_leI (by omega) (by omega)]; omega), blk_ne (show 0 ≠ 4 by omega), ha, lit_nI 44, pk_mul, nI_add, in_nI hi (by omega), in_nI (by omega) (by omega), cl_nI (by omega), cl_nI (by omega), nI_1]
    have := blk_step (M := M) (q := 4) (D := 0) (p := 7) (S := 44 * k) (n := i) (by omega)
    rw [Nat.zero_add] at this
    rw [this]
    rfl) (by
    unfold fX7_undo_L27
    rfl) (FU_gt (by omega))
  rw [show ((0 : Int32), M) = (fun i => (nI i, blk M 4 0 7 (44 * k) i)) 0 by simp only [blk_0]; rfl, key]
theorem RepC_v {M : wq_M} {p : Nat} {u : Nat → Nat} (h : RepC M p v) (hm : v 5 ≤ 5) (e : ∀ k, k < 44 → u k = v k) : RepC M p u := by
  obtain ⟨a1, a2, a3, a4, a5, a6, a7, a8, a9⟩ := h
  refine ⟨?_, ?_, ?_, ?_, ?_, ?_, fun i hi => ?_, fun i hi k hk => ?_, fun t ht => ?_⟩
  · rw [e 0 (by omega)]; exact a1
  · rw [e 5 (by omega)]; exact a2
  · rw [e 2 (by omega)]; exact a3
  · rw [e 3 (by omega)]; exact a4
  · rw [e 4 (by omega)]; exact a5
  · rw [e 1 (by omega)]; exact a6
  · rw [e 5 (by omega)] at hi
    rw [e _ (by omega)]; exact a7 i hi
  · rw [e 5 (by omega)] at hi
    rw [e _ (by omega)]; exact a8 i hi k hk
  · rw [e _ (by omega)]; exact a9 t ht
theorem C_back {M : wq_M} {k : Nat} {u : Nat → Nat} (hk : k < 24) (ha : M.1 47 2 = nI (k + 1)) (hC : RepC M 20 v) (hm : v 5 ≤ 5) (hu : Und (M.1 48 k) (M.1 49 k) v u) : ∃ C, fX0_takeBack 20 M = some C ∧ RepC C 20 u ∧ C.1 47 2 = nI k ∧ (∀ q, (q < 20 ∨ 25 ≤ q) → q ≠ 47 → C.1 q = M.1 q) ∧ C.2 = M.2 := by
  unfold fX0_takeBack
  rw [ha, if_pos (show 1 ≤ nI (k + 1) by rw [lit_nI 1, nI_leI (by omega) (by omega)]; omega), nI_pred, st_eq, in_nI hk (by omega), cl_nI (by omega), wq_st_ne (show 48 ≠ 47 by omega), wq_st_ne (show 49 ≠ 47 by omega)]
  simp only [if_true]
  have hC2 : RepC (wq_st M 47 2 (nI k)) 20 v := RepC_c hC (fun q a b => wq_st_ne (by omega))
  have hz : (wq_st M 47 2 (nI k)).1 47 2 = nI k := st_eq
  have hz2 : ∀ q, q ≠ 47 → (wq_st M 47 2 (nI k)).1 q = M.1 q := fun q h => wq_st_ne h
  have hz3 : (wq_st M 47 2 (nI k)).2 = M.2 := rfl
  generalize wq_st M 47 2 (nI k) = K at hC2 hz hz2 hz3
  rcases hu with ⟨e1, ⟨c, e2, hc, e3⟩, e4⟩ | ⟨g, hg, e1, e2, e3⟩ | ⟨q, r, hq, e1, e2, e3⟩
  · rw [e1, e2, if_pos rfl, C_layString _ _ _ hc]
    refine ⟨_, rfl, ?_, ?_, fun q h1 h2 => ?_, hz3⟩
    · obtain ⟨a1, a2, a3, a4, a5, a6, a7, a8, a9⟩ := hC2
      have hn : ∀ q, q ≠ 24 → (lds K 20 c 8).1 q = K.1 q := fun q h => by
        funext t
        simp only [lds]
        rw [if_neg h]
      refine ⟨?_, ?_, ?_, ?_, ?_, ?_, fun i hi => ?_, fun i hi k hk => ?_, fun t ht => ?_⟩
      · rw [hn _ (by omega), e4 0 (by omega)]; exact a1
      · rw [hn _ (by omega), e4 5 (by omega)]; exact a2
      · rw [hn _ (by omega), e4 2 (by omega)]; exact a3
      · rw [hn _ (by omega), e4 3 (by omega)]; exact a4
      · rw [hn _ (by omega), e4 4 (by omega)]; exact a5
      · rw [hn _ (by omega), e4 1 (by omega)]; exact a6
      · rw [e4 5 (by omega)] at hi
        rw [hn _ (by omega), e4 _ (by omega)]; exact a7 i hi
      · rw [e4 5 (by omega)] at hi
        rw [hn _ (by omega), e4 _ (by omega)]; exact a8 i hi k hk
      · rw [e3 t ht]
        simp only [lds]
        rw [if_pos trivial, if_pos ht]
    · rw [← hz]
      simp only [lds]
      rw [if_neg (by omega)]
    · rw [← hz2 q h2]
      funext t
      simp only [lds]
      rw [if_neg (by omega)]
  · rw [e1, e2, if_neg (show ¬ nI (4 + g) = 9 by rw [lit_nI 9, nI_eq (by omega) (by omega)]; omega), if_neg (show ¬ nI (4 + g) < 4 by rw [lit_nI 4, nI_ltI (by omega) (by omega)]; omega), lit_nI 4, pk_sub (by omega), show 4 + g - 4 = g by omega, C_put _ _ (by omega) (by omega)]
    refine ⟨_, rfl, RepC_v (RepC_price (p := 20) (x := u (6 + 6 * g + 5)) hC2 hg hm) (by rw [vup_n (by omega)]; exact hm) (fun j hj => ?_), ?_, fun q h1 h2 => ?_, hz3⟩
    · by_cases ej : j = 6 + 6 * g + 5
      · rw [ej, vup_s]
      · rw [vup_n ej, e3 j ej hj]
    · rw [wq_st_ne (by omega), hz]
    · rw [wq_st_ne (by omega), hz2 q h2]
  · have hq4 : q < 4 := by rcases hq with h | h | h | h <;> omega
    have hr4 : r < 5 := by rcases hq with h | h | h | h <;> omega
    rw [e1, e2, if_neg (show ¬ nI q = 9 by rw [lit_nI 9, nI_eq (by omega) (by omega)]; omega), if_pos (show nI q < 4 by rw [lit_nI 4, nI_ltI (by omega) (by omega)]; omega), in_nI hq4 (by omega), cl_nI (by omega)]
    refine ⟨_, rfl, RepC_v (RepC_rule (p := 20) (x := u r) hC2 hq) (by rw [vup_n (by rcases hq with h | h | h | h <;> omega)]; exact hm) (fun j hj => ?_), ?_, fun q h1 h2 => ?_, hz3⟩
    · by_cases ej : j = r
      · rw [ej, vup_s]
      · rw [vup_n ej, e3 j ej hj]
    · rw [wq_st_ne (by omega), hz]
    · rw [wq_st_ne (by omega), hz2 q h2]
theorem E_undo (hI : Inv Mc Mr) : ∃ a C N, fX6_undo Mc = some (a, C) ∧ fX7_undo Mr = some (a, N) ∧ Inv C N := by
  unfold fX6_undo fX7_undo
  have hI := Inv_t0 hI
  generalize wq_st Mr 0 0 0 = N at hI ⊢
  obtain ⟨v, hW, ⟨k, V, hk, c1, c2, c3, c4⟩, -⟩ := id hI
  rw [c1, c2]
  by_cases hz : k = 0
  · subst hz
    exact ⟨_, Mc, N, rfl, rfl, hI⟩
  obtain ⟨k, rfl⟩ : ∃ j, k = j + 1 := ⟨k - 1, by omega⟩
  rw [if_neg (nI_ne0 (by omega) (by omega)), if_neg (nI_ne0 (by omega) (by omega)), nI_pred]
  obtain ⟨w1, w2, w3, w4⟩ := c4 k (by omega)
  rw [c3] at w2 w4
  obtain ⟨C, g1, g2, g3, g4, g5⟩ := C_back (by omega) c1 hW.2.1 w2.m5 w4
  rw [R_undoL _ (k := k) (by omega) st_eq, g1]
  simp only [Option.bind_some]
  rw [g3, blk_ne (show 0 ≠ 4 by omega), st_eq]
  refine ⟨_, _, _, rfl, rfl, Inv_act hI (v' := V k) ⟨Or.inr w1, g2, ?_⟩ ⟨k, V, by omega, g3, ?_, rfl, fun i hi => ?_⟩ (fun q hq => g4 q (by omega) (by omega)) g5 (fun q a b c => ?_) (fun j hj => ?_)⟩
  · have := RepA_blk (M := wq_st N 0 9 (nI k)) (q := 4) (D := 0) (p := 7) (S := 44 * k) (v := V k) (by rw [wq_st_ne (by omega)]; exact w3)
    exact RepA_0.mp this
  · rw [blk_ne (show 0 ≠ 4 by omega), st_eq]
  · rw [g4 48 (by omega) (by omega), g4 49 (by omega) (by omega), blk_ne (show 7 ≠ 4 by omega), wq_st_ne (by omega)]
    exact c4 i (by omega)
  · rw [blk_ne b, wq_st_ne a]
  · rw [blk_ne (by omega), st0_ne hj]
end E9
