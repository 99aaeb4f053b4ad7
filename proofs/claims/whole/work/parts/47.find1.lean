section EN
variable {v : Nat → Nat} {ok : Nat → Bool} {M : wq_M} {p : Nat}
theorem bDent_mono {g a c : Nat} (h : a ≤ c) : bDent v g a ≤ bDent v g c := by
  unfold bDent
  have : 10 * a / bPull v g ≤ 10 * c / bPull v g := Nat.div_le_div_right (by omega)
  split <;> split <;> omega
theorem bCrush_anti {g a c : Nat} (h : a ≤ c) : bCrush v g c ≤ bCrush v g a := by
  have hd := bDent_mono (v := v) (g := g) h
  unfold bCrush
  split
  · omega
  · refine Nat.div_le_div_right (Nat.mul_le_mul_left _ ?_)
    split <;> omega
theorem aWould_anti {s g a c : Nat} (h : a ≤ c) (hw : aWould v s g c = true) : aWould v s g a = true := by
  have hc := bCrush_anti (v := v) (g := g) h
  unfold aWould at hw ⊢
  simp only [Bool.and_eq_true, decide_eq_true_eq] at hw ⊢
  omega
def ix (P g n : Nat) : Nat := (P * 5 + g) * 3 + n - 1
theorem ix_lt {P g n : Nat} (h1 : P ≤ 72) (h2 : g < 5) (h3 : n ≤ 3) : ix P g n < 1095 := by
  unfold ix
  omega
theorem ix_inj {P g n P' g' n' : Nat} (h2 : g < 5) (h3 : 1 ≤ n ∧ n ≤ 3) (h2' : g' < 5) (h3' : 1 ≤ n' ∧ n' ≤ 3) (h : ix P g n = ix P' g' n') : P = P' ∧ g = g' ∧ n = n' := by
  unfold ix at h
  omega
def Cv (v : Nat → Nat) (N : Nat) (T : Nat → Int32) (S : Nat → List Nat → Prop) : Prop := ∀ i, i < N → (T i = -1 ∧ ∀ l, ¬ S i l) ∨ ∃ l, S i l ∧ T i = nI (val v l) ∧ ∀ l', S i l' → val v l ≤ val v l'
theorem Cv_c {N : Nat} {T : Nat → Int32} {S S' : Nat → List Nat → Prop} (h : Cv v N T S) (he : ∀ i, i < N → ∀ l, S i l ↔ S' i l) : Cv v N T S' := by
  intro i hi
  rcases h i hi with ⟨h1, h2⟩ | ⟨l, h1, h2, h3⟩
  · exact Or.inl ⟨h1, fun l hl => h2 l ((he i hi l).mpr hl)⟩
  · exact Or.inr ⟨l, (he i hi l).mp h1, h2, fun l' hl' => h3 l' ((he i hi l').mpr hl')⟩
theorem Cv_ins {N i0 : Nat} {T : Nat → Int32} {S : Nat → List Nat → Prop} {A : List Nat → Prop} {l0 : List Nat} (h : Cv v N T S) (hS : ∀ i l, S i l → val v l < 2 ^ 30) (hA : A l0) (hm : ∀ l, A l → val v l0 ≤ val v l) (hb : val v l0 < 2 ^ 30) : Cv v N (if T i0 = -1 then upd T i0 (nI (val v l0)) else if T i0 ≤ nI (val v l0) then T else upd T i0 (nI (val v l0))) (fun i l => S i l ∨ (i = i0 ∧ A l)) := by
  intro i hi
  by_cases e : i = i0
  · subst e
    rcases h i hi with ⟨h1, h2⟩ | ⟨l, h1, h2, h3⟩
    · right
      refine ⟨l0, Or.inr ⟨rfl, hA⟩, by rw [if_pos h1, pk_us], fun l' hl' => ?_⟩
      rcases hl' with hl' | hl'
      · exact absurd hl' (h2 l')
      · exact hm l' hl'.2
    · right
      have hvl := hS i l h1
      have hne : ¬ T i = -1 := by
        rw [h2]
        intro q
        rw [← Int32.toInt_inj, nI_toInt (by omega), show (-1 : Int32).toInt = -1 by decide] at q
        omega
      by_cases hle : val v l ≤ val v l0
      · refine ⟨l, Or.inl h1, ?_, fun l' hl' => ?_⟩
        · rw [if_neg hne, if_pos (by rw [h2, nI_leI (by omega) (by omega)]; exact hle), h2]
        · rcases hl' with hl' | hl'
          · exact h3 l' hl'
          · have := hm l' hl'.2
            omega
      · refine ⟨l0, Or.inr ⟨rfl, hA⟩, ?_, fun l' hl' => ?_⟩
        · rw [if_neg hne, if_neg (by rw [h2, nI_leI (by omega) (by omega)]; exact hle), pk_us]
        · rcases hl' with hl' | hl'
          · have := h3 l' hl'
            omega
          · exact hm l' hl'.2
  · have hT : (if T i0 = -1 then upd T i0 (nI (val v l0)) else if T i0 ≤ nI (val v l0) then T else upd T i0 (nI (val v l0))) i = T i := by
      split
      · rw [pk_un e]
      · split
        · rfl
        · rw [pk_un e]
    rw [hT]
    rcases h i hi with ⟨h1, h2⟩ | ⟨l, h1, h2, h3⟩
    · left
      refine ⟨h1, fun l hl => ?_⟩
      rcases hl with hl | hl
      · exact h2 l hl
      · exact e hl.1
    · right
      refine ⟨l, Or.inl h1, h2, fun l' hl' => ?_⟩
      rcases hl' with hl' | hl'
      · exact h3 l' hl'
      · exact absurd hl'.1 e
/-- how the search stands -/
def SM (v : Nat → Nat) (M : wq_M) (p be ab wb wa : Nat) : Prop := M.2 41 3 = some be ∧ M.2 41 4 = some ab ∧ M.2 41 5 = some wb ∧ M.2 41 6 = some wa ∧ M.2 41 7 = some p ∧ M.1 41 8 = nI (v 1) ∧ RepC M p v
def pls (p be ab wb wa : Nat) : Prop := (p = 20 ∨ p = 25) ∧ ((be = 43 ∧ ab = 44) ∨ (be = 44 ∧ ab = 43)) ∧ ((wb = 45 ∧ wa = 46) ∨ (wb = 46 ∧ wa = 45))
variable {be ab wb wa : Nat}
theorem pls_ok (h : pls p be ab wb wa) : wq_okA be = true ∧ wq_okA ab = true ∧ wq_okA wb = true ∧ wq_okA wa = true ∧ wq_okW p = true ∧ wq_yC.2.2 be = 1095 ∧ wq_yC.2.2 ab = 1095 ∧ wq_yC.2.2 wb = 73 ∧ wq_yC.2.2 wa = 73 := by
  obtain ⟨hp, h1, h2⟩ := h
  rcases hp with rfl | rfl <;> rcases h1 with ⟨rfl, rfl⟩ | ⟨rfl, rfl⟩ <;> rcases h2 with ⟨rfl, rfl⟩ | ⟨rfl, rfl⟩ <;> decide +kernel
theorem SM_w {M' : wq_M} (h : SM v M p be ab wb wa) (hp : pls p be ab wb wa) (h2 : M'.2 = M.2) (h1 : ∀ q, q ≠ ab → q ≠ wa → M'.1 q = M.1 q) : SM v M' p be ab wb wa := by
  obtain ⟨a1, a2, a3, a4, a5, a6, a7⟩ := h
  obtain ⟨hp, hq1, hq2⟩ := hp
  refine ⟨by rw [h2]; exact a1, by rw [h2]; exact a2, by rw [h2]; exact a3, by rw [h2]; exact a4, by rw [h2]; exact a5, by rw [h1 41 (by omega) (by omega)]; exact a6, RepC_c a7 (fun q x y => h1 q (by omega) (by omega))⟩
def insF (T : Nat → Int32) (i : Nat) (x : Int32) : Nat → Int32 := if T i = -1 then upd T i x else if T i ≤ x then T else upd T i x
theorem C_J85 {u n : Nat} {nx : Int32} (h : SM v M p be ab wb wa) (hp : pls p be ab wb wa) (hL : 1 ≤ v 1 ∧ v 1 ≤ 3) (hu : u ≤ 72) (hn : n ≤ 3) : ∃ M', fX4_layOn_J85 (nI n) (nI u) nx M = some M' ∧ M'.2 = M.2 ∧ (∀ q, q ≠ wa → M'.1 q = M.1 q) ∧ M'.1 wa = if n = v 1 then insF (M.1 wa) u nx else M.1 wa := by
  obtain ⟨a1, a2, a3, a4, a5, a6, a7⟩ := h
  obtain ⟨o1, o2, o3, o4, o5, l1, l2, l3, l4⟩ := pls_ok hp
  unfold fX4_layOn_J85 fX4_isAhead
  rw [a6, a4]
  by_cases hnl : n = v 1
  · rw [if_pos (show nI n = nI (v 1) by rw [hnl]), if_pos hnl]
    simp only [Option.bind_some, o4, l4, if_true]
    rw [in_nI (show u < 73 by omega) (by omega), cl_nI (by omega)]
    simp only [if_true]
    unfold insF
    by_cases h1 : M.1 wa u = -1
    · rw [if_pos h1, if_pos h1]
      exact ⟨_, rfl, rfl, fun q hq => wq_st_ne hq, wq_st_self⟩
    · rw [if_neg h1, if_neg h1]
      by_cases h2 : M.1 wa u ≤ nx
      · rw [if_pos h2, if_pos h2]
        exact ⟨_, rfl, rfl, fun q hq => rfl, rfl⟩
      · rw [if_neg h2, if_neg h2]
        exact ⟨_, rfl, rfl, fun q hq => wq_st_ne hq, wq_st_self⟩
  · rw [if_neg (show ¬ nI n = nI (v 1) by rw [nI_eq (by omega) (by omega)]; exact hnl), if_neg hnl]
    exact ⟨_, rfl, rfl, fun q hq => rfl, rfl⟩
theorem C_layOn {u g n V : Nat} (h : SM v M p be ab wb wa) (hp : pls p be ab wb wa) (wf : WF v) (hV : V < 310000000) (hu : u ≤ 63) (hgv : g < v 5) (hn : 1 ≤ n ∧ n ≤ 3) : ∃ M', fX4_layOn (nI V) (nI u) (nI g) (nI n) M = some M' ∧ M'.2 = M.2 ∧ (∀ q, q ≠ ab → q ≠ wa → M'.1 q = M.1 q) ∧ M'.1 ab = insF (M.1 ab) (ix (u + hg v g) g n) (nI (V - V % 390625 + pg v g * 390625 + V % 390625 * 5 + g)) ∧ M'.1 wa = if n = v 1 then insF (M.1 wa) (u + hg v g) (nI (V - V % 390625 + pg v g * 390625 + V % 390625 * 5 + g)) else M.1 wa := by
  have hm := wf.m5
  have hhg : 1 ≤ hg v g ∧ hg v g ≤ 9 := (wf.gr hgv).2.2.2.2.1
  obtain ⟨a1, a2, a3, a4, a5, a6, a7⟩ := id h
  obtain ⟨o1, o2, o3, o4, o5, l1, l2, l3, l4⟩ := pls_ok hp
  have hne : ab ≠ wa := by
    obtain ⟨-, h1, h2⟩ := hp
    omega
  have hix := ix_lt (P := u + hg v g) (g := g) (n := n) (by omega) (by omega) hn.2
  unfold fX4_layOn fX4_isAhead fX4_state
  rw [if_neg (show ¬ nI V = -1 by
    intro q
    rw [← Int32.toInt_inj, nI_toInt (by omega), show (-1 : Int32).toInt = -1 by decide] at q
    omega), a5]
  simp only [Option.bind_some, o5, if_true]
  rw [lit_nI 3, C_figure a7 hm hgv (by omega), lit_nI 4, C_figure a7 hm hgv (by omega)]
  simp only [Option.bind_some]
  rw [show v (6 + 6 * g + (1 + 3)) = hg v g from rfl, show v (6 + 6 * g + (1 + 4)) = pg v g from rfl, nI_add, lit_nI 5, pk_mul, nI_add, pk_mul, nI_add, show nI (((u + hg v g) * 5 + g) * 3 + n) - 1 = nI (ix (u + hg v g) g n) by rw [lit_nI 1, pk_sub (by omega)]; rfl, a2]
  simp only [Option.bind_some, o2, l2, if_true]
  rw [in_nI hix (by omega), cl_nI (by omega), lit_nI 390625, pk_rem (by omega) (by omega) (by omega), pk_sub (Nat.mod_le _ _), pk_mul, nI_add, pk_mul, nI_add, nI_add]
  simp only [if_true]
  generalize nI (V - V % 390625 + pg v g * 390625 + V % 390625 * 5 + g) = nx
  have hgo : ∀ (M1 : wq_M), M1.2 = M.2 → (∀ q, q ≠ ab → M1.1 q = M.1 q) → M1.1 ab = insF (M.1 ab) (ix (u + hg v g) g n) nx → ∃ M', fX4_layOn_J85 (nI n) (nI (u + hg v g)) nx M1 = some M' ∧ M'.2 = M.2 ∧ (∀ q, q ≠ ab → q ≠ wa → M'.1 q = M.1 q) ∧ M'.1 ab = insF (M.1 ab) (ix (u + hg v g) g n) nx ∧ M'.1 wa = if n = v 1 then insF (M.1 wa) (u + hg v g) nx else M.1 wa := by
    intro M1 e1 e2 e3
    obtain ⟨M', q1, q2, q3, q4⟩ := C_J85 (nx := nx) (SM_w h hp e1 (fun q x _ => e2 q x)) hp wf.2.1 (show u + hg v g ≤ 72 by omega) hn.2
    refine ⟨M', q1, by rw [q2, e1], fun q x y => by rw [q3 q y, e2 q x], by rw [q3 ab hne, e3], ?_⟩
    rw [q4, e2 wa (Ne.symm hne)]
  by_cases h1 : M.1 ab (ix (u + hg v g) g n) = -1
  · rw [if_pos h1]
    simp only [Option.bind_some, if_true]
    exact hgo _ rfl (fun q hq => wq_st_ne hq) (by rw [wq_st_self]; unfold insF; rw [if_pos h1])
  · rw [if_neg h1]
    by_cases h2 : M.1 ab (ix (u + hg v g) g n) ≤ nx
    · rw [if_pos h2]
      simp only [Option.bind_some, Bool.false_eq_true, if_false]
      exact hgo _ rfl (fun q hq => rfl) (by unfold insF; rw [if_neg h1, if_pos h2])
    · rw [if_neg h2]
      simp only [Option.bind_some, if_true]
      exact hgo _ rfl (fun q hq => wq_st_ne hq) (by rw [wq_st_self]; unfold insF; rw [if_neg h1, if_neg h2])
/-- a value that stands for the first of a set is laid on -/
theorem lay_step {u g n j : Nat} {x : Int32} {B : List Nat → Prop} {S W : Nat → List Nat → Prop} (h : SM v M p be ab wb wa) (hp : pls p be ab wb wa) (wf : WF v) (hj : j ≤ 7) (hu : u ≤ 9 * j) (hgv : g < v 5) (hn : 1 ≤ n ∧ n ≤ 3) (hB : ∀ l, B l → l.length = j ∧ ∀ e ∈ l, e < v 5) (hxB : (x = -1 ∧ ∀ l, ¬ B l) ∨ ∃ l, B l ∧ x = nI (val v l) ∧ ∀ l', B l' → val v l ≤ val v l') (hS : Cv v 1095 (M.1 ab) S) (hW : Cv v 73 (M.1 wa) W) (hSb : ∀ i l, S i l → val v l < 2 ^ 30) (hWb : ∀ i l, W i l → val v l < 2 ^ 30) : ∃ M', fX4_layOn x (nI u) (nI g) (nI n) M = some M' ∧ SM v M' p be ab wb wa ∧ M'.2 = M.2 ∧ (∀ q, q ≠ ab → q ≠ wa → M'.1 q = M.1 q) ∧ Cv v 1095 (M'.1 ab) (fun i l => S i l ∨ (i = ix (u + hg v g) g n ∧ ∃ l', B l' ∧ l = g :: l')) ∧ Cv v 73 (M'.1 wa) (fun i l => W i l ∨ (i = u + hg v g ∧ n = v 1 ∧ ∃ l', B l' ∧ l = g :: l')) := by
  have hm := wf.m5
  rcases hxB with ⟨rfl, hB0⟩ | ⟨l, b1, rfl, b3⟩
  · refine ⟨M, ?_, h, rfl, fun _ _ _ => rfl, Cv_c hS (fun i _ l => ?_), Cv_c hW (fun i _ l => ?_)⟩
    · unfold fX4_layOn
      rw [if_pos rfl]
    · constructor
      · exact Or.inl
      · rintro (q | ⟨-, l', q, -⟩)
        · exact q
        · exact absurd q (hB0 l')
    · constructor
      · exact Or.inl
      · rintro (q | ⟨-, -, l', q, -⟩)
        · exact q
        · exact absurd q (hB0 l')
  · obtain ⟨hl1, hl2⟩ := hB l b1
    have hV := val_b wf hl2 (by omega)
    obtain ⟨M', e1, e2, e3, e4, e5⟩ := C_layOn (V := val v l) (u := u) h hp wf hV (by omega) hgv hn
    have hD := (sD_lt8 wf hl2 (by omega)).2 (by omega)
    rw [← val_up hD] at e4 e5
    have hA : (fun l'' => ∃ l', B l' ∧ l'' = g :: l') (g :: l) := ⟨l, b1, rfl⟩
    have hmin : ∀ l'', (∃ l', B l' ∧ l'' = g :: l') → val v (g :: l) ≤ val v l'' := by
      rintro l'' ⟨l', q1, rfl⟩
      obtain ⟨z1, z2⟩ := hB l' q1
      exact val_mono hD ((sD_lt8 wf z2 (by omega)).2 (by omega)) (by omega) (b3 l' q1)
    have hvb : val v (g :: l) < 2 ^ 30 := by
      have := val_b wf (l := g :: l) (fun e he => by
        rcases List.mem_cons.mp he with rfl | he
        · exact hgv
        · exact hl2 e he) (by simp; omega)
      omega
    refine ⟨M', e1, SM_w h hp e2 e3, e2, e3, ?_, ?_⟩
    · rw [e4]
      exact Cv_ins hS hSb hA hmin hvb
    · rw [e5]
      by_cases hnl : n = v 1
      · rw [if_pos hnl]
        refine Cv_c (Cv_ins (i0 := u + hg v g) hW hWb hA hmin hvb) (fun i _ l'' => ?_)
        constructor
        · rintro (q | ⟨q1, q2⟩)
          · exact Or.inl q
          · exact Or.inr ⟨q1, hnl, q2⟩
        · rintro (q | ⟨q1, -, q2⟩)
          · exact Or.inl q
          · exact Or.inr ⟨q1, q2⟩
      · rw [if_neg hnl]
        refine Cv_c hW (fun i _ l'' => ?_)
        constructor
        · exact Or.inl
        · rintro (q | ⟨-, q, -⟩)
          · exact q
          · exact absurd q hnl
end EN
