theorem lp_inv {α β : Type} {body : α → Option (α ⊕ β)} (J : Nat → α → Prop) (Q : β → Prop) (h : ∀ k s, J k s → (∃ y, body s = some (.inr y) ∧ Q y) ∨ (∃ k' s', k = k' + 1 ∧ body s = some (.inl s') ∧ J k' s')) : ∀ k n s, J k s → k < n → ∃ y, wq_lp body n s = some y ∧ Q y := by
  intro k
  induction k with
  | zero =>
    intro n s hJ hn
    obtain ⟨n, rfl⟩ : ∃ m, n = m + 1 := ⟨n - 1, by omega⟩
    rcases h 0 s hJ with ⟨y, e1, hq⟩ | ⟨k', s', hk, -⟩
    · exact ⟨y, lp_exit e1, hq⟩
    · omega
  | succ k ih =>
    intro n s hJ hn
    obtain ⟨n, rfl⟩ : ∃ m, n = m + 1 := ⟨n - 1, by omega⟩
    rcases h (k + 1) s hJ with ⟨y, e1, hq⟩ | ⟨k', s', hk, e1, hJ'⟩
    · exact ⟨y, lp_exit e1, hq⟩
    · have : k = k' := by omega
      subst this
      rw [lp_step e1]
      exact ih n s' hJ' (by omega)
section EL
variable {v : Nat → Nat} {ok : Nat → Bool} {M : wq_M} {p : Nat} {x2 : Int32}
def oMin : Option Nat → Option Nat → Option Nat
  | none, b => b
  | some x, none => some x
  | some x, some y => some (if x ≤ y then x else y)
def rTh (v : Nat → Nat) (rec : Nat → Option Nat → Nat → Option Nat) (k P : Nat) (b : Option Nat) (r g : Nat) : Option Nat :=
  if b = some g ∨ b = none ∨ v 1 ≤ r then (if aWould v k g (P + hg v g) = true then (rec (P + hg v g) (some g) (if b = some g then min (r + 1) 3 else 1)).map (fun x => x + 100 * pg v g + hg v g) else none) else none
def rMin (ok : Nat → Bool) (T : Nat → Option Nat) : Nat → Option Nat
  | 0 => none
  | j + 1 => oMin (rMin ok T j) (if ok j = true then T j else none)
def rA (v : Nat → Nat) (ok : Nat → Bool) : Nat → Nat → Option Nat → Nat → Option Nat
  | 0, _, _, r => if v 1 ≤ r then some 0 else none
  | k + 1, P, b, r => rMin ok (rTh v (rA v ok k) k P b r) (v 5)
theorem oMin_some {a b : Option Nat} {x : Nat} (h : oMin a b = some x) : (a = some x ∨ b = some x) ∧ (∀ y, a = some y → x ≤ y) ∧ ∀ y, b = some y → x ≤ y := by
  cases a with
  | none =>
    cases b with
    | none => simp [oMin] at h
    | some y =>
      simp only [oMin, Option.some.injEq] at h
      subst h
      exact ⟨Or.inr rfl, fun z hz => by simp at hz, fun z hz => by simp at hz; omega⟩
  | some w =>
    cases b with
    | none =>
      simp only [oMin, Option.some.injEq] at h
      subst h
      exact ⟨Or.inl rfl, fun z hz => by simp at hz; omega, fun z hz => by simp at hz⟩
    | some y =>
      simp only [oMin, Option.some.injEq] at h
      by_cases q : w ≤ y
      · rw [if_pos q] at h
        subst h
        exact ⟨Or.inl rfl, fun z hz => by simp at hz; omega, fun z hz => by simp at hz; omega⟩
      · rw [if_neg q] at h
        subst h
        exact ⟨Or.inr rfl, fun z hz => by simp at hz; omega, fun z hz => by simp at hz; omega⟩
theorem oMin_none {a b : Option Nat} (h : oMin a b = none) : a = none ∧ b = none := by
  cases a <;> cases b <;> simp [oMin] at h ⊢
theorem rMin_some {T : Nat → Option Nat} : ∀ {j x : Nat}, rMin ok T j = some x → (∃ g, g < j ∧ ok g = true ∧ T g = some x) ∧ ∀ g y, g < j → ok g = true → T g = some y → x ≤ y
  | 0, x, h => by simp [rMin] at h
  | j + 1, x, h => by
    obtain ⟨h1, h2, h3⟩ := oMin_some (show oMin (rMin ok T j) (if ok j = true then T j else none) = some x from h)
    constructor
    · rcases h1 with h1 | h1
      · obtain ⟨g, q1, q2, q3⟩ := (rMin_some h1).1
        exact ⟨g, by omega, q2, q3⟩
      · by_cases ho : ok j = true
        · rw [if_pos ho] at h1
          exact ⟨j, by omega, ho, h1⟩
        · rw [if_neg ho] at h1
          simp at h1
    · intro g y hg ho hT
      by_cases e : g = j
      · subst e
        exact h3 y (by rw [if_pos ho]; exact hT)
      · cases hr : rMin ok T j with
        | none =>
          have : ∀ (j : Nat), rMin ok T j = none → ∀ g, g < j → ok g = true → T g = none := by
            intro j
            induction j with
            | zero => intro _ g hg; omega
            | succ j ih =>
              intro hj g hg ho
              obtain ⟨z1, z2⟩ := oMin_none (show oMin (rMin ok T j) (if ok j = true then T j else none) = none from hj)
              by_cases e : g = j
              · subst e
                rw [if_pos ho] at z2
                exact z2
              · exact ih z1 g (by omega) ho
          rw [this j hr g (by omega) ho] at hT
          simp at hT
        | some w =>
          have a1 := (rMin_some hr).2 g y (by omega) ho hT
          have a2 := h2 w hr
          omega
theorem rMin_ex {T : Nat → Option Nat} : ∀ {j g y : Nat}, g < j → ok g = true → T g = some y → ∃ x, rMin ok T j = some x
  | 0, g, y, h, _, _ => by omega
  | j + 1, g, y, hg, ho, hT => by
    cases hr : rMin ok T (j + 1) with
    | some x => exact ⟨x, rfl⟩
    | none =>
      obtain ⟨z1, z2⟩ := oMin_none (show oMin (rMin ok T j) (if ok j = true then T j else none) = none from hr)
      by_cases e : g = j
      · subst e
        rw [if_pos ho, hT] at z2
        simp at z2
      · obtain ⟨x, hx⟩ := rMin_ex (show g < j by omega) ho hT
        rw [hx] at z1
        simp at z1
theorem rA_sound : ∀ (k P : Nat) (b : Option Nat) (r x : Nat), rA v ok k P b r = some x → ∃ c, c.length = k ∧ Cmp v ok c P b r ∧ wt v c = x
  | 0, P, b, r, x, h => by
    simp only [rA] at h
    split at h
    · rename_i q
      simp only [Option.some.injEq] at h
      exact ⟨[], rfl, q, h⟩
    · simp at h
  | k + 1, P, b, r, x, h => by
    obtain ⟨⟨g, g1, g2, g3⟩, -⟩ := rMin_some (show rMin ok (rTh v (rA v ok k) k P b r) (v 5) = some x from h)
    unfold rTh at g3
    split at g3
    · rename_i q1
      split at g3
      · rename_i q2
        rw [Option.map_eq_some_iff] at g3
        obtain ⟨y, y1, y2⟩ := g3
        obtain ⟨c, c1, c2, c3⟩ := rA_sound k _ _ _ y y1
        refine ⟨g :: c, by simp [c1], ⟨⟨g1, g2⟩, q1, by rw [c1]; exact q2, c2⟩, ?_⟩
        simp only [wt]
        omega
      · simp at g3
    · simp at g3
theorem rTh_of {k P r g y : Nat} {b : Option Nat} {rec : Nat → Option Nat → Nat → Option Nat} (h1 : b = some g ∨ b = none ∨ v 1 ≤ r) (h2 : aWould v k g (P + hg v g) = true) (h3 : rec (P + hg v g) (some g) (if b = some g then min (r + 1) 3 else 1) = some y) : rTh v rec k P b r g = some (y + 100 * pg v g + hg v g) := by
  unfold rTh
  rw [if_pos h1, if_pos h2, h3]
  rfl
theorem rA_compl : ∀ (c : List Nat) (P : Nat) (b : Option Nat) (r : Nat), Cmp v ok c P b r → ∃ x, rA v ok c.length P b r = some x ∧ x ≤ wt v c
  | [], P, b, r, h => ⟨0, by simp only [List.length_nil, rA]; rw [if_pos (show v 1 ≤ r from h)], Nat.zero_le _⟩
  | g :: c, P, b, r, h => by
    obtain ⟨h1, h2, h3, h4⟩ := h
    obtain ⟨y, y1, y2⟩ := rA_compl c _ _ _ h4
    have ht := rTh_of (rec := rA v ok c.length) h2 h3 y1
    obtain ⟨x, hx⟩ := rMin_ex (T := rTh v (rA v ok c.length) c.length P b r) h1.1 h1.2 ht
    refine ⟨x, hx, ?_⟩
    have := (rMin_some hx).2 g _ h1.1 h1.2 ht
    simp only [wt]
    omega
theorem rA_le (wf : WF v) {k P : Nat} {b : Option Nat} {r x : Nat} (h : rA v ok k P b r = some x) : x ≤ 9909 * k := by
  obtain ⟨c, c1, c2, c3⟩ := rA_sound k P b r x h
  have hmem := Cmp_mem c P b r c2
  have hw : ∀ c : List Nat, (∀ g ∈ c, g < v 5) → wt v c ≤ 9909 * c.length := by
    intro c
    induction c with
    | nil => intro _; simp [wt]
    | cons g c ih =>
      intro h
      have h1 := ih (fun x hx => h x (List.mem_cons_of_mem _ hx))
      have h2 := wf.gr (h g (by simp))
      simp only [wt, List.length_cons, pg, hg]
      omega
  have := hw c hmem
  rw [c1] at this
  omega
def rO : Option Nat → Int32
  | none => 1000000000
  | some x => nI x
theorem rO_s (x : Nat) : rO (some x) = nI x := rfl
theorem rO_n : rO none = nI 1000000000 := rfl
def bO : Option Nat → Int32
  | none => -1
  | some g => nI g
theorem bO_s (x : Nat) : bO (some x) = nI x := rfl
theorem bO_eq {b : Option Nat} {g : Nat} (hb : ∀ y, b = some y → y < 5) (hg : g < 5) : nI g = bO b ↔ b = some g := by
  cases b with
  | none =>
    simp only [bO, reduceCtorEq, iff_false]
    intro q
    rw [← Int32.toInt_inj, nI_toInt (by omega), show (-1 : Int32).toInt = -1 by decide] at q
    omega
  | some y =>
    have := hb y rfl
    rw [bO_s, nI_eq (by omega) (by omega), Option.some.injEq]
    omega
theorem bO_lt {b : Option Nat} (hb : ∀ y, b = some y → y < 5) : bO b < 0 ↔ b = none := by
  cases b with
  | none =>
    simp only [bO, iff_true]
    decide
  | some y =>
    have := hb y rfl
    rw [bO_s]
    simp only [reduceCtorEq, iff_false]
    exact nI_pos (by omega)
def tIx (s P b r : Nat) : Nat := (((s * 73 + P) * 6 + b) + 1) * 4 + r
theorem R_at (M : wq_M) (s P b r : Nat) : fX7_at (nI s) (nI P) (nI b) (nI r) M = some (nI (tIx s P b r)) := by
  unfold fX7_at tIx
  rw [lit_nI 73, pk_mul, nI_add, lit_nI 6, pk_mul, nI_add, nI_1, lit_nI 4, pk_mul, nI_add]
theorem tIx_lt {s P b r : Nat} (h1 : s ≤ 7) (h2 : P ≤ 72) (h3 : b < 5) (h4 : r ≤ 3) : tIx s P b r < 14016 := by
  unfold tIx
  omega
theorem tIx_inj {s P b r s' P' b' r' : Nat} (h2 : P ≤ 72) (h3 : b < 5) (h4 : r ≤ 3) (h2' : P' ≤ 72) (h3' : b' < 5) (h4' : r' ≤ 3) (h : tIx s P b r = tIx s' P' b' r') : s = s' ∧ P = P' ∧ b = b' ∧ r = r' := by
  unfold tIx at h
  omega
/-- the table is right for a step -/
def TBl (v : Nat → Nat) (ok : Nat → Bool) (M : wq_M) (s : Nat) : Prop := ∀ P b r, P ≤ 9 * (v 0 - 1 - s) → b < v 5 → 1 ≤ r → r ≤ 3 → M.1 9 (tIx s P b r) = rO (rA v ok (s + 1) P (some b) r)
theorem R_through (hR : RepA (M.1 p) v) (wf : WF v) {k P r g : Nat} {b : Option Nat} (hk : k < v 0) (hP : P ≤ 9 * (v 0 - 1 - k)) (hb : ∀ y, b = some y → y < 5) (hr : r ≤ 3) (hgv : g < v 5) (hT : ∀ s, k = s + 1 → TBl v ok M s) : fX7_through p (nI k) (nI P) (bO b) (nI r) (nI g) M = some (rO (rTh v (rA v ok k) k P b r g)) := by
  have h8 := wf.n8
  have hm := wf.m5
  have hL := wf.2.1
  have hgr := wf.gr hgv
  unfold fX7_through
  rw [lit_nI 4, R_of hR (by omega) (by omega)]
  simp only [Option.bind_some]
  rw [nI_add, show v (6 + 6 * g + 4) = hg v g from rfl]
  have hhg : 1 ≤ hg v g ∧ hg v g ≤ 9 := hgr.2.2.2.2.1
  have hpg : 1 ≤ pg v g ∧ pg v g ≤ 99 := hgr.2.2.2.2.2
  have h121 : ∀ (o : Option Nat), (∀ x, o = some x → x < 100000) → fX7_through_J121 p (nI g) (rO o) M = some (rO (o.map (fun x => x + 100 * pg v g + hg v g))) := by
    intro o ho
    unfold fX7_through_J121
    cases o with
    | none =>
      rw [if_pos (show rO none = 1000000000 from rfl)]
      rfl
    | some x =>
      have hx := ho x rfl
      rw [rO_s, if_neg (show ¬ nI x = 1000000000 by rw [lit_nI 1000000000, nI_eq (by omega) (by omega)]; omega), lit_nI 5, R_of hR (by omega) (by omega), lit_nI 4, R_of hR (by omega) (by omega)]
      simp only [Option.bind_some]
      rw [show v (6 + 6 * g + 5) = pg v g from rfl, show v (6 + 6 * g + 4) = hg v g from rfl, lit_nI 100, pk_mul, nI_add, nI_add]
      rfl
  have h81 : ∀ r', 1 ≤ r' → r' ≤ 3 → fX7_through_J81 p (nI k) (nI g) (nI (P + hg v g)) (nI r') M = some (rO ((rA v ok k (P + hg v g) (some g) r').map (fun x => x + 100 * pg v g + hg v g))) := by
    intro r' h1 h3
    unfold fX7_through_J81
    by_cases hk0 : k = 0
    · subst hk0
      rw [if_pos (show nI 0 ≤ 0 by decide), in_1_44, cl_1, hR.1 1 (by omega), if_pos rfl]
      by_cases hl : v 1 ≤ r'
      · rw [if_pos (show nI (v 1) ≤ nI r' by rw [nI_leI (by omega) (by omega)]; exact hl), show rA v ok 0 (P + hg v g) (some g) r' = some 0 by simp only [rA]; rw [if_pos hl]]
        exact h121 (some 0) (fun x hx => by simp at hx; omega)
      · rw [if_neg (show ¬ nI (v 1) ≤ nI r' by rw [nI_leI (by omega) (by omega)]; exact hl), show rA v ok 0 (P + hg v g) (some g) r' = none by simp only [rA]; rw [if_neg hl]]
        exact h121 none (fun x hx => by simp at hx)
    · obtain ⟨s, rfl⟩ : ∃ s, k = s + 1 := ⟨k - 1, by omega⟩
      rw [if_neg (nI_nle (by omega) (by omega)), nI_pred, R_at]
      simp only [Option.bind_some]
      rw [in_nI (tIx_lt (by omega) (by omega) (by omega) (by omega)) (by omega), cl_nI (by have := tIx_lt (s := s) (P := P + hg v g) (b := g) (r := r') (by omega) (by omega) (by omega) (by omega); omega), if_pos rfl, hT s rfl _ g r' (by omega) hgv h1 h3]
      exact h121 _ (fun x hx => by have := rA_le wf hx; omega)
  have h43 : ∀ y0 : Int32, (y0 = 0 ↔ b = some g) → fX7_through_J43 p (nI k) (nI r) (nI g) (nI (P + hg v g)) y0 M = some (rO (if aWould v k g (P + hg v g) = true then (rA v ok k (P + hg v g) (some g) (if b = some g then min (r + 1) 3 else 1)).map (fun x => x + 100 * pg v g + hg v g) else none)) := by
    intro y0 hy
    unfold fX7_through_J43
    rw [R_wouldHold hR wf (by omega) hgv (by omega)]
    simp only [Option.bind_some]
    by_cases hw : aWould v k g (P + hg v g) = true
    · rw [if_pos hw, if_pos hw]
      by_cases hbg : b = some g
      · rw [if_pos (hy.mpr hbg), if_pos hbg]
        by_cases h3 : 3 ≤ r
        · rw [if_pos (show 3 ≤ nI r by rw [lit_nI 3, nI_leI (by omega) (by omega)]; exact h3), show min (r + 1) 3 = 3 by omega]
          exact h81 3 (by omega) (by omega)
        · rw [if_neg (show ¬ 3 ≤ nI r by rw [lit_nI 3, nI_leI (by omega) (by omega)]; exact h3), show min (r + 1) 3 = r + 1 by omega, nI_1]
          exact h81 (r + 1) (by omega) (by omega)
      · rw [if_neg (fun q => hbg (hy.mp q)), if_neg hbg]
        exact h81 1 (by omega) (by omega)
    · rw [if_neg hw, if_neg hw]
      rfl
  unfold rTh
  by_cases hbg : b = some g
  · rw [if_pos ((bO_eq hb (by omega)).mpr hbg)]
    unfold fX7_through_J23
    rw [if_pos rfl, if_pos (show b = some g ∨ b = none ∨ v 1 ≤ r from Or.inl hbg)]
    exact h43 0 (by simp [hbg])
  · rw [if_neg (fun q => hbg ((bO_eq hb (by omega)).mp q))]
    unfold fX7_through_J23
    rw [if_neg (show ¬ (1 : Int32) = 0 by decide)]
    by_cases hbn : b = none
    · rw [if_pos ((bO_lt hb).mpr hbn), if_pos (show b = some g ∨ b = none ∨ v 1 ≤ r from Or.inr (Or.inl hbn))]
      exact h43 1 (by simp [hbg])
    · rw [if_neg (fun q => hbn ((bO_lt hb).mp q)), in_1_44, cl_1, hR.1 1 (by omega), if_pos rfl]
      by_cases hl : v 1 ≤ r
      · rw [if_neg (show ¬ nI r < nI (v 1) by rw [nI_ltI (by omega) (by omega)]; omega), if_pos (show b = some g ∨ b = none ∨ v 1 ≤ r from Or.inr (Or.inr hl))]
        exact h43 1 (by simp [hbg])
      · rw [if_pos (show nI r < nI (v 1) by rw [nI_ltI (by omega) (by omega)]; omega), if_neg (show ¬ (b = some g ∨ b = none ∨ v 1 ≤ r) by simp [hbg, hbn, hl])]
        rfl
theorem rO_min {a c : Option Nat} (ha : ∀ x, a = some x → x < 100000) (hc : ∀ x, c = some x → x < 100000) (y : Int32) : (if rO a ≤ rO c then some (Sum.inl (β := Int32) (rO a, y)) else some (Sum.inl (rO c, y))) = some (.inl (rO (oMin a c), y)) := by
  cases a with
  | none =>
    cases c with
    | none => rfl
    | some x =>
      have := hc x rfl
      rw [rO_n, rO_s, if_neg (show ¬ nI 1000000000 ≤ nI x by rw [nI_leI (by omega) (by omega)]; omega)]
      rfl
  | some w =>
    have := ha w rfl
    cases c with
    | none =>
      rw [rO_n, rO_s, if_pos (show nI w ≤ nI 1000000000 by rw [nI_leI (by omega) (by omega)]; omega)]
      rfl
    | some x =>
      have := hc x rfl
      rw [rO_s, rO_s]
      simp only [oMin]
      by_cases q : w ≤ x
      · rw [if_pos (show nI w ≤ nI x by rw [nI_leI (by omega) (by omega)]; exact q), if_pos q]
        rfl
      · rw [if_neg (show ¬ nI w ≤ nI x by rw [nI_leI (by omega) (by omega)]; exact q), if_neg q]
        rfl
theorem rTh_le (wf : WF v) {k P r g x : Nat} {b : Option Nat} (hgv : g < v 5) (h : rTh v (rA v ok k) k P b r g = some x) : x ≤ 9909 * (k + 1) := by
  unfold rTh at h
  split at h
  · split at h
    · rw [Option.map_eq_some_iff] at h
      obtain ⟨y, y1, y2⟩ := h
      have := rA_le wf y1
      have h1 := (wf.gr hgv).2.2.2.2.1
      have h2 := (wf.gr hgv).2.2.2.2.2
      unfold pg hg at y2
      omega
    · simp at h
  · simp at h
theorem rMin_le {T : Nat → Option Nat} {B : Nat} : ∀ {j x : Nat}, (∀ g y, g < j → T g = some y → y ≤ B) → rMin ok T j = some x → x ≤ B := by
  intro j x hT h
  obtain ⟨g, g1, g2, g3⟩ := (rMin_some h).1
  exact hT g x g1 g3
theorem R_least (hR : RepA (M.1 p) v) (wf : WF v) {k P r : Nat} {b : Option Nat} (hk : k < v 0) (hP : P ≤ 9 * (v 0 - 1 - k)) (hb : ∀ y, b = some y → y < 5) (hr : r ≤ 3) (hx : ∀ g, g < 5 → (nI g = x2 ↔ ok g = false)) (hT : ∀ s, k = s + 1 → TBl v ok M s) : fX7_leastAt p (nI k) (nI P) (bO b) (nI r) x2 M = some (rO (rA v ok (k + 1) P b r)) := by
  have h8 := wf.n8
  have hm := wf.m5
  unfold fX7_leastAt
  have key := lp_run (body := fX7_leastAt_L7 p (nI k) (nI P) (bO b) (nI r) x2 M) (fun j => (rO (rMin ok (rTh v (rA v ok k) k P b r) j), nI j)) (v 5) (y := rO (rMin ok (rTh v (rA v ok k) k P b r) (v 5))) (n := wq_FU) (fun j hj => by
    unfold fX7_leastAt_L7 fX7_leastAt_L7_J40
    simp only []
    rw [in_5_44, cl_5, hR.1 5 (by omega), if_pos rfl, if_neg (show ¬ nI (v 5) ≤ nI j by rw [nI_leI (by omega) (by omega)]; omega), nI_1]
    have hb1 : ∀ x, rMin ok (rTh v (rA v ok k) k P b r) j = some x → x < 100000 := fun x hx => by
      have := rMin_le (B := 9909 * (k + 1)) (fun g y hg hy => rTh_le wf (show g < v 5 by omega) hy) hx
      omega
    by_cases ho : ok j = false
    · rw [if_pos ((hx j (by omega)).mpr ho)]
      show _ = some (Sum.inl (rO (oMin _ (if ok j = true then _ else none)), _))
      rw [if_neg (show ¬ ok j = true by rw [ho]; decide), show (1000000000 : Int32) = rO none from rfl, rO_min hb1 (fun x hx => by simp at hx)]
    · rw [if_neg (fun q => ho ((hx j (by omega)).mp q)), R_through hR wf hk hP hb hr hj hT]
      simp only [Option.bind_some]
      have hot : ok j = true := by simpa using ho
      show _ = some (Sum.inl (rO (oMin _ (if ok j = true then _ else none)), _))
      rw [if_pos hot, rO_min hb1 (fun x hx => by have := rTh_le wf hj hx; omega)]) (by
    unfold fX7_leastAt_L7
    simp only []
    rw [in_5_44, cl_5, hR.1 5 (by omega), if_pos rfl, if_pos (show nI (v 5) ≤ nI (v 5) by rw [nI_leI (by omega) (by omega)]; omega)]) (FU_gt (by omega))
  rw [show ((1000000000 : Int32), (0 : Int32)) = (fun j => (rO (rMin ok (rTh v (rA v ok k) k P b r) j), nI j)) 0 from rfl, key]
  rfl
end EL
