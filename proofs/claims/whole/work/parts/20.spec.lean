theorem lp_run {α β : Type} {body : α → Option (α ⊕ β)} (f : Nat → α) (k : Nat) {y : β} {n : Nat} (hs : ∀ i, i < k → body (f i) = some (.inl (f (i + 1)))) (he : body (f k) = some (.inr y)) (hn : k < n) : wq_lp body n (f 0) = some y := by
  induction k generalizing f n with
  | zero =>
    cases n with
    | zero => omega
    | succ n => simp [wq_lp, he]
  | succ k ih =>
    cases n with
    | zero => omega
    | succ n =>
      have h0 := hs 0 (by omega)
      simp only [wq_lp, h0]
      exact ih (fun i => f (i + 1)) (fun i hi => hs (i + 1) (by omega)) he (by omega)
theorem FU_gt {k : Nat} (h : k < 100000) : k < wq_FU := h
theorem in_nI {i n : Nat} (h : i < n) (hn : n < 2 ^ 31) : wq_in (nI i) n = true := wq_in_of (vp_in_nI h hn)
theorem cl_nI {n : Nat} (h : n < 2 ^ 31) : (nI n).toNatClampNeg = n := nI_clamp h
theorem lit_nI (n : Nat) : (OfNat.ofNat n : Int32) = nI n := rfl
def sSum (f : Nat → Nat) (k : Nat) : Nat → Nat
  | 0 => 0
  | j + 1 => sSum f k j + f (k + j)
def aHf (v : Nat → Nat) (s : Nat) : Nat := if v (36 + s) = 0 then 0 else v (6 + 6 * (v (36 + s) - 1) + 4)
def aPr (v : Nat → Nat) (s : Nat) : Nat := if v (36 + s) = 0 then 0 else v (6 + 6 * (v (36 + s) - 1) + 5)
def aHang (v : Nat → Nat) (s : Nat) : Nat := sSum (aHf v) s (v 0 - s)
def aCost (v : Nat → Nat) : Nat := sSum (aPr v) 0 (v 0)
def bBurst (v : Nat → Nat) (g : Nat) : Nat := v (6 + 6 * g + 1) + (if v (6 + 6 * g) = 5 then 10 else 0)
def bPull (v : Nat → Nat) (g : Nat) : Nat := if v (6 + 6 * g) = 3 then (v (6 + 6 * g + 3) + 1) / 2 else v (6 + 6 * g + 3)
def bDent (v : Nat → Nat) (g pull : Nat) : Nat := if 10 * pull / bPull v g ≤ 10 then 10 * pull / bPull v g else 10
def bCrush (v : Nat → Nat) (g pull : Nat) : Nat := if 4 ≤ v (6 + 6 * g) then v (6 + 6 * g + 2) else v (6 + 6 * g + 2) * (10 - (if v (6 + 6 * g) = 2 then bDent v g pull / 2 else bDent v g pull)) / 10
def lBurst (v : Nat → Nat) (s : Nat) : Nat := v 3 - v 4 * s
def lCrush (v : Nat → Nat) (s : Nat) : Nat := v 2 * (s + 1)
def aWould (v : Nat → Nat) (s g pull : Nat) : Bool := decide (lBurst v s ≤ bBurst v g) && decide (pull ≤ bPull v g) && decide (lCrush v s ≤ bCrush v g pull)
def aHolds (v : Nat → Nat) (s : Nat) : Bool := decide (v (36 + s) ≠ 0) && aWould v s (v (36 + s) - 1) (aHang v s)
def WF (v : Nat → Nat) : Prop := (2 ≤ v 0 ∧ v 0 ≤ 8) ∧ (1 ≤ v 1 ∧ v 1 ≤ 3) ∧ v 2 ≤ 40 ∧ v 3 ≤ 99 ∧ v 4 ≤ 20 ∧ (1 ≤ v 5 ∧ v 5 ≤ 5) ∧ (∀ g, g < v 5 → (1 ≤ v (6 + 6 * g) ∧ v (6 + 6 * g) ≤ 5) ∧ (1 ≤ v (6 + 6 * g + 1) ∧ v (6 + 6 * g + 1) ≤ 99) ∧ (1 ≤ v (6 + 6 * g + 2) ∧ v (6 + 6 * g + 2) ≤ 99) ∧ (1 ≤ v (6 + 6 * g + 3) ∧ v (6 + 6 * g + 3) ≤ 99) ∧ (1 ≤ v (6 + 6 * g + 4) ∧ v (6 + 6 * g + 4) ≤ 9) ∧ (1 ≤ v (6 + 6 * g + 5) ∧ v (6 + 6 * g + 5) ≤ 99)) ∧ (∀ s, s < 8 → v (36 + s) ≤ v 5) ∧ ∀ s, v 0 ≤ s → s < 8 → v (36 + s) = 0
def RepA (f : Nat → Int32) (v : Nat → Nat) : Prop := (∀ k, k < 36 → f k = nI (v k)) ∧ ∀ s, s < 8 → f (36 + s) = nI (v (36 + s)) - 1
def RepC (M : wq_M) (p : Nat) (v : Nat → Nat) : Prop := M.1 p 0 = nI (v 0) ∧ M.1 p 1 = nI (v 5) ∧ M.1 (p + 1) 0 = nI (v 2) ∧ M.1 (p + 1) 1 = nI (v 3) ∧ M.1 (p + 1) 2 = nI (v 4) ∧ M.1 (p + 1) 3 = nI (v 1) ∧ (∀ g, g < v 5 → M.1 (p + 2) g = nI (v (6 + 6 * g))) ∧ (∀ g, g < v 5 → ∀ k, k < 5 → M.1 (p + 3) (5 * g + k) = nI (v (6 + 6 * g + (1 + k)))) ∧ ∀ s, s < 8 → M.1 (p + 4) s = nI (v (36 + s)) - 1
theorem ld_toInt {x : Nat} (h : x < 1000) : (nI x - 1).toInt = (x : Int) - 1 := by
  rw [show (1 : Int32) = nI 1 from rfl, pk_sub_toInt (by omega) (by omega)]
  rfl
theorem ld_m1 {x : Nat} (h : x < 1000) : nI x - 1 = -1 ↔ x = 0 := by
  rw [← Int32.toInt_inj, ld_toInt h, show (-1 : Int32).toInt = -1 by decide]
  omega
theorem ld_lt0 {x : Nat} (h : x < 1000) : nI x - 1 < 0 ↔ x = 0 := by
  rw [Int32.lt_iff_toInt_lt, ld_toInt h, show (0 : Int32).toInt = 0 by decide]
  omega
theorem ld_ge0 {x : Nat} (h : x < 1000) : 0 ≤ nI x - 1 ↔ ¬ x = 0 := by
  rw [Int32.le_iff_toInt_le, ld_toInt h, show (0 : Int32).toInt = 0 by decide]
  omega
theorem ld_of {x : Nat} (h : ¬ x = 0) : nI x - 1 = nI (x - 1) := by
  obtain ⟨y, rfl⟩ : ∃ y, x = y + 1 := ⟨x - 1, by omega⟩
  exact nI_pred y
theorem ld_eq {x y : Nat} (hx : x < 1000) (hy : y < 1000) : nI x - 1 = nI y - 1 ↔ x = y := by
  rw [← Int32.toInt_inj, ld_toInt hx, ld_toInt hy]
  omega
theorem cl_0 : (0 : Int32).toNatClampNeg = 0 := by decide
theorem cl_1 : (1 : Int32).toNatClampNeg = 1 := by decide
theorem cl_2 : (2 : Int32).toNatClampNeg = 2 := by decide
theorem cl_3 : (3 : Int32).toNatClampNeg = 3 := by decide
theorem cl_4 : (4 : Int32).toNatClampNeg = 4 := by decide
theorem cl_5 : (5 : Int32).toNatClampNeg = 5 := by decide
theorem cl_6 : (6 : Int32).toNatClampNeg = 6 := by decide
theorem cl_7 : (7 : Int32).toNatClampNeg = 7 := by decide
theorem cl_8 : (8 : Int32).toNatClampNeg = 8 := by decide
theorem cl_23 : (23 : Int32).toNatClampNeg = 23 := by decide
theorem cl_25 : (25 : Int32).toNatClampNeg = 25 := by decide
theorem in_0_44 : wq_in 0 44 = true := by decide
theorem in_1_44 : wq_in 1 44 = true := by decide
theorem in_2_44 : wq_in 2 44 = true := by decide
theorem in_3_44 : wq_in 3 44 = true := by decide
theorem in_4_44 : wq_in 4 44 = true := by decide
theorem in_5_44 : wq_in 5 44 = true := by decide
theorem in_0_4 : wq_in 0 4 = true := by decide
theorem in_1_4 : wq_in 1 4 = true := by decide
theorem in_2_4 : wq_in 2 4 = true := by decide
theorem in_3_4 : wq_in 3 4 = true := by decide
theorem in_4_5 : wq_in 4 5 = true := by decide
theorem mb {a b A B : Nat} (ha : a ≤ A) (hb : b ≤ B) : a * b ≤ A * B := Nat.mul_le_mul ha hb
section SP
variable {M : wq_M} {p : Nat} {v : Nat → Nat}
theorem R_of (hR : RepA (M.1 p) v) {g k : Nat} (hg : g < 5) (hk : k < 6) : fX7_of p (nI g) (nI k) M = some (nI (v (6 + 6 * g + k))) := by
  unfold fX7_of
  rw [lit_nI 6, pk_mul, nI_add, nI_add, in_nI (by omega) (by omega), cl_nI (by omega), hR.1 _ (by omega)]
  rfl
theorem C_figure (hC : RepC M p v) (hm : v 5 ≤ 5) {g k : Nat} (hg : g < v 5) (hk : k < 5) : fX5_figure p (nI g) (nI k) M = some (nI (v (6 + 6 * g + (1 + k)))) := by
  unfold fX5_figure
  rw [lit_nI 5, pk_mul, nI_add, in_nI (by omega) (by omega), cl_nI (by omega), Nat.mul_comm g 5, hC.2.2.2.2.2.2.2.1 g hg k hk]
  rfl
end SP
