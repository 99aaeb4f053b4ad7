section EK
variable {v : Nat → Nat} {ok : Nat → Bool}
def hg (v : Nat → Nat) (g : Nat) : Nat := v (6 + 6 * g + 4)
def pg (v : Nat → Nat) (g : Nat) : Nat := v (6 + 6 * g + 5)
def sP (v : Nat → Nat) : List Nat → Nat
  | [] => 0
  | g :: l => sP v l + hg v g
def sC (v : Nat → Nat) : List Nat → Nat
  | [] => 0
  | g :: l => sC v l + pg v g
def sD : List Nat → Nat
  | [] => 0
  | g :: l => sD l * 5 + g
def sR : List Nat → Nat
  | [] => 0
  | g :: l => if l.head? = some g then min (sR l + 1) 3 else 1
def Vd (v : Nat → Nat) (ok : Nat → Bool) : List Nat → Prop
  | [] => True
  | g :: l => (g < v 5 ∧ ok g = true) ∧ aWould v (v 0 - 1 - l.length) g (sP v l + hg v g) = true ∧ Vd v ok l ∧ (l.head? = some g ∨ l = [] ∨ v 1 ≤ sR l)
def Mk (v : Nat → Nat) (ok : Nat → Bool) : List Nat → Nat → Prop
  | [], _ => False
  | g :: l, n => (g < v 5 ∧ ok g = true) ∧ aWould v (v 0 - 1 - l.length) g (sP v l + hg v g) = true ∧ ((n = 1 ∧ (l = [] ∨ Mk v ok l (v 1))) ∨ ∃ k, (1 ≤ k ∧ k ≤ v 1) ∧ n = min (k + 1) (v 1) ∧ l.head? = some g ∧ Mk v ok l k)
def Sd (v : Nat → Nat) (ok : Nat → Bool) (l : List Nat) : Prop := Vd v ok l ∧ v 1 ≤ sR l
theorem sR_c (g : Nat) (l : List Nat) : sR (g :: l) = if l.head? = some g then min (sR l + 1) 3 else 1 := rfl
theorem sR_le : ∀ l : List Nat, sR l ≤ 3
  | [] => by simp [sR]
  | g :: l => by
    unfold sR
    split <;> omega
theorem sR_pos {g : Nat} {l : List Nat} : 1 ≤ sR (g :: l) := by
  unfold sR
  split <;> omega
theorem Mk_i (hL : 1 ≤ v 1 ∧ v 1 ≤ 3) : ∀ (l : List Nat) (n : Nat), Mk v ok l n → Vd v ok l ∧ n ≤ sR l
  | [], n, h => absurd h (by simp [Mk])
  | g :: l, n, h => by
    obtain ⟨h1, h2, h3 | ⟨k, k1, k2, k3, k4⟩⟩ := h
    · obtain ⟨rfl, h3⟩ := h3
      refine ⟨⟨h1, h2, ?_, ?_⟩, sR_pos⟩
      · rcases h3 with rfl | h3
        · trivial
        · exact (Mk_i hL l _ h3).1
      · rcases h3 with h3 | h3
        · exact Or.inr (Or.inl h3)
        · exact Or.inr (Or.inr (Mk_i hL l _ h3).2)
    · have q := Mk_i hL l k k4
      refine ⟨⟨h1, h2, q.1, Or.inl k3⟩, ?_⟩
      unfold sR
      rw [if_pos k3]
      omega
theorem Mk_ii (hL : 1 ≤ v 1 ∧ v 1 ≤ 3) : ∀ (l : List Nat), Vd v ok l → l ≠ [] → Mk v ok l (min (sR l) (v 1))
  | [], _, h => absurd rfl h
  | g :: l, h, _ => by
    obtain ⟨h1, h2, h3, h4⟩ := h
    refine ⟨h1, h2, ?_⟩
    by_cases hh : l.head? = some g
    · have hl : l ≠ [] := by
        rintro rfl
        simp at hh
      have q := Mk_ii hL l h3 hl
      have hp : 1 ≤ sR l := by
        cases l with
        | nil => exact absurd rfl hl
        | cons a b => exact sR_pos
      refine Or.inr ⟨_, ?_, ?_, hh, q⟩
      · omega
      · rw [sR_c, if_pos hh]
        have := sR_le l
        omega
    · refine Or.inl ⟨?_, ?_⟩
      · unfold sR
        rw [if_neg hh]
        omega
      · rcases h4 with h4 | h4 | h4
        · exact absurd h4 hh
        · exact Or.inl h4
        · by_cases hl : l = []
          · exact Or.inl hl
          · right
            have q := Mk_ii hL l h3 hl
            rwa [Nat.min_eq_right h4] at q
theorem Mk_L (hL : 1 ≤ v 1 ∧ v 1 ≤ 3) {l : List Nat} (hl : l ≠ []) : Mk v ok l (v 1) ↔ Sd v ok l := by
  constructor
  · intro h
    exact Mk_i hL l _ h
  · intro h
    have q := Mk_ii hL l h.1 hl
    rwa [Nat.min_eq_right h.2] at q
/-- what completes a string, the lowest step first -/
def Cmp (v : Nat → Nat) (ok : Nat → Bool) : List Nat → Nat → Option Nat → Nat → Prop
  | [], _, _, r => v 1 ≤ r
  | g :: c, P, b, r => (g < v 5 ∧ ok g = true) ∧ (b = some g ∨ b = none ∨ v 1 ≤ r) ∧ aWould v c.length g (P + hg v g) = true ∧ Cmp v ok c (P + hg v g) (some g) (if b = some g then min (r + 1) 3 else 1)
def wt (v : Nat → Nat) : List Nat → Nat
  | [] => 0
  | g :: c => 100 * pg v g + hg v g + wt v c
def num : List Nat → Nat
  | [] => 0
  | g :: c => g * 5 ^ c.length + num c
theorem Vd_suf {l : List Nat} : ∀ (a : List Nat), Vd v ok (a ++ l) → Vd v ok l
  | [], h => h
  | _ :: a, h => Vd_suf a h.2.2.1
theorem Cmp_iff : ∀ (c l : List Nat), Vd v ok l → l.length + c.length = v 0 → (Cmp v ok c (sP v l) l.head? (sR l) ↔ Sd v ok (c.reverse ++ l))
  | [], l, h, _ => ⟨fun q => ⟨h, q⟩, fun q => q.2⟩
  | g :: c, l, h, hn => by
    have hl : (g :: c).reverse ++ l = c.reverse ++ (g :: l) := by simp
    have hstep : v 0 - 1 - l.length = c.length := by
      simp only [List.length_cons] at hn
      omega
    rw [hl]
    have hnone : l.head? = none ↔ l = [] := List.head?_eq_none_iff
    constructor
    · rintro ⟨q1, q2, q3, q4⟩
      have hv : Vd v ok (g :: l) := by
        refine ⟨q1, by rw [hstep]; exact q3, h, ?_⟩
        rcases q2 with q2 | q2 | q2
        · exact Or.inl q2
        · exact Or.inr (Or.inl (hnone.mp q2))
        · exact Or.inr (Or.inr q2)
      exact (Cmp_iff c (g :: l) hv (by simp only [List.length_cons] at hn ⊢; omega)).mp q4
    · intro q
      have hv := Vd_suf _ q.1
      have q4 := (Cmp_iff c (g :: l) hv (by simp only [List.length_cons] at hn ⊢; omega)).mpr q
      obtain ⟨z1, z2, z3, z4⟩ := hv
      refine ⟨z1, ?_, by rw [← hstep]; exact z2, q4⟩
      rcases z4 with z4 | z4 | z4
      · exact Or.inl z4
      · exact Or.inr (Or.inl (hnone.mpr z4))
      · exact Or.inr (Or.inr z4)
theorem wt_rev : ∀ (c l : List Nat), wt v c + (100 * sC v l + sP v l) = 100 * sC v (c.reverse ++ l) + sP v (c.reverse ++ l)
  | [], l => by simp [wt]
  | g :: c, l => by
    have hl : (g :: c).reverse ++ l = c.reverse ++ (g :: l) := by simp
    rw [hl, ← wt_rev c (g :: l)]
    simp only [wt, sC, sP]
    omega
theorem num_rev : ∀ (c l : List Nat), sD (c.reverse ++ l) = sD l * 5 ^ c.length + num c
  | [], l => by simp [num]
  | g :: c, l => by
    have hl : (g :: c).reverse ++ l = c.reverse ++ (g :: l) := by simp
    rw [hl, num_rev c (g :: l)]
    simp only [num, sD, List.length_cons]
    rw [Nat.pow_succ, Nat.add_mul, Nat.mul_assoc, Nat.mul_comm 5, Nat.add_assoc]
theorem num_lt : ∀ (c : List Nat), (∀ g ∈ c, g < 5) → num c < 5 ^ c.length
  | [], _ => by simp [num]
  | g :: c, h => by
    have h1 := num_lt c (fun x hx => h x (List.mem_cons_of_mem _ hx))
    have h2 := h g (by simp)
    simp only [num, List.length_cons]
    rw [Nat.pow_succ]
    have : g * 5 ^ c.length ≤ 4 * 5 ^ c.length := Nat.mul_le_mul_right _ (by omega)
    omega
theorem num_inj : ∀ (c d : List Nat), (∀ g ∈ c, g < 5) → (∀ g ∈ d, g < 5) → c.length = d.length → num c = num d → c = d
  | [], [], _, _, _, _ => rfl
  | [], _ :: _, _, _, h, _ => by simp at h
  | _ :: _, [], _, _, h, _ => by simp at h
  | g :: c, e :: d, h1, h2, hl, hn => by
    simp only [List.length_cons, Nat.add_right_cancel_iff] at hl
    have a1 := num_lt c (fun x hx => h1 x (List.mem_cons_of_mem _ hx))
    have a2 := num_lt d (fun x hx => h2 x (List.mem_cons_of_mem _ hx))
    simp only [num] at hn
    rw [hl] at hn a1
    have hge : g = e := by
      have e1 : (g * 5 ^ d.length + num c) / 5 ^ d.length = g := by
        rw [Nat.add_comm, Nat.add_mul_div_right _ _ (Nat.pow_pos (by omega)), Nat.div_eq_of_lt a1, Nat.zero_add]
      have e2 : (e * 5 ^ d.length + num d) / 5 ^ d.length = e := by
        rw [Nat.add_comm, Nat.add_mul_div_right _ _ (Nat.pow_pos (by omega)), Nat.div_eq_of_lt a2, Nat.zero_add]
      rw [← e1, hn, e2]
    subst hge
    rw [num_inj c d (fun x hx => h1 x (List.mem_cons_of_mem _ hx)) (fun x hx => h2 x (List.mem_cons_of_mem _ hx)) hl (by omega)]
theorem Cmp_mem : ∀ (c : List Nat) (P : Nat) (b : Option Nat) (r : Nat), Cmp v ok c P b r → ∀ g ∈ c, g < v 5
  | [], _, _, _, _, g, hg => by simp at hg
  | e :: c, P, b, r, h, g, hg => by
    rcases List.mem_cons.mp hg with rfl | hg
    · exact h.1.1
    · exact Cmp_mem c _ _ _ h.2.2.2 g hg
theorem Vd_mem : ∀ (l : List Nat), Vd v ok l → ∀ g ∈ l, g < v 5
  | [], _, g, hg => by simp at hg
  | e :: c, h, g, hg => by
    rcases List.mem_cons.mp hg with rfl | hg
    · exact h.1.1
    · exact Vd_mem c h.2.2.1 g hg
theorem sP_b (wf : WF v) : ∀ (l : List Nat), (∀ g ∈ l, g < v 5) → l.length ≤ sP v l ∧ sP v l ≤ 9 * l.length
  | [], _ => by simp [sP]
  | g :: l, h => by
    have h1 := sP_b wf l (fun x hx => h x (List.mem_cons_of_mem _ hx))
    have h2 := (wf.gr (h g (by simp))).2.2.2.2.1
    simp only [sP, List.length_cons, hg]
    omega
theorem sC_b (wf : WF v) : ∀ (l : List Nat), (∀ g ∈ l, g < v 5) → sC v l ≤ 99 * l.length
  | [], _ => by simp [sC]
  | g :: l, h => by
    have h1 := sC_b wf l (fun x hx => h x (List.mem_cons_of_mem _ hx))
    have h2 := (wf.gr (h g (by simp))).2.2.2.2.2
    simp only [sC, List.length_cons, pg]
    omega
theorem sD_lt : ∀ (l : List Nat), (∀ g ∈ l, g < 5) → sD l < 5 ^ l.length
  | [], _ => by simp [sD]
  | g :: l, h => by
    have h1 := sD_lt l (fun x hx => h x (List.mem_cons_of_mem _ hx))
    have h2 := h g (by simp)
    simp only [sD, List.length_cons]
    rw [Nat.pow_succ]
    omega
def val (v : Nat → Nat) (l : List Nat) : Nat := sC v l * 390625 + sD l
theorem sD_lt8 (wf : WF v) {l : List Nat} (h : ∀ g ∈ l, g < v 5) (hl : l.length ≤ 8) : sD l < 390625 ∧ (l.length ≤ 7 → sD l < 78125) := by
  have hm := wf.m5
  have h1 := sD_lt l (fun x hx => by have := h x hx; omega)
  have h2 := Nat.pow_le_pow_right (n := 5) (by omega) hl
  refine ⟨by simp at h2; omega, fun h7 => ?_⟩
  have h3 := Nat.pow_le_pow_right (n := 5) (by omega) h7
  simp at h3
  omega
theorem val_b (wf : WF v) {l : List Nat} (h : ∀ g ∈ l, g < v 5) (hl : l.length ≤ 8) : val v l < 310000000 := by
  have h1 := sC_b wf l h
  have h2 := (sD_lt8 wf h hl).1
  have : sC v l * 390625 ≤ 792 * 390625 := Nat.mul_le_mul_right _ (by omega)
  unfold val
  omega
theorem val_dm (wf : WF v) {l : List Nat} (h : ∀ g ∈ l, g < v 5) (hl : l.length ≤ 8) : val v l / 390625 = sC v l ∧ val v l % 390625 = sD l := by
  have h2 := (sD_lt8 wf h hl).1
  unfold val
  omega
theorem val_up {l : List Nat} {g : Nat} (h2 : sD l < 78125) : val v (g :: l) = (val v l - val v l % 390625) + pg v g * 390625 + val v l % 390625 * 5 + g := by
  have : val v l % 390625 = sD l := by
    unfold val
    omega
  rw [this]
  simp only [val, sC, sD]
  rw [Nat.add_mul]
  omega
theorem mono_a (A B Q x y g : Nat) (h1 : x < 78125) (h : A + 390625 ≤ B) : A + Q + (x * 5 + g) ≤ B + Q + (y * 5 + g) := by omega
theorem mono_b (A Q x y g : Nat) (h : x ≤ y) : A + Q + (x * 5 + g) ≤ A + Q + (y * 5 + g) := by omega
theorem mono_n (a b x y p g : Nat) (h1 : x < 78125) (h2 : y < 78125) (h : a * 390625 + x ≤ b * 390625 + y) : a * 390625 + p * 390625 + (x * 5 + g) ≤ b * 390625 + p * 390625 + (y * 5 + g) := by
  have : a < b ∨ a = b ∧ x ≤ y := by omega
  rcases this with q | ⟨q1, q2⟩
  · have : (a + 1) * 390625 ≤ b * 390625 := Nat.mul_le_mul_right _ q
    rw [Nat.add_mul, Nat.one_mul] at this
    exact mono_a _ _ _ _ _ _ h1 this
  · subst q1
    exact mono_b _ _ _ _ _ q2
theorem val_mono {l m : List Nat} {g : Nat} (h1 : sD l < 78125) (h2 : sD m < 78125) (hg : g < 5) (h : val v l ≤ val v m) : val v (g :: l) ≤ val v (g :: m) := by
  simp only [val, sC, sD] at h ⊢
  rw [Nat.add_mul, Nat.add_mul]
  exact mono_n _ _ _ _ _ _ h1 h2 h
end EK
