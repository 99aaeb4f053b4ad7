def wq_kC : List Nat := [6, 10, 3, 8, 3, 8, 3, 8, 3, 8, 3, 8, 3, 8, 3, 8, 3, 8, 2, 8, 5, 8, 8, 8, 8, 5, 8, 8, 8, 8, 11, 5, 8, 8, 8, 8, 5, 8, 8, 8, 8, 4, 8, 8, 8, 8, 8, 0, 8, 8, 1, 8]
def wq_lC : List Nat := [0, 8, 0, 40, 0, 40, 0, 40, 0, 40, 0, 40, 0, 40, 0, 40, 0, 40, 0, 130, 0, 4, 5, 25, 8, 0, 4, 5, 25, 8, 2, 0, 4, 5, 25, 8, 0, 4, 5, 25, 8, 0, 8, 1095, 1095, 73, 73, 0, 24, 24, 0, 16]
def wq_yC : wq_Y := (52, fun p => wq_kC.getD p 99, fun p => wq_lC.getD p 0)
def wq_kR : List Nat := [7, 8, 8, 8, 8, 8, 8, 8, 8, 8, 8, 8, 9, 8, 8]
def wq_lR : List Nat := [0, 8, 8, 320, 44, 44, 44, 1056, 130, 14016, 8, 200, 2, 88, 16]
def wq_yR : wq_Y := (15, fun p => wq_kR.getD p 99, fun p => wq_lR.getD p 0)
def wq_o (Y : wq_Y) (p c : Nat) : Prop := p < Y.1 ∧ Y.2.1 p = c
def wq_a (Y : wq_Y) (p n : Nat) : Prop := p < Y.1 ∧ Y.2.1 p = 8 ∧ Y.2.2 p = n
def wq_W (p : Nat) : Prop := wq_o wq_yC p 5 ∧ wq_a wq_yC (p + 1) 4 ∧ wq_a wq_yC (p + 2) 5 ∧ wq_a wq_yC (p + 3) 25 ∧ wq_a wq_yC (p + 4) 8
def wq_Rw (p : Nat) : Prop := wq_o wq_yC p 3 ∧ wq_a wq_yC (p + 1) 40
theorem oC_0 : wq_o wq_yC 0 6 := ⟨by decide, rfl⟩
theorem oC_1 : wq_o wq_yC 1 10 := ⟨by decide, rfl⟩
theorem oC_2 : wq_o wq_yC 2 3 := ⟨by decide, rfl⟩
theorem aC_3 : wq_a wq_yC 3 40 := ⟨by decide, rfl, rfl⟩
theorem oC_4 : wq_o wq_yC 4 3 := ⟨by decide, rfl⟩
theorem aC_5 : wq_a wq_yC 5 40 := ⟨by decide, rfl, rfl⟩
theorem oC_6 : wq_o wq_yC 6 3 := ⟨by decide, rfl⟩
theorem aC_7 : wq_a wq_yC 7 40 := ⟨by decide, rfl, rfl⟩
theorem oC_8 : wq_o wq_yC 8 3 := ⟨by decide, rfl⟩
theorem aC_9 : wq_a wq_yC 9 40 := ⟨by decide, rfl, rfl⟩
theorem oC_10 : wq_o wq_yC 10 3 := ⟨by decide, rfl⟩
theorem aC_11 : wq_a wq_yC 11 40 := ⟨by decide, rfl, rfl⟩
theorem oC_12 : wq_o wq_yC 12 3 := ⟨by decide, rfl⟩
theorem aC_13 : wq_a wq_yC 13 40 := ⟨by decide, rfl, rfl⟩
theorem oC_14 : wq_o wq_yC 14 3 := ⟨by decide, rfl⟩
theorem aC_15 : wq_a wq_yC 15 40 := ⟨by decide, rfl, rfl⟩
theorem oC_16 : wq_o wq_yC 16 3 := ⟨by decide, rfl⟩
theorem aC_17 : wq_a wq_yC 17 40 := ⟨by decide, rfl, rfl⟩
theorem oC_18 : wq_o wq_yC 18 2 := ⟨by decide, rfl⟩
theorem aC_19 : wq_a wq_yC 19 130 := ⟨by decide, rfl, rfl⟩
theorem oC_20 : wq_o wq_yC 20 5 := ⟨by decide, rfl⟩
theorem aC_21 : wq_a wq_yC 21 4 := ⟨by decide, rfl, rfl⟩
theorem aC_22 : wq_a wq_yC 22 5 := ⟨by decide, rfl, rfl⟩
theorem aC_23 : wq_a wq_yC 23 25 := ⟨by decide, rfl, rfl⟩
theorem aC_24 : wq_a wq_yC 24 8 := ⟨by decide, rfl, rfl⟩
theorem oC_25 : wq_o wq_yC 25 5 := ⟨by decide, rfl⟩
theorem aC_26 : wq_a wq_yC 26 4 := ⟨by decide, rfl, rfl⟩
theorem aC_27 : wq_a wq_yC 27 5 := ⟨by decide, rfl, rfl⟩
theorem aC_28 : wq_a wq_yC 28 25 := ⟨by decide, rfl, rfl⟩
theorem aC_29 : wq_a wq_yC 29 8 := ⟨by decide, rfl, rfl⟩
theorem oC_30 : wq_o wq_yC 30 11 := ⟨by decide, rfl⟩
theorem oC_31 : wq_o wq_yC 31 5 := ⟨by decide, rfl⟩
theorem aC_32 : wq_a wq_yC 32 4 := ⟨by decide, rfl, rfl⟩
theorem aC_33 : wq_a wq_yC 33 5 := ⟨by decide, rfl, rfl⟩
theorem aC_34 : wq_a wq_yC 34 25 := ⟨by decide, rfl, rfl⟩
theorem aC_35 : wq_a wq_yC 35 8 := ⟨by decide, rfl, rfl⟩
theorem oC_36 : wq_o wq_yC 36 5 := ⟨by decide, rfl⟩
theorem aC_37 : wq_a wq_yC 37 4 := ⟨by decide, rfl, rfl⟩
theorem aC_38 : wq_a wq_yC 38 5 := ⟨by decide, rfl, rfl⟩
theorem aC_39 : wq_a wq_yC 39 25 := ⟨by decide, rfl, rfl⟩
theorem aC_40 : wq_a wq_yC 40 8 := ⟨by decide, rfl, rfl⟩
theorem oC_41 : wq_o wq_yC 41 4 := ⟨by decide, rfl⟩
theorem aC_42 : wq_a wq_yC 42 8 := ⟨by decide, rfl, rfl⟩
theorem aC_43 : wq_a wq_yC 43 1095 := ⟨by decide, rfl, rfl⟩
theorem aC_44 : wq_a wq_yC 44 1095 := ⟨by decide, rfl, rfl⟩
theorem aC_45 : wq_a wq_yC 45 73 := ⟨by decide, rfl, rfl⟩
theorem aC_46 : wq_a wq_yC 46 73 := ⟨by decide, rfl, rfl⟩
theorem oC_47 : wq_o wq_yC 47 0 := ⟨by decide, rfl⟩
theorem aC_48 : wq_a wq_yC 48 24 := ⟨by decide, rfl, rfl⟩
theorem aC_49 : wq_a wq_yC 49 24 := ⟨by decide, rfl, rfl⟩
theorem oC_50 : wq_o wq_yC 50 1 := ⟨by decide, rfl⟩
theorem aC_51 : wq_a wq_yC 51 16 := ⟨by decide, rfl, rfl⟩
theorem oR_0 : wq_o wq_yR 0 7 := ⟨by decide, rfl⟩
theorem aR_1 : wq_a wq_yR 1 8 := ⟨by decide, rfl, rfl⟩
theorem aR_2 : wq_a wq_yR 2 8 := ⟨by decide, rfl, rfl⟩
theorem aR_3 : wq_a wq_yR 3 320 := ⟨by decide, rfl, rfl⟩
theorem aR_4 : wq_a wq_yR 4 44 := ⟨by decide, rfl, rfl⟩
theorem aR_5 : wq_a wq_yR 5 44 := ⟨by decide, rfl, rfl⟩
theorem aR_6 : wq_a wq_yR 6 44 := ⟨by decide, rfl, rfl⟩
theorem aR_7 : wq_a wq_yR 7 1056 := ⟨by decide, rfl, rfl⟩
theorem aR_8 : wq_a wq_yR 8 130 := ⟨by decide, rfl, rfl⟩
theorem aR_9 : wq_a wq_yR 9 14016 := ⟨by decide, rfl, rfl⟩
theorem aR_10 : wq_a wq_yR 10 8 := ⟨by decide, rfl, rfl⟩
theorem aR_11 : wq_a wq_yR 11 200 := ⟨by decide, rfl, rfl⟩
theorem oR_12 : wq_o wq_yR 12 9 := ⟨by decide, rfl⟩
theorem aR_13 : wq_a wq_yR 13 88 := ⟨by decide, rfl, rfl⟩
theorem aR_14 : wq_a wq_yR 14 16 := ⟨by decide, rfl, rfl⟩
theorem W_20 : wq_W 20 := ⟨oC_20, aC_21, aC_22, aC_23, aC_24⟩
theorem W_25 : wq_W 25 := ⟨oC_25, aC_26, aC_27, aC_28, aC_29⟩
theorem W_31 : wq_W 31 := ⟨oC_31, aC_32, aC_33, aC_34, aC_35⟩
theorem W_36 : wq_W 36 := ⟨oC_36, aC_37, aC_38, aC_39, aC_40⟩
theorem Rw_of {i : Int32} (h : wq_in i 8 = true) : wq_Rw (2 + 2 * i.toNatClampNeg) := by
  simp only [wq_in, Bool.and_eq_true, decide_eq_true_eq] at h
  obtain ⟨-, h⟩ := h
  generalize i.toNatClampNeg = n at h ⊢
  have : n = 0 ∨ n = 1 ∨ n = 2 ∨ n = 3 ∨ n = 4 ∨ n = 5 ∨ n = 6 ∨ n = 7 := by omega
  rcases this with rfl | rfl | rfl | rfl | rfl | rfl | rfl | rfl <;> exact ⟨⟨by decide, rfl⟩, ⟨by decide, rfl, rfl⟩⟩
theorem W_of {i : Int32} (h : wq_in i 2 = true) : wq_W (31 + 5 * i.toNatClampNeg) := by
  simp only [wq_in, Bool.and_eq_true, decide_eq_true_eq] at h
  obtain ⟨-, h⟩ := h
  generalize i.toNatClampNeg = n at h ⊢
  have : n = 0 ∨ n = 1 := by omega
  rcases this with rfl | rfl
  · exact W_31
  · exact W_36
def wq_okW (q : Nat) : Bool := q == 20 || q == 25 || q == 31 || q == 36
theorem W_ok {q : Nat} (h : wq_okW q = true) : wq_W q := by
  simp only [wq_okW, Bool.or_eq_true, beq_iff_eq] at h
  rcases h with ((rfl | rfl) | rfl) | rfl
  · exact W_20
  · exact W_25
  · exact W_31
  · exact W_36
def wq_okA (q : Nat) : Bool := decide (q < 52) && (wq_kC.getD q 99 == 8)
theorem A_ok {q : Nat} (h : wq_okA q = true) : wq_a wq_yC q (wq_yC.2.2 q) := by
  simp only [wq_okA, Bool.and_eq_true, decide_eq_true_eq, beq_iff_eq] at h
  exact ⟨h.1, h.2, rfl⟩
def wq_FU : Nat := 100000
def wq_RF : Nat := 40
theorem wq_ip {c : Prop} [Decidable c] {α : Type} {a b r : α} (z : c) (h : (if c then a else b) = r) : a = r := by
  rw [if_pos z] at h
  exact h
theorem wq_in_ {c : Prop} [Decidable c] {α : Type} {a b r : α} (z : ¬ c) (h : (if c then a else b) = r) : b = r := by
  rw [if_neg z] at h
  exact h
theorem wq_ii {c : Prop} [Decidable c] {α : Type} {a : Option α} {r : α} (h : (if c then a else none) = some r) : c ∧ a = some r := by
  by_cases z : c
  · rw [if_pos z] at h
    exact ⟨z, h⟩
  · rw [if_neg z] at h
    cases h
def wq_kI (g : wq_G) (r : Int32 × wq_M) : Prop := g.1 = some (.int r.1) ∧ g.2.1 = r.2
def wq_kL (g : wq_G) (r : Int64 × wq_M) : Prop := g.1 = some (.long r.1) ∧ g.2.1 = r.2
def wq_kB (g : wq_G) (r : Bool × wq_M) : Prop := g.1 = some (.int (wq_b r.1)) ∧ g.2.1 = r.2
def wq_kV (g : wq_G) (r : wq_M) : Prop := g.1 = none ∧ g.2.1 = r
def wq_ki (g : wq_G) (M : wq_M) (r : Int32) : Prop := g.1 = some (.int r) ∧ g.2.1 = M
def wq_kl (g : wq_G) (M : wq_M) (r : Int64) : Prop := g.1 = some (.long r) ∧ g.2.1 = M
def wq_kb (g : wq_G) (M : wq_M) (r : Bool) : Prop := g.1 = some (.int (wq_b r)) ∧ g.2.1 = M
theorem wq_lq_ok {α β : Type} {body : α → Option (α ⊕ β)} (Hd : α → Prop) (Kx : β → Prop) (hb : ∀ s x, body s = some x → Sum.elim Hd Kx x → Hd s) : ∀ (n : Nat) (s : α) (y : β), wq_lp body n s = some y → Kx y → Hd s :=
  wq_lp_ok (Hd := Hd) (Kx := Kx) (fun s x h K => hb s x h (by cases x <;> exact K))
section WL
variable {g : wq_G} {E : wq_E} {Y : wq_Y} {cc : ByteArray} {nL : Nat} {own : String} {ret : Option FieldType} {d : Nat} {pc : Nat} {lv lv' : List (Option Value)} {st : List Value} {M : wq_M}
theorem wq_b0 (b : Bool) : wq_b b = 0 ↔ ¬ b = true := by cases b <;> decide
theorem wq_bif_eq (h : wq_C g E Y cc nL own ret d) {b : Bool} {off : Int} {tgt : Nat} (hd : decode cc pc = .ok (.ifCond .eq off, 3)) (ht : (pc : Int) + off = (tgt : Int)) (kt : ¬ b = true → wq_g g E Y nL tgt lv st M) (kf : b = true → wq_g g E Y nL (pc + 3) lv st M) : wq_g g E Y nL pc lv (.int (wq_b b) :: st) M :=
  wq_if_eq h hd ht (fun z => kt ((wq_b0 b).mp z)) (fun z => kf (by cases b with | true => rfl | false => exact absurd ((wq_b0 false).mpr (by decide)) z))
theorem wq_bif_ne (h : wq_C g E Y cc nL own ret d) {b : Bool} {off : Int} {tgt : Nat} (hd : decode cc pc = .ok (.ifCond .ne off, 3)) (ht : (pc : Int) + off = (tgt : Int)) (kt : b = true → wq_g g E Y nL tgt lv st M) (kf : ¬ b = true → wq_g g E Y nL (pc + 3) lv st M) : wq_g g E Y nL pc lv (.int (wq_b b) :: st) M :=
  wq_if_ne h hd ht (fun z => kt (by cases b with | true => rfl | false => exact absurd ((wq_b0 false).mpr (by decide)) z)) (fun z => kf ((wq_b0 b).mp z))
theorem wq_ldcb (h : wq_C g E Y cc nL own ret d) (k : wq_g g E Y nL pc lv st M) : wq_g g E Y nL pc lv st M := k
theorem gf_0 (h : wq_C g E Y cc nL own ret d) {p0 : Nat} (ho : wq_o Y p0 0) (kf : Nat) {idx : Nat} (v : Value) (hkN : kf < 3) (hf : (wq_fl E.2.1 M p0 0)[kf]? = some v) (hlink : Cond.fieldLink own idx (TX0 kf).1 (TX0 kf).2.1 (TX0 kf).2.2.1 ∈ wq_TB) (hd : decode cc pc = .ok (.getfield idx, 3)) (k : wq_g g E Y nL (pc + 3) lv (v :: st) M) : wq_g g E Y nL pc lv (.ref (E.2.1 p0) :: st) M :=
  wq_get h ho.1 ho.2 (by decide) (show wq_cl[0]? = some (RX0, TX0, 3) from rfl) in_X0 hkN hf hlink hd k
theorem pf_0_2 (h : wq_C g E Y cc nL own ret d) {p0 : Nat} (ho : wq_o Y p0 0) {idx : Nat} {x : Int32} (hlink : Cond.fieldLink own idx (TX0 2).1 (TX0 2).2.1 (TX0 2).2.2.1 ∈ wq_TB) (hd : decode cc pc = .ok (.putfield idx, 3)) (k : wq_g g E Y nL (pc + 3) lv st (wq_st M p0 2 x)) : wq_g g E Y nL pc lv (.int x :: .ref (E.2.1 p0) :: st) M :=
  wq_put h (ty := .int) tyX0 tyX0_ok nmX0 ho.1 ho.2 (by decide) (show wq_cl[0]? = some (RX0, TX0, 3) from rfl) in_X0 (by decide) rfl (by decide +kernel) rfl rfl (by simp [wq_fl]) (by simp [wq_fl, wq_st]) (fun q hq => ⟨wq_st_ne hq, rfl⟩) hlink hd k
theorem gf_1 (h : wq_C g E Y cc nL own ret d) {p0 : Nat} (ho : wq_o Y p0 1) (kf : Nat) {idx : Nat} (v : Value) (hkN : kf < 4) (hf : (wq_fl E.2.1 M p0 1)[kf]? = some v) (hlink : Cond.fieldLink own idx (TX1 kf).1 (TX1 kf).2.1 (TX1 kf).2.2.1 ∈ wq_TB) (hd : decode cc pc = .ok (.getfield idx, 3)) (k : wq_g g E Y nL (pc + 3) lv (v :: st) M) : wq_g g E Y nL pc lv (.ref (E.2.1 p0) :: st) M :=
  wq_get h ho.1 ho.2 (by decide) (show wq_cl[1]? = some (RX1, TX1, 4) from rfl) in_X1 hkN hf hlink hd k
theorem pf_1_1 (h : wq_C g E Y cc nL own ret d) {p0 : Nat} (ho : wq_o Y p0 1) {idx : Nat} {x : Int32} (hlink : Cond.fieldLink own idx (TX1 1).1 (TX1 1).2.1 (TX1 1).2.2.1 ∈ wq_TB) (hd : decode cc pc = .ok (.putfield idx, 3)) (k : wq_g g E Y nL (pc + 3) lv st (wq_st M p0 1 x)) : wq_g g E Y nL pc lv (.int x :: .ref (E.2.1 p0) :: st) M :=
  wq_put h (ty := .int) tyX1 tyX1_ok nmX1 ho.1 ho.2 (by decide) (show wq_cl[1]? = some (RX1, TX1, 4) from rfl) in_X1 (by decide) rfl (by decide +kernel) rfl rfl (by simp [wq_fl]) (by simp [wq_fl, wq_st]) (fun q hq => ⟨wq_st_ne hq, rfl⟩) hlink hd k
theorem pf_1_2 (h : wq_C g E Y cc nL own ret d) {p0 q0 : Nat} (ho : wq_o Y p0 1) {idx : Nat} (hlink : Cond.fieldLink own idx (TX1 2).1 (TX1 2).2.1 (TX1 2).2.2.1 ∈ wq_TB) (hd : decode cc pc = .ok (.putfield idx, 3)) (k : wq_g g E Y nL (pc + 3) lv st (wq_sr M p0 2 (some q0))) : wq_g g E Y nL pc lv (.ref (E.2.1 q0) :: .ref (E.2.1 p0) :: st) M :=
  wq_put h (M1 := wq_sr M p0 2 (some q0)) (ty := tyX1 2) tyX1 tyX1_ok nmX1 ho.1 ho.2 (by decide) (show wq_cl[1]? = some (RX1, TX1, 4) from rfl) in_X1 (by decide) rfl (by decide +kernel) rfl rfl (by simp [wq_fl]) (by simp [wq_fl, wq_sr, wq_rf, va_rf]) (fun q hq => ⟨rfl, wq_sr_ne hq⟩) hlink hd k
theorem pf_1_3 (h : wq_C g E Y cc nL own ret d) {p0 : Nat} (ho : wq_o Y p0 1) {idx : Nat} {x : Int32} (hlink : Cond.fieldLink own idx (TX1 3).1 (TX1 3).2.1 (TX1 3).2.2.1 ∈ wq_TB) (hd : decode cc pc = .ok (.putfield idx, 3)) (k : wq_g g E Y nL (pc + 3) lv st (wq_st M p0 3 x)) : wq_g g E Y nL pc lv (.int x :: .ref (E.2.1 p0) :: st) M :=
  wq_put h (ty := .int) tyX1 tyX1_ok nmX1 ho.1 ho.2 (by decide) (show wq_cl[1]? = some (RX1, TX1, 4) from rfl) in_X1 (by decide) rfl (by decide +kernel) rfl rfl (by simp [wq_fl]) (by simp [wq_fl, wq_st]) (fun q hq => ⟨wq_st_ne hq, rfl⟩) hlink hd k
theorem gf_2 (h : wq_C g E Y cc nL own ret d) {p0 : Nat} (ho : wq_o Y p0 2) (kf : Nat) {idx : Nat} (v : Value) (hkN : kf < 6) (hf : (wq_fl E.2.1 M p0 2)[kf]? = some v) (hlink : Cond.fieldLink own idx (TX2 kf).1 (TX2 kf).2.1 (TX2 kf).2.2.1 ∈ wq_TB) (hd : decode cc pc = .ok (.getfield idx, 3)) (k : wq_g g E Y nL (pc + 3) lv (v :: st) M) : wq_g g E Y nL pc lv (.ref (E.2.1 p0) :: st) M :=
  wq_get h ho.1 ho.2 (by decide) (show wq_cl[2]? = some (RX2, TX2, 6) from rfl) in_X2 hkN hf hlink hd k
theorem pf_2_1 (h : wq_C g E Y cc nL own ret d) {p0 : Nat} (ho : wq_o Y p0 2) {idx : Nat} {x : Int32} (hlink : Cond.fieldLink own idx (TX2 1).1 (TX2 1).2.1 (TX2 1).2.2.1 ∈ wq_TB) (hd : decode cc pc = .ok (.putfield idx, 3)) (k : wq_g g E Y nL (pc + 3) lv st (wq_st M p0 1 x)) : wq_g g E Y nL pc lv (.int x :: .ref (E.2.1 p0) :: st) M :=
  wq_put h (ty := .int) tyX2 tyX2_ok nmX2 ho.1 ho.2 (by decide) (show wq_cl[2]? = some (RX2, TX2, 6) from rfl) in_X2 (by decide) rfl (by decide +kernel) rfl rfl (by simp [wq_fl]) (by simp [wq_fl, wq_st]) (fun q hq => ⟨wq_st_ne hq, rfl⟩) hlink hd k
theorem pf_2_2 (h : wq_C g E Y cc nL own ret d) {p0 : Nat} (ho : wq_o Y p0 2) {idx : Nat} {x : Int32} (hlink : Cond.fieldLink own idx (TX2 2).1 (TX2 2).2.1 (TX2 2).2.2.1 ∈ wq_TB) (hd : decode cc pc = .ok (.putfield idx, 3)) (k : wq_g g E Y nL (pc + 3) lv st (wq_st M p0 2 x)) : wq_g g E Y nL pc lv (.int x :: .ref (E.2.1 p0) :: st) M :=
  wq_put h (ty := .int) tyX2 tyX2_ok nmX2 ho.1 ho.2 (by decide) (show wq_cl[2]? = some (RX2, TX2, 6) from rfl) in_X2 (by decide) rfl (by decide +kernel) rfl rfl (by simp [wq_fl]) (by simp [wq_fl, wq_st]) (fun q hq => ⟨wq_st_ne hq, rfl⟩) hlink hd k
theorem pf_2_3 (h : wq_C g E Y cc nL own ret d) {p0 : Nat} (ho : wq_o Y p0 2) {idx : Nat} {x : Int32} (hlink : Cond.fieldLink own idx (TX2 3).1 (TX2 3).2.1 (TX2 3).2.2.1 ∈ wq_TB) (hd : decode cc pc = .ok (.putfield idx, 3)) (k : wq_g g E Y nL (pc + 3) lv st (wq_st M p0 3 x)) : wq_g g E Y nL pc lv (.int x :: .ref (E.2.1 p0) :: st) M :=
  wq_put h (ty := .int) tyX2 tyX2_ok nmX2 ho.1 ho.2 (by decide) (show wq_cl[2]? = some (RX2, TX2, 6) from rfl) in_X2 (by decide) rfl (by decide +kernel) rfl rfl (by simp [wq_fl]) (by simp [wq_fl, wq_st]) (fun q hq => ⟨wq_st_ne hq, rfl⟩) hlink hd k
theorem pf_2_4 (h : wq_C g E Y cc nL own ret d) {p0 : Nat} (ho : wq_o Y p0 2) {idx : Nat} {x : Int32} (hlink : Cond.fieldLink own idx (TX2 4).1 (TX2 4).2.1 (TX2 4).2.2.1 ∈ wq_TB) (hd : decode cc pc = .ok (.putfield idx, 3)) (k : wq_g g E Y nL (pc + 3) lv st (wq_st M p0 4 x)) : wq_g g E Y nL pc lv (.int x :: .ref (E.2.1 p0) :: st) M :=
  wq_put h (ty := .int) tyX2 tyX2_ok nmX2 ho.1 ho.2 (by decide) (show wq_cl[2]? = some (RX2, TX2, 6) from rfl) in_X2 (by decide) rfl (by decide +kernel) rfl rfl (by simp [wq_fl]) (by simp [wq_fl, wq_st]) (fun q hq => ⟨wq_st_ne hq, rfl⟩) hlink hd k
theorem pf_2_5 (h : wq_C g E Y cc nL own ret d) {p0 : Nat} (ho : wq_o Y p0 2) {idx : Nat} {x : Int32} (hx : x = 0 ∨ x = 1) (hlink : Cond.fieldLink own idx (TX2 5).1 (TX2 5).2.1 (TX2 5).2.2.1 ∈ wq_TB) (hd : decode cc pc = .ok (.putfield idx, 3)) (k : wq_g g E Y nL (pc + 3) lv st (wq_st M p0 5 x)) : wq_g g E Y nL pc lv (.int x :: .ref (E.2.1 p0) :: st) M :=
  wq_put h (ty := .boolean) tyX2 tyX2_ok nmX2 ho.1 ho.2 (by decide) (show wq_cl[2]? = some (RX2, TX2, 6) from rfl) in_X2 (by decide) rfl (by decide +kernel) (by rcases hx with rfl | rfl <;> rfl) (by rcases hx with rfl | rfl <;> rfl) (by simp [wq_fl]) (by simp [wq_fl, wq_st]) (fun q hq => ⟨wq_st_ne hq, rfl⟩) hlink hd k
theorem gf_3 (h : wq_C g E Y cc nL own ret d) {p0 : Nat} (ho : wq_o Y p0 3) (kf : Nat) {idx : Nat} (v : Value) (hkN : kf < 3) (hf : (wq_fl E.2.1 M p0 3)[kf]? = some v) (hlink : Cond.fieldLink own idx (TX3 kf).1 (TX3 kf).2.1 (TX3 kf).2.2.1 ∈ wq_TB) (hd : decode cc pc = .ok (.getfield idx, 3)) (k : wq_g g E Y nL (pc + 3) lv (v :: st) M) : wq_g g E Y nL pc lv (.ref (E.2.1 p0) :: st) M :=
  wq_get h ho.1 ho.2 (by decide) (show wq_cl[3]? = some (RX3, TX3, 3) from rfl) in_X3 hkN hf hlink hd k
theorem pf_3_1 (h : wq_C g E Y cc nL own ret d) {p0 : Nat} (ho : wq_o Y p0 3) {idx : Nat} {x : Int32} (hlink : Cond.fieldLink own idx (TX3 1).1 (TX3 1).2.1 (TX3 1).2.2.1 ∈ wq_TB) (hd : decode cc pc = .ok (.putfield idx, 3)) (k : wq_g g E Y nL (pc + 3) lv st (wq_st M p0 1 x)) : wq_g g E Y nL pc lv (.int x :: .ref (E.2.1 p0) :: st) M :=
  wq_put h (ty := .int) tyX3 tyX3_ok nmX3 ho.1 ho.2 (by decide) (show wq_cl[3]? = some (RX3, TX3, 3) from rfl) in_X3 (by decide) rfl (by decide +kernel) rfl rfl (by simp [wq_fl]) (by simp [wq_fl, wq_st]) (fun q hq => ⟨wq_st_ne hq, rfl⟩) hlink hd k
theorem pf_3_2 (h : wq_C g E Y cc nL own ret d) {p0 : Nat} (ho : wq_o Y p0 3) {idx : Nat} {x : Int32} (hlink : Cond.fieldLink own idx (TX3 2).1 (TX3 2).2.1 (TX3 2).2.2.1 ∈ wq_TB) (hd : decode cc pc = .ok (.putfield idx, 3)) (k : wq_g g E Y nL (pc + 3) lv st (wq_st M p0 2 x)) : wq_g g E Y nL pc lv (.int x :: .ref (E.2.1 p0) :: st) M :=
  wq_put h (ty := .int) tyX3 tyX3_ok nmX3 ho.1 ho.2 (by decide) (show wq_cl[3]? = some (RX3, TX3, 3) from rfl) in_X3 (by decide) rfl (by decide +kernel) rfl rfl (by simp [wq_fl]) (by simp [wq_fl, wq_st]) (fun q hq => ⟨wq_st_ne hq, rfl⟩) hlink hd k
theorem gf_4 (h : wq_C g E Y cc nL own ret d) {p0 : Nat} (ho : wq_o Y p0 4) (kf : Nat) {idx : Nat} (v : Value) (hkN : kf < 9) (hf : (wq_fl E.2.1 M p0 4)[kf]? = some v) (hlink : Cond.fieldLink own idx (TX4 kf).1 (TX4 kf).2.1 (TX4 kf).2.2.1 ∈ wq_TB) (hd : decode cc pc = .ok (.getfield idx, 3)) (k : wq_g g E Y nL (pc + 3) lv (v :: st) M) : wq_g g E Y nL pc lv (.ref (E.2.1 p0) :: st) M :=
  wq_get h ho.1 ho.2 (by decide) (show wq_cl[4]? = some (RX4, TX4, 9) from rfl) in_X4 hkN hf hlink hd k
theorem pf_4_1 (h : wq_C g E Y cc nL own ret d) {p0 : Nat} (ho : wq_o Y p0 4) {idx : Nat} {x : Int32} (hlink : Cond.fieldLink own idx (TX4 1).1 (TX4 1).2.1 (TX4 1).2.2.1 ∈ wq_TB) (hd : decode cc pc = .ok (.putfield idx, 3)) (k : wq_g g E Y nL (pc + 3) lv st (wq_st M p0 1 x)) : wq_g g E Y nL pc lv (.int x :: .ref (E.2.1 p0) :: st) M :=
  wq_put h (ty := .int) tyX4 tyX4_ok nmX4 ho.1 ho.2 (by decide) (show wq_cl[4]? = some (RX4, TX4, 9) from rfl) in_X4 (by decide) rfl (by decide +kernel) rfl rfl (by simp [wq_fl]) (by simp [wq_fl, wq_st]) (fun q hq => ⟨wq_st_ne hq, rfl⟩) hlink hd k
theorem pf_4_2 (h : wq_C g E Y cc nL own ret d) {p0 : Nat} (ho : wq_o Y p0 4) {idx : Nat} {x : Int32} (hlink : Cond.fieldLink own idx (TX4 2).1 (TX4 2).2.1 (TX4 2).2.2.1 ∈ wq_TB) (hd : decode cc pc = .ok (.putfield idx, 3)) (k : wq_g g E Y nL (pc + 3) lv st (wq_st M p0 2 x)) : wq_g g E Y nL pc lv (.int x :: .ref (E.2.1 p0) :: st) M :=
  wq_put h (ty := .int) tyX4 tyX4_ok nmX4 ho.1 ho.2 (by decide) (show wq_cl[4]? = some (RX4, TX4, 9) from rfl) in_X4 (by decide) rfl (by decide +kernel) rfl rfl (by simp [wq_fl]) (by simp [wq_fl, wq_st]) (fun q hq => ⟨wq_st_ne hq, rfl⟩) hlink hd k
theorem pf_4_3 (h : wq_C g E Y cc nL own ret d) {p0 q0 : Nat} (ho : wq_o Y p0 4) {idx : Nat} (hlink : Cond.fieldLink own idx (TX4 3).1 (TX4 3).2.1 (TX4 3).2.2.1 ∈ wq_TB) (hd : decode cc pc = .ok (.putfield idx, 3)) (k : wq_g g E Y nL (pc + 3) lv st (wq_sr M p0 3 (some q0))) : wq_g g E Y nL pc lv (.ref (E.2.1 q0) :: .ref (E.2.1 p0) :: st) M :=
  wq_put h (M1 := wq_sr M p0 3 (some q0)) (ty := tyX4 3) tyX4 tyX4_ok nmX4 ho.1 ho.2 (by decide) (show wq_cl[4]? = some (RX4, TX4, 9) from rfl) in_X4 (by decide) rfl (by decide +kernel) rfl rfl (by simp [wq_fl]) (by simp [wq_fl, wq_sr, wq_rf, va_rf]) (fun q hq => ⟨rfl, wq_sr_ne hq⟩) hlink hd k
theorem pf_4_4 (h : wq_C g E Y cc nL own ret d) {p0 q0 : Nat} (ho : wq_o Y p0 4) {idx : Nat} (hlink : Cond.fieldLink own idx (TX4 4).1 (TX4 4).2.1 (TX4 4).2.2.1 ∈ wq_TB) (hd : decode cc pc = .ok (.putfield idx, 3)) (k : wq_g g E Y nL (pc + 3) lv st (wq_sr M p0 4 (some q0))) : wq_g g E Y nL pc lv (.ref (E.2.1 q0) :: .ref (E.2.1 p0) :: st) M :=
  wq_put h (M1 := wq_sr M p0 4 (some q0)) (ty := tyX4 4) tyX4 tyX4_ok nmX4 ho.1 ho.2 (by decide) (show wq_cl[4]? = some (RX4, TX4, 9) from rfl) in_X4 (by decide) rfl (by decide +kernel) rfl rfl (by simp [wq_fl]) (by simp [wq_fl, wq_sr, wq_rf, va_rf]) (fun q hq => ⟨rfl, wq_sr_ne hq⟩) hlink hd k
theorem pf_4_5 (h : wq_C g E Y cc nL own ret d) {p0 q0 : Nat} (ho : wq_o Y p0 4) {idx : Nat} (hlink : Cond.fieldLink own idx (TX4 5).1 (TX4 5).2.1 (TX4 5).2.2.1 ∈ wq_TB) (hd : decode cc pc = .ok (.putfield idx, 3)) (k : wq_g g E Y nL (pc + 3) lv st (wq_sr M p0 5 (some q0))) : wq_g g E Y nL pc lv (.ref (E.2.1 q0) :: .ref (E.2.1 p0) :: st) M :=
  wq_put h (M1 := wq_sr M p0 5 (some q0)) (ty := tyX4 5) tyX4 tyX4_ok nmX4 ho.1 ho.2 (by decide) (show wq_cl[4]? = some (RX4, TX4, 9) from rfl) in_X4 (by decide) rfl (by decide +kernel) rfl rfl (by simp [wq_fl]) (by simp [wq_fl, wq_sr, wq_rf, va_rf]) (fun q hq => ⟨rfl, wq_sr_ne hq⟩) hlink hd k
theorem pf_4_6 (h : wq_C g E Y cc nL own ret d) {p0 q0 : Nat} (ho : wq_o Y p0 4) {idx : Nat} (hlink : Cond.fieldLink own idx (TX4 6).1 (TX4 6).2.1 (TX4 6).2.2.1 ∈ wq_TB) (hd : decode cc pc = .ok (.putfield idx, 3)) (k : wq_g g E Y nL (pc + 3) lv st (wq_sr M p0 6 (some q0))) : wq_g g E Y nL pc lv (.ref (E.2.1 q0) :: .ref (E.2.1 p0) :: st) M :=
  wq_put h (M1 := wq_sr M p0 6 (some q0)) (ty := tyX4 6) tyX4 tyX4_ok nmX4 ho.1 ho.2 (by decide) (show wq_cl[4]? = some (RX4, TX4, 9) from rfl) in_X4 (by decide) rfl (by decide +kernel) rfl rfl (by simp [wq_fl]) (by simp [wq_fl, wq_sr, wq_rf, va_rf]) (fun q hq => ⟨rfl, wq_sr_ne hq⟩) hlink hd k
theorem pf_4_7 (h : wq_C g E Y cc nL own ret d) {p0 q0 : Nat} (ho : wq_o Y p0 4) {idx : Nat} (hlink : Cond.fieldLink own idx (TX4 7).1 (TX4 7).2.1 (TX4 7).2.2.1 ∈ wq_TB) (hd : decode cc pc = .ok (.putfield idx, 3)) (k : wq_g g E Y nL (pc + 3) lv st (wq_sr M p0 7 (some q0))) : wq_g g E Y nL pc lv (.ref (E.2.1 q0) :: .ref (E.2.1 p0) :: st) M :=
  wq_put h (M1 := wq_sr M p0 7 (some q0)) (ty := tyX4 7) tyX4 tyX4_ok nmX4 ho.1 ho.2 (by decide) (show wq_cl[4]? = some (RX4, TX4, 9) from rfl) in_X4 (by decide) rfl (by decide +kernel) rfl rfl (by simp [wq_fl]) (by simp [wq_fl, wq_sr, wq_rf, va_rf]) (fun q hq => ⟨rfl, wq_sr_ne hq⟩) hlink hd k
theorem pf_4_8 (h : wq_C g E Y cc nL own ret d) {p0 : Nat} (ho : wq_o Y p0 4) {idx : Nat} {x : Int32} (hlink : Cond.fieldLink own idx (TX4 8).1 (TX4 8).2.1 (TX4 8).2.2.1 ∈ wq_TB) (hd : decode cc pc = .ok (.putfield idx, 3)) (k : wq_g g E Y nL (pc + 3) lv st (wq_st M p0 8 x)) : wq_g g E Y nL pc lv (.int x :: .ref (E.2.1 p0) :: st) M :=
  wq_put h (ty := .int) tyX4 tyX4_ok nmX4 ho.1 ho.2 (by decide) (show wq_cl[4]? = some (RX4, TX4, 9) from rfl) in_X4 (by decide) rfl (by decide +kernel) rfl rfl (by simp [wq_fl]) (by simp [wq_fl, wq_st]) (fun q hq => ⟨wq_st_ne hq, rfl⟩) hlink hd k
theorem gf_5 (h : wq_C g E Y cc nL own ret d) {p0 : Nat} (ho : wq_o Y p0 5) (kf : Nat) {idx : Nat} (v : Value) (hkN : kf < 6) (hf : (wq_fl E.2.1 M p0 5)[kf]? = some v) (hlink : Cond.fieldLink own idx (TX5 kf).1 (TX5 kf).2.1 (TX5 kf).2.2.1 ∈ wq_TB) (hd : decode cc pc = .ok (.getfield idx, 3)) (k : wq_g g E Y nL (pc + 3) lv (v :: st) M) : wq_g g E Y nL pc lv (.ref (E.2.1 p0) :: st) M :=
  wq_get h ho.1 ho.2 (by decide) (show wq_cl[5]? = some (RX5, TX5, 6) from rfl) in_X5 hkN hf hlink hd k
theorem pf_5_0 (h : wq_C g E Y cc nL own ret d) {p0 : Nat} (ho : wq_o Y p0 5) {idx : Nat} {x : Int32} (hlink : Cond.fieldLink own idx (TX5 0).1 (TX5 0).2.1 (TX5 0).2.2.1 ∈ wq_TB) (hd : decode cc pc = .ok (.putfield idx, 3)) (k : wq_g g E Y nL (pc + 3) lv st (wq_st M p0 0 x)) : wq_g g E Y nL pc lv (.int x :: .ref (E.2.1 p0) :: st) M :=
  wq_put h (ty := .int) tyX5 tyX5_ok nmX5 ho.1 ho.2 (by decide) (show wq_cl[5]? = some (RX5, TX5, 6) from rfl) in_X5 (by decide) rfl (by decide +kernel) rfl rfl (by simp [wq_fl]) (by simp [wq_fl, wq_st]) (fun q hq => ⟨wq_st_ne hq, rfl⟩) hlink hd k
theorem pf_5_1 (h : wq_C g E Y cc nL own ret d) {p0 : Nat} (ho : wq_o Y p0 5) {idx : Nat} {x : Int32} (hlink : Cond.fieldLink own idx (TX5 1).1 (TX5 1).2.1 (TX5 1).2.2.1 ∈ wq_TB) (hd : decode cc pc = .ok (.putfield idx, 3)) (k : wq_g g E Y nL (pc + 3) lv st (wq_st M p0 1 x)) : wq_g g E Y nL pc lv (.int x :: .ref (E.2.1 p0) :: st) M :=
  wq_put h (ty := .int) tyX5 tyX5_ok nmX5 ho.1 ho.2 (by decide) (show wq_cl[5]? = some (RX5, TX5, 6) from rfl) in_X5 (by decide) rfl (by decide +kernel) rfl rfl (by simp [wq_fl]) (by simp [wq_fl, wq_st]) (fun q hq => ⟨wq_st_ne hq, rfl⟩) hlink hd k
theorem gf_6 (h : wq_C g E Y cc nL own ret d) {p0 : Nat} (ho : wq_o Y p0 6) (kf : Nat) {idx : Nat} (v : Value) (hkN : kf < 9) (hf : (wq_fl E.2.1 M p0 6)[kf]? = some v) (hlink : Cond.fieldLink own idx (TX6 kf).1 (TX6 kf).2.1 (TX6 kf).2.2.1 ∈ wq_TB) (hd : decode cc pc = .ok (.getfield idx, 3)) (k : wq_g g E Y nL (pc + 3) lv (v :: st) M) : wq_g g E Y nL pc lv (.ref (E.2.1 p0) :: st) M :=
  wq_get h ho.1 ho.2 (by decide) (show wq_cl[6]? = some (RX6, TX6, 9) from rfl) in_X6 hkN hf hlink hd k
theorem pf_6_8 (h : wq_C g E Y cc nL own ret d) {p0 : Nat} (ho : wq_o Y p0 6) {idx : Nat} {x : Int32} (hlink : Cond.fieldLink own idx (TX6 8).1 (TX6 8).2.1 (TX6 8).2.2.1 ∈ wq_TB) (hd : decode cc pc = .ok (.putfield idx, 3)) (k : wq_g g E Y nL (pc + 3) lv st (wq_st M p0 8 x)) : wq_g g E Y nL pc lv (.int x :: .ref (E.2.1 p0) :: st) M :=
  wq_put h (ty := .int) tyX6 tyX6_ok nmX6 ho.1 ho.2 (by decide) (show wq_cl[6]? = some (RX6, TX6, 9) from rfl) in_X6 (by decide) rfl (by decide +kernel) rfl rfl (by simp [wq_fl]) (by simp [wq_fl, wq_st]) (fun q hq => ⟨wq_st_ne hq, rfl⟩) hlink hd k
theorem gf_7 (h : wq_C g E Y cc nL own ret d) {p0 : Nat} (ho : wq_o Y p0 7) (kf : Nat) {idx : Nat} (v : Value) (hkN : kf < 26) (hf : (wq_fl E.2.1 M p0 7)[kf]? = some v) (hlink : Cond.fieldLink own idx (TX7 kf).1 (TX7 kf).2.1 (TX7 kf).2.2.1 ∈ wq_TB) (hd : decode cc pc = .ok (.getfield idx, 3)) (k : wq_g g E Y nL (pc + 3) lv (v :: st) M) : wq_g g E Y nL pc lv (.ref (E.2.1 p0) :: st) M :=
  wq_get h ho.1 ho.2 (by decide) (show wq_cl[7]? = some (RX7, TX7, 26) from rfl) in_X7 hkN hf hlink hd k
theorem pf_7_0 (h : wq_C g E Y cc nL own ret d) {p0 : Nat} (ho : wq_o Y p0 7) {idx : Nat} {x : Int32} (hlink : Cond.fieldLink own idx (TX7 0).1 (TX7 0).2.1 (TX7 0).2.2.1 ∈ wq_TB) (hd : decode cc pc = .ok (.putfield idx, 3)) (k : wq_g g E Y nL (pc + 3) lv st (wq_st M p0 0 x)) : wq_g g E Y nL pc lv (.int x :: .ref (E.2.1 p0) :: st) M :=
  wq_put h (ty := .int) tyX7 tyX7_ok nmX7 ho.1 ho.2 (by decide) (show wq_cl[7]? = some (RX7, TX7, 26) from rfl) in_X7 (by decide) rfl (by decide +kernel) rfl rfl (by simp [wq_fl]) (by simp [wq_fl, wq_st]) (fun q hq => ⟨wq_st_ne hq, rfl⟩) hlink hd k
theorem pf_7_1 (h : wq_C g E Y cc nL own ret d) {p0 : Nat} (ho : wq_o Y p0 7) {idx : Nat} {x : Int32} (hlink : Cond.fieldLink own idx (TX7 1).1 (TX7 1).2.1 (TX7 1).2.2.1 ∈ wq_TB) (hd : decode cc pc = .ok (.putfield idx, 3)) (k : wq_g g E Y nL (pc + 3) lv st (wq_st M p0 1 x)) : wq_g g E Y nL pc lv (.int x :: .ref (E.2.1 p0) :: st) M :=
  wq_put h (ty := .int) tyX7 tyX7_ok nmX7 ho.1 ho.2 (by decide) (show wq_cl[7]? = some (RX7, TX7, 26) from rfl) in_X7 (by decide) rfl (by decide +kernel) rfl rfl (by simp [wq_fl]) (by simp [wq_fl, wq_st]) (fun q hq => ⟨wq_st_ne hq, rfl⟩) hlink hd k
theorem pf_7_9 (h : wq_C g E Y cc nL own ret d) {p0 : Nat} (ho : wq_o Y p0 7) {idx : Nat} {x : Int32} (hlink : Cond.fieldLink own idx (TX7 9).1 (TX7 9).2.1 (TX7 9).2.2.1 ∈ wq_TB) (hd : decode cc pc = .ok (.putfield idx, 3)) (k : wq_g g E Y nL (pc + 3) lv st (wq_st M p0 9 x)) : wq_g g E Y nL pc lv (.int x :: .ref (E.2.1 p0) :: st) M :=
  wq_put h (ty := .int) tyX7 tyX7_ok nmX7 ho.1 ho.2 (by decide) (show wq_cl[7]? = some (RX7, TX7, 26) from rfl) in_X7 (by decide) rfl (by decide +kernel) rfl rfl (by simp [wq_fl]) (by simp [wq_fl, wq_st]) (fun q hq => ⟨wq_st_ne hq, rfl⟩) hlink hd k
theorem pf_7_11 (h : wq_C g E Y cc nL own ret d) {p0 : Nat} (ho : wq_o Y p0 7) {idx : Nat} {x : Int32} (hlink : Cond.fieldLink own idx (TX7 11).1 (TX7 11).2.1 (TX7 11).2.2.1 ∈ wq_TB) (hd : decode cc pc = .ok (.putfield idx, 3)) (k : wq_g g E Y nL (pc + 3) lv st (wq_st M p0 11 x)) : wq_g g E Y nL pc lv (.int x :: .ref (E.2.1 p0) :: st) M :=
  wq_put h (ty := .int) tyX7 tyX7_ok nmX7 ho.1 ho.2 (by decide) (show wq_cl[7]? = some (RX7, TX7, 26) from rfl) in_X7 (by decide) rfl (by decide +kernel) rfl rfl (by simp [wq_fl]) (by simp [wq_fl, wq_st]) (fun q hq => ⟨wq_st_ne hq, rfl⟩) hlink hd k
theorem pf_7_12 (h : wq_C g E Y cc nL own ret d) {p0 : Nat} (ho : wq_o Y p0 7) {idx : Nat} {x : Int32} (hlink : Cond.fieldLink own idx (TX7 12).1 (TX7 12).2.1 (TX7 12).2.2.1 ∈ wq_TB) (hd : decode cc pc = .ok (.putfield idx, 3)) (k : wq_g g E Y nL (pc + 3) lv st (wq_st M p0 12 x)) : wq_g g E Y nL pc lv (.int x :: .ref (E.2.1 p0) :: st) M :=
  wq_put h (ty := .int) tyX7 tyX7_ok nmX7 ho.1 ho.2 (by decide) (show wq_cl[7]? = some (RX7, TX7, 26) from rfl) in_X7 (by decide) rfl (by decide +kernel) rfl rfl (by simp [wq_fl]) (by simp [wq_fl, wq_st]) (fun q hq => ⟨wq_st_ne hq, rfl⟩) hlink hd k
theorem pf_7_13 (h : wq_C g E Y cc nL own ret d) {p0 : Nat} (ho : wq_o Y p0 7) {idx : Nat} {x : Int32} (hlink : Cond.fieldLink own idx (TX7 13).1 (TX7 13).2.1 (TX7 13).2.2.1 ∈ wq_TB) (hd : decode cc pc = .ok (.putfield idx, 3)) (k : wq_g g E Y nL (pc + 3) lv st (wq_st M p0 13 x)) : wq_g g E Y nL pc lv (.int x :: .ref (E.2.1 p0) :: st) M :=
  wq_put h (ty := .int) tyX7 tyX7_ok nmX7 ho.1 ho.2 (by decide) (show wq_cl[7]? = some (RX7, TX7, 26) from rfl) in_X7 (by decide) rfl (by decide +kernel) rfl rfl (by simp [wq_fl]) (by simp [wq_fl, wq_st]) (fun q hq => ⟨wq_st_ne hq, rfl⟩) hlink hd k
theorem pf_7_14 (h : wq_C g E Y cc nL own ret d) {p0 : Nat} (ho : wq_o Y p0 7) {idx : Nat} {x : Int32} (hlink : Cond.fieldLink own idx (TX7 14).1 (TX7 14).2.1 (TX7 14).2.2.1 ∈ wq_TB) (hd : decode cc pc = .ok (.putfield idx, 3)) (k : wq_g g E Y nL (pc + 3) lv st (wq_st M p0 14 x)) : wq_g g E Y nL pc lv (.int x :: .ref (E.2.1 p0) :: st) M :=
  wq_put h (ty := .int) tyX7 tyX7_ok nmX7 ho.1 ho.2 (by decide) (show wq_cl[7]? = some (RX7, TX7, 26) from rfl) in_X7 (by decide) rfl (by decide +kernel) rfl rfl (by simp [wq_fl]) (by simp [wq_fl, wq_st]) (fun q hq => ⟨wq_st_ne hq, rfl⟩) hlink hd k
theorem pf_7_15 (h : wq_C g E Y cc nL own ret d) {p0 : Nat} (ho : wq_o Y p0 7) {idx : Nat} {x : Int32} (hlink : Cond.fieldLink own idx (TX7 15).1 (TX7 15).2.1 (TX7 15).2.2.1 ∈ wq_TB) (hd : decode cc pc = .ok (.putfield idx, 3)) (k : wq_g g E Y nL (pc + 3) lv st (wq_st M p0 15 x)) : wq_g g E Y nL pc lv (.int x :: .ref (E.2.1 p0) :: st) M :=
  wq_put h (ty := .int) tyX7 tyX7_ok nmX7 ho.1 ho.2 (by decide) (show wq_cl[7]? = some (RX7, TX7, 26) from rfl) in_X7 (by decide) rfl (by decide +kernel) rfl rfl (by simp [wq_fl]) (by simp [wq_fl, wq_st]) (fun q hq => ⟨wq_st_ne hq, rfl⟩) hlink hd k
theorem pf_7_16 (h : wq_C g E Y cc nL own ret d) {p0 : Nat} (ho : wq_o Y p0 7) {idx : Nat} {x : Int32} (hlink : Cond.fieldLink own idx (TX7 16).1 (TX7 16).2.1 (TX7 16).2.2.1 ∈ wq_TB) (hd : decode cc pc = .ok (.putfield idx, 3)) (k : wq_g g E Y nL (pc + 3) lv st (wq_st M p0 16 x)) : wq_g g E Y nL pc lv (.int x :: .ref (E.2.1 p0) :: st) M :=
  wq_put h (ty := .int) tyX7 tyX7_ok nmX7 ho.1 ho.2 (by decide) (show wq_cl[7]? = some (RX7, TX7, 26) from rfl) in_X7 (by decide) rfl (by decide +kernel) rfl rfl (by simp [wq_fl]) (by simp [wq_fl, wq_st]) (fun q hq => ⟨wq_st_ne hq, rfl⟩) hlink hd k
theorem pf_7_17 (h : wq_C g E Y cc nL own ret d) {p0 : Nat} (ho : wq_o Y p0 7) {idx : Nat} {x : Int32} (hlink : Cond.fieldLink own idx (TX7 17).1 (TX7 17).2.1 (TX7 17).2.2.1 ∈ wq_TB) (hd : decode cc pc = .ok (.putfield idx, 3)) (k : wq_g g E Y nL (pc + 3) lv st (wq_st M p0 17 x)) : wq_g g E Y nL pc lv (.int x :: .ref (E.2.1 p0) :: st) M :=
  wq_put h (ty := .int) tyX7 tyX7_ok nmX7 ho.1 ho.2 (by decide) (show wq_cl[7]? = some (RX7, TX7, 26) from rfl) in_X7 (by decide) rfl (by decide +kernel) rfl rfl (by simp [wq_fl]) (by simp [wq_fl, wq_st]) (fun q hq => ⟨wq_st_ne hq, rfl⟩) hlink hd k
theorem pf_7_18 (h : wq_C g E Y cc nL own ret d) {p0 : Nat} (ho : wq_o Y p0 7) {idx : Nat} {x : Int32} (hlink : Cond.fieldLink own idx (TX7 18).1 (TX7 18).2.1 (TX7 18).2.2.1 ∈ wq_TB) (hd : decode cc pc = .ok (.putfield idx, 3)) (k : wq_g g E Y nL (pc + 3) lv st (wq_st M p0 18 x)) : wq_g g E Y nL pc lv (.int x :: .ref (E.2.1 p0) :: st) M :=
  wq_put h (ty := .int) tyX7 tyX7_ok nmX7 ho.1 ho.2 (by decide) (show wq_cl[7]? = some (RX7, TX7, 26) from rfl) in_X7 (by decide) rfl (by decide +kernel) rfl rfl (by simp [wq_fl]) (by simp [wq_fl, wq_st]) (fun q hq => ⟨wq_st_ne hq, rfl⟩) hlink hd k
theorem pf_7_25 (h : wq_C g E Y cc nL own ret d) {p0 : Nat} (ho : wq_o Y p0 7) {idx : Nat} {x : Int32} (hlink : Cond.fieldLink own idx (TX7 25).1 (TX7 25).2.1 (TX7 25).2.2.1 ∈ wq_TB) (hd : decode cc pc = .ok (.putfield idx, 3)) (k : wq_g g E Y nL (pc + 3) lv st (wq_st M p0 25 x)) : wq_g g E Y nL pc lv (.int x :: .ref (E.2.1 p0) :: st) M :=
  wq_put h (ty := .int) tyX7 tyX7_ok nmX7 ho.1 ho.2 (by decide) (show wq_cl[7]? = some (RX7, TX7, 26) from rfl) in_X7 (by decide) rfl (by decide +kernel) rfl rfl (by simp [wq_fl]) (by simp [wq_fl, wq_st]) (fun q hq => ⟨wq_st_ne hq, rfl⟩) hlink hd k
theorem wq_ald (h : wq_C g E Y cc nL own ret d) {p0 n : Nat} {i : Int32} (ha : wq_a Y p0 n) (hin : wq_in i n = true) (hd : decode cc pc = .ok (.iaload, 1)) (k : wq_g g E Y nL (pc + 1) lv (.int (M.1 p0 i.toNatClampNeg) :: st) M) : wq_g g E Y nL pc lv (.int i :: .ref (E.2.1 p0) :: st) M := wq_iald h ha.1 ha.2.1 ha.2.2 hin hd k
theorem wq_ast (h : wq_C g E Y cc nL own ret d) {p0 n : Nat} {i x : Int32} (ha : wq_a Y p0 n) (hin : wq_in i n = true) (hd : decode cc pc = .ok (.iastore, 1)) (k : wq_g g E Y nL (pc + 1) lv st (wq_st M p0 i.toNatClampNeg x)) : wq_g g E Y nL pc lv (.int x :: .int i :: .ref (E.2.1 p0) :: st) M := wq_iast h ha.1 ha.2.1 ha.2.2 hin hd k
def wq_cpk (sp dp n : Int32) (n0 n1 : Nat) : Bool := decide (0 ≤ sp) && decide (0 ≤ dp) && decide (0 ≤ n) && decide (sp.toNatClampNeg + n.toNatClampNeg ≤ n0) && decide (dp.toNatClampNeg + n.toNatClampNeg ≤ n1)
theorem wq_acp (h : wq_C g E Y cc nL own ret d) {p0 p1 n0 n1 idx : Nat} {sp dp n : Int32} (hlink : Cond.methodLink own idx arraycopyName ∈ wq_TB) (ha0 : wq_a Y p0 n0) (ha1 : wq_a Y p1 n1) (hz : wq_cpk sp dp n n0 n1 = true) (hst : (st.map fun v => v.category).sum ≤ 8) (hd : decode cc pc = .ok (.invokestatic idx, 3)) (k : wq_g g E Y nL (pc + 3) lv st (wq_cp M p0 sp.toNatClampNeg p1 dp.toNatClampNeg n.toNatClampNeg)) : wq_g g E Y nL pc lv (.int n :: .int dp :: .ref (E.2.1 p1) :: .int sp :: .ref (E.2.1 p0) :: st) M := by
  simp only [wq_cpk, Bool.and_eq_true, decide_eq_true_eq] at hz
  obtain ⟨⟨⟨⟨h1, h2⟩, h3⟩, h4⟩, h5⟩ := hz
  exact wq_copy h hlink tw_309 tw_308 tw_60 ha0.1 ha0.2.1 ha0.2.2 ha1.1 ha1.2.1 ha1.2.2 (Int32.not_lt.mpr h1) (Int32.not_lt.mpr h2) (Int32.not_lt.mpr h3) h4 h5 hst hd k
theorem gm_1_2 {ad : Nat → Nat} {p q : Nat} (h : M.2 p 2 = some q) : (wq_fl ad M p 1)[2]? = some (.ref (ad q)) := by
  simp [wq_fl, h, wq_rf, va_rf]
theorem gm_4_3 {ad : Nat → Nat} {p q : Nat} (h : M.2 p 3 = some q) : (wq_fl ad M p 4)[3]? = some (.ref (ad q)) := by
  simp [wq_fl, h, wq_rf, va_rf]
theorem gm_4_4 {ad : Nat → Nat} {p q : Nat} (h : M.2 p 4 = some q) : (wq_fl ad M p 4)[4]? = some (.ref (ad q)) := by
  simp [wq_fl, h, wq_rf, va_rf]
theorem gm_4_5 {ad : Nat → Nat} {p q : Nat} (h : M.2 p 5 = some q) : (wq_fl ad M p 4)[5]? = some (.ref (ad q)) := by
  simp [wq_fl, h, wq_rf, va_rf]
theorem gm_4_6 {ad : Nat → Nat} {p q : Nat} (h : M.2 p 6 = some q) : (wq_fl ad M p 4)[6]? = some (.ref (ad q)) := by
  simp [wq_fl, h, wq_rf, va_rf]
theorem gm_4_7 {ad : Nat → Nat} {p q : Nat} (h : M.2 p 7 = some q) : (wq_fl ad M p 4)[7]? = some (.ref (ad q)) := by
  simp [wq_fl, h, wq_rf, va_rf]
theorem cv_0 (h : wq_C g E Y cc nL own ret d) {p0 idx n d' nM : Nat} {y : MethodName} {cb : ByteArray} {rt : Option FieldType} {As : List Value} {r : Option Value} {M1 : wq_M} (hct : wq_ct g.2.2.2.1 E Y y cb nM rt d' (.ref (E.2.1 p0) :: As) M r M1) (hd' : d' < d) (hnM : nM ≤ 45) (ho : wq_o Y p0 0) (hyc : y.cls = RX0) (hn : As.length = n) (hnp : y.cls ≠ "java/lang/invoke/MethodHandle" ∧ y.cls ≠ "java/lang/invoke/VarHandle" ∧ (parseMethodDescriptor y.desc).map (fun d => d.parameters.length) = some n) (w1 : Cond.methodLink own idx y ∈ wq_TB) (w2 : Cond.instanceMethod y ∈ wq_TB) (w3 : Cond.selects RX0 y y ∈ wq_TB) (w5 : Cond.code y cb nM rt ∈ wq_TB) (hst : (st.map fun v => v.category).sum ≤ 8) {st0 : List Value} (hs0 : st0 = As.reverse ++ .ref (E.2.1 p0) :: st) (hd : decode cc pc = .ok (.invokevirtual idx, 3)) {st1 : List Value} (hs1 : r.toList ++ st = st1) (k : wq_g g E Y nL (pc + 3) lv st1 M1) : wq_g g E Y nL pc lv st0 M :=
  wq_callV h hct hd' hnM ho.1 ho.2 (by decide) (show wq_cl[0]? = some (RX0, TX0, 3) from rfl) hyc hn hnp w1 w2 w3 tw_55 w5 hst hs0 hd hs1 k
theorem cv_1 (h : wq_C g E Y cc nL own ret d) {p0 idx n d' nM : Nat} {y : MethodName} {cb : ByteArray} {rt : Option FieldType} {As : List Value} {r : Option Value} {M1 : wq_M} (hct : wq_ct g.2.2.2.1 E Y y cb nM rt d' (.ref (E.2.1 p0) :: As) M r M1) (hd' : d' < d) (hnM : nM ≤ 45) (ho : wq_o Y p0 1) (hyc : y.cls = RX1) (hn : As.length = n) (hnp : y.cls ≠ "java/lang/invoke/MethodHandle" ∧ y.cls ≠ "java/lang/invoke/VarHandle" ∧ (parseMethodDescriptor y.desc).map (fun d => d.parameters.length) = some n) (w1 : Cond.methodLink own idx y ∈ wq_TB) (w2 : Cond.instanceMethod y ∈ wq_TB) (w3 : Cond.selects RX1 y y ∈ wq_TB) (w5 : Cond.code y cb nM rt ∈ wq_TB) (hst : (st.map fun v => v.category).sum ≤ 8) {st0 : List Value} (hs0 : st0 = As.reverse ++ .ref (E.2.1 p0) :: st) (hd : decode cc pc = .ok (.invokevirtual idx, 3)) {st1 : List Value} (hs1 : r.toList ++ st = st1) (k : wq_g g E Y nL (pc + 3) lv st1 M1) : wq_g g E Y nL pc lv st0 M :=
  wq_callV h hct hd' hnM ho.1 ho.2 (by decide) (show wq_cl[1]? = some (RX1, TX1, 4) from rfl) hyc hn hnp w1 w2 w3 tw_56 w5 hst hs0 hd hs1 k
theorem cv_2 (h : wq_C g E Y cc nL own ret d) {p0 idx n d' nM : Nat} {y : MethodName} {cb : ByteArray} {rt : Option FieldType} {As : List Value} {r : Option Value} {M1 : wq_M} (hct : wq_ct g.2.2.2.1 E Y y cb nM rt d' (.ref (E.2.1 p0) :: As) M r M1) (hd' : d' < d) (hnM : nM ≤ 45) (ho : wq_o Y p0 2) (hyc : y.cls = RX2) (hn : As.length = n) (hnp : y.cls ≠ "java/lang/invoke/MethodHandle" ∧ y.cls ≠ "java/lang/invoke/VarHandle" ∧ (parseMethodDescriptor y.desc).map (fun d => d.parameters.length) = some n) (w1 : Cond.methodLink own idx y ∈ wq_TB) (w2 : Cond.instanceMethod y ∈ wq_TB) (w3 : Cond.selects RX2 y y ∈ wq_TB) (w5 : Cond.code y cb nM rt ∈ wq_TB) (hst : (st.map fun v => v.category).sum ≤ 8) {st0 : List Value} (hs0 : st0 = As.reverse ++ .ref (E.2.1 p0) :: st) (hd : decode cc pc = .ok (.invokevirtual idx, 3)) {st1 : List Value} (hs1 : r.toList ++ st = st1) (k : wq_g g E Y nL (pc + 3) lv st1 M1) : wq_g g E Y nL pc lv st0 M :=
  wq_callV h hct hd' hnM ho.1 ho.2 (by decide) (show wq_cl[2]? = some (RX2, TX2, 6) from rfl) hyc hn hnp w1 w2 w3 tw_52 w5 hst hs0 hd hs1 k
theorem cv_3 (h : wq_C g E Y cc nL own ret d) {p0 idx n d' nM : Nat} {y : MethodName} {cb : ByteArray} {rt : Option FieldType} {As : List Value} {r : Option Value} {M1 : wq_M} (hct : wq_ct g.2.2.2.1 E Y y cb nM rt d' (.ref (E.2.1 p0) :: As) M r M1) (hd' : d' < d) (hnM : nM ≤ 45) (ho : wq_o Y p0 3) (hyc : y.cls = RX3) (hn : As.length = n) (hnp : y.cls ≠ "java/lang/invoke/MethodHandle" ∧ y.cls ≠ "java/lang/invoke/VarHandle" ∧ (parseMethodDescriptor y.desc).map (fun d => d.parameters.length) = some n) (w1 : Cond.methodLink own idx y ∈ wq_TB) (w2 : Cond.instanceMethod y ∈ wq_TB) (w3 : Cond.selects RX3 y y ∈ wq_TB) (w5 : Cond.code y cb nM rt ∈ wq_TB) (hst : (st.map fun v => v.category).sum ≤ 8) {st0 : List Value} (hs0 : st0 = As.reverse ++ .ref (E.2.1 p0) :: st) (hd : decode cc pc = .ok (.invokevirtual idx, 3)) {st1 : List Value} (hs1 : r.toList ++ st = st1) (k : wq_g g E Y nL (pc + 3) lv st1 M1) : wq_g g E Y nL pc lv st0 M :=
  wq_callV h hct hd' hnM ho.1 ho.2 (by decide) (show wq_cl[3]? = some (RX3, TX3, 3) from rfl) hyc hn hnp w1 w2 w3 tw_57 w5 hst hs0 hd hs1 k
theorem cv_4 (h : wq_C g E Y cc nL own ret d) {p0 idx n d' nM : Nat} {y : MethodName} {cb : ByteArray} {rt : Option FieldType} {As : List Value} {r : Option Value} {M1 : wq_M} (hct : wq_ct g.2.2.2.1 E Y y cb nM rt d' (.ref (E.2.1 p0) :: As) M r M1) (hd' : d' < d) (hnM : nM ≤ 45) (ho : wq_o Y p0 4) (hyc : y.cls = RX4) (hn : As.length = n) (hnp : y.cls ≠ "java/lang/invoke/MethodHandle" ∧ y.cls ≠ "java/lang/invoke/VarHandle" ∧ (parseMethodDescriptor y.desc).map (fun d => d.parameters.length) = some n) (w1 : Cond.methodLink own idx y ∈ wq_TB) (w2 : Cond.instanceMethod y ∈ wq_TB) (w3 : Cond.selects RX4 y y ∈ wq_TB) (w5 : Cond.code y cb nM rt ∈ wq_TB) (hst : (st.map fun v => v.category).sum ≤ 8) {st0 : List Value} (hs0 : st0 = As.reverse ++ .ref (E.2.1 p0) :: st) (hd : decode cc pc = .ok (.invokevirtual idx, 3)) {st1 : List Value} (hs1 : r.toList ++ st = st1) (k : wq_g g E Y nL (pc + 3) lv st1 M1) : wq_g g E Y nL pc lv st0 M :=
  wq_callV h hct hd' hnM ho.1 ho.2 (by decide) (show wq_cl[4]? = some (RX4, TX4, 9) from rfl) hyc hn hnp w1 w2 w3 tw_54 w5 hst hs0 hd hs1 k
theorem cv_5 (h : wq_C g E Y cc nL own ret d) {p0 idx n d' nM : Nat} {y : MethodName} {cb : ByteArray} {rt : Option FieldType} {As : List Value} {r : Option Value} {M1 : wq_M} (hct : wq_ct g.2.2.2.1 E Y y cb nM rt d' (.ref (E.2.1 p0) :: As) M r M1) (hd' : d' < d) (hnM : nM ≤ 45) (ho : wq_o Y p0 5) (hyc : y.cls = RX5) (hn : As.length = n) (hnp : y.cls ≠ "java/lang/invoke/MethodHandle" ∧ y.cls ≠ "java/lang/invoke/VarHandle" ∧ (parseMethodDescriptor y.desc).map (fun d => d.parameters.length) = some n) (w1 : Cond.methodLink own idx y ∈ wq_TB) (w2 : Cond.instanceMethod y ∈ wq_TB) (w3 : Cond.selects RX5 y y ∈ wq_TB) (w5 : Cond.code y cb nM rt ∈ wq_TB) (hst : (st.map fun v => v.category).sum ≤ 8) {st0 : List Value} (hs0 : st0 = As.reverse ++ .ref (E.2.1 p0) :: st) (hd : decode cc pc = .ok (.invokevirtual idx, 3)) {st1 : List Value} (hs1 : r.toList ++ st = st1) (k : wq_g g E Y nL (pc + 3) lv st1 M1) : wq_g g E Y nL pc lv st0 M :=
  wq_callV h hct hd' hnM ho.1 ho.2 (by decide) (show wq_cl[5]? = some (RX5, TX5, 6) from rfl) hyc hn hnp w1 w2 w3 tw_53 w5 hst hs0 hd hs1 k
theorem cv_6 (h : wq_C g E Y cc nL own ret d) {p0 idx n d' nM : Nat} {y : MethodName} {cb : ByteArray} {rt : Option FieldType} {As : List Value} {r : Option Value} {M1 : wq_M} (hct : wq_ct g.2.2.2.1 E Y y cb nM rt d' (.ref (E.2.1 p0) :: As) M r M1) (hd' : d' < d) (hnM : nM ≤ 45) (ho : wq_o Y p0 6) (hyc : y.cls = RX6) (hn : As.length = n) (hnp : y.cls ≠ "java/lang/invoke/MethodHandle" ∧ y.cls ≠ "java/lang/invoke/VarHandle" ∧ (parseMethodDescriptor y.desc).map (fun d => d.parameters.length) = some n) (w1 : Cond.methodLink own idx y ∈ wq_TB) (w2 : Cond.instanceMethod y ∈ wq_TB) (w3 : Cond.selects RX6 y y ∈ wq_TB) (w5 : Cond.code y cb nM rt ∈ wq_TB) (hst : (st.map fun v => v.category).sum ≤ 8) {st0 : List Value} (hs0 : st0 = As.reverse ++ .ref (E.2.1 p0) :: st) (hd : decode cc pc = .ok (.invokevirtual idx, 3)) {st1 : List Value} (hs1 : r.toList ++ st = st1) (k : wq_g g E Y nL (pc + 3) lv st1 M1) : wq_g g E Y nL pc lv st0 M :=
  wq_callV h hct hd' hnM ho.1 ho.2 (by decide) (show wq_cl[6]? = some (RX6, TX6, 9) from rfl) hyc hn hnp w1 w2 w3 tw_51 w5 hst hs0 hd hs1 k
theorem cv_7 (h : wq_C g E Y cc nL own ret d) {p0 idx n d' nM : Nat} {y : MethodName} {cb : ByteArray} {rt : Option FieldType} {As : List Value} {r : Option Value} {M1 : wq_M} (hct : wq_ct g.2.2.2.1 E Y y cb nM rt d' (.ref (E.2.1 p0) :: As) M r M1) (hd' : d' < d) (hnM : nM ≤ 45) (ho : wq_o Y p0 7) (hyc : y.cls = RX7) (hn : As.length = n) (hnp : y.cls ≠ "java/lang/invoke/MethodHandle" ∧ y.cls ≠ "java/lang/invoke/VarHandle" ∧ (parseMethodDescriptor y.desc).map (fun d => d.parameters.length) = some n) (w1 : Cond.methodLink own idx y ∈ wq_TB) (w2 : Cond.instanceMethod y ∈ wq_TB) (w3 : Cond.selects RX7 y y ∈ wq_TB) (w5 : Cond.code y cb nM rt ∈ wq_TB) (hst : (st.map fun v => v.category).sum ≤ 8) {st0 : List Value} (hs0 : st0 = As.reverse ++ .ref (E.2.1 p0) :: st) (hd : decode cc pc = .ok (.invokevirtual idx, 3)) {st1 : List Value} (hs1 : r.toList ++ st = st1) (k : wq_g g E Y nL (pc + 3) lv st1 M1) : wq_g g E Y nL pc lv st0 M :=
  wq_callV h hct hd' hnM ho.1 ho.2 (by decide) (show wq_cl[7]? = some (RX7, TX7, 26) from rfl) hyc hn hnp w1 w2 w3 tw_58 w5 hst hs0 hd hs1 k
theorem wq_aL {p n : Nat} (h : wq_a Y p n) : wq_a Y p (Y.2.2 p) := ⟨h.1, h.2.1, rfl⟩
theorem wq_mmax (h : wq_C g E Y cc nL own ret d) {idx : Nat} {x y : Int32} (hlink : Cond.methodLink own idx Lib.Math.max.name ∈ wq_TB) (hst : (st.map fun v => v.category).sum ≤ 8) (hd : decode cc pc = .ok (.invokestatic idx, 3)) (k : wq_g g E Y nL (pc + 3) lv (.int (if x < y then y else x) :: st) M) : wq_g g E Y nL pc lv (.int y :: .int x :: st) M := by
  obtain ⟨r0, M0, p, l, e, R, s, m, args, below, meth, c⟩ := g
  obtain ⟨hx, hb, hml, hown, hts, hK, hi, hS, hlk, hr, rfl⟩ := h
  intro H ls locs hl hP hW
  exact va_mmax hx hb (by rw [hml, hl.1]) hown (hts _ hlink) (hts _ tw_440) (hts _ tw_61) (hts _ tw_441) (by show 1 ≤ d + 1; omega) (by show _ + 13 ≤ 64 * (d + 1); omega) (Nat.le_refl 0) (Nat.le_refl 0) hd (k H ls locs hl hP hW)
theorem wq_mmin (h : wq_C g E Y cc nL own ret d) {idx : Nat} {x y : Int32} (hlink : Cond.methodLink own idx Lib.Math.min.name ∈ wq_TB) (hst : (st.map fun v => v.category).sum ≤ 8) (hd : decode cc pc = .ok (.invokestatic idx, 3)) (k : wq_g g E Y nL (pc + 3) lv (.int (if y < x then y else x) :: st) M) : wq_g g E Y nL pc lv (.int y :: .int x :: st) M := by
  obtain ⟨r0, M0, p, l, e, R, s, m, args, below, meth, c⟩ := g
  obtain ⟨hx, hb, hml, hown, hts, hK, hi, hS, hlk, hr, rfl⟩ := h
  intro H ls locs hl hP hW
  exact va_mmin hx hb (by rw [hml, hl.1]) hown (hts _ hlink) (hts _ tw_437) (hts _ tw_61) (hts _ tw_438) (by show 1 ≤ d + 1; omega) (by show _ + 13 ≤ 64 * (d + 1); omega) (Nat.le_refl 0) (Nat.le_refl 0) hd (k H ls locs hl hP hW)
theorem wq_mlmax (h : wq_C g E Y cc nL own ret d) {idx : Nat} {x y : Int64} (hlink : Cond.methodLink own idx Lib.MathLoose.max_long.x ∈ wq_TB) (hst : (st.map fun v => v.category).sum ≤ 8) (hd : decode cc pc = .ok (.invokestatic idx, 3)) (k : wq_g g E Y nL (pc + 3) lv (.long (if y < x then x else y) :: st) M) : wq_g g E Y nL pc lv (.long y :: .long x :: st) M := by
  obtain ⟨r0, M0, p, l, e, R, s, m, args, below, meth, c⟩ := g
  obtain ⟨hx, hb, hml, hown, hts, hK, hi, hS, hlk, hr, rfl⟩ := h
  intro H ls locs hl hP hW
  exact va_mmax_long hx hb (by rw [hml, hl.1]) hown (hts _ hlink) (hts _ tw_632) (hts _ tw_61) (hts _ tw_633) (by show 1 ≤ d + 1; omega) (by show _ + 15 ≤ 64 * (d + 1); omega) (Nat.le_refl 0) (Nat.le_refl 0) hd (k H ls locs hl hP hW)
end WL
