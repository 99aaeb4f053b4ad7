
abbrev wq_M : Type := (Nat → Nat → Int32) × (Nat → Nat → Option Nat)
def wq_st (M : wq_M) (p k : Nat) (v : Int32) : wq_M := (fun q j => if q = p then (if j = k then v else M.1 q j) else M.1 q j, M.2)
def wq_sr (M : wq_M) (p k : Nat) (v : Option Nat) : wq_M := (M.1, fun q j => if q = p then (if j = k then v else M.2 q j) else M.2 q j)
def wq_cp (M : wq_M) (p i q j n : Nat) : wq_M := (fun a b => if a = q then va_cpy (M.1 p) (M.1 q) i j n b else M.1 a b, M.2)
def wq_b (b : Bool) : Int32 := if b = true then 1 else 0
def wq_in (i : Int32) (n : Nat) : Bool := decide (0 ≤ i) && decide (i.toNatClampNeg < n)
theorem wq_in_vp {i : Int32} {n : Nat} (h : wq_in i n = true) : vp_in i n := by
  simp only [wq_in, Bool.and_eq_true, decide_eq_true_eq] at h
  intro q
  rcases q with q | q
  · exact absurd h.1 (Int32.not_le.mpr q)
  · omega
theorem wq_in_of {i : Int32} {n : Nat} (h : vp_in i n) : wq_in i n = true := by
  simp only [wq_in, Bool.and_eq_true, decide_eq_true_eq]
  refine ⟨Int32.not_lt.mp (fun q => h (Or.inl q)), Nat.not_le.mp (fun q => h (Or.inr q))⟩
abbrev wq_E : Type := va_G × (Nat → Nat) × (Nat → ClassId) × (Nat → Nat)
abbrev wq_Y : Type := Nat × (Nat → Nat) × (Nat → Nat)
def wq_cl : List vw_C := [(RX0, TX0, 3), (RX1, TX1, 4), (RX2, TX2, 6), (RX3, TX3, 3), (RX4, TX4, 9), (RX5, TX5, 6), (RX6, TX6, 9), (RX7, TX7, 26)]
def wq_ty (E : wq_E) : List (ClassId × FieldType) := [(E.2.2.1 0, .int), (E.2.2.1 1, .boolean), (E.2.2.1 2, .object RX3), (E.2.2.1 3, .object RX5)]
def wq_rf (ad : Nat → Nat) (o : Option Nat) : Value := va_rf (o.map ad)
def wq_fl (ad : Nat → Nat) (M : wq_M) (p : Nat) (c : Nat) : List Value := match c with
  | 0 => [.ref (ad (p + 1)), .ref (ad (p + 2)), .int (M.1 p 2)]
  | 1 => [.ref (ad (p + 1)), .int (M.1 p 1), wq_rf ad (M.2 p 2), .int (M.1 p 3)]
  | 2 => [.ref (ad (p + 1)), .int (M.1 p 1), .int (M.1 p 2), .int (M.1 p 3), .int (M.1 p 4), .int (M.1 p 5)]
  | 3 => [.ref (ad (p + 1)), .int (M.1 p 1), .int (M.1 p 2)]
  | 4 => [.ref (ad (p + 1)), .int (M.1 p 1), .int (M.1 p 2), wq_rf ad (M.2 p 3), wq_rf ad (M.2 p 4), wq_rf ad (M.2 p 5), wq_rf ad (M.2 p 6), wq_rf ad (M.2 p 7), .int (M.1 p 8)]
  | 5 => [.int (M.1 p 0), .int (M.1 p 1), .ref (ad (p + 1)), .ref (ad (p + 2)), .ref (ad (p + 3)), .ref (ad (p + 4))]
  | 6 => [.ref (ad (p + 1)), .ref (ad (p + 18)), .ref (ad (p + 20)), .ref (ad (p + 25)), .ref (ad (p + 30)), .ref (ad (p + 41)), .ref (ad (p + 47)), .ref (ad (p + 50)), .int (M.1 p 8)]
  | _ => [.int (M.1 p 0), .int (M.1 p 1), .ref (ad (p + 1)), .ref (ad (p + 2)), .ref (ad (p + 3)), .ref (ad (p + 4)), .ref (ad (p + 5)), .ref (ad (p + 6)), .ref (ad (p + 7)), .int (M.1 p 9), .ref (ad (p + 8)), .int (M.1 p 11), .int (M.1 p 12), .int (M.1 p 13), .int (M.1 p 14), .int (M.1 p 15), .int (M.1 p 16), .int (M.1 p 17), .int (M.1 p 18), .ref (ad (p + 9)), .ref (ad (p + 10)), .ref (ad (p + 11)), .ref (ad (p + 12)), .ref (ad (p + 13)), .ref (ad (p + 14)), .int (M.1 p 25)]
def wq_ce (E : wq_E) (Y : wq_Y) (M : wq_M) (p : Nat) : va_E :=
  if Y.2.1 p < 8 then .inr (Y.2.1 p, wq_fl E.2.1 M p (Y.2.1 p))
  else if Y.2.1 p = 8 then .inl (E.2.2.1 0, Y.2.2 p, .inl (M.1 p))
  else if Y.2.1 p = 9 then .inl (E.2.2.1 1, Y.2.2 p, .inl (M.1 p))
  else if Y.2.1 p = 10 then .inl (E.2.2.1 2, Y.2.2 p, .inr (.inr (.inr (.inr (fun i => some (E.2.1 (2 + 2 * i)))))))
  else .inl (E.2.2.1 3, Y.2.2 p, .inr (.inr (.inr (.inr (fun i => some (E.2.1 (31 + 5 * i)))))))
def wq_ws (E : wq_E) (Y : wq_Y) (M : wq_M) : va_W := (List.range Y.1).map (fun p => (E.2.1 p, wq_ce E Y M p))
theorem wq_ws_at {E : wq_E} {Y : wq_Y} {M : wq_M} {p : Nat} (h : p < Y.1) : (wq_ws E Y M)[p]? = some (E.2.1 p, wq_ce E Y M p) := by
  simp [wq_ws, List.getElem?_map, List.getElem?_range h]
theorem wq_ws_inv {E : wq_E} {Y : wq_Y} {M : wq_M} {k : Nat} {q : Nat × va_E} (h : (wq_ws E Y M)[k]? = some q) : k < Y.1 ∧ q = (E.2.1 k, wq_ce E Y M k) := by
  have hk : k < Y.1 := by
    have := (List.getElem?_eq_some_iff.mp h).1
    simpa [wq_ws] using this
  rw [wq_ws_at hk] at h
  exact ⟨hk, (Option.some.inj h).symm⟩
theorem wq_ws_set {E : wq_E} {Y : wq_Y} {M M' : wq_M} {p : Nat} {e : va_E} (h : p < Y.1) (he : wq_ce E Y M' p = e) (ho : ∀ q, q ≠ p → wq_ce E Y M' q = wq_ce E Y M q) : (wq_ws E Y M).set p (E.2.1 p, e) = wq_ws E Y M' := by
  subst he
  apply List.ext_getElem?
  intro k
  rw [List.getElem?_set]
  by_cases hk : p = k
  · subst hk
    rw [if_pos rfl, wq_ws_at h, if_pos (by simpa [wq_ws] using h)]
  · rw [if_neg hk]
    by_cases hl : k < Y.1
    · rw [wq_ws_at hl, wq_ws_at hl, ho k (fun e => hk e.symm)]
    · have h1 : (wq_ws E Y M)[k]? = none := by rw [List.getElem?_eq_none_iff]; simp [wq_ws]; omega
      have h2 : (wq_ws E Y M')[k]? = none := by rw [List.getElem?_eq_none_iff]; simp [wq_ws]; omega
      rw [h1, h2]
theorem wq_fl_congr {ad : Nat → Nat} {M M' : wq_M} {p c : Nat} (h1 : M'.1 p = M.1 p) (h2 : M'.2 p = M.2 p) : wq_fl ad M' p c = wq_fl ad M p c := by
  unfold wq_fl
  rw [h1, h2]
theorem wq_ce_congr {E : wq_E} {Y : wq_Y} {M M' : wq_M} {p : Nat} (h1 : M'.1 p = M.1 p) (h2 : M'.2 p = M.2 p) : wq_ce E Y M' p = wq_ce E Y M p := by
  unfold wq_ce
  rw [wq_fl_congr h1 h2, h1]
theorem wq_st_ne {M : wq_M} {p k q : Nat} {v : Int32} (h : q ≠ p) : (wq_st M p k v).1 q = M.1 q := by
  funext j
  simp [wq_st, h]
theorem wq_st_self {M : wq_M} {p k : Nat} {v : Int32} : (wq_st M p k v).1 p = upd (M.1 p) k v := by
  funext j
  simp [wq_st, upd]
theorem wq_sr_ne {M : wq_M} {p k q : Nat} {v : Option Nat} (h : q ≠ p) : (wq_sr M p k v).2 q = M.2 q := by
  funext j
  simp [wq_sr, h]
theorem wq_cp_ne {M : wq_M} {p i q j n a : Nat} (h : a ≠ q) : (wq_cp M p i q j n).1 a = M.1 a := by
  funext b
  simp [wq_cp, h]
theorem wq_cp_self {M : wq_M} {p i q j n : Nat} : (wq_cp M p i q j n).1 q = va_cpy (M.1 p) (M.1 q) i j n := by
  funext b
  simp [wq_cp]
theorem wq_ce_o {E : wq_E} {Y : wq_Y} {M : wq_M} {p c : Nat} (h : Y.2.1 p = c) (hc : c < 8) : wq_ce E Y M p = .inr (c, wq_fl E.2.1 M p c) := by
  unfold wq_ce
  rw [h, if_pos hc]
theorem wq_ce_i {E : wq_E} {Y : wq_Y} {M : wq_M} {p n : Nat} (h : Y.2.1 p = 8) (hn : Y.2.2 p = n) : wq_ce E Y M p = .inl (E.2.2.1 0, n, .inl (M.1 p)) := by
  subst hn
  unfold wq_ce
  rw [h]
  rfl
theorem wq_ce_z {E : wq_E} {Y : wq_Y} {M : wq_M} {p n : Nat} (h : Y.2.1 p = 9) (hn : Y.2.2 p = n) : wq_ce E Y M p = .inl (E.2.2.1 1, n, .inl (M.1 p)) := by
  subst hn
  unfold wq_ce
  rw [h]
  rfl
theorem wq_ce_r {E : wq_E} {Y : wq_Y} {M : wq_M} {p n : Nat} (h : Y.2.1 p = 10) (hn : Y.2.2 p = n) : wq_ce E Y M p = .inl (E.2.2.1 2, n, .inr (.inr (.inr (.inr (fun i => some (E.2.1 (2 + 2 * i))))))) := by
  subst hn
  unfold wq_ce
  rw [h]
  rfl
theorem wq_ce_w {E : wq_E} {Y : wq_Y} {M : wq_M} {p n : Nat} (h : Y.2.1 p = 11) (hn : Y.2.2 p = n) : wq_ce E Y M p = .inl (E.2.2.1 3, n, .inr (.inr (.inr (.inr (fun i => some (E.2.1 (31 + 5 * i))))))) := by
  subst hn
  unfold wq_ce
  rw [h]
  rfl
def wq_A (E : wq_E) (Y : wq_Y) : Nat → Prop := fun q => ∃ p, p < Y.1 ∧ E.2.1 p = q
def wq_inj (E : wq_E) (Y : wq_Y) : Prop := ∀ p q, p < Y.1 → q < Y.1 → E.2.1 p = E.2.1 q → p = q
theorem wq_D {E : wq_E} {Y : wq_Y} {M : wq_M} (h : wq_inj E Y) : va_D (wq_A E Y) (wq_ws E Y M) := by
  refine ⟨fun i j p q hi hj e => ?_, fun k q hk => ?_⟩
  · obtain ⟨h1, rfl⟩ := wq_ws_inv hi
    obtain ⟨h2, rfl⟩ := wq_ws_inv hj
    exact h i j h1 h2 e
  · obtain ⟨h1, rfl⟩ := wq_ws_inv hk
    exact ⟨k, h1, rfl⟩
def wq_sn (k : Nat) : String × String := match k with
  | 0 => ("WellPipes", "RULE_LOW")
  | 1 => ("WellPipes", "RULE_HIGH")
  | 2 => ("WellPipes", "FIGURE_HIGH")
  | 3 => ("WellPipes", "WIDER_KIND")
  | 4 => ("WellPipes$Asks", "SIZE_BODIES")
  | _ => ("WellPipes$Asks", "MARK_BODIES")
def wq_tb (k : Nat) : List Int32 := match k with
  | 0 => [0, 0, 0, 1]
  | 1 => [20, 99, 20, 3]
  | 2 => [99, 99, 99, 9, 99]
  | 3 => [0, 0, 1, 1, 0, 4]
  | 4 => [10, 11, 12, 11, 13, 14]
  | _ => [20, 21, 24, 22, 23, 23]
def wq_sf (k : Nat) (j : Nat) : Int32 := (wq_tb k).getD j 0
def wq_sl (k : Nat) : Nat := (wq_tb k).length
def wq_nw : List Cond := [.fieldLinkNest "WellPipes$Reader" 87 "WellPipes" "RULE_LOW" "[I" "WellPipes", .fieldLinkNest "WellPipes$Reader" 90 "WellPipes" "RULE_HIGH" "[I" "WellPipes", .fieldLinkNest "WellPipes$Reader" 80 "WellPipes" "FIGURE_HIGH" "[I" "WellPipes"]
def wq_S (E : wq_E) (Y : wq_Y) (U : State) : Prop := (∀ k, k < 6 → va_Z (wq_sn k).1 (wq_sn k).2 "[I" (.ref (E.2.2.2 k)) (wq_A E Y) U U.heap ∧ va_T .int (E.2.2.2 k) (wq_sl k) (fun j => .int (wq_sf k j)) (wq_A E Y) U U.heap) ∧ ∀ w ∈ wq_nw, va_Nw w U
def wq_TB : List Cond := lw_tbl.filter goodWord
theorem tb_of {w : Cond} (i : Nat) (h : lw_tbl[i]? = some w) (hg : goodWord w = true) : w ∈ wq_TB := List.mem_filter.mpr ⟨List.mem_of_getElem? h, hg⟩
theorem tb_good {ws : List Cond} (h : ∀ w ∈ ws, w ∈ wq_TB) : GoodIn wq_TB ws := fun w hw => ⟨h w hw, good_of_word (List.mem_filter.mp (h w hw)).2⟩
theorem wq_nw_warm {s U : State} (hW : s.WarmedH U.vm) : (∀ w ∈ wq_nw, va_Nw w s) → ∀ w ∈ wq_nw, va_Nw w U := by
  intro h w hw
  have h1 := h w hw
  simp only [wq_nw, List.mem_cons, List.not_mem_nil, or_false] at hw
  rcases hw with rfl | rfl | rfl <;> exact va_Nw.warmF hW h1
theorem wq_S_move {E : wq_E} {Y : wq_Y} {s U : State} (hW : s.WarmedH U.vm) (hk : ∀ a : Nat, a < s.heap.size → ¬ wq_A E Y a → U.heap[a]? = s.heap[a]?) (h : wq_S E Y s) : wq_S E Y U :=
  ⟨fun k hk6 => ⟨va_Z.moved hW.alike ((h.1 k hk6).1.kept hk), va_T.moved hW.alike ((h.1 k hk6).2.kept hk)⟩, wq_nw_warm hW h.2⟩
def wq_rm (d : Nat) : Room := { frames := d + 1, cells := 0, slots := 0, locals := 64 * (d + 1) }
def wq_Q (E : wq_E) (Y : wq_Y) (r : Option Value) (M' : wq_M) : Array Value → State → Outcome → State → Prop := fun _ st oc t => oc = .returned r ∧ va_P E.1 wq_cl (wq_ws E Y M') t.heap ∧ va_F (wq_A E Y) st t
def wq_B (E : wq_E) (Y : wq_Y) (M : wq_M) (U : State) : Prop := va_P E.1 wq_cl (wq_ws E Y M) U.heap ∧ va_K E.1 wq_cl (wq_ty E) U ∧ wq_inj E Y ∧ wq_S E Y U
def wq_ct (l : Launch) (E : wq_E) (Y : wq_Y) (y : MethodName) (cc : ByteArray) (nL : Nat) (ret : Option FieldType) (d : Nat) (vs : List Value) (M : wq_M) (r : Option Value) (M' : wq_M) : Prop :=
  Met l y (Cond.code y cc nL ret :: wq_TB) (wq_rm d) (va_Pc vs (wq_B E Y M)) (wq_Q E Y r M') 0 0 (wq_A E Y)
abbrev wq_G : Type := Option Value × wq_M × Program × Launch × Env × Room × State × MethodId × Array Value × List Frame × Method × Code
def wq_C (g : wq_G) (E : wq_E) (Y : wq_Y) (cc : ByteArray) (nL : Nat) (own : String) (ret : Option FieldType) (d : Nat) : Prop := match g with
  | (_, _, p, _, _, R, s, m, args, _, meth, c) => p.tables.exec = Jvm.exec ∧ c.code = cc ∧ c.maxLocals = nL ∧ s.vm.findClass own = some m.cls ∧ (∀ w ∈ wq_TB, w.before args s = true) ∧ va_K E.1 wq_cl (wq_ty E) s ∧ wq_inj E Y ∧ wq_S E Y s ∧ meth.locks = false ∧ meth.sig.returnType = ret ∧ R = wq_rm d
def wq_pr : Nat → List (Option Value) → List (Nat × Value)
  | _, [] => []
  | i, none :: t => wq_pr (i + 1) t
  | i, some v :: t => (i, v) :: wq_pr (i + 1) t
def wq_has (ls : Array Slot) (nL : Nat) (lv : List (Option Value)) : Prop := lv_has ls nL (wq_pr 0 lv)
theorem wq_pr_mem : ∀ (lv : List (Option Value)) (k i : Nat) (v : Value), lv[i]? = some (some v) → (k + i, v) ∈ wq_pr k lv
  | [], k, i, v, h => by simp at h
  | a :: t, k, 0, v, h => by
    simp at h
    subst h
    simp [wq_pr]
  | none :: t, k, i + 1, v, h => by
    have := wq_pr_mem t (k + 1) i v (by simpa using h)
    rw [show k + (i + 1) = k + 1 + i by omega]
    exact this
  | some u :: t, k, i + 1, v, h => by
    have := wq_pr_mem t (k + 1) i v (by simpa using h)
    rw [show k + (i + 1) = k + 1 + i by omega]
    exact List.mem_cons_of_mem _ this
theorem wq_has_at {ls : Array Slot} {nL i : Nat} {lv : List (Option Value)} {v : Value} (h : wq_has ls nL lv) (hi : lv[i]? = some (some v)) : ls[i]? = some (.val v) := by
  have h1 := h.2.2 _ (wq_pr_mem lv 0 i v hi)
  simpa using h1
theorem wq_pr_ge : ∀ (lv : List (Option Value)) (k : Nat) (q : Nat × Value), q ∈ wq_pr k lv → k ≤ q.1
  | [], k, q, h => by simp [wq_pr] at h
  | none :: t, k, q, h => by
    have := wq_pr_ge t (k + 1) q h
    omega
  | some v :: t, k, q, h => by
    rcases List.mem_cons.mp h with rfl | h
    · exact Nat.le_refl _
    · have := wq_pr_ge t (k + 1) q h
      omega
def wq_c1 (a : Option Value) : Option Value := match a with
  | some (.long _) => none
  | some (.double _) => none
  | x => x
theorem wq_c1_ok {a : Option Value} {v : Value} (h : wq_c1 a = some v) : a = some v ∧ ¬ v.category = 2 := by
  cases a with
  | none => simp [wq_c1] at h
  | some x => cases x <;> simp [wq_c1] at h <;> subst h <;> simp [Value.category]
def wq_se : List (Option Value) → Nat → Value → List (Option Value)
  | [], _, _ => []
  | _ :: t, 0, v => some v :: t
  | a :: t, 1, v => wq_c1 a :: wq_se t 0 v
  | a :: t, i + 2, v => a :: wq_se t (i + 1) v
theorem wq_se_mem : ∀ (lv : List (Option Value)) (i k : Nat) (v : Value) (q : Nat × Value), q ∈ wq_pr k (wq_se lv i v) → q = (k + i, v) ∨ (q ∈ wq_pr k lv ∧ q.1 ≠ k + i ∧ ¬ (q.1 + 1 = k + i ∧ q.2.category = 2))
  | [], i, k, v, q, h => by simp [wq_se, wq_pr] at h
  | a :: t, 0, k, v, q, h => by
    simp only [wq_se, wq_pr, List.mem_cons] at h
    rcases h with rfl | h
    · exact Or.inl rfl
    · have hg := wq_pr_ge _ _ _ h
      refine Or.inr ⟨?_, by omega, by omega⟩
      cases a with
      | none => exact h
      | some x => exact List.mem_cons_of_mem _ h
  | a :: t, 1, k, v, q, h => by
    simp only [wq_se] at h
    have key : q ∈ wq_pr (k + 1) (wq_se t 0 v) → q = (k + 1, v) ∨ (q ∈ wq_pr k (a :: t) ∧ q.1 ≠ k + 1 ∧ ¬ (q.1 + 1 = k + 1 ∧ q.2.category = 2)) := by
      intro h
      rcases wq_se_mem t 0 (k + 1) v q h with h | ⟨h1, h2, h3⟩
      · exact Or.inl h
      · refine Or.inr ⟨?_, h2, ?_⟩
        · cases a with
          | none => exact h1
          | some x => exact List.mem_cons_of_mem _ h1
        · have := wq_pr_ge _ _ _ h1
          omega
    cases hc : wq_c1 a with
    | none =>
      rw [hc] at h
      exact key h
    | some x =>
      rw [hc] at h
      rcases List.mem_cons.mp h with rfl | h
      · obtain ⟨rfl, h2⟩ := wq_c1_ok hc
        exact Or.inr ⟨by simp [wq_pr], by simp, fun z => h2 z.2⟩
      · exact key h
  | a :: t, i + 2, k, v, q, h => by
    simp only [wq_se] at h
    have key : q ∈ wq_pr (k + 1) (wq_se t (i + 1) v) → q = (k + (i + 2), v) ∨ (q ∈ wq_pr k (a :: t) ∧ q.1 ≠ k + (i + 2) ∧ ¬ (q.1 + 1 = k + (i + 2) ∧ q.2.category = 2)) := by
      intro h
      have e : k + (i + 2) = k + 1 + (i + 1) := by omega
      rw [e]
      rcases wq_se_mem t (i + 1) (k + 1) v q h with h | ⟨h1, h2, h3⟩
      · exact Or.inl h
      · refine Or.inr ⟨?_, h2, h3⟩
        cases a with
        | none => exact h1
        | some x => exact List.mem_cons_of_mem _ h1
    cases a with
    | none => exact key h
    | some x =>
      rcases List.mem_cons.mp h with rfl | h
      · refine Or.inr ⟨by simp [wq_pr], by simp, ?_⟩
        simp only []
        omega
      · exact key h
theorem wq_has_se {ls : Array Slot} {nL i : Nat} {lv : List (Option Value)} {v : Value} (h : lv_has ls nL ((i, v) :: (wq_pr 0 lv).filter (fun q => !(q.1 == i) && !(q.1 + 1 == i && q.2.category == 2)))) : wq_has ls nL (wq_se lv i v) := by
  refine ⟨h.1, h.2.1, fun q hq => h.2.2 q ?_⟩
  rcases wq_se_mem lv i 0 v q hq with rfl | ⟨h1, h2, h3⟩
  · simp
  · refine List.mem_cons_of_mem _ (List.mem_filter.mpr ⟨h1, ?_⟩)
    simp only [Nat.zero_add] at h2 h3
    simp only [Bool.and_eq_true, Bool.not_eq_true', beq_eq_false_iff_ne, ne_eq, Bool.and_eq_false_iff]
    refine ⟨h2, ?_⟩
    by_cases e : q.1 + 1 = i
    · exact Or.inr (fun z => h3 ⟨e, z⟩)
    · exact Or.inl e
def wq_d1 : List (Option Value) → List (Option Value)
  | [] => []
  | _ :: t => none :: t
def wq_sd : List (Option Value) → Nat → Value → List (Option Value)
  | [], _, _ => []
  | _ :: t, 0, v => some v :: wq_d1 t
  | a :: t, 1, v => wq_c1 a :: wq_sd t 0 v
  | a :: t, i + 2, v => a :: wq_sd t (i + 1) v
theorem wq_sd_mem : ∀ (lv : List (Option Value)) (i k : Nat) (v : Value) (q : Nat × Value), q ∈ wq_pr k (wq_sd lv i v) → q = (k + i, v) ∨ (q ∈ wq_pr k lv ∧ q.1 ≠ k + i ∧ q.1 ≠ k + i + 1 ∧ ¬ (q.1 + 1 = k + i ∧ q.2.category = 2))
  | [], i, k, v, q, h => by simp [wq_sd, wq_pr] at h
  | a :: t, 0, k, v, q, h => by
    simp only [wq_sd, wq_pr, List.mem_cons] at h
    rcases h with rfl | h
    · exact Or.inl rfl
    · cases t with
      | nil => simp [wq_d1, wq_pr] at h
      | cons b t =>
        simp only [wq_d1, wq_pr] at h
        have hg := wq_pr_ge _ _ _ h
        refine Or.inr ⟨?_, by omega, by omega, by omega⟩
        cases a <;> cases b <;> simp [wq_pr, h]
  | a :: t, 1, k, v, q, h => by
    simp only [wq_sd] at h
    have key : q ∈ wq_pr (k + 1) (wq_sd t 0 v) → q = (k + 1, v) ∨ (q ∈ wq_pr k (a :: t) ∧ q.1 ≠ k + 1 ∧ q.1 ≠ k + 1 + 1 ∧ ¬ (q.1 + 1 = k + 1 ∧ q.2.category = 2)) := by
      intro h
      rcases wq_sd_mem t 0 (k + 1) v q h with h | ⟨h1, h2, h4, h3⟩
      · exact Or.inl h
      · refine Or.inr ⟨?_, h2, h4, ?_⟩
        · cases a with
          | none => exact h1
          | some x => exact List.mem_cons_of_mem _ h1
        · have := wq_pr_ge _ _ _ h1
          omega
    cases hc : wq_c1 a with
    | none =>
      rw [hc] at h
      exact key h
    | some x =>
      rw [hc] at h
      rcases List.mem_cons.mp h with rfl | h
      · obtain ⟨rfl, h2⟩ := wq_c1_ok hc
        exact Or.inr ⟨by simp [wq_pr], by simp, by simp only []; omega, fun z => h2 z.2⟩
      · exact key h
  | a :: t, i + 2, k, v, q, h => by
    simp only [wq_sd] at h
    have key : q ∈ wq_pr (k + 1) (wq_sd t (i + 1) v) → q = (k + (i + 2), v) ∨ (q ∈ wq_pr k (a :: t) ∧ q.1 ≠ k + (i + 2) ∧ q.1 ≠ k + (i + 2) + 1 ∧ ¬ (q.1 + 1 = k + (i + 2) ∧ q.2.category = 2)) := by
      intro h
      have e : k + (i + 2) = k + 1 + (i + 1) := by omega
      rw [e]
      rcases wq_sd_mem t (i + 1) (k + 1) v q h with h | ⟨h1, h2, h3⟩
      · exact Or.inl h
      · refine Or.inr ⟨?_, h2, h3⟩
        cases a with
        | none => exact h1
        | some x => exact List.mem_cons_of_mem _ h1
    cases a with
    | none => exact key h
    | some x =>
      rcases List.mem_cons.mp h with rfl | h
      · refine Or.inr ⟨by simp [wq_pr], by simp, ?_, ?_⟩ <;> simp only [] <;> omega
      · exact key h
theorem wq_has_sd {ls : Array Slot} {nL i : Nat} {lv : List (Option Value)} {v : Value} (h : lv_has ls nL ((i, v) :: (wq_pr 0 lv).filter (fun q => !(q.1 == i) && (!(q.1 == i + 1) && !(q.1 + 1 == i && q.2.category == 2))))) : wq_has ls nL (wq_sd lv i v) := by
  refine ⟨h.1, h.2.1, fun q hq => h.2.2 q ?_⟩
  rcases wq_sd_mem lv i 0 v q hq with rfl | ⟨h1, h2, h4, h3⟩
  · simp
  · refine List.mem_cons_of_mem _ (List.mem_filter.mpr ⟨h1, ?_⟩)
    simp only [Nat.zero_add] at h2 h3 h4
    simp only [Bool.and_eq_true, Bool.not_eq_true', beq_eq_false_iff_ne, ne_eq, Bool.and_eq_false_iff]
    refine ⟨h2, h4, ?_⟩
    by_cases e : q.1 + 1 = i
    · exact Or.inr (fun z => h3 ⟨e, z⟩)
    · exact Or.inl e
def wq_mk : List Bool → List (Option Value) → List (Option Value)
  | [], _ => []
  | _ :: _, [] => []
  | true :: b, a :: t => a :: wq_mk b t
  | false :: b, _ :: t => none :: wq_mk b t
theorem wq_mk_mem : ∀ (bs : List Bool) (lv : List (Option Value)) (k : Nat) (q : Nat × Value), q ∈ wq_pr k (wq_mk bs lv) → q ∈ wq_pr k lv
  | [], lv, k, q, h => by simp [wq_mk, wq_pr] at h
  | b :: bs, [], k, q, h => by simp [wq_mk, wq_pr] at h
  | true :: bs, none :: t, k, q, h => wq_mk_mem bs t (k + 1) q h
  | true :: bs, some v :: t, k, q, h => by
    rcases List.mem_cons.mp h with rfl | h
    · exact List.mem_cons_self
    · exact List.mem_cons_of_mem _ (wq_mk_mem bs t (k + 1) q h)
  | false :: bs, none :: t, k, q, h => wq_mk_mem bs t (k + 1) q h
  | false :: bs, some v :: t, k, q, h => List.mem_cons_of_mem _ (wq_mk_mem bs t (k + 1) q h)
theorem wq_has_mk {ls : Array Slot} {nL : Nat} {lv : List (Option Value)} (bs : List Bool) (h : wq_has ls nL lv) : wq_has ls nL (wq_mk bs lv) := ⟨h.1, h.2.1, fun q hq => h.2.2 q (wq_mk_mem bs lv 0 q hq)⟩
def wq_g (g : wq_G) (E : wq_E) (Y : wq_Y) (nL : Nat) (pc : Nat) (lv : List (Option Value)) (st : List Value) (M : wq_M) : Prop := match g with
  | (r0, M0, p, l, e, R, s, m, args, below, meth, c) => ∀ (H : Heap) (ls : Array Slot) (locs : List Loc), wq_has ls nL lv → va_P E.1 wq_cl (wq_ws E Y M) H → va_S (wq_A E Y) s.heap H locs → W p l e R s m args below meth c H locs 0 0 (MQ below (wq_Q E Y r0 M0) args s 0 0 (wq_A E Y)) (F0 m pc ls st)
section WQ
variable {g : wq_G} {E : wq_E} {Y : wq_Y} {cc : ByteArray} {nL : Nat} {own : String} {ret : Option FieldType} {d : Nat} {pc : Nat} {lv lv' : List (Option Value)} {st : List Value} {M : wq_M}
theorem wq_mask (bs : List Bool) (hb : wq_mk bs lv = lv') (k : wq_g g E Y nL pc lv' st M) : wq_g g E Y nL pc lv st M := by
  obtain ⟨r0, M0, p, l, e, R, s, m, args, below, meth, c⟩ := g
  intro H ls locs hl hP hW
  subst hb
  exact k H ls locs (wq_has_mk bs hl) hP hW

theorem wq_iconst (h : wq_C g E Y cc nL own ret d) {n : Int} {v : Int32} (hd : decode cc pc = .ok (.iconst n, 1)) (hv : Int32.ofInt n = v) (k : wq_g g E Y nL (pc + 1) lv (.int v :: st) M) : wq_g g E Y nL pc lv (st) M := by
  obtain ⟨r0, M0, p, l, e, R, s, m, args, below, meth, c⟩ := g
  obtain ⟨hx, hb, hml, hown, hts, hK, hi, hS, hlk, hr, rfl⟩ := h
  intro H ls locs hl hP hW
  exact lv_iconst hx hb hd hv (k H ls locs hl hP hW)

theorem wq_bipush (h : wq_C g E Y cc nL own ret d) {n : Int} {v : Int32} (hd : decode cc pc = .ok (.bipush n, 2)) (hv : (Int8.ofInt n).toInt32 = v) (k : wq_g g E Y nL (pc + 2) lv (.int v :: st) M) : wq_g g E Y nL pc lv (st) M := by
  obtain ⟨r0, M0, p, l, e, R, s, m, args, below, meth, c⟩ := g
  obtain ⟨hx, hb, hml, hown, hts, hK, hi, hS, hlk, hr, rfl⟩ := h
  intro H ls locs hl hP hW
  exact lv_bipush hx hb hd hv (k H ls locs hl hP hW)

theorem wq_sipush (h : wq_C g E Y cc nL own ret d) {n : Int} {v : Int32} (hd : decode cc pc = .ok (.sipush n, 3)) (hv : (Int16.ofInt n).toInt32 = v) (k : wq_g g E Y nL (pc + 3) lv (.int v :: st) M) : wq_g g E Y nL pc lv (st) M := by
  obtain ⟨r0, M0, p, l, e, R, s, m, args, below, meth, c⟩ := g
  obtain ⟨hx, hb, hml, hown, hts, hK, hi, hS, hlk, hr, rfl⟩ := h
  intro H ls locs hl hP hW
  exact lv_sipush hx hb hd hv (k H ls locs hl hP hW)

theorem wq_lconst (h : wq_C g E Y cc nL own ret d) {n : Fin 2} {v : Int64} (hd : decode cc pc = .ok (.lconst n, 1)) (hv : Int64.ofNat (n : Nat) = v) (k : wq_g g E Y nL (pc + 1) lv (.long v :: st) M) : wq_g g E Y nL pc lv (st) M := by
  obtain ⟨r0, M0, p, l, e, R, s, m, args, below, meth, c⟩ := g
  obtain ⟨hx, hb, hml, hown, hts, hK, hi, hS, hlk, hr, rfl⟩ := h
  intro H ls locs hl hP hW
  exact lv_lconst hx hb hd hv (k H ls locs hl hP hW)

theorem wq_iload_n (h : wq_C g E Y cc nL own ret d) {kk : Fin 4} {i : Nat} {x : Int32} (hd : decode cc pc = .ok (.iload_n kk, 1)) (hi2 : (kk : Nat) = i) (hl2 : lv[i]? = some (some (.int x))) (k : wq_g g E Y nL (pc + 1) lv (.int x :: st) M) : wq_g g E Y nL pc lv (st) M := by
  obtain ⟨r0, M0, p, l, e, R, s, m, args, below, meth, c⟩ := g
  obtain ⟨hx, hb, hml, hown, hts, hK, hi, hS, hlk, hr, rfl⟩ := h
  intro H ls locs hl hP hW
  exact lv_iload_n hx hb hd hi2 (wq_has_at hl hl2) (k H ls locs hl hP hW)

theorem wq_iload (h : wq_C g E Y cc nL own ret d) {i : Nat} {x : Int32} (hd : decode cc pc = .ok (.iload i, 2)) (hl2 : lv[i]? = some (some (.int x))) (k : wq_g g E Y nL (pc + 2) lv (.int x :: st) M) : wq_g g E Y nL pc lv (st) M := by
  obtain ⟨r0, M0, p, l, e, R, s, m, args, below, meth, c⟩ := g
  obtain ⟨hx, hb, hml, hown, hts, hK, hi, hS, hlk, hr, rfl⟩ := h
  intro H ls locs hl hP hW
  exact lv_iload hx hb hd (wq_has_at hl hl2) (k H ls locs hl hP hW)

theorem wq_istore_n (h : wq_C g E Y cc nL own ret d) {kk : Fin 4} {i : Nat} {x : Int32} (hd : decode cc pc = .ok (.istore_n kk, 1)) (hi2 : (kk : Nat) = i) (hn : i < nL) (hl2 : wq_se lv i (.int x) = lv') (k : wq_g g E Y nL (pc + 1) lv' st M) : wq_g g E Y nL pc lv (.int x :: st) M := by
  obtain ⟨r0, M0, p, l, e, R, s, m, args, below, meth, c⟩ := g
  obtain ⟨hx, hb, hml, hown, hts, hK, hi, hS, hlk, hr, rfl⟩ := h
  intro H ls locs hl hP hW
  subst hl2
  exact lv_istore_n hx hb hd hi2 hl hn rfl (fun ls1 hl1 => k H ls1 locs (wq_has_se hl1) hP hW)

theorem wq_istore (h : wq_C g E Y cc nL own ret d) {i : Nat} {x : Int32} (hd : decode cc pc = .ok (.istore i, 2)) (hn : i < nL) (hl2 : wq_se lv i (.int x) = lv') (k : wq_g g E Y nL (pc + 2) lv' st M) : wq_g g E Y nL pc lv (.int x :: st) M := by
  obtain ⟨r0, M0, p, l, e, R, s, m, args, below, meth, c⟩ := g
  obtain ⟨hx, hb, hml, hown, hts, hK, hi, hS, hlk, hr, rfl⟩ := h
  intro H ls locs hl hP hW
  subst hl2
  exact lv_istore hx hb hd hl hn rfl (fun ls1 hl1 => k H ls1 locs (wq_has_se hl1) hP hW)

theorem wq_lload_n (h : wq_C g E Y cc nL own ret d) {kk : Fin 4} {i : Nat} {x : Int64} (hd : decode cc pc = .ok (.lload_n kk, 1)) (hi2 : (kk : Nat) = i) (hl2 : lv[i]? = some (some (.long x))) (k : wq_g g E Y nL (pc + 1) lv (.long x :: st) M) : wq_g g E Y nL pc lv (st) M := by
  obtain ⟨r0, M0, p, l, e, R, s, m, args, below, meth, c⟩ := g
  obtain ⟨hx, hb, hml, hown, hts, hK, hi, hS, hlk, hr, rfl⟩ := h
  intro H ls locs hl hP hW
  exact lv_lload_n hx hb hd hi2 (wq_has_at hl hl2) (k H ls locs hl hP hW)

theorem wq_lload (h : wq_C g E Y cc nL own ret d) {i : Nat} {x : Int64} (hd : decode cc pc = .ok (.lload i, 2)) (hl2 : lv[i]? = some (some (.long x))) (k : wq_g g E Y nL (pc + 2) lv (.long x :: st) M) : wq_g g E Y nL pc lv (st) M := by
  obtain ⟨r0, M0, p, l, e, R, s, m, args, below, meth, c⟩ := g
  obtain ⟨hx, hb, hml, hown, hts, hK, hi, hS, hlk, hr, rfl⟩ := h
  intro H ls locs hl hP hW
  exact lv_lload hx hb hd (wq_has_at hl hl2) (k H ls locs hl hP hW)

theorem wq_lstore_n (h : wq_C g E Y cc nL own ret d) {kk : Fin 4} {i : Nat} {x : Int64} (hd : decode cc pc = .ok (.lstore_n kk, 1)) (hi2 : (kk : Nat) = i) (hn : i + 1 < nL) (hl2 : wq_sd lv i (.long x) = lv') (k : wq_g g E Y nL (pc + 1) lv' st M) : wq_g g E Y nL pc lv (.long x :: st) M := by
  obtain ⟨r0, M0, p, l, e, R, s, m, args, below, meth, c⟩ := g
  obtain ⟨hx, hb, hml, hown, hts, hK, hi, hS, hlk, hr, rfl⟩ := h
  intro H ls locs hl hP hW
  subst hl2
  exact lv_lstore_n hx hb hd hi2 hl hn rfl (fun ls1 hl1 => k H ls1 locs (wq_has_sd hl1) hP hW)

theorem wq_lstore (h : wq_C g E Y cc nL own ret d) {i : Nat} {x : Int64} (hd : decode cc pc = .ok (.lstore i, 2)) (hn : i + 1 < nL) (hl2 : wq_sd lv i (.long x) = lv') (k : wq_g g E Y nL (pc + 2) lv' st M) : wq_g g E Y nL pc lv (.long x :: st) M := by
  obtain ⟨r0, M0, p, l, e, R, s, m, args, below, meth, c⟩ := g
  obtain ⟨hx, hb, hml, hown, hts, hK, hi, hS, hlk, hr, rfl⟩ := h
  intro H ls locs hl hP hW
  subst hl2
  exact lv_lstore hx hb hd hl hn rfl (fun ls1 hl1 => k H ls1 locs (wq_has_sd hl1) hP hW)

theorem wq_aload_n (h : wq_C g E Y cc nL own ret d) {kk : Fin 4} {i : Nat} {x : Nat} (hd : decode cc pc = .ok (.aload_n kk, 1)) (hi2 : (kk : Nat) = i) (hl2 : lv[i]? = some (some (.ref x))) (k : wq_g g E Y nL (pc + 1) lv (.ref x :: st) M) : wq_g g E Y nL pc lv (st) M := by
  obtain ⟨r0, M0, p, l, e, R, s, m, args, below, meth, c⟩ := g
  obtain ⟨hx, hb, hml, hown, hts, hK, hi, hS, hlk, hr, rfl⟩ := h
  intro H ls locs hl hP hW
  exact lv_aload_n hx hb hd hi2 (wq_has_at hl hl2) (k H ls locs hl hP hW)

theorem wq_aload (h : wq_C g E Y cc nL own ret d) {i : Nat} {x : Nat} (hd : decode cc pc = .ok (.aload i, 2)) (hl2 : lv[i]? = some (some (.ref x))) (k : wq_g g E Y nL (pc + 2) lv (.ref x :: st) M) : wq_g g E Y nL pc lv (st) M := by
  obtain ⟨r0, M0, p, l, e, R, s, m, args, below, meth, c⟩ := g
  obtain ⟨hx, hb, hml, hown, hts, hK, hi, hS, hlk, hr, rfl⟩ := h
  intro H ls locs hl hP hW
  exact lv_aload hx hb hd (wq_has_at hl hl2) (k H ls locs hl hP hW)

theorem wq_astore_n (h : wq_C g E Y cc nL own ret d) {kk : Fin 4} {i : Nat} {x : Nat} (hd : decode cc pc = .ok (.astore_n kk, 1)) (hi2 : (kk : Nat) = i) (hn : i < nL) (hl2 : wq_se lv i (.ref x) = lv') (k : wq_g g E Y nL (pc + 1) lv' st M) : wq_g g E Y nL pc lv (.ref x :: st) M := by
  obtain ⟨r0, M0, p, l, e, R, s, m, args, below, meth, c⟩ := g
  obtain ⟨hx, hb, hml, hown, hts, hK, hi, hS, hlk, hr, rfl⟩ := h
  intro H ls locs hl hP hW
  subst hl2
  exact lv_astore_n hx hb hd hi2 hl hn rfl (fun ls1 hl1 => k H ls1 locs (wq_has_se hl1) hP hW)

theorem wq_astore (h : wq_C g E Y cc nL own ret d) {i : Nat} {x : Nat} (hd : decode cc pc = .ok (.astore i, 2)) (hn : i < nL) (hl2 : wq_se lv i (.ref x) = lv') (k : wq_g g E Y nL (pc + 2) lv' st M) : wq_g g E Y nL pc lv (.ref x :: st) M := by
  obtain ⟨r0, M0, p, l, e, R, s, m, args, below, meth, c⟩ := g
  obtain ⟨hx, hb, hml, hown, hts, hK, hi, hS, hlk, hr, rfl⟩ := h
  intro H ls locs hl hP hW
  subst hl2
  exact lv_astore hx hb hd hl hn rfl (fun ls1 hl1 => k H ls1 locs (wq_has_se hl1) hP hW)

theorem wq_iinc (h : wq_C g E Y cc nL own ret d) {i : Nat} {n : Int} {x v : Int32} (hd : decode cc pc = .ok (.iinc i n, 3)) (hl1 : lv[i]? = some (some (.int x))) (hv : x + Int32.ofInt n = v) (hn : i < nL) (hl2 : wq_se lv i (.int v) = lv') (k : wq_g g E Y nL (pc + 3) lv' st M) : wq_g g E Y nL pc lv st M := by
  obtain ⟨r0, M0, p, l, e, R, s, m, args, below, meth, c⟩ := g
  obtain ⟨hx, hb, hml, hown, hts, hK, hi, hS, hlk, hr, rfl⟩ := h
  intro H ls locs hl hP hW
  subst hl2
  obtain ⟨j, hj⟩ := List.getElem?_of_mem (wq_pr_mem lv 0 i _ hl1)
  rw [Nat.zero_add] at hj
  exact lv_iinc hx hb hd hl hj hv hn rfl (fun ls1 hl1 => k H ls1 locs (wq_has_se hl1) hP hW)

theorem wq_iadd (h : wq_C g E Y cc nL own ret d) {x y : Int32} (hd : decode cc pc = .ok (.iadd, 1))  (k : wq_g g E Y nL (pc + 1) lv (.int (x + y) :: st) M) : wq_g g E Y nL pc lv (.int y :: .int x :: st) M := by
  obtain ⟨r0, M0, p, l, e, R, s, m, args, below, meth, c⟩ := g
  obtain ⟨hx, hb, hml, hown, hts, hK, hi, hS, hlk, hr, rfl⟩ := h
  intro H ls locs hl hP hW
  exact lv_iadd hx hb hd (k H ls locs hl hP hW)

theorem wq_isub (h : wq_C g E Y cc nL own ret d) {x y : Int32} (hd : decode cc pc = .ok (.isub, 1))  (k : wq_g g E Y nL (pc + 1) lv (.int (x - y) :: st) M) : wq_g g E Y nL pc lv (.int y :: .int x :: st) M := by
  obtain ⟨r0, M0, p, l, e, R, s, m, args, below, meth, c⟩ := g
  obtain ⟨hx, hb, hml, hown, hts, hK, hi, hS, hlk, hr, rfl⟩ := h
  intro H ls locs hl hP hW
  exact lv_isub hx hb hd (k H ls locs hl hP hW)

theorem wq_imul (h : wq_C g E Y cc nL own ret d) {x y : Int32} (hd : decode cc pc = .ok (.imul, 1))  (k : wq_g g E Y nL (pc + 1) lv (.int (x * y) :: st) M) : wq_g g E Y nL pc lv (.int y :: .int x :: st) M := by
  obtain ⟨r0, M0, p, l, e, R, s, m, args, below, meth, c⟩ := g
  obtain ⟨hx, hb, hml, hown, hts, hK, hi, hS, hlk, hr, rfl⟩ := h
  intro H ls locs hl hP hW
  exact lv_imul hx hb hd (k H ls locs hl hP hW)

theorem wq_iand (h : wq_C g E Y cc nL own ret d) {x y : Int32} (hd : decode cc pc = .ok (.iand, 1))  (k : wq_g g E Y nL (pc + 1) lv (.int (x &&& y) :: st) M) : wq_g g E Y nL pc lv (.int y :: .int x :: st) M := by
  obtain ⟨r0, M0, p, l, e, R, s, m, args, below, meth, c⟩ := g
  obtain ⟨hx, hb, hml, hown, hts, hK, hi, hS, hlk, hr, rfl⟩ := h
  intro H ls locs hl hP hW
  exact lv_iand hx hb hd (k H ls locs hl hP hW)

theorem wq_ior (h : wq_C g E Y cc nL own ret d) {x y : Int32} (hd : decode cc pc = .ok (.ior, 1))  (k : wq_g g E Y nL (pc + 1) lv (.int (x ||| y) :: st) M) : wq_g g E Y nL pc lv (.int y :: .int x :: st) M := by
  obtain ⟨r0, M0, p, l, e, R, s, m, args, below, meth, c⟩ := g
  obtain ⟨hx, hb, hml, hown, hts, hK, hi, hS, hlk, hr, rfl⟩ := h
  intro H ls locs hl hP hW
  exact lv_ior hx hb hd (k H ls locs hl hP hW)

theorem wq_ishl (h : wq_C g E Y cc nL own ret d) {x y : Int32} (hd : decode cc pc = .ok (.ishl, 1))  (k : wq_g g E Y nL (pc + 1) lv (.int (x <<< (y &&& 31)) :: st) M) : wq_g g E Y nL pc lv (.int y :: .int x :: st) M := by
  obtain ⟨r0, M0, p, l, e, R, s, m, args, below, meth, c⟩ := g
  obtain ⟨hx, hb, hml, hown, hts, hK, hi, hS, hlk, hr, rfl⟩ := h
  intro H ls locs hl hP hW
  exact lv_ishl hx hb hd (k H ls locs hl hP hW)

theorem wq_ishr (h : wq_C g E Y cc nL own ret d) {x y : Int32} (hd : decode cc pc = .ok (.ishr, 1))  (k : wq_g g E Y nL (pc + 1) lv (.int (x >>> (y &&& 31)) :: st) M) : wq_g g E Y nL pc lv (.int y :: .int x :: st) M := by
  obtain ⟨r0, M0, p, l, e, R, s, m, args, below, meth, c⟩ := g
  obtain ⟨hx, hb, hml, hown, hts, hK, hi, hS, hlk, hr, rfl⟩ := h
  intro H ls locs hl hP hW
  exact lv_ishr hx hb hd (k H ls locs hl hP hW)

theorem wq_idiv (h : wq_C g E Y cc nL own ret d) {x y : Int32} (hd : decode cc pc = .ok (.idiv, 1)) (hne : ¬ y = 0) (k : wq_g g E Y nL (pc + 1) lv (.int (x / y) :: st) M) : wq_g g E Y nL pc lv (.int y :: .int x :: st) M := by
  obtain ⟨r0, M0, p, l, e, R, s, m, args, below, meth, c⟩ := g
  obtain ⟨hx, hb, hml, hown, hts, hK, hi, hS, hlk, hr, rfl⟩ := h
  intro H ls locs hl hP hW
  exact lv_idiv hx hb hd hne (k H ls locs hl hP hW)

theorem wq_irem (h : wq_C g E Y cc nL own ret d) {x y : Int32} (hd : decode cc pc = .ok (.irem, 1)) (hne : ¬ y = 0) (k : wq_g g E Y nL (pc + 1) lv (.int (x - x / y * y) :: st) M) : wq_g g E Y nL pc lv (.int y :: .int x :: st) M := by
  obtain ⟨r0, M0, p, l, e, R, s, m, args, below, meth, c⟩ := g
  obtain ⟨hx, hb, hml, hown, hts, hK, hi, hS, hlk, hr, rfl⟩ := h
  intro H ls locs hl hP hW
  exact lv_irem hx hb hd hne (k H ls locs hl hP hW)

theorem wq_ineg (h : wq_C g E Y cc nL own ret d) {x : Int32} (hd : decode cc pc = .ok (.ineg, 1))  (k : wq_g g E Y nL (pc + 1) lv (.int (-x) :: st) M) : wq_g g E Y nL pc lv (.int x :: st) M := by
  obtain ⟨r0, M0, p, l, e, R, s, m, args, below, meth, c⟩ := g
  obtain ⟨hx, hb, hml, hown, hts, hK, hi, hS, hlk, hr, rfl⟩ := h
  intro H ls locs hl hP hW
  exact lv_ineg hx hb hd (k H ls locs hl hP hW)

theorem wq_ladd (h : wq_C g E Y cc nL own ret d) {x y : Int64} (hd : decode cc pc = .ok (.ladd, 1))  (k : wq_g g E Y nL (pc + 1) lv (.long (x + y) :: st) M) : wq_g g E Y nL pc lv (.long y :: .long x :: st) M := by
  obtain ⟨r0, M0, p, l, e, R, s, m, args, below, meth, c⟩ := g
  obtain ⟨hx, hb, hml, hown, hts, hK, hi, hS, hlk, hr, rfl⟩ := h
  intro H ls locs hl hP hW
  exact lv_ladd hx hb hd (k H ls locs hl hP hW)

theorem wq_lsub (h : wq_C g E Y cc nL own ret d) {x y : Int64} (hd : decode cc pc = .ok (.lsub, 1))  (k : wq_g g E Y nL (pc + 1) lv (.long (x - y) :: st) M) : wq_g g E Y nL pc lv (.long y :: .long x :: st) M := by
  obtain ⟨r0, M0, p, l, e, R, s, m, args, below, meth, c⟩ := g
  obtain ⟨hx, hb, hml, hown, hts, hK, hi, hS, hlk, hr, rfl⟩ := h
  intro H ls locs hl hP hW
  exact lv_lsub hx hb hd (k H ls locs hl hP hW)

theorem wq_lmul (h : wq_C g E Y cc nL own ret d) {x y : Int64} (hd : decode cc pc = .ok (.lmul, 1))  (k : wq_g g E Y nL (pc + 1) lv (.long (x * y) :: st) M) : wq_g g E Y nL pc lv (.long y :: .long x :: st) M := by
  obtain ⟨r0, M0, p, l, e, R, s, m, args, below, meth, c⟩ := g
  obtain ⟨hx, hb, hml, hown, hts, hK, hi, hS, hlk, hr, rfl⟩ := h
  intro H ls locs hl hP hW
  exact lv_lmul hx hb hd (k H ls locs hl hP hW)

theorem wq_ldiv (h : wq_C g E Y cc nL own ret d) {x y : Int64} (hd : decode cc pc = .ok (.ldiv, 1)) (hne : ¬ y = 0) (k : wq_g g E Y nL (pc + 1) lv (.long (x / y) :: st) M) : wq_g g E Y nL pc lv (.long y :: .long x :: st) M := by
  obtain ⟨r0, M0, p, l, e, R, s, m, args, below, meth, c⟩ := g
  obtain ⟨hx, hb, hml, hown, hts, hK, hi, hS, hlk, hr, rfl⟩ := h
  intro H ls locs hl hP hW
  exact lv_ldiv hx hb hd hne (k H ls locs hl hP hW)

theorem wq_lrem (h : wq_C g E Y cc nL own ret d) {x y : Int64} (hd : decode cc pc = .ok (.lrem, 1)) (hne : ¬ y = 0) (k : wq_g g E Y nL (pc + 1) lv (.long (x - x / y * y) :: st) M) : wq_g g E Y nL pc lv (.long y :: .long x :: st) M := by
  obtain ⟨r0, M0, p, l, e, R, s, m, args, below, meth, c⟩ := g
  obtain ⟨hx, hb, hml, hown, hts, hK, hi, hS, hlk, hr, rfl⟩ := h
  intro H ls locs hl hP hW
  exact lv_lrem hx hb hd hne (k H ls locs hl hP hW)

theorem wq_i2l (h : wq_C g E Y cc nL own ret d) {x : Int32} (hd : decode cc pc = .ok (.i2l, 1))  (k : wq_g g E Y nL (pc + 1) lv (.long x.toInt64 :: st) M) : wq_g g E Y nL pc lv (.int x :: st) M := by
  obtain ⟨r0, M0, p, l, e, R, s, m, args, below, meth, c⟩ := g
  obtain ⟨hx, hb, hml, hown, hts, hK, hi, hS, hlk, hr, rfl⟩ := h
  intro H ls locs hl hP hW
  exact lv_i2l hx hb hd rfl (k H ls locs hl hP hW)

theorem wq_l2i (h : wq_C g E Y cc nL own ret d) {x : Int64} (hd : decode cc pc = .ok (.l2i, 1))  (k : wq_g g E Y nL (pc + 1) lv (.int x.toInt32 :: st) M) : wq_g g E Y nL pc lv (.long x :: st) M := by
  obtain ⟨r0, M0, p, l, e, R, s, m, args, below, meth, c⟩ := g
  obtain ⟨hx, hb, hml, hown, hts, hK, hi, hS, hlk, hr, rfl⟩ := h
  intro H ls locs hl hP hW
  exact lv_l2i hx hb hd rfl (k H ls locs hl hP hW)

theorem wq_i2b (h : wq_C g E Y cc nL own ret d) {x : Int32} (hd : decode cc pc = .ok (.i2b, 1))  (k : wq_g g E Y nL (pc + 1) lv (.int x.toInt8.toInt32 :: st) M) : wq_g g E Y nL pc lv (.int x :: st) M := by
  obtain ⟨r0, M0, p, l, e, R, s, m, args, below, meth, c⟩ := g
  obtain ⟨hx, hb, hml, hown, hts, hK, hi, hS, hlk, hr, rfl⟩ := h
  intro H ls locs hl hP hW
  exact lv_i2b hx hb hd rfl (k H ls locs hl hP hW)

theorem wq_i2s (h : wq_C g E Y cc nL own ret d) {x : Int32} (hd : decode cc pc = .ok (.i2s, 1))  (k : wq_g g E Y nL (pc + 1) lv (.int x.toInt16.toInt32 :: st) M) : wq_g g E Y nL pc lv (.int x :: st) M := by
  obtain ⟨r0, M0, p, l, e, R, s, m, args, below, meth, c⟩ := g
  obtain ⟨hx, hb, hml, hown, hts, hK, hi, hS, hlk, hr, rfl⟩ := h
  intro H ls locs hl hP hW
  exact lv_i2s hx hb hd rfl (k H ls locs hl hP hW)

theorem wq_lcmp (h : wq_C g E Y cc nL own ret d) {x y : Int64} (hd : decode cc pc = .ok (.lcmp, 1)) (k : wq_g g E Y nL (pc + 1) lv (.int (lg_cmp x y) :: st) M) : wq_g g E Y nL pc lv (.long y :: .long x :: st) M := by
  obtain ⟨r0, M0, p, l, e, R, s, m, args, below, meth, c⟩ := g
  obtain ⟨hx, hb, hml, hown, hts, hK, hi, hS, hlk, hr, rfl⟩ := h
  intro H ls locs hl hP hW
  exact W.lcmp hx hb hd (k H ls locs hl hP hW)

theorem wq_dup (h : wq_C g E Y cc nL own ret d) {va : Value} (hd : decode cc pc = .ok (.dup, 1)) (hc : va.category = 1) (k : wq_g g E Y nL (pc + 1) lv (va :: va :: st) M) : wq_g g E Y nL pc lv (va :: st) M := by
  obtain ⟨r0, M0, p, l, e, R, s, m, args, below, meth, c⟩ := g
  obtain ⟨hx, hb, hml, hown, hts, hK, hi, hS, hlk, hr, rfl⟩ := h
  intro H ls locs hl hP hW
  exact lv_dup hx hb hd hc (k H ls locs hl hP hW)

theorem wq_dup2 (h : wq_C g E Y cc nL own ret d) {va vb : Value} (hd : decode cc pc = .ok (.dup2, 1)) (hc : va.category = 1) (hc2 : vb.category = 1) (k : wq_g g E Y nL (pc + 1) lv (va :: vb :: va :: vb :: st) M) : wq_g g E Y nL pc lv (va :: vb :: st) M := by
  obtain ⟨r0, M0, p, l, e, R, s, m, args, below, meth, c⟩ := g
  obtain ⟨hx, hb, hml, hown, hts, hK, hi, hS, hlk, hr, rfl⟩ := h
  intro H ls locs hl hP hW
  exact lv_dup2_11 hx hb hd hc hc2 (k H ls locs hl hP hW)

theorem wq_pop (h : wq_C g E Y cc nL own ret d) {va : Value} (hd : decode cc pc = .ok (.pop, 1)) (hc : va.category = 1) (k : wq_g g E Y nL (pc + 1) lv (st) M) : wq_g g E Y nL pc lv (va :: st) M := by
  obtain ⟨r0, M0, p, l, e, R, s, m, args, below, meth, c⟩ := g
  obtain ⟨hx, hb, hml, hown, hts, hK, hi, hS, hlk, hr, rfl⟩ := h
  intro H ls locs hl hP hW
  exact lv_pop hx hb hd hc (k H ls locs hl hP hW)

theorem wq_if_eq (h : wq_C g E Y cc nL own ret d) {x : Int32} {off : Int} {tgt : Nat} (hd : decode cc pc = .ok (.ifCond .eq off, 3)) (ht : (pc : Int) + off = (tgt : Int)) (kt : x = 0 → wq_g g E Y nL tgt lv st M) (kf : ¬ x = 0 → wq_g g E Y nL (pc + 3) lv st M) : wq_g g E Y nL pc lv (.int x :: st) M := by
  obtain ⟨r0, M0, p, l, e, R, s, m, args, below, meth, c⟩ := g
  obtain ⟨hx, hb, hml, hown, hts, hK, hi, hS, hlk, hr, rfl⟩ := h
  intro H ls locs hl hP hW
  exact lv_if_eq hx hb hd ht (fun z => kt z H ls locs hl hP hW) (fun z => kf z H ls locs hl hP hW)

theorem wq_if_ne (h : wq_C g E Y cc nL own ret d) {x : Int32} {off : Int} {tgt : Nat} (hd : decode cc pc = .ok (.ifCond .ne off, 3)) (ht : (pc : Int) + off = (tgt : Int)) (kt : ¬ x = 0 → wq_g g E Y nL tgt lv st M) (kf : x = 0 → wq_g g E Y nL (pc + 3) lv st M) : wq_g g E Y nL pc lv (.int x :: st) M := by
  obtain ⟨r0, M0, p, l, e, R, s, m, args, below, meth, c⟩ := g
  obtain ⟨hx, hb, hml, hown, hts, hK, hi, hS, hlk, hr, rfl⟩ := h
  intro H ls locs hl hP hW
  exact lv_if_ne hx hb hd ht (fun z => kt z H ls locs hl hP hW) (fun z => kf z H ls locs hl hP hW)

theorem wq_if_lt (h : wq_C g E Y cc nL own ret d) {x : Int32} {off : Int} {tgt : Nat} (hd : decode cc pc = .ok (.ifCond .lt off, 3)) (ht : (pc : Int) + off = (tgt : Int)) (kt : x < 0 → wq_g g E Y nL tgt lv st M) (kf : ¬ x < 0 → wq_g g E Y nL (pc + 3) lv st M) : wq_g g E Y nL pc lv (.int x :: st) M := by
  obtain ⟨r0, M0, p, l, e, R, s, m, args, below, meth, c⟩ := g
  obtain ⟨hx, hb, hml, hown, hts, hK, hi, hS, hlk, hr, rfl⟩ := h
  intro H ls locs hl hP hW
  exact lv_if_lt hx hb hd ht (fun z => kt z H ls locs hl hP hW) (fun z => kf z H ls locs hl hP hW)

theorem wq_if_ge (h : wq_C g E Y cc nL own ret d) {x : Int32} {off : Int} {tgt : Nat} (hd : decode cc pc = .ok (.ifCond .ge off, 3)) (ht : (pc : Int) + off = (tgt : Int)) (kt : 0 ≤ x → wq_g g E Y nL tgt lv st M) (kf : ¬ 0 ≤ x → wq_g g E Y nL (pc + 3) lv st M) : wq_g g E Y nL pc lv (.int x :: st) M := by
  obtain ⟨r0, M0, p, l, e, R, s, m, args, below, meth, c⟩ := g
  obtain ⟨hx, hb, hml, hown, hts, hK, hi, hS, hlk, hr, rfl⟩ := h
  intro H ls locs hl hP hW
  exact lv_if_ge hx hb hd ht (fun z => kt z H ls locs hl hP hW) (fun z => kf z H ls locs hl hP hW)

theorem wq_if_gt (h : wq_C g E Y cc nL own ret d) {x : Int32} {off : Int} {tgt : Nat} (hd : decode cc pc = .ok (.ifCond .gt off, 3)) (ht : (pc : Int) + off = (tgt : Int)) (kt : 0 < x → wq_g g E Y nL tgt lv st M) (kf : ¬ 0 < x → wq_g g E Y nL (pc + 3) lv st M) : wq_g g E Y nL pc lv (.int x :: st) M := by
  obtain ⟨r0, M0, p, l, e, R, s, m, args, below, meth, c⟩ := g
  obtain ⟨hx, hb, hml, hown, hts, hK, hi, hS, hlk, hr, rfl⟩ := h
  intro H ls locs hl hP hW
  exact lv_if_gt hx hb hd ht (fun z => kt z H ls locs hl hP hW) (fun z => kf z H ls locs hl hP hW)

theorem wq_if_le (h : wq_C g E Y cc nL own ret d) {x : Int32} {off : Int} {tgt : Nat} (hd : decode cc pc = .ok (.ifCond .le off, 3)) (ht : (pc : Int) + off = (tgt : Int)) (kt : x ≤ 0 → wq_g g E Y nL tgt lv st M) (kf : ¬ x ≤ 0 → wq_g g E Y nL (pc + 3) lv st M) : wq_g g E Y nL pc lv (.int x :: st) M := by
  obtain ⟨r0, M0, p, l, e, R, s, m, args, below, meth, c⟩ := g
  obtain ⟨hx, hb, hml, hown, hts, hK, hi, hS, hlk, hr, rfl⟩ := h
  intro H ls locs hl hP hW
  exact lv_if_le hx hb hd ht (fun z => kt z H ls locs hl hP hW) (fun z => kf z H ls locs hl hP hW)

theorem wq_icmp_eq (h : wq_C g E Y cc nL own ret d) {x y : Int32} {off : Int} {tgt : Nat} (hd : decode cc pc = .ok (.if_icmp .eq off, 3)) (ht : (pc : Int) + off = (tgt : Int)) (kt : x = y → wq_g g E Y nL tgt lv st M) (kf : ¬ x = y → wq_g g E Y nL (pc + 3) lv st M) : wq_g g E Y nL pc lv (.int y :: .int x :: st) M := by
  obtain ⟨r0, M0, p, l, e, R, s, m, args, below, meth, c⟩ := g
  obtain ⟨hx, hb, hml, hown, hts, hK, hi, hS, hlk, hr, rfl⟩ := h
  intro H ls locs hl hP hW
  exact lv_icmp_eq hx hb hd ht (fun z => kt z H ls locs hl hP hW) (fun z => kf z H ls locs hl hP hW)

theorem wq_icmp_ne (h : wq_C g E Y cc nL own ret d) {x y : Int32} {off : Int} {tgt : Nat} (hd : decode cc pc = .ok (.if_icmp .ne off, 3)) (ht : (pc : Int) + off = (tgt : Int)) (kt : ¬ x = y → wq_g g E Y nL tgt lv st M) (kf : x = y → wq_g g E Y nL (pc + 3) lv st M) : wq_g g E Y nL pc lv (.int y :: .int x :: st) M := by
  obtain ⟨r0, M0, p, l, e, R, s, m, args, below, meth, c⟩ := g
  obtain ⟨hx, hb, hml, hown, hts, hK, hi, hS, hlk, hr, rfl⟩ := h
  intro H ls locs hl hP hW
  exact lv_icmp_ne hx hb hd ht (fun z => kt z H ls locs hl hP hW) (fun z => kf z H ls locs hl hP hW)

theorem wq_icmp_lt (h : wq_C g E Y cc nL own ret d) {x y : Int32} {off : Int} {tgt : Nat} (hd : decode cc pc = .ok (.if_icmp .lt off, 3)) (ht : (pc : Int) + off = (tgt : Int)) (kt : x < y → wq_g g E Y nL tgt lv st M) (kf : ¬ x < y → wq_g g E Y nL (pc + 3) lv st M) : wq_g g E Y nL pc lv (.int y :: .int x :: st) M := by
  obtain ⟨r0, M0, p, l, e, R, s, m, args, below, meth, c⟩ := g
  obtain ⟨hx, hb, hml, hown, hts, hK, hi, hS, hlk, hr, rfl⟩ := h
  intro H ls locs hl hP hW
  exact lv_icmp_lt hx hb hd ht (fun z => kt z H ls locs hl hP hW) (fun z => kf z H ls locs hl hP hW)

theorem wq_icmp_ge (h : wq_C g E Y cc nL own ret d) {x y : Int32} {off : Int} {tgt : Nat} (hd : decode cc pc = .ok (.if_icmp .ge off, 3)) (ht : (pc : Int) + off = (tgt : Int)) (kt : y ≤ x → wq_g g E Y nL tgt lv st M) (kf : ¬ y ≤ x → wq_g g E Y nL (pc + 3) lv st M) : wq_g g E Y nL pc lv (.int y :: .int x :: st) M := by
  obtain ⟨r0, M0, p, l, e, R, s, m, args, below, meth, c⟩ := g
  obtain ⟨hx, hb, hml, hown, hts, hK, hi, hS, hlk, hr, rfl⟩ := h
  intro H ls locs hl hP hW
  exact lv_icmp_ge hx hb hd ht (fun z => kt z H ls locs hl hP hW) (fun z => kf z H ls locs hl hP hW)

theorem wq_icmp_gt (h : wq_C g E Y cc nL own ret d) {x y : Int32} {off : Int} {tgt : Nat} (hd : decode cc pc = .ok (.if_icmp .gt off, 3)) (ht : (pc : Int) + off = (tgt : Int)) (kt : y < x → wq_g g E Y nL tgt lv st M) (kf : ¬ y < x → wq_g g E Y nL (pc + 3) lv st M) : wq_g g E Y nL pc lv (.int y :: .int x :: st) M := by
  obtain ⟨r0, M0, p, l, e, R, s, m, args, below, meth, c⟩ := g
  obtain ⟨hx, hb, hml, hown, hts, hK, hi, hS, hlk, hr, rfl⟩ := h
  intro H ls locs hl hP hW
  exact lv_icmp_gt hx hb hd ht (fun z => kt z H ls locs hl hP hW) (fun z => kf z H ls locs hl hP hW)

theorem wq_icmp_le (h : wq_C g E Y cc nL own ret d) {x y : Int32} {off : Int} {tgt : Nat} (hd : decode cc pc = .ok (.if_icmp .le off, 3)) (ht : (pc : Int) + off = (tgt : Int)) (kt : x ≤ y → wq_g g E Y nL tgt lv st M) (kf : ¬ x ≤ y → wq_g g E Y nL (pc + 3) lv st M) : wq_g g E Y nL pc lv (.int y :: .int x :: st) M := by
  obtain ⟨r0, M0, p, l, e, R, s, m, args, below, meth, c⟩ := g
  obtain ⟨hx, hb, hml, hown, hts, hK, hi, hS, hlk, hr, rfl⟩ := h
  intro H ls locs hl hP hW
  exact lv_icmp_le hx hb hd ht (fun z => kt z H ls locs hl hP hW) (fun z => kf z H ls locs hl hP hW)

theorem wq_goto (h : wq_C g E Y cc nL own ret d) {off : Int} {tgt : Nat} (hd : decode cc pc = .ok (.goto off, 3)) (ht : (pc : Int) + off = (tgt : Int)) (k : wq_g g E Y nL tgt lv st M) : wq_g g E Y nL pc lv st M := by
  obtain ⟨r0, M0, p, l, e, R, s, m, args, below, meth, c⟩ := g
  obtain ⟨hx, hb, hml, hown, hts, hK, hi, hS, hlk, hr, rfl⟩ := h
  intro H ls locs hl hP hW
  exact lv_goto hx hb hd ht (k H ls locs hl hP hW)

theorem wq_lookup (h : wq_C g E Y cc nL own ret d) {dflt : Int} {ps : Array (Int × Int)} {len : Nat} {x : Int32} {off : Int} {tgt : Nat} (hd : decode cc pc = .ok (.lookupswitch dflt ps, len)) (hp : (ps.toList.zip (ps.toList.drop 1)).all (fun (a, next) => a.1 < next.1) = true) (ho : Op.lookupswitch.offset ps.toList dflt x.toInt = off) (ht : (pc : Int) + off = (tgt : Int)) (k : wq_g g E Y nL tgt lv st M) : wq_g g E Y nL pc lv (.int x :: st) M := by
  obtain ⟨r0, M0, p, l, e, R, s, m, args, below, meth, c⟩ := g
  obtain ⟨hx, hb, hml, hown, hts, hK, hi, hS, hlk, hr, rfl⟩ := h
  intro H ls locs hl hP hW
  exact lv_lookup hx hb hd hp ho ht (k H ls locs hl hP hW)

theorem wq_tableOut (h : wq_C g E Y cc nL own ret d) {dflt lo hi2 : Int} {offs : Array Int} {len : Nat} {x : Int32} {tgt : Nat} (hd : decode cc pc = .ok (.tableswitch dflt lo hi2 offs, len)) (ho : x.toInt < lo ∨ hi2 < x.toInt) (ht : (pc : Int) + dflt = (tgt : Int)) (k : wq_g g E Y nL tgt lv st M) : wq_g g E Y nL pc lv (.int x :: st) M := by
  obtain ⟨r0, M0, p, l, e, R, s, m, args, below, meth, c⟩ := g
  obtain ⟨hx, hb, hml, hown, hts, hK, hi, hS, hlk, hr, rfl⟩ := h
  intro H ls locs hl hP hW
  exact lv_tableOut hx hb hd ho ht (k H ls locs hl hP hW)

theorem wq_tableIn (h : wq_C g E Y cc nL own ret d) {dflt lo hi2 : Int} {offs : Array Int} {len : Nat} {x : Int32} {off : Int} {tgt : Nat} (hd : decode cc pc = .ok (.tableswitch dflt lo hi2 offs, len)) (h1 : ¬ x.toInt < lo) (h2 : ¬ hi2 < x.toInt) (ho : offs[(x.toInt - lo).toNat]? = some off) (ht : (pc : Int) + off = (tgt : Int)) (k : wq_g g E Y nL tgt lv st M) : wq_g g E Y nL pc lv (.int x :: st) M := by
  obtain ⟨r0, M0, p, l, e, R, s, m, args, below, meth, c⟩ := g
  obtain ⟨hx, hb, hml, hown, hts, hK, hi, hS, hlk, hr, rfl⟩ := h
  intro H ls locs hl hP hW
  exact lv_tableIn hx hb hd h1 h2 ho ht (k H ls locs hl hP hW)

theorem wq_ldc (h : wq_C g E Y cc nL own ret d) {idx : Nat} {v : Int32} (hc : Jvm.Cond.constant own idx v ∈ wq_TB) (hd : decode cc pc = .ok (.ldc idx, 2)) (k : wq_g g E Y nL (pc + 2) lv (.int v :: st) M) : wq_g g E Y nL pc lv st M := by
  obtain ⟨r0, M0, p, l, e, R, s, m, args, below, meth, c⟩ := g
  obtain ⟨hx, hb, hml, hown, hts, hK, hi, hS, hlk, hr, rfl⟩ := h
  intro H ls locs hl hP hW
  exact lv_ldc hx hb hown (hts _ hc) hd (k H ls locs hl hP hW)

theorem wq_ldc_w (h : wq_C g E Y cc nL own ret d) {idx : Nat} {v : Int32} (hc : Jvm.Cond.constant own idx v ∈ wq_TB) (hd : decode cc pc = .ok (.ldc_w idx, 3)) (k : wq_g g E Y nL (pc + 3) lv (.int v :: st) M) : wq_g g E Y nL pc lv st M := by
  obtain ⟨r0, M0, p, l, e, R, s, m, args, below, meth, c⟩ := g
  obtain ⟨hx, hb, hml, hown, hts, hK, hi, hS, hlk, hr, rfl⟩ := h
  intro H ls locs hl hP hW
  exact lv_ldcw hx hb hown (hts _ hc) hd (k H ls locs hl hP hW)

theorem wq_ldc2 (h : wq_C g E Y cc nL own ret d) {idx : Nat} {v : Int64} (hc : Jvm.Cond.constantLong own idx v ∈ wq_TB) (hd : decode cc pc = .ok (.ldc2_w idx, 3)) (k : wq_g g E Y nL (pc + 3) lv (.long v :: st) M) : wq_g g E Y nL pc lv st M := by
  obtain ⟨r0, M0, p, l, e, R, s, m, args, below, meth, c⟩ := g
  obtain ⟨hx, hb, hml, hown, hts, hK, hi, hS, hlk, hr, rfl⟩ := h
  intro H ls locs hl hP hW
  exact lv_ldc2 hx hb hown (hts _ hc) hd (k H ls locs hl hP hW)

theorem wq_get (h : wq_C g E Y cc nL own ret d) {p0 ci kf idx N0 : Nat} {C0 : String} {T0 : u_T} {v : Value} (hp : p0 < Y.1) (hk : Y.2.1 p0 = ci) (hc8 : ci < 8) (hc : wq_cl[ci]? = some (C0, T0, N0)) (hin : ∀ w ∈ u_ws C0 T0 N0, w ∈ wq_TB) (hkN : kf < N0) (hf : (wq_fl E.2.1 M p0 ci)[kf]? = some v) (hlink : Cond.fieldLink own idx (T0 kf).1 (T0 kf).2.1 (T0 kf).2.2.1 ∈ wq_TB) (hd : decode cc pc = .ok (.getfield idx, 3)) (k : wq_g g E Y nL (pc + 3) lv (v :: st) M) : wq_g g E Y nL pc lv (.ref (E.2.1 p0) :: st) M := by
  obtain ⟨r0, M0, p, l, e, R, s, m, args, below, meth, c⟩ := g
  obtain ⟨hx, hb, hml, hown, hts, hK, hi, hS, hlk, hr, rfl⟩ := h
  intro H ls locs hl hP hW
  exact va_get hx hb hts hin hown hK hP p0 (by rw [wq_ws_at hp, wq_ce_o hk hc8]) hc kf hkN (hts _ hlink) (fun _ z => z) hf hd (k H ls locs hl hP hW)

theorem wq_put (h : wq_C g E Y cc nL own ret d) {p0 ci kf idx N0 : Nat} {C0 : String} {T0 : u_T} {v : Value} {M1 : wq_M} {ty : FieldType} (ty0 : Nat → FieldType) (hty : ∀ k, k < N0 → parseFieldDescriptor (T0 k).2.2.1 = some (ty0 k)) (hnm : ∀ a, a < N0 → ∀ b, b < N0 → a ≠ b → (T0 a).2.1 ≠ (T0 b).2.1) (hp : p0 < Y.1) (hk : Y.2.1 p0 = ci) (hc8 : ci < 8) (hc : wq_cl[ci]? = some (C0, T0, N0)) (hin : ∀ w ∈ u_ws C0 T0 N0, w ∈ wq_TB) (hkN : kf < N0) (hfin : (T0 kf).2.2.2 = false) (hdt : parseFieldDescriptor (T0 kf).2.2.1 = some ty) (hn : narrow ty v = v) (hfit : fits ty v = true) (hlen : kf < (wq_fl E.2.1 M p0 ci).length) (hset : wq_fl E.2.1 M1 p0 ci = (wq_fl E.2.1 M p0 ci).set kf v) (hne : ∀ q, q ≠ p0 → M1.1 q = M.1 q ∧ M1.2 q = M.2 q) (hlink : Cond.fieldLink own idx (T0 kf).1 (T0 kf).2.1 (T0 kf).2.2.1 ∈ wq_TB) (hd : decode cc pc = .ok (.putfield idx, 3)) (k : wq_g g E Y nL (pc + 3) lv st M1) : wq_g g E Y nL pc lv (v :: .ref (E.2.1 p0) :: st) M := by
  obtain ⟨r0, M0, p, l, e, R, s, m, args, below, meth, c⟩ := g
  obtain ⟨hx, hb, hml, hown, hts, hK, hi, hS, hlk, hr, rfl⟩ := h
  intro H ls locs hl hP hW
  refine va_put hx hb hts hin ty0 hty hnm hown hK hP (wq_D hi) hW p0 (by rw [wq_ws_at hp, wq_ce_o hk hc8]) hc kf hkN (hts _ hlink) (fun _ z => z) hfin hdt hn hfit hlen hd (fun H1 locs1 hP1 _ hS1 => ?_)
  rw [wq_ws_set (M' := M1) hp (by rw [wq_ce_o hk hc8, hset]) (fun q hq => wq_ce_congr (hne q hq).1 (hne q hq).2)] at hP1
  exact k H1 ls locs1 hl hP1 hS1

theorem wq_iald (h : wq_C g E Y cc nL own ret d) {p0 n : Nat} {i : Int32} (hp : p0 < Y.1) (hk : Y.2.1 p0 = 8) (hn : Y.2.2 p0 = n) (hin : wq_in i n = true) (hd : decode cc pc = .ok (.iaload, 1)) (k : wq_g g E Y nL (pc + 1) lv (.int (M.1 p0 i.toNatClampNeg) :: st) M) : wq_g g E Y nL pc lv (.int i :: .ref (E.2.1 p0) :: st) M := by
  obtain ⟨r0, M0, p, l, e, R, s, m, args, below, meth, c⟩ := g
  obtain ⟨hx, hb, hml, hown, hts, hK, hi, hS, hlk, hr, rfl⟩ := h
  intro H ls locs hl hP hW
  exact va_iald hx hb hK hP p0 0 (by rw [wq_ws_at hp, wq_ce_i hk hn]) rfl (wq_in_vp hin) hd (k H ls locs hl hP hW)

theorem wq_zald (h : wq_C g E Y cc nL own ret d) {p0 n : Nat} {i : Int32} (hp : p0 < Y.1) (hk : Y.2.1 p0 = 9) (hn : Y.2.2 p0 = n) (hin : wq_in i n = true) (hd : decode cc pc = .ok (.baload, 1)) (k : wq_g g E Y nL (pc + 1) lv (.int (M.1 p0 i.toNatClampNeg) :: st) M) : wq_g g E Y nL pc lv (.int i :: .ref (E.2.1 p0) :: st) M := by
  obtain ⟨r0, M0, p, l, e, R, s, m, args, below, meth, c⟩ := g
  obtain ⟨hx, hb, hml, hown, hts, hK, hi, hS, hlk, hr, rfl⟩ := h
  intro H ls locs hl hP hW
  exact va_zald hx hb hK hP p0 1 (by rw [wq_ws_at hp, wq_ce_z hk hn]) rfl (wq_in_vp hin) hd (k H ls locs hl hP hW)

theorem wq_iast (h : wq_C g E Y cc nL own ret d) {p0 n : Nat} {i x : Int32} (hp : p0 < Y.1) (hk : Y.2.1 p0 = 8) (hn : Y.2.2 p0 = n) (hin : wq_in i n = true) (hd : decode cc pc = .ok (.iastore, 1)) (k : wq_g g E Y nL (pc + 1) lv st (wq_st M p0 i.toNatClampNeg x)) : wq_g g E Y nL pc lv (.int x :: .int i :: .ref (E.2.1 p0) :: st) M := by
  obtain ⟨r0, M0, p, l, e, R, s, m, args, below, meth, c⟩ := g
  obtain ⟨hx, hb, hml, hown, hts, hK, hi, hS, hlk, hr, rfl⟩ := h
  intro H ls locs hl hP hW
  refine va_iast hx hb hK hP (wq_D hi) hW p0 0 (by rw [wq_ws_at hp, wq_ce_i hk hn]) rfl (wq_in_vp hin) hd (fun H1 locs1 hP1 _ hS1 => ?_)
  rw [wq_ws_set (M' := wq_st M p0 i.toNatClampNeg x) hp (by rw [wq_ce_i hk hn, wq_st_self]) (fun q hq => wq_ce_congr (wq_st_ne hq) rfl)] at hP1
  exact k H1 ls locs1 hl hP1 hS1

theorem wq_zast (h : wq_C g E Y cc nL own ret d) {p0 n : Nat} {i x : Int32} (hp : p0 < Y.1) (hk : Y.2.1 p0 = 9) (hn : Y.2.2 p0 = n) (hin : wq_in i n = true) (hx1 : vp_nar .boolean x = x) (hd : decode cc pc = .ok (.bastore, 1)) (k : wq_g g E Y nL (pc + 1) lv st (wq_st M p0 i.toNatClampNeg x)) : wq_g g E Y nL pc lv (.int x :: .int i :: .ref (E.2.1 p0) :: st) M := by
  obtain ⟨r0, M0, p, l, e, R, s, m, args, below, meth, c⟩ := g
  obtain ⟨hx, hb, hml, hown, hts, hK, hi, hS, hlk, hr, rfl⟩ := h
  intro H ls locs hl hP hW
  refine va_zast hx hb hK hP (wq_D hi) hW p0 1 (by rw [wq_ws_at hp, wq_ce_z hk hn]) rfl (wq_in_vp hin) hd (fun H1 locs1 hP1 _ hS1 => ?_)
  rw [hx1, wq_ws_set (M' := wq_st M p0 i.toNatClampNeg x) hp (by rw [wq_ce_z hk hn, wq_st_self]) (fun q hq => wq_ce_congr (wq_st_ne hq) rfl)] at hP1
  exact k H1 ls locs1 hl hP1 hS1

theorem wq_aldR (h : wq_C g E Y cc nL own ret d) {p0 n : Nat} {i : Int32} (hp : p0 < Y.1) (hk : Y.2.1 p0 = 10) (hn : Y.2.2 p0 = n) (hin : wq_in i n = true) (hd : decode cc pc = .ok (.aaload, 1)) (k : wq_g g E Y nL (pc + 1) lv (.ref (E.2.1 (2 + 2 * i.toNatClampNeg)) :: st) M) : wq_g g E Y nL pc lv (.int i :: .ref (E.2.1 p0) :: st) M := by
  obtain ⟨r0, M0, p, l, e, R, s, m, args, below, meth, c⟩ := g
  obtain ⟨hx, hb, hml, hown, hts, hK, hi, hS, hlk, hr, rfl⟩ := h
  intro H ls locs hl hP hW
  exact va_aldq (f := fun i => some (E.2.1 (2 + 2 * i))) hx hb hK hP p0 2 (by rw [wq_ws_at hp, wq_ce_r hk hn]) rfl (wq_in_vp hin) hd (k H ls locs hl hP hW)

theorem wq_aldW (h : wq_C g E Y cc nL own ret d) {p0 n : Nat} {i : Int32} (hp : p0 < Y.1) (hk : Y.2.1 p0 = 11) (hn : Y.2.2 p0 = n) (hin : wq_in i n = true) (hd : decode cc pc = .ok (.aaload, 1)) (k : wq_g g E Y nL (pc + 1) lv (.ref (E.2.1 (31 + 5 * i.toNatClampNeg)) :: st) M) : wq_g g E Y nL pc lv (.int i :: .ref (E.2.1 p0) :: st) M := by
  obtain ⟨r0, M0, p, l, e, R, s, m, args, below, meth, c⟩ := g
  obtain ⟨hx, hb, hml, hown, hts, hK, hi, hS, hlk, hr, rfl⟩ := h
  intro H ls locs hl hP hW
  exact va_aldq (f := fun i => some (E.2.1 (31 + 5 * i))) hx hb hK hP p0 3 (by rw [wq_ws_at hp, wq_ce_w hk hn]) rfl (wq_in_vp hin) hd (k H ls locs hl hP hW)

theorem wq_alen (h : wq_C g E Y cc nL own ret d) {p0 n : Nat} {v : Int32} (hp : p0 < Y.1) (hk : Y.2.1 p0 = 8) (hn : Y.2.2 p0 = n) (hv : Int32.ofNat n = v) (hd : decode cc pc = .ok (.arraylength, 1)) (k : wq_g g E Y nL (pc + 1) lv (.int v :: st) M) : wq_g g E Y nL pc lv (.ref (E.2.1 p0) :: st) M := by
  obtain ⟨r0, M0, p, l, e, R, s, m, args, below, meth, c⟩ := g
  obtain ⟨hx, hb, hml, hown, hts, hK, hi, hS, hlk, hr, rfl⟩ := h
  intro H ls locs hl hP hW
  exact va_alen hx hb hK hP p0 0 (by rw [wq_ws_at hp, wq_ce_i hk hn]) rfl hv hd (k H ls locs hl hP hW)

theorem wq_copy (h : wq_C g E Y cc nL own ret d) {p0 p1 n0 n1 idx : Nat} {sp dp n : Int32} (hlink : Cond.methodLink own idx arraycopyName ∈ wq_TB) (hnat : Cond.native arraycopyName ∈ wq_TB) (hstat : Cond.static arraycopyName ∈ wq_TB) (hini : Cond.initialized "java/lang/System" ∈ wq_TB) (hp0 : p0 < Y.1) (hk0 : Y.2.1 p0 = 8) (hn0 : Y.2.2 p0 = n0) (hp1 : p1 < Y.1) (hk1 : Y.2.1 p1 = 8) (hn1 : Y.2.2 p1 = n1) (h1 : ¬ sp < 0) (h2 : ¬ dp < 0) (h3 : ¬ n < 0) (h4 : sp.toNatClampNeg + n.toNatClampNeg ≤ n0) (h5 : dp.toNatClampNeg + n.toNatClampNeg ≤ n1) (hst : (st.map fun v => v.category).sum ≤ 8) (hd : decode cc pc = .ok (.invokestatic idx, 3)) (k : wq_g g E Y nL (pc + 3) lv st (wq_cp M p0 sp.toNatClampNeg p1 dp.toNatClampNeg n.toNatClampNeg)) : wq_g g E Y nL pc lv (.int n :: .int dp :: .ref (E.2.1 p1) :: .int sp :: .ref (E.2.1 p0) :: st) M := by
  obtain ⟨r0, M0, p, l, e, R, s, m, args, below, meth, c⟩ := g
  obtain ⟨hx, hb, hml, hown, hts, hK, hi, hS, hlk, hr, rfl⟩ := h
  intro H ls locs hl hP hW
  refine va_copyi hx hb (by rw [hml, hl.1]) hown (hts _ hlink) (hts _ hnat) (hts _ hstat) (hts _ hini) hK hP (wq_D hi) hW p0 p1 0 0 (by rw [wq_ws_at hp0, wq_ce_i hk0 hn0]) (by rw [wq_ws_at hp1, wq_ce_i hk1 hn1]) rfl rfl rfl h1 h2 h3 h4 h5 (fun _ _ => rfl) (by show 1 ≤ d + 1; omega) ?_ hd (fun H1 locs1 hP1 _ hS1 => ?_)
  · have e : nativeFrameWords "java/lang/System" "arraycopy" 5 + 11 ≤ 56 := by decide +kernel
    show _ ≤ 64 * (d + 1)
    omega
  · rw [wq_ws_set (M' := wq_cp M p0 sp.toNatClampNeg p1 dp.toNatClampNeg n.toNatClampNeg) hp1 (by rw [wq_ce_i hk1 hn1, wq_cp_self]) (fun q hq => wq_ce_congr (wq_cp_ne hq) rfl)] at hP1
    exact k H1 ls locs1 hl hP1 hS1

theorem wq_gets (h : wq_C g E Y cc nL own ret d) (ks : Nat) {idx : Nat} (hks : ks < 6) (hlink : Cond.fieldLink own idx (wq_sn ks).1 (wq_sn ks).2 "[I" ∈ wq_TB) (hd : decode cc pc = .ok (.getstatic idx, 3)) (k : wq_g g E Y nL (pc + 3) lv (.ref (E.2.2.2 ks) :: st) M) : wq_g g E Y nL pc lv st M := by
  obtain ⟨r0, M0, p, l, e, R, s, m, args, below, meth, c⟩ := g
  obtain ⟨hx, hb, hml, hown, hts, hK, hi, hS, hlk, hr, rfl⟩ := h
  intro H ls locs hl hP hW
  exact va_gets hx hb (hS.1 ks hks).1 hW hown (hts _ hlink) (fun _ z => z) hd (k H ls locs hl hP hW)

theorem wq_getsN (h : wq_C g E Y cc nL own ret d) (ks : Nat) {idx : Nat} {host : String} (hks : ks < 6) (hlink : Cond.fieldLinkNest own idx (wq_sn ks).1 (wq_sn ks).2 "[I" host ∈ wq_nw) (hd : decode cc pc = .ok (.getstatic idx, 3)) (k : wq_g g E Y nL (pc + 3) lv (.ref (E.2.2.2 ks) :: st) M) : wq_g g E Y nL pc lv st M := by
  obtain ⟨r0, M0, p, l, e, R, s, m, args, below, meth, c⟩ := g
  obtain ⟨hx, hb, hml, hown, hts, hK, hi, hS, hlk, hr, rfl⟩ := h
  intro H ls locs hl hP hW
  exact va_getsN hx hb (hS.1 ks hks).1 hW hown (va_Nw.use rfl (hS.2 _ hlink)) (fun _ z => z) hd (k H ls locs hl hP hW)

theorem wq_tald (h : wq_C g E Y cc nL own ret d) (ks : Nat) {n : Nat} {i : Int32} (hks : ks < 6) (hn : wq_sl ks = n) (hin : wq_in i n = true) (hd : decode cc pc = .ok (.iaload, 1)) (k : wq_g g E Y nL (pc + 1) lv (.int (wq_sf ks i.toNatClampNeg) :: st) M) : wq_g g E Y nL pc lv (.int i :: .ref (E.2.2.2 ks) :: st) M := by
  obtain ⟨r0, M0, p, l, e, R, s, m, args, below, meth, c⟩ := g
  obtain ⟨hx, hb, hml, hown, hts, hK, hi, hS, hlk, hr, rfl⟩ := h
  intro H ls locs hl hP hW
  subst hn
  exact va_ti hx hb (hS.1 ks hks).2 hW (wq_in_vp hin) rfl hd (k H ls locs hl hP hW)

theorem wq_iret (h : wq_C g E Y cc nL own (some .int) d) {v : Int32} (hd : decode cc pc = .ok (.ireturn, 1)) (hr0 : g.1 = some (.int v)) (hM0 : g.2.1 = M) : wq_g g E Y nL pc lv [.int v] M := by
  obtain ⟨r0, M0, p, l, e, R, s, m, args, below, meth, c⟩ := g
  obtain ⟨hx, hb, hml, hown, hts, hK, hi, hS, hlk, hr, rfl⟩ := h
  intro H ls locs hl hP hW
  simp only at hr0 hM0
  subst hr0
  subst hM0
  exact W.iret hx hb hr (fun t ht hw => ⟨rfl, by rw [ht]; exact hP, hW.F ht⟩) hW.2.2 hd hlk

theorem wq_lret (h : wq_C g E Y cc nL own (some .long) d) {v : Int64} (hd : decode cc pc = .ok (.lreturn, 1)) (hr0 : g.1 = some (.long v)) (hM0 : g.2.1 = M) : wq_g g E Y nL pc lv [.long v] M := by
  obtain ⟨r0, M0, p, l, e, R, s, m, args, below, meth, c⟩ := g
  obtain ⟨hx, hb, hml, hown, hts, hK, hi, hS, hlk, hr, rfl⟩ := h
  intro H ls locs hl hP hW
  simp only at hr0 hM0
  subst hr0
  subst hM0
  exact W.lret hx hb hr (fun t ht hw => ⟨rfl, by rw [ht]; exact hP, hW.F ht⟩) hW.2.2 hd hlk

theorem wq_vret (h : wq_C g E Y cc nL own (none) d) (hd : decode cc pc = .ok (.return_, 1)) (hr0 : g.1 = none) (hM0 : g.2.1 = M) : wq_g g E Y nL pc lv [] M := by
  obtain ⟨r0, M0, p, l, e, R, s, m, args, below, meth, c⟩ := g
  obtain ⟨hx, hb, hml, hown, hts, hK, hi, hS, hlk, hr, rfl⟩ := h
  intro H ls locs hl hP hW
  simp only at hr0 hM0
  subst hr0
  subst hM0
  exact W.vret hx hb hr (fun t ht hw => ⟨rfl, by rw [ht]; exact hP, hW.F ht⟩) hW.2.2 hd hlk

theorem wq_zret (h : wq_C g E Y cc nL own (some .boolean) d) {v : Int32} {b : Bool} (hd : decode cc pc = .ok (.ireturn, 1)) (hv : v = wq_b b) (hr0 : g.1 = some (.int (wq_b b))) (hM0 : g.2.1 = M) : wq_g g E Y nL pc lv [.int v] M := by
  obtain ⟨r0, M0, p, l, e, R, s, m, args, below, meth, c⟩ := g
  obtain ⟨hx, hb, hml, hown, hts, hK, hi, hS, hlk, hr, rfl⟩ := h
  intro H ls locs hl hP hW
  simp only at hr0 hM0
  subst hr0
  subst hM0
  subst hv
  exact W.zret hx hb hr (by cases b <;> rfl) (fun t ht hw => ⟨rfl, by rw [ht]; exact hP, hW.F ht⟩) hW.2.2 hd hlk

theorem wq_blind {E : wq_E} {Y : wq_Y} {M : wq_M} {vs : List Value} : FrameBlind (va_Pc vs (wq_B E Y M)) := by
  intro a U g1 mk q
  obtain ⟨q0, qP, qK, qi, qS1, qS2⟩ := q
  exact ⟨q0, qP, va_K.moved (u := U) (U := U.calling g1 mk a) (Vm.Alike.refl U.vm) qK, qi, fun k hk => ⟨va_Z.moved (u := U) (U := U.calling g1 mk a) (Vm.Alike.refl U.vm) (qS1 k hk).1, va_T.moved (u := U) (U := U.calling g1 mk a) (Vm.Alike.refl U.vm) (qS1 k hk).2⟩, fun w hw => va_Nw.same (u := U) (U := U.calling g1 mk a) (by simp only [wq_nw, List.mem_cons, List.not_mem_nil, or_false] at hw; rcases hw with rfl | rfl | rfl <;> rfl) rfl (qS2 w hw)⟩
theorem wq_room {d' : Nat} {nM : Nat} (hd : d' < d) (hn : nM ≤ 45) : (wq_rm d').frames + 1 ≤ (wq_rm d).frames ∧ 8 + (nM + 11) + (wq_rm d').locals ≤ (wq_rm d).locals := by
  show d' + 1 + 1 ≤ d + 1 ∧ 8 + (nM + 11) + 64 * (d' + 1) ≤ 64 * (d + 1)
  omega
theorem wq_run_res {r : Option Value} {M1 : wq_M} {rest : List Value} {st0 : List Value} {a : Array Value}
    {p : Program} {l : Launch} {e : Env} {R : Room} {s : State} {m : MethodId} {args : Array Value} {below : List Frame} {meth : Method} {c : Code} {H : Heap} {locs : List Loc} {ls : Array Slot} {Q : State → Prop}
    (hr : va_Run p l e R s m args below meth c H locs 0 0 0 0 (F0 m pc ls st0) rest (wq_Q E Y r M1 a) (wq_A E Y)) (hW : va_S (wq_A E Y) s.heap H locs)
    (k : ∀ (H1 : Heap) (locs1 : List Loc), va_P E.1 wq_cl (wq_ws E Y M1) H1 → va_S (wq_A E Y) s.heap H1 locs1 → W p l e R s m args below meth c H1 locs1 0 0 Q (F0 m (pc + 3) ls (r.toList ++ rest))) :
    W p l e R s m args below meth c H locs 0 0 Q (F0 m pc ls st0) := by
  intro T hT X
  obtain ⟨v, st₀, t, T', L, h0, X', hL, e1, e2, ⟨hv, hP1, hz, hk⟩, st⟩ := hr T hT X
  cases hv
  rw [h0] at hz hk
  rw [← e1] at hP1
  obtain ⟨t2, a1, b1⟩ := k T'.heap (locs ++ L) hP1
    ⟨Nat.le_trans hW.1 (by rw [e1]; exact hz), fun q h1 h2 => by rw [e1, hk q (Nat.lt_of_lt_of_le h1 hW.1) h2]; exact hW.2.1 q h1 h2, fun q hq => by
      rcases List.mem_append.mp hq with h | h
      · exact hW.2.2 q h
      · exact hL q h⟩ T' rfl X'
  exact ⟨t2, st t2 a1, b1⟩
theorem wq_callV (h : wq_C g E Y cc nL own ret d) {p0 ci idx N0 n d' nM : Nat} {C0 : String} {T0 : u_T} {y : MethodName} {cb : ByteArray} {rt : Option FieldType} {As : List Value} {r : Option Value} {M1 : wq_M}
    (hct : wq_ct g.2.2.2.1 E Y y cb nM rt d' (.ref (E.2.1 p0) :: As) M r M1) (hd' : d' < d) (hnM : nM ≤ 45)
    (hp : p0 < Y.1) (hk : Y.2.1 p0 = ci) (hc8 : ci < 8) (hc : wq_cl[ci]? = some (C0, T0, N0)) (hyc : y.cls = C0)
    (hn : As.length = n) (hnp : y.cls ≠ "java/lang/invoke/MethodHandle" ∧ y.cls ≠ "java/lang/invoke/VarHandle" ∧ (parseMethodDescriptor y.desc).map (fun d => d.parameters.length) = some n)
    (w1 : Cond.methodLink own idx y ∈ wq_TB) (w2 : Cond.instanceMethod y ∈ wq_TB) (w3 : Cond.selects C0 y y ∈ wq_TB) (w4 : Cond.initialized C0 ∈ wq_TB) (w5 : Cond.code y cb nM rt ∈ wq_TB)
    (hst : (st.map fun v => v.category).sum ≤ 8) {st0 : List Value} (hs0 : st0 = As.reverse ++ .ref (E.2.1 p0) :: st) (hd : decode cc pc = .ok (.invokevirtual idx, 3)) {st1 : List Value} (hs1 : r.toList ++ st = st1) (k : wq_g g E Y nL (pc + 3) lv st1 M1) : wq_g g E Y nL pc lv st0 M := by
  obtain ⟨r0, M0, p, l, e, R, s, m, args, below, meth, c⟩ := g
  obtain ⟨hx, hb, hml, hown, hts, hK, hi, hS, hlk, hr, rfl⟩ := h
  intro H ls locs hl hP hW
  subst hs0
  subst hs1
  have hG : GoodIn wq_TB (wsV own idx C0 y (Cond.code y cb nM rt :: wq_TB)) := tb_good (fun w hw => by
    simp only [wsV, List.cons_append, List.nil_append, List.mem_cons] at hw
    rcases hw with rfl | rfl | rfl | rfl | rfl | hw
    · exact w1
    · exact w2
    · exact w3
    · exact w4
    · exact w5
    · exact hw)
  have hrun := va_runV (As := As) (rest := st) (g := F0 m pc ls (As.reverse ++ .ref (E.2.1 p0) :: st)) (cells := 0) (slots := 0) (locs := locs) (H := H) (below := below) (meth := meth) (e := e) (R := wq_rm d) (nL := nL) (Ts := wq_TB) ⟨hx, hb, hml, hown, hts⟩ hct (cwV n hts hG rfl rfl rfl ⟨hyc, hnp⟩ (wq_room hd' hnM)) ⟨wq_blind, va_recv hK hP hc (show (wq_ws E Y M)[p0]? = some (E.2.1 p0, .inr (ci, wq_fl E.2.1 M p0 ci)) by rw [wq_ws_at hp, wq_ce_o hk hc8]), fun U hU hw => ⟨rfl, by rw [hU]; exact hP, va_K.moved hw.alike hK, hi, wq_S_move hw (fun a ha hA => by rw [hU]; exact hW.2.1 a ha hA) hS⟩⟩ rfl hn hl.1 rfl (lv_room hst) hd ⟨by show 0 + 0 ≤ 0; omega, by show 0 + 0 ≤ 0; omega⟩
  exact wq_run_res hrun hW (fun H1 locs1 hP1 hS1 => k H1 ls locs1 hl hP1 hS1)
theorem wq_callS (h : wq_C g E Y cc nL own ret d) {idx n d' nM : Nat} {y : MethodName} {cb : ByteArray} {rt : Option FieldType} {As : List Value} {r : Option Value} {M1 : wq_M}
    (hct : wq_ct g.2.2.2.1 E Y y cb nM rt d' As M r M1) (hd' : d' < d) (hnM : nM ≤ 45)
    (hn : As.length = n) (hnp : y.cls ≠ "java/lang/invoke/MethodHandle" ∧ y.cls ≠ "java/lang/invoke/VarHandle" ∧ (parseMethodDescriptor y.desc).map (fun d => d.parameters.length) = some n)
    (w1 : Cond.methodLink own idx y ∈ wq_TB) (w2 : Cond.static y ∈ wq_TB) (w4 : Cond.initialized y.cls ∈ wq_TB) (w5 : Cond.code y cb nM rt ∈ wq_TB)
    (hst : (st.map fun v => v.category).sum ≤ 8) {st0 : List Value} (hs0 : st0 = As.reverse ++ st) (hd : decode cc pc = .ok (.invokestatic idx, 3)) {st1 : List Value} (hs1 : r.toList ++ st = st1) (k : wq_g g E Y nL (pc + 3) lv st1 M1) : wq_g g E Y nL pc lv st0 M := by
  obtain ⟨r0, M0, p, l, e, R, s, m, args, below, meth, c⟩ := g
  obtain ⟨hx, hb, hml, hown, hts, hK, hi, hS, hlk, hr, rfl⟩ := h
  intro H ls locs hl hP hW
  subst hs0
  subst hs1
  have hG : GoodIn wq_TB (va_wsS own idx y (Cond.code y cb nM rt :: wq_TB)) := tb_good (fun w hw => by
    simp only [va_wsS, List.cons_append, List.nil_append, List.mem_cons] at hw
    rcases hw with rfl | rfl | rfl | rfl | hw
    · exact w1
    · exact w2
    · exact w4
    · exact w5
    · exact hw)
  have hrun := va_runS (As := As) (rest := st) (g := F0 m pc ls (As.reverse ++ st)) (cells := 0) (slots := 0) (locs := locs) (H := H) (below := below) (meth := meth) (e := e) (R := wq_rm d) (nL := nL) (Ts := wq_TB) ⟨hx, hb, hml, hown, hts⟩ hct (va_cwS n hts hG rfl rfl rfl hnp (wq_room hd' hnM)) ⟨wq_blind, fun U hU hw => ⟨rfl, by rw [hU]; exact hP, va_K.moved hw.alike hK, hi, wq_S_move hw (fun a ha hA => by rw [hU]; exact hW.2.1 a ha hA) hS⟩⟩ rfl hn hl.1 rfl (lv_room hst) hd ⟨by show 0 + 0 ≤ 0; omega, by show 0 + 0 ≤ 0; omega⟩
  exact wq_run_res hrun hW (fun H1 locs1 hP1 hS1 => k H1 ls locs1 hl hP1 hS1)
end WQ
theorem wq_ent {l : Launch} {E : wq_E} {Y : wq_Y} {y : MethodName} {cc : ByteArray} {nL : Nat} {ret : Option FieldType} {d : Nat} {vs : List Value} {M : wq_M} {r : Option Value} {M' : wq_M} {own : String} {lv0 : List (Option Value)}
    (hy : plainName y.cls = true) (hown : y.cls = own) (hlen : (lg_sl vs).length ≤ nL) (hlv : wq_pr 0 lv0 = lv_args 0 vs)
    (k : ∀ g : wq_G, g.1 = r → g.2.1 = M' → wq_C g E Y cc nL own ret d → wq_g g E Y nL 0 lv0 [] M) : wq_ct l E Y y cc nL ret d vs M r M' := by
  refine Met.ofW (cc := cc) (maxL := nL) (ret := ret) hy rfl ?_
  intro p e s m args below meth c s₁ B hml hv
  obtain ⟨rfl, hP, hK, hi, hS⟩ := hv
  have hts : ∀ w ∈ wq_TB, w.before vs.toArray s = true := fun w hw => atoms_spec (ws := Cond.code y cc nL ret :: wq_TB) B.pre w (List.mem_cons_of_mem _ hw)
  have hfc : s.vm.findClass own = some m.cls := by rw [← hown]; exact findClass_of_methodNamed B.named
  have hl := lv_entry vs (n := nL) hlen
  rw [lg_entry_eq]
  rw [← hlv] at hl
  exact k (r, M', p, l, e, (headSpec (Cond.code y cc nL ret :: wq_TB) (wq_rm d)).room, s, m, vs.toArray, below, meth, c) rfl rfl ⟨B.exec, B.bytes, hml, hfc, hts, hK, hi, hS, B.notSynchronized, B.returns, rfl⟩ s.heap _ [] hl hP va_S.rf
def wq_lp {α β : Type} (body : α → Option (α ⊕ β)) : Nat → α → Option β
  | 0, _ => none
  | n + 1, s => match body s with
    | none => none
    | some (.inl s1) => wq_lp body n s1
    | some (.inr y) => some y
theorem wq_lp_ok {α β : Type} {body : α → Option (α ⊕ β)} {Hd : α → Prop} {Kx : β → Prop} (hb : ∀ s x, body s = some x → (match x with | .inl s1 => Hd s1 | .inr y => Kx y) → Hd s) : ∀ (n : Nat) (s : α) (y : β), wq_lp body n s = some y → Kx y → Hd s
  | 0, s, y, h, _ => by simp [wq_lp] at h
  | n + 1, s, y, h, K => by
    cases hs : body s with
    | none => simp [wq_lp, hs] at h
    | some x =>
      cases x with
      | inl s1 =>
        simp only [wq_lp, hs] at h
        exact hb s _ hs (wq_lp_ok hb n s1 y h K)
      | inr z =>
        simp only [wq_lp, hs] at h
        cases h
        exact hb s _ hs K
theorem wq_ob {α β : Type} {x : Option α} {f : α → Option β} {y : β} (h : x.bind f = some y) : ∃ a, x = some a ∧ f a = some y := by
  cases x with
  | none => cases h
  | some a => exact ⟨a, rfl, h⟩

