section EG
variable {b : Nat → Nat} {t : Nat} {L : Int32} {Mc Mr : wq_M} {F : (Nat → Nat → Int32) → (Nat → Int32) → Prop}
def fC (C : wq_M) : Nat → Nat → Int32 := fun q => C.1 (25 + q)
def kW (Mc C : wq_M) : Prop := (∀ q, q ≠ 18 → (q < 25 ∨ 30 ≤ q) → C.1 q = Mc.1 q) ∧ C.2 = Mc.2
def kS (Mr N : wq_M) : Prop := (∀ q, q ≠ 0 → q ≠ 5 → N.1 q = Mr.1 q) ∧ ∀ j, (j < 12 ∨ 17 < j) → N.1 0 j = Mr.1 0 j
def WS (b : Nat → Nat) (t : Nat) (L : Int32) (Mc Mr : wq_M) (F : (Nat → Nat → Int32) → (Nat → Int32) → Prop) (C N : wq_M) : Prop := PS b t L C N ∧ (C.1 18 5 = 0 → F (fC C) (N.1 5)) ∧ kW Mc C ∧ kS Mr N
theorem kC.fC {C D : wq_M} (h : kC C D) : fC D = fC C := by
  funext q
  exact h.1 (25 + q) (by omega)
theorem ws_k {C N C' N' : wq_M} (h : WS b t L Mc Mr F C N) (hp : PS b t L C' N') (kc : kC C C') (kr : kR N N') : WS b t L Mc Mr F C' N' := by
  obtain ⟨h1, h2, h3, h4⟩ := h
  refine ⟨hp, fun q => ?_, ⟨fun q a c => by rw [kc.1 q a, h3.1 q a c], by rw [kc.2.1, h3.2]⟩, ⟨fun q a c => by rw [kr.1 q a, h4.1 q a c], fun j hj => by rw [kr.2 j hj, h4.2 j hj]⟩⟩
  rw [kc.fC, kr.1 5 (by omega)]
  exact h2 (kc.2.2.2 q)
theorem ws_sign {C N : wq_M} (h : WS b t L Mc Mr F C N) {s : Nat} (hs : s = 44 ∨ s = 59) : ∃ C' N', fX2_readSign (nI s) C = some C' ∧ fX7_mustSign (nI s) N = some N' ∧ WS b t L Mc Mr F C' N' := by
  obtain ⟨C', N', e1, e2, e3, e4, e5⟩ := mustSign_both h.1 hs
  exact ⟨C', N', e1, e2, ws_k h e3 e4 e5⟩
theorem ws_letter {C N : wq_M} (h : WS b t L Mc Mr F C N) {s : Nat} (hs : 97 ≤ s ∧ s ≤ 122) : ∃ C' N', fX2_readSign (nI s) C = some C' ∧ ((fX7_isLetter (nI s) N).bind fun r9 => fX7_must (wq_b r9) N) = some N' ∧ WS b t L Mc Mr F C' N' := by
  obtain ⟨C', N', e1, e2, e3, e4, e5⟩ := letter_both h.1 hs
  exact ⟨C', N', e1, e2, ws_k h e3 e4 e5⟩
theorem ws_num {C N : wq_M} (h : WS b t L Mc Mr F C N) {lo hi : Nat} (hh : hi < 1000) (hlh : lo ≤ hi) : ∃ x y C' N', fX2_readNumber (nI lo) (nI hi) C = some (x, C') ∧ fX7_number (nI lo) (nI hi) N = some (y, N') ∧ WS b t L Mc Mr F C' N' ∧ (C'.1 18 5 = 0 → ∃ k, lo ≤ k ∧ k ≤ hi ∧ x = nI k ∧ y = nI k) := by
  obtain ⟨x, y, C', N', e1, e2, e3, e4, e5, e6⟩ := number_both h.1 hh hlh
  exact ⟨x, y, C', N', e1, e2, ws_k h e3 e4 e5, e6⟩
theorem PS_st {C N : wq_M} (h : PS b t L C N) {p i j : Nat} (hp : p ≠ 18) (hp2 : p ≠ 19) (x y : Int32) : PS b t L (wq_st C p i x) (wq_st N 5 j y) := by
  unfold PS TpC Tp pOk pNo TK
  rw [wq_st_ne (show 18 ≠ p by omega), wq_st_ne (show 19 ≠ p by omega), wq_st_ne (show 0 ≠ 5 by omega), wq_st_ne (show 8 ≠ 5 by omega)]
  exact h
theorem PS_stc {C N : wq_M} (h : PS b t L C N) {p i : Nat} (hp : p ≠ 18) (hp2 : p ≠ 19) (x : Int32) : PS b t L (wq_st C p i x) N := by
  unfold PS TpC Tp pOk pNo TK
  rw [wq_st_ne (show 18 ≠ p by omega), wq_st_ne (show 19 ≠ p by omega)]
  exact h
theorem fC_st {C : wq_M} {p i : Nat} {x : Int32} : fC (wq_st C (25 + p) i x) = fun q k => if q = p then (if k = i then x else fC C q k) else fC C q k := by
  funext q k
  show (wq_st C (25 + p) i x).1 (25 + q) k = _
  unfold wq_st fC
  simp only
  by_cases h : q = p
  · subst h; simp
  · rw [if_neg (by omega), if_neg h]
theorem ws_st {C N : wq_M} {F' : (Nat → Nat → Int32) → (Nat → Int32) → Prop} (h : WS b t L Mc Mr F C N) {p i j : Nat} (hp : p < 5) (x y : Int32) (hF : C.1 18 5 = 0 → F (fC C) (N.1 5) → F' (fun q k => if q = p then (if k = i then x else fC C q k) else fC C q k) (upd (N.1 5) j y)) : WS b t L Mc Mr F' (wq_st C (25 + p) i x) (wq_st N 5 j y) := by
  obtain ⟨h1, h2, h3, h4⟩ := h
  refine ⟨PS_st h1 (by omega) (by omega) _ _, fun q => ?_, ⟨fun q a c => by rw [wq_st_ne (by omega), h3.1 q a c], h3.2⟩, ⟨fun q a c => by rw [wq_st_ne c, h4.1 q a c], fun j hj => by rw [wq_st_ne (by omega), h4.2 j hj]⟩⟩
  rw [wq_st_ne (by omega)] at q
  rw [fC_st, wq_st_self]
  exact hF q (h2 q)
theorem ws_stc {C N : wq_M} {F' : (Nat → Nat → Int32) → (Nat → Int32) → Prop} (h : WS b t L Mc Mr F C N) {p i : Nat} (hp : p < 5) (x : Int32) (hF : C.1 18 5 = 0 → F (fC C) (N.1 5) → F' (fun q k => if q = p then (if k = i then x else fC C q k) else fC C q k) (N.1 5)) : WS b t L Mc Mr F' (wq_st C (25 + p) i x) N := by
  obtain ⟨h1, h2, h3, h4⟩ := h
  refine ⟨PS_stc h1 (by omega) (by omega) _, fun q => ?_, ⟨fun q a c => by rw [wq_st_ne (by omega), h3.1 q a c], h3.2⟩, h4⟩
  rw [wq_st_ne (by omega)] at q
  rw [fC_st]
  exact hF q (h2 q)
theorem ws_w {C N : wq_M} {F' : (Nat → Nat → Int32) → (Nat → Int32) → Prop} (h : WS b t L Mc Mr F C N) (hF : C.1 18 5 = 0 → F (fC C) (N.1 5) → F' (fC C) (N.1 5)) : WS b t L Mc Mr F' C N := ⟨h.1, fun q => hF q (h.2.1 q), h.2.2⟩
def Gd (n : Nat) (f : Nat → Nat → Int32) (v : Nat → Nat) : Prop := v 5 = 0 ∧ (∀ s, s < 8 → v (36 + s) = 0) ∧ (1 ≤ n → f 0 0 = nI (v 0) ∧ 2 ≤ v 0 ∧ v 0 ≤ 8) ∧ (2 ≤ n → f 1 3 = nI (v 1) ∧ 1 ≤ v 1 ∧ v 1 ≤ 3) ∧ (3 ≤ n → f 1 0 = nI (v 2) ∧ v 2 ≤ 20) ∧ (4 ≤ n → f 1 1 = nI (v 3) ∧ v 3 ≤ 99) ∧ (5 ≤ n → f 1 2 = nI (v 4) ∧ v 4 ≤ 20)
def FG (n : Nat) (f : Nat → Nat → Int32) (g : Nat → Int32) : Prop := ∃ v, RepA g v ∧ Gd n f v
theorem ws_f {C N : wq_M} {n p i lo hi : Nat} (h : WS b t L Mc Mr (FG n) C N) (hn : n < 5) (hp : p < 5) (hh : hi < 1000) (hlh : lo ≤ hi) (hG : ∀ f v k, Gd n f v → lo ≤ k → k ≤ hi → Gd (n + 1) (fun q j => if q = p then (if j = i then nI k else f q j) else f q j) (vup v n k)) : ∃ x y C' N', fX2_readNumber (nI lo) (nI hi) C = some (x, C') ∧ fX7_number (nI lo) (nI hi) N = some (y, N') ∧ WS b t L Mc Mr (FG (n + 1)) (wq_st C' (25 + p) i x) (wq_st N' 5 n y) := by
  obtain ⟨x, y, C', N', e1, e2, e3, e4⟩ := ws_num h hh hlh
  refine ⟨x, y, C', N', e1, e2, ws_st e3 hp x y (fun q hF => ?_)⟩
  obtain ⟨k, k1, k2, rfl, rfl⟩ := e4 q
  obtain ⟨v, r, g⟩ := hF
  exact ⟨vup v n k, RepA_up r (by omega), hG _ v k g k1 k2⟩
theorem gd0 (f : Nat → Nat → Int32) (v : Nat → Nat) (k : Nat) (h : Gd 0 f v) (h1 : 2 ≤ k) (h2 : k ≤ 8) : Gd 1 (fun q j => if q = 0 then (if j = 0 then nI k else f q j) else f q j) (vup v 0 k) := by
  obtain ⟨a, b, c⟩ := h
  refine ⟨by rw [vup_n (by omega)]; exact a, fun s hs => by rw [vup_n (by omega)]; exact b s hs, fun _ => ⟨by simp [vup], by rw [vup_s]; exact ⟨h1, h2⟩⟩, fun q => by omega, fun q => by omega, fun q => by omega, fun q => by omega⟩
theorem gd1 (f : Nat → Nat → Int32) (v : Nat → Nat) (k : Nat) (h : Gd 1 f v) (h1 : 1 ≤ k) (h2 : k ≤ 3) : Gd 2 (fun q j => if q = 1 then (if j = 3 then nI k else f q j) else f q j) (vup v 1 k) := by
  obtain ⟨a, b, c, d⟩ := h
  refine ⟨by rw [vup_n (by omega)]; exact a, fun s hs => by rw [vup_n (by omega)]; exact b s hs, fun _ => ?_, fun _ => ⟨by simp [vup], by rw [vup_s]; exact ⟨h1, h2⟩⟩, fun q => by omega, fun q => by omega, fun q => by omega⟩
  rw [vup_n (by omega)]
  exact c (by omega)
theorem gd2 (f : Nat → Nat → Int32) (v : Nat → Nat) (k : Nat) (h : Gd 2 f v) (h1 : 0 ≤ k) (h2 : k ≤ 20) : Gd 3 (fun q j => if q = 1 then (if j = 0 then nI k else f q j) else f q j) (vup v 2 k) := by
  obtain ⟨a, b, c, d, e⟩ := h
  refine ⟨by rw [vup_n (by omega)]; exact a, fun s hs => by rw [vup_n (by omega)]; exact b s hs, fun _ => ?_, fun _ => ?_, fun _ => ⟨by simp [vup], by rw [vup_s]; exact h2⟩, fun q => by omega, fun q => by omega⟩
  · rw [vup_n (by omega)]
    exact c (by omega)
  · rw [vup_n (by omega)]
    exact d (by omega)
theorem gd3 (f : Nat → Nat → Int32) (v : Nat → Nat) (k : Nat) (h : Gd 3 f v) (h1 : 0 ≤ k) (h2 : k ≤ 99) : Gd 4 (fun q j => if q = 1 then (if j = 1 then nI k else f q j) else f q j) (vup v 3 k) := by
  obtain ⟨a, b, c, d, e, g⟩ := h
  refine ⟨by rw [vup_n (by omega)]; exact a, fun s hs => by rw [vup_n (by omega)]; exact b s hs, fun _ => ?_, fun _ => ?_, fun _ => ?_, fun _ => ⟨by simp [vup], by rw [vup_s]; exact h2⟩, fun q => by omega⟩
  · rw [vup_n (by omega)]
    exact c (by omega)
  · rw [vup_n (by omega)]
    exact d (by omega)
  · rw [vup_n (by omega)]
    exact e (by omega)
theorem gd4 (f : Nat → Nat → Int32) (v : Nat → Nat) (k : Nat) (h : Gd 4 f v) (h1 : 0 ≤ k) (h2 : k ≤ 20) : Gd 5 (fun q j => if q = 1 then (if j = 2 then nI k else f q j) else f q j) (vup v 4 k) := by
  obtain ⟨a, b, c, d, e, g, i⟩ := h
  refine ⟨by rw [vup_n (by omega)]; exact a, fun s hs => by rw [vup_n (by omega)]; exact b s hs, fun _ => ?_, fun _ => ?_, fun _ => ?_, fun _ => ?_, fun _ => ⟨by simp [vup], by rw [vup_s]; exact h2⟩⟩
  · rw [vup_n (by omega)]
    exact c (by omega)
  · rw [vup_n (by omega)]
    exact d (by omega)
  · rw [vup_n (by omega)]
    exact e (by omega)
  · rw [vup_n (by omega)]
    exact g (by omega)
theorem bind_l {N : wq_M} {β : Type} (K : wq_M → Option β) (s : Int32) : ((fX7_isLetter s N).bind fun r9 => (fX7_must (wq_b r9) N).bind K) = ((fX7_isLetter s N).bind fun r9 => fX7_must (wq_b r9) N).bind K := by
  cases fX7_isLetter s N <;> rfl
theorem C_rr {M : wq_M} {q lo hi : Nat} (hq : q < 4) (hl : wq_sf 0 q = nI lo) (hh : wq_sf 1 q = nI hi) : fX2_readRule (nI q) M = fX2_readNumber (nI lo) (nI hi) M := by
  unfold fX2_readRule
  rw [in_nI hq (by omega), cl_nI (by omega), hl, hh, if_pos rfl, if_pos rfl]
  cases fX2_readNumber (nI lo) (nI hi) M <;> rfl
theorem law_both {C N : wq_M} (h : WS b t L Mc Mr (FG 0) C N) {β : Type} (K : wq_M → Option β) : ∃ C' N', ((fX2_readLaw 25 C).bind fun r1 => fX2_readGas 25 r1) = some C' ∧ ((fX7_isLetter 119 N).bind fun r9 => (fX7_must (wq_b r9) N).bind fun r11 => (fX7_number 2 8 r11).bind fun r13 => if wq_in 0 44 then (fX7_mustSign 44 (wq_st r13.2 5 (0 : Int32).toNatClampNeg r13.1)).bind fun r16 => (fX7_number 1 3 r16).bind fun r18 => if wq_in 1 44 then (fX7_mustSign 44 (wq_st r18.2 5 (1 : Int32).toNatClampNeg r18.1)).bind fun r21 => (fX7_number 0 20 r21).bind fun r23 => if wq_in 2 44 then (fX7_mustSign 59 (wq_st r23.2 5 (2 : Int32).toNatClampNeg r23.1)).bind fun r26 => (fX7_isLetter 103 r26).bind fun r28 => (fX7_must (wq_b r28) r26).bind fun r30 => (fX7_number 0 99 r30).bind fun r32 => if wq_in 3 44 then (fX7_mustSign 44 (wq_st r32.2 5 (3 : Int32).toNatClampNeg r32.1)).bind fun r35 => (fX7_number 0 20 r35).bind fun r37 => if wq_in 4 44 then (fX7_mustSign 59 (wq_st r37.2 5 (4 : Int32).toNatClampNeg r37.1)).bind fun r40 => K r40 else none else none else none else none else none) = K N' ∧ WS b t L Mc Mr (FG 5) C' N' := by
  unfold fX2_readLaw fX2_readGas
  obtain ⟨C1, N1, a1, b1, c1⟩ := ws_letter h (s := 119) (by omega)
  obtain ⟨x2, y2, C2, N2, a2, b2, c2⟩ := ws_f (p := 0) (i := 0) (lo := 2) (hi := 8) c1 (by omega) (by omega) (by omega) (by omega) gd0
  obtain ⟨C3, N3, a3, b3, c3⟩ := ws_sign c2 (s := 44) (by omega)
  obtain ⟨x4, y4, C4, N4, a4, b4, c4⟩ := ws_f (p := 1) (i := 3) (lo := 1) (hi := 3) c3 (by omega) (by omega) (by omega) (by omega) gd1
  obtain ⟨C5, N5, a5, b5, c5⟩ := ws_sign c4 (s := 44) (by omega)
  obtain ⟨x6, y6, C6, N6, a6, b6, c6⟩ := ws_f (p := 1) (i := 0) (lo := 0) (hi := 20) c5 (by omega) (by omega) (by omega) (by omega) gd2
  obtain ⟨C7, N7, a7, b7, c7⟩ := ws_sign c6 (s := 59) (by omega)
  obtain ⟨C8, N8, a8, b8, c8⟩ := ws_letter c7 (s := 103) (by omega)
  obtain ⟨x9, y9, C9, N9, a9, b9, c9⟩ := ws_f (p := 1) (i := 1) (lo := 0) (hi := 99) c8 (by omega) (by omega) (by omega) (by omega) gd3
  obtain ⟨C10, N10, a10, b10, c10⟩ := ws_sign c9 (s := 44) (by omega)
  obtain ⟨x11, y11, C11, N11, a11, b11, c11⟩ := ws_f (p := 1) (i := 2) (lo := 0) (hi := 20) c10 (by omega) (by omega) (by omega) (by omega) gd4
  obtain ⟨C12, N12, a12, b12, c12⟩ := ws_sign c11 (s := 59) (by omega)
  refine ⟨C12, N12, ?_, ?_, c12⟩
  · simp only [in_3_4, in_0_4, in_1_4, in_2_4, if_true, cl_0, cl_1, cl_2, cl_3]
    rw [show fX2_readSign 119 C = fX2_readSign (nI 119) C from rfl, a1]
    simp only [Option.bind_some]
    rw [show fX2_readNumber 2 8 C1 = fX2_readNumber (nI 2) (nI 8) C1 from rfl, a2]
    simp only [Option.bind_some]
    rw [show fX2_readSign 44 (wq_st C2 25 0 x2) = fX2_readSign (nI 44) (wq_st C2 (25 + 0) 0 x2) from rfl, a3]
    simp only [Option.bind_some]
    rw [show fX2_readRule 3 C3 = fX2_readNumber (nI 1) (nI 3) C3 from C_rr (q := 3) (lo := 1) (hi := 3) (by omega) rfl rfl, a4]
    simp only [Option.bind_some]
    rw [show fX2_readSign 44 (wq_st C4 (25 + 1) 3 x4) = fX2_readSign (nI 44) (wq_st C4 (25 + 1) 3 x4) from rfl, a5]
    simp only [Option.bind_some]
    rw [show fX2_readRule 0 C5 = fX2_readNumber (nI 0) (nI 20) C5 from C_rr (q := 0) (lo := 0) (hi := 20) (by omega) rfl rfl, a6]
    simp only [Option.bind_some]
    rw [show fX2_readSign 59 (wq_st C6 (25 + 1) 0 x6) = fX2_readSign (nI 59) (wq_st C6 (25 + 1) 0 x6) from rfl, a7]
    simp only [Option.bind_some]
    rw [show fX2_readSign 103 C7 = fX2_readSign (nI 103) C7 from rfl, a8]
    simp only [Option.bind_some]
    rw [show fX2_readRule 1 C8 = fX2_readNumber (nI 0) (nI 99) C8 from C_rr (q := 1) (lo := 0) (hi := 99) (by omega) rfl rfl, a9]
    simp only [Option.bind_some]
    rw [show fX2_readSign 44 (wq_st C9 (25 + 1) 1 x9) = fX2_readSign (nI 44) (wq_st C9 (25 + 1) 1 x9) from rfl, a10]
    simp only [Option.bind_some]
    rw [show fX2_readRule 2 C10 = fX2_readNumber (nI 0) (nI 20) C10 from C_rr (q := 2) (lo := 0) (hi := 20) (by omega) rfl rfl, a11]
    simp only [Option.bind_some]
    rw [show fX2_readSign 59 (wq_st C11 (25 + 1) 2 x11) = fX2_readSign (nI 59) (wq_st C11 (25 + 1) 2 x11) from rfl, a12]
    rfl
  · simp only [in_0_44, in_1_44, in_2_44, in_3_44, in_4_44, if_true, cl_0, cl_1, cl_2, cl_3, cl_4]
    rw [bind_l, show (119 : Int32) = nI 119 from rfl, b1]
    simp only [Option.bind_some]
    rw [show fX7_number 2 8 N1 = fX7_number (nI 2) (nI 8) N1 from rfl, b2]
    simp only [Option.bind_some]
    rw [show fX7_mustSign 44 (wq_st N2 5 0 y2) = fX7_mustSign (nI 44) (wq_st N2 5 0 y2) from rfl, b3]
    simp only [Option.bind_some]
    rw [show fX7_number 1 3 N3 = fX7_number (nI 1) (nI 3) N3 from rfl, b4]
    simp only [Option.bind_some]
    rw [show fX7_mustSign 44 (wq_st N4 5 1 y4) = fX7_mustSign (nI 44) (wq_st N4 5 1 y4) from rfl, b5]
    simp only [Option.bind_some]
    rw [show fX7_number 0 20 N5 = fX7_number (nI 0) (nI 20) N5 from rfl, b6]
    simp only [Option.bind_some]
    rw [show fX7_mustSign 59 (wq_st N6 5 2 y6) = fX7_mustSign (nI 59) (wq_st N6 5 2 y6) from rfl, b7]
    simp only [Option.bind_some]
    rw [bind_l, show (103 : Int32) = nI 103 from rfl, b8]
    simp only [Option.bind_some]
    rw [show fX7_number 0 99 N8 = fX7_number (nI 0) (nI 99) N8 from rfl, b9]
    simp only [Option.bind_some]
    rw [show fX7_mustSign 44 (wq_st N9 5 3 y9) = fX7_mustSign (nI 44) (wq_st N9 5 3 y9) from rfl, b10]
    simp only [Option.bind_some]
    rw [show fX7_number 0 20 N10 = fX7_number (nI 0) (nI 20) N10 from rfl, b11]
    simp only [Option.bind_some]
    rw [show fX7_mustSign 59 (wq_st N11 5 4 y11) = fX7_mustSign (nI 59) (wq_st N11 5 4 y11) from rfl, b12]
    simp only [Option.bind_some]
end EG
