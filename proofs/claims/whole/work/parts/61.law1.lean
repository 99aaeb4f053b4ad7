/-- what stands of both worlds from the constructors on -/
def lw_F2 (s : State) (Ec Er : wq_E) : Prop := va_K Ec.1 wq_cl (wq_ty Ec) s ∧ va_K Er.1 wq_cl (wq_ty Er) s ∧ wq_inj Ec wq_yC ∧ wq_inj Er wq_yR ∧ wq_S Ec wq_yC s ∧ wq_S Er wq_yR s ∧ (∀ p, p < wq_yC.1 → s.heap.size ≤ Ec.2.1 p) ∧ (∀ p, p < wq_yR.1 → s.heap.size ≤ Er.2.1 p) ∧ ∀ p q, p < wq_yC.1 → q < wq_yR.1 → Ec.2.1 p ≠ Er.2.1 q
section LW
variable {p : Program} {l : Launch} {e : Env} {s : State} {m : MethodId} {below : List Frame} {meth : Method} {c : Code} {b L : Nat} {xs : Nat → Int32} {H : Heap} {locs : List Loc} {ls : Array Slot} {kc ks : Nat} {Z : State → Prop}
theorem lw_run_res {E E2 : wq_E} {Y Y2 : wq_Y} {r : Option Value} {M1 M2 : wq_M} {rest st0 : List Value} {a : Array Value} {pc : Nat} (hr : va_Run p l e room_1 s m #[Value.ref b] below meth c H locs kc ks 0 0 (F0 m pc ls st0) rest (wq_Q E Y r M1 a) (wq_A E Y)) (hS : va_S (fun q : Nat => s.heap.size ≤ q) s.heap H locs) (hge : ∀ p, p < Y.1 → s.heap.size ≤ E.2.1 p) (hdj : ∀ p q, p < Y.1 → q < Y2.1 → E.2.1 p ≠ E2.2.1 q) (hP2 : va_P E2.1 wq_cl (wq_ws E2 Y2 M2) H)
    (k : ∀ (H1 : Heap) (locs1 : List Loc), va_P E.1 wq_cl (wq_ws E Y M1) H1 → va_P E2.1 wq_cl (wq_ws E2 Y2 M2) H1 → va_S (fun q : Nat => s.heap.size ≤ q) s.heap H1 locs1 → W p l e room_1 s m #[Value.ref b] below meth c H1 locs1 kc ks Z (F0 m (pc + 3) ls (r.toList ++ rest))) :
    W p l e room_1 s m #[Value.ref b] below meth c H locs kc ks Z (F0 m pc ls st0) := by
  intro T hT X
  obtain ⟨v, st₀, t, T', LL, h0, X', hL, e1, e2, ⟨hv, hP1, hz, hk⟩, st⟩ := hr T hT X
  cases hv
  rw [h0] at hz hk
  rw [← e1] at hP1 hk hz
  have hA : ∀ q, wq_A E Y q → s.heap.size ≤ q := fun q hq => by
    obtain ⟨z, z1, rfl⟩ := hq
    exact hge z z1
  obtain ⟨t2, a1, b1⟩ := k T'.heap (locs ++ LL) hP1 (hP2.kept (fun j x hx => by
      have hlt := (hP2 j x hx).lt
      obtain ⟨z1, rfl⟩ := wq_ws_inv hx
      exact hk _ hlt (fun ⟨z, y1, y2⟩ => hdj z j y1 z1 y2)))
    ⟨Nat.le_trans hS.1 hz, fun q h1 h2 => by rw [hk q (Nat.lt_of_lt_of_le h1 hS.1) (fun z => h2 (hA q z))]; exact hS.2.1 q h1 h2, fun q hq => by
      rcases List.mem_append.mp hq with h | h
      · exact hS.2.2 q h
      · exact hA _ (hL q h)⟩ T' rfl X'
  exact ⟨t2, st t2 a1, b1⟩
theorem lw_callV (hkc : kc ≤ 600000) (hks : ks ≤ 7302250) {E E2 : wq_E} {Y Y2 : wq_Y} {M M1 M2 : wq_M} {ci idx N0 n nM pc : Nat} {C0 : String} {T0 : u_T} {y : MethodName} {cb : ByteArray} {rt : Option FieldType} {As st : List Value} {r : Option Value} (CA : lw_At p s m meth c b L xs)
    (hK : va_K E.1 wq_cl (wq_ty E) s) (hi : wq_inj E Y) (hSt : wq_S E Y s) (hge : ∀ p, p < Y.1 → s.heap.size ≤ E.2.1 p) (hdj : ∀ p q, p < Y.1 → q < Y2.1 → E.2.1 p ≠ E2.2.1 q)
    (hct : wq_ct l E Y y cb nM rt 60 (.ref (E.2.1 0) :: As) M r M1) (hnM : nM ≤ 45) (hp : 0 < Y.1) (hk : Y.2.1 0 = ci) (hc8 : ci < 8) (hc : wq_cl[ci]? = some (C0, T0, N0)) (hyc : y.cls = C0)
    (hn : As.length = n) (hnp : y.cls ≠ "java/lang/invoke/MethodHandle" ∧ y.cls ≠ "java/lang/invoke/VarHandle" ∧ (parseMethodDescriptor y.desc).map (fun d => d.parameters.length) = some n)
    (w1 : Cond.methodLink R_law idx y ∈ wq_TB) (w2 : Cond.instanceMethod y ∈ wq_TB) (w3 : Cond.selects C0 y y ∈ wq_TB) (w4 : Cond.initialized C0 ∈ wq_TB) (w5 : Cond.code y cb nM rt ∈ wq_TB)
    (hst : (st.map fun v => v.category).sum ≤ 8) (hls : ls.size = 4) (hP : va_P E.1 wq_cl (wq_ws E Y M) H) (hP2 : va_P E2.1 wq_cl (wq_ws E2 Y2 M2) H) (hS : va_S (fun q : Nat => s.heap.size ≤ q) s.heap H locs) (hd : decode code pc = .ok (.invokevirtual idx, 3))
    (k : ∀ (H1 : Heap) (locs1 : List Loc), va_P E.1 wq_cl (wq_ws E Y M1) H1 → va_P E2.1 wq_cl (wq_ws E2 Y2 M2) H1 → va_S (fun q : Nat => s.heap.size ≤ q) s.heap H1 locs1 → W p l e room_1 s m #[Value.ref b] below meth c H1 locs1 kc ks Z (F0 m (pc + 3) ls (r.toList ++ st))) :
    W p l e room_1 s m #[Value.ref b] below meth c H locs kc ks Z (F0 m pc ls (As.reverse ++ .ref (E.2.1 0) :: st)) := by
  obtain ⟨hx, hb, hr, hml, hown, hts, hX, hbl, hlocks, hgv⟩ := CA
  have htb : ∀ w ∈ wq_TB, w.before #[Value.ref b] s = true := fun w hw => hts w (List.mem_filter.mp hw).1
  have hG : GoodIn wq_TB (wsV R_law idx C0 y (Cond.code y cb nM rt :: wq_TB)) := tb_good (fun w hw => by
    simp only [wsV, List.cons_append, List.nil_append, List.mem_cons] at hw
    rcases hw with rfl | rfl | rfl | rfl | rfl | hw
    · exact w1
    · exact w2
    · exact w3
    · exact w4
    · exact w5
    · exact hw)
  have hrun := va_runV (As := As) (rest := st) (g := F0 m pc ls (As.reverse ++ .ref (E.2.1 0) :: st)) (cells := kc) (slots := ks) (locs := locs) (H := H) (below := below) (meth := meth) (e := e) (R := room_1) (nL := 4) (Ts := wq_TB) (cc := code) ⟨hx, hb, hml, hown, htb⟩ hct (cwV n htb hG rfl rfl rfl ⟨hyc, hnp⟩ ⟨by show 60 + 1 + 1 ≤ 2048; omega, by show 8 + (nM + 11) + 64 * (60 + 1) ≤ 84000; omega⟩) ⟨wq_blind, va_recv hK hP hc (show (wq_ws E Y M)[0]? = some (E.2.1 0, .inr (ci, wq_fl E.2.1 M 0 ci)) by rw [wq_ws_at hp, wq_ce_o hk hc8]), fun U hU hw => ⟨rfl, by rw [hU]; exact hP, va_K.moved hw.alike hK, hi, wq_S_move hw (fun a ha hA => by rw [hU]; exact hS.2.1 a ha (Nat.not_le.mpr ha)) hSt⟩⟩ rfl hn hls rfl (lv_room hst) hd ⟨by show kc + 0 ≤ 600000; omega, by show ks + 0 ≤ 7302250; omega⟩
  exact lw_run_res hrun hS hge hdj hP2 k
theorem lw_call6 (hkc : kc ≤ 600000) (hks : ks ≤ 7302250) {Ec Er : wq_E} {M M1 M2 : wq_M} {idx n nM pc : Nat} {y : MethodName} {cb : ByteArray} {rt : Option FieldType} {As st : List Value} {r : Option Value} (CA : lw_At p s m meth c b L xs) (hF : lw_F2 s Ec Er)
    (hct : wq_ct l Ec wq_yC y cb nM rt 60 (.ref (Ec.2.1 0) :: As) M r M1) (hnM : nM ≤ 45) (hyc : y.cls = RX6)
    (hnp : y.cls ≠ "java/lang/invoke/MethodHandle" ∧ y.cls ≠ "java/lang/invoke/VarHandle" ∧ (parseMethodDescriptor y.desc).map (fun d => d.parameters.length) = some n)
    (w1 : Cond.methodLink R_law idx y ∈ wq_TB) (w2 : Cond.instanceMethod y ∈ wq_TB) (w3 : Cond.selects RX6 y y ∈ wq_TB) (w5 : Cond.code y cb nM rt ∈ wq_TB)
    (hst : (st.map fun v => v.category).sum ≤ 8) (hls : ls.size = 4) (hP : va_P Ec.1 wq_cl (wq_ws Ec wq_yC M) H) (hP2 : va_P Er.1 wq_cl (wq_ws Er wq_yR M2) H) (hS : va_S (fun q : Nat => s.heap.size ≤ q) s.heap H locs) (hd : decode code pc = .ok (.invokevirtual idx, 3))
    (k : ∀ (H1 : Heap) (locs1 : List Loc), va_P Ec.1 wq_cl (wq_ws Ec wq_yC M1) H1 → va_P Er.1 wq_cl (wq_ws Er wq_yR M2) H1 → va_S (fun q : Nat => s.heap.size ≤ q) s.heap H1 locs1 → W p l e room_1 s m #[Value.ref b] below meth c H1 locs1 kc ks Z (F0 m (pc + 3) ls (r.toList ++ st))) (hn : As.length = n := by rfl) {st0 : List Value} (hs0 : st0 = As.reverse ++ .ref (Ec.2.1 0) :: st := by rfl) :
    W p l e room_1 s m #[Value.ref b] below meth c H locs kc ks Z (F0 m pc ls st0) := by
  subst hs0
  obtain ⟨f1, f2, f3, f4, f5, f6, f7, f8, f9⟩ := hF
  exact lw_callV hkc hks (E2 := Er) (Y2 := wq_yR) (ci := 6) (T0 := TX6) (N0 := 9) CA f1 f3 f5 f7 f9 hct hnM (by decide) rfl (by decide) rfl hyc hn hnp w1 w2 w3 tw_51 w5 hst hls hP hP2 hS hd k
theorem lw_call7 (hkc : kc ≤ 600000) (hks : ks ≤ 7302250) {Ec Er : wq_E} {M M1 M2 : wq_M} {idx n nM pc : Nat} {y : MethodName} {cb : ByteArray} {rt : Option FieldType} {As st : List Value} {r : Option Value} (CA : lw_At p s m meth c b L xs) (hF : lw_F2 s Ec Er)
    (hct : wq_ct l Er wq_yR y cb nM rt 60 (.ref (Er.2.1 0) :: As) M2 r M1) (hnM : nM ≤ 45) (hyc : y.cls = RX7)
    (hnp : y.cls ≠ "java/lang/invoke/MethodHandle" ∧ y.cls ≠ "java/lang/invoke/VarHandle" ∧ (parseMethodDescriptor y.desc).map (fun d => d.parameters.length) = some n)
    (w1 : Cond.methodLink R_law idx y ∈ wq_TB) (w2 : Cond.instanceMethod y ∈ wq_TB) (w3 : Cond.selects RX7 y y ∈ wq_TB) (w5 : Cond.code y cb nM rt ∈ wq_TB)
    (hst : (st.map fun v => v.category).sum ≤ 8) (hls : ls.size = 4) (hP : va_P Ec.1 wq_cl (wq_ws Ec wq_yC M) H) (hP2 : va_P Er.1 wq_cl (wq_ws Er wq_yR M2) H) (hS : va_S (fun q : Nat => s.heap.size ≤ q) s.heap H locs) (hd : decode code pc = .ok (.invokevirtual idx, 3))
    (k : ∀ (H1 : Heap) (locs1 : List Loc), va_P Ec.1 wq_cl (wq_ws Ec wq_yC M) H1 → va_P Er.1 wq_cl (wq_ws Er wq_yR M1) H1 → va_S (fun q : Nat => s.heap.size ≤ q) s.heap H1 locs1 → W p l e room_1 s m #[Value.ref b] below meth c H1 locs1 kc ks Z (F0 m (pc + 3) ls (r.toList ++ st))) (hn : As.length = n := by rfl) {st0 : List Value} (hs0 : st0 = As.reverse ++ .ref (Er.2.1 0) :: st := by rfl) :
    W p l e room_1 s m #[Value.ref b] below meth c H locs kc ks Z (F0 m pc ls st0) := by
  subst hs0
  obtain ⟨f1, f2, f3, f4, f5, f6, f7, f8, f9⟩ := hF
  exact lw_callV hkc hks (E2 := Ec) (Y2 := wq_yC) (ci := 7) (T0 := TX7) (N0 := 26) CA f2 f4 f6 f8 (fun a c h1 h2 z => f9 c a h2 h1 z.symm) hct hnM (by decide) rfl (by decide) rfl hyc hn hnp w1 w2 w3 tw_58 w5 hst hls hP2 hP hS hd (fun H1 locs1 h1 h2 h3 => k H1 locs1 h2 h1 h3)
theorem lw_arg {i pc : Nat} {st : List Value} {nj : Int} (CA : lw_At p s m meth c b L xs) (hi : i + 6 ≤ L) (hL : L ≤ 3072) (j : Nat) (hj : j < 6) {a1 a2 : Nat} (hl : lv_has ls 4 [(0, .ref b), (1, .ref a1), (2, .ref a2), (3, .int (nI i))]) (hS : va_S (fun q : Nat => s.heap.size ≤ q) s.heap H locs) (d0 : decode code pc = .ok (.aload_n 0, 1)) (d1 : decode code (pc + 1) = .ok (.iload_n 3, 1)) (d2 : decode code (pc + 2) = .ok (.iconst nj, 1)) (hnj : Int32.ofInt nj = nI j) (d3 : decode code (pc + 3) = .ok (.iadd, 1)) (d4 : decode code (pc + 4) = .ok (.iaload, 1))
    (k : W p l e room_1 s m #[Value.ref b] below meth c H locs kc ks Z (F0 m (pc + 5) ls (.int (xs (i + j)) :: st))) : W p l e room_1 s m #[Value.ref b] below meth c H locs kc ks Z (F0 m pc ls st) := by
  obtain ⟨hx, hb, hr, hml, hown, hts, hX, hbl, hlocks, hgv⟩ := CA
  refine lv_aload_n hx hb d0 rfl (lv_at hl 0 rfl) ?_
  refine lv_iload_n hx hb d1 rfl (lv_at hl 3 rfl) ?_
  refine lv_iconst (v := nI j) hx hb d2 hnj ?_
  refine lv_iadd hx hb d3 ?_
  rw [nI_add]
  refine va_sld (A := fun q : Nat => s.heap.size ≤ q) hx hb hX hbl (Nat.not_le.mpr hbl) hS (vp_in_nI (show i + j < L by omega) (by omega)) d4 ?_
  rw [nI_clamp (by omega)]
  exact k
end LW
