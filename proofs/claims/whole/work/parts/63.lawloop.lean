theorem law_sw {p : Program} {l : Launch} {e : Env} {s : State} {m : MethodId} {below : List Frame} {meth : Method} {c : Code} {b L : Nat} {xs : Nat → Int32} (hL : L ≤ 3072) (C0 : lw_At p s m meth c b L xs) {Ec Er : wq_E} (hF : lw_F2 s Ec Er) {i : Nat} (hi : i + 6 ≤ L) {Mc Mr : wq_M} {H : Heap} {locs : List Loc} (hP6 : va_P Ec.1 wq_cl (wq_ws Ec wq_yC Mc) H) (hP7 : va_P Er.1 wq_cl (wq_ws Er wq_yR Mr) H) (hS : va_S (fun q : Nat => s.heap.size ≤ q) s.heap H locs) (hI : Inv Mc Mr) {ls : Array Slot} (hl : lv_has ls 4 [(0, .ref b), (1, .ref (Ec.2.1 0)), (2, .ref (Er.2.1 0)), (3, .int (nI i))]) {kc ks : Nat} {Z : State → Prop} (kk : ∀ (Mc Mr : wq_M) (H : Heap) (locs : List Loc), va_P Ec.1 wq_cl (wq_ws Ec wq_yC Mc) H → va_P Er.1 wq_cl (wq_ws Er wq_yR Mr) H → va_S (fun q : Nat => s.heap.size ≤ q) s.heap H locs → Inv Mc Mr → W p l e room_1 s m #[Value.ref b] below meth c H locs kc ks Z (F0 m 1157 ls [])) (hkc : kc ≤ 600000) (hks : ks ≤ 7302250) : ∀ (j : Nat), j < 34 → W p l e room_1 s m #[Value.ref b] below meth c H locs kc ks Z (F0 m 33 ls [.int (nI j)])
  | 0, _ => lv_tableIn (tgt := 184) C0.1 C0.2.1 dL_law_33 (by decide) (by decide) (off := 151) (by decide) (by decide) (law_row hL C0 hF hi hP6 hP7 hS hI hl kk hkc hks)
  | 1, _ => lv_tableIn (tgt := 227) C0.1 C0.2.1 dL_law_33 (by decide) (by decide) (off := 194) (by decide) (by decide) (law_set hL C0 hF hi hP6 hP7 hS hI hl kk hkc hks)
  | 2, _ => lv_tableIn (tgt := 270) C0.1 C0.2.1 dL_law_33 (by decide) (by decide) (off := 237) (by decide) (by decide) (law_copy hL C0 hF hi hP6 hP7 hS hI hl kk hkc hks)
  | 3, _ => lv_tableIn (tgt := 333) C0.1 C0.2.1 dL_law_33 (by decide) (by decide) (off := 300) (by decide) (by decide) (law_drop hL C0 hF hi hP6 hP7 hS hI hl kk hkc hks)
  | 4, _ => lv_tableIn (tgt := 356) C0.1 C0.2.1 dL_law_33 (by decide) (by decide) (off := 323) (by decide) (by decide) (law_feed hL C0 hF hi hP6 hP7 hS hI hl kk hkc hks)
  | 5, _ => lv_tableIn (tgt := 379) C0.1 C0.2.1 dL_law_33 (by decide) (by decide) (off := 346) (by decide) (by decide) (law_well hL C0 hF hi hP6 hP7 hS hI hl kk hkc hks)
  | 6, _ => lv_tableIn (tgt := 392) C0.1 C0.2.1 dL_law_33 (by decide) (by decide) (off := 359) (by decide) (by decide) (law_fault hL C0 hF hi hP6 hP7 hS hI hl kk hkc hks)
  | 7, _ => lv_tableIn (tgt := 405) C0.1 C0.2.1 dL_law_33 (by decide) (by decide) (off := 372) (by decide) (by decide) (law_undo hL C0 hF hi hP6 hP7 hS hI hl kk hkc hks)
  | 8, _ => lv_tableIn (tgt := 418) C0.1 C0.2.1 dL_law_33 (by decide) (by decide) (off := 385) (by decide) (by decide) (law_lay hL C0 hF hi hP6 hP7 hS hI hl kk hkc hks)
  | 9, _ => lv_tableIn (tgt := 451) C0.1 C0.2.1 dL_law_33 (by decide) (by decide) (off := 418) (by decide) (by decide) (law_layBest hL C0 hF hi hP6 hP7 hS hI hl kk hkc hks)
  | 10, _ => lv_tableIn (tgt := 464) C0.1 C0.2.1 dL_law_33 (by decide) (by decide) (off := 431) (by decide) (by decide) (law_rule hL C0 hF hi hP6 hP7 hS hI hl kk hkc hks)
  | 11, _ => lv_tableIn (tgt := 497) C0.1 C0.2.1 dL_law_33 (by decide) (by decide) (off := 464) (by decide) (by decide) (law_price hL C0 hF hi hP6 hP7 hS hI hl kk hkc hks)
  | 12, _ => lv_tableIn (tgt := 530) C0.1 C0.2.1 dL_law_33 (by decide) (by decide) (off := 497) (by decide) (by decide) (law_grade hL C0 hF hi hP6 hP7 hS hI hl kk hkc hks)
  | 13, _ => lv_tableIn (tgt := 563) C0.1 C0.2.1 dL_law_33 (by decide) (by decide) (off := 530) (by decide) (by decide) (law_step hL C0 hF hi hP6 hP7 hS hI hl kk hkc hks)
  | 14, _ => lv_tableIn (tgt := 596) C0.1 C0.2.1 dL_law_33 (by decide) (by decide) (off := 563) (by decide) (by decide) (law_bears hL C0 hF hi hP6 hP7 hS hI hl kk hkc hks)
  | 15, _ => lv_tableIn (tgt := 629) C0.1 C0.2.1 dL_law_33 (by decide) (by decide) (off := 596) (by decide) (by decide) (law_stand hL C0 hF hi hP6 hP7 hS hI hl kk hkc hks)
  | 16, _ => lv_tableIn (tgt := 652) C0.1 C0.2.1 dL_law_33 (by decide) (by decide) (off := 619) (by decide) (by decide) (law_best hL C0 hF hi hP6 hP7 hS hI hl kk hkc hks)
  | 17, _ => lv_tableIn (tgt := 675) C0.1 C0.2.1 dL_law_33 (by decide) (by decide) (off := 642) (by decide) (by decide) (law_without hL C0 hF hi hP6 hP7 hS hI hl kk hkc hks)
  | 18, _ => lv_tableIn (tgt := 698) C0.1 C0.2.1 dL_law_33 (by decide) (by decide) (off := 665) (by decide) (by decide) (law_most hL C0 hF hi hP6 hP7 hS hI hl kk hkc hks)
  | 19, _ => lv_tableIn (tgt := 721) C0.1 C0.2.1 dL_law_33 (by decide) (by decide) (off := 688) (by decide) (by decide) (law_need hL C0 hF hi hP6 hP7 hS hI hl kk hkc hks)
  | 20, _ => lv_tableIn (tgt := 744) C0.1 C0.2.1 dL_law_33 (by decide) (by decide) (off := 711) (by decide) (by decide) (law_sets hL C0 hF hi hP6 hP7 hS hI hl kk hkc hks)
  | 21, _ => lv_tableIn (tgt := 777) C0.1 C0.2.1 dL_law_33 (by decide) (by decide) (off := 744) (by decide) (by decide) (law_share hL C0 hF hi hP6 hP7 hS hI hl kk hkc hks)
  | 22, _ => lv_tableIn (tgt := 810) C0.1 C0.2.1 dL_law_33 (by decide) (by decide) (off := 777) (by decide) (by decide) (law_byTurns hL C0 hF hi hP6 hP7 hS hI hl kk hkc hks)
  | 23, _ => lv_tableIn (tgt := 833) C0.1 C0.2.1 dL_law_33 (by decide) (by decide) (off := 800) (by decide) (by decide) (law_who hL C0 hF hi hP6 hP7 hS hI hl kk hkc hks)
  | 24, _ => lv_tableIn (tgt := 886) C0.1 C0.2.1 dL_law_33 (by decide) (by decide) (off := 853) (by decide) (by decide) (law_flaws hL C0 hF hi hP6 hP7 hS hI hl kk hkc hks)
  | 25, _ => lv_tableIn (tgt := 920) C0.1 C0.2.1 dL_law_33 (by decide) (by decide) (off := 887) (by decide) (by decide) (law_drawn hL C0 hF hi hP6 hP7 hS hI hl kk hkc hks)
  | 26, _ => lv_tableIn (tgt := 963) C0.1 C0.2.1 dL_law_33 (by decide) (by decide) (off := 930) (by decide) (by decide) (law_image hL C0 hF hi hP6 hP7 hS hI hl kk hkc hks)
  | 27, _ => lv_tableIn (tgt := 986) C0.1 C0.2.1 dL_law_33 (by decide) (by decide) (off := 953) (by decide) (by decide) (law_restore hL C0 hF hi hP6 hP7 hS hI hl kk hkc hks)
  | 28, _ => lv_tableIn (tgt := 1009) C0.1 C0.2.1 dL_law_33 (by decide) (by decide) (off := 976) (by decide) (by decide) (law_kind hL C0 hF hi hP6 hP7 hS hI hl kk hkc hks)
  | 29, _ => lv_tableIn (tgt := 1032) C0.1 C0.2.1 dL_law_33 (by decide) (by decide) (off := 999) (by decide) (by decide) (law_as hL C0 hF hi hP6 hP7 hS hI hl kk hkc hks)
  | 30, _ => lv_tableIn (tgt := 1065) C0.1 C0.2.1 dL_law_33 (by decide) (by decide) (off := 1032) (by decide) (by decide) (law_ask hL C0 hF hi hP6 hP7 hS hI hl kk hkc hks)
  | 31, _ => lv_tableIn (tgt := 1098) C0.1 C0.2.1 dL_law_33 (by decide) (by decide) (off := 1065) (by decide) (by decide) (law_trace hL C0 hF hi hP6 hP7 hS hI hl kk hkc hks)
  | 32, _ => lv_tableIn (tgt := 1121) C0.1 C0.2.1 dL_law_33 (by decide) (by decide) (off := 1088) (by decide) (by decide) (law_count hL C0 hF hi hP6 hP7 hS hI hl kk hkc hks)
  | 33, _ => lv_tableIn (tgt := 1144) C0.1 C0.2.1 dL_law_33 (by decide) (by decide) (off := 1111) (by decide) (by decide) (law_status hL C0 hF hi hP6 hP7 hS hI hl kk hkc hks)
  | j + 34, h => absurd h (by omega)
theorem law_loop {p : Program} {l : Launch} {e : Env} {s : State} {m : MethodId} {below : List Frame} {meth : Method} {c : Code} {b L : Nat} {xs : Nat → Int32} (hL : L ≤ 3072) (C0 : lw_At p s m meth c b L xs) {Ec Er : wq_E} (hF : lw_F2 s Ec Er) {kc ks : Nat} (hkc : kc ≤ 600000) (hks : ks ≤ 7302250) : ∀ (n i : Nat), i ≤ L + 6 → L + 7 ≤ i + n → ∀ (Mc Mr : wq_M) (H : Heap) (locs : List Loc), va_P Ec.1 wq_cl (wq_ws Ec wq_yC Mc) H → va_P Er.1 wq_cl (wq_ws Er wq_yR Mr) H → va_S (fun q : Nat => s.heap.size ≤ q) s.heap H locs → Inv Mc Mr → ∀ (ls : Array Slot), lv_has ls 4 [(0, .ref b), (1, .ref (Ec.2.1 0)), (2, .ref (Er.2.1 0)), (3, .int (nI i))] → W p l e room_1 s m #[Value.ref b] below meth c H locs kc ks (lw_Z below #[Value.ref b] s) (F0 m 18 ls []) := by
  obtain ⟨hx, hb, hr, hml, hown, hts, hX, hbl, hlocks, hgv⟩ := id C0
  intro n
  induction n with
  | zero =>
    intro i h1 h2
    exact absurd h2 (by omega)
  | succ n ih =>
    intro i hi0 hin Mc Mr H locs hP6 hP7 hS hI ls hl
    refine lv_iload_n hx hb dL_law_18 rfl (lv_at hl 3 rfl) ?_
    refine lv_aload_n hx hb dL_law_19 rfl (lv_at hl 0 rfl) ?_
    refine va_slen (A := fun q : Nat => s.heap.size ≤ q) hx hb hX hbl (Nat.not_le.mpr hbl) hS dL_law_20 ?_
    refine lv_bipush (v := nI 6) hx hb dL_law_21 (by decide) ?_
    refine lv_isub hx hb dL_law_23 ?_
    have hcmp : (nI L - nI 6).toInt = (L : Int) - 6 := pk_sub_toInt (by omega) (by omega)
    refine lv_icmp_gt (tgt := 1163) hx hb dL_law_24 (by decide) (fun c_1 => ?_) (fun c_1 => ?_)
    · refine lv_iconst (v := 1) hx hb dL_law_1163 (by decide) ?_
      refine va_forget (fun q hq => hS.2.2 q hq) ?_
      refine W.widen (k := 600000) (n := 7302250) hkc hks ?_
      exact lw_ret hx hb hr hlocks dL_law_1164
    · have hi : i + 6 ≤ L := by
        by_cases q : i + 6 ≤ L
        · exact q
        · exfalso
          apply c_1
          show nI L - nI 6 < nI i
          rw [Int32.lt_iff_toInt_lt, hcmp, nI_toInt (by omega)]
          omega
      refine lv_aload_n hx hb dL_law_27 rfl (lv_at hl 0 rfl) ?_
      refine lv_iload_n hx hb dL_law_28 rfl (lv_at hl 3 rfl) ?_
      refine va_sld (A := fun q : Nat => s.heap.size ≤ q) hx hb hX hbl (Nat.not_le.mpr hbl) hS (vp_in_nI (show i < L by omega) (by omega)) dL_law_29 ?_
      refine lv_bipush (v := 63) hx hb dL_law_30 (by decide) ?_
      refine lv_iand hx hb dL_law_32 ?_
      have kk : ∀ (Mc Mr : wq_M) (H : Heap) (locs : List Loc), va_P Ec.1 wq_cl (wq_ws Ec wq_yC Mc) H → va_P Er.1 wq_cl (wq_ws Er wq_yR Mr) H → va_S (fun q : Nat => s.heap.size ≤ q) s.heap H locs → Inv Mc Mr → W p l e room_1 s m #[Value.ref b] below meth c H locs kc ks (lw_Z below #[Value.ref b] s) (F0 m 1157 ls []) := by
        intro Mc Mr H locs hP6 hP7 hS hI
        refine lv_iinc (v := nI (i + 6)) (lv' := [(3, .int (nI (i + 6))), (0, .ref b), (1, .ref (Ec.2.1 0)), (2, .ref (Er.2.1 0))]) hx hb dL_law_1157 hl (k := 3) rfl (by rw [show Int32.ofInt 6 = nI 6 by decide, nI_add]) (by decide) rfl (fun ls hl => ?_)
        refine lv_goto (tgt := 18) hx hb dL_law_1160 (by decide) ?_
        exact ih (i + 6) (by omega) (by omega) Mc Mr H locs hP6 hP7 hS hI ls (lv_sub hl [1, 2, 3, 0] rfl)
      obtain ⟨j, hj, ej⟩ := pk_andE (xs (nI i).toNatClampNeg) (m := 63) 6 (by decide)
      rw [ej]
      by_cases h34 : j < 34
      · exact law_sw hL C0 hF hi hP6 hP7 hS hI hl kk hkc hks j h34
      · refine lv_tableOut (tgt := 1157) hx hb dL_law_33 (Or.inr ?_) (by decide) (kk Mc Mr H locs hP6 hP7 hS hI)
        rw [nI_toInt (by omega)]
        omega
