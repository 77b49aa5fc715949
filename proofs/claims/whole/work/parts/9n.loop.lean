theorem l_lt {L k : Nat} (hL : L ≤ 2560) (hk : 5 * k ≤ L) : (Int32.ofNat L - 5 < nI (5 * k)) ↔ ¬ 5 * k + 5 ≤ L := by
  by_cases h : 5 ≤ L
  · obtain ⟨j, rfl⟩ : ∃ j, L = j + 5 := ⟨L - 5, by omega⟩
    have e : Int32.ofNat (j + 5) - 5 = nI j := by
      rw [show Int32.ofNat (j + 5) = nI j + 5 from (nI_add j 5).symm]
      exact Int32.add_sub_cancel _ _
    rw [e, nI_ltI (by omega) (by omega)]
    omega
  · have hk0 : k = 0 := by omega
    subst hk0
    match L, h with
    | 0, _ => decide
    | 1, _ => decide
    | 2, _ => decide
    | 3, _ => decide
    | 4, _ => decide
    | n + 5, h => exact absurd (Nat.le_add_left 5 n) h
def l_offs : Array Int := #[169, 194, 219, 232, 245, 258, 271, 339, 407, 475, 536, 573, 622, 647, 684, 709, 722, 735, 760, 773, 798, 811, 836, 861, 886, 899, 924, 961, 986, 999, 1036, 1049, 1074, 1087, 1124, 1161, 1186, 1211, 1236]
section
variable {p : Program} {l : Launch} {e : Env} {s : State} {m : MethodId} {b : Nat} {below : List Frame} {meth : Method} {c : Code} {Qf : State → Prop} {D : va_G} {cy : Nat → ClassId} {cJ : ClassId} {L k cells slots : Nat} {xs : Nat → Int32} {x : tX} {B : Nat} {H : Heap} {locs : List Loc} {ls : Array Slot}
theorem l_sw (S : lS p l e s m b below meth c Qf D cy cJ L xs) {n tgt : Nat} {off : Int} (hn : n < 39) (ho : l_offs[n]? = some off) (ht : (39 : Int) + off = (tgt : Int)) (kk : W p l e room_1 s m #[Value.ref b] below meth c H locs cells slots Qf (F0 m tgt ls [])) : W p l e room_1 s m #[Value.ref b] below meth c H locs cells slots Qf (F0 m 39 ls [.int (nI n)]) := by
  have C := S.1 0 0 (by decide) (by decide)
  have e : (nI n).toInt = (n : Int) := nI_toInt (by omega)
  refine lv_tableIn C.1 C.2.1 zd_L_39 (by rw [e]; omega) (by rw [e]; omega) (off := off) ?_ (by rw [← ht]; rfl) kk
  rw [e, Int.sub_zero, Int.toNat_natCast]
  exact ho
theorem l_next (S : lS p l e s m b below meth c Qf D cy cJ L xs) {x : tX} (ih : lJ p l e s m b below meth c Qf D cy cJ (k + 1) cells slots 23 x) : lJ p l e s m b below meth c Qf D cy cJ k cells slots 1331 x := by
  intro σ H locs ls v a1 a2 a3 a4 a5 a6 a7
  have C := S.1 0 0 (by decide) (by decide)
  refine lv_iinc (k := 4) (v := nI (5 * (k + 1))) C.1 C.2.1 zd_L_1331 a7 rfl (nI_add (5 * k) 5) (by decide) rfl (fun ls1 h1 => ?_)
  have h1 : lv_has ls1 7 [(4, .int (nI (5 * (k + 1)))), (0, .ref b), (1, .ref (y_ad s.heap.size b 0)), (2, .ref (y_ad s.heap.size b 63)), (3, .ref (lq s))] := h1
  exact lv_goto (tgt := 23) C.1 C.2.1 zd_L_1334 (by decide) (ih σ H locs ls1 v a1 a2 a3 a4 a5 a6 (lv_sub h1 [1, 2, 3, 4, 0] rfl))
theorem l_case (S : lS p l e s m b below meth c Qf D cy cJ L xs) (hk : 5 * k + 5 ≤ L) (hc : cells + 1 ≤ 601024) (hs : slots + 6 ≤ 7293033) (hQ : xQ B x) (hB : B + 2079 < 1073741824) (kk : ∀ x2, (aI (x_s x2) (x_v x2) → xQ (B + 2079) x2) → lJ p l e s m b below meth c Qf D cy cJ k (cells + 1) (slots + 6) 1331 x2) : ∀ (w : Int32) (σ : zS) (H : Heap) (locs : List Loc) (ls : Array Slot) (v : Int64), cA x σ → mA x σ → va_P D zC (z_ws cy (y_ad s.heap.size b) σ) H → va_D (fun q => s.heap.size ≤ q) (z_ws cy (y_ad s.heap.size b) σ) → va_S (fun q => s.heap.size ≤ q) s.heap H locs → H[lq s]? = some (lO cJ v) → lv_has ls 7 [(0, .ref b), (1, .ref (y_ad s.heap.size b 0)), (2, .ref (y_ad s.heap.size b 63)), (3, .ref (lq s)), (4, .int (nI (5 * k)))] →
    W p l e room_1 s m #[Value.ref b] below meth c H locs cells slots Qf (F0 m 39 ls [.int w]) := by
  intro w σ H locs ls v a1 a2 a3 a4 a5 a6 a7
  have C := S.1 0 0 (by decide) (by decide)
  have hI : aI (x_s x) (x_v x) := a1.1.1
  by_cases hw : w.toInt < 0 ∨ 38 < w.toInt
  · exact lv_tableOut (tgt := 1331) C.1 C.2.1 zd_L_39 hw (by decide) (lJ_end (Nat.le_succ _) (Nat.le_add_right _ 6) (kk x (fun _ => hQ.up)) σ H locs ls v a1 a2 a3 a4 a5 a6 a7)
  · obtain ⟨n, hn, rfl⟩ : ∃ n : Nat, n ≤ 38 ∧ w = nI n := nI_of2 (M := nI 38) (nI_toInt (by decide)) (by rw [Int32.lt_iff_toInt_lt]; show ¬ w.toInt < 0; omega) (by rw [Int32.le_iff_toInt_le, nI_toInt (by decide)]; omega)
    clear hw
    match n, hn with
    | 0, _ => exact l_sw S (n := 0) (off := 169) (tgt := 208) (by decide) rfl (by decide) (lc_sign S hk hc hs hI hQ hB kk σ H locs ls v a1 a2 a3 a4 a5 a6 a7)
    | 1, _ => exact l_sw S (n := 1) (off := 194) (tgt := 233) (by decide) rfl (by decide) (lc_end S hk hc hs hI hQ hB kk σ H locs ls v a1 a2 a3 a4 a5 a6 a7)
    | 2, _ => exact l_sw S (n := 2) (off := 219) (tgt := 258) (by decide) rfl (by decide) (lc_books S hk hc hs hI hQ hB kk σ H locs ls v a1 a2 a3 a4 a5 a6 a7)
    | 3, _ => exact l_sw S (n := 3) (off := 232) (tgt := 271) (by decide) rfl (by decide) (lc_wall S hk hc hs hI hQ hB kk σ H locs ls v a1 a2 a3 a4 a5 a6 a7)
    | 4, _ => exact l_sw S (n := 4) (off := 245) (tgt := 284) (by decide) rfl (by decide) (lc_readers S hk hc hs hI hQ hB kk σ H locs ls v a1 a2 a3 a4 a5 a6 a7)
    | 5, _ => exact l_sw S (n := 5) (off := 258) (tgt := 297) (by decide) rfl (by decide) (lc_rule S hk hc hs hI hQ hB kk σ H locs ls v a1 a2 a3 a4 a5 a6 a7)
    | 6, _ => exact l_sw S (n := 6) (off := 271) (tgt := 310) (by decide) rfl (by decide) (lc_book S hk hc hs hI hQ hB kk σ H locs ls v a1 a2 a3 a4 a5 a6 a7)
    | 7, _ => exact l_sw S (n := 7) (off := 339) (tgt := 378) (by decide) rfl (by decide) (lc_column S hk hc hs hI hQ hB kk σ H locs ls v a1 a2 a3 a4 a5 a6 a7)
    | 8, _ => exact l_sw S (n := 8) (off := 407) (tgt := 446) (by decide) rfl (by decide) (lc_reader S hk hc hs hI hQ hB kk σ H locs ls v a1 a2 a3 a4 a5 a6 a7)
    | 9, _ => exact l_sw S (n := 9) (off := 475) (tgt := 514) (by decide) rfl (by decide) (lc_sheet S hk hc hs hI hQ hB kk σ H locs ls v a1 a2 a3 a4 a5 a6 a7)
    | 10, _ => exact l_sw S (n := 10) (off := 536) (tgt := 575) (by decide) rfl (by decide) (lc_lay S hk hc hs hI hQ hB kk σ H locs ls v a1 a2 a3 a4 a5 a6 a7)
    | 11, _ => exact l_sw S (n := 11) (off := 573) (tgt := 612) (by decide) rfl (by decide) (lc_lend S hk hc hs hI hQ hB kk σ H locs ls v a1 a2 a3 a4 a5 a6 a7)
    | 12, _ => exact l_sw S (n := 12) (off := 622) (tgt := 661) (by decide) rfl (by decide) (lc_recall S hk hc hs hI hQ hB kk σ H locs ls v a1 a2 a3 a4 a5 a6 a7)
    | 13, _ => exact l_sw S (n := 13) (off := 647) (tgt := 686) (by decide) rfl (by decide) (lc_shot S hk hc hs hI hQ hB kk σ H locs ls v a1 a2 a3 a4 a5 a6 a7)
    | 14, _ => exact l_sw S (n := 14) (off := 684) (tgt := 723) (by decide) rfl (by decide) (lc_days S hk hc hs hI hQ hB kk σ H locs ls v a1 a2 a3 a4 a5 a6 a7)
    | 15, _ => exact l_sw S (n := 15) (off := 709) (tgt := 748) (by decide) rfl (by decide) (lc_siege S hk hc hs hI hQ hB kk σ H locs ls v a1 a2 a3 a4 a5 a6 a7)
    | 16, _ => exact l_sw S (n := 16) (off := 722) (tgt := 761) (by decide) rfl (by decide) (lc_undo S hk hc hs hI hQ hB kk σ H locs ls v a1 a2 a3 a4 a5 a6 a7)
    | 17, _ => exact l_sw S (n := 17) (off := 735) (tgt := 774) (by decide) rfl (by decide) (lc_low S hk hc hs hI hQ hB kk σ H locs ls v a1 a2 a3 a4 a5 a6 a7)
    | 18, _ => exact l_sw S (n := 18) (off := 760) (tgt := 799) (by decide) rfl (by decide) (lc_weakest S hk hc hs hI hQ hB kk σ H locs ls v a1 a2 a3 a4 a5 a6 a7)
    | 19, _ => exact l_sw S (n := 19) (off := 773) (tgt := 812) (by decide) rfl (by decide) (lc_room S hk hc hs hI hQ hB kk σ H locs ls v a1 a2 a3 a4 a5 a6 a7)
    | 20, _ => exact l_sw S (n := 20) (off := 798) (tgt := 837) (by decide) rfl (by decide) (lc_home S hk hc hs hI hQ hB kk σ H locs ls v a1 a2 a3 a4 a5 a6 a7)
    | 21, _ => exact l_sw S (n := 21) (off := 811) (tgt := 850) (by decide) rfl (by decide) (lc_spares S hk hc hs hI hQ hB kk σ H locs ls v a1 a2 a3 a4 a5 a6 a7)
    | 22, _ => exact l_sw S (n := 22) (off := 836) (tgt := 875) (by decide) rfl (by decide) (lc_spare S hk hc hs hI hQ hB kk σ H locs ls v a1 a2 a3 a4 a5 a6 a7)
    | 23, _ => exact l_sw S (n := 23) (off := 861) (tgt := 900) (by decide) rfl (by decide) (lc_build S hk hc hs hI hQ hB kk σ H locs ls v a1 a2 a3 a4 a5 a6 a7)
    | 24, _ => exact l_sw S (n := 24) (off := 886) (tgt := 925) (by decide) rfl (by decide) (lc_tallest S hk hc hs hI hQ hB kk σ H locs ls v a1 a2 a3 a4 a5 a6 a7)
    | 25, _ => exact l_sw S (n := 25) (off := 899) (tgt := 938) (by decide) rfl (by decide) (lc_calls S hk hc hs hI hQ hB kk σ H locs ls v a1 a2 a3 a4 a5 a6 a7)
    | 26, _ => exact l_sw S (n := 26) (off := 924) (tgt := 963) (by decide) rfl (by decide) (lc_stack S hk hc hs hI hQ hB kk σ H locs ls v a1 a2 a3 a4 a5 a6 a7)
    | 27, _ => exact l_sw S (n := 27) (off := 961) (tgt := 1000) (by decide) rfl (by decide) (lc_play S hk hc hs hI hQ hB kk σ H locs ls v a1 a2 a3 a4 a5 a6 a7)
    | 28, _ => exact l_sw S (n := 28) (off := 986) (tgt := 1025) (by decide) rfl (by decide) (lc_law S hk hc hs hI hQ hB kk σ H locs ls v a1 a2 a3 a4 a5 a6 a7)
    | 29, _ => exact l_sw S (n := 29) (off := 999) (tgt := 1038) (by decide) rfl (by decide) (lc_seen S hk hc hs hI hQ hB kk σ H locs ls v a1 a2 a3 a4 a5 a6 a7)
    | 30, _ => exact l_sw S (n := 30) (off := 1036) (tgt := 1075) (by decide) rfl (by decide) (lc_forget S hk hc hs hI hQ hB kk σ H locs ls v a1 a2 a3 a4 a5 a6 a7)
    | 31, _ => exact l_sw S (n := 31) (off := 1049) (tgt := 1088) (by decide) rfl (by decide) (lc_out S hk hc hs hI hQ hB kk σ H locs ls v a1 a2 a3 a4 a5 a6 a7)
    | 32, _ => exact l_sw S (n := 32) (off := 1074) (tgt := 1113) (by decide) rfl (by decide) (lc_look S hk hc hs hI hQ hB kk σ H locs ls v a1 a2 a3 a4 a5 a6 a7)
    | 33, _ => exact l_sw S (n := 33) (off := 1087) (tgt := 1126) (by decide) rfl (by decide) (lc_rests S hk hc hs hI hQ hB kk σ H locs ls v a1 a2 a3 a4 a5 a6 a7)
    | 34, _ => exact l_sw S (n := 34) (off := 1124) (tgt := 1163) (by decide) rfl (by decide) (lc_years S hk hc hs hI hQ hB kk σ H locs ls v a1 a2 a3 a4 a5 a6 a7)
    | 35, _ => exact l_sw S (n := 35) (off := 1161) (tgt := 1200) (by decide) rfl (by decide) (lc_keep S hk hc hs hI hQ hB kk σ H locs ls v a1 a2 a3 a4 a5 a6 a7)
    | 36, _ => exact l_sw S (n := 36) (off := 1186) (tgt := 1225) (by decide) rfl (by decide) (lc_again S hk hc hs hI hQ hB kk σ H locs ls v a1 a2 a3 a4 a5 a6 a7)
    | 37, _ => exact l_sw S (n := 37) (off := 1211) (tgt := 1250) (by decide) rfl (by decide) (lc_count S hk hc hs hI hQ hB kk σ H locs ls v a1 a2 a3 a4 a5 a6 a7)
    | 38, _ => exact l_sw S (n := 38) (off := 1236) (tgt := 1275) (by decide) rfl (by decide) (lc_row S hk hc hs hI hQ hB kk σ H locs ls v a1 a2 a3 a4 a5 a6 a7)
    | n + 39, h => exact absurd h (by omega)
theorem l_loop (S : lS p l e s m b below meth c Qf D cy cJ L xs) (kend : ∀ (H : Heap) (locs : List Loc) (ls : Array Slot), va_S (fun q => s.heap.size ≤ q) s.heap H locs → W p l e room_1 s m #[Value.ref b] below meth c H locs 601024 7293033 Qf (F0 m 1337 ls [])) : ∀ n k, L ≤ 5 * k + n → 5 * k ≤ L → ∀ x, xQ (2079 * k) x → lJ p l e s m b below meth c Qf D cy cJ k (90 + k) (3495 + 6 * k) 23 x := by
  intro n
  induction n with
  | zero =>
    intro k hn hk x hQ σ H locs ls v a1 a2 a3 a4 a5 a6 a7
    have hL := S.2.2.1
    have C := S.1 0 0 (by decide) (by decide)
    obtain ⟨-, -, -, hX, hbl, -, -⟩ := S
    refine lv_iload C.1 C.2.1 zd_L_23 (lv_at a7 4 rfl) ?_
    refine lv_aload_n C.1 C.2.1 zd_L_25 rfl (lv_at a7 0 rfl) ?_
    refine va_slen C.1 C.2.1 hX hbl (Nat.not_le.mpr hbl) a5 zd_L_26 ?_
    refine lv_iconst (v := 5) C.1 C.2.1 zd_L_27 (by decide) ?_
    refine lv_isub C.1 C.2.1 zd_L_28 ?_
    refine lv_icmp_gt (tgt := 1337) C.1 C.2.1 zd_L_29 (by decide) (fun _ => W.widen (by omega) (by omega) (kend H locs ls a5)) (fun h => absurd ((l_lt hL hk).mpr (by omega)) h)
  | succ n ih =>
    intro k hn hk x hQ σ H locs ls v a1 a2 a3 a4 a5 a6 a7
    have hL := S.2.2.1
    have C := S.1 0 0 (by decide) (by decide)
    have S' := S
    obtain ⟨-, -, -, hX, hbl, -, -⟩ := S
    refine lv_iload C.1 C.2.1 zd_L_23 (lv_at a7 4 rfl) ?_
    refine lv_aload_n C.1 C.2.1 zd_L_25 rfl (lv_at a7 0 rfl) ?_
    refine va_slen C.1 C.2.1 hX hbl (Nat.not_le.mpr hbl) a5 zd_L_26 ?_
    refine lv_iconst (v := 5) C.1 C.2.1 zd_L_27 (by decide) ?_
    refine lv_isub C.1 C.2.1 zd_L_28 ?_
    refine lv_icmp_gt (tgt := 1337) C.1 C.2.1 zd_L_29 (by decide) (fun _ => W.widen (by omega) (by omega) (kend H locs ls a5)) (fun h => ?_)
    have h5 : 5 * k + 5 ≤ L := Decidable.not_not.mp (fun q => h ((l_lt hL hk).mpr q))
    refine lv_aload_n C.1 C.2.1 zd_L_32 rfl (lv_at a7 0 rfl) ?_
    refine lv_iload C.1 C.2.1 zd_L_33 (lv_at a7 4 rfl) ?_
    refine va_sld C.1 C.2.1 hX hbl (Nat.not_le.mpr hbl) a5 (vp_in_nI (by omega) (by omega)) zd_L_35 ?_
    refine lv_bipush (v := 63) C.1 C.2.1 zd_L_36 (by decide) ?_
    refine lv_iand C.1 C.2.1 zd_L_38 ?_
    refine l_case (B := 2079 * k) S' h5 (by omega) (by omega) hQ (by omega) (fun x2 hq σ H locs ls v a1 a2 a3 a4 a5 a6 a7 => ?_) _ σ H locs ls v a1 a2 a3 a4 a5 a6 a7
    exact l_next S' (ih (k + 1) (by omega) (by omega) x2 (hq a1.1.1)) σ H locs ls v a1 a2 a3 a4 a5 a6 a7
end
