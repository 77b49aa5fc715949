/-! counting the bits of a long, by the program's words (rows wb_ are given for pasting) -/
theorem wb_tb (n : Nat) : (lN n).toBitVec = BitVec.ofNat 64 n := rfl
theorem wb_inj {a b : Int64} (h : a.toBitVec = b.toBitVec) : a = b := Int64.toBitVec_inj.mp h
theorem wb_tn {n : Nat} (h : n < 2 ^ 64) : (lN n).toBitVec.toNat = n := by rw [wb_tb, BitVec.toNat_ofNat, Nat.mod_eq_of_lt h]
theorem wb_of (x : Int64) : ∃ n, n < 2 ^ 64 ∧ x = lN n := ⟨x.toBitVec.toNat, x.toBitVec.isLt, wb_inj (by rw [wb_tb]; simp)⟩
theorem wb_of32 (x : Int32) : ∃ n, n < 2 ^ 32 ∧ x = nI n := ⟨x.toBitVec.toNat, x.toBitVec.isLt, Int32.toBitVec_inj.mp (by show _ = BitVec.ofNat 32 _; simp)⟩
theorem wb_c : ∀ k, k < 64 → ((nI k).toInt64 &&& 63) = lN k := by decide +kernel
theorem wb_cu : ∀ k, k < 64 → ((nI k).toInt64.toUInt64 &&& Int64.toUInt64 63) = UInt64.ofNat k := by decide +kernel
theorem wb_sm : ∀ k, k < 64 → (BitVec.ofNat 64 k).smod 64 = BitVec.ofNat 64 k := by decide +kernel
theorem wb_pw {a b : Nat} (h : a ≤ b) : 2 ^ b = 2 ^ a * 2 ^ (b - a) := by rw [← Nat.pow_add]; congr 1; omega
theorem wb_lt2 {a b : Nat} (h : a < b) : 2 ^ a < 2 ^ b := Nat.pow_lt_pow_right (by decide) h
theorem wb_mod (n : Nat) : lN n = lN (n % 2 ^ 64) := wb_inj (by rw [wb_tb, wb_tb]; apply BitVec.eq_of_toNat_eq; rw [BitVec.toNat_ofNat, BitVec.toNat_ofNat, Nat.mod_mod])
theorem wb_shr {n k : Nat} (hn : n < 2 ^ 64) (hk : k < 64) : ((lN n).toUInt64 >>> ((nI k).toInt64.toUInt64 &&& Int64.toUInt64 63)).toInt64 = lN (n / 2 ^ k) := by
  rw [wb_cu k hk]
  apply wb_inj
  apply BitVec.eq_of_toNat_eq
  show ((lN n).toUInt64 >>> UInt64.ofNat k).toNat = (BitVec.ofNat 64 _).toNat
  have h1 : (UInt64.ofNat k).toNat = k := by
    show (BitVec.ofNat 64 k).toNat = k
    rw [BitVec.toNat_ofNat, Nat.mod_eq_of_lt (by omega)]
  have h2 : (lN n).toUInt64.toNat = n := wb_tn hn
  rw [UInt64.toNat_shiftRight, h1, h2, Nat.mod_eq_of_lt hk, Nat.shiftRight_eq_div_pow, BitVec.toNat_ofNat, Nat.mod_eq_of_lt (Nat.lt_of_le_of_lt (Nat.div_le_self _ _) hn)]
theorem wb_shl (n : Nat) {k : Nat} (hk : k < 64) : lN n <<< ((nI k).toInt64 &&& 63) = lN (n * 2 ^ k) := by
  rw [wb_c k hk]
  apply wb_inj
  rw [Int64.toBitVec_shiftLeft, wb_tb, wb_tb, wb_tb, wb_sm k hk]
  apply BitVec.eq_of_toNat_eq
  rw [BitVec.shiftLeft_eq', BitVec.toNat_shiftLeft, BitVec.toNat_ofNat, BitVec.toNat_ofNat, BitVec.toNat_ofNat, Nat.mod_eq_of_lt (show k < 2 ^ 64 by omega), Nat.shiftLeft_eq, Nat.mul_mod, Nat.mod_mod, ← Nat.mul_mod]
theorem wb_and {a b : Nat} (ha : a < 2 ^ 64) (hb : b < 2 ^ 64) : lN a &&& lN b = lN (a &&& b) := by
  apply wb_inj
  rw [Int64.toBitVec_and, wb_tb, wb_tb, wb_tb]
  apply BitVec.eq_of_toNat_eq
  rw [BitVec.toNat_and, BitVec.toNat_ofNat, BitVec.toNat_ofNat, BitVec.toNat_ofNat, Nat.mod_eq_of_lt ha, Nat.mod_eq_of_lt hb, Nat.mod_eq_of_lt (Nat.and_lt_two_pow _ hb)]
theorem wb_or {a b : Nat} (ha : a < 2 ^ 64) (hb : b < 2 ^ 64) : lN a ||| lN b = lN (a ||| b) := by
  apply wb_inj
  rw [Int64.toBitVec_or, wb_tb, wb_tb, wb_tb]
  apply BitVec.eq_of_toNat_eq
  rw [BitVec.toNat_or, BitVec.toNat_ofNat, BitVec.toNat_ofNat, BitVec.toNat_ofNat, Nat.mod_eq_of_lt ha, Nat.mod_eq_of_lt hb, Nat.mod_eq_of_lt (Nat.or_lt_two_pow ha hb)]
theorem y_add {a b : Nat} (h : a + b < 2 ^ 64) : lN a + lN b = lN (a + b) := by
  apply wb_inj
  rw [Int64.toBitVec_add, wb_tb, wb_tb, wb_tb]
  apply BitVec.eq_of_toNat_eq
  rw [BitVec.toNat_add, BitVec.toNat_ofNat, BitVec.toNat_ofNat, BitVec.toNat_ofNat]
  omega
theorem y_sub {a b : Nat} (ha : a < 2 ^ 64) (h : b ≤ a) : lN a - lN b = lN (a - b) := by
  apply wb_inj
  rw [Int64.toBitVec_sub, wb_tb, wb_tb, wb_tb]
  apply BitVec.eq_of_toNat_eq
  rw [BitVec.toNat_sub, BitVec.toNat_ofNat, BitVec.toNat_ofNat, BitVec.toNat_ofNat]
  omega
theorem y_l2i (n : Nat) : (lN n).toInt32 = nI (n % 4294967296) := by
  apply Int32.toBitVec_inj.mp
  show (BitVec.ofNat 64 n).signExtend 32 = BitVec.ofNat 32 _
  apply BitVec.eq_of_toNat_eq
  rw [BitVec.signExtend_eq_setWidth_of_le _ (by decide), BitVec.toNat_setWidth, BitVec.toNat_ofNat, BitVec.toNat_ofNat]
  omega
theorem y_127 (n : Nat) : nI n &&& 127 = nI (n % 128) := by
  have e : (127 : Int32) = nI 127 := rfl
  rw [e, zn_and, show (127 : Nat) = 2 ^ 7 - 1 from rfl, Nat.and_two_pow_sub_one_eq_mod]
theorem yd_Long_bitCount_0 : decode zm_Long_bitCount.2.1 0 = .ok (.lload_n 0, 1) := by decide +kernel
theorem yd_Long_bitCount_1 : decode zm_Long_bitCount.2.1 1 = .ok (.lload_n 0, 1) := by decide +kernel
theorem yd_Long_bitCount_2 : decode zm_Long_bitCount.2.1 2 = .ok (.iconst 1, 1) := by decide +kernel
theorem yd_Long_bitCount_3 : decode zm_Long_bitCount.2.1 3 = .ok (.lushr, 1) := by decide +kernel
theorem yd_Long_bitCount_4 : decode zm_Long_bitCount.2.1 4 = .ok (.ldc2_w 314, 3) := by decide +kernel
theorem yd_Long_bitCount_7 : decode zm_Long_bitCount.2.1 7 = .ok (.land, 1) := by decide +kernel
theorem yd_Long_bitCount_8 : decode zm_Long_bitCount.2.1 8 = .ok (.lsub, 1) := by decide +kernel
theorem yd_Long_bitCount_9 : decode zm_Long_bitCount.2.1 9 = .ok (.lstore_n 0, 1) := by decide +kernel
theorem yd_Long_bitCount_10 : decode zm_Long_bitCount.2.1 10 = .ok (.lload_n 0, 1) := by decide +kernel
theorem yd_Long_bitCount_11 : decode zm_Long_bitCount.2.1 11 = .ok (.ldc2_w 316, 3) := by decide +kernel
theorem yd_Long_bitCount_14 : decode zm_Long_bitCount.2.1 14 = .ok (.land, 1) := by decide +kernel
theorem yd_Long_bitCount_15 : decode zm_Long_bitCount.2.1 15 = .ok (.lload_n 0, 1) := by decide +kernel
theorem yd_Long_bitCount_16 : decode zm_Long_bitCount.2.1 16 = .ok (.iconst 2, 1) := by decide +kernel
theorem yd_Long_bitCount_17 : decode zm_Long_bitCount.2.1 17 = .ok (.lushr, 1) := by decide +kernel
theorem yd_Long_bitCount_18 : decode zm_Long_bitCount.2.1 18 = .ok (.ldc2_w 316, 3) := by decide +kernel
theorem yd_Long_bitCount_21 : decode zm_Long_bitCount.2.1 21 = .ok (.land, 1) := by decide +kernel
theorem yd_Long_bitCount_22 : decode zm_Long_bitCount.2.1 22 = .ok (.ladd, 1) := by decide +kernel
theorem yd_Long_bitCount_23 : decode zm_Long_bitCount.2.1 23 = .ok (.lstore_n 0, 1) := by decide +kernel
theorem yd_Long_bitCount_24 : decode zm_Long_bitCount.2.1 24 = .ok (.lload_n 0, 1) := by decide +kernel
theorem yd_Long_bitCount_25 : decode zm_Long_bitCount.2.1 25 = .ok (.lload_n 0, 1) := by decide +kernel
theorem yd_Long_bitCount_26 : decode zm_Long_bitCount.2.1 26 = .ok (.iconst 4, 1) := by decide +kernel
theorem yd_Long_bitCount_27 : decode zm_Long_bitCount.2.1 27 = .ok (.lushr, 1) := by decide +kernel
theorem yd_Long_bitCount_28 : decode zm_Long_bitCount.2.1 28 = .ok (.ladd, 1) := by decide +kernel
theorem yd_Long_bitCount_29 : decode zm_Long_bitCount.2.1 29 = .ok (.ldc2_w 318, 3) := by decide +kernel
theorem yd_Long_bitCount_32 : decode zm_Long_bitCount.2.1 32 = .ok (.land, 1) := by decide +kernel
theorem yd_Long_bitCount_33 : decode zm_Long_bitCount.2.1 33 = .ok (.lstore_n 0, 1) := by decide +kernel
theorem yd_Long_bitCount_34 : decode zm_Long_bitCount.2.1 34 = .ok (.lload_n 0, 1) := by decide +kernel
theorem yd_Long_bitCount_35 : decode zm_Long_bitCount.2.1 35 = .ok (.lload_n 0, 1) := by decide +kernel
theorem yd_Long_bitCount_36 : decode zm_Long_bitCount.2.1 36 = .ok (.bipush 8, 2) := by decide +kernel
theorem yd_Long_bitCount_38 : decode zm_Long_bitCount.2.1 38 = .ok (.lushr, 1) := by decide +kernel
theorem yd_Long_bitCount_39 : decode zm_Long_bitCount.2.1 39 = .ok (.ladd, 1) := by decide +kernel
theorem yd_Long_bitCount_40 : decode zm_Long_bitCount.2.1 40 = .ok (.lstore_n 0, 1) := by decide +kernel
theorem yd_Long_bitCount_41 : decode zm_Long_bitCount.2.1 41 = .ok (.lload_n 0, 1) := by decide +kernel
theorem yd_Long_bitCount_42 : decode zm_Long_bitCount.2.1 42 = .ok (.lload_n 0, 1) := by decide +kernel
theorem yd_Long_bitCount_43 : decode zm_Long_bitCount.2.1 43 = .ok (.bipush 16, 2) := by decide +kernel
theorem yd_Long_bitCount_45 : decode zm_Long_bitCount.2.1 45 = .ok (.lushr, 1) := by decide +kernel
theorem yd_Long_bitCount_46 : decode zm_Long_bitCount.2.1 46 = .ok (.ladd, 1) := by decide +kernel
theorem yd_Long_bitCount_47 : decode zm_Long_bitCount.2.1 47 = .ok (.lstore_n 0, 1) := by decide +kernel
theorem yd_Long_bitCount_48 : decode zm_Long_bitCount.2.1 48 = .ok (.lload_n 0, 1) := by decide +kernel
theorem yd_Long_bitCount_49 : decode zm_Long_bitCount.2.1 49 = .ok (.lload_n 0, 1) := by decide +kernel
theorem yd_Long_bitCount_50 : decode zm_Long_bitCount.2.1 50 = .ok (.bipush 32, 2) := by decide +kernel
theorem yd_Long_bitCount_52 : decode zm_Long_bitCount.2.1 52 = .ok (.lushr, 1) := by decide +kernel
theorem yd_Long_bitCount_53 : decode zm_Long_bitCount.2.1 53 = .ok (.ladd, 1) := by decide +kernel
theorem yd_Long_bitCount_54 : decode zm_Long_bitCount.2.1 54 = .ok (.lstore_n 0, 1) := by decide +kernel
theorem yd_Long_bitCount_55 : decode zm_Long_bitCount.2.1 55 = .ok (.lload_n 0, 1) := by decide +kernel
theorem yd_Long_bitCount_56 : decode zm_Long_bitCount.2.1 56 = .ok (.l2i, 1) := by decide +kernel
theorem yd_Long_bitCount_57 : decode zm_Long_bitCount.2.1 57 = .ok (.bipush 127, 2) := by decide +kernel
theorem yd_Long_bitCount_59 : decode zm_Long_bitCount.2.1 59 = .ok (.iand, 1) := by decide +kernel
theorem yd_Long_bitCount_60 : decode zm_Long_bitCount.2.1 60 = .ok (.ireturn, 1) := by decide +kernel
/-- the contract of counting the bits of a long -/
def y_Cl (x : Nat) (σ : zS) (P : Int32 → zS → Prop) : Prop := ∀ (d : Nat) (l : Launch) (D : va_G) (cy : Nat → ClassId) (ad : Nat → Nat) (sz : Nat), Met l zm_Long_bitCount.1 (z_wm zm_Long_bitCount) (zR d) (va_Pc [Value.long (lN x)] (fun U => U.heap.size = sz ∧ va_P D zC (z_ws cy ad σ) U.heap ∧ va_K D zC (z_ty cy) U ∧ va_D (fun _ => True) (z_ws cy ad σ) ∧ z_Nw U)) (va_Qi P (z_B D cy ad (z_A ad sz)) (z_A ad sz)) 0 0 (z_A ad sz)
theorem y_k314 : Cond.constantLong "java/lang/Long" 314 (lN 6148914691236517205) ∈ zTB := zi_t (by decide +kernel) (by decide +kernel)
theorem y_k316 : Cond.constantLong "java/lang/Long" 316 (lN 3689348814741910323) ∈ zTB := zi_t (by decide +kernel) (by decide +kernel)
theorem y_k318 : Cond.constantLong "java/lang/Long" 318 (lN 1085102592571150095) ∈ zTB := zi_t (by decide +kernel) (by decide +kernel)
theorem y_bitCount {x : Nat} (hx : x < 2 ^ 64) (σ : zS) : y_Cl x σ (fun r u => r = nI (m_thk (fun _ => 1) x 64) ∧ u = σ) := by
  intro d l D cy ad sz
  refine Met.ofW (cc := zm_Long_bitCount.2.1) (maxL := 2) (ret := some .int) (by decide) rfl ?_
  intro p e s m args below meth c s₁ B hml hv
  obtain ⟨rfl, hsz, hP, hK, hD0, hN⟩ := hv
  subst hsz
  have hts := atoms_spec (ws := z_wm zm_Long_bitCount) B.pre
  have hw : ∀ w ∈ zTB, w.before _ s = true := fun w hw => hts w (List.mem_cons_of_mem _ hw)
  have hown := findClass_of_methodNamed B.named
  rw [lg_entry_eq]
  have h0 : lv_has _ 2 [(0, Value.long (lN x))] := lv_entry [Value.long (lN x)] (n := 2) (Nat.le_refl 2)
  obtain ⟨b1, b2, b3, b4, b5, b6, b7, b8⟩ := k_main hx
  refine lv_lload_n B.exec B.bytes yd_Long_bitCount_0 rfl (lv_at h0 0 rfl) ?_
  refine lv_lload_n B.exec B.bytes yd_Long_bitCount_1 rfl (lv_at h0 0 rfl) ?_
  refine lv_iconst B.exec B.bytes yd_Long_bitCount_2 (v := nI 1) rfl ?_
  refine lv_lushr B.exec B.bytes yd_Long_bitCount_3 (wb_shr hx (by decide)) ?_
  refine lv_ldc2 B.exec B.bytes hown (hw _ y_k314) yd_Long_bitCount_4 ?_
  refine lv_land B.exec B.bytes yd_Long_bitCount_7 ?_
  rw [wb_and (show x / 2 ^ 1 < 2 ^ 64 by omega) (by decide)]
  refine lv_lsub B.exec B.bytes yd_Long_bitCount_8 ?_
  rw [y_sub hx b2]
  refine lv_lstore_n B.exec B.bytes yd_Long_bitCount_9 rfl h0 (by decide) rfl (fun ls1 h1 => ?_)
  have h1 : lv_has ls1 2 [(0, Value.long (lN (k_p1 x)))] := h1
  refine lv_lload_n B.exec B.bytes yd_Long_bitCount_10 rfl (lv_at h1 0 rfl) ?_
  refine lv_ldc2 B.exec B.bytes hown (hw _ y_k316) yd_Long_bitCount_11 ?_
  refine lv_land B.exec B.bytes yd_Long_bitCount_14 ?_
  rw [wb_and b1 (by decide)]
  refine lv_lload_n B.exec B.bytes yd_Long_bitCount_15 rfl (lv_at h1 0 rfl) ?_
  refine lv_iconst B.exec B.bytes yd_Long_bitCount_16 (v := nI 2) rfl ?_
  refine lv_lushr B.exec B.bytes yd_Long_bitCount_17 (wb_shr b1 (by decide)) ?_
  refine lv_ldc2 B.exec B.bytes hown (hw _ y_k316) yd_Long_bitCount_18 ?_
  refine lv_land B.exec B.bytes yd_Long_bitCount_21 ?_
  rw [wb_and (Nat.lt_of_le_of_lt (Nat.div_le_self _ _) b1) (by decide)]
  refine lv_ladd B.exec B.bytes yd_Long_bitCount_22 ?_
  rw [y_add b3]
  refine lv_lstore_n B.exec B.bytes yd_Long_bitCount_23 rfl h1 (by decide) rfl (fun ls2 h2 => ?_)
  have h2 : lv_has ls2 2 [(0, Value.long (lN (k_p2 (k_p1 x))))] := h2
  refine lv_lload_n B.exec B.bytes yd_Long_bitCount_24 rfl (lv_at h2 0 rfl) ?_
  refine lv_lload_n B.exec B.bytes yd_Long_bitCount_25 rfl (lv_at h2 0 rfl) ?_
  refine lv_iconst B.exec B.bytes yd_Long_bitCount_26 (v := nI 4) rfl ?_
  refine lv_lushr B.exec B.bytes yd_Long_bitCount_27 (wb_shr b3 (by decide)) ?_
  refine lv_ladd B.exec B.bytes yd_Long_bitCount_28 ?_
  rw [y_add b4]
  refine lv_ldc2 B.exec B.bytes hown (hw _ y_k318) yd_Long_bitCount_29 ?_
  refine lv_land B.exec B.bytes yd_Long_bitCount_32 ?_
  rw [wb_and b4 (by decide)]
  refine lv_lstore_n B.exec B.bytes yd_Long_bitCount_33 rfl h2 (by decide) rfl (fun ls3 h3 => ?_)
  have h3 : lv_has ls3 2 [(0, Value.long (lN (k_p3 (k_p2 (k_p1 x)))))] := h3
  have b33 : k_p3 (k_p2 (k_p1 x)) < 2 ^ 64 := Nat.and_lt_two_pow _ (by decide)
  refine lv_lload_n B.exec B.bytes yd_Long_bitCount_34 rfl (lv_at h3 0 rfl) ?_
  refine lv_lload_n B.exec B.bytes yd_Long_bitCount_35 rfl (lv_at h3 0 rfl) ?_
  refine lv_bipush B.exec B.bytes yd_Long_bitCount_36 (v := nI 8) rfl ?_
  refine lv_lushr B.exec B.bytes yd_Long_bitCount_38 (wb_shr b33 (by decide)) ?_
  refine lv_ladd B.exec B.bytes yd_Long_bitCount_39 ?_
  rw [y_add b5]
  refine lv_lstore_n B.exec B.bytes yd_Long_bitCount_40 rfl h3 (by decide) rfl (fun lsh4 h4 => ?_)
  have h4 : lv_has lsh4 2 [(0, Value.long (lN (k_p4 (k_p3 (k_p2 (k_p1 x))))))] := h4
  refine lv_lload_n B.exec B.bytes yd_Long_bitCount_41 rfl (lv_at h4 0 rfl) ?_
  refine lv_lload_n B.exec B.bytes yd_Long_bitCount_42 rfl (lv_at h4 0 rfl) ?_
  refine lv_bipush B.exec B.bytes yd_Long_bitCount_43 (v := nI 16) rfl ?_
  refine lv_lushr B.exec B.bytes yd_Long_bitCount_45 (wb_shr b5 (by decide)) ?_
  refine lv_ladd B.exec B.bytes yd_Long_bitCount_46 ?_
  rw [y_add b6]
  refine lv_lstore_n B.exec B.bytes yd_Long_bitCount_47 rfl h4 (by decide) rfl (fun lsh5 h5 => ?_)
  have h5 : lv_has lsh5 2 [(0, Value.long (lN (k_p5 (k_p4 (k_p3 (k_p2 (k_p1 x)))))))] := h5
  refine lv_lload_n B.exec B.bytes yd_Long_bitCount_48 rfl (lv_at h5 0 rfl) ?_
  refine lv_lload_n B.exec B.bytes yd_Long_bitCount_49 rfl (lv_at h5 0 rfl) ?_
  refine lv_bipush B.exec B.bytes yd_Long_bitCount_50 (v := nI 32) rfl ?_
  refine lv_lushr B.exec B.bytes yd_Long_bitCount_52 (wb_shr b6 (by decide)) ?_
  refine lv_ladd B.exec B.bytes yd_Long_bitCount_53 ?_
  rw [y_add b7]
  refine lv_lstore_n B.exec B.bytes yd_Long_bitCount_54 rfl h5 (by decide) rfl (fun lsh6 h6 => ?_)
  have h6 : lv_has lsh6 2 [(0, Value.long (lN (k_p6 (k_p5 (k_p4 (k_p3 (k_p2 (k_p1 x))))))))] := h6
  refine lv_lload_n B.exec B.bytes yd_Long_bitCount_55 rfl (lv_at h6 0 rfl) ?_
  refine lv_l2i B.exec B.bytes yd_Long_bitCount_56 (y_l2i _) ?_
  refine lv_bipush B.exec B.bytes yd_Long_bitCount_57 (v := 127) rfl ?_
  refine lv_iand B.exec B.bytes yd_Long_bitCount_59 ?_
  have ev : nI (k_p6 (k_p5 (k_p4 (k_p3 (k_p2 (k_p1 x))))) % 4294967296) &&& 127 = nI (m_thk (fun _ => 1) x 64) := by
    rw [y_127, ← b8]
    congr 1
    omega
  rw [ev]
  have hS0 : va_S (z_A ad s.heap.size) s.heap s.heap [] := va_S.rf
  exact W.iret B.exec B.bytes B.returns (fun t ht hW => ⟨⟨_, σ, rfl, ⟨rfl, rfl⟩, by rw [ht]; exact hP, va_K.moved hW.alike hK, z_D_A hD0⟩, hS0.F ht⟩) hS0.2.2 yd_Long_bitCount_60 B.notSynchronized
