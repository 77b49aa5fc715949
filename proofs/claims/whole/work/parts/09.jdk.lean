theorem zd_Integer_bitCount_0 : decode zm_Integer_bitCount.2.1 0 = .ok (.iload_n 0, 1) := by decide +kernel
theorem zd_Integer_bitCount_1 : decode zm_Integer_bitCount.2.1 1 = .ok (.iload_n 0, 1) := by decide +kernel
theorem zd_Integer_bitCount_2 : decode zm_Integer_bitCount.2.1 2 = .ok (.iconst 1, 1) := by decide +kernel
theorem zd_Integer_bitCount_3 : decode zm_Integer_bitCount.2.1 3 = .ok (.iushr, 1) := by decide +kernel
theorem zd_Integer_bitCount_4 : decode zm_Integer_bitCount.2.1 4 = .ok (.ldc_w 265, 3) := by decide +kernel
theorem zd_Integer_bitCount_7 : decode zm_Integer_bitCount.2.1 7 = .ok (.iand, 1) := by decide +kernel
theorem zd_Integer_bitCount_8 : decode zm_Integer_bitCount.2.1 8 = .ok (.isub, 1) := by decide +kernel
theorem zd_Integer_bitCount_9 : decode zm_Integer_bitCount.2.1 9 = .ok (.istore_n 0, 1) := by decide +kernel
theorem zd_Integer_bitCount_10 : decode zm_Integer_bitCount.2.1 10 = .ok (.iload_n 0, 1) := by decide +kernel
theorem zd_Integer_bitCount_11 : decode zm_Integer_bitCount.2.1 11 = .ok (.ldc_w 266, 3) := by decide +kernel
theorem zd_Integer_bitCount_14 : decode zm_Integer_bitCount.2.1 14 = .ok (.iand, 1) := by decide +kernel
theorem zd_Integer_bitCount_15 : decode zm_Integer_bitCount.2.1 15 = .ok (.iload_n 0, 1) := by decide +kernel
theorem zd_Integer_bitCount_16 : decode zm_Integer_bitCount.2.1 16 = .ok (.iconst 2, 1) := by decide +kernel
theorem zd_Integer_bitCount_17 : decode zm_Integer_bitCount.2.1 17 = .ok (.iushr, 1) := by decide +kernel
theorem zd_Integer_bitCount_18 : decode zm_Integer_bitCount.2.1 18 = .ok (.ldc_w 266, 3) := by decide +kernel
theorem zd_Integer_bitCount_21 : decode zm_Integer_bitCount.2.1 21 = .ok (.iand, 1) := by decide +kernel
theorem zd_Integer_bitCount_22 : decode zm_Integer_bitCount.2.1 22 = .ok (.iadd, 1) := by decide +kernel
theorem zd_Integer_bitCount_23 : decode zm_Integer_bitCount.2.1 23 = .ok (.istore_n 0, 1) := by decide +kernel
theorem zd_Integer_bitCount_24 : decode zm_Integer_bitCount.2.1 24 = .ok (.iload_n 0, 1) := by decide +kernel
theorem zd_Integer_bitCount_25 : decode zm_Integer_bitCount.2.1 25 = .ok (.iload_n 0, 1) := by decide +kernel
theorem zd_Integer_bitCount_26 : decode zm_Integer_bitCount.2.1 26 = .ok (.iconst 4, 1) := by decide +kernel
theorem zd_Integer_bitCount_27 : decode zm_Integer_bitCount.2.1 27 = .ok (.iushr, 1) := by decide +kernel
theorem zd_Integer_bitCount_28 : decode zm_Integer_bitCount.2.1 28 = .ok (.iadd, 1) := by decide +kernel
theorem zd_Integer_bitCount_29 : decode zm_Integer_bitCount.2.1 29 = .ok (.ldc_w 267, 3) := by decide +kernel
theorem zd_Integer_bitCount_32 : decode zm_Integer_bitCount.2.1 32 = .ok (.iand, 1) := by decide +kernel
theorem zd_Integer_bitCount_33 : decode zm_Integer_bitCount.2.1 33 = .ok (.istore_n 0, 1) := by decide +kernel
theorem zd_Integer_bitCount_34 : decode zm_Integer_bitCount.2.1 34 = .ok (.iload_n 0, 1) := by decide +kernel
theorem zd_Integer_bitCount_35 : decode zm_Integer_bitCount.2.1 35 = .ok (.iload_n 0, 1) := by decide +kernel
theorem zd_Integer_bitCount_36 : decode zm_Integer_bitCount.2.1 36 = .ok (.bipush 8, 2) := by decide +kernel
theorem zd_Integer_bitCount_38 : decode zm_Integer_bitCount.2.1 38 = .ok (.iushr, 1) := by decide +kernel
theorem zd_Integer_bitCount_39 : decode zm_Integer_bitCount.2.1 39 = .ok (.iadd, 1) := by decide +kernel
theorem zd_Integer_bitCount_40 : decode zm_Integer_bitCount.2.1 40 = .ok (.istore_n 0, 1) := by decide +kernel
theorem zd_Integer_bitCount_41 : decode zm_Integer_bitCount.2.1 41 = .ok (.iload_n 0, 1) := by decide +kernel
theorem zd_Integer_bitCount_42 : decode zm_Integer_bitCount.2.1 42 = .ok (.iload_n 0, 1) := by decide +kernel
theorem zd_Integer_bitCount_43 : decode zm_Integer_bitCount.2.1 43 = .ok (.bipush 16, 2) := by decide +kernel
theorem zd_Integer_bitCount_45 : decode zm_Integer_bitCount.2.1 45 = .ok (.iushr, 1) := by decide +kernel
theorem zd_Integer_bitCount_46 : decode zm_Integer_bitCount.2.1 46 = .ok (.iadd, 1) := by decide +kernel
theorem zd_Integer_bitCount_47 : decode zm_Integer_bitCount.2.1 47 = .ok (.istore_n 0, 1) := by decide +kernel
theorem zd_Integer_bitCount_48 : decode zm_Integer_bitCount.2.1 48 = .ok (.iload_n 0, 1) := by decide +kernel
theorem zd_Integer_bitCount_49 : decode zm_Integer_bitCount.2.1 49 = .ok (.bipush 63, 2) := by decide +kernel
theorem zd_Integer_bitCount_51 : decode zm_Integer_bitCount.2.1 51 = .ok (.iand, 1) := by decide +kernel
theorem zd_Integer_bitCount_52 : decode zm_Integer_bitCount.2.1 52 = .ok (.ireturn, 1) := by decide +kernel
theorem zb_Integer_bitCount_0 {Γ : zG} {σ : zS} {x0 : Int32}  (e : z_end Γ (some ((((((((x0 - ((z_ushr x0 (nI 1)) &&& (1431655765 : Int32))) &&& (858993459 : Int32)) + ((z_ushr (x0 - ((z_ushr x0 (nI 1)) &&& (1431655765 : Int32))) (nI 2)) &&& (858993459 : Int32))) + (z_ushr (((x0 - ((z_ushr x0 (nI 1)) &&& (1431655765 : Int32))) &&& (858993459 : Int32)) + ((z_ushr (x0 - ((z_ushr x0 (nI 1)) &&& (1431655765 : Int32))) (nI 2)) &&& (858993459 : Int32))) (nI 4))) &&& (252645135 : Int32)) + (z_ushr (((((x0 - ((z_ushr x0 (nI 1)) &&& (1431655765 : Int32))) &&& (858993459 : Int32)) + ((z_ushr (x0 - ((z_ushr x0 (nI 1)) &&& (1431655765 : Int32))) (nI 2)) &&& (858993459 : Int32))) + (z_ushr (((x0 - ((z_ushr x0 (nI 1)) &&& (1431655765 : Int32))) &&& (858993459 : Int32)) + ((z_ushr (x0 - ((z_ushr x0 (nI 1)) &&& (1431655765 : Int32))) (nI 2)) &&& (858993459 : Int32))) (nI 4))) &&& (252645135 : Int32)) (nI 8))) + (z_ushr ((((((x0 - ((z_ushr x0 (nI 1)) &&& (1431655765 : Int32))) &&& (858993459 : Int32)) + ((z_ushr (x0 - ((z_ushr x0 (nI 1)) &&& (1431655765 : Int32))) (nI 2)) &&& (858993459 : Int32))) + (z_ushr (((x0 - ((z_ushr x0 (nI 1)) &&& (1431655765 : Int32))) &&& (858993459 : Int32)) + ((z_ushr (x0 - ((z_ushr x0 (nI 1)) &&& (1431655765 : Int32))) (nI 2)) &&& (858993459 : Int32))) (nI 4))) &&& (252645135 : Int32)) + (z_ushr (((((x0 - ((z_ushr x0 (nI 1)) &&& (1431655765 : Int32))) &&& (858993459 : Int32)) + ((z_ushr (x0 - ((z_ushr x0 (nI 1)) &&& (1431655765 : Int32))) (nI 2)) &&& (858993459 : Int32))) + (z_ushr (((x0 - ((z_ushr x0 (nI 1)) &&& (1431655765 : Int32))) &&& (858993459 : Int32)) + ((z_ushr (x0 - ((z_ushr x0 (nI 1)) &&& (1431655765 : Int32))) (nI 2)) &&& (858993459 : Int32))) (nI 4))) &&& (252645135 : Int32)) (nI 8))) (nI 16))) &&& (nI 63))) σ) : z_J Γ zm_Integer_bitCount 0 [some (.inl (x0))] [] σ := by
  refine zj_iload_n zd_Integer_bitCount_0 rfl ?_
  refine zj_iload_n zd_Integer_bitCount_1 rfl ?_
  refine zj_iconst (v := nI 1) zd_Integer_bitCount_2 (by decide) ?_
  refine zj_iushr zd_Integer_bitCount_3 ?_
  refine zj_ldcw (v := 1431655765) zl_Integer_265 zd_Integer_bitCount_4 ?_
  refine zj_iand zd_Integer_bitCount_7 ?_
  refine zj_isub zd_Integer_bitCount_8 ?_
  refine zj_istore_n (L' := [some (.inl (x0 - ((z_ushr x0 (nI 1)) &&& (1431655765 : Int32))))]) zd_Integer_bitCount_9 (by decide) rfl ?_
  refine zj_iload_n zd_Integer_bitCount_10 rfl ?_
  refine zj_ldcw (v := 858993459) zl_Integer_266 zd_Integer_bitCount_11 ?_
  refine zj_iand zd_Integer_bitCount_14 ?_
  refine zj_iload_n zd_Integer_bitCount_15 rfl ?_
  refine zj_iconst (v := nI 2) zd_Integer_bitCount_16 (by decide) ?_
  refine zj_iushr zd_Integer_bitCount_17 ?_
  refine zj_ldcw (v := 858993459) zl_Integer_266 zd_Integer_bitCount_18 ?_
  refine zj_iand zd_Integer_bitCount_21 ?_
  refine zj_iadd zd_Integer_bitCount_22 ?_
  refine zj_istore_n (L' := [some (.inl (((x0 - ((z_ushr x0 (nI 1)) &&& (1431655765 : Int32))) &&& (858993459 : Int32)) + ((z_ushr (x0 - ((z_ushr x0 (nI 1)) &&& (1431655765 : Int32))) (nI 2)) &&& (858993459 : Int32))))]) zd_Integer_bitCount_23 (by decide) rfl ?_
  refine zj_iload_n zd_Integer_bitCount_24 rfl ?_
  refine zj_iload_n zd_Integer_bitCount_25 rfl ?_
  refine zj_iconst (v := nI 4) zd_Integer_bitCount_26 (by decide) ?_
  refine zj_iushr zd_Integer_bitCount_27 ?_
  refine zj_iadd zd_Integer_bitCount_28 ?_
  refine zj_ldcw (v := 252645135) zl_Integer_267 zd_Integer_bitCount_29 ?_
  refine zj_iand zd_Integer_bitCount_32 ?_
  refine zj_istore_n (L' := [some (.inl (((((x0 - ((z_ushr x0 (nI 1)) &&& (1431655765 : Int32))) &&& (858993459 : Int32)) + ((z_ushr (x0 - ((z_ushr x0 (nI 1)) &&& (1431655765 : Int32))) (nI 2)) &&& (858993459 : Int32))) + (z_ushr (((x0 - ((z_ushr x0 (nI 1)) &&& (1431655765 : Int32))) &&& (858993459 : Int32)) + ((z_ushr (x0 - ((z_ushr x0 (nI 1)) &&& (1431655765 : Int32))) (nI 2)) &&& (858993459 : Int32))) (nI 4))) &&& (252645135 : Int32)))]) zd_Integer_bitCount_33 (by decide) rfl ?_
  refine zj_iload_n zd_Integer_bitCount_34 rfl ?_
  refine zj_iload_n zd_Integer_bitCount_35 rfl ?_
  refine zj_bipush (v := nI 8) zd_Integer_bitCount_36 (by decide) ?_
  refine zj_iushr zd_Integer_bitCount_38 ?_
  refine zj_iadd zd_Integer_bitCount_39 ?_
  refine zj_istore_n (L' := [some (.inl ((((((x0 - ((z_ushr x0 (nI 1)) &&& (1431655765 : Int32))) &&& (858993459 : Int32)) + ((z_ushr (x0 - ((z_ushr x0 (nI 1)) &&& (1431655765 : Int32))) (nI 2)) &&& (858993459 : Int32))) + (z_ushr (((x0 - ((z_ushr x0 (nI 1)) &&& (1431655765 : Int32))) &&& (858993459 : Int32)) + ((z_ushr (x0 - ((z_ushr x0 (nI 1)) &&& (1431655765 : Int32))) (nI 2)) &&& (858993459 : Int32))) (nI 4))) &&& (252645135 : Int32)) + (z_ushr (((((x0 - ((z_ushr x0 (nI 1)) &&& (1431655765 : Int32))) &&& (858993459 : Int32)) + ((z_ushr (x0 - ((z_ushr x0 (nI 1)) &&& (1431655765 : Int32))) (nI 2)) &&& (858993459 : Int32))) + (z_ushr (((x0 - ((z_ushr x0 (nI 1)) &&& (1431655765 : Int32))) &&& (858993459 : Int32)) + ((z_ushr (x0 - ((z_ushr x0 (nI 1)) &&& (1431655765 : Int32))) (nI 2)) &&& (858993459 : Int32))) (nI 4))) &&& (252645135 : Int32)) (nI 8))))]) zd_Integer_bitCount_40 (by decide) rfl ?_
  refine zj_iload_n zd_Integer_bitCount_41 rfl ?_
  refine zj_iload_n zd_Integer_bitCount_42 rfl ?_
  refine zj_bipush (v := nI 16) zd_Integer_bitCount_43 (by decide) ?_
  refine zj_iushr zd_Integer_bitCount_45 ?_
  refine zj_iadd zd_Integer_bitCount_46 ?_
  refine zj_istore_n (L' := [some (.inl (((((((x0 - ((z_ushr x0 (nI 1)) &&& (1431655765 : Int32))) &&& (858993459 : Int32)) + ((z_ushr (x0 - ((z_ushr x0 (nI 1)) &&& (1431655765 : Int32))) (nI 2)) &&& (858993459 : Int32))) + (z_ushr (((x0 - ((z_ushr x0 (nI 1)) &&& (1431655765 : Int32))) &&& (858993459 : Int32)) + ((z_ushr (x0 - ((z_ushr x0 (nI 1)) &&& (1431655765 : Int32))) (nI 2)) &&& (858993459 : Int32))) (nI 4))) &&& (252645135 : Int32)) + (z_ushr (((((x0 - ((z_ushr x0 (nI 1)) &&& (1431655765 : Int32))) &&& (858993459 : Int32)) + ((z_ushr (x0 - ((z_ushr x0 (nI 1)) &&& (1431655765 : Int32))) (nI 2)) &&& (858993459 : Int32))) + (z_ushr (((x0 - ((z_ushr x0 (nI 1)) &&& (1431655765 : Int32))) &&& (858993459 : Int32)) + ((z_ushr (x0 - ((z_ushr x0 (nI 1)) &&& (1431655765 : Int32))) (nI 2)) &&& (858993459 : Int32))) (nI 4))) &&& (252645135 : Int32)) (nI 8))) + (z_ushr ((((((x0 - ((z_ushr x0 (nI 1)) &&& (1431655765 : Int32))) &&& (858993459 : Int32)) + ((z_ushr (x0 - ((z_ushr x0 (nI 1)) &&& (1431655765 : Int32))) (nI 2)) &&& (858993459 : Int32))) + (z_ushr (((x0 - ((z_ushr x0 (nI 1)) &&& (1431655765 : Int32))) &&& (858993459 : Int32)) + ((z_ushr (x0 - ((z_ushr x0 (nI 1)) &&& (1431655765 : Int32))) (nI 2)) &&& (858993459 : Int32))) (nI 4))) &&& (252645135 : Int32)) + (z_ushr (((((x0 - ((z_ushr x0 (nI 1)) &&& (1431655765 : Int32))) &&& (858993459 : Int32)) + ((z_ushr (x0 - ((z_ushr x0 (nI 1)) &&& (1431655765 : Int32))) (nI 2)) &&& (858993459 : Int32))) + (z_ushr (((x0 - ((z_ushr x0 (nI 1)) &&& (1431655765 : Int32))) &&& (858993459 : Int32)) + ((z_ushr (x0 - ((z_ushr x0 (nI 1)) &&& (1431655765 : Int32))) (nI 2)) &&& (858993459 : Int32))) (nI 4))) &&& (252645135 : Int32)) (nI 8))) (nI 16))))]) zd_Integer_bitCount_47 (by decide) rfl ?_
  refine zj_iload_n zd_Integer_bitCount_48 rfl ?_
  refine zj_bipush (v := nI 63) zd_Integer_bitCount_49 (by decide) ?_
  refine zj_iand zd_Integer_bitCount_51 ?_
  exact zj_ireturn rfl zd_Integer_bitCount_52 e
theorem zd_Arrays_fill_0 : decode zm_Arrays_fill.2.1 0 = .ok (.iconst 0, 1) := by decide +kernel
theorem zd_Arrays_fill_1 : decode zm_Arrays_fill.2.1 1 = .ok (.istore_n 2, 1) := by decide +kernel
theorem zd_Arrays_fill_2 : decode zm_Arrays_fill.2.1 2 = .ok (.aload_n 0, 1) := by decide +kernel
theorem zd_Arrays_fill_3 : decode zm_Arrays_fill.2.1 3 = .ok (.arraylength, 1) := by decide +kernel
theorem zd_Arrays_fill_4 : decode zm_Arrays_fill.2.1 4 = .ok (.istore_n 3, 1) := by decide +kernel
theorem zd_Arrays_fill_5 : decode zm_Arrays_fill.2.1 5 = .ok (.iload_n 2, 1) := by decide +kernel
theorem zd_Arrays_fill_6 : decode zm_Arrays_fill.2.1 6 = .ok (.iload_n 3, 1) := by decide +kernel
theorem zd_Arrays_fill_7 : decode zm_Arrays_fill.2.1 7 = .ok (.if_icmp .ge 13, 3) := by decide +kernel
theorem zd_Arrays_fill_10 : decode zm_Arrays_fill.2.1 10 = .ok (.aload_n 0, 1) := by decide +kernel
theorem zd_Arrays_fill_11 : decode zm_Arrays_fill.2.1 11 = .ok (.iload_n 2, 1) := by decide +kernel
theorem zd_Arrays_fill_12 : decode zm_Arrays_fill.2.1 12 = .ok (.iload_n 1, 1) := by decide +kernel
theorem zd_Arrays_fill_13 : decode zm_Arrays_fill.2.1 13 = .ok (.iastore, 1) := by decide +kernel
theorem zd_Arrays_fill_14 : decode zm_Arrays_fill.2.1 14 = .ok (.iinc 2 1, 3) := by decide +kernel
theorem zd_Arrays_fill_17 : decode zm_Arrays_fill.2.1 17 = .ok (.goto (-12), 3) := by decide +kernel
theorem zd_Arrays_fill_20 : decode zm_Arrays_fill.2.1 20 = .ok (.return_, 1) := by decide +kernel
theorem zb_Arrays_fill_0 {Γ : zG} {σ : zS} {a0 : Nat} {n0 : Nat} {x1 : Int32} (h_a0 : z_kd a0 = (11, n0)) (k : z_J Γ zm_Arrays_fill 5 [some (.inr (a0)), some (.inl (x1)), some (.inl (nI 0)), some (.inl (nI n0))] [] σ) : z_J Γ zm_Arrays_fill 0 [some (.inr (a0)), some (.inl (x1)), none, none] [] σ := by
  refine zj_iconst (v := nI 0) zd_Arrays_fill_0 (by decide) ?_
  refine zj_istore_n (L' := [some (.inr (a0)), some (.inl (x1)), some (.inl (nI 0)), none]) zd_Arrays_fill_1 (by decide) rfl ?_
  refine zj_aload_n zd_Arrays_fill_2 rfl ?_
  refine zj_alen h_a0 (by decide) (by decide) (v := nI n0) rfl zd_Arrays_fill_3 ?_
  refine zj_istore_n (L' := [some (.inr (a0)), some (.inl (x1)), some (.inl (nI 0)), some (.inl (nI n0))]) zd_Arrays_fill_4 (by decide) rfl ?_
  exact k
theorem zb_Arrays_fill_5 {Γ : zG} {σ : zS} {a0 : Nat} {n0 : Nat} {x1 x2 x3 : Int32} (h_a0 : z_kd a0 = (11, n0)) (kt : x3 ≤ x2 → z_J Γ zm_Arrays_fill 20 [none, none, none, none] [] σ) (kf : ¬ x3 ≤ x2 → z_J Γ zm_Arrays_fill 10 [some (.inr (a0)), some (.inl (x1)), some (.inl (x2)), some (.inl (x3))] [] σ) : z_J Γ zm_Arrays_fill 5 [some (.inr (a0)), some (.inl (x1)), some (.inl (x2)), some (.inl (x3))] [] σ := by
  refine zj_iload_n zd_Arrays_fill_5 rfl ?_
  refine zj_iload_n zd_Arrays_fill_6 rfl ?_
  exact zj_icmp_ge zd_Arrays_fill_7 (by decide) (fun h => (zj_weak (L' := [none, none, none, none]) trivial (kt h))) (fun h => (kf h))
theorem zb_Arrays_fill_10 {Γ : zG} {σ : zS} {a0 : Nat} {n0 : Nat} {x1 x2 x3 : Int32} {k1 : Nat} (h_a0 : z_kd a0 = (11, n0)) (hs_n0 : n0 < 2 ^ 31) (b1 : z_ix x2 n0 k1) (k : z_J Γ zm_Arrays_fill 5 [some (.inr (a0)), some (.inl (x1)), some (.inl (x2 + nI 1)), some (.inl (x3))] [] (z_pI σ a0 k1 x1)) : z_J Γ zm_Arrays_fill 10 [some (.inr (a0)), some (.inl (x1)), some (.inl (x2)), some (.inl (x3))] [] σ := by
  refine zj_aload_n zd_Arrays_fill_10 rfl ?_
  refine zj_iload_n zd_Arrays_fill_11 rfl ?_
  refine zj_iload_n zd_Arrays_fill_12 rfl ?_
  refine zj_iastore h_a0 hs_n0 b1 zd_Arrays_fill_13 ?_
  refine zj_iinc (v := nI 1) (L' := [some (.inr (a0)), some (.inl (x1)), some (.inl (x2 + nI 1)), some (.inl (x3))]) zd_Arrays_fill_14 rfl (by decide) (by decide) rfl ?_
  exact zj_goto zd_Arrays_fill_17 (by decide) k
theorem zb_Arrays_fill_20 {Γ : zG} {σ : zS}  (e : z_end Γ none σ) : z_J Γ zm_Arrays_fill 20 [none, none, none, none] [] σ := by
  exact zj_return rfl zd_Arrays_fill_20 e
