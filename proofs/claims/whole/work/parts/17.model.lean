theorem zd_Model_sum_0 : decode zm_Model_sum.2.1 0 = .ok (.aload_n 0, 1) := by decide +kernel
theorem zd_Model_sum_1 : decode zm_Model_sum.2.1 1 = .ok (.iload_n 1, 1) := by decide +kernel
theorem zd_Model_sum_2 : decode zm_Model_sum.2.1 2 = .ok (.invokevirtual 192, 3) := by decide +kernel
theorem zd_Model_sum_5 : decode zm_Model_sum.2.1 5 = .ok (.istore_n 2, 1) := by decide +kernel
theorem zd_Model_sum_6 : decode zm_Model_sum.2.1 6 = .ok (.aload_n 0, 1) := by decide +kernel
theorem zd_Model_sum_7 : decode zm_Model_sum.2.1 7 = .ok (.invokevirtual 129, 3) := by decide +kernel
theorem zd_Model_sum_10 : decode zm_Model_sum.2.1 10 = .ok (.ifCond .eq 72, 3) := by decide +kernel
theorem zd_Model_sum_13 : decode zm_Model_sum.2.1 13 = .ok (.aload_n 0, 1) := by decide +kernel
theorem zd_Model_sum_14 : decode zm_Model_sum.2.1 14 = .ok (.invokevirtual 133, 3) := by decide +kernel
theorem zd_Model_sum_17 : decode zm_Model_sum.2.1 17 = .ok (.bipush 43, 2) := by decide +kernel
theorem zd_Model_sum_19 : decode zm_Model_sum.2.1 19 = .ok (.if_icmp .eq 12, 3) := by decide +kernel
theorem zd_Model_sum_22 : decode zm_Model_sum.2.1 22 = .ok (.aload_n 0, 1) := by decide +kernel
theorem zd_Model_sum_23 : decode zm_Model_sum.2.1 23 = .ok (.invokevirtual 133, 3) := by decide +kernel
theorem zd_Model_sum_26 : decode zm_Model_sum.2.1 26 = .ok (.bipush 45, 2) := by decide +kernel
theorem zd_Model_sum_28 : decode zm_Model_sum.2.1 28 = .ok (.if_icmp .ne 54, 3) := by decide +kernel
theorem zd_Model_sum_31 : decode zm_Model_sum.2.1 31 = .ok (.aload_n 0, 1) := by decide +kernel
theorem zd_Model_sum_32 : decode zm_Model_sum.2.1 32 = .ok (.invokevirtual 133, 3) := by decide +kernel
theorem zd_Model_sum_35 : decode zm_Model_sum.2.1 35 = .ok (.bipush 43, 2) := by decide +kernel
theorem zd_Model_sum_37 : decode zm_Model_sum.2.1 37 = .ok (.if_icmp .ne 7, 3) := by decide +kernel
theorem zd_Model_sum_40 : decode zm_Model_sum.2.1 40 = .ok (.iconst 1, 1) := by decide +kernel
theorem zd_Model_sum_41 : decode zm_Model_sum.2.1 41 = .ok (.goto 4, 3) := by decide +kernel
theorem zd_Model_sum_44 : decode zm_Model_sum.2.1 44 = .ok (.iconst 0, 1) := by decide +kernel
theorem zd_Model_sum_45 : decode zm_Model_sum.2.1 45 = .ok (.istore_n 3, 1) := by decide +kernel
theorem zd_Model_sum_46 : decode zm_Model_sum.2.1 46 = .ok (.aload_n 0, 1) := by decide +kernel
theorem zd_Model_sum_47 : decode zm_Model_sum.2.1 47 = .ok (.dup, 1) := by decide +kernel
theorem zd_Model_sum_48 : decode zm_Model_sum.2.1 48 = .ok (.getfield 119, 3) := by decide +kernel
theorem zd_Model_sum_51 : decode zm_Model_sum.2.1 51 = .ok (.iconst 1, 1) := by decide +kernel
theorem zd_Model_sum_52 : decode zm_Model_sum.2.1 52 = .ok (.iadd, 1) := by decide +kernel
theorem zd_Model_sum_53 : decode zm_Model_sum.2.1 53 = .ok (.putfield 119, 3) := by decide +kernel
theorem zd_Model_sum_56 : decode zm_Model_sum.2.1 56 = .ok (.aload_n 0, 1) := by decide +kernel
theorem zd_Model_sum_57 : decode zm_Model_sum.2.1 57 = .ok (.iload_n 1, 1) := by decide +kernel
theorem zd_Model_sum_58 : decode zm_Model_sum.2.1 58 = .ok (.invokevirtual 192, 3) := by decide +kernel
theorem zd_Model_sum_61 : decode zm_Model_sum.2.1 61 = .ok (.istore 4, 2) := by decide +kernel
theorem zd_Model_sum_63 : decode zm_Model_sum.2.1 63 = .ok (.iload_n 3, 1) := by decide +kernel
theorem zd_Model_sum_64 : decode zm_Model_sum.2.1 64 = .ok (.ifCond .eq 10, 3) := by decide +kernel
theorem zd_Model_sum_67 : decode zm_Model_sum.2.1 67 = .ok (.iload_n 2, 1) := by decide +kernel
theorem zd_Model_sum_68 : decode zm_Model_sum.2.1 68 = .ok (.iload 4, 2) := by decide +kernel
theorem zd_Model_sum_70 : decode zm_Model_sum.2.1 70 = .ok (.iadd, 1) := by decide +kernel
theorem zd_Model_sum_71 : decode zm_Model_sum.2.1 71 = .ok (.goto 7, 3) := by decide +kernel
theorem zd_Model_sum_74 : decode zm_Model_sum.2.1 74 = .ok (.iload_n 2, 1) := by decide +kernel
theorem zd_Model_sum_75 : decode zm_Model_sum.2.1 75 = .ok (.iload 4, 2) := by decide +kernel
theorem zd_Model_sum_77 : decode zm_Model_sum.2.1 77 = .ok (.isub, 1) := by decide +kernel
theorem zd_Model_sum_78 : decode zm_Model_sum.2.1 78 = .ok (.istore_n 2, 1) := by decide +kernel
theorem zd_Model_sum_79 : decode zm_Model_sum.2.1 79 = .ok (.goto (-73), 3) := by decide +kernel
theorem zd_Model_sum_82 : decode zm_Model_sum.2.1 82 = .ok (.iload_n 2, 1) := by decide +kernel
theorem zd_Model_sum_83 : decode zm_Model_sum.2.1 83 = .ok (.ireturn, 1) := by decide +kernel
theorem zb_Model_sum_0 {Γ : zG} {σ : zS} {x1 : Int32} {dc : Nat} {P : Int32 → zS → Prop}  (hm : z_Ci dc zm_Model_product [.inr (63), .inl (x1)] σ P) (hdp : dc < z_dep Γ) (k : ∀ r σ1, P r σ1 → z_J Γ zm_Model_sum 5 [some (.inr (63)), some (.inl (x1)), none, none, none] [.inl (r)] σ1) : z_J Γ zm_Model_sum 0 [some (.inr (63)), some (.inl (x1)), none, none, none] [] σ := by
  refine zj_aload_n zd_Model_sum_0 rfl ?_
  refine zj_iload_n zd_Model_sum_1 rfl ?_
  exact zj_callVi (As := [.inl (x1)]) hm hdp rfl (by decide) rfl zl_Model_192 zq_Model_product zd_Model_sum_2 rfl (Nat.le_of_ble_eq_true rfl) (fun r σ1 h => (k r σ1 h))
theorem zb_Model_sum_5 {Γ : zG} {σ : zS} {x1 y0 : Int32}  (k : z_J Γ zm_Model_sum 6 [some (.inr (63)), some (.inl (x1)), some (.inl (y0)), none, none] [] σ) : z_J Γ zm_Model_sum 5 [some (.inr (63)), some (.inl (x1)), none, none, none] [.inl (y0)] σ := by
  refine zj_istore_n (L' := [some (.inr (63)), some (.inl (x1)), some (.inl (y0)), none, none]) zd_Model_sum_5 (by decide) rfl ?_
  exact k
theorem zb_Model_sum_6 {Γ : zG} {σ : zS} {x1 x2 : Int32} {dc : Nat} {P : Int32 → zS → Prop}  (hm : z_Ci dc zm_Model_fine [.inr (63)] σ P) (hdp : dc < z_dep Γ) (k : ∀ r σ1, P r σ1 → z_J Γ zm_Model_sum 10 [some (.inr (63)), some (.inl (x1)), some (.inl (x2)), none, none] [.inl (r)] σ1) : z_J Γ zm_Model_sum 6 [some (.inr (63)), some (.inl (x1)), some (.inl (x2)), none, none] [] σ := by
  refine zj_aload_n zd_Model_sum_6 rfl ?_
  exact zj_callVi (As := []) hm hdp rfl (by decide) rfl zl_Model_129 zq_Model_fine zd_Model_sum_7 rfl (Nat.le_of_ble_eq_true rfl) (fun r σ1 h => (k r σ1 h))
theorem zb_Model_sum_10 {Γ : zG} {σ : zS} {x1 x2 y0 : Int32}  (kt : y0 = 0 → z_J Γ zm_Model_sum 82 [none, none, some (.inl (x2)), none, none] [] σ) (kf : ¬ y0 = 0 → z_J Γ zm_Model_sum 13 [some (.inr (63)), some (.inl (x1)), some (.inl (x2)), none, none] [] σ) : z_J Γ zm_Model_sum 10 [some (.inr (63)), some (.inl (x1)), some (.inl (x2)), none, none] [.inl (y0)] σ := by
  exact zj_if_eq zd_Model_sum_10 (by decide) (fun h => (zj_weak (L' := [none, none, some (.inl (x2)), none, none]) ⟨rfl, trivial⟩ (kt h))) (fun h => (kf h))
theorem zb_Model_sum_13 {Γ : zG} {σ : zS} {x1 x2 : Int32} {dc : Nat} {P : Int32 → zS → Prop}  (hm : z_Ci dc zm_Model_here [.inr (63)] σ P) (hdp : dc < z_dep Γ) (k : ∀ r σ1, P r σ1 → z_J Γ zm_Model_sum 17 [some (.inr (63)), some (.inl (x1)), some (.inl (x2)), none, none] [.inl (r)] σ1) : z_J Γ zm_Model_sum 13 [some (.inr (63)), some (.inl (x1)), some (.inl (x2)), none, none] [] σ := by
  refine zj_aload_n zd_Model_sum_13 rfl ?_
  exact zj_callVi (As := []) hm hdp rfl (by decide) rfl zl_Model_133 zq_Model_here zd_Model_sum_14 rfl (Nat.le_of_ble_eq_true rfl) (fun r σ1 h => (k r σ1 h))
theorem zb_Model_sum_17 {Γ : zG} {σ : zS} {x1 x2 y0 : Int32}  (kt : y0 = (nI 43) → z_J Γ zm_Model_sum 31 [some (.inr (63)), some (.inl (x1)), some (.inl (x2)), none, none] [] σ) (kf : ¬ y0 = (nI 43) → z_J Γ zm_Model_sum 22 [some (.inr (63)), some (.inl (x1)), some (.inl (x2)), none, none] [] σ) : z_J Γ zm_Model_sum 17 [some (.inr (63)), some (.inl (x1)), some (.inl (x2)), none, none] [.inl (y0)] σ := by
  refine zj_bipush (v := nI 43) zd_Model_sum_17 (by decide) ?_
  exact zj_icmp_eq zd_Model_sum_19 (by decide) (fun h => (kt h)) (fun h => (kf h))
theorem zb_Model_sum_22 {Γ : zG} {σ : zS} {x1 x2 : Int32} {dc : Nat} {P : Int32 → zS → Prop}  (hm : z_Ci dc zm_Model_here [.inr (63)] σ P) (hdp : dc < z_dep Γ) (k : ∀ r σ1, P r σ1 → z_J Γ zm_Model_sum 26 [some (.inr (63)), some (.inl (x1)), some (.inl (x2)), none, none] [.inl (r)] σ1) : z_J Γ zm_Model_sum 22 [some (.inr (63)), some (.inl (x1)), some (.inl (x2)), none, none] [] σ := by
  refine zj_aload_n zd_Model_sum_22 rfl ?_
  exact zj_callVi (As := []) hm hdp rfl (by decide) rfl zl_Model_133 zq_Model_here zd_Model_sum_23 rfl (Nat.le_of_ble_eq_true rfl) (fun r σ1 h => (k r σ1 h))
theorem zb_Model_sum_26 {Γ : zG} {σ : zS} {x1 x2 y0 : Int32}  (kt : ¬ y0 = (nI 45) → z_J Γ zm_Model_sum 82 [none, none, some (.inl (x2)), none, none] [] σ) (kf : y0 = (nI 45) → z_J Γ zm_Model_sum 31 [some (.inr (63)), some (.inl (x1)), some (.inl (x2)), none, none] [] σ) : z_J Γ zm_Model_sum 26 [some (.inr (63)), some (.inl (x1)), some (.inl (x2)), none, none] [.inl (y0)] σ := by
  refine zj_bipush (v := nI 45) zd_Model_sum_26 (by decide) ?_
  exact zj_icmp_ne zd_Model_sum_28 (by decide) (fun h => (zj_weak (L' := [none, none, some (.inl (x2)), none, none]) ⟨rfl, trivial⟩ (kt h))) (fun h => (kf h))
theorem zb_Model_sum_31 {Γ : zG} {σ : zS} {x1 x2 : Int32} {dc : Nat} {P : Int32 → zS → Prop}  (hm : z_Ci dc zm_Model_here [.inr (63)] σ P) (hdp : dc < z_dep Γ) (k : ∀ r σ1, P r σ1 → z_J Γ zm_Model_sum 35 [some (.inr (63)), some (.inl (x1)), some (.inl (x2)), none, none] [.inl (r)] σ1) : z_J Γ zm_Model_sum 31 [some (.inr (63)), some (.inl (x1)), some (.inl (x2)), none, none] [] σ := by
  refine zj_aload_n zd_Model_sum_31 rfl ?_
  exact zj_callVi (As := []) hm hdp rfl (by decide) rfl zl_Model_133 zq_Model_here zd_Model_sum_32 rfl (Nat.le_of_ble_eq_true rfl) (fun r σ1 h => (k r σ1 h))
theorem zb_Model_sum_35 {Γ : zG} {σ : zS} {x1 x2 y0 : Int32}  (kt : ¬ y0 = (nI 43) → z_J Γ zm_Model_sum 44 [some (.inr (63)), some (.inl (x1)), some (.inl (x2)), none, none] [] σ) (kf : y0 = (nI 43) → z_J Γ zm_Model_sum 40 [some (.inr (63)), some (.inl (x1)), some (.inl (x2)), none, none] [] σ) : z_J Γ zm_Model_sum 35 [some (.inr (63)), some (.inl (x1)), some (.inl (x2)), none, none] [.inl (y0)] σ := by
  refine zj_bipush (v := nI 43) zd_Model_sum_35 (by decide) ?_
  exact zj_icmp_ne zd_Model_sum_37 (by decide) (fun h => (kt h)) (fun h => (kf h))
theorem zb_Model_sum_40 {Γ : zG} {σ : zS} {x1 x2 : Int32}  (k : z_J Γ zm_Model_sum 45 [some (.inr (63)), some (.inl (x1)), some (.inl (x2)), none, none] [.inl (nI 1)] σ) : z_J Γ zm_Model_sum 40 [some (.inr (63)), some (.inl (x1)), some (.inl (x2)), none, none] [] σ := by
  refine zj_iconst (v := nI 1) zd_Model_sum_40 (by decide) ?_
  exact zj_goto zd_Model_sum_41 (by decide) k
theorem zb_Model_sum_44 {Γ : zG} {σ : zS} {x1 x2 : Int32}  (k : z_J Γ zm_Model_sum 45 [some (.inr (63)), some (.inl (x1)), some (.inl (x2)), none, none] [.inl (nI 0)] σ) : z_J Γ zm_Model_sum 44 [some (.inr (63)), some (.inl (x1)), some (.inl (x2)), none, none] [] σ := by
  refine zj_iconst (v := nI 0) zd_Model_sum_44 (by decide) ?_
  exact k
theorem zb_Model_sum_45 {Γ : zG} {σ : zS} {x1 x2 y0 : Int32} {dc : Nat} {P : Int32 → zS → Prop}  (hm : z_Ci dc zm_Model_product [.inr (63), .inl (x1)] (z_pI σ 63 15 ((σ.1 63 15) + (nI 1))) P) (hdp : dc < z_dep Γ) (k : ∀ r σ1, P r σ1 → z_J Γ zm_Model_sum 61 [some (.inr (63)), some (.inl (x1)), some (.inl (x2)), some (.inl (y0)), none] [.inl (r)] σ1) : z_J Γ zm_Model_sum 45 [some (.inr (63)), some (.inl (x1)), some (.inl (x2)), none, none] [.inl (y0)] σ := by
  refine zj_istore_n (L' := [some (.inr (63)), some (.inl (x1)), some (.inl (x2)), some (.inl (y0)), none]) zd_Model_sum_45 (by decide) rfl ?_
  refine zj_aload_n zd_Model_sum_46 rfl ?_
  refine zj_dup zd_Model_sum_47 ?_
  refine zj_getI rfl (by decide) rfl zu_Model (k := 15) (by decide) rfl zl_Model_119 zd_Model_sum_48 ?_
  refine zj_iconst (v := nI 1) zd_Model_sum_51 (by decide) ?_
  refine zj_iadd zd_Model_sum_52 ?_
  refine zj_putI rfl (by decide) rfl zu_Model zy_Model_ok zn_Model (k := 15) (by decide) rfl rfl zl_Model_119 rfl rfl zd_Model_sum_53 ?_
  refine zj_aload_n zd_Model_sum_56 rfl ?_
  refine zj_iload_n zd_Model_sum_57 rfl ?_
  exact zj_callVi (As := [.inl (x1)]) hm hdp rfl (by decide) rfl zl_Model_192 zq_Model_product zd_Model_sum_58 rfl (Nat.le_of_ble_eq_true rfl) (fun r σ1 h => (k r σ1 h))
theorem zb_Model_sum_61 {Γ : zG} {σ : zS} {x1 x2 x3 y0 : Int32}  (kt : x3 = 0 → z_J Γ zm_Model_sum 74 [some (.inr (63)), some (.inl (x1)), some (.inl (x2)), none, some (.inl (y0))] [] σ) (kf : ¬ x3 = 0 → z_J Γ zm_Model_sum 67 [some (.inr (63)), some (.inl (x1)), some (.inl (x2)), none, some (.inl (y0))] [] σ) : z_J Γ zm_Model_sum 61 [some (.inr (63)), some (.inl (x1)), some (.inl (x2)), some (.inl (x3)), none] [.inl (y0)] σ := by
  refine zj_istore (L' := [some (.inr (63)), some (.inl (x1)), some (.inl (x2)), some (.inl (x3)), some (.inl (y0))]) zd_Model_sum_61 (by decide) rfl ?_
  refine zj_iload_n zd_Model_sum_63 rfl ?_
  exact zj_if_eq zd_Model_sum_64 (by decide) (fun h => (zj_weak (L' := [some (.inr (63)), some (.inl (x1)), some (.inl (x2)), none, some (.inl (y0))]) ⟨rfl, ⟨rfl, ⟨rfl, ⟨rfl, trivial⟩⟩⟩⟩ (kt h))) (fun h => (zj_weak (L' := [some (.inr (63)), some (.inl (x1)), some (.inl (x2)), none, some (.inl (y0))]) ⟨rfl, ⟨rfl, ⟨rfl, ⟨rfl, trivial⟩⟩⟩⟩ (kf h)))
theorem zb_Model_sum_67 {Γ : zG} {σ : zS} {x1 x2 x4 : Int32}  (k : z_J Γ zm_Model_sum 78 [some (.inr (63)), some (.inl (x1)), none, none, none] [.inl (x2 + x4)] σ) : z_J Γ zm_Model_sum 67 [some (.inr (63)), some (.inl (x1)), some (.inl (x2)), none, some (.inl (x4))] [] σ := by
  refine zj_iload_n zd_Model_sum_67 rfl ?_
  refine zj_iload zd_Model_sum_68 rfl ?_
  refine zj_iadd zd_Model_sum_70 ?_
  exact zj_goto zd_Model_sum_71 (by decide) (zj_weak (L' := [some (.inr (63)), some (.inl (x1)), none, none, none]) ⟨rfl, ⟨rfl, trivial⟩⟩ k)
theorem zb_Model_sum_74 {Γ : zG} {σ : zS} {x1 x2 x4 : Int32}  (k : z_J Γ zm_Model_sum 78 [some (.inr (63)), some (.inl (x1)), none, none, none] [.inl (x2 - x4)] σ) : z_J Γ zm_Model_sum 74 [some (.inr (63)), some (.inl (x1)), some (.inl (x2)), none, some (.inl (x4))] [] σ := by
  refine zj_iload_n zd_Model_sum_74 rfl ?_
  refine zj_iload zd_Model_sum_75 rfl ?_
  refine zj_isub zd_Model_sum_77 ?_
  exact (zj_weak (L' := [some (.inr (63)), some (.inl (x1)), none, none, none]) ⟨rfl, ⟨rfl, trivial⟩⟩ k)
theorem zb_Model_sum_78 {Γ : zG} {σ : zS} {x1 y0 : Int32}  (k : z_J Γ zm_Model_sum 6 [some (.inr (63)), some (.inl (x1)), some (.inl (y0)), none, none] [] σ) : z_J Γ zm_Model_sum 78 [some (.inr (63)), some (.inl (x1)), none, none, none] [.inl (y0)] σ := by
  refine zj_istore_n (L' := [some (.inr (63)), some (.inl (x1)), some (.inl (y0)), none, none]) zd_Model_sum_78 (by decide) rfl ?_
  exact zj_goto zd_Model_sum_79 (by decide) k
theorem zb_Model_sum_82 {Γ : zG} {σ : zS} {x2 : Int32}  (e : z_end Γ (some (x2)) σ) : z_J Γ zm_Model_sum 82 [none, none, some (.inl (x2)), none, none] [] σ := by
  refine zj_iload_n zd_Model_sum_82 rfl ?_
  exact zj_ireturn rfl zd_Model_sum_83 e
theorem zd_Model_product_0 : decode zm_Model_product.2.1 0 = .ok (.aload_n 0, 1) := by decide +kernel
theorem zd_Model_product_1 : decode zm_Model_product.2.1 1 = .ok (.iload_n 1, 1) := by decide +kernel
theorem zd_Model_product_2 : decode zm_Model_product.2.1 2 = .ok (.invokevirtual 195, 3) := by decide +kernel
theorem zd_Model_product_5 : decode zm_Model_product.2.1 5 = .ok (.istore_n 2, 1) := by decide +kernel
theorem zd_Model_product_6 : decode zm_Model_product.2.1 6 = .ok (.aload_n 0, 1) := by decide +kernel
theorem zd_Model_product_7 : decode zm_Model_product.2.1 7 = .ok (.invokevirtual 129, 3) := by decide +kernel
theorem zd_Model_product_10 : decode zm_Model_product.2.1 10 = .ok (.ifCond .eq 81, 3) := by decide +kernel
theorem zd_Model_product_13 : decode zm_Model_product.2.1 13 = .ok (.aload_n 0, 1) := by decide +kernel
theorem zd_Model_product_14 : decode zm_Model_product.2.1 14 = .ok (.invokevirtual 133, 3) := by decide +kernel
theorem zd_Model_product_17 : decode zm_Model_product.2.1 17 = .ok (.bipush 42, 2) := by decide +kernel
theorem zd_Model_product_19 : decode zm_Model_product.2.1 19 = .ok (.if_icmp .eq 12, 3) := by decide +kernel
theorem zd_Model_product_22 : decode zm_Model_product.2.1 22 = .ok (.aload_n 0, 1) := by decide +kernel
theorem zd_Model_product_23 : decode zm_Model_product.2.1 23 = .ok (.invokevirtual 133, 3) := by decide +kernel
theorem zd_Model_product_26 : decode zm_Model_product.2.1 26 = .ok (.bipush 47, 2) := by decide +kernel
theorem zd_Model_product_28 : decode zm_Model_product.2.1 28 = .ok (.if_icmp .ne 63, 3) := by decide +kernel
theorem zd_Model_product_31 : decode zm_Model_product.2.1 31 = .ok (.aload_n 0, 1) := by decide +kernel
theorem zd_Model_product_32 : decode zm_Model_product.2.1 32 = .ok (.invokevirtual 133, 3) := by decide +kernel
theorem zd_Model_product_35 : decode zm_Model_product.2.1 35 = .ok (.bipush 42, 2) := by decide +kernel
theorem zd_Model_product_37 : decode zm_Model_product.2.1 37 = .ok (.if_icmp .ne 7, 3) := by decide +kernel
theorem zd_Model_product_40 : decode zm_Model_product.2.1 40 = .ok (.iconst 1, 1) := by decide +kernel
theorem zd_Model_product_41 : decode zm_Model_product.2.1 41 = .ok (.goto 4, 3) := by decide +kernel
theorem zd_Model_product_44 : decode zm_Model_product.2.1 44 = .ok (.iconst 0, 1) := by decide +kernel
theorem zd_Model_product_45 : decode zm_Model_product.2.1 45 = .ok (.istore_n 3, 1) := by decide +kernel
theorem zd_Model_product_46 : decode zm_Model_product.2.1 46 = .ok (.aload_n 0, 1) := by decide +kernel
theorem zd_Model_product_47 : decode zm_Model_product.2.1 47 = .ok (.dup, 1) := by decide +kernel
theorem zd_Model_product_48 : decode zm_Model_product.2.1 48 = .ok (.getfield 119, 3) := by decide +kernel
theorem zd_Model_product_51 : decode zm_Model_product.2.1 51 = .ok (.iconst 1, 1) := by decide +kernel
theorem zd_Model_product_52 : decode zm_Model_product.2.1 52 = .ok (.iadd, 1) := by decide +kernel
theorem zd_Model_product_53 : decode zm_Model_product.2.1 53 = .ok (.putfield 119, 3) := by decide +kernel
theorem zd_Model_product_56 : decode zm_Model_product.2.1 56 = .ok (.aload_n 0, 1) := by decide +kernel
theorem zd_Model_product_57 : decode zm_Model_product.2.1 57 = .ok (.iload_n 1, 1) := by decide +kernel
theorem zd_Model_product_58 : decode zm_Model_product.2.1 58 = .ok (.invokevirtual 195, 3) := by decide +kernel
theorem zd_Model_product_61 : decode zm_Model_product.2.1 61 = .ok (.istore 4, 2) := by decide +kernel
theorem zd_Model_product_63 : decode zm_Model_product.2.1 63 = .ok (.iload_n 3, 1) := by decide +kernel
theorem zd_Model_product_64 : decode zm_Model_product.2.1 64 = .ok (.ifCond .eq 10, 3) := by decide +kernel
theorem zd_Model_product_67 : decode zm_Model_product.2.1 67 = .ok (.iload_n 2, 1) := by decide +kernel
theorem zd_Model_product_68 : decode zm_Model_product.2.1 68 = .ok (.iload 4, 2) := by decide +kernel
theorem zd_Model_product_70 : decode zm_Model_product.2.1 70 = .ok (.imul, 1) := by decide +kernel
theorem zd_Model_product_71 : decode zm_Model_product.2.1 71 = .ok (.goto 16, 3) := by decide +kernel
theorem zd_Model_product_74 : decode zm_Model_product.2.1 74 = .ok (.iload 4, 2) := by decide +kernel
theorem zd_Model_product_76 : decode zm_Model_product.2.1 76 = .ok (.ifCond .ne 7, 3) := by decide +kernel
theorem zd_Model_product_79 : decode zm_Model_product.2.1 79 = .ok (.iconst 0, 1) := by decide +kernel
theorem zd_Model_product_80 : decode zm_Model_product.2.1 80 = .ok (.goto 7, 3) := by decide +kernel
theorem zd_Model_product_83 : decode zm_Model_product.2.1 83 = .ok (.iload_n 2, 1) := by decide +kernel
theorem zd_Model_product_84 : decode zm_Model_product.2.1 84 = .ok (.iload 4, 2) := by decide +kernel
theorem zd_Model_product_86 : decode zm_Model_product.2.1 86 = .ok (.idiv, 1) := by decide +kernel
theorem zd_Model_product_87 : decode zm_Model_product.2.1 87 = .ok (.istore_n 2, 1) := by decide +kernel
theorem zd_Model_product_88 : decode zm_Model_product.2.1 88 = .ok (.goto (-82), 3) := by decide +kernel
theorem zd_Model_product_91 : decode zm_Model_product.2.1 91 = .ok (.iload_n 2, 1) := by decide +kernel
theorem zd_Model_product_92 : decode zm_Model_product.2.1 92 = .ok (.ireturn, 1) := by decide +kernel
theorem zb_Model_product_0 {Γ : zG} {σ : zS} {x1 : Int32} {dc : Nat} {P : Int32 → zS → Prop}  (hm : z_Ci dc zm_Model_thing [.inr (63), .inl (x1)] σ P) (hdp : dc < z_dep Γ) (k : ∀ r σ1, P r σ1 → z_J Γ zm_Model_product 5 [some (.inr (63)), some (.inl (x1)), none, none, none] [.inl (r)] σ1) : z_J Γ zm_Model_product 0 [some (.inr (63)), some (.inl (x1)), none, none, none] [] σ := by
  refine zj_aload_n zd_Model_product_0 rfl ?_
  refine zj_iload_n zd_Model_product_1 rfl ?_
  exact zj_callVi (As := [.inl (x1)]) hm hdp rfl (by decide) rfl zl_Model_195 zq_Model_thing zd_Model_product_2 rfl (Nat.le_of_ble_eq_true rfl) (fun r σ1 h => (k r σ1 h))
theorem zb_Model_product_5 {Γ : zG} {σ : zS} {x1 y0 : Int32}  (k : z_J Γ zm_Model_product 6 [some (.inr (63)), some (.inl (x1)), some (.inl (y0)), none, none] [] σ) : z_J Γ zm_Model_product 5 [some (.inr (63)), some (.inl (x1)), none, none, none] [.inl (y0)] σ := by
  refine zj_istore_n (L' := [some (.inr (63)), some (.inl (x1)), some (.inl (y0)), none, none]) zd_Model_product_5 (by decide) rfl ?_
  exact k
theorem zb_Model_product_6 {Γ : zG} {σ : zS} {x1 x2 : Int32} {dc : Nat} {P : Int32 → zS → Prop}  (hm : z_Ci dc zm_Model_fine [.inr (63)] σ P) (hdp : dc < z_dep Γ) (k : ∀ r σ1, P r σ1 → z_J Γ zm_Model_product 10 [some (.inr (63)), some (.inl (x1)), some (.inl (x2)), none, none] [.inl (r)] σ1) : z_J Γ zm_Model_product 6 [some (.inr (63)), some (.inl (x1)), some (.inl (x2)), none, none] [] σ := by
  refine zj_aload_n zd_Model_product_6 rfl ?_
  exact zj_callVi (As := []) hm hdp rfl (by decide) rfl zl_Model_129 zq_Model_fine zd_Model_product_7 rfl (Nat.le_of_ble_eq_true rfl) (fun r σ1 h => (k r σ1 h))
theorem zb_Model_product_10 {Γ : zG} {σ : zS} {x1 x2 y0 : Int32}  (kt : y0 = 0 → z_J Γ zm_Model_product 91 [none, none, some (.inl (x2)), none, none] [] σ) (kf : ¬ y0 = 0 → z_J Γ zm_Model_product 13 [some (.inr (63)), some (.inl (x1)), some (.inl (x2)), none, none] [] σ) : z_J Γ zm_Model_product 10 [some (.inr (63)), some (.inl (x1)), some (.inl (x2)), none, none] [.inl (y0)] σ := by
  exact zj_if_eq zd_Model_product_10 (by decide) (fun h => (zj_weak (L' := [none, none, some (.inl (x2)), none, none]) ⟨rfl, trivial⟩ (kt h))) (fun h => (kf h))
theorem zb_Model_product_13 {Γ : zG} {σ : zS} {x1 x2 : Int32} {dc : Nat} {P : Int32 → zS → Prop}  (hm : z_Ci dc zm_Model_here [.inr (63)] σ P) (hdp : dc < z_dep Γ) (k : ∀ r σ1, P r σ1 → z_J Γ zm_Model_product 17 [some (.inr (63)), some (.inl (x1)), some (.inl (x2)), none, none] [.inl (r)] σ1) : z_J Γ zm_Model_product 13 [some (.inr (63)), some (.inl (x1)), some (.inl (x2)), none, none] [] σ := by
  refine zj_aload_n zd_Model_product_13 rfl ?_
  exact zj_callVi (As := []) hm hdp rfl (by decide) rfl zl_Model_133 zq_Model_here zd_Model_product_14 rfl (Nat.le_of_ble_eq_true rfl) (fun r σ1 h => (k r σ1 h))
theorem zb_Model_product_17 {Γ : zG} {σ : zS} {x1 x2 y0 : Int32}  (kt : y0 = (nI 42) → z_J Γ zm_Model_product 31 [some (.inr (63)), some (.inl (x1)), some (.inl (x2)), none, none] [] σ) (kf : ¬ y0 = (nI 42) → z_J Γ zm_Model_product 22 [some (.inr (63)), some (.inl (x1)), some (.inl (x2)), none, none] [] σ) : z_J Γ zm_Model_product 17 [some (.inr (63)), some (.inl (x1)), some (.inl (x2)), none, none] [.inl (y0)] σ := by
  refine zj_bipush (v := nI 42) zd_Model_product_17 (by decide) ?_
  exact zj_icmp_eq zd_Model_product_19 (by decide) (fun h => (kt h)) (fun h => (kf h))
theorem zb_Model_product_22 {Γ : zG} {σ : zS} {x1 x2 : Int32} {dc : Nat} {P : Int32 → zS → Prop}  (hm : z_Ci dc zm_Model_here [.inr (63)] σ P) (hdp : dc < z_dep Γ) (k : ∀ r σ1, P r σ1 → z_J Γ zm_Model_product 26 [some (.inr (63)), some (.inl (x1)), some (.inl (x2)), none, none] [.inl (r)] σ1) : z_J Γ zm_Model_product 22 [some (.inr (63)), some (.inl (x1)), some (.inl (x2)), none, none] [] σ := by
  refine zj_aload_n zd_Model_product_22 rfl ?_
  exact zj_callVi (As := []) hm hdp rfl (by decide) rfl zl_Model_133 zq_Model_here zd_Model_product_23 rfl (Nat.le_of_ble_eq_true rfl) (fun r σ1 h => (k r σ1 h))
theorem zb_Model_product_26 {Γ : zG} {σ : zS} {x1 x2 y0 : Int32}  (kt : ¬ y0 = (nI 47) → z_J Γ zm_Model_product 91 [none, none, some (.inl (x2)), none, none] [] σ) (kf : y0 = (nI 47) → z_J Γ zm_Model_product 31 [some (.inr (63)), some (.inl (x1)), some (.inl (x2)), none, none] [] σ) : z_J Γ zm_Model_product 26 [some (.inr (63)), some (.inl (x1)), some (.inl (x2)), none, none] [.inl (y0)] σ := by
  refine zj_bipush (v := nI 47) zd_Model_product_26 (by decide) ?_
  exact zj_icmp_ne zd_Model_product_28 (by decide) (fun h => (zj_weak (L' := [none, none, some (.inl (x2)), none, none]) ⟨rfl, trivial⟩ (kt h))) (fun h => (kf h))
theorem zb_Model_product_31 {Γ : zG} {σ : zS} {x1 x2 : Int32} {dc : Nat} {P : Int32 → zS → Prop}  (hm : z_Ci dc zm_Model_here [.inr (63)] σ P) (hdp : dc < z_dep Γ) (k : ∀ r σ1, P r σ1 → z_J Γ zm_Model_product 35 [some (.inr (63)), some (.inl (x1)), some (.inl (x2)), none, none] [.inl (r)] σ1) : z_J Γ zm_Model_product 31 [some (.inr (63)), some (.inl (x1)), some (.inl (x2)), none, none] [] σ := by
  refine zj_aload_n zd_Model_product_31 rfl ?_
  exact zj_callVi (As := []) hm hdp rfl (by decide) rfl zl_Model_133 zq_Model_here zd_Model_product_32 rfl (Nat.le_of_ble_eq_true rfl) (fun r σ1 h => (k r σ1 h))
theorem zb_Model_product_35 {Γ : zG} {σ : zS} {x1 x2 y0 : Int32}  (kt : ¬ y0 = (nI 42) → z_J Γ zm_Model_product 44 [some (.inr (63)), some (.inl (x1)), some (.inl (x2)), none, none] [] σ) (kf : y0 = (nI 42) → z_J Γ zm_Model_product 40 [some (.inr (63)), some (.inl (x1)), some (.inl (x2)), none, none] [] σ) : z_J Γ zm_Model_product 35 [some (.inr (63)), some (.inl (x1)), some (.inl (x2)), none, none] [.inl (y0)] σ := by
  refine zj_bipush (v := nI 42) zd_Model_product_35 (by decide) ?_
  exact zj_icmp_ne zd_Model_product_37 (by decide) (fun h => (kt h)) (fun h => (kf h))
theorem zb_Model_product_40 {Γ : zG} {σ : zS} {x1 x2 : Int32}  (k : z_J Γ zm_Model_product 45 [some (.inr (63)), some (.inl (x1)), some (.inl (x2)), none, none] [.inl (nI 1)] σ) : z_J Γ zm_Model_product 40 [some (.inr (63)), some (.inl (x1)), some (.inl (x2)), none, none] [] σ := by
  refine zj_iconst (v := nI 1) zd_Model_product_40 (by decide) ?_
  exact zj_goto zd_Model_product_41 (by decide) k
theorem zb_Model_product_44 {Γ : zG} {σ : zS} {x1 x2 : Int32}  (k : z_J Γ zm_Model_product 45 [some (.inr (63)), some (.inl (x1)), some (.inl (x2)), none, none] [.inl (nI 0)] σ) : z_J Γ zm_Model_product 44 [some (.inr (63)), some (.inl (x1)), some (.inl (x2)), none, none] [] σ := by
  refine zj_iconst (v := nI 0) zd_Model_product_44 (by decide) ?_
  exact k
theorem zb_Model_product_45 {Γ : zG} {σ : zS} {x1 x2 y0 : Int32} {dc : Nat} {P : Int32 → zS → Prop}  (hm : z_Ci dc zm_Model_thing [.inr (63), .inl (x1)] (z_pI σ 63 15 ((σ.1 63 15) + (nI 1))) P) (hdp : dc < z_dep Γ) (k : ∀ r σ1, P r σ1 → z_J Γ zm_Model_product 61 [some (.inr (63)), some (.inl (x1)), some (.inl (x2)), some (.inl (y0)), none] [.inl (r)] σ1) : z_J Γ zm_Model_product 45 [some (.inr (63)), some (.inl (x1)), some (.inl (x2)), none, none] [.inl (y0)] σ := by
  refine zj_istore_n (L' := [some (.inr (63)), some (.inl (x1)), some (.inl (x2)), some (.inl (y0)), none]) zd_Model_product_45 (by decide) rfl ?_
  refine zj_aload_n zd_Model_product_46 rfl ?_
  refine zj_dup zd_Model_product_47 ?_
  refine zj_getI rfl (by decide) rfl zu_Model (k := 15) (by decide) rfl zl_Model_119 zd_Model_product_48 ?_
  refine zj_iconst (v := nI 1) zd_Model_product_51 (by decide) ?_
  refine zj_iadd zd_Model_product_52 ?_
  refine zj_putI rfl (by decide) rfl zu_Model zy_Model_ok zn_Model (k := 15) (by decide) rfl rfl zl_Model_119 rfl rfl zd_Model_product_53 ?_
  refine zj_aload_n zd_Model_product_56 rfl ?_
  refine zj_iload_n zd_Model_product_57 rfl ?_
  exact zj_callVi (As := [.inl (x1)]) hm hdp rfl (by decide) rfl zl_Model_195 zq_Model_thing zd_Model_product_58 rfl (Nat.le_of_ble_eq_true rfl) (fun r σ1 h => (k r σ1 h))
theorem zb_Model_product_61 {Γ : zG} {σ : zS} {x1 x2 x3 y0 : Int32}  (kt : x3 = 0 → z_J Γ zm_Model_product 74 [some (.inr (63)), some (.inl (x1)), some (.inl (x2)), none, some (.inl (y0))] [] σ) (kf : ¬ x3 = 0 → z_J Γ zm_Model_product 67 [some (.inr (63)), some (.inl (x1)), some (.inl (x2)), none, some (.inl (y0))] [] σ) : z_J Γ zm_Model_product 61 [some (.inr (63)), some (.inl (x1)), some (.inl (x2)), some (.inl (x3)), none] [.inl (y0)] σ := by
  refine zj_istore (L' := [some (.inr (63)), some (.inl (x1)), some (.inl (x2)), some (.inl (x3)), some (.inl (y0))]) zd_Model_product_61 (by decide) rfl ?_
  refine zj_iload_n zd_Model_product_63 rfl ?_
  exact zj_if_eq zd_Model_product_64 (by decide) (fun h => (zj_weak (L' := [some (.inr (63)), some (.inl (x1)), some (.inl (x2)), none, some (.inl (y0))]) ⟨rfl, ⟨rfl, ⟨rfl, ⟨rfl, trivial⟩⟩⟩⟩ (kt h))) (fun h => (zj_weak (L' := [some (.inr (63)), some (.inl (x1)), some (.inl (x2)), none, some (.inl (y0))]) ⟨rfl, ⟨rfl, ⟨rfl, ⟨rfl, trivial⟩⟩⟩⟩ (kf h)))
theorem zb_Model_product_67 {Γ : zG} {σ : zS} {x1 x2 x4 : Int32}  (k : z_J Γ zm_Model_product 87 [some (.inr (63)), some (.inl (x1)), none, none, none] [.inl (x2 * x4)] σ) : z_J Γ zm_Model_product 67 [some (.inr (63)), some (.inl (x1)), some (.inl (x2)), none, some (.inl (x4))] [] σ := by
  refine zj_iload_n zd_Model_product_67 rfl ?_
  refine zj_iload zd_Model_product_68 rfl ?_
  refine zj_imul zd_Model_product_70 ?_
  exact zj_goto zd_Model_product_71 (by decide) (zj_weak (L' := [some (.inr (63)), some (.inl (x1)), none, none, none]) ⟨rfl, ⟨rfl, trivial⟩⟩ k)
theorem zb_Model_product_74 {Γ : zG} {σ : zS} {x1 x2 x4 : Int32}  (kt : ¬ x4 = 0 → z_J Γ zm_Model_product 83 [some (.inr (63)), some (.inl (x1)), some (.inl (x2)), none, some (.inl (x4))] [] σ) (kf : x4 = 0 → z_J Γ zm_Model_product 79 [some (.inr (63)), some (.inl (x1)), none, none, none] [] σ) : z_J Γ zm_Model_product 74 [some (.inr (63)), some (.inl (x1)), some (.inl (x2)), none, some (.inl (x4))] [] σ := by
  refine zj_iload zd_Model_product_74 rfl ?_
  exact zj_if_ne zd_Model_product_76 (by decide) (fun h => (kt h)) (fun h => (zj_weak (L' := [some (.inr (63)), some (.inl (x1)), none, none, none]) ⟨rfl, ⟨rfl, trivial⟩⟩ (kf h)))
theorem zb_Model_product_79 {Γ : zG} {σ : zS} {x1 : Int32}  (k : z_J Γ zm_Model_product 87 [some (.inr (63)), some (.inl (x1)), none, none, none] [.inl (nI 0)] σ) : z_J Γ zm_Model_product 79 [some (.inr (63)), some (.inl (x1)), none, none, none] [] σ := by
  refine zj_iconst (v := nI 0) zd_Model_product_79 (by decide) ?_
  exact zj_goto zd_Model_product_80 (by decide) k
theorem zb_Model_product_83 {Γ : zG} {σ : zS} {x1 x2 x4 : Int32}  (d1 : ¬ x4 = 0) (k : z_J Γ zm_Model_product 87 [some (.inr (63)), some (.inl (x1)), none, none, none] [.inl (x2 / x4)] σ) : z_J Γ zm_Model_product 83 [some (.inr (63)), some (.inl (x1)), some (.inl (x2)), none, some (.inl (x4))] [] σ := by
  refine zj_iload_n zd_Model_product_83 rfl ?_
  refine zj_iload zd_Model_product_84 rfl ?_
  refine zj_idiv zd_Model_product_86 d1 ?_
  exact (zj_weak (L' := [some (.inr (63)), some (.inl (x1)), none, none, none]) ⟨rfl, ⟨rfl, trivial⟩⟩ k)
theorem zb_Model_product_87 {Γ : zG} {σ : zS} {x1 y0 : Int32}  (k : z_J Γ zm_Model_product 6 [some (.inr (63)), some (.inl (x1)), some (.inl (y0)), none, none] [] σ) : z_J Γ zm_Model_product 87 [some (.inr (63)), some (.inl (x1)), none, none, none] [.inl (y0)] σ := by
  refine zj_istore_n (L' := [some (.inr (63)), some (.inl (x1)), some (.inl (y0)), none, none]) zd_Model_product_87 (by decide) rfl ?_
  exact zj_goto zd_Model_product_88 (by decide) k
theorem zb_Model_product_91 {Γ : zG} {σ : zS} {x2 : Int32}  (e : z_end Γ (some (x2)) σ) : z_J Γ zm_Model_product 91 [none, none, some (.inl (x2)), none, none] [] σ := by
  refine zj_iload_n zd_Model_product_91 rfl ?_
  exact zj_ireturn rfl zd_Model_product_92 e
theorem zd_Model_thing_0 : decode zm_Model_thing.2.1 0 = .ok (.aload_n 0, 1) := by decide +kernel
theorem zd_Model_thing_1 : decode zm_Model_thing.2.1 1 = .ok (.bipush 45, 2) := by decide +kernel
theorem zd_Model_thing_3 : decode zm_Model_thing.2.1 3 = .ok (.invokevirtual 137, 3) := by decide +kernel
theorem zd_Model_thing_6 : decode zm_Model_thing.2.1 6 = .ok (.ifCond .eq 10, 3) := by decide +kernel
theorem zd_Model_thing_9 : decode zm_Model_thing.2.1 9 = .ok (.aload_n 0, 1) := by decide +kernel
theorem zd_Model_thing_10 : decode zm_Model_thing.2.1 10 = .ok (.iload_n 1, 1) := by decide +kernel
theorem zd_Model_thing_11 : decode zm_Model_thing.2.1 11 = .ok (.invokevirtual 195, 3) := by decide +kernel
theorem zd_Model_thing_14 : decode zm_Model_thing.2.1 14 = .ok (.ineg, 1) := by decide +kernel
theorem zd_Model_thing_15 : decode zm_Model_thing.2.1 15 = .ok (.ireturn, 1) := by decide +kernel
theorem zd_Model_thing_16 : decode zm_Model_thing.2.1 16 = .ok (.aload_n 0, 1) := by decide +kernel
theorem zd_Model_thing_17 : decode zm_Model_thing.2.1 17 = .ok (.invokevirtual 129, 3) := by decide +kernel
theorem zd_Model_thing_20 : decode zm_Model_thing.2.1 20 = .ok (.ifCond .ne 5, 3) := by decide +kernel
theorem zd_Model_thing_23 : decode zm_Model_thing.2.1 23 = .ok (.iconst 0, 1) := by decide +kernel
theorem zd_Model_thing_24 : decode zm_Model_thing.2.1 24 = .ok (.ireturn, 1) := by decide +kernel
theorem zd_Model_thing_25 : decode zm_Model_thing.2.1 25 = .ok (.aload_n 0, 1) := by decide +kernel
theorem zd_Model_thing_26 : decode zm_Model_thing.2.1 26 = .ok (.invokevirtual 133, 3) := by decide +kernel
theorem zd_Model_thing_29 : decode zm_Model_thing.2.1 29 = .ok (.istore_n 2, 1) := by decide +kernel
theorem zd_Model_thing_30 : decode zm_Model_thing.2.1 30 = .ok (.iload_n 2, 1) := by decide +kernel
theorem zd_Model_thing_31 : decode zm_Model_thing.2.1 31 = .ok (.bipush 40, 2) := by decide +kernel
theorem zd_Model_thing_33 : decode zm_Model_thing.2.1 33 = .ok (.if_icmp .ne 34, 3) := by decide +kernel
theorem zd_Model_thing_36 : decode zm_Model_thing.2.1 36 = .ok (.iload_n 1, 1) := by decide +kernel
theorem zd_Model_thing_37 : decode zm_Model_thing.2.1 37 = .ok (.iconst 4, 1) := by decide +kernel
theorem zd_Model_thing_38 : decode zm_Model_thing.2.1 38 = .ok (.if_icmp .ge 29, 3) := by decide +kernel
theorem zd_Model_thing_41 : decode zm_Model_thing.2.1 41 = .ok (.aload_n 0, 1) := by decide +kernel
theorem zd_Model_thing_42 : decode zm_Model_thing.2.1 42 = .ok (.dup, 1) := by decide +kernel
theorem zd_Model_thing_43 : decode zm_Model_thing.2.1 43 = .ok (.getfield 119, 3) := by decide +kernel
theorem zd_Model_thing_46 : decode zm_Model_thing.2.1 46 = .ok (.iconst 1, 1) := by decide +kernel
theorem zd_Model_thing_47 : decode zm_Model_thing.2.1 47 = .ok (.iadd, 1) := by decide +kernel
theorem zd_Model_thing_48 : decode zm_Model_thing.2.1 48 = .ok (.putfield 119, 3) := by decide +kernel
theorem zd_Model_thing_51 : decode zm_Model_thing.2.1 51 = .ok (.aload_n 0, 1) := by decide +kernel
theorem zd_Model_thing_52 : decode zm_Model_thing.2.1 52 = .ok (.iload_n 1, 1) := by decide +kernel
theorem zd_Model_thing_53 : decode zm_Model_thing.2.1 53 = .ok (.iconst 1, 1) := by decide +kernel
theorem zd_Model_thing_54 : decode zm_Model_thing.2.1 54 = .ok (.iadd, 1) := by decide +kernel
theorem zd_Model_thing_55 : decode zm_Model_thing.2.1 55 = .ok (.invokevirtual 198, 3) := by decide +kernel
theorem zd_Model_thing_58 : decode zm_Model_thing.2.1 58 = .ok (.istore_n 3, 1) := by decide +kernel
theorem zd_Model_thing_59 : decode zm_Model_thing.2.1 59 = .ok (.aload_n 0, 1) := by decide +kernel
theorem zd_Model_thing_60 : decode zm_Model_thing.2.1 60 = .ok (.bipush 41, 2) := by decide +kernel
theorem zd_Model_thing_62 : decode zm_Model_thing.2.1 62 = .ok (.invokevirtual 201, 3) := by decide +kernel
theorem zd_Model_thing_65 : decode zm_Model_thing.2.1 65 = .ok (.iload_n 3, 1) := by decide +kernel
theorem zd_Model_thing_66 : decode zm_Model_thing.2.1 66 = .ok (.ireturn, 1) := by decide +kernel
theorem zd_Model_thing_67 : decode zm_Model_thing.2.1 67 = .ok (.iload_n 2, 1) := by decide +kernel
theorem zd_Model_thing_68 : decode zm_Model_thing.2.1 68 = .ok (.bipush 48, 2) := by decide +kernel
theorem zd_Model_thing_70 : decode zm_Model_thing.2.1 70 = .ok (.bipush 57, 2) := by decide +kernel
theorem zd_Model_thing_72 : decode zm_Model_thing.2.1 72 = .ok (.invokestatic 100, 3) := by decide +kernel
theorem zd_Model_thing_75 : decode zm_Model_thing.2.1 75 = .ok (.ifCond .eq 9, 3) := by decide +kernel
theorem zd_Model_thing_78 : decode zm_Model_thing.2.1 78 = .ok (.aload_n 0, 1) := by decide +kernel
theorem zd_Model_thing_79 : decode zm_Model_thing.2.1 79 = .ok (.iconst 3, 1) := by decide +kernel
theorem zd_Model_thing_80 : decode zm_Model_thing.2.1 80 = .ok (.invokevirtual 205, 3) := by decide +kernel
theorem zd_Model_thing_83 : decode zm_Model_thing.2.1 83 = .ok (.ireturn, 1) := by decide +kernel
theorem zd_Model_thing_84 : decode zm_Model_thing.2.1 84 = .ok (.iload_n 2, 1) := by decide +kernel
theorem zd_Model_thing_85 : decode zm_Model_thing.2.1 85 = .ok (.invokestatic 208, 3) := by decide +kernel
theorem zd_Model_thing_88 : decode zm_Model_thing.2.1 88 = .ok (.iconst (-1), 1) := by decide +kernel
theorem zd_Model_thing_89 : decode zm_Model_thing.2.1 89 = .ok (.if_icmp .ne 13, 3) := by decide +kernel
theorem zd_Model_thing_92 : decode zm_Model_thing.2.1 92 = .ok (.aload_n 0, 1) := by decide +kernel
theorem zd_Model_thing_93 : decode zm_Model_thing.2.1 93 = .ok (.aload_n 0, 1) := by decide +kernel
theorem zd_Model_thing_94 : decode zm_Model_thing.2.1 94 = .ok (.getfield 119, 3) := by decide +kernel
theorem zd_Model_thing_97 : decode zm_Model_thing.2.1 97 = .ok (.invokevirtual 141, 3) := by decide +kernel
theorem zd_Model_thing_100 : decode zm_Model_thing.2.1 100 = .ok (.iconst 0, 1) := by decide +kernel
theorem zd_Model_thing_101 : decode zm_Model_thing.2.1 101 = .ok (.ireturn, 1) := by decide +kernel
theorem zd_Model_thing_102 : decode zm_Model_thing.2.1 102 = .ok (.aload_n 0, 1) := by decide +kernel
theorem zd_Model_thing_103 : decode zm_Model_thing.2.1 103 = .ok (.dup, 1) := by decide +kernel
theorem zd_Model_thing_104 : decode zm_Model_thing.2.1 104 = .ok (.getfield 119, 3) := by decide +kernel
theorem zd_Model_thing_107 : decode zm_Model_thing.2.1 107 = .ok (.iconst 1, 1) := by decide +kernel
theorem zd_Model_thing_108 : decode zm_Model_thing.2.1 108 = .ok (.iadd, 1) := by decide +kernel
theorem zd_Model_thing_109 : decode zm_Model_thing.2.1 109 = .ok (.putfield 119, 3) := by decide +kernel
theorem zd_Model_thing_112 : decode zm_Model_thing.2.1 112 = .ok (.aload_n 0, 1) := by decide +kernel
theorem zd_Model_thing_113 : decode zm_Model_thing.2.1 113 = .ok (.getfield 211, 3) := by decide +kernel
theorem zd_Model_thing_116 : decode zm_Model_thing.2.1 116 = .ok (.ifCond .eq 15, 3) := by decide +kernel
theorem zd_Model_thing_119 : decode zm_Model_thing.2.1 119 = .ok (.aload_n 0, 1) := by decide +kernel
theorem zd_Model_thing_120 : decode zm_Model_thing.2.1 120 = .ok (.getfield 48, 3) := by decide +kernel
theorem zd_Model_thing_123 : decode zm_Model_thing.2.1 123 = .ok (.iload_n 2, 1) := by decide +kernel
theorem zd_Model_thing_124 : decode zm_Model_thing.2.1 124 = .ok (.invokestatic 208, 3) := by decide +kernel
theorem zd_Model_thing_127 : decode zm_Model_thing.2.1 127 = .ok (.iaload, 1) := by decide +kernel
theorem zd_Model_thing_128 : decode zm_Model_thing.2.1 128 = .ok (.goto 4, 3) := by decide +kernel
theorem zd_Model_thing_131 : decode zm_Model_thing.2.1 131 = .ok (.iconst 0, 1) := by decide +kernel
theorem zd_Model_thing_132 : decode zm_Model_thing.2.1 132 = .ok (.ireturn, 1) := by decide +kernel
theorem zb_Model_thing_0 {Γ : zG} {σ : zS} {x1 : Int32} {dc : Nat} {P : Int32 → zS → Prop}  (hm : z_Ci dc zm_Model_passes [.inr (63), .inl (nI 45)] σ P) (hdp : dc < z_dep Γ) (k : ∀ r σ1, P r σ1 → z_J Γ zm_Model_thing 6 [some (.inr (63)), some (.inl (x1)), none, none] [.inl (r)] σ1) : z_J Γ zm_Model_thing 0 [some (.inr (63)), some (.inl (x1)), none, none] [] σ := by
  refine zj_aload_n zd_Model_thing_0 rfl ?_
  refine zj_bipush (v := nI 45) zd_Model_thing_1 (by decide) ?_
  exact zj_callVi (As := [.inl (nI 45)]) hm hdp rfl (by decide) rfl zl_Model_137 zq_Model_passes zd_Model_thing_3 rfl (Nat.le_of_ble_eq_true rfl) (fun r σ1 h => (k r σ1 h))
theorem zb_Model_thing_6 {Γ : zG} {σ : zS} {x1 y0 : Int32}  (kt : y0 = 0 → z_J Γ zm_Model_thing 16 [some (.inr (63)), some (.inl (x1)), none, none] [] σ) (kf : ¬ y0 = 0 → z_J Γ zm_Model_thing 9 [some (.inr (63)), some (.inl (x1)), none, none] [] σ) : z_J Γ zm_Model_thing 6 [some (.inr (63)), some (.inl (x1)), none, none] [.inl (y0)] σ := by
  exact zj_if_eq zd_Model_thing_6 (by decide) (fun h => (kt h)) (fun h => (kf h))
theorem zb_Model_thing_9 {Γ : zG} {σ : zS} {x1 : Int32} {dc : Nat} {P : Int32 → zS → Prop}  (hm : z_Ci dc zm_Model_thing [.inr (63), .inl (x1)] σ P) (hdp : dc < z_dep Γ) (k : ∀ r σ1, P r σ1 → z_J Γ zm_Model_thing 14 [none, none, none, none] [.inl (r)] σ1) : z_J Γ zm_Model_thing 9 [some (.inr (63)), some (.inl (x1)), none, none] [] σ := by
  refine zj_aload_n zd_Model_thing_9 rfl ?_
  refine zj_iload_n zd_Model_thing_10 rfl ?_
  exact zj_callVi (As := [.inl (x1)]) hm hdp rfl (by decide) rfl zl_Model_195 zq_Model_thing zd_Model_thing_11 rfl (Nat.le_of_ble_eq_true rfl) (fun r σ1 h => (zj_weak (L' := [none, none, none, none]) trivial (k r σ1 h)))
theorem zb_Model_thing_14 {Γ : zG} {σ : zS} {y0 : Int32}  (e : z_end Γ (some (-y0)) σ) : z_J Γ zm_Model_thing 14 [none, none, none, none] [.inl (y0)] σ := by
  refine zj_ineg zd_Model_thing_14 ?_
  exact zj_ireturn rfl zd_Model_thing_15 e
theorem zb_Model_thing_16 {Γ : zG} {σ : zS} {x1 : Int32} {dc : Nat} {P : Int32 → zS → Prop}  (hm : z_Ci dc zm_Model_fine [.inr (63)] σ P) (hdp : dc < z_dep Γ) (k : ∀ r σ1, P r σ1 → z_J Γ zm_Model_thing 20 [some (.inr (63)), some (.inl (x1)), none, none] [.inl (r)] σ1) : z_J Γ zm_Model_thing 16 [some (.inr (63)), some (.inl (x1)), none, none] [] σ := by
  refine zj_aload_n zd_Model_thing_16 rfl ?_
  exact zj_callVi (As := []) hm hdp rfl (by decide) rfl zl_Model_129 zq_Model_fine zd_Model_thing_17 rfl (Nat.le_of_ble_eq_true rfl) (fun r σ1 h => (k r σ1 h))
theorem zb_Model_thing_20 {Γ : zG} {σ : zS} {x1 y0 : Int32}  (kt : ¬ y0 = 0 → z_J Γ zm_Model_thing 25 [some (.inr (63)), some (.inl (x1)), none, none] [] σ) (kf : y0 = 0 → z_J Γ zm_Model_thing 23 [none, none, none, none] [] σ) : z_J Γ zm_Model_thing 20 [some (.inr (63)), some (.inl (x1)), none, none] [.inl (y0)] σ := by
  exact zj_if_ne zd_Model_thing_20 (by decide) (fun h => (kt h)) (fun h => (zj_weak (L' := [none, none, none, none]) trivial (kf h)))
theorem zb_Model_thing_23 {Γ : zG} {σ : zS}  (e : z_end Γ (some (nI 0)) σ) : z_J Γ zm_Model_thing 23 [none, none, none, none] [] σ := by
  refine zj_iconst (v := nI 0) zd_Model_thing_23 (by decide) ?_
  exact zj_ireturn rfl zd_Model_thing_24 e
theorem zb_Model_thing_25 {Γ : zG} {σ : zS} {x1 : Int32} {dc : Nat} {P : Int32 → zS → Prop}  (hm : z_Ci dc zm_Model_here [.inr (63)] σ P) (hdp : dc < z_dep Γ) (k : ∀ r σ1, P r σ1 → z_J Γ zm_Model_thing 29 [some (.inr (63)), some (.inl (x1)), none, none] [.inl (r)] σ1) : z_J Γ zm_Model_thing 25 [some (.inr (63)), some (.inl (x1)), none, none] [] σ := by
  refine zj_aload_n zd_Model_thing_25 rfl ?_
  exact zj_callVi (As := []) hm hdp rfl (by decide) rfl zl_Model_133 zq_Model_here zd_Model_thing_26 rfl (Nat.le_of_ble_eq_true rfl) (fun r σ1 h => (k r σ1 h))
theorem zb_Model_thing_29 {Γ : zG} {σ : zS} {x1 y0 : Int32}  (kt : ¬ y0 = (nI 40) → z_J Γ zm_Model_thing 67 [some (.inr (63)), none, some (.inl (y0)), none] [] σ) (kf : y0 = (nI 40) → z_J Γ zm_Model_thing 36 [some (.inr (63)), some (.inl (x1)), some (.inl (y0)), none] [] σ) : z_J Γ zm_Model_thing 29 [some (.inr (63)), some (.inl (x1)), none, none] [.inl (y0)] σ := by
  refine zj_istore_n (L' := [some (.inr (63)), some (.inl (x1)), some (.inl (y0)), none]) zd_Model_thing_29 (by decide) rfl ?_
  refine zj_iload_n zd_Model_thing_30 rfl ?_
  refine zj_bipush (v := nI 40) zd_Model_thing_31 (by decide) ?_
  exact zj_icmp_ne zd_Model_thing_33 (by decide) (fun h => (zj_weak (L' := [some (.inr (63)), none, some (.inl (y0)), none]) ⟨rfl, ⟨rfl, trivial⟩⟩ (kt h))) (fun h => (kf h))
theorem zb_Model_thing_36 {Γ : zG} {σ : zS} {x1 x2 : Int32}  (kt : (nI 4) ≤ x1 → z_J Γ zm_Model_thing 67 [some (.inr (63)), none, some (.inl (x2)), none] [] σ) (kf : ¬ (nI 4) ≤ x1 → z_J Γ zm_Model_thing 41 [some (.inr (63)), some (.inl (x1)), none, none] [] σ) : z_J Γ zm_Model_thing 36 [some (.inr (63)), some (.inl (x1)), some (.inl (x2)), none] [] σ := by
  refine zj_iload_n zd_Model_thing_36 rfl ?_
  refine zj_iconst (v := nI 4) zd_Model_thing_37 (by decide) ?_
  exact zj_icmp_ge zd_Model_thing_38 (by decide) (fun h => (zj_weak (L' := [some (.inr (63)), none, some (.inl (x2)), none]) ⟨rfl, ⟨rfl, trivial⟩⟩ (kt h))) (fun h => (zj_weak (L' := [some (.inr (63)), some (.inl (x1)), none, none]) ⟨rfl, ⟨rfl, trivial⟩⟩ (kf h)))
theorem zb_Model_thing_41 {Γ : zG} {σ : zS} {x1 : Int32} {dc : Nat} {P : Int32 → zS → Prop}  (hm : z_Ci dc zm_Model_held [.inr (63), .inl (x1 + (nI 1))] (z_pI σ 63 15 ((σ.1 63 15) + (nI 1))) P) (hdp : dc < z_dep Γ) (k : ∀ r σ1, P r σ1 → z_J Γ zm_Model_thing 58 [some (.inr (63)), none, none, none] [.inl (r)] σ1) : z_J Γ zm_Model_thing 41 [some (.inr (63)), some (.inl (x1)), none, none] [] σ := by
  refine zj_aload_n zd_Model_thing_41 rfl ?_
  refine zj_dup zd_Model_thing_42 ?_
  refine zj_getI rfl (by decide) rfl zu_Model (k := 15) (by decide) rfl zl_Model_119 zd_Model_thing_43 ?_
  refine zj_iconst (v := nI 1) zd_Model_thing_46 (by decide) ?_
  refine zj_iadd zd_Model_thing_47 ?_
  refine zj_putI rfl (by decide) rfl zu_Model zy_Model_ok zn_Model (k := 15) (by decide) rfl rfl zl_Model_119 rfl rfl zd_Model_thing_48 ?_
  refine zj_aload_n zd_Model_thing_51 rfl ?_
  refine zj_iload_n zd_Model_thing_52 rfl ?_
  refine zj_iconst (v := nI 1) zd_Model_thing_53 (by decide) ?_
  refine zj_iadd zd_Model_thing_54 ?_
  exact zj_callVi (As := [.inl (x1 + (nI 1))]) hm hdp rfl (by decide) rfl zl_Model_198 zq_Model_held zd_Model_thing_55 rfl (Nat.le_of_ble_eq_true rfl) (fun r σ1 h => (zj_weak (L' := [some (.inr (63)), none, none, none]) ⟨rfl, trivial⟩ (k r σ1 h)))
theorem zb_Model_thing_58 {Γ : zG} {σ : zS} {y0 : Int32} {dc : Nat} {P : zS → Prop}  (hm : z_Cv dc zm_Model_need [.inr (63), .inl (nI 41)] σ P) (hdp : dc < z_dep Γ) (k : ∀ σ1, P σ1 → z_J Γ zm_Model_thing 65 [none, none, none, some (.inl (y0))] [] σ1) : z_J Γ zm_Model_thing 58 [some (.inr (63)), none, none, none] [.inl (y0)] σ := by
  refine zj_istore_n (L' := [some (.inr (63)), none, none, some (.inl (y0))]) zd_Model_thing_58 (by decide) rfl ?_
  refine zj_aload_n zd_Model_thing_59 rfl ?_
  refine zj_bipush (v := nI 41) zd_Model_thing_60 (by decide) ?_
  exact zj_callVv (As := [.inl (nI 41)]) hm hdp rfl (by decide) rfl zl_Model_201 zq_Model_need zd_Model_thing_62 rfl (Nat.le_of_ble_eq_true rfl) (fun σ1 h => (zj_weak (L' := [none, none, none, some (.inl (y0))]) ⟨rfl, trivial⟩ (k σ1 h)))
theorem zb_Model_thing_65 {Γ : zG} {σ : zS} {x3 : Int32}  (e : z_end Γ (some (x3)) σ) : z_J Γ zm_Model_thing 65 [none, none, none, some (.inl (x3))] [] σ := by
  refine zj_iload_n zd_Model_thing_65 rfl ?_
  exact zj_ireturn rfl zd_Model_thing_66 e
theorem zb_Model_thing_67 {Γ : zG} {σ : zS} {x2 : Int32} {dc : Nat} {P : Int32 → zS → Prop}  (hm : z_Ci dc zm_Model_in [.inl (x2), .inl (nI 48), .inl (nI 57)] σ P) (hdp : dc < z_dep Γ) (k : ∀ r σ1, P r σ1 → z_J Γ zm_Model_thing 75 [some (.inr (63)), none, some (.inl (x2)), none] [.inl (r)] σ1) : z_J Γ zm_Model_thing 67 [some (.inr (63)), none, some (.inl (x2)), none] [] σ := by
  refine zj_iload_n zd_Model_thing_67 rfl ?_
  refine zj_bipush (v := nI 48) zd_Model_thing_68 (by decide) ?_
  refine zj_bipush (v := nI 57) zd_Model_thing_70 (by decide) ?_
  exact zj_callSi (As := [.inl (x2), .inl (nI 48), .inl (nI 57)]) hm hdp zl_Model_100 zq_Model_in zd_Model_thing_72 rfl (Nat.le_of_ble_eq_true rfl) (fun r σ1 h => (k r σ1 h))
theorem zb_Model_thing_75 {Γ : zG} {σ : zS} {x2 y0 : Int32}  (kt : y0 = 0 → z_J Γ zm_Model_thing 84 [some (.inr (63)), none, some (.inl (x2)), none] [] σ) (kf : ¬ y0 = 0 → z_J Γ zm_Model_thing 78 [some (.inr (63)), none, none, none] [] σ) : z_J Γ zm_Model_thing 75 [some (.inr (63)), none, some (.inl (x2)), none] [.inl (y0)] σ := by
  exact zj_if_eq zd_Model_thing_75 (by decide) (fun h => (kt h)) (fun h => (zj_weak (L' := [some (.inr (63)), none, none, none]) ⟨rfl, trivial⟩ (kf h)))
theorem zb_Model_thing_78 {Γ : zG} {σ : zS} {dc : Nat} {P : Int32 → zS → Prop}  (hm : z_Ci dc zm_Model_number [.inr (63), .inl (nI 3)] σ P) (hdp : dc < z_dep Γ) (k : ∀ r σ1, P r σ1 → z_J Γ zm_Model_thing 83 [none, none, none, none] [.inl (r)] σ1) : z_J Γ zm_Model_thing 78 [some (.inr (63)), none, none, none] [] σ := by
  refine zj_aload_n zd_Model_thing_78 rfl ?_
  refine zj_iconst (v := nI 3) zd_Model_thing_79 (by decide) ?_
  exact zj_callVi (As := [.inl (nI 3)]) hm hdp rfl (by decide) rfl zl_Model_205 zq_Model_number zd_Model_thing_80 rfl (Nat.le_of_ble_eq_true rfl) (fun r σ1 h => (zj_weak (L' := [none, none, none, none]) trivial (k r σ1 h)))
theorem zb_Model_thing_83 {Γ : zG} {σ : zS} {y0 : Int32}  (e : z_end Γ (some (y0)) σ) : z_J Γ zm_Model_thing 83 [none, none, none, none] [.inl (y0)] σ := by
  exact zj_ireturn rfl zd_Model_thing_83 e
theorem zb_Model_thing_84 {Γ : zG} {σ : zS} {x2 : Int32} {dc : Nat} {P : Int32 → zS → Prop}  (hm : z_Ci dc zm_Model_letterOf [.inl (x2)] σ P) (hdp : dc < z_dep Γ) (k : ∀ r σ1, P r σ1 → z_J Γ zm_Model_thing 88 [some (.inr (63)), none, some (.inl (x2)), none] [.inl (r)] σ1) : z_J Γ zm_Model_thing 84 [some (.inr (63)), none, some (.inl (x2)), none] [] σ := by
  refine zj_iload_n zd_Model_thing_84 rfl ?_
  exact zj_callSi (As := [.inl (x2)]) hm hdp zl_Model_208 zq_Model_letterOf zd_Model_thing_85 rfl (Nat.le_of_ble_eq_true rfl) (fun r σ1 h => (k r σ1 h))
theorem zb_Model_thing_88 {Γ : zG} {σ : zS} {x2 y0 : Int32}  (kt : ¬ y0 = (-1) → z_J Γ zm_Model_thing 102 [some (.inr (63)), none, some (.inl (x2)), none] [] σ) (kf : y0 = (-1) → z_J Γ zm_Model_thing 92 [some (.inr (63)), none, none, none] [] σ) : z_J Γ zm_Model_thing 88 [some (.inr (63)), none, some (.inl (x2)), none] [.inl (y0)] σ := by
  refine zj_iconst (v := (-1)) zd_Model_thing_88 (by decide) ?_
  exact zj_icmp_ne zd_Model_thing_89 (by decide) (fun h => (kt h)) (fun h => (zj_weak (L' := [some (.inr (63)), none, none, none]) ⟨rfl, trivial⟩ (kf h)))
theorem zb_Model_thing_92 {Γ : zG} {σ : zS} {dc : Nat} {P : zS → Prop}  (hm : z_Cv dc zm_Model_fault [.inr (63), .inl (σ.1 63 15)] σ P) (hdp : dc < z_dep Γ) (k : ∀ σ1, P σ1 → z_J Γ zm_Model_thing 100 [none, none, none, none] [] σ1) : z_J Γ zm_Model_thing 92 [some (.inr (63)), none, none, none] [] σ := by
  refine zj_aload_n zd_Model_thing_92 rfl ?_
  refine zj_aload_n zd_Model_thing_93 rfl ?_
  refine zj_getI rfl (by decide) rfl zu_Model (k := 15) (by decide) rfl zl_Model_119 zd_Model_thing_94 ?_
  exact zj_callVv (As := [.inl (σ.1 63 15)]) hm hdp rfl (by decide) rfl zl_Model_141 zq_Model_fault zd_Model_thing_97 rfl (Nat.le_of_ble_eq_true rfl) (fun σ1 h => (zj_weak (L' := [none, none, none, none]) trivial (k σ1 h)))
theorem zb_Model_thing_100 {Γ : zG} {σ : zS}  (e : z_end Γ (some (nI 0)) σ) : z_J Γ zm_Model_thing 100 [none, none, none, none] [] σ := by
  refine zj_iconst (v := nI 0) zd_Model_thing_100 (by decide) ?_
  exact zj_ireturn rfl zd_Model_thing_101 e
theorem zb_Model_thing_102 {Γ : zG} {σ : zS} {x2 : Int32}  (kt : ((z_pI σ 63 15 ((σ.1 63 15) + (nI 1))).1 63 23) = 0 → z_J Γ zm_Model_thing 131 [none, none, none, none] [] (z_pI σ 63 15 ((σ.1 63 15) + (nI 1)))) (kf : ¬ ((z_pI σ 63 15 ((σ.1 63 15) + (nI 1))).1 63 23) = 0 → z_J Γ zm_Model_thing 119 [some (.inr (63)), none, some (.inl (x2)), none] [] (z_pI σ 63 15 ((σ.1 63 15) + (nI 1)))) : z_J Γ zm_Model_thing 102 [some (.inr (63)), none, some (.inl (x2)), none] [] σ := by
  refine zj_aload_n zd_Model_thing_102 rfl ?_
  refine zj_dup zd_Model_thing_103 ?_
  refine zj_getI rfl (by decide) rfl zu_Model (k := 15) (by decide) rfl zl_Model_119 zd_Model_thing_104 ?_
  refine zj_iconst (v := nI 1) zd_Model_thing_107 (by decide) ?_
  refine zj_iadd zd_Model_thing_108 ?_
  refine zj_putI rfl (by decide) rfl zu_Model zy_Model_ok zn_Model (k := 15) (by decide) rfl rfl zl_Model_119 rfl rfl zd_Model_thing_109 ?_
  refine zj_aload_n zd_Model_thing_112 rfl ?_
  refine zj_getI rfl (by decide) rfl zu_Model (k := 23) (by decide) rfl zl_Model_211 zd_Model_thing_113 ?_
  exact zj_if_eq zd_Model_thing_116 (by decide) (fun h => (zj_weak (L' := [none, none, none, none]) trivial (kt h))) (fun h => (kf h))
theorem zb_Model_thing_119 {Γ : zG} {σ : zS} {x2 : Int32} {dc : Nat} {P : Int32 → zS → Prop}  (hm : z_Ci dc zm_Model_letterOf [.inl (x2)] σ P) (hdp : dc < z_dep Γ) (k : ∀ r σ1, P r σ1 → z_J Γ zm_Model_thing 127 [none, none, none, none] [.inl (r), .inr (74)] σ1) : z_J Γ zm_Model_thing 119 [some (.inr (63)), none, some (.inl (x2)), none] [] σ := by
  refine zj_aload_n zd_Model_thing_119 rfl ?_
  refine zj_getR rfl (by decide) rfl zu_Model (k := 24) (by decide) rfl zl_Model_48 zd_Model_thing_120 (o' := 74) rfl ?_
  refine zj_iload_n zd_Model_thing_123 rfl ?_
  exact zj_callSi (As := [.inl (x2)]) hm hdp zl_Model_208 zq_Model_letterOf zd_Model_thing_124 rfl (Nat.le_of_ble_eq_true rfl) (fun r σ1 h => (zj_weak (L' := [none, none, none, none]) trivial (k r σ1 h)))
theorem zb_Model_thing_127 {Γ : zG} {σ : zS} {y0 : Int32} {k1 : Nat}  (b1 : z_ix y0 6 k1) (k : z_J Γ zm_Model_thing 132 [none, none, none, none] [.inl (σ.1 74 k1)] σ) : z_J Γ zm_Model_thing 127 [none, none, none, none] [.inl (y0), .inr (74)] σ := by
  refine zj_iaload rfl (by decide) b1 zd_Model_thing_127 ?_
  exact zj_goto zd_Model_thing_128 (by decide) k
theorem zb_Model_thing_131 {Γ : zG} {σ : zS}  (k : z_J Γ zm_Model_thing 132 [none, none, none, none] [.inl (nI 0)] σ) : z_J Γ zm_Model_thing 131 [none, none, none, none] [] σ := by
  refine zj_iconst (v := nI 0) zd_Model_thing_131 (by decide) ?_
  exact k
theorem zb_Model_thing_132 {Γ : zG} {σ : zS} {y0 : Int32}  (e : z_end Γ (some (y0)) σ) : z_J Γ zm_Model_thing 132 [none, none, none, none] [.inl (y0)] σ := by
  exact zj_ireturn rfl zd_Model_thing_132 e
theorem zd_Model_need_0 : decode zm_Model_need.2.1 0 = .ok (.aload_n 0, 1) := by decide +kernel
theorem zd_Model_need_1 : decode zm_Model_need.2.1 1 = .ok (.iload_n 1, 1) := by decide +kernel
theorem zd_Model_need_2 : decode zm_Model_need.2.1 2 = .ok (.invokevirtual 137, 3) := by decide +kernel
theorem zd_Model_need_5 : decode zm_Model_need.2.1 5 = .ok (.ifCond .ne 11, 3) := by decide +kernel
theorem zd_Model_need_8 : decode zm_Model_need.2.1 8 = .ok (.aload_n 0, 1) := by decide +kernel
theorem zd_Model_need_9 : decode zm_Model_need.2.1 9 = .ok (.aload_n 0, 1) := by decide +kernel
theorem zd_Model_need_10 : decode zm_Model_need.2.1 10 = .ok (.getfield 119, 3) := by decide +kernel
theorem zd_Model_need_13 : decode zm_Model_need.2.1 13 = .ok (.invokevirtual 141, 3) := by decide +kernel
theorem zd_Model_need_16 : decode zm_Model_need.2.1 16 = .ok (.return_, 1) := by decide +kernel
theorem zb_Model_need_0 {Γ : zG} {σ : zS} {x1 : Int32} {dc : Nat} {P : Int32 → zS → Prop}  (hm : z_Ci dc zm_Model_passes [.inr (63), .inl (x1)] σ P) (hdp : dc < z_dep Γ) (k : ∀ r σ1, P r σ1 → z_J Γ zm_Model_need 5 [some (.inr (63)), none] [.inl (r)] σ1) : z_J Γ zm_Model_need 0 [some (.inr (63)), some (.inl (x1))] [] σ := by
  refine zj_aload_n zd_Model_need_0 rfl ?_
  refine zj_iload_n zd_Model_need_1 rfl ?_
  exact zj_callVi (As := [.inl (x1)]) hm hdp rfl (by decide) rfl zl_Model_137 zq_Model_passes zd_Model_need_2 rfl (Nat.le_of_ble_eq_true rfl) (fun r σ1 h => (zj_weak (L' := [some (.inr (63)), none]) ⟨rfl, trivial⟩ (k r σ1 h)))
theorem zb_Model_need_5 {Γ : zG} {σ : zS} {y0 : Int32}  (kt : ¬ y0 = 0 → z_J Γ zm_Model_need 16 [none, none] [] σ) (kf : y0 = 0 → z_J Γ zm_Model_need 8 [some (.inr (63)), none] [] σ) : z_J Γ zm_Model_need 5 [some (.inr (63)), none] [.inl (y0)] σ := by
  exact zj_if_ne zd_Model_need_5 (by decide) (fun h => (zj_weak (L' := [none, none]) trivial (kt h))) (fun h => (kf h))
theorem zb_Model_need_8 {Γ : zG} {σ : zS} {dc : Nat} {P : zS → Prop}  (hm : z_Cv dc zm_Model_fault [.inr (63), .inl (σ.1 63 15)] σ P) (hdp : dc < z_dep Γ) (k : ∀ σ1, P σ1 → z_J Γ zm_Model_need 16 [none, none] [] σ1) : z_J Γ zm_Model_need 8 [some (.inr (63)), none] [] σ := by
  refine zj_aload_n zd_Model_need_8 rfl ?_
  refine zj_aload_n zd_Model_need_9 rfl ?_
  refine zj_getI rfl (by decide) rfl zu_Model (k := 15) (by decide) rfl zl_Model_119 zd_Model_need_10 ?_
  exact zj_callVv (As := [.inl (σ.1 63 15)]) hm hdp rfl (by decide) rfl zl_Model_141 zq_Model_fault zd_Model_need_13 rfl (Nat.le_of_ble_eq_true rfl) (fun σ1 h => (zj_weak (L' := [none, none]) trivial (k σ1 h)))
theorem zb_Model_need_16 {Γ : zG} {σ : zS}  (e : z_end Γ none σ) : z_J Γ zm_Model_need 16 [none, none] [] σ := by
  exact zj_return rfl zd_Model_need_16 e
theorem zd_Model_number_0 : decode zm_Model_number.2.1 0 = .ok (.aload_n 0, 1) := by decide +kernel
theorem zd_Model_number_1 : decode zm_Model_number.2.1 1 = .ok (.bipush 48, 2) := by decide +kernel
theorem zd_Model_number_3 : decode zm_Model_number.2.1 3 = .ok (.bipush 10, 2) := by decide +kernel
theorem zd_Model_number_5 : decode zm_Model_number.2.1 5 = .ok (.invokevirtual 145, 3) := by decide +kernel
theorem zd_Model_number_8 : decode zm_Model_number.2.1 8 = .ok (.istore_n 2, 1) := by decide +kernel
theorem zd_Model_number_9 : decode zm_Model_number.2.1 9 = .ok (.iconst 1, 1) := by decide +kernel
theorem zd_Model_number_10 : decode zm_Model_number.2.1 10 = .ok (.istore_n 3, 1) := by decide +kernel
theorem zd_Model_number_11 : decode zm_Model_number.2.1 11 = .ok (.iload_n 3, 1) := by decide +kernel
theorem zd_Model_number_12 : decode zm_Model_number.2.1 12 = .ok (.iload_n 1, 1) := by decide +kernel
theorem zd_Model_number_13 : decode zm_Model_number.2.1 13 = .ok (.if_icmp .ge 44, 3) := by decide +kernel
theorem zd_Model_number_16 : decode zm_Model_number.2.1 16 = .ok (.aload_n 0, 1) := by decide +kernel
theorem zd_Model_number_17 : decode zm_Model_number.2.1 17 = .ok (.invokevirtual 129, 3) := by decide +kernel
theorem zd_Model_number_20 : decode zm_Model_number.2.1 20 = .ok (.ifCond .eq 37, 3) := by decide +kernel
theorem zd_Model_number_23 : decode zm_Model_number.2.1 23 = .ok (.aload_n 0, 1) := by decide +kernel
theorem zd_Model_number_24 : decode zm_Model_number.2.1 24 = .ok (.invokevirtual 133, 3) := by decide +kernel
theorem zd_Model_number_27 : decode zm_Model_number.2.1 27 = .ok (.bipush 48, 2) := by decide +kernel
theorem zd_Model_number_29 : decode zm_Model_number.2.1 29 = .ok (.bipush 57, 2) := by decide +kernel
theorem zd_Model_number_31 : decode zm_Model_number.2.1 31 = .ok (.invokestatic 100, 3) := by decide +kernel
theorem zd_Model_number_34 : decode zm_Model_number.2.1 34 = .ok (.ifCond .eq 23, 3) := by decide +kernel
theorem zd_Model_number_37 : decode zm_Model_number.2.1 37 = .ok (.bipush 10, 2) := by decide +kernel
theorem zd_Model_number_39 : decode zm_Model_number.2.1 39 = .ok (.iload_n 2, 1) := by decide +kernel
theorem zd_Model_number_40 : decode zm_Model_number.2.1 40 = .ok (.imul, 1) := by decide +kernel
theorem zd_Model_number_41 : decode zm_Model_number.2.1 41 = .ok (.aload_n 0, 1) := by decide +kernel
theorem zd_Model_number_42 : decode zm_Model_number.2.1 42 = .ok (.bipush 48, 2) := by decide +kernel
theorem zd_Model_number_44 : decode zm_Model_number.2.1 44 = .ok (.bipush 10, 2) := by decide +kernel
theorem zd_Model_number_46 : decode zm_Model_number.2.1 46 = .ok (.invokevirtual 145, 3) := by decide +kernel
theorem zd_Model_number_49 : decode zm_Model_number.2.1 49 = .ok (.iadd, 1) := by decide +kernel
theorem zd_Model_number_50 : decode zm_Model_number.2.1 50 = .ok (.istore_n 2, 1) := by decide +kernel
theorem zd_Model_number_51 : decode zm_Model_number.2.1 51 = .ok (.iinc 3 1, 3) := by decide +kernel
theorem zd_Model_number_54 : decode zm_Model_number.2.1 54 = .ok (.goto (-43), 3) := by decide +kernel
theorem zd_Model_number_57 : decode zm_Model_number.2.1 57 = .ok (.iload_n 2, 1) := by decide +kernel
theorem zd_Model_number_58 : decode zm_Model_number.2.1 58 = .ok (.ireturn, 1) := by decide +kernel
theorem zb_Model_number_0 {Γ : zG} {σ : zS} {x1 : Int32} {dc : Nat} {P : Int32 → zS → Prop}  (hm : z_Ci dc zm_Model_oneOf [.inr (63), .inl (nI 48), .inl (nI 10)] σ P) (hdp : dc < z_dep Γ) (k : ∀ r σ1, P r σ1 → z_J Γ zm_Model_number 8 [some (.inr (63)), some (.inl (x1)), none, none] [.inl (r)] σ1) : z_J Γ zm_Model_number 0 [some (.inr (63)), some (.inl (x1)), none, none] [] σ := by
  refine zj_aload_n zd_Model_number_0 rfl ?_
  refine zj_bipush (v := nI 48) zd_Model_number_1 (by decide) ?_
  refine zj_bipush (v := nI 10) zd_Model_number_3 (by decide) ?_
  exact zj_callVi (As := [.inl (nI 48), .inl (nI 10)]) hm hdp rfl (by decide) rfl zl_Model_145 zq_Model_oneOf zd_Model_number_5 rfl (Nat.le_of_ble_eq_true rfl) (fun r σ1 h => (k r σ1 h))
theorem zb_Model_number_8 {Γ : zG} {σ : zS} {x1 y0 : Int32}  (k : z_J Γ zm_Model_number 11 [some (.inr (63)), some (.inl (x1)), some (.inl (y0)), some (.inl (nI 1))] [] σ) : z_J Γ zm_Model_number 8 [some (.inr (63)), some (.inl (x1)), none, none] [.inl (y0)] σ := by
  refine zj_istore_n (L' := [some (.inr (63)), some (.inl (x1)), some (.inl (y0)), none]) zd_Model_number_8 (by decide) rfl ?_
  refine zj_iconst (v := nI 1) zd_Model_number_9 (by decide) ?_
  refine zj_istore_n (L' := [some (.inr (63)), some (.inl (x1)), some (.inl (y0)), some (.inl (nI 1))]) zd_Model_number_10 (by decide) rfl ?_
  exact k
theorem zb_Model_number_11 {Γ : zG} {σ : zS} {x1 x2 x3 : Int32}  (kt : x1 ≤ x3 → z_J Γ zm_Model_number 57 [none, none, some (.inl (x2)), none] [] σ) (kf : ¬ x1 ≤ x3 → z_J Γ zm_Model_number 16 [some (.inr (63)), some (.inl (x1)), some (.inl (x2)), some (.inl (x3))] [] σ) : z_J Γ zm_Model_number 11 [some (.inr (63)), some (.inl (x1)), some (.inl (x2)), some (.inl (x3))] [] σ := by
  refine zj_iload_n zd_Model_number_11 rfl ?_
  refine zj_iload_n zd_Model_number_12 rfl ?_
  exact zj_icmp_ge zd_Model_number_13 (by decide) (fun h => (zj_weak (L' := [none, none, some (.inl (x2)), none]) ⟨rfl, trivial⟩ (kt h))) (fun h => (kf h))
theorem zb_Model_number_16 {Γ : zG} {σ : zS} {x1 x2 x3 : Int32} {dc : Nat} {P : Int32 → zS → Prop}  (hm : z_Ci dc zm_Model_fine [.inr (63)] σ P) (hdp : dc < z_dep Γ) (k : ∀ r σ1, P r σ1 → z_J Γ zm_Model_number 20 [some (.inr (63)), some (.inl (x1)), some (.inl (x2)), some (.inl (x3))] [.inl (r)] σ1) : z_J Γ zm_Model_number 16 [some (.inr (63)), some (.inl (x1)), some (.inl (x2)), some (.inl (x3))] [] σ := by
  refine zj_aload_n zd_Model_number_16 rfl ?_
  exact zj_callVi (As := []) hm hdp rfl (by decide) rfl zl_Model_129 zq_Model_fine zd_Model_number_17 rfl (Nat.le_of_ble_eq_true rfl) (fun r σ1 h => (k r σ1 h))
theorem zb_Model_number_20 {Γ : zG} {σ : zS} {x1 x2 x3 y0 : Int32}  (kt : y0 = 0 → z_J Γ zm_Model_number 57 [none, none, some (.inl (x2)), none] [] σ) (kf : ¬ y0 = 0 → z_J Γ zm_Model_number 23 [some (.inr (63)), some (.inl (x1)), some (.inl (x2)), some (.inl (x3))] [] σ) : z_J Γ zm_Model_number 20 [some (.inr (63)), some (.inl (x1)), some (.inl (x2)), some (.inl (x3))] [.inl (y0)] σ := by
  exact zj_if_eq zd_Model_number_20 (by decide) (fun h => (zj_weak (L' := [none, none, some (.inl (x2)), none]) ⟨rfl, trivial⟩ (kt h))) (fun h => (kf h))
theorem zb_Model_number_23 {Γ : zG} {σ : zS} {x1 x2 x3 : Int32} {dc : Nat} {P : Int32 → zS → Prop}  (hm : z_Ci dc zm_Model_here [.inr (63)] σ P) (hdp : dc < z_dep Γ) (k : ∀ r σ1, P r σ1 → z_J Γ zm_Model_number 27 [some (.inr (63)), some (.inl (x1)), some (.inl (x2)), some (.inl (x3))] [.inl (r)] σ1) : z_J Γ zm_Model_number 23 [some (.inr (63)), some (.inl (x1)), some (.inl (x2)), some (.inl (x3))] [] σ := by
  refine zj_aload_n zd_Model_number_23 rfl ?_
  exact zj_callVi (As := []) hm hdp rfl (by decide) rfl zl_Model_133 zq_Model_here zd_Model_number_24 rfl (Nat.le_of_ble_eq_true rfl) (fun r σ1 h => (k r σ1 h))
theorem zb_Model_number_27 {Γ : zG} {σ : zS} {x1 x2 x3 y0 : Int32} {dc : Nat} {P : Int32 → zS → Prop}  (hm : z_Ci dc zm_Model_in [.inl (y0), .inl (nI 48), .inl (nI 57)] σ P) (hdp : dc < z_dep Γ) (k : ∀ r σ1, P r σ1 → z_J Γ zm_Model_number 34 [some (.inr (63)), some (.inl (x1)), some (.inl (x2)), some (.inl (x3))] [.inl (r)] σ1) : z_J Γ zm_Model_number 27 [some (.inr (63)), some (.inl (x1)), some (.inl (x2)), some (.inl (x3))] [.inl (y0)] σ := by
  refine zj_bipush (v := nI 48) zd_Model_number_27 (by decide) ?_
  refine zj_bipush (v := nI 57) zd_Model_number_29 (by decide) ?_
  exact zj_callSi (As := [.inl (y0), .inl (nI 48), .inl (nI 57)]) hm hdp zl_Model_100 zq_Model_in zd_Model_number_31 rfl (Nat.le_of_ble_eq_true rfl) (fun r σ1 h => (k r σ1 h))
theorem zb_Model_number_34 {Γ : zG} {σ : zS} {x1 x2 x3 y0 : Int32}  (kt : y0 = 0 → z_J Γ zm_Model_number 57 [none, none, some (.inl (x2)), none] [] σ) (kf : ¬ y0 = 0 → z_J Γ zm_Model_number 37 [some (.inr (63)), some (.inl (x1)), some (.inl (x2)), some (.inl (x3))] [] σ) : z_J Γ zm_Model_number 34 [some (.inr (63)), some (.inl (x1)), some (.inl (x2)), some (.inl (x3))] [.inl (y0)] σ := by
  exact zj_if_eq zd_Model_number_34 (by decide) (fun h => (zj_weak (L' := [none, none, some (.inl (x2)), none]) ⟨rfl, trivial⟩ (kt h))) (fun h => (kf h))
theorem zb_Model_number_37 {Γ : zG} {σ : zS} {x1 x2 x3 : Int32} {dc : Nat} {P : Int32 → zS → Prop}  (hm : z_Ci dc zm_Model_oneOf [.inr (63), .inl (nI 48), .inl (nI 10)] σ P) (hdp : dc < z_dep Γ) (k : ∀ r σ1, P r σ1 → z_J Γ zm_Model_number 49 [some (.inr (63)), some (.inl (x1)), none, some (.inl (x3))] [.inl (r), .inl ((nI 10) * x2)] σ1) : z_J Γ zm_Model_number 37 [some (.inr (63)), some (.inl (x1)), some (.inl (x2)), some (.inl (x3))] [] σ := by
  refine zj_bipush (v := nI 10) zd_Model_number_37 (by decide) ?_
  refine zj_iload_n zd_Model_number_39 rfl ?_
  refine zj_imul zd_Model_number_40 ?_
  refine zj_aload_n zd_Model_number_41 rfl ?_
  refine zj_bipush (v := nI 48) zd_Model_number_42 (by decide) ?_
  refine zj_bipush (v := nI 10) zd_Model_number_44 (by decide) ?_
  exact zj_callVi (As := [.inl (nI 48), .inl (nI 10)]) hm hdp rfl (by decide) rfl zl_Model_145 zq_Model_oneOf zd_Model_number_46 rfl (Nat.le_of_ble_eq_true rfl) (fun r σ1 h => (zj_weak (L' := [some (.inr (63)), some (.inl (x1)), none, some (.inl (x3))]) ⟨rfl, ⟨rfl, ⟨rfl, trivial⟩⟩⟩ (k r σ1 h)))
theorem zb_Model_number_49 {Γ : zG} {σ : zS} {x1 x3 y0 y1 : Int32}  (k : z_J Γ zm_Model_number 11 [some (.inr (63)), some (.inl (x1)), some (.inl (y1 + y0)), some (.inl (x3 + nI 1))] [] σ) : z_J Γ zm_Model_number 49 [some (.inr (63)), some (.inl (x1)), none, some (.inl (x3))] [.inl (y0), .inl (y1)] σ := by
  refine zj_iadd zd_Model_number_49 ?_
  refine zj_istore_n (L' := [some (.inr (63)), some (.inl (x1)), some (.inl (y1 + y0)), some (.inl (x3))]) zd_Model_number_50 (by decide) rfl ?_
  refine zj_iinc (v := nI 1) (L' := [some (.inr (63)), some (.inl (x1)), some (.inl (y1 + y0)), some (.inl (x3 + nI 1))]) zd_Model_number_51 rfl (by decide) (by decide) rfl ?_
  exact zj_goto zd_Model_number_54 (by decide) k
theorem zb_Model_number_57 {Γ : zG} {σ : zS} {x2 : Int32}  (e : z_end Γ (some (x2)) σ) : z_J Γ zm_Model_number 57 [none, none, some (.inl (x2)), none] [] σ := by
  refine zj_iload_n zd_Model_number_57 rfl ?_
  exact zj_ireturn rfl zd_Model_number_58 e
theorem zd_Model_letterOf_0 : decode zm_Model_letterOf.2.1 0 = .ok (.iload_n 0, 1) := by decide +kernel
theorem zd_Model_letterOf_1 : decode zm_Model_letterOf.2.1 1 = .ok (.bipush 116, 2) := by decide +kernel
theorem zd_Model_letterOf_3 : decode zm_Model_letterOf.2.1 3 = .ok (.if_icmp .ne 7, 3) := by decide +kernel
theorem zd_Model_letterOf_6 : decode zm_Model_letterOf.2.1 6 = .ok (.iconst 0, 1) := by decide +kernel
theorem zd_Model_letterOf_7 : decode zm_Model_letterOf.2.1 7 = .ok (.goto 54, 3) := by decide +kernel
theorem zd_Model_letterOf_10 : decode zm_Model_letterOf.2.1 10 = .ok (.iload_n 0, 1) := by decide +kernel
theorem zd_Model_letterOf_11 : decode zm_Model_letterOf.2.1 11 = .ok (.bipush 119, 2) := by decide +kernel
theorem zd_Model_letterOf_13 : decode zm_Model_letterOf.2.1 13 = .ok (.if_icmp .ne 7, 3) := by decide +kernel
theorem zd_Model_letterOf_16 : decode zm_Model_letterOf.2.1 16 = .ok (.iconst 1, 1) := by decide +kernel
theorem zd_Model_letterOf_17 : decode zm_Model_letterOf.2.1 17 = .ok (.goto 44, 3) := by decide +kernel
theorem zd_Model_letterOf_20 : decode zm_Model_letterOf.2.1 20 = .ok (.iload_n 0, 1) := by decide +kernel
theorem zd_Model_letterOf_21 : decode zm_Model_letterOf.2.1 21 = .ok (.bipush 99, 2) := by decide +kernel
theorem zd_Model_letterOf_23 : decode zm_Model_letterOf.2.1 23 = .ok (.if_icmp .ne 7, 3) := by decide +kernel
theorem zd_Model_letterOf_26 : decode zm_Model_letterOf.2.1 26 = .ok (.iconst 2, 1) := by decide +kernel
theorem zd_Model_letterOf_27 : decode zm_Model_letterOf.2.1 27 = .ok (.goto 34, 3) := by decide +kernel
theorem zd_Model_letterOf_30 : decode zm_Model_letterOf.2.1 30 = .ok (.iload_n 0, 1) := by decide +kernel
theorem zd_Model_letterOf_31 : decode zm_Model_letterOf.2.1 31 = .ok (.bipush 107, 2) := by decide +kernel
theorem zd_Model_letterOf_33 : decode zm_Model_letterOf.2.1 33 = .ok (.if_icmp .ne 7, 3) := by decide +kernel
theorem zd_Model_letterOf_36 : decode zm_Model_letterOf.2.1 36 = .ok (.iconst 3, 1) := by decide +kernel
theorem zd_Model_letterOf_37 : decode zm_Model_letterOf.2.1 37 = .ok (.goto 24, 3) := by decide +kernel
theorem zd_Model_letterOf_40 : decode zm_Model_letterOf.2.1 40 = .ok (.iload_n 0, 1) := by decide +kernel
theorem zd_Model_letterOf_41 : decode zm_Model_letterOf.2.1 41 = .ok (.bipush 110, 2) := by decide +kernel
theorem zd_Model_letterOf_43 : decode zm_Model_letterOf.2.1 43 = .ok (.if_icmp .ne 7, 3) := by decide +kernel
theorem zd_Model_letterOf_46 : decode zm_Model_letterOf.2.1 46 = .ok (.iconst 4, 1) := by decide +kernel
theorem zd_Model_letterOf_47 : decode zm_Model_letterOf.2.1 47 = .ok (.goto 14, 3) := by decide +kernel
theorem zd_Model_letterOf_50 : decode zm_Model_letterOf.2.1 50 = .ok (.iload_n 0, 1) := by decide +kernel
theorem zd_Model_letterOf_51 : decode zm_Model_letterOf.2.1 51 = .ok (.bipush 100, 2) := by decide +kernel
theorem zd_Model_letterOf_53 : decode zm_Model_letterOf.2.1 53 = .ok (.if_icmp .ne 7, 3) := by decide +kernel
theorem zd_Model_letterOf_56 : decode zm_Model_letterOf.2.1 56 = .ok (.iconst 5, 1) := by decide +kernel
theorem zd_Model_letterOf_57 : decode zm_Model_letterOf.2.1 57 = .ok (.goto 4, 3) := by decide +kernel
theorem zd_Model_letterOf_60 : decode zm_Model_letterOf.2.1 60 = .ok (.iconst (-1), 1) := by decide +kernel
theorem zd_Model_letterOf_61 : decode zm_Model_letterOf.2.1 61 = .ok (.ireturn, 1) := by decide +kernel
theorem zb_Model_letterOf_0 {Γ : zG} {σ : zS} {x0 : Int32}  (kt : ¬ x0 = (nI 116) → z_J Γ zm_Model_letterOf 10 [some (.inl (x0))] [] σ) (kf : x0 = (nI 116) → z_J Γ zm_Model_letterOf 6 [none] [] σ) : z_J Γ zm_Model_letterOf 0 [some (.inl (x0))] [] σ := by
  refine zj_iload_n zd_Model_letterOf_0 rfl ?_
  refine zj_bipush (v := nI 116) zd_Model_letterOf_1 (by decide) ?_
  exact zj_icmp_ne zd_Model_letterOf_3 (by decide) (fun h => (kt h)) (fun h => (zj_weak (L' := [none]) trivial (kf h)))
theorem zb_Model_letterOf_6 {Γ : zG} {σ : zS}  (k : z_J Γ zm_Model_letterOf 61 [none] [.inl (nI 0)] σ) : z_J Γ zm_Model_letterOf 6 [none] [] σ := by
  refine zj_iconst (v := nI 0) zd_Model_letterOf_6 (by decide) ?_
  exact zj_goto zd_Model_letterOf_7 (by decide) k
theorem zb_Model_letterOf_10 {Γ : zG} {σ : zS} {x0 : Int32}  (kt : ¬ x0 = (nI 119) → z_J Γ zm_Model_letterOf 20 [some (.inl (x0))] [] σ) (kf : x0 = (nI 119) → z_J Γ zm_Model_letterOf 16 [none] [] σ) : z_J Γ zm_Model_letterOf 10 [some (.inl (x0))] [] σ := by
  refine zj_iload_n zd_Model_letterOf_10 rfl ?_
  refine zj_bipush (v := nI 119) zd_Model_letterOf_11 (by decide) ?_
  exact zj_icmp_ne zd_Model_letterOf_13 (by decide) (fun h => (kt h)) (fun h => (zj_weak (L' := [none]) trivial (kf h)))
theorem zb_Model_letterOf_16 {Γ : zG} {σ : zS}  (k : z_J Γ zm_Model_letterOf 61 [none] [.inl (nI 1)] σ) : z_J Γ zm_Model_letterOf 16 [none] [] σ := by
  refine zj_iconst (v := nI 1) zd_Model_letterOf_16 (by decide) ?_
  exact zj_goto zd_Model_letterOf_17 (by decide) k
theorem zb_Model_letterOf_20 {Γ : zG} {σ : zS} {x0 : Int32}  (kt : ¬ x0 = (nI 99) → z_J Γ zm_Model_letterOf 30 [some (.inl (x0))] [] σ) (kf : x0 = (nI 99) → z_J Γ zm_Model_letterOf 26 [none] [] σ) : z_J Γ zm_Model_letterOf 20 [some (.inl (x0))] [] σ := by
  refine zj_iload_n zd_Model_letterOf_20 rfl ?_
  refine zj_bipush (v := nI 99) zd_Model_letterOf_21 (by decide) ?_
  exact zj_icmp_ne zd_Model_letterOf_23 (by decide) (fun h => (kt h)) (fun h => (zj_weak (L' := [none]) trivial (kf h)))
theorem zb_Model_letterOf_26 {Γ : zG} {σ : zS}  (k : z_J Γ zm_Model_letterOf 61 [none] [.inl (nI 2)] σ) : z_J Γ zm_Model_letterOf 26 [none] [] σ := by
  refine zj_iconst (v := nI 2) zd_Model_letterOf_26 (by decide) ?_
  exact zj_goto zd_Model_letterOf_27 (by decide) k
theorem zb_Model_letterOf_30 {Γ : zG} {σ : zS} {x0 : Int32}  (kt : ¬ x0 = (nI 107) → z_J Γ zm_Model_letterOf 40 [some (.inl (x0))] [] σ) (kf : x0 = (nI 107) → z_J Γ zm_Model_letterOf 36 [none] [] σ) : z_J Γ zm_Model_letterOf 30 [some (.inl (x0))] [] σ := by
  refine zj_iload_n zd_Model_letterOf_30 rfl ?_
  refine zj_bipush (v := nI 107) zd_Model_letterOf_31 (by decide) ?_
  exact zj_icmp_ne zd_Model_letterOf_33 (by decide) (fun h => (kt h)) (fun h => (zj_weak (L' := [none]) trivial (kf h)))
theorem zb_Model_letterOf_36 {Γ : zG} {σ : zS}  (k : z_J Γ zm_Model_letterOf 61 [none] [.inl (nI 3)] σ) : z_J Γ zm_Model_letterOf 36 [none] [] σ := by
  refine zj_iconst (v := nI 3) zd_Model_letterOf_36 (by decide) ?_
  exact zj_goto zd_Model_letterOf_37 (by decide) k
theorem zb_Model_letterOf_40 {Γ : zG} {σ : zS} {x0 : Int32}  (kt : ¬ x0 = (nI 110) → z_J Γ zm_Model_letterOf 50 [some (.inl (x0))] [] σ) (kf : x0 = (nI 110) → z_J Γ zm_Model_letterOf 46 [none] [] σ) : z_J Γ zm_Model_letterOf 40 [some (.inl (x0))] [] σ := by
  refine zj_iload_n zd_Model_letterOf_40 rfl ?_
  refine zj_bipush (v := nI 110) zd_Model_letterOf_41 (by decide) ?_
  exact zj_icmp_ne zd_Model_letterOf_43 (by decide) (fun h => (kt h)) (fun h => (zj_weak (L' := [none]) trivial (kf h)))
theorem zb_Model_letterOf_46 {Γ : zG} {σ : zS}  (k : z_J Γ zm_Model_letterOf 61 [none] [.inl (nI 4)] σ) : z_J Γ zm_Model_letterOf 46 [none] [] σ := by
  refine zj_iconst (v := nI 4) zd_Model_letterOf_46 (by decide) ?_
  exact zj_goto zd_Model_letterOf_47 (by decide) k
theorem zb_Model_letterOf_50 {Γ : zG} {σ : zS} {x0 : Int32}  (kt : ¬ x0 = (nI 100) → z_J Γ zm_Model_letterOf 60 [none] [] σ) (kf : x0 = (nI 100) → z_J Γ zm_Model_letterOf 56 [none] [] σ) : z_J Γ zm_Model_letterOf 50 [some (.inl (x0))] [] σ := by
  refine zj_iload_n zd_Model_letterOf_50 rfl ?_
  refine zj_bipush (v := nI 100) zd_Model_letterOf_51 (by decide) ?_
  exact zj_icmp_ne zd_Model_letterOf_53 (by decide) (fun h => (zj_weak (L' := [none]) trivial (kt h))) (fun h => (zj_weak (L' := [none]) trivial (kf h)))
theorem zb_Model_letterOf_56 {Γ : zG} {σ : zS}  (k : z_J Γ zm_Model_letterOf 61 [none] [.inl (nI 5)] σ) : z_J Γ zm_Model_letterOf 56 [none] [] σ := by
  refine zj_iconst (v := nI 5) zd_Model_letterOf_56 (by decide) ?_
  exact zj_goto zd_Model_letterOf_57 (by decide) k
theorem zb_Model_letterOf_60 {Γ : zG} {σ : zS}  (k : z_J Γ zm_Model_letterOf 61 [none] [.inl ((-1))] σ) : z_J Γ zm_Model_letterOf 60 [none] [] σ := by
  refine zj_iconst (v := (-1)) zd_Model_letterOf_60 (by decide) ?_
  exact k
theorem zb_Model_letterOf_61 {Γ : zG} {σ : zS} {y0 : Int32}  (e : z_end Γ (some (y0)) σ) : z_J Γ zm_Model_letterOf 61 [none] [.inl (y0)] σ := by
  exact zj_ireturn rfl zd_Model_letterOf_61 e
theorem zd_Model_readers_0 : decode zm_Model_readers.2.1 0 = .ok (.aload_n 0, 1) := by decide +kernel
theorem zd_Model_readers_1 : decode zm_Model_readers.2.1 1 = .ok (.iconst 0, 1) := by decide +kernel
theorem zd_Model_readers_2 : decode zm_Model_readers.2.1 2 = .ok (.putfield 91, 3) := by decide +kernel
theorem zd_Model_readers_5 : decode zm_Model_readers.2.1 5 = .ok (.aload_n 0, 1) := by decide +kernel
theorem zd_Model_readers_6 : decode zm_Model_readers.2.1 6 = .ok (.bipush 7, 2) := by decide +kernel
theorem zd_Model_readers_8 : decode zm_Model_readers.2.1 8 = .ok (.invokevirtual 149, 3) := by decide +kernel
theorem zd_Model_readers_11 : decode zm_Model_readers.2.1 11 = .ok (.aload_n 0, 1) := by decide +kernel
theorem zd_Model_readers_12 : decode zm_Model_readers.2.1 12 = .ok (.getfield 113, 3) := by decide +kernel
theorem zd_Model_readers_15 : decode zm_Model_readers.2.1 15 = .ok (.ifCond .ne 5, 3) := by decide +kernel
theorem zd_Model_readers_18 : decode zm_Model_readers.2.1 18 = .ok (.iconst 0, 1) := by decide +kernel
theorem zd_Model_readers_19 : decode zm_Model_readers.2.1 19 = .ok (.ireturn, 1) := by decide +kernel
theorem zd_Model_readers_20 : decode zm_Model_readers.2.1 20 = .ok (.iconst 0, 1) := by decide +kernel
theorem zd_Model_readers_21 : decode zm_Model_readers.2.1 21 = .ok (.istore_n 1, 1) := by decide +kernel
theorem zd_Model_readers_22 : decode zm_Model_readers.2.1 22 = .ok (.iconst 1, 1) := by decide +kernel
theorem zd_Model_readers_23 : decode zm_Model_readers.2.1 23 = .ok (.istore_n 2, 1) := by decide +kernel
theorem zd_Model_readers_24 : decode zm_Model_readers.2.1 24 = .ok (.iload_n 2, 1) := by decide +kernel
theorem zd_Model_readers_25 : decode zm_Model_readers.2.1 25 = .ok (.ifCond .eq 58, 3) := by decide +kernel
theorem zd_Model_readers_28 : decode zm_Model_readers.2.1 28 = .ok (.aload_n 0, 1) := by decide +kernel
theorem zd_Model_readers_29 : decode zm_Model_readers.2.1 29 = .ok (.invokevirtual 129, 3) := by decide +kernel
theorem zd_Model_readers_32 : decode zm_Model_readers.2.1 32 = .ok (.ifCond .eq 51, 3) := by decide +kernel
theorem zd_Model_readers_35 : decode zm_Model_readers.2.1 35 = .ok (.aload_n 0, 1) := by decide +kernel
theorem zd_Model_readers_36 : decode zm_Model_readers.2.1 36 = .ok (.getfield 104, 3) := by decide +kernel
theorem zd_Model_readers_39 : decode zm_Model_readers.2.1 39 = .ok (.iload_n 1, 1) := by decide +kernel
theorem zd_Model_readers_40 : decode zm_Model_readers.2.1 40 = .ok (.iadd, 1) := by decide +kernel
theorem zd_Model_readers_41 : decode zm_Model_readers.2.1 41 = .ok (.iconst 4, 1) := by decide +kernel
theorem zd_Model_readers_42 : decode zm_Model_readers.2.1 42 = .ok (.if_icmp .ne 14, 3) := by decide +kernel
theorem zd_Model_readers_45 : decode zm_Model_readers.2.1 45 = .ok (.aload_n 0, 1) := by decide +kernel
theorem zd_Model_readers_46 : decode zm_Model_readers.2.1 46 = .ok (.aload_n 0, 1) := by decide +kernel
theorem zd_Model_readers_47 : decode zm_Model_readers.2.1 47 = .ok (.getfield 119, 3) := by decide +kernel
theorem zd_Model_readers_50 : decode zm_Model_readers.2.1 50 = .ok (.invokevirtual 141, 3) := by decide +kernel
theorem zd_Model_readers_53 : decode zm_Model_readers.2.1 53 = .ok (.goto 17, 3) := by decide +kernel
theorem zd_Model_readers_56 : decode zm_Model_readers.2.1 56 = .ok (.aload_n 0, 1) := by decide +kernel
theorem zd_Model_readers_57 : decode zm_Model_readers.2.1 57 = .ok (.getfield 33, 3) := by decide +kernel
theorem zd_Model_readers_60 : decode zm_Model_readers.2.1 60 = .ok (.iload_n 1, 1) := by decide +kernel
theorem zd_Model_readers_61 : decode zm_Model_readers.2.1 61 = .ok (.aload_n 0, 1) := by decide +kernel
theorem zd_Model_readers_62 : decode zm_Model_readers.2.1 62 = .ok (.bipush 48, 2) := by decide +kernel
theorem zd_Model_readers_64 : decode zm_Model_readers.2.1 64 = .ok (.bipush 10, 2) := by decide +kernel
theorem zd_Model_readers_66 : decode zm_Model_readers.2.1 66 = .ok (.invokevirtual 145, 3) := by decide +kernel
theorem zd_Model_readers_69 : decode zm_Model_readers.2.1 69 = .ok (.iastore, 1) := by decide +kernel
theorem zd_Model_readers_70 : decode zm_Model_readers.2.1 70 = .ok (.iinc 1 1, 3) := by decide +kernel
theorem zd_Model_readers_73 : decode zm_Model_readers.2.1 73 = .ok (.aload_n 0, 1) := by decide +kernel
theorem zd_Model_readers_74 : decode zm_Model_readers.2.1 74 = .ok (.bipush 59, 2) := by decide +kernel
theorem zd_Model_readers_76 : decode zm_Model_readers.2.1 76 = .ok (.invokevirtual 137, 3) := by decide +kernel
theorem zd_Model_readers_79 : decode zm_Model_readers.2.1 79 = .ok (.istore_n 2, 1) := by decide +kernel
theorem zd_Model_readers_80 : decode zm_Model_readers.2.1 80 = .ok (.goto (-56), 3) := by decide +kernel
theorem zd_Model_readers_83 : decode zm_Model_readers.2.1 83 = .ok (.aload_n 0, 1) := by decide +kernel
theorem zd_Model_readers_84 : decode zm_Model_readers.2.1 84 = .ok (.invokevirtual 152, 3) := by decide +kernel
theorem zd_Model_readers_87 : decode zm_Model_readers.2.1 87 = .ok (.ifCond .ne 10, 3) := by decide +kernel
theorem zd_Model_readers_90 : decode zm_Model_readers.2.1 90 = .ok (.iconst (-1), 1) := by decide +kernel
theorem zd_Model_readers_91 : decode zm_Model_readers.2.1 91 = .ok (.aload_n 0, 1) := by decide +kernel
theorem zd_Model_readers_92 : decode zm_Model_readers.2.1 92 = .ok (.getfield 122, 3) := by decide +kernel
theorem zd_Model_readers_95 : decode zm_Model_readers.2.1 95 = .ok (.isub, 1) := by decide +kernel
theorem zd_Model_readers_96 : decode zm_Model_readers.2.1 96 = .ok (.ireturn, 1) := by decide +kernel
theorem zd_Model_readers_97 : decode zm_Model_readers.2.1 97 = .ok (.iconst 0, 1) := by decide +kernel
theorem zd_Model_readers_98 : decode zm_Model_readers.2.1 98 = .ok (.istore_n 3, 1) := by decide +kernel
theorem zd_Model_readers_99 : decode zm_Model_readers.2.1 99 = .ok (.iload_n 3, 1) := by decide +kernel
theorem zd_Model_readers_100 : decode zm_Model_readers.2.1 100 = .ok (.iload_n 1, 1) := by decide +kernel
theorem zd_Model_readers_101 : decode zm_Model_readers.2.1 101 = .ok (.if_icmp .ge 47, 3) := by decide +kernel
theorem zd_Model_readers_104 : decode zm_Model_readers.2.1 104 = .ok (.aload_n 0, 1) := by decide +kernel
theorem zd_Model_readers_105 : decode zm_Model_readers.2.1 105 = .ok (.getfield 23, 3) := by decide +kernel
theorem zd_Model_readers_108 : decode zm_Model_readers.2.1 108 = .ok (.aload_n 0, 1) := by decide +kernel
theorem zd_Model_readers_109 : decode zm_Model_readers.2.1 109 = .ok (.getfield 104, 3) := by decide +kernel
theorem zd_Model_readers_112 : decode zm_Model_readers.2.1 112 = .ok (.aload_n 0, 1) := by decide +kernel
theorem zd_Model_readers_113 : decode zm_Model_readers.2.1 113 = .ok (.getfield 33, 3) := by decide +kernel
theorem zd_Model_readers_116 : decode zm_Model_readers.2.1 116 = .ok (.iload_n 3, 1) := by decide +kernel
theorem zd_Model_readers_117 : decode zm_Model_readers.2.1 117 = .ok (.iaload, 1) := by decide +kernel
theorem zd_Model_readers_118 : decode zm_Model_readers.2.1 118 = .ok (.iastore, 1) := by decide +kernel
theorem zd_Model_readers_119 : decode zm_Model_readers.2.1 119 = .ok (.aload_n 0, 1) := by decide +kernel
theorem zd_Model_readers_120 : decode zm_Model_readers.2.1 120 = .ok (.getfield 9, 3) := by decide +kernel
theorem zd_Model_readers_123 : decode zm_Model_readers.2.1 123 = .ok (.bipush 49, 2) := by decide +kernel
theorem zd_Model_readers_125 : decode zm_Model_readers.2.1 125 = .ok (.aload_n 0, 1) := by decide +kernel
theorem zd_Model_readers_126 : decode zm_Model_readers.2.1 126 = .ok (.getfield 104, 3) := by decide +kernel
theorem zd_Model_readers_129 : decode zm_Model_readers.2.1 129 = .ok (.iadd, 1) := by decide +kernel
theorem zd_Model_readers_130 : decode zm_Model_readers.2.1 130 = .ok (.iconst 0, 1) := by decide +kernel
theorem zd_Model_readers_131 : decode zm_Model_readers.2.1 131 = .ok (.iastore, 1) := by decide +kernel
theorem zd_Model_readers_132 : decode zm_Model_readers.2.1 132 = .ok (.aload_n 0, 1) := by decide +kernel
theorem zd_Model_readers_133 : decode zm_Model_readers.2.1 133 = .ok (.dup, 1) := by decide +kernel
theorem zd_Model_readers_134 : decode zm_Model_readers.2.1 134 = .ok (.getfield 104, 3) := by decide +kernel
theorem zd_Model_readers_137 : decode zm_Model_readers.2.1 137 = .ok (.iconst 1, 1) := by decide +kernel
theorem zd_Model_readers_138 : decode zm_Model_readers.2.1 138 = .ok (.iadd, 1) := by decide +kernel
theorem zd_Model_readers_139 : decode zm_Model_readers.2.1 139 = .ok (.putfield 104, 3) := by decide +kernel
theorem zd_Model_readers_142 : decode zm_Model_readers.2.1 142 = .ok (.iinc 3 1, 3) := by decide +kernel
theorem zd_Model_readers_145 : decode zm_Model_readers.2.1 145 = .ok (.goto (-46), 3) := by decide +kernel
theorem zd_Model_readers_148 : decode zm_Model_readers.2.1 148 = .ok (.aload_n 0, 1) := by decide +kernel
theorem zd_Model_readers_149 : decode zm_Model_readers.2.1 149 = .ok (.iconst 0, 1) := by decide +kernel
theorem zd_Model_readers_150 : decode zm_Model_readers.2.1 150 = .ok (.putfield 155, 3) := by decide +kernel
theorem zd_Model_readers_153 : decode zm_Model_readers.2.1 153 = .ok (.aload_n 0, 1) := by decide +kernel
theorem zd_Model_readers_154 : decode zm_Model_readers.2.1 154 = .ok (.dup, 1) := by decide +kernel
theorem zd_Model_readers_155 : decode zm_Model_readers.2.1 155 = .ok (.getfield 158, 3) := by decide +kernel
theorem zd_Model_readers_158 : decode zm_Model_readers.2.1 158 = .ok (.iconst 1, 1) := by decide +kernel
theorem zd_Model_readers_159 : decode zm_Model_readers.2.1 159 = .ok (.iadd, 1) := by decide +kernel
theorem zd_Model_readers_160 : decode zm_Model_readers.2.1 160 = .ok (.putfield 158, 3) := by decide +kernel
theorem zd_Model_readers_163 : decode zm_Model_readers.2.1 163 = .ok (.iload_n 1, 1) := by decide +kernel
theorem zd_Model_readers_164 : decode zm_Model_readers.2.1 164 = .ok (.ireturn, 1) := by decide +kernel
theorem zb_Model_readers_0 {Γ : zG} {σ : zS} {dc : Nat} {P : zS → Prop}  (hm : z_Cv dc zm_Model_beginText [.inr (63), .inl (nI 7)] (z_pI σ 63 11 (nI 0)) P) (hdp : dc < z_dep Γ) (k : ∀ σ1, P σ1 → z_J Γ zm_Model_readers 11 [some (.inr (63)), none, none, none] [] σ1) : z_J Γ zm_Model_readers 0 [some (.inr (63)), none, none, none] [] σ := by
  refine zj_aload_n zd_Model_readers_0 rfl ?_
  refine zj_iconst (v := nI 0) zd_Model_readers_1 (by decide) ?_
  refine zj_putI rfl (by decide) rfl zu_Model zy_Model_ok zn_Model (k := 11) (by decide) rfl rfl zl_Model_91 rfl rfl zd_Model_readers_2 ?_
  refine zj_aload_n zd_Model_readers_5 rfl ?_
  refine zj_bipush (v := nI 7) zd_Model_readers_6 (by decide) ?_
  exact zj_callVv (As := [.inl (nI 7)]) hm hdp rfl (by decide) rfl zl_Model_149 zq_Model_beginText zd_Model_readers_8 rfl (Nat.le_of_ble_eq_true rfl) (fun σ1 h => (k σ1 h))
theorem zb_Model_readers_11 {Γ : zG} {σ : zS}  (kt : ¬ (σ.1 63 13) = 0 → z_J Γ zm_Model_readers 20 [some (.inr (63)), none, none, none] [] σ) (kf : (σ.1 63 13) = 0 → z_J Γ zm_Model_readers 18 [none, none, none, none] [] σ) : z_J Γ zm_Model_readers 11 [some (.inr (63)), none, none, none] [] σ := by
  refine zj_aload_n zd_Model_readers_11 rfl ?_
  refine zj_getI rfl (by decide) rfl zu_Model (k := 13) (by decide) rfl zl_Model_113 zd_Model_readers_12 ?_
  exact zj_if_ne zd_Model_readers_15 (by decide) (fun h => (kt h)) (fun h => (zj_weak (L' := [none, none, none, none]) trivial (kf h)))
theorem zb_Model_readers_18 {Γ : zG} {σ : zS}  (e : z_end Γ (some (nI 0)) σ) : z_J Γ zm_Model_readers 18 [none, none, none, none] [] σ := by
  refine zj_iconst (v := nI 0) zd_Model_readers_18 (by decide) ?_
  exact zj_ireturn rfl zd_Model_readers_19 e
theorem zb_Model_readers_20 {Γ : zG} {σ : zS}  (k : z_J Γ zm_Model_readers 24 [some (.inr (63)), some (.inl (nI 0)), some (.inl (nI 1)), none] [] σ) : z_J Γ zm_Model_readers 20 [some (.inr (63)), none, none, none] [] σ := by
  refine zj_iconst (v := nI 0) zd_Model_readers_20 (by decide) ?_
  refine zj_istore_n (L' := [some (.inr (63)), some (.inl (nI 0)), none, none]) zd_Model_readers_21 (by decide) rfl ?_
  refine zj_iconst (v := nI 1) zd_Model_readers_22 (by decide) ?_
  refine zj_istore_n (L' := [some (.inr (63)), some (.inl (nI 0)), some (.inl (nI 1)), none]) zd_Model_readers_23 (by decide) rfl ?_
  exact k
theorem zb_Model_readers_24 {Γ : zG} {σ : zS} {x1 x2 : Int32}  (kt : x2 = 0 → z_J Γ zm_Model_readers 83 [some (.inr (63)), some (.inl (x1)), none, none] [] σ) (kf : ¬ x2 = 0 → z_J Γ zm_Model_readers 28 [some (.inr (63)), some (.inl (x1)), none, none] [] σ) : z_J Γ zm_Model_readers 24 [some (.inr (63)), some (.inl (x1)), some (.inl (x2)), none] [] σ := by
  refine zj_iload_n zd_Model_readers_24 rfl ?_
  exact zj_if_eq zd_Model_readers_25 (by decide) (fun h => (zj_weak (L' := [some (.inr (63)), some (.inl (x1)), none, none]) ⟨rfl, ⟨rfl, trivial⟩⟩ (kt h))) (fun h => (zj_weak (L' := [some (.inr (63)), some (.inl (x1)), none, none]) ⟨rfl, ⟨rfl, trivial⟩⟩ (kf h)))
theorem zb_Model_readers_28 {Γ : zG} {σ : zS} {x1 : Int32} {dc : Nat} {P : Int32 → zS → Prop}  (hm : z_Ci dc zm_Model_fine [.inr (63)] σ P) (hdp : dc < z_dep Γ) (k : ∀ r σ1, P r σ1 → z_J Γ zm_Model_readers 32 [some (.inr (63)), some (.inl (x1)), none, none] [.inl (r)] σ1) : z_J Γ zm_Model_readers 28 [some (.inr (63)), some (.inl (x1)), none, none] [] σ := by
  refine zj_aload_n zd_Model_readers_28 rfl ?_
  exact zj_callVi (As := []) hm hdp rfl (by decide) rfl zl_Model_129 zq_Model_fine zd_Model_readers_29 rfl (Nat.le_of_ble_eq_true rfl) (fun r σ1 h => (k r σ1 h))
theorem zb_Model_readers_32 {Γ : zG} {σ : zS} {x1 y0 : Int32}  (kt : y0 = 0 → z_J Γ zm_Model_readers 83 [some (.inr (63)), some (.inl (x1)), none, none] [] σ) (kf : ¬ y0 = 0 → z_J Γ zm_Model_readers 35 [some (.inr (63)), some (.inl (x1)), none, none] [] σ) : z_J Γ zm_Model_readers 32 [some (.inr (63)), some (.inl (x1)), none, none] [.inl (y0)] σ := by
  exact zj_if_eq zd_Model_readers_32 (by decide) (fun h => (kt h)) (fun h => (kf h))
theorem zb_Model_readers_35 {Γ : zG} {σ : zS} {x1 : Int32}  (kt : ¬ ((σ.1 63 5) + x1) = (nI 4) → z_J Γ zm_Model_readers 56 [some (.inr (63)), some (.inl (x1)), none, none] [] σ) (kf : ((σ.1 63 5) + x1) = (nI 4) → z_J Γ zm_Model_readers 45 [some (.inr (63)), some (.inl (x1)), none, none] [] σ) : z_J Γ zm_Model_readers 35 [some (.inr (63)), some (.inl (x1)), none, none] [] σ := by
  refine zj_aload_n zd_Model_readers_35 rfl ?_
  refine zj_getI rfl (by decide) rfl zu_Model (k := 5) (by decide) rfl zl_Model_104 zd_Model_readers_36 ?_
  refine zj_iload_n zd_Model_readers_39 rfl ?_
  refine zj_iadd zd_Model_readers_40 ?_
  refine zj_iconst (v := nI 4) zd_Model_readers_41 (by decide) ?_
  exact zj_icmp_ne zd_Model_readers_42 (by decide) (fun h => (kt h)) (fun h => (kf h))
theorem zb_Model_readers_45 {Γ : zG} {σ : zS} {x1 : Int32} {dc : Nat} {P : zS → Prop}  (hm : z_Cv dc zm_Model_fault [.inr (63), .inl (σ.1 63 15)] σ P) (hdp : dc < z_dep Γ) (k : ∀ σ1, P σ1 → z_J Γ zm_Model_readers 53 [some (.inr (63)), some (.inl (x1)), none, none] [] σ1) : z_J Γ zm_Model_readers 45 [some (.inr (63)), some (.inl (x1)), none, none] [] σ := by
  refine zj_aload_n zd_Model_readers_45 rfl ?_
  refine zj_aload_n zd_Model_readers_46 rfl ?_
  refine zj_getI rfl (by decide) rfl zu_Model (k := 15) (by decide) rfl zl_Model_119 zd_Model_readers_47 ?_
  exact zj_callVv (As := [.inl (σ.1 63 15)]) hm hdp rfl (by decide) rfl zl_Model_141 zq_Model_fault zd_Model_readers_50 rfl (Nat.le_of_ble_eq_true rfl) (fun σ1 h => (k σ1 h))
theorem zb_Model_readers_53 {Γ : zG} {σ : zS} {x1 : Int32}  (k : z_J Γ zm_Model_readers 70 [some (.inr (63)), some (.inl (x1)), none, none] [] σ) : z_J Γ zm_Model_readers 53 [some (.inr (63)), some (.inl (x1)), none, none] [] σ := by
  exact zj_goto zd_Model_readers_53 (by decide) k
theorem zb_Model_readers_56 {Γ : zG} {σ : zS} {x1 : Int32} {dc : Nat} {P : Int32 → zS → Prop}  (hm : z_Ci dc zm_Model_oneOf [.inr (63), .inl (nI 48), .inl (nI 10)] σ P) (hdp : dc < z_dep Γ) (k : ∀ r σ1, P r σ1 → z_J Γ zm_Model_readers 69 [some (.inr (63)), some (.inl (x1)), none, none] [.inl (r), .inl (x1), .inr (70)] σ1) : z_J Γ zm_Model_readers 56 [some (.inr (63)), some (.inl (x1)), none, none] [] σ := by
  refine zj_aload_n zd_Model_readers_56 rfl ?_
  refine zj_getR rfl (by decide) rfl zu_Model (k := 17) (by decide) rfl zl_Model_33 zd_Model_readers_57 (o' := 70) rfl ?_
  refine zj_iload_n zd_Model_readers_60 rfl ?_
  refine zj_aload_n zd_Model_readers_61 rfl ?_
  refine zj_bipush (v := nI 48) zd_Model_readers_62 (by decide) ?_
  refine zj_bipush (v := nI 10) zd_Model_readers_64 (by decide) ?_
  exact zj_callVi (As := [.inl (nI 48), .inl (nI 10)]) hm hdp rfl (by decide) rfl zl_Model_145 zq_Model_oneOf zd_Model_readers_66 rfl (Nat.le_of_ble_eq_true rfl) (fun r σ1 h => (k r σ1 h))
theorem zb_Model_readers_69 {Γ : zG} {σ : zS} {x1 y0 y1 : Int32} {k1 : Nat}  (b1 : z_ix y1 24 k1) (k : z_J Γ zm_Model_readers 70 [some (.inr (63)), some (.inl (x1)), none, none] [] (z_pI σ 70 k1 y0)) : z_J Γ zm_Model_readers 69 [some (.inr (63)), some (.inl (x1)), none, none] [.inl (y0), .inl (y1), .inr (70)] σ := by
  refine zj_iastore rfl (by decide) b1 zd_Model_readers_69 ?_
  exact k
theorem zb_Model_readers_70 {Γ : zG} {σ : zS} {x1 : Int32} {dc : Nat} {P : Int32 → zS → Prop}  (hm : z_Ci dc zm_Model_passes [.inr (63), .inl (nI 59)] σ P) (hdp : dc < z_dep Γ) (k : ∀ r σ1, P r σ1 → z_J Γ zm_Model_readers 79 [some (.inr (63)), some (.inl (x1 + nI 1)), none, none] [.inl (r)] σ1) : z_J Γ zm_Model_readers 70 [some (.inr (63)), some (.inl (x1)), none, none] [] σ := by
  refine zj_iinc (v := nI 1) (L' := [some (.inr (63)), some (.inl (x1 + nI 1)), none, none]) zd_Model_readers_70 rfl (by decide) (by decide) rfl ?_
  refine zj_aload_n zd_Model_readers_73 rfl ?_
  refine zj_bipush (v := nI 59) zd_Model_readers_74 (by decide) ?_
  exact zj_callVi (As := [.inl (nI 59)]) hm hdp rfl (by decide) rfl zl_Model_137 zq_Model_passes zd_Model_readers_76 rfl (Nat.le_of_ble_eq_true rfl) (fun r σ1 h => (k r σ1 h))
theorem zb_Model_readers_79 {Γ : zG} {σ : zS} {x1 y0 : Int32}  (k : z_J Γ zm_Model_readers 24 [some (.inr (63)), some (.inl (x1)), some (.inl (y0)), none] [] σ) : z_J Γ zm_Model_readers 79 [some (.inr (63)), some (.inl (x1)), none, none] [.inl (y0)] σ := by
  refine zj_istore_n (L' := [some (.inr (63)), some (.inl (x1)), some (.inl (y0)), none]) zd_Model_readers_79 (by decide) rfl ?_
  exact zj_goto zd_Model_readers_80 (by decide) k
theorem zb_Model_readers_83 {Γ : zG} {σ : zS} {x1 : Int32} {dc : Nat} {P : Int32 → zS → Prop}  (hm : z_Ci dc zm_Model_wasRight [.inr (63)] σ P) (hdp : dc < z_dep Γ) (k : ∀ r σ1, P r σ1 → z_J Γ zm_Model_readers 87 [some (.inr (63)), some (.inl (x1)), none, none] [.inl (r)] σ1) : z_J Γ zm_Model_readers 83 [some (.inr (63)), some (.inl (x1)), none, none] [] σ := by
  refine zj_aload_n zd_Model_readers_83 rfl ?_
  exact zj_callVi (As := []) hm hdp rfl (by decide) rfl zl_Model_152 zq_Model_wasRight zd_Model_readers_84 rfl (Nat.le_of_ble_eq_true rfl) (fun r σ1 h => (k r σ1 h))
theorem zb_Model_readers_87 {Γ : zG} {σ : zS} {x1 y0 : Int32}  (kt : ¬ y0 = 0 → z_J Γ zm_Model_readers 97 [some (.inr (63)), some (.inl (x1)), none, none] [] σ) (kf : y0 = 0 → z_J Γ zm_Model_readers 90 [some (.inr (63)), none, none, none] [] σ) : z_J Γ zm_Model_readers 87 [some (.inr (63)), some (.inl (x1)), none, none] [.inl (y0)] σ := by
  exact zj_if_ne zd_Model_readers_87 (by decide) (fun h => (kt h)) (fun h => (zj_weak (L' := [some (.inr (63)), none, none, none]) ⟨rfl, trivial⟩ (kf h)))
theorem zb_Model_readers_90 {Γ : zG} {σ : zS}  (e : z_end Γ (some ((-1) - (σ.1 63 16))) σ) : z_J Γ zm_Model_readers 90 [some (.inr (63)), none, none, none] [] σ := by
  refine zj_iconst (v := (-1)) zd_Model_readers_90 (by decide) ?_
  refine zj_aload_n zd_Model_readers_91 rfl ?_
  refine zj_getI rfl (by decide) rfl zu_Model (k := 16) (by decide) rfl zl_Model_122 zd_Model_readers_92 ?_
  refine zj_isub zd_Model_readers_95 ?_
  exact zj_ireturn rfl zd_Model_readers_96 e
theorem zb_Model_readers_97 {Γ : zG} {σ : zS} {x1 : Int32}  (k : z_J Γ zm_Model_readers 99 [some (.inr (63)), some (.inl (x1)), none, some (.inl (nI 0))] [] σ) : z_J Γ zm_Model_readers 97 [some (.inr (63)), some (.inl (x1)), none, none] [] σ := by
  refine zj_iconst (v := nI 0) zd_Model_readers_97 (by decide) ?_
  refine zj_istore_n (L' := [some (.inr (63)), some (.inl (x1)), none, some (.inl (nI 0))]) zd_Model_readers_98 (by decide) rfl ?_
  exact k
theorem zb_Model_readers_99 {Γ : zG} {σ : zS} {x1 x3 : Int32}  (kt : x1 ≤ x3 → z_J Γ zm_Model_readers 148 [some (.inr (63)), some (.inl (x1)), none, none] [] σ) (kf : ¬ x1 ≤ x3 → z_J Γ zm_Model_readers 104 [some (.inr (63)), some (.inl (x1)), none, some (.inl (x3))] [] σ) : z_J Γ zm_Model_readers 99 [some (.inr (63)), some (.inl (x1)), none, some (.inl (x3))] [] σ := by
  refine zj_iload_n zd_Model_readers_99 rfl ?_
  refine zj_iload_n zd_Model_readers_100 rfl ?_
  exact zj_icmp_ge zd_Model_readers_101 (by decide) (fun h => (zj_weak (L' := [some (.inr (63)), some (.inl (x1)), none, none]) ⟨rfl, ⟨rfl, trivial⟩⟩ (kt h))) (fun h => (kf h))
theorem zb_Model_readers_104 {Γ : zG} {σ : zS} {x1 x3 : Int32} {k1 k2 k3 : Nat}  (b1 : z_ix x3 24 k1) (b2 : z_ix (σ.1 63 5) 4 k2) (b3 : z_ix ((nI 49) + ((z_pI σ 67 k2 (σ.1 70 k1)).1 63 5)) 53 k3) (k : z_J Γ zm_Model_readers 99 [some (.inr (63)), some (.inl (x1)), none, some (.inl (x3 + nI 1))] [] (z_pI (z_pI (z_pI σ 67 k2 (σ.1 70 k1)) 64 k3 (nI 0)) 63 5 (((z_pI (z_pI σ 67 k2 (σ.1 70 k1)) 64 k3 (nI 0)).1 63 5) + (nI 1)))) : z_J Γ zm_Model_readers 104 [some (.inr (63)), some (.inl (x1)), none, some (.inl (x3))] [] σ := by
  refine zj_aload_n zd_Model_readers_104 rfl ?_
  refine zj_getR rfl (by decide) rfl zu_Model (k := 6) (by decide) rfl zl_Model_23 zd_Model_readers_105 (o' := 67) rfl ?_
  refine zj_aload_n zd_Model_readers_108 rfl ?_
  refine zj_getI rfl (by decide) rfl zu_Model (k := 5) (by decide) rfl zl_Model_104 zd_Model_readers_109 ?_
  refine zj_aload_n zd_Model_readers_112 rfl ?_
  refine zj_getR rfl (by decide) rfl zu_Model (k := 17) (by decide) rfl zl_Model_33 zd_Model_readers_113 (o' := 70) rfl ?_
  refine zj_iload_n zd_Model_readers_116 rfl ?_
  refine zj_iaload rfl (by decide) b1 zd_Model_readers_117 ?_
  refine zj_iastore rfl (by decide) b2 zd_Model_readers_118 ?_
  refine zj_aload_n zd_Model_readers_119 rfl ?_
  refine zj_getR rfl (by decide) rfl zu_Model (k := 0) (by decide) rfl zl_Model_9 zd_Model_readers_120 (o' := 64) rfl ?_
  refine zj_bipush (v := nI 49) zd_Model_readers_123 (by decide) ?_
  refine zj_aload_n zd_Model_readers_125 rfl ?_
  refine zj_getI rfl (by decide) rfl zu_Model (k := 5) (by decide) rfl zl_Model_104 zd_Model_readers_126 ?_
  refine zj_iadd zd_Model_readers_129 ?_
  refine zj_iconst (v := nI 0) zd_Model_readers_130 (by decide) ?_
  refine zj_iastore rfl (by decide) b3 zd_Model_readers_131 ?_
  refine zj_aload_n zd_Model_readers_132 rfl ?_
  refine zj_dup zd_Model_readers_133 ?_
  refine zj_getI rfl (by decide) rfl zu_Model (k := 5) (by decide) rfl zl_Model_104 zd_Model_readers_134 ?_
  refine zj_iconst (v := nI 1) zd_Model_readers_137 (by decide) ?_
  refine zj_iadd zd_Model_readers_138 ?_
  refine zj_putI rfl (by decide) rfl zu_Model zy_Model_ok zn_Model (k := 5) (by decide) rfl rfl zl_Model_104 rfl rfl zd_Model_readers_139 ?_
  refine zj_iinc (v := nI 1) (L' := [some (.inr (63)), some (.inl (x1)), none, some (.inl (x3 + nI 1))]) zd_Model_readers_142 rfl (by decide) (by decide) rfl ?_
  exact zj_goto zd_Model_readers_145 (by decide) k
theorem zb_Model_readers_148 {Γ : zG} {σ : zS} {x1 : Int32}  (e : z_end Γ (some (x1)) (z_pI (z_pI σ 63 27 (nI 0)) 63 44 (((z_pI σ 63 27 (nI 0)).1 63 44) + (nI 1)))) : z_J Γ zm_Model_readers 148 [some (.inr (63)), some (.inl (x1)), none, none] [] σ := by
  refine zj_aload_n zd_Model_readers_148 rfl ?_
  refine zj_iconst (v := nI 0) zd_Model_readers_149 (by decide) ?_
  refine zj_putI rfl (by decide) rfl zu_Model zy_Model_ok zn_Model (k := 27) (by decide) rfl rfl zl_Model_155 rfl rfl zd_Model_readers_150 ?_
  refine zj_aload_n zd_Model_readers_153 rfl ?_
  refine zj_dup zd_Model_readers_154 ?_
  refine zj_getI rfl (by decide) rfl zu_Model (k := 44) (by decide) rfl zl_Model_158 zd_Model_readers_155 ?_
  refine zj_iconst (v := nI 1) zd_Model_readers_158 (by decide) ?_
  refine zj_iadd zd_Model_readers_159 ?_
  refine zj_putI rfl (by decide) rfl zu_Model zy_Model_ok zn_Model (k := 44) (by decide) rfl rfl zl_Model_158 rfl rfl zd_Model_readers_160 ?_
  refine zj_iload_n zd_Model_readers_163 rfl ?_
  exact zj_ireturn rfl zd_Model_readers_164 e
theorem zd_Model_rule_0 : decode zm_Model_rule.2.1 0 = .ok (.aload_n 0, 1) := by decide +kernel
theorem zd_Model_rule_1 : decode zm_Model_rule.2.1 1 = .ok (.iconst 0, 1) := by decide +kernel
theorem zd_Model_rule_2 : decode zm_Model_rule.2.1 2 = .ok (.putfield 91, 3) := by decide +kernel
theorem zd_Model_rule_5 : decode zm_Model_rule.2.1 5 = .ok (.aload_n 0, 1) := by decide +kernel
theorem zd_Model_rule_6 : decode zm_Model_rule.2.1 6 = .ok (.getfield 107, 3) := by decide +kernel
theorem zd_Model_rule_9 : decode zm_Model_rule.2.1 9 = .ok (.istore_n 1, 1) := by decide +kernel
theorem zd_Model_rule_10 : decode zm_Model_rule.2.1 10 = .ok (.aload_n 0, 1) := by decide +kernel
theorem zd_Model_rule_11 : decode zm_Model_rule.2.1 11 = .ok (.invokevirtual 215, 3) := by decide +kernel
theorem zd_Model_rule_14 : decode zm_Model_rule.2.1 14 = .ok (.ifCond .ne 10, 3) := by decide +kernel
theorem zd_Model_rule_17 : decode zm_Model_rule.2.1 17 = .ok (.iconst (-1), 1) := by decide +kernel
theorem zd_Model_rule_18 : decode zm_Model_rule.2.1 18 = .ok (.aload_n 0, 1) := by decide +kernel
theorem zd_Model_rule_19 : decode zm_Model_rule.2.1 19 = .ok (.getfield 122, 3) := by decide +kernel
theorem zd_Model_rule_22 : decode zm_Model_rule.2.1 22 = .ok (.isub, 1) := by decide +kernel
theorem zd_Model_rule_23 : decode zm_Model_rule.2.1 23 = .ok (.ireturn, 1) := by decide +kernel
theorem zd_Model_rule_24 : decode zm_Model_rule.2.1 24 = .ok (.iconst 0, 1) := by decide +kernel
theorem zd_Model_rule_25 : decode zm_Model_rule.2.1 25 = .ok (.istore_n 2, 1) := by decide +kernel
theorem zd_Model_rule_26 : decode zm_Model_rule.2.1 26 = .ok (.iload_n 2, 1) := by decide +kernel
theorem zd_Model_rule_27 : decode zm_Model_rule.2.1 27 = .ok (.iload_n 1, 1) := by decide +kernel
theorem zd_Model_rule_28 : decode zm_Model_rule.2.1 28 = .ok (.if_icmp .ge 21, 3) := by decide +kernel
theorem zd_Model_rule_31 : decode zm_Model_rule.2.1 31 = .ok (.aload_n 0, 1) := by decide +kernel
theorem zd_Model_rule_32 : decode zm_Model_rule.2.1 32 = .ok (.getfield 42, 3) := by decide +kernel
theorem zd_Model_rule_35 : decode zm_Model_rule.2.1 35 = .ok (.iload_n 2, 1) := by decide +kernel
theorem zd_Model_rule_36 : decode zm_Model_rule.2.1 36 = .ok (.aload_n 0, 1) := by decide +kernel
theorem zd_Model_rule_37 : decode zm_Model_rule.2.1 37 = .ok (.getfield 26, 3) := by decide +kernel
theorem zd_Model_rule_40 : decode zm_Model_rule.2.1 40 = .ok (.iload_n 2, 1) := by decide +kernel
theorem zd_Model_rule_41 : decode zm_Model_rule.2.1 41 = .ok (.baload, 1) := by decide +kernel
theorem zd_Model_rule_42 : decode zm_Model_rule.2.1 42 = .ok (.bastore, 1) := by decide +kernel
theorem zd_Model_rule_43 : decode zm_Model_rule.2.1 43 = .ok (.iinc 2 1, 3) := by decide +kernel
theorem zd_Model_rule_46 : decode zm_Model_rule.2.1 46 = .ok (.goto (-20), 3) := by decide +kernel
theorem zd_Model_rule_49 : decode zm_Model_rule.2.1 49 = .ok (.aload_n 0, 1) := by decide +kernel
theorem zd_Model_rule_50 : decode zm_Model_rule.2.1 50 = .ok (.iload_n 1, 1) := by decide +kernel
theorem zd_Model_rule_51 : decode zm_Model_rule.2.1 51 = .ok (.putfield 218, 3) := by decide +kernel
theorem zd_Model_rule_54 : decode zm_Model_rule.2.1 54 = .ok (.iconst 0, 1) := by decide +kernel
theorem zd_Model_rule_55 : decode zm_Model_rule.2.1 55 = .ok (.ireturn, 1) := by decide +kernel
theorem zb_Model_rule_0 {Γ : zG} {σ : zS} {dc : Nat} {P : Int32 → zS → Prop}  (hm : z_Ci dc zm_Model_readRule [.inr (63)] (z_pI σ 63 11 (nI 0)) P) (hdp : dc < z_dep Γ) (k : ∀ r σ1, P r σ1 → z_J Γ zm_Model_rule 14 [some (.inr (63)), some (.inl ((z_pI σ 63 11 (nI 0)).1 63 8)), none] [.inl (r)] σ1) : z_J Γ zm_Model_rule 0 [some (.inr (63)), none, none] [] σ := by
  refine zj_aload_n zd_Model_rule_0 rfl ?_
  refine zj_iconst (v := nI 0) zd_Model_rule_1 (by decide) ?_
  refine zj_putI rfl (by decide) rfl zu_Model zy_Model_ok zn_Model (k := 11) (by decide) rfl rfl zl_Model_91 rfl rfl zd_Model_rule_2 ?_
  refine zj_aload_n zd_Model_rule_5 rfl ?_
  refine zj_getI rfl (by decide) rfl zu_Model (k := 8) (by decide) rfl zl_Model_107 zd_Model_rule_6 ?_
  refine zj_istore_n (L' := [some (.inr (63)), some (.inl ((z_pI σ 63 11 (nI 0)).1 63 8)), none]) zd_Model_rule_9 (by decide) rfl ?_
  refine zj_aload_n zd_Model_rule_10 rfl ?_
  exact zj_callVi (As := []) hm hdp rfl (by decide) rfl zl_Model_215 zq_Model_readRule zd_Model_rule_11 rfl (Nat.le_of_ble_eq_true rfl) (fun r σ1 h => (k r σ1 h))
theorem zb_Model_rule_14 {Γ : zG} {σ : zS} {x1 y0 : Int32}  (kt : ¬ y0 = 0 → z_J Γ zm_Model_rule 24 [some (.inr (63)), some (.inl (x1)), none] [] σ) (kf : y0 = 0 → z_J Γ zm_Model_rule 17 [some (.inr (63)), none, none] [] σ) : z_J Γ zm_Model_rule 14 [some (.inr (63)), some (.inl (x1)), none] [.inl (y0)] σ := by
  exact zj_if_ne zd_Model_rule_14 (by decide) (fun h => (kt h)) (fun h => (zj_weak (L' := [some (.inr (63)), none, none]) ⟨rfl, trivial⟩ (kf h)))
theorem zb_Model_rule_17 {Γ : zG} {σ : zS}  (e : z_end Γ (some ((-1) - (σ.1 63 16))) σ) : z_J Γ zm_Model_rule 17 [some (.inr (63)), none, none] [] σ := by
  refine zj_iconst (v := (-1)) zd_Model_rule_17 (by decide) ?_
  refine zj_aload_n zd_Model_rule_18 rfl ?_
  refine zj_getI rfl (by decide) rfl zu_Model (k := 16) (by decide) rfl zl_Model_122 zd_Model_rule_19 ?_
  refine zj_isub zd_Model_rule_22 ?_
  exact zj_ireturn rfl zd_Model_rule_23 e
theorem zb_Model_rule_24 {Γ : zG} {σ : zS} {x1 : Int32}  (k : z_J Γ zm_Model_rule 26 [some (.inr (63)), some (.inl (x1)), some (.inl (nI 0))] [] σ) : z_J Γ zm_Model_rule 24 [some (.inr (63)), some (.inl (x1)), none] [] σ := by
  refine zj_iconst (v := nI 0) zd_Model_rule_24 (by decide) ?_
  refine zj_istore_n (L' := [some (.inr (63)), some (.inl (x1)), some (.inl (nI 0))]) zd_Model_rule_25 (by decide) rfl ?_
  exact k
theorem zb_Model_rule_26 {Γ : zG} {σ : zS} {x1 x2 : Int32}  (kt : x1 ≤ x2 → z_J Γ zm_Model_rule 49 [some (.inr (63)), some (.inl (x1)), none] [] σ) (kf : ¬ x1 ≤ x2 → z_J Γ zm_Model_rule 31 [some (.inr (63)), some (.inl (x1)), some (.inl (x2))] [] σ) : z_J Γ zm_Model_rule 26 [some (.inr (63)), some (.inl (x1)), some (.inl (x2))] [] σ := by
  refine zj_iload_n zd_Model_rule_26 rfl ?_
  refine zj_iload_n zd_Model_rule_27 rfl ?_
  exact zj_icmp_ge zd_Model_rule_28 (by decide) (fun h => (zj_weak (L' := [some (.inr (63)), some (.inl (x1)), none]) ⟨rfl, ⟨rfl, trivial⟩⟩ (kt h))) (fun h => (kf h))
theorem zb_Model_rule_31 {Γ : zG} {σ : zS} {x1 x2 : Int32} {nm1 k1 k2 : Nat} (hs_nm1 : nm1 < 2 ^ 31) (m1 : z_kd (σ.2 63 20) = (9, nm1)) (b1 : z_ix x2 80 k1) (b2 : z_ix x2 nm1 k2) (k : z_J Γ zm_Model_rule 26 [some (.inr (63)), some (.inl (x1)), some (.inl (x2 + nI 1))] [] (z_pI σ (σ.2 63 20) k2 (vp_nar .byte (σ.1 68 k1)))) : z_J Γ zm_Model_rule 31 [some (.inr (63)), some (.inl (x1)), some (.inl (x2))] [] σ := by
  refine zj_aload_n zd_Model_rule_31 rfl ?_
  refine zj_getM rfl (by decide) rfl zu_Model (k := 20) (by decide) rfl zl_Model_42 zd_Model_rule_32 (z_lt m1 (by decide)) ?_
  refine zj_iload_n zd_Model_rule_35 rfl ?_
  refine zj_aload_n zd_Model_rule_36 rfl ?_
  refine zj_getR rfl (by decide) rfl zu_Model (k := 7) (by decide) rfl zl_Model_26 zd_Model_rule_37 (o' := 68) rfl ?_
  refine zj_iload_n zd_Model_rule_40 rfl ?_
  refine zj_baload rfl (by decide) b1 zd_Model_rule_41 ?_
  refine zj_bastore m1 hs_nm1 b2 zd_Model_rule_42 ?_
  refine zj_iinc (v := nI 1) (L' := [some (.inr (63)), some (.inl (x1)), some (.inl (x2 + nI 1))]) zd_Model_rule_43 rfl (by decide) (by decide) rfl ?_
  exact zj_goto zd_Model_rule_46 (by decide) k
theorem zb_Model_rule_49 {Γ : zG} {σ : zS} {x1 : Int32}  (e : z_end Γ (some (nI 0)) (z_pI σ 63 22 x1)) : z_J Γ zm_Model_rule 49 [some (.inr (63)), some (.inl (x1)), none] [] σ := by
  refine zj_aload_n zd_Model_rule_49 rfl ?_
  refine zj_iload_n zd_Model_rule_50 rfl ?_
  refine zj_putI rfl (by decide) rfl zu_Model zy_Model_ok zn_Model (k := 22) (by decide) rfl rfl zl_Model_218 rfl rfl zd_Model_rule_51 ?_
  refine zj_iconst (v := nI 0) zd_Model_rule_54 (by decide) ?_
  exact zj_ireturn rfl zd_Model_rule_55 e
theorem zd_Model_readRule_0 : decode zm_Model_readRule.2.1 0 = .ok (.aload_n 0, 1) := by decide +kernel
theorem zd_Model_readRule_1 : decode zm_Model_readRule.2.1 1 = .ok (.bipush 40, 2) := by decide +kernel
theorem zd_Model_readRule_3 : decode zm_Model_readRule.2.1 3 = .ok (.invokevirtual 149, 3) := by decide +kernel
theorem zd_Model_readRule_6 : decode zm_Model_readRule.2.1 6 = .ok (.aload_n 0, 1) := by decide +kernel
theorem zd_Model_readRule_7 : decode zm_Model_readRule.2.1 7 = .ok (.iconst 0, 1) := by decide +kernel
theorem zd_Model_readRule_8 : decode zm_Model_readRule.2.1 8 = .ok (.putfield 211, 3) := by decide +kernel
theorem zd_Model_readRule_11 : decode zm_Model_readRule.2.1 11 = .ok (.aload_n 0, 1) := by decide +kernel
theorem zd_Model_readRule_12 : decode zm_Model_readRule.2.1 12 = .ok (.getfield 113, 3) := by decide +kernel
theorem zd_Model_readRule_15 : decode zm_Model_readRule.2.1 15 = .ok (.ifCond .le 9, 3) := by decide +kernel
theorem zd_Model_readRule_18 : decode zm_Model_readRule.2.1 18 = .ok (.aload_n 0, 1) := by decide +kernel
theorem zd_Model_readRule_19 : decode zm_Model_readRule.2.1 19 = .ok (.iconst 0, 1) := by decide +kernel
theorem zd_Model_readRule_20 : decode zm_Model_readRule.2.1 20 = .ok (.invokevirtual 198, 3) := by decide +kernel
theorem zd_Model_readRule_23 : decode zm_Model_readRule.2.1 23 = .ok (.pop, 1) := by decide +kernel
theorem zd_Model_readRule_24 : decode zm_Model_readRule.2.1 24 = .ok (.aload_n 0, 1) := by decide +kernel
theorem zd_Model_readRule_25 : decode zm_Model_readRule.2.1 25 = .ok (.invokevirtual 152, 3) := by decide +kernel
theorem zd_Model_readRule_28 : decode zm_Model_readRule.2.1 28 = .ok (.ireturn, 1) := by decide +kernel
theorem zb_Model_readRule_0 {Γ : zG} {σ : zS} {dc : Nat} {P : zS → Prop}  (hm : z_Cv dc zm_Model_beginText [.inr (63), .inl (nI 40)] σ P) (hdp : dc < z_dep Γ) (k : ∀ σ1, P σ1 → z_J Γ zm_Model_readRule 6 [some (.inr (63))] [] σ1) : z_J Γ zm_Model_readRule 0 [some (.inr (63))] [] σ := by
  refine zj_aload_n zd_Model_readRule_0 rfl ?_
  refine zj_bipush (v := nI 40) zd_Model_readRule_1 (by decide) ?_
  exact zj_callVv (As := [.inl (nI 40)]) hm hdp rfl (by decide) rfl zl_Model_149 zq_Model_beginText zd_Model_readRule_3 rfl (Nat.le_of_ble_eq_true rfl) (fun σ1 h => (k σ1 h))
theorem zb_Model_readRule_6 {Γ : zG} {σ : zS}  (kt : ((z_pI σ 63 23 (nI 0)).1 63 13) ≤ 0 → z_J Γ zm_Model_readRule 24 [some (.inr (63))] [] (z_pI σ 63 23 (nI 0))) (kf : ¬ ((z_pI σ 63 23 (nI 0)).1 63 13) ≤ 0 → z_J Γ zm_Model_readRule 18 [some (.inr (63))] [] (z_pI σ 63 23 (nI 0))) : z_J Γ zm_Model_readRule 6 [some (.inr (63))] [] σ := by
  refine zj_aload_n zd_Model_readRule_6 rfl ?_
  refine zj_iconst (v := nI 0) zd_Model_readRule_7 (by decide) ?_
  refine zj_putI rfl (by decide) rfl zu_Model zy_Model_ok zn_Model (k := 23) (by decide) rfl rfl zl_Model_211 (z_nb (Or.inl (by decide))) (z_fb (Or.inl (by decide))) zd_Model_readRule_8 ?_
  refine zj_aload_n zd_Model_readRule_11 rfl ?_
  refine zj_getI rfl (by decide) rfl zu_Model (k := 13) (by decide) rfl zl_Model_113 zd_Model_readRule_12 ?_
  exact zj_if_le zd_Model_readRule_15 (by decide) (fun h => (kt h)) (fun h => (kf h))
theorem zb_Model_readRule_18 {Γ : zG} {σ : zS} {dc : Nat} {P : Int32 → zS → Prop}  (hm : z_Ci dc zm_Model_held [.inr (63), .inl (nI 0)] σ P) (hdp : dc < z_dep Γ) (k : ∀ r σ1, P r σ1 → z_J Γ zm_Model_readRule 23 [some (.inr (63))] [.inl (r)] σ1) : z_J Γ zm_Model_readRule 18 [some (.inr (63))] [] σ := by
  refine zj_aload_n zd_Model_readRule_18 rfl ?_
  refine zj_iconst (v := nI 0) zd_Model_readRule_19 (by decide) ?_
  exact zj_callVi (As := [.inl (nI 0)]) hm hdp rfl (by decide) rfl zl_Model_198 zq_Model_held zd_Model_readRule_20 rfl (Nat.le_of_ble_eq_true rfl) (fun r σ1 h => (k r σ1 h))
theorem zb_Model_readRule_23 {Γ : zG} {σ : zS} {y0 : Int32}  (k : z_J Γ zm_Model_readRule 24 [some (.inr (63))] [] σ) : z_J Γ zm_Model_readRule 23 [some (.inr (63))] [.inl (y0)] σ := by
  refine zj_pop zd_Model_readRule_23 ?_
  exact k
theorem zb_Model_readRule_24 {Γ : zG} {σ : zS} {dc : Nat} {P : Int32 → zS → Prop}  (hm : z_Ci dc zm_Model_wasRight [.inr (63)] σ P) (hdp : dc < z_dep Γ) (k : ∀ r σ1, P r σ1 → z_J Γ zm_Model_readRule 28 [none] [.inl (r)] σ1) : z_J Γ zm_Model_readRule 24 [some (.inr (63))] [] σ := by
  refine zj_aload_n zd_Model_readRule_24 rfl ?_
  exact zj_callVi (As := []) hm hdp rfl (by decide) rfl zl_Model_152 zq_Model_wasRight zd_Model_readRule_25 rfl (Nat.le_of_ble_eq_true rfl) (fun r σ1 h => (zj_weak (L' := [none]) trivial (k r σ1 h)))
theorem zb_Model_readRule_28 {Γ : zG} {σ : zS} {y0 : Int32}  (e : z_end Γ (some (y0)) σ) (z1 : y0 = 0 ∨ y0 = 1) : z_J Γ zm_Model_readRule 28 [none] [.inl (y0)] σ := by
  exact zj_zreturn rfl z1 zd_Model_readRule_28 e
theorem zd_Model_book_0 : decode zm_Model_book.2.1 0 = .ok (.aload_n 0, 1) := by decide +kernel
theorem zd_Model_book_1 : decode zm_Model_book.2.1 1 = .ok (.iconst 0, 1) := by decide +kernel
theorem zd_Model_book_2 : decode zm_Model_book.2.1 2 = .ok (.putfield 91, 3) := by decide +kernel
theorem zd_Model_book_5 : decode zm_Model_book.2.1 5 = .ok (.aload_n 0, 1) := by decide +kernel
theorem zd_Model_book_6 : decode zm_Model_book.2.1 6 = .ok (.iload_n 1, 1) := by decide +kernel
theorem zd_Model_book_7 : decode zm_Model_book.2.1 7 = .ok (.invokevirtual 184, 3) := by decide +kernel
theorem zd_Model_book_10 : decode zm_Model_book.2.1 10 = .ok (.ifCond .eq 13, 3) := by decide +kernel
theorem zd_Model_book_13 : decode zm_Model_book.2.1 13 = .ok (.iload_n 2, 1) := by decide +kernel
theorem zd_Model_book_14 : decode zm_Model_book.2.1 14 = .ok (.iconst 0, 1) := by decide +kernel
theorem zd_Model_book_15 : decode zm_Model_book.2.1 15 = .ok (.bipush 6, 2) := by decide +kernel
theorem zd_Model_book_17 : decode zm_Model_book.2.1 17 = .ok (.invokestatic 100, 3) := by decide +kernel
theorem zd_Model_book_20 : decode zm_Model_book.2.1 20 = .ok (.ifCond .ne 8, 3) := by decide +kernel
theorem zd_Model_book_23 : decode zm_Model_book.2.1 23 = .ok (.aload_n 0, 1) := by decide +kernel
theorem zd_Model_book_24 : decode zm_Model_book.2.1 24 = .ok (.invokevirtual 258, 3) := by decide +kernel
theorem zd_Model_book_27 : decode zm_Model_book.2.1 27 = .ok (.ireturn, 1) := by decide +kernel
theorem zd_Model_book_28 : decode zm_Model_book.2.1 28 = .ok (.aload_n 0, 1) := by decide +kernel
theorem zd_Model_book_29 : decode zm_Model_book.2.1 29 = .ok (.getfield 9, 3) := by decide +kernel
theorem zd_Model_book_32 : decode zm_Model_book.2.1 32 = .ok (.iload_n 1, 1) := by decide +kernel
theorem zd_Model_book_33 : decode zm_Model_book.2.1 33 = .ok (.iaload, 1) := by decide +kernel
theorem zd_Model_book_34 : decode zm_Model_book.2.1 34 = .ok (.iconst 1, 1) := by decide +kernel
theorem zd_Model_book_35 : decode zm_Model_book.2.1 35 = .ok (.if_icmp .ne 7, 3) := by decide +kernel
theorem zd_Model_book_38 : decode zm_Model_book.2.1 38 = .ok (.iconst 1, 1) := by decide +kernel
theorem zd_Model_book_39 : decode zm_Model_book.2.1 39 = .ok (.goto 4, 3) := by decide +kernel
theorem zd_Model_book_42 : decode zm_Model_book.2.1 42 = .ok (.iconst 0, 1) := by decide +kernel
theorem zd_Model_book_43 : decode zm_Model_book.2.1 43 = .ok (.istore_n 3, 1) := by decide +kernel
theorem zd_Model_book_44 : decode zm_Model_book.2.1 44 = .ok (.iload_n 2, 1) := by decide +kernel
theorem zd_Model_book_45 : decode zm_Model_book.2.1 45 = .ok (.tableswitch 130 0 5 #[39, 46, 53, 60, 88, 106], 39) := by decide +kernel
theorem zd_Model_book_84 : decode zm_Model_book.2.1 84 = .ok (.aload_n 0, 1) := by decide +kernel
theorem zd_Model_book_85 : decode zm_Model_book.2.1 85 = .ok (.getfield 13, 3) := by decide +kernel
theorem zd_Model_book_88 : decode zm_Model_book.2.1 88 = .ok (.iload_n 1, 1) := by decide +kernel
theorem zd_Model_book_89 : decode zm_Model_book.2.1 89 = .ok (.iaload, 1) := by decide +kernel
theorem zd_Model_book_90 : decode zm_Model_book.2.1 90 = .ok (.ireturn, 1) := by decide +kernel
theorem zd_Model_book_91 : decode zm_Model_book.2.1 91 = .ok (.aload_n 0, 1) := by decide +kernel
theorem zd_Model_book_92 : decode zm_Model_book.2.1 92 = .ok (.getfield 16, 3) := by decide +kernel
theorem zd_Model_book_95 : decode zm_Model_book.2.1 95 = .ok (.iload_n 1, 1) := by decide +kernel
theorem zd_Model_book_96 : decode zm_Model_book.2.1 96 = .ok (.iaload, 1) := by decide +kernel
theorem zd_Model_book_97 : decode zm_Model_book.2.1 97 = .ok (.ireturn, 1) := by decide +kernel
theorem zd_Model_book_98 : decode zm_Model_book.2.1 98 = .ok (.aload_n 0, 1) := by decide +kernel
theorem zd_Model_book_99 : decode zm_Model_book.2.1 99 = .ok (.getfield 9, 3) := by decide +kernel
theorem zd_Model_book_102 : decode zm_Model_book.2.1 102 = .ok (.iload_n 1, 1) := by decide +kernel
theorem zd_Model_book_103 : decode zm_Model_book.2.1 103 = .ok (.iaload, 1) := by decide +kernel
theorem zd_Model_book_104 : decode zm_Model_book.2.1 104 = .ok (.ireturn, 1) := by decide +kernel
theorem zd_Model_book_105 : decode zm_Model_book.2.1 105 = .ok (.iload_n 3, 1) := by decide +kernel
theorem zd_Model_book_106 : decode zm_Model_book.2.1 106 = .ok (.ifCond .ne 13, 3) := by decide +kernel
theorem zd_Model_book_109 : decode zm_Model_book.2.1 109 = .ok (.aload_n 0, 1) := by decide +kernel
theorem zd_Model_book_110 : decode zm_Model_book.2.1 110 = .ok (.getfield 9, 3) := by decide +kernel
theorem zd_Model_book_113 : decode zm_Model_book.2.1 113 = .ok (.iload_n 1, 1) := by decide +kernel
theorem zd_Model_book_114 : decode zm_Model_book.2.1 114 = .ok (.iaload, 1) := by decide +kernel
theorem zd_Model_book_115 : decode zm_Model_book.2.1 115 = .ok (.iconst 2, 1) := by decide +kernel
theorem zd_Model_book_116 : decode zm_Model_book.2.1 116 = .ok (.if_icmp .ne 15, 3) := by decide +kernel
theorem zd_Model_book_119 : decode zm_Model_book.2.1 119 = .ok (.aload_n 0, 1) := by decide +kernel
theorem zd_Model_book_120 : decode zm_Model_book.2.1 120 = .ok (.getfield 9, 3) := by decide +kernel
theorem zd_Model_book_123 : decode zm_Model_book.2.1 123 = .ok (.bipush 12, 2) := by decide +kernel
theorem zd_Model_book_125 : decode zm_Model_book.2.1 125 = .ok (.iload_n 1, 1) := by decide +kernel
theorem zd_Model_book_126 : decode zm_Model_book.2.1 126 = .ok (.iadd, 1) := by decide +kernel
theorem zd_Model_book_127 : decode zm_Model_book.2.1 127 = .ok (.iaload, 1) := by decide +kernel
theorem zd_Model_book_128 : decode zm_Model_book.2.1 128 = .ok (.goto 4, 3) := by decide +kernel
theorem zd_Model_book_131 : decode zm_Model_book.2.1 131 = .ok (.iconst (-1), 1) := by decide +kernel
theorem zd_Model_book_132 : decode zm_Model_book.2.1 132 = .ok (.ireturn, 1) := by decide +kernel
theorem zd_Model_book_133 : decode zm_Model_book.2.1 133 = .ok (.iload_n 3, 1) := by decide +kernel
theorem zd_Model_book_134 : decode zm_Model_book.2.1 134 = .ok (.ifCond .eq 15, 3) := by decide +kernel
theorem zd_Model_book_137 : decode zm_Model_book.2.1 137 = .ok (.aload_n 0, 1) := by decide +kernel
theorem zd_Model_book_138 : decode zm_Model_book.2.1 138 = .ok (.getfield 9, 3) := by decide +kernel
theorem zd_Model_book_141 : decode zm_Model_book.2.1 141 = .ok (.bipush 24, 2) := by decide +kernel
theorem zd_Model_book_143 : decode zm_Model_book.2.1 143 = .ok (.iload_n 1, 1) := by decide +kernel
theorem zd_Model_book_144 : decode zm_Model_book.2.1 144 = .ok (.iadd, 1) := by decide +kernel
theorem zd_Model_book_145 : decode zm_Model_book.2.1 145 = .ok (.iaload, 1) := by decide +kernel
theorem zd_Model_book_146 : decode zm_Model_book.2.1 146 = .ok (.goto 4, 3) := by decide +kernel
theorem zd_Model_book_149 : decode zm_Model_book.2.1 149 = .ok (.iconst (-1), 1) := by decide +kernel
theorem zd_Model_book_150 : decode zm_Model_book.2.1 150 = .ok (.ireturn, 1) := by decide +kernel
theorem zd_Model_book_151 : decode zm_Model_book.2.1 151 = .ok (.aload_n 0, 1) := by decide +kernel
theorem zd_Model_book_152 : decode zm_Model_book.2.1 152 = .ok (.getfield 9, 3) := by decide +kernel
theorem zd_Model_book_155 : decode zm_Model_book.2.1 155 = .ok (.iload_n 1, 1) := by decide +kernel
theorem zd_Model_book_156 : decode zm_Model_book.2.1 156 = .ok (.iaload, 1) := by decide +kernel
theorem zd_Model_book_157 : decode zm_Model_book.2.1 157 = .ok (.iconst 2, 1) := by decide +kernel
theorem zd_Model_book_158 : decode zm_Model_book.2.1 158 = .ok (.if_icmp .ne 15, 3) := by decide +kernel
theorem zd_Model_book_161 : decode zm_Model_book.2.1 161 = .ok (.aload_n 0, 1) := by decide +kernel
theorem zd_Model_book_162 : decode zm_Model_book.2.1 162 = .ok (.getfield 9, 3) := by decide +kernel
theorem zd_Model_book_165 : decode zm_Model_book.2.1 165 = .ok (.bipush 36, 2) := by decide +kernel
theorem zd_Model_book_167 : decode zm_Model_book.2.1 167 = .ok (.iload_n 1, 1) := by decide +kernel
theorem zd_Model_book_168 : decode zm_Model_book.2.1 168 = .ok (.iadd, 1) := by decide +kernel
theorem zd_Model_book_169 : decode zm_Model_book.2.1 169 = .ok (.iaload, 1) := by decide +kernel
theorem zd_Model_book_170 : decode zm_Model_book.2.1 170 = .ok (.goto 4, 3) := by decide +kernel
theorem zd_Model_book_173 : decode zm_Model_book.2.1 173 = .ok (.iconst (-1), 1) := by decide +kernel
theorem zd_Model_book_174 : decode zm_Model_book.2.1 174 = .ok (.ireturn, 1) := by decide +kernel
theorem zd_Model_book_175 : decode zm_Model_book.2.1 175 = .ok (.iload_n 3, 1) := by decide +kernel
theorem zd_Model_book_176 : decode zm_Model_book.2.1 176 = .ok (.ifCond .eq 56, 3) := by decide +kernel
theorem zd_Model_book_179 : decode zm_Model_book.2.1 179 = .ok (.aload_n 0, 1) := by decide +kernel
theorem zd_Model_book_180 : decode zm_Model_book.2.1 180 = .ok (.iload_n 1, 1) := by decide +kernel
theorem zd_Model_book_181 : decode zm_Model_book.2.1 181 = .ok (.aload_n 0, 1) := by decide +kernel
theorem zd_Model_book_182 : decode zm_Model_book.2.1 182 = .ok (.getfield 9, 3) := by decide +kernel
theorem zd_Model_book_185 : decode zm_Model_book.2.1 185 = .ok (.bipush 12, 2) := by decide +kernel
theorem zd_Model_book_187 : decode zm_Model_book.2.1 187 = .ok (.iload_n 1, 1) := by decide +kernel
theorem zd_Model_book_188 : decode zm_Model_book.2.1 188 = .ok (.iadd, 1) := by decide +kernel
theorem zd_Model_book_189 : decode zm_Model_book.2.1 189 = .ok (.iaload, 1) := by decide +kernel
theorem zd_Model_book_190 : decode zm_Model_book.2.1 190 = .ok (.aload_n 0, 1) := by decide +kernel
theorem zd_Model_book_191 : decode zm_Model_book.2.1 191 = .ok (.getfield 9, 3) := by decide +kernel
theorem zd_Model_book_194 : decode zm_Model_book.2.1 194 = .ok (.bipush 24, 2) := by decide +kernel
theorem zd_Model_book_196 : decode zm_Model_book.2.1 196 = .ok (.iload_n 1, 1) := by decide +kernel
theorem zd_Model_book_197 : decode zm_Model_book.2.1 197 = .ok (.iadd, 1) := by decide +kernel
theorem zd_Model_book_198 : decode zm_Model_book.2.1 198 = .ok (.iaload, 1) := by decide +kernel
theorem zd_Model_book_199 : decode zm_Model_book.2.1 199 = .ok (.aload_n 0, 1) := by decide +kernel
theorem zd_Model_book_200 : decode zm_Model_book.2.1 200 = .ok (.aload_n 0, 1) := by decide +kernel
theorem zd_Model_book_201 : decode zm_Model_book.2.1 201 = .ok (.getfield 9, 3) := by decide +kernel
theorem zd_Model_book_204 : decode zm_Model_book.2.1 204 = .ok (.aload_n 0, 1) := by decide +kernel
theorem zd_Model_book_205 : decode zm_Model_book.2.1 205 = .ok (.getfield 9, 3) := by decide +kernel
theorem zd_Model_book_208 : decode zm_Model_book.2.1 208 = .ok (.bipush 12, 2) := by decide +kernel
theorem zd_Model_book_210 : decode zm_Model_book.2.1 210 = .ok (.iload_n 1, 1) := by decide +kernel
theorem zd_Model_book_211 : decode zm_Model_book.2.1 211 = .ok (.iadd, 1) := by decide +kernel
theorem zd_Model_book_212 : decode zm_Model_book.2.1 212 = .ok (.iaload, 1) := by decide +kernel
theorem zd_Model_book_213 : decode zm_Model_book.2.1 213 = .ok (.invokevirtual 247, 3) := by decide +kernel
theorem zd_Model_book_216 : decode zm_Model_book.2.1 216 = .ok (.invokestatic 261, 3) := by decide +kernel
theorem zd_Model_book_219 : decode zm_Model_book.2.1 219 = .ok (.aload_n 0, 1) := by decide +kernel
theorem zd_Model_book_220 : decode zm_Model_book.2.1 220 = .ok (.getfield 9, 3) := by decide +kernel
theorem zd_Model_book_223 : decode zm_Model_book.2.1 223 = .ok (.bipush 48, 2) := by decide +kernel
theorem zd_Model_book_225 : decode zm_Model_book.2.1 225 = .ok (.iaload, 1) := by decide +kernel
theorem zd_Model_book_226 : decode zm_Model_book.2.1 226 = .ok (.invokevirtual 232, 3) := by decide +kernel
theorem zd_Model_book_229 : decode zm_Model_book.2.1 229 = .ok (.goto 4, 3) := by decide +kernel
theorem zd_Model_book_232 : decode zm_Model_book.2.1 232 = .ok (.iconst (-1), 1) := by decide +kernel
theorem zd_Model_book_233 : decode zm_Model_book.2.1 233 = .ok (.ireturn, 1) := by decide +kernel
theorem zb_Model_book_0 {Γ : zG} {σ : zS} {x1 x2 : Int32} {dc : Nat} {P : Int32 → zS → Prop}  (hm : z_Ci dc zm_Model_isBook [.inr (63), .inl (x1)] (z_pI σ 63 11 (nI 0)) P) (hdp : dc < z_dep Γ) (k : ∀ r σ1, P r σ1 → z_J Γ zm_Model_book 10 [some (.inr (63)), some (.inl (x1)), some (.inl (x2)), none] [.inl (r)] σ1) : z_J Γ zm_Model_book 0 [some (.inr (63)), some (.inl (x1)), some (.inl (x2)), none] [] σ := by
  refine zj_aload_n zd_Model_book_0 rfl ?_
  refine zj_iconst (v := nI 0) zd_Model_book_1 (by decide) ?_
  refine zj_putI rfl (by decide) rfl zu_Model zy_Model_ok zn_Model (k := 11) (by decide) rfl rfl zl_Model_91 rfl rfl zd_Model_book_2 ?_
  refine zj_aload_n zd_Model_book_5 rfl ?_
  refine zj_iload_n zd_Model_book_6 rfl ?_
  exact zj_callVi (As := [.inl (x1)]) hm hdp rfl (by decide) rfl zl_Model_184 zq_Model_isBook zd_Model_book_7 rfl (Nat.le_of_ble_eq_true rfl) (fun r σ1 h => (k r σ1 h))
theorem zb_Model_book_10 {Γ : zG} {σ : zS} {x1 x2 y0 : Int32}  (kt : y0 = 0 → z_J Γ zm_Model_book 23 [some (.inr (63)), none, none, none] [] σ) (kf : ¬ y0 = 0 → z_J Γ zm_Model_book 13 [some (.inr (63)), some (.inl (x1)), some (.inl (x2)), none] [] σ) : z_J Γ zm_Model_book 10 [some (.inr (63)), some (.inl (x1)), some (.inl (x2)), none] [.inl (y0)] σ := by
  exact zj_if_eq zd_Model_book_10 (by decide) (fun h => (zj_weak (L' := [some (.inr (63)), none, none, none]) ⟨rfl, trivial⟩ (kt h))) (fun h => (kf h))
theorem zb_Model_book_13 {Γ : zG} {σ : zS} {x1 x2 : Int32} {dc : Nat} {P : Int32 → zS → Prop}  (hm : z_Ci dc zm_Model_in [.inl (x2), .inl (nI 0), .inl (nI 6)] σ P) (hdp : dc < z_dep Γ) (k : ∀ r σ1, P r σ1 → z_J Γ zm_Model_book 20 [some (.inr (63)), some (.inl (x1)), some (.inl (x2)), none] [.inl (r)] σ1) : z_J Γ zm_Model_book 13 [some (.inr (63)), some (.inl (x1)), some (.inl (x2)), none] [] σ := by
  refine zj_iload_n zd_Model_book_13 rfl ?_
  refine zj_iconst (v := nI 0) zd_Model_book_14 (by decide) ?_
  refine zj_bipush (v := nI 6) zd_Model_book_15 (by decide) ?_
  exact zj_callSi (As := [.inl (x2), .inl (nI 0), .inl (nI 6)]) hm hdp zl_Model_100 zq_Model_in zd_Model_book_17 rfl (Nat.le_of_ble_eq_true rfl) (fun r σ1 h => (k r σ1 h))
theorem zb_Model_book_20 {Γ : zG} {σ : zS} {x1 x2 y0 : Int32}  (kt : ¬ y0 = 0 → z_J Γ zm_Model_book 28 [some (.inr (63)), some (.inl (x1)), some (.inl (x2)), none] [] σ) (kf : y0 = 0 → z_J Γ zm_Model_book 23 [some (.inr (63)), none, none, none] [] σ) : z_J Γ zm_Model_book 20 [some (.inr (63)), some (.inl (x1)), some (.inl (x2)), none] [.inl (y0)] σ := by
  exact zj_if_ne zd_Model_book_20 (by decide) (fun h => (kt h)) (fun h => (zj_weak (L' := [some (.inr (63)), none, none, none]) ⟨rfl, trivial⟩ (kf h)))
theorem zb_Model_book_23 {Γ : zG} {σ : zS} {dc : Nat} {P : Int32 → zS → Prop}  (hm : z_Ci dc zm_Model_lost [.inr (63)] σ P) (hdp : dc < z_dep Γ) (k : ∀ r σ1, P r σ1 → z_J Γ zm_Model_book 27 [none, none, none, none] [.inl (r)] σ1) : z_J Γ zm_Model_book 23 [some (.inr (63)), none, none, none] [] σ := by
  refine zj_aload_n zd_Model_book_23 rfl ?_
  exact zj_callVi (As := []) hm hdp rfl (by decide) rfl zl_Model_258 zq_Model_lost zd_Model_book_24 rfl (Nat.le_of_ble_eq_true rfl) (fun r σ1 h => (zj_weak (L' := [none, none, none, none]) trivial (k r σ1 h)))
theorem zb_Model_book_27 {Γ : zG} {σ : zS} {y0 : Int32}  (e : z_end Γ (some (y0)) σ) : z_J Γ zm_Model_book 27 [none, none, none, none] [.inl (y0)] σ := by
  exact zj_ireturn rfl zd_Model_book_27 e
theorem zb_Model_book_28 {Γ : zG} {σ : zS} {x1 x2 : Int32} {k1 : Nat}  (b1 : z_ix x1 53 k1) (kt : ¬ (σ.1 64 k1) = (nI 1) → z_J Γ zm_Model_book 42 [some (.inr (63)), some (.inl (x1)), some (.inl (x2)), none] [] σ) (kf : (σ.1 64 k1) = (nI 1) → z_J Γ zm_Model_book 38 [some (.inr (63)), some (.inl (x1)), some (.inl (x2)), none] [] σ) : z_J Γ zm_Model_book 28 [some (.inr (63)), some (.inl (x1)), some (.inl (x2)), none] [] σ := by
  refine zj_aload_n zd_Model_book_28 rfl ?_
  refine zj_getR rfl (by decide) rfl zu_Model (k := 0) (by decide) rfl zl_Model_9 zd_Model_book_29 (o' := 64) rfl ?_
  refine zj_iload_n zd_Model_book_32 rfl ?_
  refine zj_iaload rfl (by decide) b1 zd_Model_book_33 ?_
  refine zj_iconst (v := nI 1) zd_Model_book_34 (by decide) ?_
  exact zj_icmp_ne zd_Model_book_35 (by decide) (fun h => (kt h)) (fun h => (kf h))
theorem zb_Model_book_38 {Γ : zG} {σ : zS} {x1 x2 : Int32}  (k : z_J Γ zm_Model_book 43 [some (.inr (63)), some (.inl (x1)), some (.inl (x2)), none] [.inl (nI 1)] σ) : z_J Γ zm_Model_book 38 [some (.inr (63)), some (.inl (x1)), some (.inl (x2)), none] [] σ := by
  refine zj_iconst (v := nI 1) zd_Model_book_38 (by decide) ?_
  exact zj_goto zd_Model_book_39 (by decide) k
theorem zb_Model_book_42 {Γ : zG} {σ : zS} {x1 x2 : Int32}  (k : z_J Γ zm_Model_book 43 [some (.inr (63)), some (.inl (x1)), some (.inl (x2)), none] [.inl (nI 0)] σ) : z_J Γ zm_Model_book 42 [some (.inr (63)), some (.inl (x1)), some (.inl (x2)), none] [] σ := by
  refine zj_iconst (v := nI 0) zd_Model_book_42 (by decide) ?_
  exact k
theorem zb_Model_book_43 {Γ : zG} {σ : zS} {x1 x2 y0 : Int32}  (kd : x2.toInt < 0 ∨ 5 < x2.toInt → z_J Γ zm_Model_book 175 [some (.inr (63)), some (.inl (x1)), none, some (.inl (y0))] [] σ) (k0_ : x2 = nI 0 → z_J Γ zm_Model_book 84 [some (.inr (63)), some (.inl (x1)), none, none] [] σ) (k1_ : x2 = nI 1 → z_J Γ zm_Model_book 91 [some (.inr (63)), some (.inl (x1)), none, none] [] σ) (k2_ : x2 = nI 2 → z_J Γ zm_Model_book 98 [some (.inr (63)), some (.inl (x1)), none, none] [] σ) (k3_ : x2 = nI 3 → z_J Γ zm_Model_book 105 [some (.inr (63)), some (.inl (x1)), none, some (.inl (y0))] [] σ) (k4_ : x2 = nI 4 → z_J Γ zm_Model_book 133 [some (.inr (63)), some (.inl (x1)), none, some (.inl (y0))] [] σ) (k5_ : x2 = nI 5 → z_J Γ zm_Model_book 151 [some (.inr (63)), some (.inl (x1)), none, none] [] σ) : z_J Γ zm_Model_book 43 [some (.inr (63)), some (.inl (x1)), some (.inl (x2)), none] [.inl (y0)] σ := by
  refine zj_istore_n (L' := [some (.inr (63)), some (.inl (x1)), some (.inl (x2)), some (.inl (y0))]) zd_Model_book_43 (by decide) rfl ?_
  refine zj_iload_n zd_Model_book_44 rfl ?_
  rcases (show (x2.toInt < 0 ∨ 5 < x2.toInt) ∨ x2.toInt = 0 ∨ x2.toInt = 1 ∨ x2.toInt = 2 ∨ x2.toInt = 3 ∨ x2.toInt = 4 ∨ x2.toInt = 5 by omega) with h | h | h | h | h | h | h
  · exact zj_tblOut zd_Model_book_45 h (by decide) (zj_weak (L' := [some (.inr (63)), some (.inl (x1)), none, some (.inl (y0))]) ⟨rfl, ⟨rfl, ⟨rfl, trivial⟩⟩⟩ (kd h))
  · exact zj_tblIn zd_Model_book_45 (by omega) (by omega) (by rw [h]; rfl) (by decide) (zj_weak (L' := [some (.inr (63)), some (.inl (x1)), none, none]) ⟨rfl, ⟨rfl, trivial⟩⟩ (k0_ (Int32.toInt_inj.mp (by rw [h]; decide))))
  · exact zj_tblIn zd_Model_book_45 (by omega) (by omega) (by rw [h]; rfl) (by decide) (zj_weak (L' := [some (.inr (63)), some (.inl (x1)), none, none]) ⟨rfl, ⟨rfl, trivial⟩⟩ (k1_ (Int32.toInt_inj.mp (by rw [h]; decide))))
  · exact zj_tblIn zd_Model_book_45 (by omega) (by omega) (by rw [h]; rfl) (by decide) (zj_weak (L' := [some (.inr (63)), some (.inl (x1)), none, none]) ⟨rfl, ⟨rfl, trivial⟩⟩ (k2_ (Int32.toInt_inj.mp (by rw [h]; decide))))
  · exact zj_tblIn zd_Model_book_45 (by omega) (by omega) (by rw [h]; rfl) (by decide) (zj_weak (L' := [some (.inr (63)), some (.inl (x1)), none, some (.inl (y0))]) ⟨rfl, ⟨rfl, ⟨rfl, trivial⟩⟩⟩ (k3_ (Int32.toInt_inj.mp (by rw [h]; decide))))
  · exact zj_tblIn zd_Model_book_45 (by omega) (by omega) (by rw [h]; rfl) (by decide) (zj_weak (L' := [some (.inr (63)), some (.inl (x1)), none, some (.inl (y0))]) ⟨rfl, ⟨rfl, ⟨rfl, trivial⟩⟩⟩ (k4_ (Int32.toInt_inj.mp (by rw [h]; decide))))
  · exact zj_tblIn zd_Model_book_45 (by omega) (by omega) (by rw [h]; rfl) (by decide) (zj_weak (L' := [some (.inr (63)), some (.inl (x1)), none, none]) ⟨rfl, ⟨rfl, trivial⟩⟩ (k5_ (Int32.toInt_inj.mp (by rw [h]; decide))))
theorem zb_Model_book_84 {Γ : zG} {σ : zS} {x1 : Int32} {k1 : Nat}  (b1 : z_ix x1 12 k1) (e : z_end Γ (some (σ.1 65 k1)) σ) : z_J Γ zm_Model_book 84 [some (.inr (63)), some (.inl (x1)), none, none] [] σ := by
  refine zj_aload_n zd_Model_book_84 rfl ?_
  refine zj_getR rfl (by decide) rfl zu_Model (k := 2) (by decide) rfl zl_Model_13 zd_Model_book_85 (o' := 65) rfl ?_
  refine zj_iload_n zd_Model_book_88 rfl ?_
  refine zj_iaload rfl (by decide) b1 zd_Model_book_89 ?_
  exact zj_ireturn rfl zd_Model_book_90 e
theorem zb_Model_book_91 {Γ : zG} {σ : zS} {x1 : Int32} {k1 : Nat}  (b1 : z_ix x1 12 k1) (e : z_end Γ (some (σ.1 66 k1)) σ) : z_J Γ zm_Model_book 91 [some (.inr (63)), some (.inl (x1)), none, none] [] σ := by
  refine zj_aload_n zd_Model_book_91 rfl ?_
  refine zj_getR rfl (by decide) rfl zu_Model (k := 3) (by decide) rfl zl_Model_16 zd_Model_book_92 (o' := 66) rfl ?_
  refine zj_iload_n zd_Model_book_95 rfl ?_
  refine zj_iaload rfl (by decide) b1 zd_Model_book_96 ?_
  exact zj_ireturn rfl zd_Model_book_97 e
theorem zb_Model_book_98 {Γ : zG} {σ : zS} {x1 : Int32} {k1 : Nat}  (b1 : z_ix x1 53 k1) (e : z_end Γ (some (σ.1 64 k1)) σ) : z_J Γ zm_Model_book 98 [some (.inr (63)), some (.inl (x1)), none, none] [] σ := by
  refine zj_aload_n zd_Model_book_98 rfl ?_
  refine zj_getR rfl (by decide) rfl zu_Model (k := 0) (by decide) rfl zl_Model_9 zd_Model_book_99 (o' := 64) rfl ?_
  refine zj_iload_n zd_Model_book_102 rfl ?_
  refine zj_iaload rfl (by decide) b1 zd_Model_book_103 ?_
  exact zj_ireturn rfl zd_Model_book_104 e
theorem zb_Model_book_105 {Γ : zG} {σ : zS} {x1 x3 : Int32}  (kt : ¬ x3 = 0 → z_J Γ zm_Model_book 119 [some (.inr (63)), some (.inl (x1)), none, none] [] σ) (kf : x3 = 0 → z_J Γ zm_Model_book 109 [some (.inr (63)), some (.inl (x1)), none, none] [] σ) : z_J Γ zm_Model_book 105 [some (.inr (63)), some (.inl (x1)), none, some (.inl (x3))] [] σ := by
  refine zj_iload_n zd_Model_book_105 rfl ?_
  exact zj_if_ne zd_Model_book_106 (by decide) (fun h => (zj_weak (L' := [some (.inr (63)), some (.inl (x1)), none, none]) ⟨rfl, ⟨rfl, trivial⟩⟩ (kt h))) (fun h => (zj_weak (L' := [some (.inr (63)), some (.inl (x1)), none, none]) ⟨rfl, ⟨rfl, trivial⟩⟩ (kf h)))
theorem zb_Model_book_109 {Γ : zG} {σ : zS} {x1 : Int32} {k1 : Nat}  (b1 : z_ix x1 53 k1) (kt : ¬ (σ.1 64 k1) = (nI 2) → z_J Γ zm_Model_book 131 [none, none, none, none] [] σ) (kf : (σ.1 64 k1) = (nI 2) → z_J Γ zm_Model_book 119 [some (.inr (63)), some (.inl (x1)), none, none] [] σ) : z_J Γ zm_Model_book 109 [some (.inr (63)), some (.inl (x1)), none, none] [] σ := by
  refine zj_aload_n zd_Model_book_109 rfl ?_
  refine zj_getR rfl (by decide) rfl zu_Model (k := 0) (by decide) rfl zl_Model_9 zd_Model_book_110 (o' := 64) rfl ?_
  refine zj_iload_n zd_Model_book_113 rfl ?_
  refine zj_iaload rfl (by decide) b1 zd_Model_book_114 ?_
  refine zj_iconst (v := nI 2) zd_Model_book_115 (by decide) ?_
  exact zj_icmp_ne zd_Model_book_116 (by decide) (fun h => (zj_weak (L' := [none, none, none, none]) trivial (kt h))) (fun h => (kf h))
theorem zb_Model_book_119 {Γ : zG} {σ : zS} {x1 : Int32} {k1 : Nat}  (b1 : z_ix ((nI 12) + x1) 53 k1) (k : z_J Γ zm_Model_book 132 [none, none, none, none] [.inl (σ.1 64 k1)] σ) : z_J Γ zm_Model_book 119 [some (.inr (63)), some (.inl (x1)), none, none] [] σ := by
  refine zj_aload_n zd_Model_book_119 rfl ?_
  refine zj_getR rfl (by decide) rfl zu_Model (k := 0) (by decide) rfl zl_Model_9 zd_Model_book_120 (o' := 64) rfl ?_
  refine zj_bipush (v := nI 12) zd_Model_book_123 (by decide) ?_
  refine zj_iload_n zd_Model_book_125 rfl ?_
  refine zj_iadd zd_Model_book_126 ?_
  refine zj_iaload rfl (by decide) b1 zd_Model_book_127 ?_
  exact zj_goto zd_Model_book_128 (by decide) (zj_weak (L' := [none, none, none, none]) trivial k)
theorem zb_Model_book_131 {Γ : zG} {σ : zS}  (k : z_J Γ zm_Model_book 132 [none, none, none, none] [.inl ((-1))] σ) : z_J Γ zm_Model_book 131 [none, none, none, none] [] σ := by
  refine zj_iconst (v := (-1)) zd_Model_book_131 (by decide) ?_
  exact k
theorem zb_Model_book_132 {Γ : zG} {σ : zS} {y0 : Int32}  (e : z_end Γ (some (y0)) σ) : z_J Γ zm_Model_book 132 [none, none, none, none] [.inl (y0)] σ := by
  exact zj_ireturn rfl zd_Model_book_132 e
theorem zb_Model_book_133 {Γ : zG} {σ : zS} {x1 x3 : Int32}  (kt : x3 = 0 → z_J Γ zm_Model_book 149 [none, none, none, none] [] σ) (kf : ¬ x3 = 0 → z_J Γ zm_Model_book 137 [some (.inr (63)), some (.inl (x1)), none, none] [] σ) : z_J Γ zm_Model_book 133 [some (.inr (63)), some (.inl (x1)), none, some (.inl (x3))] [] σ := by
  refine zj_iload_n zd_Model_book_133 rfl ?_
  exact zj_if_eq zd_Model_book_134 (by decide) (fun h => (zj_weak (L' := [none, none, none, none]) trivial (kt h))) (fun h => (zj_weak (L' := [some (.inr (63)), some (.inl (x1)), none, none]) ⟨rfl, ⟨rfl, trivial⟩⟩ (kf h)))
theorem zb_Model_book_137 {Γ : zG} {σ : zS} {x1 : Int32} {k1 : Nat}  (b1 : z_ix ((nI 24) + x1) 53 k1) (k : z_J Γ zm_Model_book 150 [none, none, none, none] [.inl (σ.1 64 k1)] σ) : z_J Γ zm_Model_book 137 [some (.inr (63)), some (.inl (x1)), none, none] [] σ := by
  refine zj_aload_n zd_Model_book_137 rfl ?_
  refine zj_getR rfl (by decide) rfl zu_Model (k := 0) (by decide) rfl zl_Model_9 zd_Model_book_138 (o' := 64) rfl ?_
  refine zj_bipush (v := nI 24) zd_Model_book_141 (by decide) ?_
  refine zj_iload_n zd_Model_book_143 rfl ?_
  refine zj_iadd zd_Model_book_144 ?_
  refine zj_iaload rfl (by decide) b1 zd_Model_book_145 ?_
  exact zj_goto zd_Model_book_146 (by decide) (zj_weak (L' := [none, none, none, none]) trivial k)
theorem zb_Model_book_149 {Γ : zG} {σ : zS}  (k : z_J Γ zm_Model_book 150 [none, none, none, none] [.inl ((-1))] σ) : z_J Γ zm_Model_book 149 [none, none, none, none] [] σ := by
  refine zj_iconst (v := (-1)) zd_Model_book_149 (by decide) ?_
  exact k
theorem zb_Model_book_150 {Γ : zG} {σ : zS} {y0 : Int32}  (e : z_end Γ (some (y0)) σ) : z_J Γ zm_Model_book 150 [none, none, none, none] [.inl (y0)] σ := by
  exact zj_ireturn rfl zd_Model_book_150 e
theorem zb_Model_book_151 {Γ : zG} {σ : zS} {x1 : Int32} {k1 : Nat}  (b1 : z_ix x1 53 k1) (kt : ¬ (σ.1 64 k1) = (nI 2) → z_J Γ zm_Model_book 173 [none, none, none, none] [] σ) (kf : (σ.1 64 k1) = (nI 2) → z_J Γ zm_Model_book 161 [some (.inr (63)), some (.inl (x1)), none, none] [] σ) : z_J Γ zm_Model_book 151 [some (.inr (63)), some (.inl (x1)), none, none] [] σ := by
  refine zj_aload_n zd_Model_book_151 rfl ?_
  refine zj_getR rfl (by decide) rfl zu_Model (k := 0) (by decide) rfl zl_Model_9 zd_Model_book_152 (o' := 64) rfl ?_
  refine zj_iload_n zd_Model_book_155 rfl ?_
  refine zj_iaload rfl (by decide) b1 zd_Model_book_156 ?_
  refine zj_iconst (v := nI 2) zd_Model_book_157 (by decide) ?_
  exact zj_icmp_ne zd_Model_book_158 (by decide) (fun h => (zj_weak (L' := [none, none, none, none]) trivial (kt h))) (fun h => (kf h))
theorem zb_Model_book_161 {Γ : zG} {σ : zS} {x1 : Int32} {k1 : Nat}  (b1 : z_ix ((nI 36) + x1) 53 k1) (k : z_J Γ zm_Model_book 174 [none, none, none, none] [.inl (σ.1 64 k1)] σ) : z_J Γ zm_Model_book 161 [some (.inr (63)), some (.inl (x1)), none, none] [] σ := by
  refine zj_aload_n zd_Model_book_161 rfl ?_
  refine zj_getR rfl (by decide) rfl zu_Model (k := 0) (by decide) rfl zl_Model_9 zd_Model_book_162 (o' := 64) rfl ?_
  refine zj_bipush (v := nI 36) zd_Model_book_165 (by decide) ?_
  refine zj_iload_n zd_Model_book_167 rfl ?_
  refine zj_iadd zd_Model_book_168 ?_
  refine zj_iaload rfl (by decide) b1 zd_Model_book_169 ?_
  exact zj_goto zd_Model_book_170 (by decide) (zj_weak (L' := [none, none, none, none]) trivial k)
theorem zb_Model_book_173 {Γ : zG} {σ : zS}  (k : z_J Γ zm_Model_book 174 [none, none, none, none] [.inl ((-1))] σ) : z_J Γ zm_Model_book 173 [none, none, none, none] [] σ := by
  refine zj_iconst (v := (-1)) zd_Model_book_173 (by decide) ?_
  exact k
theorem zb_Model_book_174 {Γ : zG} {σ : zS} {y0 : Int32}  (e : z_end Γ (some (y0)) σ) : z_J Γ zm_Model_book 174 [none, none, none, none] [.inl (y0)] σ := by
  exact zj_ireturn rfl zd_Model_book_174 e
theorem zb_Model_book_175 {Γ : zG} {σ : zS} {x1 x3 : Int32}  (kt : x3 = 0 → z_J Γ zm_Model_book 232 [none, none, none, none] [] σ) (kf : ¬ x3 = 0 → z_J Γ zm_Model_book 179 [some (.inr (63)), some (.inl (x1)), none, none] [] σ) : z_J Γ zm_Model_book 175 [some (.inr (63)), some (.inl (x1)), none, some (.inl (x3))] [] σ := by
  refine zj_iload_n zd_Model_book_175 rfl ?_
  exact zj_if_eq zd_Model_book_176 (by decide) (fun h => (zj_weak (L' := [none, none, none, none]) trivial (kt h))) (fun h => (zj_weak (L' := [some (.inr (63)), some (.inl (x1)), none, none]) ⟨rfl, ⟨rfl, trivial⟩⟩ (kf h)))
theorem zb_Model_book_179 {Γ : zG} {σ : zS} {x1 : Int32} {k1 k2 k3 : Nat} {dc : Nat} {P : Int32 → zS → Prop}  (b1 : z_ix ((nI 12) + x1) 53 k1) (b2 : z_ix ((nI 24) + x1) 53 k2) (b3 : z_ix ((nI 12) + x1) 53 k3) (hm : z_Ci dc zm_Model_inColumn [.inr (63), .inr (64), .inl (σ.1 64 k3)] σ P) (hdp : dc < z_dep Γ) (k : ∀ r σ1, P r σ1 → z_J Γ zm_Model_book 216 [some (.inr (63)), none, none, none] [.inl (r), .inl (σ.1 64 k2), .inl (σ.1 64 k1), .inl (x1), .inr (63)] σ1) : z_J Γ zm_Model_book 179 [some (.inr (63)), some (.inl (x1)), none, none] [] σ := by
  refine zj_aload_n zd_Model_book_179 rfl ?_
  refine zj_iload_n zd_Model_book_180 rfl ?_
  refine zj_aload_n zd_Model_book_181 rfl ?_
  refine zj_getR rfl (by decide) rfl zu_Model (k := 0) (by decide) rfl zl_Model_9 zd_Model_book_182 (o' := 64) rfl ?_
  refine zj_bipush (v := nI 12) zd_Model_book_185 (by decide) ?_
  refine zj_iload_n zd_Model_book_187 rfl ?_
  refine zj_iadd zd_Model_book_188 ?_
  refine zj_iaload rfl (by decide) b1 zd_Model_book_189 ?_
  refine zj_aload_n zd_Model_book_190 rfl ?_
  refine zj_getR rfl (by decide) rfl zu_Model (k := 0) (by decide) rfl zl_Model_9 zd_Model_book_191 (o' := 64) rfl ?_
  refine zj_bipush (v := nI 24) zd_Model_book_194 (by decide) ?_
  refine zj_iload_n zd_Model_book_196 rfl ?_
  refine zj_iadd zd_Model_book_197 ?_
  refine zj_iaload rfl (by decide) b2 zd_Model_book_198 ?_
  refine zj_aload_n zd_Model_book_199 rfl ?_
  refine zj_aload_n zd_Model_book_200 rfl ?_
  refine zj_getR rfl (by decide) rfl zu_Model (k := 0) (by decide) rfl zl_Model_9 zd_Model_book_201 (o' := 64) rfl ?_
  refine zj_aload_n zd_Model_book_204 rfl ?_
  refine zj_getR rfl (by decide) rfl zu_Model (k := 0) (by decide) rfl zl_Model_9 zd_Model_book_205 (o' := 64) rfl ?_
  refine zj_bipush (v := nI 12) zd_Model_book_208 (by decide) ?_
  refine zj_iload_n zd_Model_book_210 rfl ?_
  refine zj_iadd zd_Model_book_211 ?_
  refine zj_iaload rfl (by decide) b3 zd_Model_book_212 ?_
  exact zj_callVi (As := [.inr (64), .inl (σ.1 64 k3)]) hm hdp rfl (by decide) rfl zl_Model_247 zq_Model_inColumn zd_Model_book_213 rfl (Nat.le_of_ble_eq_true rfl) (fun r σ1 h => (zj_weak (L' := [some (.inr (63)), none, none, none]) ⟨rfl, trivial⟩ (k r σ1 h)))
theorem zb_Model_book_216 {Γ : zG} {σ : zS} {y0 y1 y2 y3 : Int32} {k1 : Nat} {dc : Nat} {P : Int32 → zS → Prop}  (b1 : z_ix (nI 48) 53 k1) (hm : z_Ci dc zm_Model_bears [.inr (63), .inl (y3), .inl (y2), .inl (y1), .inl (z_bc y0), .inl (σ.1 64 k1)] σ P) (hdp : dc < z_dep Γ) (k : ∀ r σ1, P r σ1 → z_J Γ zm_Model_book 229 [none, none, none, none] [.inl (r)] σ1) : z_J Γ zm_Model_book 216 [some (.inr (63)), none, none, none] [.inl (y0), .inl (y1), .inl (y2), .inl (y3), .inr (63)] σ := by
  refine zj_bitc zl_Model_261 (Nat.lt_of_le_of_lt (Nat.zero_le _) hdp) (Nat.le_of_ble_eq_true rfl) zd_Model_book_216 ?_
  refine zj_aload_n zd_Model_book_219 rfl ?_
  refine zj_getR rfl (by decide) rfl zu_Model (k := 0) (by decide) rfl zl_Model_9 zd_Model_book_220 (o' := 64) rfl ?_
  refine zj_bipush (v := nI 48) zd_Model_book_223 (by decide) ?_
  refine zj_iaload rfl (by decide) b1 zd_Model_book_225 ?_
  exact zj_callVi (As := [.inl (y3), .inl (y2), .inl (y1), .inl (z_bc y0), .inl (σ.1 64 k1)]) hm hdp rfl (by decide) rfl zl_Model_232 zq_Model_bears zd_Model_book_226 rfl (Nat.le_of_ble_eq_true rfl) (fun r σ1 h => (zj_weak (L' := [none, none, none, none]) trivial (k r σ1 h)))
theorem zb_Model_book_229 {Γ : zG} {σ : zS} {y0 : Int32}  (k : z_J Γ zm_Model_book 233 [none, none, none, none] [.inl (y0)] σ) : z_J Γ zm_Model_book 229 [none, none, none, none] [.inl (y0)] σ := by
  exact zj_goto zd_Model_book_229 (by decide) k
theorem zb_Model_book_232 {Γ : zG} {σ : zS}  (k : z_J Γ zm_Model_book 233 [none, none, none, none] [.inl ((-1))] σ) : z_J Γ zm_Model_book 232 [none, none, none, none] [] σ := by
  refine zj_iconst (v := (-1)) zd_Model_book_232 (by decide) ?_
  exact k
theorem zb_Model_book_233 {Γ : zG} {σ : zS} {y0 : Int32}  (e : z_end Γ (some (y0)) σ) : z_J Γ zm_Model_book 233 [none, none, none, none] [.inl (y0)] σ := by
  exact zj_ireturn rfl zd_Model_book_233 e
theorem zd_Model_lost_0 : decode zm_Model_lost.2.1 0 = .ok (.aload_n 0, 1) := by decide +kernel
theorem zd_Model_lost_1 : decode zm_Model_lost.2.1 1 = .ok (.iconst 1, 1) := by decide +kernel
theorem zd_Model_lost_2 : decode zm_Model_lost.2.1 2 = .ok (.putfield 91, 3) := by decide +kernel
theorem zd_Model_lost_5 : decode zm_Model_lost.2.1 5 = .ok (.iconst 0, 1) := by decide +kernel
theorem zd_Model_lost_6 : decode zm_Model_lost.2.1 6 = .ok (.ireturn, 1) := by decide +kernel
theorem zb_Model_lost_0 {Γ : zG} {σ : zS}  (e : z_end Γ (some (nI 0)) (z_pI σ 63 11 (nI 1))) : z_J Γ zm_Model_lost 0 [some (.inr (63))] [] σ := by
  refine zj_aload_n zd_Model_lost_0 rfl ?_
  refine zj_iconst (v := nI 1) zd_Model_lost_1 (by decide) ?_
  refine zj_putI rfl (by decide) rfl zu_Model zy_Model_ok zn_Model (k := 11) (by decide) rfl rfl zl_Model_91 rfl rfl zd_Model_lost_2 ?_
  refine zj_iconst (v := nI 0) zd_Model_lost_5 (by decide) ?_
  exact zj_ireturn rfl zd_Model_lost_6 e
theorem zd_Model_inColumn_0 : decode zm_Model_inColumn.2.1 0 = .ok (.iconst 0, 1) := by decide +kernel
theorem zd_Model_inColumn_1 : decode zm_Model_inColumn.2.1 1 = .ok (.istore_n 3, 1) := by decide +kernel
theorem zd_Model_inColumn_2 : decode zm_Model_inColumn.2.1 2 = .ok (.iconst 0, 1) := by decide +kernel
theorem zd_Model_inColumn_3 : decode zm_Model_inColumn.2.1 3 = .ok (.istore 4, 2) := by decide +kernel
theorem zd_Model_inColumn_5 : decode zm_Model_inColumn.2.1 5 = .ok (.iload 4, 2) := by decide +kernel
theorem zd_Model_inColumn_7 : decode zm_Model_inColumn.2.1 7 = .ok (.aload_n 0, 1) := by decide +kernel
theorem zd_Model_inColumn_8 : decode zm_Model_inColumn.2.1 8 = .ok (.getfield 97, 3) := by decide +kernel
theorem zd_Model_inColumn_11 : decode zm_Model_inColumn.2.1 11 = .ok (.if_icmp .ge 39, 3) := by decide +kernel
theorem zd_Model_inColumn_14 : decode zm_Model_inColumn.2.1 14 = .ok (.iload_n 3, 1) := by decide +kernel
theorem zd_Model_inColumn_15 : decode zm_Model_inColumn.2.1 15 = .ok (.aload_n 1, 1) := by decide +kernel
theorem zd_Model_inColumn_16 : decode zm_Model_inColumn.2.1 16 = .ok (.iload 4, 2) := by decide +kernel
theorem zd_Model_inColumn_18 : decode zm_Model_inColumn.2.1 18 = .ok (.iaload, 1) := by decide +kernel
theorem zd_Model_inColumn_19 : decode zm_Model_inColumn.2.1 19 = .ok (.iconst 1, 1) := by decide +kernel
theorem zd_Model_inColumn_20 : decode zm_Model_inColumn.2.1 20 = .ok (.if_icmp .ne 21, 3) := by decide +kernel
theorem zd_Model_inColumn_23 : decode zm_Model_inColumn.2.1 23 = .ok (.aload_n 1, 1) := by decide +kernel
theorem zd_Model_inColumn_24 : decode zm_Model_inColumn.2.1 24 = .ok (.bipush 12, 2) := by decide +kernel
theorem zd_Model_inColumn_26 : decode zm_Model_inColumn.2.1 26 = .ok (.iload 4, 2) := by decide +kernel
theorem zd_Model_inColumn_28 : decode zm_Model_inColumn.2.1 28 = .ok (.iadd, 1) := by decide +kernel
theorem zd_Model_inColumn_29 : decode zm_Model_inColumn.2.1 29 = .ok (.iaload, 1) := by decide +kernel
theorem zd_Model_inColumn_30 : decode zm_Model_inColumn.2.1 30 = .ok (.iload_n 2, 1) := by decide +kernel
theorem zd_Model_inColumn_31 : decode zm_Model_inColumn.2.1 31 = .ok (.if_icmp .ne 10, 3) := by decide +kernel
theorem zd_Model_inColumn_34 : decode zm_Model_inColumn.2.1 34 = .ok (.iconst 1, 1) := by decide +kernel
theorem zd_Model_inColumn_35 : decode zm_Model_inColumn.2.1 35 = .ok (.iload 4, 2) := by decide +kernel
theorem zd_Model_inColumn_37 : decode zm_Model_inColumn.2.1 37 = .ok (.ishl, 1) := by decide +kernel
theorem zd_Model_inColumn_38 : decode zm_Model_inColumn.2.1 38 = .ok (.goto 4, 3) := by decide +kernel
theorem zd_Model_inColumn_41 : decode zm_Model_inColumn.2.1 41 = .ok (.iconst 0, 1) := by decide +kernel
theorem zd_Model_inColumn_42 : decode zm_Model_inColumn.2.1 42 = .ok (.ior, 1) := by decide +kernel
theorem zd_Model_inColumn_43 : decode zm_Model_inColumn.2.1 43 = .ok (.istore_n 3, 1) := by decide +kernel
theorem zd_Model_inColumn_44 : decode zm_Model_inColumn.2.1 44 = .ok (.iinc 4 1, 3) := by decide +kernel
theorem zd_Model_inColumn_47 : decode zm_Model_inColumn.2.1 47 = .ok (.goto (-42), 3) := by decide +kernel
theorem zd_Model_inColumn_50 : decode zm_Model_inColumn.2.1 50 = .ok (.iload_n 3, 1) := by decide +kernel
theorem zd_Model_inColumn_51 : decode zm_Model_inColumn.2.1 51 = .ok (.ireturn, 1) := by decide +kernel
theorem zb_Model_inColumn_0 {Γ : zG} {σ : zS} {a1 : Nat} {x2 : Int32} (h_a1 : z_kd a1 = (11, 53)) (k : z_J Γ zm_Model_inColumn 5 [some (.inr (63)), some (.inr (a1)), some (.inl (x2)), some (.inl (nI 0)), some (.inl (nI 0))] [] σ) : z_J Γ zm_Model_inColumn 0 [some (.inr (63)), some (.inr (a1)), some (.inl (x2)), none, none] [] σ := by
  refine zj_iconst (v := nI 0) zd_Model_inColumn_0 (by decide) ?_
  refine zj_istore_n (L' := [some (.inr (63)), some (.inr (a1)), some (.inl (x2)), some (.inl (nI 0)), none]) zd_Model_inColumn_1 (by decide) rfl ?_
  refine zj_iconst (v := nI 0) zd_Model_inColumn_2 (by decide) ?_
  refine zj_istore (L' := [some (.inr (63)), some (.inr (a1)), some (.inl (x2)), some (.inl (nI 0)), some (.inl (nI 0))]) zd_Model_inColumn_3 (by decide) rfl ?_
  exact k
theorem zb_Model_inColumn_5 {Γ : zG} {σ : zS} {a1 : Nat} {x2 x3 x4 : Int32} (h_a1 : z_kd a1 = (11, 53)) (kt : (σ.1 63 1) ≤ x4 → z_J Γ zm_Model_inColumn 50 [none, none, none, some (.inl (x3)), none] [] σ) (kf : ¬ (σ.1 63 1) ≤ x4 → z_J Γ zm_Model_inColumn 14 [some (.inr (63)), some (.inr (a1)), some (.inl (x2)), some (.inl (x3)), some (.inl (x4))] [] σ) : z_J Γ zm_Model_inColumn 5 [some (.inr (63)), some (.inr (a1)), some (.inl (x2)), some (.inl (x3)), some (.inl (x4))] [] σ := by
  refine zj_iload zd_Model_inColumn_5 rfl ?_
  refine zj_aload_n zd_Model_inColumn_7 rfl ?_
  refine zj_getI rfl (by decide) rfl zu_Model (k := 1) (by decide) rfl zl_Model_97 zd_Model_inColumn_8 ?_
  exact zj_icmp_ge zd_Model_inColumn_11 (by decide) (fun h => (zj_weak (L' := [none, none, none, some (.inl (x3)), none]) ⟨rfl, trivial⟩ (kt h))) (fun h => (kf h))
theorem zb_Model_inColumn_14 {Γ : zG} {σ : zS} {a1 : Nat} {x2 x3 x4 : Int32} {k1 : Nat} (h_a1 : z_kd a1 = (11, 53)) (b1 : z_ix x4 53 k1) (kt : ¬ (σ.1 a1 k1) = (nI 1) → z_J Γ zm_Model_inColumn 41 [some (.inr (63)), some (.inr (a1)), some (.inl (x2)), none, some (.inl (x4))] [.inl (x3)] σ) (kf : (σ.1 a1 k1) = (nI 1) → z_J Γ zm_Model_inColumn 23 [some (.inr (63)), some (.inr (a1)), some (.inl (x2)), none, some (.inl (x4))] [.inl (x3)] σ) : z_J Γ zm_Model_inColumn 14 [some (.inr (63)), some (.inr (a1)), some (.inl (x2)), some (.inl (x3)), some (.inl (x4))] [] σ := by
  refine zj_iload_n zd_Model_inColumn_14 rfl ?_
  refine zj_aload_n zd_Model_inColumn_15 rfl ?_
  refine zj_iload zd_Model_inColumn_16 rfl ?_
  refine zj_iaload h_a1 (by decide) b1 zd_Model_inColumn_18 ?_
  refine zj_iconst (v := nI 1) zd_Model_inColumn_19 (by decide) ?_
  exact zj_icmp_ne zd_Model_inColumn_20 (by decide) (fun h => (zj_weak (L' := [some (.inr (63)), some (.inr (a1)), some (.inl (x2)), none, some (.inl (x4))]) ⟨rfl, ⟨rfl, ⟨rfl, ⟨rfl, trivial⟩⟩⟩⟩ (kt h))) (fun h => (zj_weak (L' := [some (.inr (63)), some (.inr (a1)), some (.inl (x2)), none, some (.inl (x4))]) ⟨rfl, ⟨rfl, ⟨rfl, ⟨rfl, trivial⟩⟩⟩⟩ (kf h)))
theorem zb_Model_inColumn_23 {Γ : zG} {σ : zS} {a1 : Nat} {x2 x4 y0 : Int32} {k1 : Nat} (h_a1 : z_kd a1 = (11, 53)) (b1 : z_ix ((nI 12) + x4) 53 k1) (kt : ¬ (σ.1 a1 k1) = x2 → z_J Γ zm_Model_inColumn 41 [some (.inr (63)), some (.inr (a1)), some (.inl (x2)), none, some (.inl (x4))] [.inl (y0)] σ) (kf : (σ.1 a1 k1) = x2 → z_J Γ zm_Model_inColumn 34 [some (.inr (63)), some (.inr (a1)), some (.inl (x2)), none, some (.inl (x4))] [.inl (y0)] σ) : z_J Γ zm_Model_inColumn 23 [some (.inr (63)), some (.inr (a1)), some (.inl (x2)), none, some (.inl (x4))] [.inl (y0)] σ := by
  refine zj_aload_n zd_Model_inColumn_23 rfl ?_
  refine zj_bipush (v := nI 12) zd_Model_inColumn_24 (by decide) ?_
  refine zj_iload zd_Model_inColumn_26 rfl ?_
  refine zj_iadd zd_Model_inColumn_28 ?_
  refine zj_iaload h_a1 (by decide) b1 zd_Model_inColumn_29 ?_
  refine zj_iload_n zd_Model_inColumn_30 rfl ?_
  exact zj_icmp_ne zd_Model_inColumn_31 (by decide) (fun h => (kt h)) (fun h => (kf h))
theorem zb_Model_inColumn_34 {Γ : zG} {σ : zS} {a1 : Nat} {x2 x4 y0 : Int32} (h_a1 : z_kd a1 = (11, 53)) (k : z_J Γ zm_Model_inColumn 42 [some (.inr (63)), some (.inr (a1)), some (.inl (x2)), none, some (.inl (x4))] [.inl ((nI 1) <<< (x4 &&& 31)), .inl (y0)] σ) : z_J Γ zm_Model_inColumn 34 [some (.inr (63)), some (.inr (a1)), some (.inl (x2)), none, some (.inl (x4))] [.inl (y0)] σ := by
  refine zj_iconst (v := nI 1) zd_Model_inColumn_34 (by decide) ?_
  refine zj_iload zd_Model_inColumn_35 rfl ?_
  refine zj_ishl zd_Model_inColumn_37 ?_
  exact zj_goto zd_Model_inColumn_38 (by decide) k
theorem zb_Model_inColumn_41 {Γ : zG} {σ : zS} {a1 : Nat} {x2 x4 y0 : Int32} (h_a1 : z_kd a1 = (11, 53)) (k : z_J Γ zm_Model_inColumn 42 [some (.inr (63)), some (.inr (a1)), some (.inl (x2)), none, some (.inl (x4))] [.inl (nI 0), .inl (y0)] σ) : z_J Γ zm_Model_inColumn 41 [some (.inr (63)), some (.inr (a1)), some (.inl (x2)), none, some (.inl (x4))] [.inl (y0)] σ := by
  refine zj_iconst (v := nI 0) zd_Model_inColumn_41 (by decide) ?_
  exact k
theorem zb_Model_inColumn_42 {Γ : zG} {σ : zS} {a1 : Nat} {x2 x4 y0 y1 : Int32} (h_a1 : z_kd a1 = (11, 53)) (k : z_J Γ zm_Model_inColumn 5 [some (.inr (63)), some (.inr (a1)), some (.inl (x2)), some (.inl (y1 ||| y0)), some (.inl (x4 + nI 1))] [] σ) : z_J Γ zm_Model_inColumn 42 [some (.inr (63)), some (.inr (a1)), some (.inl (x2)), none, some (.inl (x4))] [.inl (y0), .inl (y1)] σ := by
  refine zj_ior zd_Model_inColumn_42 ?_
  refine zj_istore_n (L' := [some (.inr (63)), some (.inr (a1)), some (.inl (x2)), some (.inl (y1 ||| y0)), some (.inl (x4))]) zd_Model_inColumn_43 (by decide) rfl ?_
  refine zj_iinc (v := nI 1) (L' := [some (.inr (63)), some (.inr (a1)), some (.inl (x2)), some (.inl (y1 ||| y0)), some (.inl (x4 + nI 1))]) zd_Model_inColumn_44 rfl (by decide) (by decide) rfl ?_
  exact zj_goto zd_Model_inColumn_47 (by decide) k
theorem zb_Model_inColumn_50 {Γ : zG} {σ : zS} {x3 : Int32}  (e : z_end Γ (some (x3)) σ) : z_J Γ zm_Model_inColumn 50 [none, none, none, some (.inl (x3)), none] [] σ := by
  refine zj_iload_n zd_Model_inColumn_50 rfl ?_
  exact zj_ireturn rfl zd_Model_inColumn_51 e
theorem zd_Model_column_0 : decode zm_Model_column.2.1 0 = .ok (.aload_n 0, 1) := by decide +kernel
theorem zd_Model_column_1 : decode zm_Model_column.2.1 1 = .ok (.iconst 0, 1) := by decide +kernel
theorem zd_Model_column_2 : decode zm_Model_column.2.1 2 = .ok (.putfield 91, 3) := by decide +kernel
theorem zd_Model_column_5 : decode zm_Model_column.2.1 5 = .ok (.aload_n 0, 1) := by decide +kernel
theorem zd_Model_column_6 : decode zm_Model_column.2.1 6 = .ok (.iload_n 1, 1) := by decide +kernel
theorem zd_Model_column_7 : decode zm_Model_column.2.1 7 = .ok (.invokevirtual 266, 3) := by decide +kernel
theorem zd_Model_column_10 : decode zm_Model_column.2.1 10 = .ok (.ifCond .eq 12, 3) := by decide +kernel
theorem zd_Model_column_13 : decode zm_Model_column.2.1 13 = .ok (.iload_n 2, 1) := by decide +kernel
theorem zd_Model_column_14 : decode zm_Model_column.2.1 14 = .ok (.iconst 0, 1) := by decide +kernel
theorem zd_Model_column_15 : decode zm_Model_column.2.1 15 = .ok (.iconst 4, 1) := by decide +kernel
theorem zd_Model_column_16 : decode zm_Model_column.2.1 16 = .ok (.invokestatic 100, 3) := by decide +kernel
theorem zd_Model_column_19 : decode zm_Model_column.2.1 19 = .ok (.ifCond .ne 8, 3) := by decide +kernel
theorem zd_Model_column_22 : decode zm_Model_column.2.1 22 = .ok (.aload_n 0, 1) := by decide +kernel
theorem zd_Model_column_23 : decode zm_Model_column.2.1 23 = .ok (.invokevirtual 258, 3) := by decide +kernel
theorem zd_Model_column_26 : decode zm_Model_column.2.1 26 = .ok (.ireturn, 1) := by decide +kernel
theorem zd_Model_column_27 : decode zm_Model_column.2.1 27 = .ok (.aload_n 0, 1) := by decide +kernel
theorem zd_Model_column_28 : decode zm_Model_column.2.1 28 = .ok (.aload_n 0, 1) := by decide +kernel
theorem zd_Model_column_29 : decode zm_Model_column.2.1 29 = .ok (.getfield 9, 3) := by decide +kernel
theorem zd_Model_column_32 : decode zm_Model_column.2.1 32 = .ok (.iload_n 1, 1) := by decide +kernel
theorem zd_Model_column_33 : decode zm_Model_column.2.1 33 = .ok (.iconst 0, 1) := by decide +kernel
theorem zd_Model_column_34 : decode zm_Model_column.2.1 34 = .ok (.invokevirtual 236, 3) := by decide +kernel
theorem zd_Model_column_37 : decode zm_Model_column.2.1 37 = .ok (.istore_n 3, 1) := by decide +kernel
theorem zd_Model_column_38 : decode zm_Model_column.2.1 38 = .ok (.iload_n 2, 1) := by decide +kernel
theorem zd_Model_column_39 : decode zm_Model_column.2.1 39 = .ok (.tableswitch 66 0 3 #[29, 39, 41, 48], 29) := by decide +kernel
theorem zd_Model_column_68 : decode zm_Model_column.2.1 68 = .ok (.aload_n 0, 1) := by decide +kernel
theorem zd_Model_column_69 : decode zm_Model_column.2.1 69 = .ok (.aload_n 0, 1) := by decide +kernel
theorem zd_Model_column_70 : decode zm_Model_column.2.1 70 = .ok (.getfield 9, 3) := by decide +kernel
theorem zd_Model_column_73 : decode zm_Model_column.2.1 73 = .ok (.iload_n 1, 1) := by decide +kernel
theorem zd_Model_column_74 : decode zm_Model_column.2.1 74 = .ok (.invokevirtual 255, 3) := by decide +kernel
theorem zd_Model_column_77 : decode zm_Model_column.2.1 77 = .ok (.ireturn, 1) := by decide +kernel
theorem zd_Model_column_78 : decode zm_Model_column.2.1 78 = .ok (.iload_n 3, 1) := by decide +kernel
theorem zd_Model_column_79 : decode zm_Model_column.2.1 79 = .ok (.ireturn, 1) := by decide +kernel
theorem zd_Model_column_80 : decode zm_Model_column.2.1 80 = .ok (.aload_n 0, 1) := by decide +kernel
theorem zd_Model_column_81 : decode zm_Model_column.2.1 81 = .ok (.iconst (-1), 1) := by decide +kernel
theorem zd_Model_column_82 : decode zm_Model_column.2.1 82 = .ok (.iload_n 3, 1) := by decide +kernel
theorem zd_Model_column_83 : decode zm_Model_column.2.1 83 = .ok (.invokevirtual 229, 3) := by decide +kernel
theorem zd_Model_column_86 : decode zm_Model_column.2.1 86 = .ok (.ireturn, 1) := by decide +kernel
theorem zd_Model_column_87 : decode zm_Model_column.2.1 87 = .ok (.aload_n 0, 1) := by decide +kernel
theorem zd_Model_column_88 : decode zm_Model_column.2.1 88 = .ok (.aload_n 0, 1) := by decide +kernel
theorem zd_Model_column_89 : decode zm_Model_column.2.1 89 = .ok (.getfield 9, 3) := by decide +kernel
theorem zd_Model_column_92 : decode zm_Model_column.2.1 92 = .ok (.iload_n 1, 1) := by decide +kernel
theorem zd_Model_column_93 : decode zm_Model_column.2.1 93 = .ok (.invokevirtual 177, 3) := by decide +kernel
theorem zd_Model_column_96 : decode zm_Model_column.2.1 96 = .ok (.ifCond .eq 7, 3) := by decide +kernel
theorem zd_Model_column_99 : decode zm_Model_column.2.1 99 = .ok (.iconst 1, 1) := by decide +kernel
theorem zd_Model_column_100 : decode zm_Model_column.2.1 100 = .ok (.goto 4, 3) := by decide +kernel
theorem zd_Model_column_103 : decode zm_Model_column.2.1 103 = .ok (.iconst 0, 1) := by decide +kernel
theorem zd_Model_column_104 : decode zm_Model_column.2.1 104 = .ok (.ireturn, 1) := by decide +kernel
theorem zd_Model_column_105 : decode zm_Model_column.2.1 105 = .ok (.aload_n 0, 1) := by decide +kernel
theorem zd_Model_column_106 : decode zm_Model_column.2.1 106 = .ok (.aload_n 0, 1) := by decide +kernel
theorem zd_Model_column_107 : decode zm_Model_column.2.1 107 = .ok (.getfield 9, 3) := by decide +kernel
theorem zd_Model_column_110 : decode zm_Model_column.2.1 110 = .ok (.iload_n 1, 1) := by decide +kernel
theorem zd_Model_column_111 : decode zm_Model_column.2.1 111 = .ok (.invokevirtual 269, 3) := by decide +kernel
theorem zd_Model_column_114 : decode zm_Model_column.2.1 114 = .ok (.ireturn, 1) := by decide +kernel
theorem zb_Model_column_0 {Γ : zG} {σ : zS} {x1 x2 : Int32} {dc : Nat} {P : Int32 → zS → Prop}  (hm : z_Ci dc zm_Model_isColumn [.inr (63), .inl (x1)] (z_pI σ 63 11 (nI 0)) P) (hdp : dc < z_dep Γ) (k : ∀ r σ1, P r σ1 → z_J Γ zm_Model_column 10 [some (.inr (63)), some (.inl (x1)), some (.inl (x2)), none] [.inl (r)] σ1) : z_J Γ zm_Model_column 0 [some (.inr (63)), some (.inl (x1)), some (.inl (x2)), none] [] σ := by
  refine zj_aload_n zd_Model_column_0 rfl ?_
  refine zj_iconst (v := nI 0) zd_Model_column_1 (by decide) ?_
  refine zj_putI rfl (by decide) rfl zu_Model zy_Model_ok zn_Model (k := 11) (by decide) rfl rfl zl_Model_91 rfl rfl zd_Model_column_2 ?_
  refine zj_aload_n zd_Model_column_5 rfl ?_
  refine zj_iload_n zd_Model_column_6 rfl ?_
  exact zj_callVi (As := [.inl (x1)]) hm hdp rfl (by decide) rfl zl_Model_266 zq_Model_isColumn zd_Model_column_7 rfl (Nat.le_of_ble_eq_true rfl) (fun r σ1 h => (k r σ1 h))
theorem zb_Model_column_10 {Γ : zG} {σ : zS} {x1 x2 y0 : Int32}  (kt : y0 = 0 → z_J Γ zm_Model_column 22 [some (.inr (63)), none, none, none] [] σ) (kf : ¬ y0 = 0 → z_J Γ zm_Model_column 13 [some (.inr (63)), some (.inl (x1)), some (.inl (x2)), none] [] σ) : z_J Γ zm_Model_column 10 [some (.inr (63)), some (.inl (x1)), some (.inl (x2)), none] [.inl (y0)] σ := by
  exact zj_if_eq zd_Model_column_10 (by decide) (fun h => (zj_weak (L' := [some (.inr (63)), none, none, none]) ⟨rfl, trivial⟩ (kt h))) (fun h => (kf h))
theorem zb_Model_column_13 {Γ : zG} {σ : zS} {x1 x2 : Int32} {dc : Nat} {P : Int32 → zS → Prop}  (hm : z_Ci dc zm_Model_in [.inl (x2), .inl (nI 0), .inl (nI 4)] σ P) (hdp : dc < z_dep Γ) (k : ∀ r σ1, P r σ1 → z_J Γ zm_Model_column 19 [some (.inr (63)), some (.inl (x1)), some (.inl (x2)), none] [.inl (r)] σ1) : z_J Γ zm_Model_column 13 [some (.inr (63)), some (.inl (x1)), some (.inl (x2)), none] [] σ := by
  refine zj_iload_n zd_Model_column_13 rfl ?_
  refine zj_iconst (v := nI 0) zd_Model_column_14 (by decide) ?_
  refine zj_iconst (v := nI 4) zd_Model_column_15 (by decide) ?_
  exact zj_callSi (As := [.inl (x2), .inl (nI 0), .inl (nI 4)]) hm hdp zl_Model_100 zq_Model_in zd_Model_column_16 rfl (Nat.le_of_ble_eq_true rfl) (fun r σ1 h => (k r σ1 h))
theorem zb_Model_column_19 {Γ : zG} {σ : zS} {x1 x2 y0 : Int32}  (kt : ¬ y0 = 0 → z_J Γ zm_Model_column 27 [some (.inr (63)), some (.inl (x1)), some (.inl (x2)), none] [] σ) (kf : y0 = 0 → z_J Γ zm_Model_column 22 [some (.inr (63)), none, none, none] [] σ) : z_J Γ zm_Model_column 19 [some (.inr (63)), some (.inl (x1)), some (.inl (x2)), none] [.inl (y0)] σ := by
  exact zj_if_ne zd_Model_column_19 (by decide) (fun h => (kt h)) (fun h => (zj_weak (L' := [some (.inr (63)), none, none, none]) ⟨rfl, trivial⟩ (kf h)))
theorem zb_Model_column_22 {Γ : zG} {σ : zS} {dc : Nat} {P : Int32 → zS → Prop}  (hm : z_Ci dc zm_Model_lost [.inr (63)] σ P) (hdp : dc < z_dep Γ) (k : ∀ r σ1, P r σ1 → z_J Γ zm_Model_column 26 [none, none, none, none] [.inl (r)] σ1) : z_J Γ zm_Model_column 22 [some (.inr (63)), none, none, none] [] σ := by
  refine zj_aload_n zd_Model_column_22 rfl ?_
  exact zj_callVi (As := []) hm hdp rfl (by decide) rfl zl_Model_258 zq_Model_lost zd_Model_column_23 rfl (Nat.le_of_ble_eq_true rfl) (fun r σ1 h => (zj_weak (L' := [none, none, none, none]) trivial (k r σ1 h)))
theorem zb_Model_column_26 {Γ : zG} {σ : zS} {y0 : Int32}  (e : z_end Γ (some (y0)) σ) : z_J Γ zm_Model_column 26 [none, none, none, none] [.inl (y0)] σ := by
  exact zj_ireturn rfl zd_Model_column_26 e
theorem zb_Model_column_27 {Γ : zG} {σ : zS} {x1 x2 : Int32} {dc : Nat} {P : Int32 → zS → Prop}  (hm : z_Ci dc zm_Model_readPile [.inr (63), .inr (64), .inl (x1), .inl (nI 0)] σ P) (hdp : dc < z_dep Γ) (k : ∀ r σ1, P r σ1 → z_J Γ zm_Model_column 37 [some (.inr (63)), some (.inl (x1)), some (.inl (x2)), none] [.inl (r)] σ1) : z_J Γ zm_Model_column 27 [some (.inr (63)), some (.inl (x1)), some (.inl (x2)), none] [] σ := by
  refine zj_aload_n zd_Model_column_27 rfl ?_
  refine zj_aload_n zd_Model_column_28 rfl ?_
  refine zj_getR rfl (by decide) rfl zu_Model (k := 0) (by decide) rfl zl_Model_9 zd_Model_column_29 (o' := 64) rfl ?_
  refine zj_iload_n zd_Model_column_32 rfl ?_
  refine zj_iconst (v := nI 0) zd_Model_column_33 (by decide) ?_
  exact zj_callVi (As := [.inr (64), .inl (x1), .inl (nI 0)]) hm hdp rfl (by decide) rfl zl_Model_236 zq_Model_readPile zd_Model_column_34 rfl (Nat.le_of_ble_eq_true rfl) (fun r σ1 h => (k r σ1 h))
theorem zb_Model_column_37 {Γ : zG} {σ : zS} {x1 x2 y0 : Int32}  (kd : x2.toInt < 0 ∨ 3 < x2.toInt → z_J Γ zm_Model_column 105 [some (.inr (63)), some (.inl (x1)), none, none] [] σ) (k0_ : x2 = nI 0 → z_J Γ zm_Model_column 68 [some (.inr (63)), some (.inl (x1)), none, none] [] σ) (k1_ : x2 = nI 1 → z_J Γ zm_Model_column 78 [none, none, none, some (.inl (y0))] [] σ) (k2_ : x2 = nI 2 → z_J Γ zm_Model_column 80 [some (.inr (63)), none, none, some (.inl (y0))] [] σ) (k3_ : x2 = nI 3 → z_J Γ zm_Model_column 87 [some (.inr (63)), some (.inl (x1)), none, none] [] σ) : z_J Γ zm_Model_column 37 [some (.inr (63)), some (.inl (x1)), some (.inl (x2)), none] [.inl (y0)] σ := by
  refine zj_istore_n (L' := [some (.inr (63)), some (.inl (x1)), some (.inl (x2)), some (.inl (y0))]) zd_Model_column_37 (by decide) rfl ?_
  refine zj_iload_n zd_Model_column_38 rfl ?_
  rcases (show (x2.toInt < 0 ∨ 3 < x2.toInt) ∨ x2.toInt = 0 ∨ x2.toInt = 1 ∨ x2.toInt = 2 ∨ x2.toInt = 3 by omega) with h | h | h | h | h
  · exact zj_tblOut zd_Model_column_39 h (by decide) (zj_weak (L' := [some (.inr (63)), some (.inl (x1)), none, none]) ⟨rfl, ⟨rfl, trivial⟩⟩ (kd h))
  · exact zj_tblIn zd_Model_column_39 (by omega) (by omega) (by rw [h]; rfl) (by decide) (zj_weak (L' := [some (.inr (63)), some (.inl (x1)), none, none]) ⟨rfl, ⟨rfl, trivial⟩⟩ (k0_ (Int32.toInt_inj.mp (by rw [h]; decide))))
  · exact zj_tblIn zd_Model_column_39 (by omega) (by omega) (by rw [h]; rfl) (by decide) (zj_weak (L' := [none, none, none, some (.inl (y0))]) ⟨rfl, trivial⟩ (k1_ (Int32.toInt_inj.mp (by rw [h]; decide))))
  · exact zj_tblIn zd_Model_column_39 (by omega) (by omega) (by rw [h]; rfl) (by decide) (zj_weak (L' := [some (.inr (63)), none, none, some (.inl (y0))]) ⟨rfl, ⟨rfl, trivial⟩⟩ (k2_ (Int32.toInt_inj.mp (by rw [h]; decide))))
  · exact zj_tblIn zd_Model_column_39 (by omega) (by omega) (by rw [h]; rfl) (by decide) (zj_weak (L' := [some (.inr (63)), some (.inl (x1)), none, none]) ⟨rfl, ⟨rfl, trivial⟩⟩ (k3_ (Int32.toInt_inj.mp (by rw [h]; decide))))
theorem zb_Model_column_68 {Γ : zG} {σ : zS} {x1 : Int32} {dc : Nat} {P : Int32 → zS → Prop}  (hm : z_Ci dc zm_Model_heightOf [.inr (63), .inr (64), .inl (x1)] σ P) (hdp : dc < z_dep Γ) (k : ∀ r σ1, P r σ1 → z_J Γ zm_Model_column 77 [none, none, none, none] [.inl (r)] σ1) : z_J Γ zm_Model_column 68 [some (.inr (63)), some (.inl (x1)), none, none] [] σ := by
  refine zj_aload_n zd_Model_column_68 rfl ?_
  refine zj_aload_n zd_Model_column_69 rfl ?_
  refine zj_getR rfl (by decide) rfl zu_Model (k := 0) (by decide) rfl zl_Model_9 zd_Model_column_70 (o' := 64) rfl ?_
  refine zj_iload_n zd_Model_column_73 rfl ?_
  exact zj_callVi (As := [.inr (64), .inl (x1)]) hm hdp rfl (by decide) rfl zl_Model_255 zq_Model_heightOf zd_Model_column_74 rfl (Nat.le_of_ble_eq_true rfl) (fun r σ1 h => (zj_weak (L' := [none, none, none, none]) trivial (k r σ1 h)))
theorem zb_Model_column_77 {Γ : zG} {σ : zS} {y0 : Int32}  (e : z_end Γ (some (y0)) σ) : z_J Γ zm_Model_column 77 [none, none, none, none] [.inl (y0)] σ := by
  exact zj_ireturn rfl zd_Model_column_77 e
theorem zb_Model_column_78 {Γ : zG} {σ : zS} {x3 : Int32}  (e : z_end Γ (some (x3)) σ) : z_J Γ zm_Model_column 78 [none, none, none, some (.inl (x3))] [] σ := by
  refine zj_iload_n zd_Model_column_78 rfl ?_
  exact zj_ireturn rfl zd_Model_column_79 e
theorem zb_Model_column_80 {Γ : zG} {σ : zS} {x3 : Int32} {dc : Nat} {P : Int32 → zS → Prop}  (hm : z_Ci dc zm_Model_above [.inr (63), .inl ((-1)), .inl (x3)] σ P) (hdp : dc < z_dep Γ) (k : ∀ r σ1, P r σ1 → z_J Γ zm_Model_column 86 [none, none, none, none] [.inl (r)] σ1) : z_J Γ zm_Model_column 80 [some (.inr (63)), none, none, some (.inl (x3))] [] σ := by
  refine zj_aload_n zd_Model_column_80 rfl ?_
  refine zj_iconst (v := (-1)) zd_Model_column_81 (by decide) ?_
  refine zj_iload_n zd_Model_column_82 rfl ?_
  exact zj_callVi (As := [.inl ((-1)), .inl (x3)]) hm hdp rfl (by decide) rfl zl_Model_229 zq_Model_above zd_Model_column_83 rfl (Nat.le_of_ble_eq_true rfl) (fun r σ1 h => (zj_weak (L' := [none, none, none, none]) trivial (k r σ1 h)))
theorem zb_Model_column_86 {Γ : zG} {σ : zS} {y0 : Int32}  (e : z_end Γ (some (y0)) σ) : z_J Γ zm_Model_column 86 [none, none, none, none] [.inl (y0)] σ := by
  exact zj_ireturn rfl zd_Model_column_86 e
theorem zb_Model_column_87 {Γ : zG} {σ : zS} {x1 : Int32} {dc : Nat} {P : Int32 → zS → Prop}  (hm : z_Ci dc zm_Model_isHeld [.inr (63), .inr (64), .inl (x1)] σ P) (hdp : dc < z_dep Γ) (k : ∀ r σ1, P r σ1 → z_J Γ zm_Model_column 96 [none, none, none, none] [.inl (r)] σ1) : z_J Γ zm_Model_column 87 [some (.inr (63)), some (.inl (x1)), none, none] [] σ := by
  refine zj_aload_n zd_Model_column_87 rfl ?_
  refine zj_aload_n zd_Model_column_88 rfl ?_
  refine zj_getR rfl (by decide) rfl zu_Model (k := 0) (by decide) rfl zl_Model_9 zd_Model_column_89 (o' := 64) rfl ?_
  refine zj_iload_n zd_Model_column_92 rfl ?_
  exact zj_callVi (As := [.inr (64), .inl (x1)]) hm hdp rfl (by decide) rfl zl_Model_177 zq_Model_isHeld zd_Model_column_93 rfl (Nat.le_of_ble_eq_true rfl) (fun r σ1 h => (zj_weak (L' := [none, none, none, none]) trivial (k r σ1 h)))
theorem zb_Model_column_96 {Γ : zG} {σ : zS} {y0 : Int32}  (kt : y0 = 0 → z_J Γ zm_Model_column 103 [none, none, none, none] [] σ) (kf : ¬ y0 = 0 → z_J Γ zm_Model_column 99 [none, none, none, none] [] σ) : z_J Γ zm_Model_column 96 [none, none, none, none] [.inl (y0)] σ := by
  exact zj_if_eq zd_Model_column_96 (by decide) (fun h => (kt h)) (fun h => (kf h))
theorem zb_Model_column_99 {Γ : zG} {σ : zS}  (k : z_J Γ zm_Model_column 104 [none, none, none, none] [.inl (nI 1)] σ) : z_J Γ zm_Model_column 99 [none, none, none, none] [] σ := by
  refine zj_iconst (v := nI 1) zd_Model_column_99 (by decide) ?_
  exact zj_goto zd_Model_column_100 (by decide) k
theorem zb_Model_column_103 {Γ : zG} {σ : zS}  (k : z_J Γ zm_Model_column 104 [none, none, none, none] [.inl (nI 0)] σ) : z_J Γ zm_Model_column 103 [none, none, none, none] [] σ := by
  refine zj_iconst (v := nI 0) zd_Model_column_103 (by decide) ?_
  exact k
theorem zb_Model_column_104 {Γ : zG} {σ : zS} {y0 : Int32}  (e : z_end Γ (some (y0)) σ) : z_J Γ zm_Model_column 104 [none, none, none, none] [.inl (y0)] σ := by
  exact zj_ireturn rfl zd_Model_column_104 e
theorem zb_Model_column_105 {Γ : zG} {σ : zS} {x1 : Int32} {dc : Nat} {P : Int32 → zS → Prop}  (hm : z_Ci dc zm_Model_highest [.inr (63), .inr (64), .inl (x1)] σ P) (hdp : dc < z_dep Γ) (k : ∀ r σ1, P r σ1 → z_J Γ zm_Model_column 114 [none, none, none, none] [.inl (r)] σ1) : z_J Γ zm_Model_column 105 [some (.inr (63)), some (.inl (x1)), none, none] [] σ := by
  refine zj_aload_n zd_Model_column_105 rfl ?_
  refine zj_aload_n zd_Model_column_106 rfl ?_
  refine zj_getR rfl (by decide) rfl zu_Model (k := 0) (by decide) rfl zl_Model_9 zd_Model_column_107 (o' := 64) rfl ?_
  refine zj_iload_n zd_Model_column_110 rfl ?_
  exact zj_callVi (As := [.inr (64), .inl (x1)]) hm hdp rfl (by decide) rfl zl_Model_269 zq_Model_highest zd_Model_column_111 rfl (Nat.le_of_ble_eq_true rfl) (fun r σ1 h => (zj_weak (L' := [none, none, none, none]) trivial (k r σ1 h)))
theorem zb_Model_column_114 {Γ : zG} {σ : zS} {y0 : Int32}  (e : z_end Γ (some (y0)) σ) : z_J Γ zm_Model_column 114 [none, none, none, none] [.inl (y0)] σ := by
  exact zj_ireturn rfl zd_Model_column_114 e
theorem zd_Model_isColumn_0 : decode zm_Model_isColumn.2.1 0 = .ok (.iload_n 1, 1) := by decide +kernel
theorem zd_Model_isColumn_1 : decode zm_Model_isColumn.2.1 1 = .ok (.iconst 0, 1) := by decide +kernel
theorem zd_Model_isColumn_2 : decode zm_Model_isColumn.2.1 2 = .ok (.aload_n 0, 1) := by decide +kernel
theorem zd_Model_isColumn_3 : decode zm_Model_isColumn.2.1 3 = .ok (.getfield 19, 3) := by decide +kernel
theorem zd_Model_isColumn_6 : decode zm_Model_isColumn.2.1 6 = .ok (.iconst 1, 1) := by decide +kernel
theorem zd_Model_isColumn_7 : decode zm_Model_isColumn.2.1 7 = .ok (.isub, 1) := by decide +kernel
theorem zd_Model_isColumn_8 : decode zm_Model_isColumn.2.1 8 = .ok (.invokestatic 100, 3) := by decide +kernel
theorem zd_Model_isColumn_11 : decode zm_Model_isColumn.2.1 11 = .ok (.ireturn, 1) := by decide +kernel
theorem zb_Model_isColumn_0 {Γ : zG} {σ : zS} {x1 : Int32} {dc : Nat} {P : Int32 → zS → Prop}  (hm : z_Ci dc zm_Model_in [.inl (x1), .inl (nI 0), .inl ((σ.1 63 4) - (nI 1))] σ P) (hdp : dc < z_dep Γ) (k : ∀ r σ1, P r σ1 → z_J Γ zm_Model_isColumn 11 [none, none] [.inl (r)] σ1) : z_J Γ zm_Model_isColumn 0 [some (.inr (63)), some (.inl (x1))] [] σ := by
  refine zj_iload_n zd_Model_isColumn_0 rfl ?_
  refine zj_iconst (v := nI 0) zd_Model_isColumn_1 (by decide) ?_
  refine zj_aload_n zd_Model_isColumn_2 rfl ?_
  refine zj_getI rfl (by decide) rfl zu_Model (k := 4) (by decide) rfl zl_Model_19 zd_Model_isColumn_3 ?_
  refine zj_iconst (v := nI 1) zd_Model_isColumn_6 (by decide) ?_
  refine zj_isub zd_Model_isColumn_7 ?_
  exact zj_callSi (As := [.inl (x1), .inl (nI 0), .inl ((σ.1 63 4) - (nI 1))]) hm hdp zl_Model_100 zq_Model_in zd_Model_isColumn_8 rfl (Nat.le_of_ble_eq_true rfl) (fun r σ1 h => (zj_weak (L' := [none, none]) trivial (k r σ1 h)))
theorem zb_Model_isColumn_11 {Γ : zG} {σ : zS} {y0 : Int32}  (e : z_end Γ (some (y0)) σ) (z1 : y0 = 0 ∨ y0 = 1) : z_J Γ zm_Model_isColumn 11 [none, none] [.inl (y0)] σ := by
  exact zj_zreturn rfl z1 zd_Model_isColumn_11 e
theorem zd_Model_heightOf_0 : decode zm_Model_heightOf.2.1 0 = .ok (.aload_n 0, 1) := by decide +kernel
theorem zd_Model_heightOf_1 : decode zm_Model_heightOf.2.1 1 = .ok (.aload_n 0, 1) := by decide +kernel
theorem zd_Model_heightOf_2 : decode zm_Model_heightOf.2.1 2 = .ok (.aload_n 1, 1) := by decide +kernel
theorem zd_Model_heightOf_3 : decode zm_Model_heightOf.2.1 3 = .ok (.iload_n 2, 1) := by decide +kernel
theorem zd_Model_heightOf_4 : decode zm_Model_heightOf.2.1 4 = .ok (.invokevirtual 247, 3) := by decide +kernel
theorem zd_Model_heightOf_7 : decode zm_Model_heightOf.2.1 7 = .ok (.invokevirtual 251, 3) := by decide +kernel
theorem zd_Model_heightOf_10 : decode zm_Model_heightOf.2.1 10 = .ok (.ireturn, 1) := by decide +kernel
theorem zb_Model_heightOf_0 {Γ : zG} {σ : zS} {a1 : Nat} {x2 : Int32} {dc : Nat} {P : Int32 → zS → Prop} (h_a1 : z_kd a1 = (11, 53)) (hm : z_Ci dc zm_Model_inColumn [.inr (63), .inr (a1), .inl (x2)] σ P) (hdp : dc < z_dep Γ) (k : ∀ r σ1, P r σ1 → z_J Γ zm_Model_heightOf 7 [none, none, none] [.inl (r), .inr (63)] σ1) : z_J Γ zm_Model_heightOf 0 [some (.inr (63)), some (.inr (a1)), some (.inl (x2))] [] σ := by
  refine zj_aload_n zd_Model_heightOf_0 rfl ?_
  refine zj_aload_n zd_Model_heightOf_1 rfl ?_
  refine zj_aload_n zd_Model_heightOf_2 rfl ?_
  refine zj_iload_n zd_Model_heightOf_3 rfl ?_
  exact zj_callVi (As := [.inr (a1), .inl (x2)]) hm hdp rfl (by decide) rfl zl_Model_247 zq_Model_inColumn zd_Model_heightOf_4 rfl (Nat.le_of_ble_eq_true rfl) (fun r σ1 h => (zj_weak (L' := [none, none, none]) trivial (k r σ1 h)))
theorem zb_Model_heightOf_7 {Γ : zG} {σ : zS} {y0 : Int32} {dc : Nat} {P : Int32 → zS → Prop}  (hm : z_Ci dc zm_Model_thickOf [.inr (63), .inl (y0)] σ P) (hdp : dc < z_dep Γ) (k : ∀ r σ1, P r σ1 → z_J Γ zm_Model_heightOf 10 [none, none, none] [.inl (r)] σ1) : z_J Γ zm_Model_heightOf 7 [none, none, none] [.inl (y0), .inr (63)] σ := by
  exact zj_callVi (As := [.inl (y0)]) hm hdp rfl (by decide) rfl zl_Model_251 zq_Model_thickOf zd_Model_heightOf_7 rfl (Nat.le_of_ble_eq_true rfl) (fun r σ1 h => (k r σ1 h))
theorem zb_Model_heightOf_10 {Γ : zG} {σ : zS} {y0 : Int32}  (e : z_end Γ (some (y0)) σ) : z_J Γ zm_Model_heightOf 10 [none, none, none] [.inl (y0)] σ := by
  exact zj_ireturn rfl zd_Model_heightOf_10 e
theorem zd_Model_thickOf_0 : decode zm_Model_thickOf.2.1 0 = .ok (.iconst 0, 1) := by decide +kernel
theorem zd_Model_thickOf_1 : decode zm_Model_thickOf.2.1 1 = .ok (.istore_n 2, 1) := by decide +kernel
theorem zd_Model_thickOf_2 : decode zm_Model_thickOf.2.1 2 = .ok (.iconst 0, 1) := by decide +kernel
theorem zd_Model_thickOf_3 : decode zm_Model_thickOf.2.1 3 = .ok (.istore_n 3, 1) := by decide +kernel
theorem zd_Model_thickOf_4 : decode zm_Model_thickOf.2.1 4 = .ok (.iload_n 3, 1) := by decide +kernel
theorem zd_Model_thickOf_5 : decode zm_Model_thickOf.2.1 5 = .ok (.aload_n 0, 1) := by decide +kernel
theorem zd_Model_thickOf_6 : decode zm_Model_thickOf.2.1 6 = .ok (.getfield 97, 3) := by decide +kernel
theorem zd_Model_thickOf_9 : decode zm_Model_thickOf.2.1 9 = .ok (.if_icmp .ge 30, 3) := by decide +kernel
theorem zd_Model_thickOf_12 : decode zm_Model_thickOf.2.1 12 = .ok (.iload_n 2, 1) := by decide +kernel
theorem zd_Model_thickOf_13 : decode zm_Model_thickOf.2.1 13 = .ok (.iload_n 1, 1) := by decide +kernel
theorem zd_Model_thickOf_14 : decode zm_Model_thickOf.2.1 14 = .ok (.iload_n 3, 1) := by decide +kernel
theorem zd_Model_thickOf_15 : decode zm_Model_thickOf.2.1 15 = .ok (.invokestatic 169, 3) := by decide +kernel
theorem zd_Model_thickOf_18 : decode zm_Model_thickOf.2.1 18 = .ok (.ifCond .eq 12, 3) := by decide +kernel
theorem zd_Model_thickOf_21 : decode zm_Model_thickOf.2.1 21 = .ok (.aload_n 0, 1) := by decide +kernel
theorem zd_Model_thickOf_22 : decode zm_Model_thickOf.2.1 22 = .ok (.getfield 13, 3) := by decide +kernel
theorem zd_Model_thickOf_25 : decode zm_Model_thickOf.2.1 25 = .ok (.iload_n 3, 1) := by decide +kernel
theorem zd_Model_thickOf_26 : decode zm_Model_thickOf.2.1 26 = .ok (.iaload, 1) := by decide +kernel
theorem zd_Model_thickOf_27 : decode zm_Model_thickOf.2.1 27 = .ok (.goto 4, 3) := by decide +kernel
theorem zd_Model_thickOf_30 : decode zm_Model_thickOf.2.1 30 = .ok (.iconst 0, 1) := by decide +kernel
theorem zd_Model_thickOf_31 : decode zm_Model_thickOf.2.1 31 = .ok (.iadd, 1) := by decide +kernel
theorem zd_Model_thickOf_32 : decode zm_Model_thickOf.2.1 32 = .ok (.istore_n 2, 1) := by decide +kernel
theorem zd_Model_thickOf_33 : decode zm_Model_thickOf.2.1 33 = .ok (.iinc 3 1, 3) := by decide +kernel
theorem zd_Model_thickOf_36 : decode zm_Model_thickOf.2.1 36 = .ok (.goto (-32), 3) := by decide +kernel
theorem zd_Model_thickOf_39 : decode zm_Model_thickOf.2.1 39 = .ok (.iload_n 2, 1) := by decide +kernel
theorem zd_Model_thickOf_40 : decode zm_Model_thickOf.2.1 40 = .ok (.ireturn, 1) := by decide +kernel
theorem zb_Model_thickOf_0 {Γ : zG} {σ : zS} {x1 : Int32}  (k : z_J Γ zm_Model_thickOf 4 [some (.inr (63)), some (.inl (x1)), some (.inl (nI 0)), some (.inl (nI 0))] [] σ) : z_J Γ zm_Model_thickOf 0 [some (.inr (63)), some (.inl (x1)), none, none] [] σ := by
  refine zj_iconst (v := nI 0) zd_Model_thickOf_0 (by decide) ?_
  refine zj_istore_n (L' := [some (.inr (63)), some (.inl (x1)), some (.inl (nI 0)), none]) zd_Model_thickOf_1 (by decide) rfl ?_
  refine zj_iconst (v := nI 0) zd_Model_thickOf_2 (by decide) ?_
  refine zj_istore_n (L' := [some (.inr (63)), some (.inl (x1)), some (.inl (nI 0)), some (.inl (nI 0))]) zd_Model_thickOf_3 (by decide) rfl ?_
  exact k
theorem zb_Model_thickOf_4 {Γ : zG} {σ : zS} {x1 x2 x3 : Int32}  (kt : (σ.1 63 1) ≤ x3 → z_J Γ zm_Model_thickOf 39 [none, none, some (.inl (x2)), none] [] σ) (kf : ¬ (σ.1 63 1) ≤ x3 → z_J Γ zm_Model_thickOf 12 [some (.inr (63)), some (.inl (x1)), some (.inl (x2)), some (.inl (x3))] [] σ) : z_J Γ zm_Model_thickOf 4 [some (.inr (63)), some (.inl (x1)), some (.inl (x2)), some (.inl (x3))] [] σ := by
  refine zj_iload_n zd_Model_thickOf_4 rfl ?_
  refine zj_aload_n zd_Model_thickOf_5 rfl ?_
  refine zj_getI rfl (by decide) rfl zu_Model (k := 1) (by decide) rfl zl_Model_97 zd_Model_thickOf_6 ?_
  exact zj_icmp_ge zd_Model_thickOf_9 (by decide) (fun h => (zj_weak (L' := [none, none, some (.inl (x2)), none]) ⟨rfl, trivial⟩ (kt h))) (fun h => (kf h))
theorem zb_Model_thickOf_12 {Γ : zG} {σ : zS} {x1 x2 x3 : Int32} {dc : Nat} {P : Int32 → zS → Prop}  (hm : z_Ci dc zm_Model_has [.inl (x1), .inl (x3)] σ P) (hdp : dc < z_dep Γ) (k : ∀ r σ1, P r σ1 → z_J Γ zm_Model_thickOf 18 [some (.inr (63)), some (.inl (x1)), none, some (.inl (x3))] [.inl (r), .inl (x2)] σ1) : z_J Γ zm_Model_thickOf 12 [some (.inr (63)), some (.inl (x1)), some (.inl (x2)), some (.inl (x3))] [] σ := by
  refine zj_iload_n zd_Model_thickOf_12 rfl ?_
  refine zj_iload_n zd_Model_thickOf_13 rfl ?_
  refine zj_iload_n zd_Model_thickOf_14 rfl ?_
  exact zj_callSi (As := [.inl (x1), .inl (x3)]) hm hdp zl_Model_169 zq_Model_has zd_Model_thickOf_15 rfl (Nat.le_of_ble_eq_true rfl) (fun r σ1 h => (zj_weak (L' := [some (.inr (63)), some (.inl (x1)), none, some (.inl (x3))]) ⟨rfl, ⟨rfl, ⟨rfl, trivial⟩⟩⟩ (k r σ1 h)))
theorem zb_Model_thickOf_18 {Γ : zG} {σ : zS} {x1 x3 y0 y1 : Int32}  (kt : y0 = 0 → z_J Γ zm_Model_thickOf 30 [some (.inr (63)), some (.inl (x1)), none, some (.inl (x3))] [.inl (y1)] σ) (kf : ¬ y0 = 0 → z_J Γ zm_Model_thickOf 21 [some (.inr (63)), some (.inl (x1)), none, some (.inl (x3))] [.inl (y1)] σ) : z_J Γ zm_Model_thickOf 18 [some (.inr (63)), some (.inl (x1)), none, some (.inl (x3))] [.inl (y0), .inl (y1)] σ := by
  exact zj_if_eq zd_Model_thickOf_18 (by decide) (fun h => (kt h)) (fun h => (kf h))
theorem zb_Model_thickOf_21 {Γ : zG} {σ : zS} {x1 x3 y0 : Int32} {k1 : Nat}  (b1 : z_ix x3 12 k1) (k : z_J Γ zm_Model_thickOf 31 [some (.inr (63)), some (.inl (x1)), none, some (.inl (x3))] [.inl (σ.1 65 k1), .inl (y0)] σ) : z_J Γ zm_Model_thickOf 21 [some (.inr (63)), some (.inl (x1)), none, some (.inl (x3))] [.inl (y0)] σ := by
  refine zj_aload_n zd_Model_thickOf_21 rfl ?_
  refine zj_getR rfl (by decide) rfl zu_Model (k := 2) (by decide) rfl zl_Model_13 zd_Model_thickOf_22 (o' := 65) rfl ?_
  refine zj_iload_n zd_Model_thickOf_25 rfl ?_
  refine zj_iaload rfl (by decide) b1 zd_Model_thickOf_26 ?_
  exact zj_goto zd_Model_thickOf_27 (by decide) k
theorem zb_Model_thickOf_30 {Γ : zG} {σ : zS} {x1 x3 y0 : Int32}  (k : z_J Γ zm_Model_thickOf 31 [some (.inr (63)), some (.inl (x1)), none, some (.inl (x3))] [.inl (nI 0), .inl (y0)] σ) : z_J Γ zm_Model_thickOf 30 [some (.inr (63)), some (.inl (x1)), none, some (.inl (x3))] [.inl (y0)] σ := by
  refine zj_iconst (v := nI 0) zd_Model_thickOf_30 (by decide) ?_
  exact k
theorem zb_Model_thickOf_31 {Γ : zG} {σ : zS} {x1 x3 y0 y1 : Int32}  (k : z_J Γ zm_Model_thickOf 4 [some (.inr (63)), some (.inl (x1)), some (.inl (y1 + y0)), some (.inl (x3 + nI 1))] [] σ) : z_J Γ zm_Model_thickOf 31 [some (.inr (63)), some (.inl (x1)), none, some (.inl (x3))] [.inl (y0), .inl (y1)] σ := by
  refine zj_iadd zd_Model_thickOf_31 ?_
  refine zj_istore_n (L' := [some (.inr (63)), some (.inl (x1)), some (.inl (y1 + y0)), some (.inl (x3))]) zd_Model_thickOf_32 (by decide) rfl ?_
  refine zj_iinc (v := nI 1) (L' := [some (.inr (63)), some (.inl (x1)), some (.inl (y1 + y0)), some (.inl (x3 + nI 1))]) zd_Model_thickOf_33 rfl (by decide) (by decide) rfl ?_
  exact zj_goto zd_Model_thickOf_36 (by decide) k
theorem zb_Model_thickOf_39 {Γ : zG} {σ : zS} {x2 : Int32}  (e : z_end Γ (some (x2)) σ) : z_J Γ zm_Model_thickOf 39 [none, none, some (.inl (x2)), none] [] σ := by
  refine zj_iload_n zd_Model_thickOf_39 rfl ?_
  exact zj_ireturn rfl zd_Model_thickOf_40 e
theorem zd_Model_highest_0 : decode zm_Model_highest.2.1 0 = .ok (.aload_n 0, 1) := by decide +kernel
theorem zd_Model_highest_1 : decode zm_Model_highest.2.1 1 = .ok (.aload_n 1, 1) := by decide +kernel
theorem zd_Model_highest_2 : decode zm_Model_highest.2.1 2 = .ok (.iload_n 2, 1) := by decide +kernel
theorem zd_Model_highest_3 : decode zm_Model_highest.2.1 3 = .ok (.iconst 0, 1) := by decide +kernel
theorem zd_Model_highest_4 : decode zm_Model_highest.2.1 4 = .ok (.invokevirtual 236, 3) := by decide +kernel
theorem zd_Model_highest_7 : decode zm_Model_highest.2.1 7 = .ok (.istore_n 3, 1) := by decide +kernel
theorem zd_Model_highest_8 : decode zm_Model_highest.2.1 8 = .ok (.iload_n 3, 1) := by decide +kernel
theorem zd_Model_highest_9 : decode zm_Model_highest.2.1 9 = .ok (.ifCond .ne 7, 3) := by decide +kernel
theorem zd_Model_highest_12 : decode zm_Model_highest.2.1 12 = .ok (.iconst (-1), 1) := by decide +kernel
theorem zd_Model_highest_13 : decode zm_Model_highest.2.1 13 = .ok (.goto 11, 3) := by decide +kernel
theorem zd_Model_highest_16 : decode zm_Model_highest.2.1 16 = .ok (.aload_n 0, 1) := by decide +kernel
theorem zd_Model_highest_17 : decode zm_Model_highest.2.1 17 = .ok (.getfield 51, 3) := by decide +kernel
theorem zd_Model_highest_20 : decode zm_Model_highest.2.1 20 = .ok (.iload_n 3, 1) := by decide +kernel
theorem zd_Model_highest_21 : decode zm_Model_highest.2.1 21 = .ok (.iconst 1, 1) := by decide +kernel
theorem zd_Model_highest_22 : decode zm_Model_highest.2.1 22 = .ok (.isub, 1) := by decide +kernel
theorem zd_Model_highest_23 : decode zm_Model_highest.2.1 23 = .ok (.iaload, 1) := by decide +kernel
theorem zd_Model_highest_24 : decode zm_Model_highest.2.1 24 = .ok (.ireturn, 1) := by decide +kernel
theorem zb_Model_highest_0 {Γ : zG} {σ : zS} {a1 : Nat} {x2 : Int32} {dc : Nat} {P : Int32 → zS → Prop} (h_a1 : z_kd a1 = (11, 53)) (hm : z_Ci dc zm_Model_readPile [.inr (63), .inr (a1), .inl (x2), .inl (nI 0)] σ P) (hdp : dc < z_dep Γ) (k : ∀ r σ1, P r σ1 → z_J Γ zm_Model_highest 7 [some (.inr (63)), none, none, none] [.inl (r)] σ1) : z_J Γ zm_Model_highest 0 [some (.inr (63)), some (.inr (a1)), some (.inl (x2)), none] [] σ := by
  refine zj_aload_n zd_Model_highest_0 rfl ?_
  refine zj_aload_n zd_Model_highest_1 rfl ?_
  refine zj_iload_n zd_Model_highest_2 rfl ?_
  refine zj_iconst (v := nI 0) zd_Model_highest_3 (by decide) ?_
  exact zj_callVi (As := [.inr (a1), .inl (x2), .inl (nI 0)]) hm hdp rfl (by decide) rfl zl_Model_236 zq_Model_readPile zd_Model_highest_4 rfl (Nat.le_of_ble_eq_true rfl) (fun r σ1 h => (zj_weak (L' := [some (.inr (63)), none, none, none]) ⟨rfl, trivial⟩ (k r σ1 h)))
theorem zb_Model_highest_7 {Γ : zG} {σ : zS} {y0 : Int32}  (kt : ¬ y0 = 0 → z_J Γ zm_Model_highest 16 [some (.inr (63)), none, none, some (.inl (y0))] [] σ) (kf : y0 = 0 → z_J Γ zm_Model_highest 12 [none, none, none, none] [] σ) : z_J Γ zm_Model_highest 7 [some (.inr (63)), none, none, none] [.inl (y0)] σ := by
  refine zj_istore_n (L' := [some (.inr (63)), none, none, some (.inl (y0))]) zd_Model_highest_7 (by decide) rfl ?_
  refine zj_iload_n zd_Model_highest_8 rfl ?_
  exact zj_if_ne zd_Model_highest_9 (by decide) (fun h => (kt h)) (fun h => (zj_weak (L' := [none, none, none, none]) trivial (kf h)))
theorem zb_Model_highest_12 {Γ : zG} {σ : zS}  (k : z_J Γ zm_Model_highest 24 [none, none, none, none] [.inl ((-1))] σ) : z_J Γ zm_Model_highest 12 [none, none, none, none] [] σ := by
  refine zj_iconst (v := (-1)) zd_Model_highest_12 (by decide) ?_
  exact zj_goto zd_Model_highest_13 (by decide) k
theorem zb_Model_highest_16 {Γ : zG} {σ : zS} {x3 : Int32} {k1 : Nat}  (b1 : z_ix (x3 - (nI 1)) 4 k1) (k : z_J Γ zm_Model_highest 24 [none, none, none, none] [.inl (σ.1 75 k1)] σ) : z_J Γ zm_Model_highest 16 [some (.inr (63)), none, none, some (.inl (x3))] [] σ := by
  refine zj_aload_n zd_Model_highest_16 rfl ?_
  refine zj_getR rfl (by decide) rfl zu_Model (k := 25) (by decide) rfl zl_Model_51 zd_Model_highest_17 (o' := 75) rfl ?_
  refine zj_iload_n zd_Model_highest_20 rfl ?_
  refine zj_iconst (v := nI 1) zd_Model_highest_21 (by decide) ?_
  refine zj_isub zd_Model_highest_22 ?_
  refine zj_iaload rfl (by decide) b1 zd_Model_highest_23 ?_
  exact (zj_weak (L' := [none, none, none, none]) trivial k)
theorem zb_Model_highest_24 {Γ : zG} {σ : zS} {y0 : Int32}  (e : z_end Γ (some (y0)) σ) : z_J Γ zm_Model_highest 24 [none, none, none, none] [.inl (y0)] σ := by
  exact zj_ireturn rfl zd_Model_highest_24 e
theorem zd_Model_reader_0 : decode zm_Model_reader.2.1 0 = .ok (.aload_n 0, 1) := by decide +kernel
theorem zd_Model_reader_1 : decode zm_Model_reader.2.1 1 = .ok (.iconst 0, 1) := by decide +kernel
theorem zd_Model_reader_2 : decode zm_Model_reader.2.1 2 = .ok (.putfield 91, 3) := by decide +kernel
theorem zd_Model_reader_5 : decode zm_Model_reader.2.1 5 = .ok (.aload_n 0, 1) := by decide +kernel
theorem zd_Model_reader_6 : decode zm_Model_reader.2.1 6 = .ok (.iload_n 1, 1) := by decide +kernel
theorem zd_Model_reader_7 : decode zm_Model_reader.2.1 7 = .ok (.invokevirtual 272, 3) := by decide +kernel
theorem zd_Model_reader_10 : decode zm_Model_reader.2.1 10 = .ok (.ifCond .eq 12, 3) := by decide +kernel
theorem zd_Model_reader_13 : decode zm_Model_reader.2.1 13 = .ok (.iload_n 2, 1) := by decide +kernel
theorem zd_Model_reader_14 : decode zm_Model_reader.2.1 14 = .ok (.iconst 0, 1) := by decide +kernel
theorem zd_Model_reader_15 : decode zm_Model_reader.2.1 15 = .ok (.iconst 2, 1) := by decide +kernel
theorem zd_Model_reader_16 : decode zm_Model_reader.2.1 16 = .ok (.invokestatic 100, 3) := by decide +kernel
theorem zd_Model_reader_19 : decode zm_Model_reader.2.1 19 = .ok (.ifCond .ne 8, 3) := by decide +kernel
theorem zd_Model_reader_22 : decode zm_Model_reader.2.1 22 = .ok (.aload_n 0, 1) := by decide +kernel
theorem zd_Model_reader_23 : decode zm_Model_reader.2.1 23 = .ok (.invokevirtual 258, 3) := by decide +kernel
theorem zd_Model_reader_26 : decode zm_Model_reader.2.1 26 = .ok (.ireturn, 1) := by decide +kernel
theorem zd_Model_reader_27 : decode zm_Model_reader.2.1 27 = .ok (.iload_n 2, 1) := by decide +kernel
theorem zd_Model_reader_28 : decode zm_Model_reader.2.1 28 = .ok (.ifCond .ne 12, 3) := by decide +kernel
theorem zd_Model_reader_31 : decode zm_Model_reader.2.1 31 = .ok (.aload_n 0, 1) := by decide +kernel
theorem zd_Model_reader_32 : decode zm_Model_reader.2.1 32 = .ok (.getfield 23, 3) := by decide +kernel
theorem zd_Model_reader_35 : decode zm_Model_reader.2.1 35 = .ok (.iload_n 1, 1) := by decide +kernel
theorem zd_Model_reader_36 : decode zm_Model_reader.2.1 36 = .ok (.iaload, 1) := by decide +kernel
theorem zd_Model_reader_37 : decode zm_Model_reader.2.1 37 = .ok (.goto 29, 3) := by decide +kernel
theorem zd_Model_reader_40 : decode zm_Model_reader.2.1 40 = .ok (.iload_n 2, 1) := by decide +kernel
theorem zd_Model_reader_41 : decode zm_Model_reader.2.1 41 = .ok (.iconst 1, 1) := by decide +kernel
theorem zd_Model_reader_42 : decode zm_Model_reader.2.1 42 = .ok (.if_icmp .ne 15, 3) := by decide +kernel
theorem zd_Model_reader_45 : decode zm_Model_reader.2.1 45 = .ok (.aload_n 0, 1) := by decide +kernel
theorem zd_Model_reader_46 : decode zm_Model_reader.2.1 46 = .ok (.getfield 9, 3) := by decide +kernel
theorem zd_Model_reader_49 : decode zm_Model_reader.2.1 49 = .ok (.bipush 49, 2) := by decide +kernel
theorem zd_Model_reader_51 : decode zm_Model_reader.2.1 51 = .ok (.iload_n 1, 1) := by decide +kernel
theorem zd_Model_reader_52 : decode zm_Model_reader.2.1 52 = .ok (.iadd, 1) := by decide +kernel
theorem zd_Model_reader_53 : decode zm_Model_reader.2.1 53 = .ok (.iaload, 1) := by decide +kernel
theorem zd_Model_reader_54 : decode zm_Model_reader.2.1 54 = .ok (.goto 12, 3) := by decide +kernel
theorem zd_Model_reader_57 : decode zm_Model_reader.2.1 57 = .ok (.aload_n 0, 1) := by decide +kernel
theorem zd_Model_reader_58 : decode zm_Model_reader.2.1 58 = .ok (.aload_n 0, 1) := by decide +kernel
theorem zd_Model_reader_59 : decode zm_Model_reader.2.1 59 = .ok (.getfield 9, 3) := by decide +kernel
theorem zd_Model_reader_62 : decode zm_Model_reader.2.1 62 = .ok (.iload_n 1, 1) := by decide +kernel
theorem zd_Model_reader_63 : decode zm_Model_reader.2.1 63 = .ok (.invokevirtual 275, 3) := by decide +kernel
theorem zd_Model_reader_66 : decode zm_Model_reader.2.1 66 = .ok (.ireturn, 1) := by decide +kernel
theorem zb_Model_reader_0 {Γ : zG} {σ : zS} {x1 x2 : Int32} {dc : Nat} {P : Int32 → zS → Prop}  (hm : z_Ci dc zm_Model_isReader [.inr (63), .inl (x1)] (z_pI σ 63 11 (nI 0)) P) (hdp : dc < z_dep Γ) (k : ∀ r σ1, P r σ1 → z_J Γ zm_Model_reader 10 [some (.inr (63)), some (.inl (x1)), some (.inl (x2))] [.inl (r)] σ1) : z_J Γ zm_Model_reader 0 [some (.inr (63)), some (.inl (x1)), some (.inl (x2))] [] σ := by
  refine zj_aload_n zd_Model_reader_0 rfl ?_
  refine zj_iconst (v := nI 0) zd_Model_reader_1 (by decide) ?_
  refine zj_putI rfl (by decide) rfl zu_Model zy_Model_ok zn_Model (k := 11) (by decide) rfl rfl zl_Model_91 rfl rfl zd_Model_reader_2 ?_
  refine zj_aload_n zd_Model_reader_5 rfl ?_
  refine zj_iload_n zd_Model_reader_6 rfl ?_
  exact zj_callVi (As := [.inl (x1)]) hm hdp rfl (by decide) rfl zl_Model_272 zq_Model_isReader zd_Model_reader_7 rfl (Nat.le_of_ble_eq_true rfl) (fun r σ1 h => (k r σ1 h))
theorem zb_Model_reader_10 {Γ : zG} {σ : zS} {x1 x2 y0 : Int32}  (kt : y0 = 0 → z_J Γ zm_Model_reader 22 [some (.inr (63)), none, none] [] σ) (kf : ¬ y0 = 0 → z_J Γ zm_Model_reader 13 [some (.inr (63)), some (.inl (x1)), some (.inl (x2))] [] σ) : z_J Γ zm_Model_reader 10 [some (.inr (63)), some (.inl (x1)), some (.inl (x2))] [.inl (y0)] σ := by
  exact zj_if_eq zd_Model_reader_10 (by decide) (fun h => (zj_weak (L' := [some (.inr (63)), none, none]) ⟨rfl, trivial⟩ (kt h))) (fun h => (kf h))
theorem zb_Model_reader_13 {Γ : zG} {σ : zS} {x1 x2 : Int32} {dc : Nat} {P : Int32 → zS → Prop}  (hm : z_Ci dc zm_Model_in [.inl (x2), .inl (nI 0), .inl (nI 2)] σ P) (hdp : dc < z_dep Γ) (k : ∀ r σ1, P r σ1 → z_J Γ zm_Model_reader 19 [some (.inr (63)), some (.inl (x1)), some (.inl (x2))] [.inl (r)] σ1) : z_J Γ zm_Model_reader 13 [some (.inr (63)), some (.inl (x1)), some (.inl (x2))] [] σ := by
  refine zj_iload_n zd_Model_reader_13 rfl ?_
  refine zj_iconst (v := nI 0) zd_Model_reader_14 (by decide) ?_
  refine zj_iconst (v := nI 2) zd_Model_reader_15 (by decide) ?_
  exact zj_callSi (As := [.inl (x2), .inl (nI 0), .inl (nI 2)]) hm hdp zl_Model_100 zq_Model_in zd_Model_reader_16 rfl (Nat.le_of_ble_eq_true rfl) (fun r σ1 h => (k r σ1 h))
theorem zb_Model_reader_19 {Γ : zG} {σ : zS} {x1 x2 y0 : Int32}  (kt : ¬ y0 = 0 → z_J Γ zm_Model_reader 27 [some (.inr (63)), some (.inl (x1)), some (.inl (x2))] [] σ) (kf : y0 = 0 → z_J Γ zm_Model_reader 22 [some (.inr (63)), none, none] [] σ) : z_J Γ zm_Model_reader 19 [some (.inr (63)), some (.inl (x1)), some (.inl (x2))] [.inl (y0)] σ := by
  exact zj_if_ne zd_Model_reader_19 (by decide) (fun h => (kt h)) (fun h => (zj_weak (L' := [some (.inr (63)), none, none]) ⟨rfl, trivial⟩ (kf h)))
theorem zb_Model_reader_22 {Γ : zG} {σ : zS} {dc : Nat} {P : Int32 → zS → Prop}  (hm : z_Ci dc zm_Model_lost [.inr (63)] σ P) (hdp : dc < z_dep Γ) (k : ∀ r σ1, P r σ1 → z_J Γ zm_Model_reader 26 [none, none, none] [.inl (r)] σ1) : z_J Γ zm_Model_reader 22 [some (.inr (63)), none, none] [] σ := by
  refine zj_aload_n zd_Model_reader_22 rfl ?_
  exact zj_callVi (As := []) hm hdp rfl (by decide) rfl zl_Model_258 zq_Model_lost zd_Model_reader_23 rfl (Nat.le_of_ble_eq_true rfl) (fun r σ1 h => (zj_weak (L' := [none, none, none]) trivial (k r σ1 h)))
theorem zb_Model_reader_26 {Γ : zG} {σ : zS} {y0 : Int32}  (e : z_end Γ (some (y0)) σ) : z_J Γ zm_Model_reader 26 [none, none, none] [.inl (y0)] σ := by
  exact zj_ireturn rfl zd_Model_reader_26 e
theorem zb_Model_reader_27 {Γ : zG} {σ : zS} {x1 x2 : Int32}  (kt : ¬ x2 = 0 → z_J Γ zm_Model_reader 40 [some (.inr (63)), some (.inl (x1)), some (.inl (x2))] [] σ) (kf : x2 = 0 → z_J Γ zm_Model_reader 31 [some (.inr (63)), some (.inl (x1)), none] [] σ) : z_J Γ zm_Model_reader 27 [some (.inr (63)), some (.inl (x1)), some (.inl (x2))] [] σ := by
  refine zj_iload_n zd_Model_reader_27 rfl ?_
  exact zj_if_ne zd_Model_reader_28 (by decide) (fun h => (kt h)) (fun h => (zj_weak (L' := [some (.inr (63)), some (.inl (x1)), none]) ⟨rfl, ⟨rfl, trivial⟩⟩ (kf h)))
theorem zb_Model_reader_31 {Γ : zG} {σ : zS} {x1 : Int32} {k1 : Nat}  (b1 : z_ix x1 4 k1) (k : z_J Γ zm_Model_reader 66 [none, none, none] [.inl (σ.1 67 k1)] σ) : z_J Γ zm_Model_reader 31 [some (.inr (63)), some (.inl (x1)), none] [] σ := by
  refine zj_aload_n zd_Model_reader_31 rfl ?_
  refine zj_getR rfl (by decide) rfl zu_Model (k := 6) (by decide) rfl zl_Model_23 zd_Model_reader_32 (o' := 67) rfl ?_
  refine zj_iload_n zd_Model_reader_35 rfl ?_
  refine zj_iaload rfl (by decide) b1 zd_Model_reader_36 ?_
  exact zj_goto zd_Model_reader_37 (by decide) (zj_weak (L' := [none, none, none]) trivial k)
theorem zb_Model_reader_40 {Γ : zG} {σ : zS} {x1 x2 : Int32}  (kt : ¬ x2 = (nI 1) → z_J Γ zm_Model_reader 57 [some (.inr (63)), some (.inl (x1)), none] [] σ) (kf : x2 = (nI 1) → z_J Γ zm_Model_reader 45 [some (.inr (63)), some (.inl (x1)), none] [] σ) : z_J Γ zm_Model_reader 40 [some (.inr (63)), some (.inl (x1)), some (.inl (x2))] [] σ := by
  refine zj_iload_n zd_Model_reader_40 rfl ?_
  refine zj_iconst (v := nI 1) zd_Model_reader_41 (by decide) ?_
  exact zj_icmp_ne zd_Model_reader_42 (by decide) (fun h => (zj_weak (L' := [some (.inr (63)), some (.inl (x1)), none]) ⟨rfl, ⟨rfl, trivial⟩⟩ (kt h))) (fun h => (zj_weak (L' := [some (.inr (63)), some (.inl (x1)), none]) ⟨rfl, ⟨rfl, trivial⟩⟩ (kf h)))
theorem zb_Model_reader_45 {Γ : zG} {σ : zS} {x1 : Int32} {k1 : Nat}  (b1 : z_ix ((nI 49) + x1) 53 k1) (k : z_J Γ zm_Model_reader 66 [none, none, none] [.inl (σ.1 64 k1)] σ) : z_J Γ zm_Model_reader 45 [some (.inr (63)), some (.inl (x1)), none] [] σ := by
  refine zj_aload_n zd_Model_reader_45 rfl ?_
  refine zj_getR rfl (by decide) rfl zu_Model (k := 0) (by decide) rfl zl_Model_9 zd_Model_reader_46 (o' := 64) rfl ?_
  refine zj_bipush (v := nI 49) zd_Model_reader_49 (by decide) ?_
  refine zj_iload_n zd_Model_reader_51 rfl ?_
  refine zj_iadd zd_Model_reader_52 ?_
  refine zj_iaload rfl (by decide) b1 zd_Model_reader_53 ?_
  exact zj_goto zd_Model_reader_54 (by decide) (zj_weak (L' := [none, none, none]) trivial k)
theorem zb_Model_reader_57 {Γ : zG} {σ : zS} {x1 : Int32} {dc : Nat} {P : Int32 → zS → Prop}  (hm : z_Ci dc zm_Model_lentTo [.inr (63), .inr (64), .inl (x1)] σ P) (hdp : dc < z_dep Γ) (k : ∀ r σ1, P r σ1 → z_J Γ zm_Model_reader 66 [none, none, none] [.inl (r)] σ1) : z_J Γ zm_Model_reader 57 [some (.inr (63)), some (.inl (x1)), none] [] σ := by
  refine zj_aload_n zd_Model_reader_57 rfl ?_
  refine zj_aload_n zd_Model_reader_58 rfl ?_
  refine zj_getR rfl (by decide) rfl zu_Model (k := 0) (by decide) rfl zl_Model_9 zd_Model_reader_59 (o' := 64) rfl ?_
  refine zj_iload_n zd_Model_reader_62 rfl ?_
  exact zj_callVi (As := [.inr (64), .inl (x1)]) hm hdp rfl (by decide) rfl zl_Model_275 zq_Model_lentTo zd_Model_reader_63 rfl (Nat.le_of_ble_eq_true rfl) (fun r σ1 h => (zj_weak (L' := [none, none, none]) trivial (k r σ1 h)))
theorem zb_Model_reader_66 {Γ : zG} {σ : zS} {y0 : Int32}  (e : z_end Γ (some (y0)) σ) : z_J Γ zm_Model_reader 66 [none, none, none] [.inl (y0)] σ := by
  exact zj_ireturn rfl zd_Model_reader_66 e
theorem zd_Model_isReader_0 : decode zm_Model_isReader.2.1 0 = .ok (.iload_n 1, 1) := by decide +kernel
theorem zd_Model_isReader_1 : decode zm_Model_isReader.2.1 1 = .ok (.iconst 0, 1) := by decide +kernel
theorem zd_Model_isReader_2 : decode zm_Model_isReader.2.1 2 = .ok (.aload_n 0, 1) := by decide +kernel
theorem zd_Model_isReader_3 : decode zm_Model_isReader.2.1 3 = .ok (.getfield 104, 3) := by decide +kernel
theorem zd_Model_isReader_6 : decode zm_Model_isReader.2.1 6 = .ok (.iconst 1, 1) := by decide +kernel
theorem zd_Model_isReader_7 : decode zm_Model_isReader.2.1 7 = .ok (.isub, 1) := by decide +kernel
theorem zd_Model_isReader_8 : decode zm_Model_isReader.2.1 8 = .ok (.invokestatic 100, 3) := by decide +kernel
theorem zd_Model_isReader_11 : decode zm_Model_isReader.2.1 11 = .ok (.ireturn, 1) := by decide +kernel
theorem zb_Model_isReader_0 {Γ : zG} {σ : zS} {x1 : Int32} {dc : Nat} {P : Int32 → zS → Prop}  (hm : z_Ci dc zm_Model_in [.inl (x1), .inl (nI 0), .inl ((σ.1 63 5) - (nI 1))] σ P) (hdp : dc < z_dep Γ) (k : ∀ r σ1, P r σ1 → z_J Γ zm_Model_isReader 11 [none, none] [.inl (r)] σ1) : z_J Γ zm_Model_isReader 0 [some (.inr (63)), some (.inl (x1))] [] σ := by
  refine zj_iload_n zd_Model_isReader_0 rfl ?_
  refine zj_iconst (v := nI 0) zd_Model_isReader_1 (by decide) ?_
  refine zj_aload_n zd_Model_isReader_2 rfl ?_
  refine zj_getI rfl (by decide) rfl zu_Model (k := 5) (by decide) rfl zl_Model_104 zd_Model_isReader_3 ?_
  refine zj_iconst (v := nI 1) zd_Model_isReader_6 (by decide) ?_
  refine zj_isub zd_Model_isReader_7 ?_
  exact zj_callSi (As := [.inl (x1), .inl (nI 0), .inl ((σ.1 63 5) - (nI 1))]) hm hdp zl_Model_100 zq_Model_in zd_Model_isReader_8 rfl (Nat.le_of_ble_eq_true rfl) (fun r σ1 h => (zj_weak (L' := [none, none]) trivial (k r σ1 h)))
theorem zb_Model_isReader_11 {Γ : zG} {σ : zS} {y0 : Int32}  (e : z_end Γ (some (y0)) σ) (z1 : y0 = 0 ∨ y0 = 1) : z_J Γ zm_Model_isReader 11 [none, none] [.inl (y0)] σ := by
  exact zj_zreturn rfl z1 zd_Model_isReader_11 e
theorem zd_Model_lentTo_0 : decode zm_Model_lentTo.2.1 0 = .ok (.iconst 0, 1) := by decide +kernel
theorem zd_Model_lentTo_1 : decode zm_Model_lentTo.2.1 1 = .ok (.istore_n 3, 1) := by decide +kernel
theorem zd_Model_lentTo_2 : decode zm_Model_lentTo.2.1 2 = .ok (.iconst 0, 1) := by decide +kernel
theorem zd_Model_lentTo_3 : decode zm_Model_lentTo.2.1 3 = .ok (.istore 4, 2) := by decide +kernel
theorem zd_Model_lentTo_5 : decode zm_Model_lentTo.2.1 5 = .ok (.iload 4, 2) := by decide +kernel
theorem zd_Model_lentTo_7 : decode zm_Model_lentTo.2.1 7 = .ok (.aload_n 0, 1) := by decide +kernel
theorem zd_Model_lentTo_8 : decode zm_Model_lentTo.2.1 8 = .ok (.getfield 97, 3) := by decide +kernel
theorem zd_Model_lentTo_11 : decode zm_Model_lentTo.2.1 11 = .ok (.if_icmp .ge 39, 3) := by decide +kernel
theorem zd_Model_lentTo_14 : decode zm_Model_lentTo.2.1 14 = .ok (.iload_n 3, 1) := by decide +kernel
theorem zd_Model_lentTo_15 : decode zm_Model_lentTo.2.1 15 = .ok (.aload_n 1, 1) := by decide +kernel
theorem zd_Model_lentTo_16 : decode zm_Model_lentTo.2.1 16 = .ok (.iload 4, 2) := by decide +kernel
theorem zd_Model_lentTo_18 : decode zm_Model_lentTo.2.1 18 = .ok (.iaload, 1) := by decide +kernel
theorem zd_Model_lentTo_19 : decode zm_Model_lentTo.2.1 19 = .ok (.iconst 2, 1) := by decide +kernel
theorem zd_Model_lentTo_20 : decode zm_Model_lentTo.2.1 20 = .ok (.if_icmp .ne 21, 3) := by decide +kernel
theorem zd_Model_lentTo_23 : decode zm_Model_lentTo.2.1 23 = .ok (.aload_n 1, 1) := by decide +kernel
theorem zd_Model_lentTo_24 : decode zm_Model_lentTo.2.1 24 = .ok (.bipush 12, 2) := by decide +kernel
theorem zd_Model_lentTo_26 : decode zm_Model_lentTo.2.1 26 = .ok (.iload 4, 2) := by decide +kernel
theorem zd_Model_lentTo_28 : decode zm_Model_lentTo.2.1 28 = .ok (.iadd, 1) := by decide +kernel
theorem zd_Model_lentTo_29 : decode zm_Model_lentTo.2.1 29 = .ok (.iaload, 1) := by decide +kernel
theorem zd_Model_lentTo_30 : decode zm_Model_lentTo.2.1 30 = .ok (.iload_n 2, 1) := by decide +kernel
theorem zd_Model_lentTo_31 : decode zm_Model_lentTo.2.1 31 = .ok (.if_icmp .ne 10, 3) := by decide +kernel
theorem zd_Model_lentTo_34 : decode zm_Model_lentTo.2.1 34 = .ok (.iconst 1, 1) := by decide +kernel
theorem zd_Model_lentTo_35 : decode zm_Model_lentTo.2.1 35 = .ok (.iload 4, 2) := by decide +kernel
theorem zd_Model_lentTo_37 : decode zm_Model_lentTo.2.1 37 = .ok (.ishl, 1) := by decide +kernel
theorem zd_Model_lentTo_38 : decode zm_Model_lentTo.2.1 38 = .ok (.goto 4, 3) := by decide +kernel
theorem zd_Model_lentTo_41 : decode zm_Model_lentTo.2.1 41 = .ok (.iconst 0, 1) := by decide +kernel
theorem zd_Model_lentTo_42 : decode zm_Model_lentTo.2.1 42 = .ok (.ior, 1) := by decide +kernel
theorem zd_Model_lentTo_43 : decode zm_Model_lentTo.2.1 43 = .ok (.istore_n 3, 1) := by decide +kernel
theorem zd_Model_lentTo_44 : decode zm_Model_lentTo.2.1 44 = .ok (.iinc 4 1, 3) := by decide +kernel
theorem zd_Model_lentTo_47 : decode zm_Model_lentTo.2.1 47 = .ok (.goto (-42), 3) := by decide +kernel
theorem zd_Model_lentTo_50 : decode zm_Model_lentTo.2.1 50 = .ok (.iload_n 3, 1) := by decide +kernel
theorem zd_Model_lentTo_51 : decode zm_Model_lentTo.2.1 51 = .ok (.ireturn, 1) := by decide +kernel
theorem zb_Model_lentTo_0 {Γ : zG} {σ : zS} {a1 : Nat} {x2 : Int32} (h_a1 : z_kd a1 = (11, 53)) (k : z_J Γ zm_Model_lentTo 5 [some (.inr (63)), some (.inr (a1)), some (.inl (x2)), some (.inl (nI 0)), some (.inl (nI 0))] [] σ) : z_J Γ zm_Model_lentTo 0 [some (.inr (63)), some (.inr (a1)), some (.inl (x2)), none, none] [] σ := by
  refine zj_iconst (v := nI 0) zd_Model_lentTo_0 (by decide) ?_
  refine zj_istore_n (L' := [some (.inr (63)), some (.inr (a1)), some (.inl (x2)), some (.inl (nI 0)), none]) zd_Model_lentTo_1 (by decide) rfl ?_
  refine zj_iconst (v := nI 0) zd_Model_lentTo_2 (by decide) ?_
  refine zj_istore (L' := [some (.inr (63)), some (.inr (a1)), some (.inl (x2)), some (.inl (nI 0)), some (.inl (nI 0))]) zd_Model_lentTo_3 (by decide) rfl ?_
  exact k
theorem zb_Model_lentTo_5 {Γ : zG} {σ : zS} {a1 : Nat} {x2 x3 x4 : Int32} (h_a1 : z_kd a1 = (11, 53)) (kt : (σ.1 63 1) ≤ x4 → z_J Γ zm_Model_lentTo 50 [none, none, none, some (.inl (x3)), none] [] σ) (kf : ¬ (σ.1 63 1) ≤ x4 → z_J Γ zm_Model_lentTo 14 [some (.inr (63)), some (.inr (a1)), some (.inl (x2)), some (.inl (x3)), some (.inl (x4))] [] σ) : z_J Γ zm_Model_lentTo 5 [some (.inr (63)), some (.inr (a1)), some (.inl (x2)), some (.inl (x3)), some (.inl (x4))] [] σ := by
  refine zj_iload zd_Model_lentTo_5 rfl ?_
  refine zj_aload_n zd_Model_lentTo_7 rfl ?_
  refine zj_getI rfl (by decide) rfl zu_Model (k := 1) (by decide) rfl zl_Model_97 zd_Model_lentTo_8 ?_
  exact zj_icmp_ge zd_Model_lentTo_11 (by decide) (fun h => (zj_weak (L' := [none, none, none, some (.inl (x3)), none]) ⟨rfl, trivial⟩ (kt h))) (fun h => (kf h))
theorem zb_Model_lentTo_14 {Γ : zG} {σ : zS} {a1 : Nat} {x2 x3 x4 : Int32} {k1 : Nat} (h_a1 : z_kd a1 = (11, 53)) (b1 : z_ix x4 53 k1) (kt : ¬ (σ.1 a1 k1) = (nI 2) → z_J Γ zm_Model_lentTo 41 [some (.inr (63)), some (.inr (a1)), some (.inl (x2)), none, some (.inl (x4))] [.inl (x3)] σ) (kf : (σ.1 a1 k1) = (nI 2) → z_J Γ zm_Model_lentTo 23 [some (.inr (63)), some (.inr (a1)), some (.inl (x2)), none, some (.inl (x4))] [.inl (x3)] σ) : z_J Γ zm_Model_lentTo 14 [some (.inr (63)), some (.inr (a1)), some (.inl (x2)), some (.inl (x3)), some (.inl (x4))] [] σ := by
  refine zj_iload_n zd_Model_lentTo_14 rfl ?_
  refine zj_aload_n zd_Model_lentTo_15 rfl ?_
  refine zj_iload zd_Model_lentTo_16 rfl ?_
  refine zj_iaload h_a1 (by decide) b1 zd_Model_lentTo_18 ?_
  refine zj_iconst (v := nI 2) zd_Model_lentTo_19 (by decide) ?_
  exact zj_icmp_ne zd_Model_lentTo_20 (by decide) (fun h => (zj_weak (L' := [some (.inr (63)), some (.inr (a1)), some (.inl (x2)), none, some (.inl (x4))]) ⟨rfl, ⟨rfl, ⟨rfl, ⟨rfl, trivial⟩⟩⟩⟩ (kt h))) (fun h => (zj_weak (L' := [some (.inr (63)), some (.inr (a1)), some (.inl (x2)), none, some (.inl (x4))]) ⟨rfl, ⟨rfl, ⟨rfl, ⟨rfl, trivial⟩⟩⟩⟩ (kf h)))
theorem zb_Model_lentTo_23 {Γ : zG} {σ : zS} {a1 : Nat} {x2 x4 y0 : Int32} {k1 : Nat} (h_a1 : z_kd a1 = (11, 53)) (b1 : z_ix ((nI 12) + x4) 53 k1) (kt : ¬ (σ.1 a1 k1) = x2 → z_J Γ zm_Model_lentTo 41 [some (.inr (63)), some (.inr (a1)), some (.inl (x2)), none, some (.inl (x4))] [.inl (y0)] σ) (kf : (σ.1 a1 k1) = x2 → z_J Γ zm_Model_lentTo 34 [some (.inr (63)), some (.inr (a1)), some (.inl (x2)), none, some (.inl (x4))] [.inl (y0)] σ) : z_J Γ zm_Model_lentTo 23 [some (.inr (63)), some (.inr (a1)), some (.inl (x2)), none, some (.inl (x4))] [.inl (y0)] σ := by
  refine zj_aload_n zd_Model_lentTo_23 rfl ?_
  refine zj_bipush (v := nI 12) zd_Model_lentTo_24 (by decide) ?_
  refine zj_iload zd_Model_lentTo_26 rfl ?_
  refine zj_iadd zd_Model_lentTo_28 ?_
  refine zj_iaload h_a1 (by decide) b1 zd_Model_lentTo_29 ?_
  refine zj_iload_n zd_Model_lentTo_30 rfl ?_
  exact zj_icmp_ne zd_Model_lentTo_31 (by decide) (fun h => (kt h)) (fun h => (kf h))
theorem zb_Model_lentTo_34 {Γ : zG} {σ : zS} {a1 : Nat} {x2 x4 y0 : Int32} (h_a1 : z_kd a1 = (11, 53)) (k : z_J Γ zm_Model_lentTo 42 [some (.inr (63)), some (.inr (a1)), some (.inl (x2)), none, some (.inl (x4))] [.inl ((nI 1) <<< (x4 &&& 31)), .inl (y0)] σ) : z_J Γ zm_Model_lentTo 34 [some (.inr (63)), some (.inr (a1)), some (.inl (x2)), none, some (.inl (x4))] [.inl (y0)] σ := by
  refine zj_iconst (v := nI 1) zd_Model_lentTo_34 (by decide) ?_
  refine zj_iload zd_Model_lentTo_35 rfl ?_
  refine zj_ishl zd_Model_lentTo_37 ?_
  exact zj_goto zd_Model_lentTo_38 (by decide) k
theorem zb_Model_lentTo_41 {Γ : zG} {σ : zS} {a1 : Nat} {x2 x4 y0 : Int32} (h_a1 : z_kd a1 = (11, 53)) (k : z_J Γ zm_Model_lentTo 42 [some (.inr (63)), some (.inr (a1)), some (.inl (x2)), none, some (.inl (x4))] [.inl (nI 0), .inl (y0)] σ) : z_J Γ zm_Model_lentTo 41 [some (.inr (63)), some (.inr (a1)), some (.inl (x2)), none, some (.inl (x4))] [.inl (y0)] σ := by
  refine zj_iconst (v := nI 0) zd_Model_lentTo_41 (by decide) ?_
  exact k
theorem zb_Model_lentTo_42 {Γ : zG} {σ : zS} {a1 : Nat} {x2 x4 y0 y1 : Int32} (h_a1 : z_kd a1 = (11, 53)) (k : z_J Γ zm_Model_lentTo 5 [some (.inr (63)), some (.inr (a1)), some (.inl (x2)), some (.inl (y1 ||| y0)), some (.inl (x4 + nI 1))] [] σ) : z_J Γ zm_Model_lentTo 42 [some (.inr (63)), some (.inr (a1)), some (.inl (x2)), none, some (.inl (x4))] [.inl (y0), .inl (y1)] σ := by
  refine zj_ior zd_Model_lentTo_42 ?_
  refine zj_istore_n (L' := [some (.inr (63)), some (.inr (a1)), some (.inl (x2)), some (.inl (y1 ||| y0)), some (.inl (x4))]) zd_Model_lentTo_43 (by decide) rfl ?_
  refine zj_iinc (v := nI 1) (L' := [some (.inr (63)), some (.inr (a1)), some (.inl (x2)), some (.inl (y1 ||| y0)), some (.inl (x4 + nI 1))]) zd_Model_lentTo_44 rfl (by decide) (by decide) rfl ?_
  exact zj_goto zd_Model_lentTo_47 (by decide) k
theorem zb_Model_lentTo_50 {Γ : zG} {σ : zS} {x3 : Int32}  (e : z_end Γ (some (x3)) σ) : z_J Γ zm_Model_lentTo 50 [none, none, none, some (.inl (x3)), none] [] σ := by
  refine zj_iload_n zd_Model_lentTo_50 rfl ?_
  exact zj_ireturn rfl zd_Model_lentTo_51 e
theorem zd_Model_sheet_0 : decode zm_Model_sheet.2.1 0 = .ok (.aload_n 0, 1) := by decide +kernel
theorem zd_Model_sheet_1 : decode zm_Model_sheet.2.1 1 = .ok (.iconst 0, 1) := by decide +kernel
theorem zd_Model_sheet_2 : decode zm_Model_sheet.2.1 2 = .ok (.putfield 91, 3) := by decide +kernel
theorem zd_Model_sheet_5 : decode zm_Model_sheet.2.1 5 = .ok (.iload_n 1, 1) := by decide +kernel
theorem zd_Model_sheet_6 : decode zm_Model_sheet.2.1 6 = .ok (.iconst 0, 1) := by decide +kernel
theorem zd_Model_sheet_7 : decode zm_Model_sheet.2.1 7 = .ok (.iconst 3, 1) := by decide +kernel
theorem zd_Model_sheet_8 : decode zm_Model_sheet.2.1 8 = .ok (.invokestatic 100, 3) := by decide +kernel
theorem zd_Model_sheet_11 : decode zm_Model_sheet.2.1 11 = .ok (.ifCond .eq 9, 3) := by decide +kernel
theorem zd_Model_sheet_14 : decode zm_Model_sheet.2.1 14 = .ok (.iload_n 2, 1) := by decide +kernel
theorem zd_Model_sheet_15 : decode zm_Model_sheet.2.1 15 = .ok (.bipush 12, 2) := by decide +kernel
theorem zd_Model_sheet_17 : decode zm_Model_sheet.2.1 17 = .ok (.if_icmp .le 5, 3) := by decide +kernel
theorem zd_Model_sheet_20 : decode zm_Model_sheet.2.1 20 = .ok (.iconst (-1), 1) := by decide +kernel
theorem zd_Model_sheet_21 : decode zm_Model_sheet.2.1 21 = .ok (.ireturn, 1) := by decide +kernel
theorem zd_Model_sheet_22 : decode zm_Model_sheet.2.1 22 = .ok (.iload_n 1, 1) := by decide +kernel
theorem zd_Model_sheet_23 : decode zm_Model_sheet.2.1 23 = .ok (.iconst 3, 1) := by decide +kernel
theorem zd_Model_sheet_24 : decode zm_Model_sheet.2.1 24 = .ok (.if_icmp .ge 10, 3) := by decide +kernel
theorem zd_Model_sheet_27 : decode zm_Model_sheet.2.1 27 = .ok (.iload_n 2, 1) := by decide +kernel
theorem zd_Model_sheet_28 : decode zm_Model_sheet.2.1 28 = .ok (.ifCond .ge 6, 3) := by decide +kernel
theorem zd_Model_sheet_31 : decode zm_Model_sheet.2.1 31 = .ok (.bipush (-2), 2) := by decide +kernel
theorem zd_Model_sheet_33 : decode zm_Model_sheet.2.1 33 = .ok (.ireturn, 1) := by decide +kernel
theorem zd_Model_sheet_34 : decode zm_Model_sheet.2.1 34 = .ok (.iconst 0, 1) := by decide +kernel
theorem zd_Model_sheet_35 : decode zm_Model_sheet.2.1 35 = .ok (.istore 5, 2) := by decide +kernel
theorem zd_Model_sheet_37 : decode zm_Model_sheet.2.1 37 = .ok (.iload_n 3, 1) := by decide +kernel
theorem zd_Model_sheet_38 : decode zm_Model_sheet.2.1 38 = .ok (.istore 6, 2) := by decide +kernel
theorem zd_Model_sheet_40 : decode zm_Model_sheet.2.1 40 = .ok (.iconst 0, 1) := by decide +kernel
theorem zd_Model_sheet_41 : decode zm_Model_sheet.2.1 41 = .ok (.istore 7, 2) := by decide +kernel
theorem zd_Model_sheet_43 : decode zm_Model_sheet.2.1 43 = .ok (.iload 7, 2) := by decide +kernel
theorem zd_Model_sheet_45 : decode zm_Model_sheet.2.1 45 = .ok (.aload_n 0, 1) := by decide +kernel
theorem zd_Model_sheet_46 : decode zm_Model_sheet.2.1 46 = .ok (.getfield 97, 3) := by decide +kernel
theorem zd_Model_sheet_49 : decode zm_Model_sheet.2.1 49 = .ok (.if_icmp .ge 86, 3) := by decide +kernel
theorem zd_Model_sheet_52 : decode zm_Model_sheet.2.1 52 = .ok (.iload_n 1, 1) := by decide +kernel
theorem zd_Model_sheet_53 : decode zm_Model_sheet.2.1 53 = .ok (.ifCond .ne 9, 3) := by decide +kernel
theorem zd_Model_sheet_56 : decode zm_Model_sheet.2.1 56 = .ok (.iload 6, 2) := by decide +kernel
theorem zd_Model_sheet_58 : decode zm_Model_sheet.2.1 58 = .ok (.i2b, 1) := by decide +kernel
theorem zd_Model_sheet_59 : decode zm_Model_sheet.2.1 59 = .ok (.goto 16, 3) := by decide +kernel
theorem zd_Model_sheet_62 : decode zm_Model_sheet.2.1 62 = .ok (.iload_n 1, 1) := by decide +kernel
theorem zd_Model_sheet_63 : decode zm_Model_sheet.2.1 63 = .ok (.iconst 1, 1) := by decide +kernel
theorem zd_Model_sheet_64 : decode zm_Model_sheet.2.1 64 = .ok (.if_icmp .ne 9, 3) := by decide +kernel
theorem zd_Model_sheet_67 : decode zm_Model_sheet.2.1 67 = .ok (.iload 6, 2) := by decide +kernel
theorem zd_Model_sheet_69 : decode zm_Model_sheet.2.1 69 = .ok (.i2s, 1) := by decide +kernel
theorem zd_Model_sheet_70 : decode zm_Model_sheet.2.1 70 = .ok (.goto 5, 3) := by decide +kernel
theorem zd_Model_sheet_73 : decode zm_Model_sheet.2.1 73 = .ok (.iload 6, 2) := by decide +kernel
theorem zd_Model_sheet_75 : decode zm_Model_sheet.2.1 75 = .ok (.istore 8, 2) := by decide +kernel
theorem zd_Model_sheet_77 : decode zm_Model_sheet.2.1 77 = .ok (.aload_n 0, 1) := by decide +kernel
theorem zd_Model_sheet_78 : decode zm_Model_sheet.2.1 78 = .ok (.getfield 13, 3) := by decide +kernel
theorem zd_Model_sheet_81 : decode zm_Model_sheet.2.1 81 = .ok (.iload 7, 2) := by decide +kernel
theorem zd_Model_sheet_83 : decode zm_Model_sheet.2.1 83 = .ok (.iload_n 1, 1) := by decide +kernel
theorem zd_Model_sheet_84 : decode zm_Model_sheet.2.1 84 = .ok (.iconst 3, 1) := by decide +kernel
theorem zd_Model_sheet_85 : decode zm_Model_sheet.2.1 85 = .ok (.if_icmp .eq 9, 3) := by decide +kernel
theorem zd_Model_sheet_88 : decode zm_Model_sheet.2.1 88 = .ok (.iload 7, 2) := by decide +kernel
theorem zd_Model_sheet_90 : decode zm_Model_sheet.2.1 90 = .ok (.iload_n 2, 1) := by decide +kernel
theorem zd_Model_sheet_91 : decode zm_Model_sheet.2.1 91 = .ok (.if_icmp .lt 7, 3) := by decide +kernel
theorem zd_Model_sheet_94 : decode zm_Model_sheet.2.1 94 = .ok (.iconst 1, 1) := by decide +kernel
theorem zd_Model_sheet_95 : decode zm_Model_sheet.2.1 95 = .ok (.goto 14, 3) := by decide +kernel
theorem zd_Model_sheet_98 : decode zm_Model_sheet.2.1 98 = .ok (.iconst 1, 1) := by decide +kernel
theorem zd_Model_sheet_99 : decode zm_Model_sheet.2.1 99 = .ok (.bipush 9, 2) := by decide +kernel
theorem zd_Model_sheet_101 : decode zm_Model_sheet.2.1 101 = .ok (.iload 8, 2) := by decide +kernel
theorem zd_Model_sheet_103 : decode zm_Model_sheet.2.1 103 = .ok (.invokestatic 221, 3) := by decide +kernel
theorem zd_Model_sheet_106 : decode zm_Model_sheet.2.1 106 = .ok (.invokestatic 226, 3) := by decide +kernel
theorem zd_Model_sheet_109 : decode zm_Model_sheet.2.1 109 = .ok (.iastore, 1) := by decide +kernel
theorem zd_Model_sheet_110 : decode zm_Model_sheet.2.1 110 = .ok (.iload 5, 2) := by decide +kernel
theorem zd_Model_sheet_112 : decode zm_Model_sheet.2.1 112 = .ok (.aload_n 0, 1) := by decide +kernel
theorem zd_Model_sheet_113 : decode zm_Model_sheet.2.1 113 = .ok (.getfield 13, 3) := by decide +kernel
theorem zd_Model_sheet_116 : decode zm_Model_sheet.2.1 116 = .ok (.iload 7, 2) := by decide +kernel
theorem zd_Model_sheet_118 : decode zm_Model_sheet.2.1 118 = .ok (.iaload, 1) := by decide +kernel
theorem zd_Model_sheet_119 : decode zm_Model_sheet.2.1 119 = .ok (.iadd, 1) := by decide +kernel
theorem zd_Model_sheet_120 : decode zm_Model_sheet.2.1 120 = .ok (.istore 5, 2) := by decide +kernel
theorem zd_Model_sheet_122 : decode zm_Model_sheet.2.1 122 = .ok (.iload 6, 2) := by decide +kernel
theorem zd_Model_sheet_124 : decode zm_Model_sheet.2.1 124 = .ok (.iload 4, 2) := by decide +kernel
theorem zd_Model_sheet_126 : decode zm_Model_sheet.2.1 126 = .ok (.iadd, 1) := by decide +kernel
theorem zd_Model_sheet_127 : decode zm_Model_sheet.2.1 127 = .ok (.istore 6, 2) := by decide +kernel
theorem zd_Model_sheet_129 : decode zm_Model_sheet.2.1 129 = .ok (.iinc 7 1, 3) := by decide +kernel
theorem zd_Model_sheet_132 : decode zm_Model_sheet.2.1 132 = .ok (.goto (-89), 3) := by decide +kernel
theorem zd_Model_sheet_135 : decode zm_Model_sheet.2.1 135 = .ok (.iload_n 1, 1) := by decide +kernel
theorem zd_Model_sheet_136 : decode zm_Model_sheet.2.1 136 = .ok (.iconst 3, 1) := by decide +kernel
theorem zd_Model_sheet_137 : decode zm_Model_sheet.2.1 137 = .ok (.if_icmp .ne 8, 3) := by decide +kernel
theorem zd_Model_sheet_140 : decode zm_Model_sheet.2.1 140 = .ok (.bipush (-3), 2) := by decide +kernel
theorem zd_Model_sheet_142 : decode zm_Model_sheet.2.1 142 = .ok (.goto 5, 3) := by decide +kernel
theorem zd_Model_sheet_145 : decode zm_Model_sheet.2.1 145 = .ok (.iload 5, 2) := by decide +kernel
theorem zd_Model_sheet_147 : decode zm_Model_sheet.2.1 147 = .ok (.ireturn, 1) := by decide +kernel
theorem zb_Model_sheet_0 {Γ : zG} {σ : zS} {x1 x2 x3 x4 : Int32} {dc : Nat} {P : Int32 → zS → Prop}  (hm : z_Ci dc zm_Model_in [.inl (x1), .inl (nI 0), .inl (nI 3)] (z_pI σ 63 11 (nI 0)) P) (hdp : dc < z_dep Γ) (k : ∀ r σ1, P r σ1 → z_J Γ zm_Model_sheet 11 [some (.inr (63)), some (.inl (x1)), some (.inl (x2)), some (.inl (x3)), some (.inl (x4)), none, none, none, none] [.inl (r)] σ1) : z_J Γ zm_Model_sheet 0 [some (.inr (63)), some (.inl (x1)), some (.inl (x2)), some (.inl (x3)), some (.inl (x4)), none, none, none, none] [] σ := by
  refine zj_aload_n zd_Model_sheet_0 rfl ?_
  refine zj_iconst (v := nI 0) zd_Model_sheet_1 (by decide) ?_
  refine zj_putI rfl (by decide) rfl zu_Model zy_Model_ok zn_Model (k := 11) (by decide) rfl rfl zl_Model_91 rfl rfl zd_Model_sheet_2 ?_
  refine zj_iload_n zd_Model_sheet_5 rfl ?_
  refine zj_iconst (v := nI 0) zd_Model_sheet_6 (by decide) ?_
  refine zj_iconst (v := nI 3) zd_Model_sheet_7 (by decide) ?_
  exact zj_callSi (As := [.inl (x1), .inl (nI 0), .inl (nI 3)]) hm hdp zl_Model_100 zq_Model_in zd_Model_sheet_8 rfl (Nat.le_of_ble_eq_true rfl) (fun r σ1 h => (k r σ1 h))
theorem zb_Model_sheet_11 {Γ : zG} {σ : zS} {x1 x2 x3 x4 y0 : Int32}  (kt : y0 = 0 → z_J Γ zm_Model_sheet 20 [none, none, none, none, none, none, none, none, none] [] σ) (kf : ¬ y0 = 0 → z_J Γ zm_Model_sheet 14 [some (.inr (63)), some (.inl (x1)), some (.inl (x2)), some (.inl (x3)), some (.inl (x4)), none, none, none, none] [] σ) : z_J Γ zm_Model_sheet 11 [some (.inr (63)), some (.inl (x1)), some (.inl (x2)), some (.inl (x3)), some (.inl (x4)), none, none, none, none] [.inl (y0)] σ := by
  exact zj_if_eq zd_Model_sheet_11 (by decide) (fun h => (zj_weak (L' := [none, none, none, none, none, none, none, none, none]) trivial (kt h))) (fun h => (kf h))
theorem zb_Model_sheet_14 {Γ : zG} {σ : zS} {x1 x2 x3 x4 : Int32}  (kt : x2 ≤ (nI 12) → z_J Γ zm_Model_sheet 22 [some (.inr (63)), some (.inl (x1)), some (.inl (x2)), some (.inl (x3)), some (.inl (x4)), none, none, none, none] [] σ) (kf : ¬ x2 ≤ (nI 12) → z_J Γ zm_Model_sheet 20 [none, none, none, none, none, none, none, none, none] [] σ) : z_J Γ zm_Model_sheet 14 [some (.inr (63)), some (.inl (x1)), some (.inl (x2)), some (.inl (x3)), some (.inl (x4)), none, none, none, none] [] σ := by
  refine zj_iload_n zd_Model_sheet_14 rfl ?_
  refine zj_bipush (v := nI 12) zd_Model_sheet_15 (by decide) ?_
  exact zj_icmp_le zd_Model_sheet_17 (by decide) (fun h => (kt h)) (fun h => (zj_weak (L' := [none, none, none, none, none, none, none, none, none]) trivial (kf h)))
theorem zb_Model_sheet_20 {Γ : zG} {σ : zS}  (e : z_end Γ (some ((-1))) σ) : z_J Γ zm_Model_sheet 20 [none, none, none, none, none, none, none, none, none] [] σ := by
  refine zj_iconst (v := (-1)) zd_Model_sheet_20 (by decide) ?_
  exact zj_ireturn rfl zd_Model_sheet_21 e
theorem zb_Model_sheet_22 {Γ : zG} {σ : zS} {x1 x2 x3 x4 : Int32}  (kt : (nI 3) ≤ x1 → z_J Γ zm_Model_sheet 34 [some (.inr (63)), some (.inl (x1)), some (.inl (x2)), some (.inl (x3)), some (.inl (x4)), none, none, none, none] [] σ) (kf : ¬ (nI 3) ≤ x1 → z_J Γ zm_Model_sheet 27 [some (.inr (63)), some (.inl (x1)), some (.inl (x2)), some (.inl (x3)), some (.inl (x4)), none, none, none, none] [] σ) : z_J Γ zm_Model_sheet 22 [some (.inr (63)), some (.inl (x1)), some (.inl (x2)), some (.inl (x3)), some (.inl (x4)), none, none, none, none] [] σ := by
  refine zj_iload_n zd_Model_sheet_22 rfl ?_
  refine zj_iconst (v := nI 3) zd_Model_sheet_23 (by decide) ?_
  exact zj_icmp_ge zd_Model_sheet_24 (by decide) (fun h => (kt h)) (fun h => (kf h))
theorem zb_Model_sheet_27 {Γ : zG} {σ : zS} {x1 x2 x3 x4 : Int32}  (kt : 0 ≤ x2 → z_J Γ zm_Model_sheet 34 [some (.inr (63)), some (.inl (x1)), some (.inl (x2)), some (.inl (x3)), some (.inl (x4)), none, none, none, none] [] σ) (kf : ¬ 0 ≤ x2 → z_J Γ zm_Model_sheet 31 [none, none, none, none, none, none, none, none, none] [] σ) : z_J Γ zm_Model_sheet 27 [some (.inr (63)), some (.inl (x1)), some (.inl (x2)), some (.inl (x3)), some (.inl (x4)), none, none, none, none] [] σ := by
  refine zj_iload_n zd_Model_sheet_27 rfl ?_
  exact zj_if_ge zd_Model_sheet_28 (by decide) (fun h => (kt h)) (fun h => (zj_weak (L' := [none, none, none, none, none, none, none, none, none]) trivial (kf h)))
theorem zb_Model_sheet_31 {Γ : zG} {σ : zS}  (e : z_end Γ (some ((-2))) σ) : z_J Γ zm_Model_sheet 31 [none, none, none, none, none, none, none, none, none] [] σ := by
  refine zj_bipush (v := (-2)) zd_Model_sheet_31 (by decide) ?_
  exact zj_ireturn rfl zd_Model_sheet_33 e
theorem zb_Model_sheet_34 {Γ : zG} {σ : zS} {x1 x2 x3 x4 : Int32}  (k : z_J Γ zm_Model_sheet 43 [some (.inr (63)), some (.inl (x1)), some (.inl (x2)), none, some (.inl (x4)), some (.inl (nI 0)), some (.inl (x3)), some (.inl (nI 0)), none] [] σ) : z_J Γ zm_Model_sheet 34 [some (.inr (63)), some (.inl (x1)), some (.inl (x2)), some (.inl (x3)), some (.inl (x4)), none, none, none, none] [] σ := by
  refine zj_iconst (v := nI 0) zd_Model_sheet_34 (by decide) ?_
  refine zj_istore (L' := [some (.inr (63)), some (.inl (x1)), some (.inl (x2)), some (.inl (x3)), some (.inl (x4)), some (.inl (nI 0)), none, none, none]) zd_Model_sheet_35 (by decide) rfl ?_
  refine zj_iload_n zd_Model_sheet_37 rfl ?_
  refine zj_istore (L' := [some (.inr (63)), some (.inl (x1)), some (.inl (x2)), some (.inl (x3)), some (.inl (x4)), some (.inl (nI 0)), some (.inl (x3)), none, none]) zd_Model_sheet_38 (by decide) rfl ?_
  refine zj_iconst (v := nI 0) zd_Model_sheet_40 (by decide) ?_
  refine zj_istore (L' := [some (.inr (63)), some (.inl (x1)), some (.inl (x2)), some (.inl (x3)), some (.inl (x4)), some (.inl (nI 0)), some (.inl (x3)), some (.inl (nI 0)), none]) zd_Model_sheet_41 (by decide) rfl ?_
  exact (zj_weak (L' := [some (.inr (63)), some (.inl (x1)), some (.inl (x2)), none, some (.inl (x4)), some (.inl (nI 0)), some (.inl (x3)), some (.inl (nI 0)), none]) ⟨rfl, ⟨rfl, ⟨rfl, ⟨rfl, ⟨rfl, ⟨rfl, ⟨rfl, trivial⟩⟩⟩⟩⟩⟩⟩ k)
theorem zb_Model_sheet_43 {Γ : zG} {σ : zS} {x1 x2 x4 x5 x6 x7 : Int32}  (kt : (σ.1 63 1) ≤ x7 → z_J Γ zm_Model_sheet 135 [none, some (.inl (x1)), none, none, none, some (.inl (x5)), none, none, none] [] σ) (kf : ¬ (σ.1 63 1) ≤ x7 → z_J Γ zm_Model_sheet 52 [some (.inr (63)), some (.inl (x1)), some (.inl (x2)), none, some (.inl (x4)), some (.inl (x5)), some (.inl (x6)), some (.inl (x7)), none] [] σ) : z_J Γ zm_Model_sheet 43 [some (.inr (63)), some (.inl (x1)), some (.inl (x2)), none, some (.inl (x4)), some (.inl (x5)), some (.inl (x6)), some (.inl (x7)), none] [] σ := by
  refine zj_iload zd_Model_sheet_43 rfl ?_
  refine zj_aload_n zd_Model_sheet_45 rfl ?_
  refine zj_getI rfl (by decide) rfl zu_Model (k := 1) (by decide) rfl zl_Model_97 zd_Model_sheet_46 ?_
  exact zj_icmp_ge zd_Model_sheet_49 (by decide) (fun h => (zj_weak (L' := [none, some (.inl (x1)), none, none, none, some (.inl (x5)), none, none, none]) ⟨rfl, ⟨rfl, trivial⟩⟩ (kt h))) (fun h => (kf h))
theorem zb_Model_sheet_52 {Γ : zG} {σ : zS} {x1 x2 x4 x5 x6 x7 : Int32}  (kt : ¬ x1 = 0 → z_J Γ zm_Model_sheet 62 [some (.inr (63)), some (.inl (x1)), some (.inl (x2)), none, some (.inl (x4)), some (.inl (x5)), some (.inl (x6)), some (.inl (x7)), none] [] σ) (kf : x1 = 0 → z_J Γ zm_Model_sheet 56 [some (.inr (63)), some (.inl (x1)), some (.inl (x2)), none, some (.inl (x4)), some (.inl (x5)), some (.inl (x6)), some (.inl (x7)), none] [] σ) : z_J Γ zm_Model_sheet 52 [some (.inr (63)), some (.inl (x1)), some (.inl (x2)), none, some (.inl (x4)), some (.inl (x5)), some (.inl (x6)), some (.inl (x7)), none] [] σ := by
  refine zj_iload_n zd_Model_sheet_52 rfl ?_
  exact zj_if_ne zd_Model_sheet_53 (by decide) (fun h => (kt h)) (fun h => (kf h))
theorem zb_Model_sheet_56 {Γ : zG} {σ : zS} {x1 x2 x4 x5 x6 x7 : Int32}  (k : z_J Γ zm_Model_sheet 75 [some (.inr (63)), some (.inl (x1)), some (.inl (x2)), none, some (.inl (x4)), some (.inl (x5)), some (.inl (x6)), some (.inl (x7)), none] [.inl ((x6).toInt8.toInt32)] σ) : z_J Γ zm_Model_sheet 56 [some (.inr (63)), some (.inl (x1)), some (.inl (x2)), none, some (.inl (x4)), some (.inl (x5)), some (.inl (x6)), some (.inl (x7)), none] [] σ := by
  refine zj_iload zd_Model_sheet_56 rfl ?_
  refine zj_i2b zd_Model_sheet_58 ?_
  exact zj_goto zd_Model_sheet_59 (by decide) k
theorem zb_Model_sheet_62 {Γ : zG} {σ : zS} {x1 x2 x4 x5 x6 x7 : Int32}  (kt : ¬ x1 = (nI 1) → z_J Γ zm_Model_sheet 73 [some (.inr (63)), some (.inl (x1)), some (.inl (x2)), none, some (.inl (x4)), some (.inl (x5)), some (.inl (x6)), some (.inl (x7)), none] [] σ) (kf : x1 = (nI 1) → z_J Γ zm_Model_sheet 67 [some (.inr (63)), some (.inl (x1)), some (.inl (x2)), none, some (.inl (x4)), some (.inl (x5)), some (.inl (x6)), some (.inl (x7)), none] [] σ) : z_J Γ zm_Model_sheet 62 [some (.inr (63)), some (.inl (x1)), some (.inl (x2)), none, some (.inl (x4)), some (.inl (x5)), some (.inl (x6)), some (.inl (x7)), none] [] σ := by
  refine zj_iload_n zd_Model_sheet_62 rfl ?_
  refine zj_iconst (v := nI 1) zd_Model_sheet_63 (by decide) ?_
  exact zj_icmp_ne zd_Model_sheet_64 (by decide) (fun h => (kt h)) (fun h => (kf h))
theorem zb_Model_sheet_67 {Γ : zG} {σ : zS} {x1 x2 x4 x5 x6 x7 : Int32}  (k : z_J Γ zm_Model_sheet 75 [some (.inr (63)), some (.inl (x1)), some (.inl (x2)), none, some (.inl (x4)), some (.inl (x5)), some (.inl (x6)), some (.inl (x7)), none] [.inl ((x6).toInt16.toInt32)] σ) : z_J Γ zm_Model_sheet 67 [some (.inr (63)), some (.inl (x1)), some (.inl (x2)), none, some (.inl (x4)), some (.inl (x5)), some (.inl (x6)), some (.inl (x7)), none] [] σ := by
  refine zj_iload zd_Model_sheet_67 rfl ?_
  refine zj_i2s zd_Model_sheet_69 ?_
  exact zj_goto zd_Model_sheet_70 (by decide) k
theorem zb_Model_sheet_73 {Γ : zG} {σ : zS} {x1 x2 x4 x5 x6 x7 : Int32}  (k : z_J Γ zm_Model_sheet 75 [some (.inr (63)), some (.inl (x1)), some (.inl (x2)), none, some (.inl (x4)), some (.inl (x5)), some (.inl (x6)), some (.inl (x7)), none] [.inl (x6)] σ) : z_J Γ zm_Model_sheet 73 [some (.inr (63)), some (.inl (x1)), some (.inl (x2)), none, some (.inl (x4)), some (.inl (x5)), some (.inl (x6)), some (.inl (x7)), none] [] σ := by
  refine zj_iload zd_Model_sheet_73 rfl ?_
  exact k
theorem zb_Model_sheet_75 {Γ : zG} {σ : zS} {x1 x2 x4 x5 x6 x7 y0 : Int32}  (kt : x1 = (nI 3) → z_J Γ zm_Model_sheet 94 [some (.inr (63)), some (.inl (x1)), some (.inl (x2)), none, some (.inl (x4)), some (.inl (x5)), some (.inl (x6)), some (.inl (x7)), none] [.inl (x7), .inr (65)] σ) (kf : ¬ x1 = (nI 3) → z_J Γ zm_Model_sheet 88 [some (.inr (63)), some (.inl (x1)), some (.inl (x2)), none, some (.inl (x4)), some (.inl (x5)), some (.inl (x6)), some (.inl (x7)), some (.inl (y0))] [.inl (x7), .inr (65)] σ) : z_J Γ zm_Model_sheet 75 [some (.inr (63)), some (.inl (x1)), some (.inl (x2)), none, some (.inl (x4)), some (.inl (x5)), some (.inl (x6)), some (.inl (x7)), none] [.inl (y0)] σ := by
  refine zj_istore (L' := [some (.inr (63)), some (.inl (x1)), some (.inl (x2)), none, some (.inl (x4)), some (.inl (x5)), some (.inl (x6)), some (.inl (x7)), some (.inl (y0))]) zd_Model_sheet_75 (by decide) rfl ?_
  refine zj_aload_n zd_Model_sheet_77 rfl ?_
  refine zj_getR rfl (by decide) rfl zu_Model (k := 2) (by decide) rfl zl_Model_13 zd_Model_sheet_78 (o' := 65) rfl ?_
  refine zj_iload zd_Model_sheet_81 rfl ?_
  refine zj_iload_n zd_Model_sheet_83 rfl ?_
  refine zj_iconst (v := nI 3) zd_Model_sheet_84 (by decide) ?_
  exact zj_icmp_eq zd_Model_sheet_85 (by decide) (fun h => (zj_weak (L' := [some (.inr (63)), some (.inl (x1)), some (.inl (x2)), none, some (.inl (x4)), some (.inl (x5)), some (.inl (x6)), some (.inl (x7)), none]) ⟨rfl, ⟨rfl, ⟨rfl, ⟨rfl, ⟨rfl, ⟨rfl, ⟨rfl, trivial⟩⟩⟩⟩⟩⟩⟩ (kt h))) (fun h => (kf h))
theorem zb_Model_sheet_88 {Γ : zG} {σ : zS} {x1 x2 x4 x5 x6 x7 x8 y0 : Int32}  (kt : x7 < x2 → z_J Γ zm_Model_sheet 98 [some (.inr (63)), some (.inl (x1)), some (.inl (x2)), none, some (.inl (x4)), some (.inl (x5)), some (.inl (x6)), some (.inl (x7)), some (.inl (x8))] [.inl (y0), .inr (65)] σ) (kf : ¬ x7 < x2 → z_J Γ zm_Model_sheet 94 [some (.inr (63)), some (.inl (x1)), some (.inl (x2)), none, some (.inl (x4)), some (.inl (x5)), some (.inl (x6)), some (.inl (x7)), none] [.inl (y0), .inr (65)] σ) : z_J Γ zm_Model_sheet 88 [some (.inr (63)), some (.inl (x1)), some (.inl (x2)), none, some (.inl (x4)), some (.inl (x5)), some (.inl (x6)), some (.inl (x7)), some (.inl (x8))] [.inl (y0), .inr (65)] σ := by
  refine zj_iload zd_Model_sheet_88 rfl ?_
  refine zj_iload_n zd_Model_sheet_90 rfl ?_
  exact zj_icmp_lt zd_Model_sheet_91 (by decide) (fun h => (kt h)) (fun h => (zj_weak (L' := [some (.inr (63)), some (.inl (x1)), some (.inl (x2)), none, some (.inl (x4)), some (.inl (x5)), some (.inl (x6)), some (.inl (x7)), none]) ⟨rfl, ⟨rfl, ⟨rfl, ⟨rfl, ⟨rfl, ⟨rfl, ⟨rfl, trivial⟩⟩⟩⟩⟩⟩⟩ (kf h)))
theorem zb_Model_sheet_94 {Γ : zG} {σ : zS} {x1 x2 x4 x5 x6 x7 y0 : Int32}  (k : z_J Γ zm_Model_sheet 109 [some (.inr (63)), some (.inl (x1)), some (.inl (x2)), none, some (.inl (x4)), some (.inl (x5)), some (.inl (x6)), some (.inl (x7)), none] [.inl (nI 1), .inl (y0), .inr (65)] σ) : z_J Γ zm_Model_sheet 94 [some (.inr (63)), some (.inl (x1)), some (.inl (x2)), none, some (.inl (x4)), some (.inl (x5)), some (.inl (x6)), some (.inl (x7)), none] [.inl (y0), .inr (65)] σ := by
  refine zj_iconst (v := nI 1) zd_Model_sheet_94 (by decide) ?_
  exact zj_goto zd_Model_sheet_95 (by decide) k
theorem zb_Model_sheet_98 {Γ : zG} {σ : zS} {x1 x2 x4 x5 x6 x7 x8 y0 : Int32} (hdp : 0 < z_dep Γ) (k : z_J Γ zm_Model_sheet 109 [some (.inr (63)), some (.inl (x1)), some (.inl (x2)), none, some (.inl (x4)), some (.inl (x5)), some (.inl (x6)), some (.inl (x7)), none] [.inl (z_max (nI 1) (z_min (nI 9) x8)), .inl (y0), .inr (65)] σ) : z_J Γ zm_Model_sheet 98 [some (.inr (63)), some (.inl (x1)), some (.inl (x2)), none, some (.inl (x4)), some (.inl (x5)), some (.inl (x6)), some (.inl (x7)), some (.inl (x8))] [.inl (y0), .inr (65)] σ := by
  refine zj_iconst (v := nI 1) zd_Model_sheet_98 (by decide) ?_
  refine zj_bipush (v := nI 9) zd_Model_sheet_99 (by decide) ?_
  refine zj_iload zd_Model_sheet_101 rfl ?_
  refine zj_mmin zl_Model_221 zx_min_s zx_Math zx_min_c hdp (Nat.le_of_ble_eq_true rfl) zd_Model_sheet_103 ?_
  refine zj_mmax zl_Model_226 zx_max_s zx_Math zx_max_c hdp (Nat.le_of_ble_eq_true rfl) zd_Model_sheet_106 ?_
  exact (zj_weak (L' := [some (.inr (63)), some (.inl (x1)), some (.inl (x2)), none, some (.inl (x4)), some (.inl (x5)), some (.inl (x6)), some (.inl (x7)), none]) ⟨rfl, ⟨rfl, ⟨rfl, ⟨rfl, ⟨rfl, ⟨rfl, ⟨rfl, trivial⟩⟩⟩⟩⟩⟩⟩ k)
theorem zb_Model_sheet_109 {Γ : zG} {σ : zS} {x1 x2 x4 x5 x6 x7 y0 y1 : Int32} {k1 k2 : Nat}  (b1 : z_ix y1 12 k1) (b2 : z_ix x7 12 k2) (k : z_J Γ zm_Model_sheet 43 [some (.inr (63)), some (.inl (x1)), some (.inl (x2)), none, some (.inl (x4)), some (.inl (x5 + ((z_pI σ 65 k1 y0).1 65 k2))), some (.inl (x6 + x4)), some (.inl (x7 + nI 1)), none] [] (z_pI σ 65 k1 y0)) : z_J Γ zm_Model_sheet 109 [some (.inr (63)), some (.inl (x1)), some (.inl (x2)), none, some (.inl (x4)), some (.inl (x5)), some (.inl (x6)), some (.inl (x7)), none] [.inl (y0), .inl (y1), .inr (65)] σ := by
  refine zj_iastore rfl (by decide) b1 zd_Model_sheet_109 ?_
  refine zj_iload zd_Model_sheet_110 rfl ?_
  refine zj_aload_n zd_Model_sheet_112 rfl ?_
  refine zj_getR rfl (by decide) rfl zu_Model (k := 2) (by decide) rfl zl_Model_13 zd_Model_sheet_113 (o' := 65) rfl ?_
  refine zj_iload zd_Model_sheet_116 rfl ?_
  refine zj_iaload rfl (by decide) b2 zd_Model_sheet_118 ?_
  refine zj_iadd zd_Model_sheet_119 ?_
  refine zj_istore (L' := [some (.inr (63)), some (.inl (x1)), some (.inl (x2)), none, some (.inl (x4)), some (.inl (x5 + ((z_pI σ 65 k1 y0).1 65 k2))), some (.inl (x6)), some (.inl (x7)), none]) zd_Model_sheet_120 (by decide) rfl ?_
  refine zj_iload zd_Model_sheet_122 rfl ?_
  refine zj_iload zd_Model_sheet_124 rfl ?_
  refine zj_iadd zd_Model_sheet_126 ?_
  refine zj_istore (L' := [some (.inr (63)), some (.inl (x1)), some (.inl (x2)), none, some (.inl (x4)), some (.inl (x5 + ((z_pI σ 65 k1 y0).1 65 k2))), some (.inl (x6 + x4)), some (.inl (x7)), none]) zd_Model_sheet_127 (by decide) rfl ?_
  refine zj_iinc (v := nI 1) (L' := [some (.inr (63)), some (.inl (x1)), some (.inl (x2)), none, some (.inl (x4)), some (.inl (x5 + ((z_pI σ 65 k1 y0).1 65 k2))), some (.inl (x6 + x4)), some (.inl (x7 + nI 1)), none]) zd_Model_sheet_129 rfl (by decide) (by decide) rfl ?_
  exact zj_goto zd_Model_sheet_132 (by decide) k
theorem zb_Model_sheet_135 {Γ : zG} {σ : zS} {x1 x5 : Int32}  (kt : ¬ x1 = (nI 3) → z_J Γ zm_Model_sheet 145 [none, none, none, none, none, some (.inl (x5)), none, none, none] [] σ) (kf : x1 = (nI 3) → z_J Γ zm_Model_sheet 140 [none, none, none, none, none, none, none, none, none] [] σ) : z_J Γ zm_Model_sheet 135 [none, some (.inl (x1)), none, none, none, some (.inl (x5)), none, none, none] [] σ := by
  refine zj_iload_n zd_Model_sheet_135 rfl ?_
  refine zj_iconst (v := nI 3) zd_Model_sheet_136 (by decide) ?_
  exact zj_icmp_ne zd_Model_sheet_137 (by decide) (fun h => (zj_weak (L' := [none, none, none, none, none, some (.inl (x5)), none, none, none]) ⟨rfl, trivial⟩ (kt h))) (fun h => (zj_weak (L' := [none, none, none, none, none, none, none, none, none]) trivial (kf h)))
theorem zb_Model_sheet_140 {Γ : zG} {σ : zS}  (k : z_J Γ zm_Model_sheet 147 [none, none, none, none, none, none, none, none, none] [.inl ((-3))] σ) : z_J Γ zm_Model_sheet 140 [none, none, none, none, none, none, none, none, none] [] σ := by
  refine zj_bipush (v := (-3)) zd_Model_sheet_140 (by decide) ?_
  exact zj_goto zd_Model_sheet_142 (by decide) k
theorem zb_Model_sheet_145 {Γ : zG} {σ : zS} {x5 : Int32}  (k : z_J Γ zm_Model_sheet 147 [none, none, none, none, none, none, none, none, none] [.inl (x5)] σ) : z_J Γ zm_Model_sheet 145 [none, none, none, none, none, some (.inl (x5)), none, none, none] [] σ := by
  refine zj_iload zd_Model_sheet_145 rfl ?_
  exact (zj_weak (L' := [none, none, none, none, none, none, none, none, none]) trivial k)
theorem zb_Model_sheet_147 {Γ : zG} {σ : zS} {y0 : Int32}  (e : z_end Γ (some (y0)) σ) : z_J Γ zm_Model_sheet 147 [none, none, none, none, none, none, none, none, none] [.inl (y0)] σ := by
  exact zj_ireturn rfl zd_Model_sheet_147 e
theorem zd_Model_lay_0_0 : decode zm_Model_lay_0.2.1 0 = .ok (.aload_n 0, 1) := by decide +kernel
theorem zd_Model_lay_0_1 : decode zm_Model_lay_0.2.1 1 = .ok (.iconst 0, 1) := by decide +kernel
theorem zd_Model_lay_0_2 : decode zm_Model_lay_0.2.1 2 = .ok (.putfield 91, 3) := by decide +kernel
theorem zd_Model_lay_0_5 : decode zm_Model_lay_0.2.1 5 = .ok (.aload_n 0, 1) := by decide +kernel
theorem zd_Model_lay_0_6 : decode zm_Model_lay_0.2.1 6 = .ok (.aload_n 0, 1) := by decide +kernel
theorem zd_Model_lay_0_7 : decode zm_Model_lay_0.2.1 7 = .ok (.getfield 9, 3) := by decide +kernel
theorem zd_Model_lay_0_10 : decode zm_Model_lay_0.2.1 10 = .ok (.iload_n 1, 1) := by decide +kernel
theorem zd_Model_lay_0_11 : decode zm_Model_lay_0.2.1 11 = .ok (.iload_n 2, 1) := by decide +kernel
theorem zd_Model_lay_0_12 : decode zm_Model_lay_0.2.1 12 = .ok (.invokevirtual 281, 3) := by decide +kernel
theorem zd_Model_lay_0_15 : decode zm_Model_lay_0.2.1 15 = .ok (.istore_n 3, 1) := by decide +kernel
theorem zd_Model_lay_0_16 : decode zm_Model_lay_0.2.1 16 = .ok (.iload_n 3, 1) := by decide +kernel
theorem zd_Model_lay_0_17 : decode zm_Model_lay_0.2.1 17 = .ok (.ifCond .ge 5, 3) := by decide +kernel
theorem zd_Model_lay_0_20 : decode zm_Model_lay_0.2.1 20 = .ok (.iload_n 3, 1) := by decide +kernel
theorem zd_Model_lay_0_21 : decode zm_Model_lay_0.2.1 21 = .ok (.ireturn, 1) := by decide +kernel
theorem zd_Model_lay_0_22 : decode zm_Model_lay_0.2.1 22 = .ok (.aload_n 0, 1) := by decide +kernel
theorem zd_Model_lay_0_23 : decode zm_Model_lay_0.2.1 23 = .ok (.aload_n 0, 1) := by decide +kernel
theorem zd_Model_lay_0_24 : decode zm_Model_lay_0.2.1 24 = .ok (.getfield 9, 3) := by decide +kernel
theorem zd_Model_lay_0_27 : decode zm_Model_lay_0.2.1 27 = .ok (.invokevirtual 284, 3) := by decide +kernel
theorem zd_Model_lay_0_30 : decode zm_Model_lay_0.2.1 30 = .ok (.aload_n 0, 1) := by decide +kernel
theorem zd_Model_lay_0_31 : decode zm_Model_lay_0.2.1 31 = .ok (.aload_n 0, 1) := by decide +kernel
theorem zd_Model_lay_0_32 : decode zm_Model_lay_0.2.1 32 = .ok (.getfield 9, 3) := by decide +kernel
theorem zd_Model_lay_0_35 : decode zm_Model_lay_0.2.1 35 = .ok (.iload_n 1, 1) := by decide +kernel
theorem zd_Model_lay_0_36 : decode zm_Model_lay_0.2.1 36 = .ok (.iload_n 2, 1) := by decide +kernel
theorem zd_Model_lay_0_37 : decode zm_Model_lay_0.2.1 37 = .ok (.invokevirtual 288, 3) := by decide +kernel
theorem zd_Model_lay_0_40 : decode zm_Model_lay_0.2.1 40 = .ok (.aload_n 0, 1) := by decide +kernel
theorem zd_Model_lay_0_41 : decode zm_Model_lay_0.2.1 41 = .ok (.aload_n 0, 1) := by decide +kernel
theorem zd_Model_lay_0_42 : decode zm_Model_lay_0.2.1 42 = .ok (.getfield 9, 3) := by decide +kernel
theorem zd_Model_lay_0_45 : decode zm_Model_lay_0.2.1 45 = .ok (.iload_n 2, 1) := by decide +kernel
theorem zd_Model_lay_0_46 : decode zm_Model_lay_0.2.1 46 = .ok (.invokevirtual 255, 3) := by decide +kernel
theorem zd_Model_lay_0_49 : decode zm_Model_lay_0.2.1 49 = .ok (.ireturn, 1) := by decide +kernel
theorem zb_Model_lay_0_0 {Γ : zG} {σ : zS} {x1 x2 : Int32} {dc : Nat} {P : Int32 → zS → Prop}  (hm : z_Ci dc zm_Model_refusesLay [.inr (63), .inr (64), .inl (x1), .inl (x2)] (z_pI σ 63 11 (nI 0)) P) (hdp : dc < z_dep Γ) (k : ∀ r σ1, P r σ1 → z_J Γ zm_Model_lay_0 15 [some (.inr (63)), some (.inl (x1)), some (.inl (x2)), none] [.inl (r)] σ1) : z_J Γ zm_Model_lay_0 0 [some (.inr (63)), some (.inl (x1)), some (.inl (x2)), none] [] σ := by
  refine zj_aload_n zd_Model_lay_0_0 rfl ?_
  refine zj_iconst (v := nI 0) zd_Model_lay_0_1 (by decide) ?_
  refine zj_putI rfl (by decide) rfl zu_Model zy_Model_ok zn_Model (k := 11) (by decide) rfl rfl zl_Model_91 rfl rfl zd_Model_lay_0_2 ?_
  refine zj_aload_n zd_Model_lay_0_5 rfl ?_
  refine zj_aload_n zd_Model_lay_0_6 rfl ?_
  refine zj_getR rfl (by decide) rfl zu_Model (k := 0) (by decide) rfl zl_Model_9 zd_Model_lay_0_7 (o' := 64) rfl ?_
  refine zj_iload_n zd_Model_lay_0_10 rfl ?_
  refine zj_iload_n zd_Model_lay_0_11 rfl ?_
  exact zj_callVi (As := [.inr (64), .inl (x1), .inl (x2)]) hm hdp rfl (by decide) rfl zl_Model_281 zq_Model_refusesLay zd_Model_lay_0_12 rfl (Nat.le_of_ble_eq_true rfl) (fun r σ1 h => (k r σ1 h))
theorem zb_Model_lay_0_15 {Γ : zG} {σ : zS} {x1 x2 y0 : Int32}  (kt : 0 ≤ y0 → z_J Γ zm_Model_lay_0 22 [some (.inr (63)), some (.inl (x1)), some (.inl (x2)), none] [] σ) (kf : ¬ 0 ≤ y0 → z_J Γ zm_Model_lay_0 20 [none, none, none, some (.inl (y0))] [] σ) : z_J Γ zm_Model_lay_0 15 [some (.inr (63)), some (.inl (x1)), some (.inl (x2)), none] [.inl (y0)] σ := by
  refine zj_istore_n (L' := [some (.inr (63)), some (.inl (x1)), some (.inl (x2)), some (.inl (y0))]) zd_Model_lay_0_15 (by decide) rfl ?_
  refine zj_iload_n zd_Model_lay_0_16 rfl ?_
  exact zj_if_ge zd_Model_lay_0_17 (by decide) (fun h => (zj_weak (L' := [some (.inr (63)), some (.inl (x1)), some (.inl (x2)), none]) ⟨rfl, ⟨rfl, ⟨rfl, trivial⟩⟩⟩ (kt h))) (fun h => (zj_weak (L' := [none, none, none, some (.inl (y0))]) ⟨rfl, trivial⟩ (kf h)))
theorem zb_Model_lay_0_20 {Γ : zG} {σ : zS} {x3 : Int32}  (e : z_end Γ (some (x3)) σ) : z_J Γ zm_Model_lay_0 20 [none, none, none, some (.inl (x3))] [] σ := by
  refine zj_iload_n zd_Model_lay_0_20 rfl ?_
  exact zj_ireturn rfl zd_Model_lay_0_21 e
theorem zb_Model_lay_0_22 {Γ : zG} {σ : zS} {x1 x2 : Int32} {dc : Nat} {P : zS → Prop}  (hm : z_Cv dc zm_Model_remember [.inr (63), .inr (64)] σ P) (hdp : dc < z_dep Γ) (k : ∀ σ1, P σ1 → z_J Γ zm_Model_lay_0 30 [some (.inr (63)), some (.inl (x1)), some (.inl (x2)), none] [] σ1) : z_J Γ zm_Model_lay_0 22 [some (.inr (63)), some (.inl (x1)), some (.inl (x2)), none] [] σ := by
  refine zj_aload_n zd_Model_lay_0_22 rfl ?_
  refine zj_aload_n zd_Model_lay_0_23 rfl ?_
  refine zj_getR rfl (by decide) rfl zu_Model (k := 0) (by decide) rfl zl_Model_9 zd_Model_lay_0_24 (o' := 64) rfl ?_
  exact zj_callVv (As := [.inr (64)]) hm hdp rfl (by decide) rfl zl_Model_284 zq_Model_remember zd_Model_lay_0_27 rfl (Nat.le_of_ble_eq_true rfl) (fun σ1 h => (k σ1 h))
theorem zb_Model_lay_0_30 {Γ : zG} {σ : zS} {x1 x2 : Int32} {dc : Nat} {P : zS → Prop}  (hm : z_Cv dc zm_Model_goLay [.inr (63), .inr (64), .inl (x1), .inl (x2)] σ P) (hdp : dc < z_dep Γ) (k : ∀ σ1, P σ1 → z_J Γ zm_Model_lay_0 40 [some (.inr (63)), none, some (.inl (x2)), none] [] σ1) : z_J Γ zm_Model_lay_0 30 [some (.inr (63)), some (.inl (x1)), some (.inl (x2)), none] [] σ := by
  refine zj_aload_n zd_Model_lay_0_30 rfl ?_
  refine zj_aload_n zd_Model_lay_0_31 rfl ?_
  refine zj_getR rfl (by decide) rfl zu_Model (k := 0) (by decide) rfl zl_Model_9 zd_Model_lay_0_32 (o' := 64) rfl ?_
  refine zj_iload_n zd_Model_lay_0_35 rfl ?_
  refine zj_iload_n zd_Model_lay_0_36 rfl ?_
  exact zj_callVv (As := [.inr (64), .inl (x1), .inl (x2)]) hm hdp rfl (by decide) rfl zl_Model_288 zq_Model_goLay zd_Model_lay_0_37 rfl (Nat.le_of_ble_eq_true rfl) (fun σ1 h => (zj_weak (L' := [some (.inr (63)), none, some (.inl (x2)), none]) ⟨rfl, ⟨rfl, trivial⟩⟩ (k σ1 h)))
theorem zb_Model_lay_0_40 {Γ : zG} {σ : zS} {x2 : Int32} {dc : Nat} {P : Int32 → zS → Prop}  (hm : z_Ci dc zm_Model_heightOf [.inr (63), .inr (64), .inl (x2)] σ P) (hdp : dc < z_dep Γ) (k : ∀ r σ1, P r σ1 → z_J Γ zm_Model_lay_0 49 [none, none, none, none] [.inl (r)] σ1) : z_J Γ zm_Model_lay_0 40 [some (.inr (63)), none, some (.inl (x2)), none] [] σ := by
  refine zj_aload_n zd_Model_lay_0_40 rfl ?_
  refine zj_aload_n zd_Model_lay_0_41 rfl ?_
  refine zj_getR rfl (by decide) rfl zu_Model (k := 0) (by decide) rfl zl_Model_9 zd_Model_lay_0_42 (o' := 64) rfl ?_
  refine zj_iload_n zd_Model_lay_0_45 rfl ?_
  exact zj_callVi (As := [.inr (64), .inl (x2)]) hm hdp rfl (by decide) rfl zl_Model_255 zq_Model_heightOf zd_Model_lay_0_46 rfl (Nat.le_of_ble_eq_true rfl) (fun r σ1 h => (zj_weak (L' := [none, none, none, none]) trivial (k r σ1 h)))
theorem zb_Model_lay_0_49 {Γ : zG} {σ : zS} {y0 : Int32}  (e : z_end Γ (some (y0)) σ) : z_J Γ zm_Model_lay_0 49 [none, none, none, none] [.inl (y0)] σ := by
  exact zj_ireturn rfl zd_Model_lay_0_49 e
theorem zd_Model_refusesLay_0 : decode zm_Model_refusesLay.2.1 0 = .ok (.aload_n 0, 1) := by decide +kernel
theorem zd_Model_refusesLay_1 : decode zm_Model_refusesLay.2.1 1 = .ok (.iload_n 2, 1) := by decide +kernel
theorem zd_Model_refusesLay_2 : decode zm_Model_refusesLay.2.1 2 = .ok (.invokevirtual 184, 3) := by decide +kernel
theorem zd_Model_refusesLay_5 : decode zm_Model_refusesLay.2.1 5 = .ok (.ifCond .eq 11, 3) := by decide +kernel
theorem zd_Model_refusesLay_8 : decode zm_Model_refusesLay.2.1 8 = .ok (.aload_n 0, 1) := by decide +kernel
theorem zd_Model_refusesLay_9 : decode zm_Model_refusesLay.2.1 9 = .ok (.iload_n 3, 1) := by decide +kernel
theorem zd_Model_refusesLay_10 : decode zm_Model_refusesLay.2.1 10 = .ok (.invokevirtual 266, 3) := by decide +kernel
theorem zd_Model_refusesLay_13 : decode zm_Model_refusesLay.2.1 13 = .ok (.ifCond .ne 5, 3) := by decide +kernel
theorem zd_Model_refusesLay_16 : decode zm_Model_refusesLay.2.1 16 = .ok (.iconst (-1), 1) := by decide +kernel
theorem zd_Model_refusesLay_17 : decode zm_Model_refusesLay.2.1 17 = .ok (.ireturn, 1) := by decide +kernel
theorem zd_Model_refusesLay_18 : decode zm_Model_refusesLay.2.1 18 = .ok (.aload_n 1, 1) := by decide +kernel
theorem zd_Model_refusesLay_19 : decode zm_Model_refusesLay.2.1 19 = .ok (.iload_n 2, 1) := by decide +kernel
theorem zd_Model_refusesLay_20 : decode zm_Model_refusesLay.2.1 20 = .ok (.iaload, 1) := by decide +kernel
theorem zd_Model_refusesLay_21 : decode zm_Model_refusesLay.2.1 21 = .ok (.ifCond .ne 13, 3) := by decide +kernel
theorem zd_Model_refusesLay_24 : decode zm_Model_refusesLay.2.1 24 = .ok (.aload_n 0, 1) := by decide +kernel
theorem zd_Model_refusesLay_25 : decode zm_Model_refusesLay.2.1 25 = .ok (.aload_n 1, 1) := by decide +kernel
theorem zd_Model_refusesLay_26 : decode zm_Model_refusesLay.2.1 26 = .ok (.iload_n 2, 1) := by decide +kernel
theorem zd_Model_refusesLay_27 : decode zm_Model_refusesLay.2.1 27 = .ok (.iload_n 3, 1) := by decide +kernel
theorem zd_Model_refusesLay_28 : decode zm_Model_refusesLay.2.1 28 = .ok (.invokevirtual 278, 3) := by decide +kernel
theorem zd_Model_refusesLay_31 : decode zm_Model_refusesLay.2.1 31 = .ok (.goto 5, 3) := by decide +kernel
theorem zd_Model_refusesLay_34 : decode zm_Model_refusesLay.2.1 34 = .ok (.bipush (-2), 2) := by decide +kernel
theorem zd_Model_refusesLay_36 : decode zm_Model_refusesLay.2.1 36 = .ok (.ireturn, 1) := by decide +kernel
theorem zb_Model_refusesLay_0 {Γ : zG} {σ : zS} {a1 : Nat} {x2 x3 : Int32} {dc : Nat} {P : Int32 → zS → Prop} (h_a1 : z_kd a1 = (11, 53)) (hm : z_Ci dc zm_Model_isBook [.inr (63), .inl (x2)] σ P) (hdp : dc < z_dep Γ) (k : ∀ r σ1, P r σ1 → z_J Γ zm_Model_refusesLay 5 [some (.inr (63)), some (.inr (a1)), some (.inl (x2)), some (.inl (x3))] [.inl (r)] σ1) : z_J Γ zm_Model_refusesLay 0 [some (.inr (63)), some (.inr (a1)), some (.inl (x2)), some (.inl (x3))] [] σ := by
  refine zj_aload_n zd_Model_refusesLay_0 rfl ?_
  refine zj_iload_n zd_Model_refusesLay_1 rfl ?_
  exact zj_callVi (As := [.inl (x2)]) hm hdp rfl (by decide) rfl zl_Model_184 zq_Model_isBook zd_Model_refusesLay_2 rfl (Nat.le_of_ble_eq_true rfl) (fun r σ1 h => (k r σ1 h))
theorem zb_Model_refusesLay_5 {Γ : zG} {σ : zS} {a1 : Nat} {x2 x3 y0 : Int32} (h_a1 : z_kd a1 = (11, 53)) (kt : y0 = 0 → z_J Γ zm_Model_refusesLay 16 [none, none, none, none] [] σ) (kf : ¬ y0 = 0 → z_J Γ zm_Model_refusesLay 8 [some (.inr (63)), some (.inr (a1)), some (.inl (x2)), some (.inl (x3))] [] σ) : z_J Γ zm_Model_refusesLay 5 [some (.inr (63)), some (.inr (a1)), some (.inl (x2)), some (.inl (x3))] [.inl (y0)] σ := by
  exact zj_if_eq zd_Model_refusesLay_5 (by decide) (fun h => (zj_weak (L' := [none, none, none, none]) trivial (kt h))) (fun h => (kf h))
theorem zb_Model_refusesLay_8 {Γ : zG} {σ : zS} {a1 : Nat} {x2 x3 : Int32} {dc : Nat} {P : Int32 → zS → Prop} (h_a1 : z_kd a1 = (11, 53)) (hm : z_Ci dc zm_Model_isColumn [.inr (63), .inl (x3)] σ P) (hdp : dc < z_dep Γ) (k : ∀ r σ1, P r σ1 → z_J Γ zm_Model_refusesLay 13 [some (.inr (63)), some (.inr (a1)), some (.inl (x2)), some (.inl (x3))] [.inl (r)] σ1) : z_J Γ zm_Model_refusesLay 8 [some (.inr (63)), some (.inr (a1)), some (.inl (x2)), some (.inl (x3))] [] σ := by
  refine zj_aload_n zd_Model_refusesLay_8 rfl ?_
  refine zj_iload_n zd_Model_refusesLay_9 rfl ?_
  exact zj_callVi (As := [.inl (x3)]) hm hdp rfl (by decide) rfl zl_Model_266 zq_Model_isColumn zd_Model_refusesLay_10 rfl (Nat.le_of_ble_eq_true rfl) (fun r σ1 h => (k r σ1 h))
theorem zb_Model_refusesLay_13 {Γ : zG} {σ : zS} {a1 : Nat} {x2 x3 y0 : Int32} (h_a1 : z_kd a1 = (11, 53)) (kt : ¬ y0 = 0 → z_J Γ zm_Model_refusesLay 18 [some (.inr (63)), some (.inr (a1)), some (.inl (x2)), some (.inl (x3))] [] σ) (kf : y0 = 0 → z_J Γ zm_Model_refusesLay 16 [none, none, none, none] [] σ) : z_J Γ zm_Model_refusesLay 13 [some (.inr (63)), some (.inr (a1)), some (.inl (x2)), some (.inl (x3))] [.inl (y0)] σ := by
  exact zj_if_ne zd_Model_refusesLay_13 (by decide) (fun h => (kt h)) (fun h => (zj_weak (L' := [none, none, none, none]) trivial (kf h)))
theorem zb_Model_refusesLay_16 {Γ : zG} {σ : zS}  (e : z_end Γ (some ((-1))) σ) : z_J Γ zm_Model_refusesLay 16 [none, none, none, none] [] σ := by
  refine zj_iconst (v := (-1)) zd_Model_refusesLay_16 (by decide) ?_
  exact zj_ireturn rfl zd_Model_refusesLay_17 e
theorem zb_Model_refusesLay_18 {Γ : zG} {σ : zS} {a1 : Nat} {x2 x3 : Int32} {k1 : Nat} (h_a1 : z_kd a1 = (11, 53)) (b1 : z_ix x2 53 k1) (kt : ¬ (σ.1 a1 k1) = 0 → z_J Γ zm_Model_refusesLay 34 [none, none, none, none] [] σ) (kf : (σ.1 a1 k1) = 0 → z_J Γ zm_Model_refusesLay 24 [some (.inr (63)), some (.inr (a1)), some (.inl (x2)), some (.inl (x3))] [] σ) : z_J Γ zm_Model_refusesLay 18 [some (.inr (63)), some (.inr (a1)), some (.inl (x2)), some (.inl (x3))] [] σ := by
  refine zj_aload_n zd_Model_refusesLay_18 rfl ?_
  refine zj_iload_n zd_Model_refusesLay_19 rfl ?_
  refine zj_iaload h_a1 (by decide) b1 zd_Model_refusesLay_20 ?_
  exact zj_if_ne zd_Model_refusesLay_21 (by decide) (fun h => (zj_weak (L' := [none, none, none, none]) trivial (kt h))) (fun h => (kf h))
theorem zb_Model_refusesLay_24 {Γ : zG} {σ : zS} {a1 : Nat} {x2 x3 : Int32} {dc : Nat} {P : Int32 → zS → Prop} (h_a1 : z_kd a1 = (11, 53)) (hm : z_Ci dc zm_Model_refusesTop [.inr (63), .inr (a1), .inl (x2), .inl (x3)] σ P) (hdp : dc < z_dep Γ) (k : ∀ r σ1, P r σ1 → z_J Γ zm_Model_refusesLay 31 [none, none, none, none] [.inl (r)] σ1) : z_J Γ zm_Model_refusesLay 24 [some (.inr (63)), some (.inr (a1)), some (.inl (x2)), some (.inl (x3))] [] σ := by
  refine zj_aload_n zd_Model_refusesLay_24 rfl ?_
  refine zj_aload_n zd_Model_refusesLay_25 rfl ?_
  refine zj_iload_n zd_Model_refusesLay_26 rfl ?_
  refine zj_iload_n zd_Model_refusesLay_27 rfl ?_
  exact zj_callVi (As := [.inr (a1), .inl (x2), .inl (x3)]) hm hdp rfl (by decide) rfl zl_Model_278 zq_Model_refusesTop zd_Model_refusesLay_28 rfl (Nat.le_of_ble_eq_true rfl) (fun r σ1 h => (zj_weak (L' := [none, none, none, none]) trivial (k r σ1 h)))
theorem zb_Model_refusesLay_31 {Γ : zG} {σ : zS} {y0 : Int32}  (k : z_J Γ zm_Model_refusesLay 36 [none, none, none, none] [.inl (y0)] σ) : z_J Γ zm_Model_refusesLay 31 [none, none, none, none] [.inl (y0)] σ := by
  exact zj_goto zd_Model_refusesLay_31 (by decide) k
theorem zb_Model_refusesLay_34 {Γ : zG} {σ : zS}  (k : z_J Γ zm_Model_refusesLay 36 [none, none, none, none] [.inl ((-2))] σ) : z_J Γ zm_Model_refusesLay 34 [none, none, none, none] [] σ := by
  refine zj_bipush (v := (-2)) zd_Model_refusesLay_34 (by decide) ?_
  exact k
theorem zb_Model_refusesLay_36 {Γ : zG} {σ : zS} {y0 : Int32}  (e : z_end Γ (some (y0)) σ) : z_J Γ zm_Model_refusesLay 36 [none, none, none, none] [.inl (y0)] σ := by
  exact zj_ireturn rfl zd_Model_refusesLay_36 e
theorem zd_Model_refusesTop_0 : decode zm_Model_refusesTop.2.1 0 = .ok (.aload_n 0, 1) := by decide +kernel
theorem zd_Model_refusesTop_1 : decode zm_Model_refusesTop.2.1 1 = .ok (.aload_n 1, 1) := by decide +kernel
theorem zd_Model_refusesTop_2 : decode zm_Model_refusesTop.2.1 2 = .ok (.iload_n 3, 1) := by decide +kernel
theorem zd_Model_refusesTop_3 : decode zm_Model_refusesTop.2.1 3 = .ok (.iconst 0, 1) := by decide +kernel
theorem zd_Model_refusesTop_4 : decode zm_Model_refusesTop.2.1 4 = .ok (.invokevirtual 236, 3) := by decide +kernel
theorem zd_Model_refusesTop_7 : decode zm_Model_refusesTop.2.1 7 = .ok (.istore 4, 2) := by decide +kernel
theorem zd_Model_refusesTop_9 : decode zm_Model_refusesTop.2.1 9 = .ok (.iload 4, 2) := by decide +kernel
theorem zd_Model_refusesTop_11 : decode zm_Model_refusesTop.2.1 11 = .ok (.iconst 4, 1) := by decide +kernel
theorem zd_Model_refusesTop_12 : decode zm_Model_refusesTop.2.1 12 = .ok (.if_icmp .ne 6, 3) := by decide +kernel
theorem zd_Model_refusesTop_15 : decode zm_Model_refusesTop.2.1 15 = .ok (.bipush (-3), 2) := by decide +kernel
theorem zd_Model_refusesTop_17 : decode zm_Model_refusesTop.2.1 17 = .ok (.ireturn, 1) := by decide +kernel
theorem zd_Model_refusesTop_18 : decode zm_Model_refusesTop.2.1 18 = .ok (.aload_n 0, 1) := by decide +kernel
theorem zd_Model_refusesTop_19 : decode zm_Model_refusesTop.2.1 19 = .ok (.getfield 51, 3) := by decide +kernel
theorem zd_Model_refusesTop_22 : decode zm_Model_refusesTop.2.1 22 = .ok (.iload 4, 2) := by decide +kernel
theorem zd_Model_refusesTop_24 : decode zm_Model_refusesTop.2.1 24 = .ok (.iload_n 2, 1) := by decide +kernel
theorem zd_Model_refusesTop_25 : decode zm_Model_refusesTop.2.1 25 = .ok (.iastore, 1) := by decide +kernel
theorem zd_Model_refusesTop_26 : decode zm_Model_refusesTop.2.1 26 = .ok (.aload_n 0, 1) := by decide +kernel
theorem zd_Model_refusesTop_27 : decode zm_Model_refusesTop.2.1 27 = .ok (.iload_n 3, 1) := by decide +kernel
theorem zd_Model_refusesTop_28 : decode zm_Model_refusesTop.2.1 28 = .ok (.iload 4, 2) := by decide +kernel
theorem zd_Model_refusesTop_30 : decode zm_Model_refusesTop.2.1 30 = .ok (.iconst 1, 1) := by decide +kernel
theorem zd_Model_refusesTop_31 : decode zm_Model_refusesTop.2.1 31 = .ok (.iadd, 1) := by decide +kernel
theorem zd_Model_refusesTop_32 : decode zm_Model_refusesTop.2.1 32 = .ok (.aload_n 1, 1) := by decide +kernel
theorem zd_Model_refusesTop_33 : decode zm_Model_refusesTop.2.1 33 = .ok (.bipush 48, 2) := by decide +kernel
theorem zd_Model_refusesTop_35 : decode zm_Model_refusesTop.2.1 35 = .ok (.iaload, 1) := by decide +kernel
theorem zd_Model_refusesTop_36 : decode zm_Model_refusesTop.2.1 36 = .ok (.invokevirtual 240, 3) := by decide +kernel
theorem zd_Model_refusesTop_39 : decode zm_Model_refusesTop.2.1 39 = .ok (.ifCond .eq 7, 3) := by decide +kernel
theorem zd_Model_refusesTop_42 : decode zm_Model_refusesTop.2.1 42 = .ok (.iconst 0, 1) := by decide +kernel
theorem zd_Model_refusesTop_43 : decode zm_Model_refusesTop.2.1 43 = .ok (.goto 5, 3) := by decide +kernel
theorem zd_Model_refusesTop_46 : decode zm_Model_refusesTop.2.1 46 = .ok (.bipush (-4), 2) := by decide +kernel
theorem zd_Model_refusesTop_48 : decode zm_Model_refusesTop.2.1 48 = .ok (.ireturn, 1) := by decide +kernel
theorem zb_Model_refusesTop_0 {Γ : zG} {σ : zS} {a1 : Nat} {x2 x3 : Int32} {dc : Nat} {P : Int32 → zS → Prop} (h_a1 : z_kd a1 = (11, 53)) (hm : z_Ci dc zm_Model_readPile [.inr (63), .inr (a1), .inl (x3), .inl (nI 0)] σ P) (hdp : dc < z_dep Γ) (k : ∀ r σ1, P r σ1 → z_J Γ zm_Model_refusesTop 7 [some (.inr (63)), some (.inr (a1)), some (.inl (x2)), some (.inl (x3)), none] [.inl (r)] σ1) : z_J Γ zm_Model_refusesTop 0 [some (.inr (63)), some (.inr (a1)), some (.inl (x2)), some (.inl (x3)), none] [] σ := by
  refine zj_aload_n zd_Model_refusesTop_0 rfl ?_
  refine zj_aload_n zd_Model_refusesTop_1 rfl ?_
  refine zj_iload_n zd_Model_refusesTop_2 rfl ?_
  refine zj_iconst (v := nI 0) zd_Model_refusesTop_3 (by decide) ?_
  exact zj_callVi (As := [.inr (a1), .inl (x3), .inl (nI 0)]) hm hdp rfl (by decide) rfl zl_Model_236 zq_Model_readPile zd_Model_refusesTop_4 rfl (Nat.le_of_ble_eq_true rfl) (fun r σ1 h => (k r σ1 h))
theorem zb_Model_refusesTop_7 {Γ : zG} {σ : zS} {a1 : Nat} {x2 x3 y0 : Int32} (h_a1 : z_kd a1 = (11, 53)) (kt : ¬ y0 = (nI 4) → z_J Γ zm_Model_refusesTop 18 [some (.inr (63)), some (.inr (a1)), some (.inl (x2)), some (.inl (x3)), some (.inl (y0))] [] σ) (kf : y0 = (nI 4) → z_J Γ zm_Model_refusesTop 15 [none, none, none, none, none] [] σ) : z_J Γ zm_Model_refusesTop 7 [some (.inr (63)), some (.inr (a1)), some (.inl (x2)), some (.inl (x3)), none] [.inl (y0)] σ := by
  refine zj_istore (L' := [some (.inr (63)), some (.inr (a1)), some (.inl (x2)), some (.inl (x3)), some (.inl (y0))]) zd_Model_refusesTop_7 (by decide) rfl ?_
  refine zj_iload zd_Model_refusesTop_9 rfl ?_
  refine zj_iconst (v := nI 4) zd_Model_refusesTop_11 (by decide) ?_
  exact zj_icmp_ne zd_Model_refusesTop_12 (by decide) (fun h => (kt h)) (fun h => (zj_weak (L' := [none, none, none, none, none]) trivial (kf h)))
theorem zb_Model_refusesTop_15 {Γ : zG} {σ : zS}  (e : z_end Γ (some ((-3))) σ) : z_J Γ zm_Model_refusesTop 15 [none, none, none, none, none] [] σ := by
  refine zj_bipush (v := (-3)) zd_Model_refusesTop_15 (by decide) ?_
  exact zj_ireturn rfl zd_Model_refusesTop_17 e
theorem zb_Model_refusesTop_18 {Γ : zG} {σ : zS} {a1 : Nat} {x2 x3 x4 : Int32} {k1 k2 : Nat} {dc : Nat} {P : Int32 → zS → Prop} (h_a1 : z_kd a1 = (11, 53)) (b1 : z_ix x4 4 k1) (b2 : z_ix (nI 48) 53 k2) (hm : z_Ci dc zm_Model_doesPileHold [.inr (63), .inl (x3), .inl (x4 + (nI 1)), .inl ((z_pI σ 75 k1 x2).1 a1 k2)] (z_pI σ 75 k1 x2) P) (hdp : dc < z_dep Γ) (k : ∀ r σ1, P r σ1 → z_J Γ zm_Model_refusesTop 39 [none, none, none, none, none] [.inl (r)] σ1) : z_J Γ zm_Model_refusesTop 18 [some (.inr (63)), some (.inr (a1)), some (.inl (x2)), some (.inl (x3)), some (.inl (x4))] [] σ := by
  refine zj_aload_n zd_Model_refusesTop_18 rfl ?_
  refine zj_getR rfl (by decide) rfl zu_Model (k := 25) (by decide) rfl zl_Model_51 zd_Model_refusesTop_19 (o' := 75) rfl ?_
  refine zj_iload zd_Model_refusesTop_22 rfl ?_
  refine zj_iload_n zd_Model_refusesTop_24 rfl ?_
  refine zj_iastore rfl (by decide) b1 zd_Model_refusesTop_25 ?_
  refine zj_aload_n zd_Model_refusesTop_26 rfl ?_
  refine zj_iload_n zd_Model_refusesTop_27 rfl ?_
  refine zj_iload zd_Model_refusesTop_28 rfl ?_
  refine zj_iconst (v := nI 1) zd_Model_refusesTop_30 (by decide) ?_
  refine zj_iadd zd_Model_refusesTop_31 ?_
  refine zj_aload_n zd_Model_refusesTop_32 rfl ?_
  refine zj_bipush (v := nI 48) zd_Model_refusesTop_33 (by decide) ?_
  refine zj_iaload h_a1 (by decide) b2 zd_Model_refusesTop_35 ?_
  exact zj_callVi (As := [.inl (x3), .inl (x4 + (nI 1)), .inl ((z_pI σ 75 k1 x2).1 a1 k2)]) hm hdp rfl (by decide) rfl zl_Model_240 zq_Model_doesPileHold zd_Model_refusesTop_36 rfl (Nat.le_of_ble_eq_true rfl) (fun r σ1 h => (zj_weak (L' := [none, none, none, none, none]) trivial (k r σ1 h)))
theorem zb_Model_refusesTop_39 {Γ : zG} {σ : zS} {y0 : Int32}  (kt : y0 = 0 → z_J Γ zm_Model_refusesTop 46 [none, none, none, none, none] [] σ) (kf : ¬ y0 = 0 → z_J Γ zm_Model_refusesTop 42 [none, none, none, none, none] [] σ) : z_J Γ zm_Model_refusesTop 39 [none, none, none, none, none] [.inl (y0)] σ := by
  exact zj_if_eq zd_Model_refusesTop_39 (by decide) (fun h => (kt h)) (fun h => (kf h))
theorem zb_Model_refusesTop_42 {Γ : zG} {σ : zS}  (k : z_J Γ zm_Model_refusesTop 48 [none, none, none, none, none] [.inl (nI 0)] σ) : z_J Γ zm_Model_refusesTop 42 [none, none, none, none, none] [] σ := by
  refine zj_iconst (v := nI 0) zd_Model_refusesTop_42 (by decide) ?_
  exact zj_goto zd_Model_refusesTop_43 (by decide) k
theorem zb_Model_refusesTop_46 {Γ : zG} {σ : zS}  (k : z_J Γ zm_Model_refusesTop 48 [none, none, none, none, none] [.inl ((-4))] σ) : z_J Γ zm_Model_refusesTop 46 [none, none, none, none, none] [] σ := by
  refine zj_bipush (v := (-4)) zd_Model_refusesTop_46 (by decide) ?_
  exact k
theorem zb_Model_refusesTop_48 {Γ : zG} {σ : zS} {y0 : Int32}  (e : z_end Γ (some (y0)) σ) : z_J Γ zm_Model_refusesTop 48 [none, none, none, none, none] [.inl (y0)] σ := by
  exact zj_ireturn rfl zd_Model_refusesTop_48 e
theorem zd_Model_remember_0 : decode zm_Model_remember.2.1 0 = .ok (.aload_n 0, 1) := by decide +kernel
theorem zd_Model_remember_1 : decode zm_Model_remember.2.1 1 = .ok (.getfield 155, 3) := by decide +kernel
theorem zd_Model_remember_4 : decode zm_Model_remember.2.1 4 = .ok (.bipush 12, 2) := by decide +kernel
theorem zd_Model_remember_6 : decode zm_Model_remember.2.1 6 = .ok (.if_icmp .ne 43, 3) := by decide +kernel
theorem zd_Model_remember_9 : decode zm_Model_remember.2.1 9 = .ok (.iconst 0, 1) := by decide +kernel
theorem zd_Model_remember_10 : decode zm_Model_remember.2.1 10 = .ok (.istore_n 2, 1) := by decide +kernel
theorem zd_Model_remember_11 : decode zm_Model_remember.2.1 11 = .ok (.iload_n 2, 1) := by decide +kernel
theorem zd_Model_remember_12 : decode zm_Model_remember.2.1 12 = .ok (.sipush 583, 3) := by decide +kernel
theorem zd_Model_remember_15 : decode zm_Model_remember.2.1 15 = .ok (.if_icmp .ge 24, 3) := by decide +kernel
theorem zd_Model_remember_18 : decode zm_Model_remember.2.1 18 = .ok (.aload_n 0, 1) := by decide +kernel
theorem zd_Model_remember_19 : decode zm_Model_remember.2.1 19 = .ok (.getfield 54, 3) := by decide +kernel
theorem zd_Model_remember_22 : decode zm_Model_remember.2.1 22 = .ok (.iload_n 2, 1) := by decide +kernel
theorem zd_Model_remember_23 : decode zm_Model_remember.2.1 23 = .ok (.aload_n 0, 1) := by decide +kernel
theorem zd_Model_remember_24 : decode zm_Model_remember.2.1 24 = .ok (.getfield 54, 3) := by decide +kernel
theorem zd_Model_remember_27 : decode zm_Model_remember.2.1 27 = .ok (.iload_n 2, 1) := by decide +kernel
theorem zd_Model_remember_28 : decode zm_Model_remember.2.1 28 = .ok (.bipush 53, 2) := by decide +kernel
theorem zd_Model_remember_30 : decode zm_Model_remember.2.1 30 = .ok (.iadd, 1) := by decide +kernel
theorem zd_Model_remember_31 : decode zm_Model_remember.2.1 31 = .ok (.iaload, 1) := by decide +kernel
theorem zd_Model_remember_32 : decode zm_Model_remember.2.1 32 = .ok (.iastore, 1) := by decide +kernel
theorem zd_Model_remember_33 : decode zm_Model_remember.2.1 33 = .ok (.iinc 2 1, 3) := by decide +kernel
theorem zd_Model_remember_36 : decode zm_Model_remember.2.1 36 = .ok (.goto (-25), 3) := by decide +kernel
theorem zd_Model_remember_39 : decode zm_Model_remember.2.1 39 = .ok (.aload_n 0, 1) := by decide +kernel
theorem zd_Model_remember_40 : decode zm_Model_remember.2.1 40 = .ok (.dup, 1) := by decide +kernel
theorem zd_Model_remember_41 : decode zm_Model_remember.2.1 41 = .ok (.getfield 155, 3) := by decide +kernel
theorem zd_Model_remember_44 : decode zm_Model_remember.2.1 44 = .ok (.iconst 1, 1) := by decide +kernel
theorem zd_Model_remember_45 : decode zm_Model_remember.2.1 45 = .ok (.isub, 1) := by decide +kernel
theorem zd_Model_remember_46 : decode zm_Model_remember.2.1 46 = .ok (.putfield 155, 3) := by decide +kernel
theorem zd_Model_remember_49 : decode zm_Model_remember.2.1 49 = .ok (.aload_n 1, 1) := by decide +kernel
theorem zd_Model_remember_50 : decode zm_Model_remember.2.1 50 = .ok (.aload_n 0, 1) := by decide +kernel
theorem zd_Model_remember_51 : decode zm_Model_remember.2.1 51 = .ok (.getfield 54, 3) := by decide +kernel
theorem zd_Model_remember_54 : decode zm_Model_remember.2.1 54 = .ok (.bipush 53, 2) := by decide +kernel
theorem zd_Model_remember_56 : decode zm_Model_remember.2.1 56 = .ok (.aload_n 0, 1) := by decide +kernel
theorem zd_Model_remember_57 : decode zm_Model_remember.2.1 57 = .ok (.getfield 155, 3) := by decide +kernel
theorem zd_Model_remember_60 : decode zm_Model_remember.2.1 60 = .ok (.imul, 1) := by decide +kernel
theorem zd_Model_remember_61 : decode zm_Model_remember.2.1 61 = .ok (.invokestatic 165, 3) := by decide +kernel
theorem zd_Model_remember_64 : decode zm_Model_remember.2.1 64 = .ok (.aload_n 0, 1) := by decide +kernel
theorem zd_Model_remember_65 : decode zm_Model_remember.2.1 65 = .ok (.dup, 1) := by decide +kernel
theorem zd_Model_remember_66 : decode zm_Model_remember.2.1 66 = .ok (.getfield 155, 3) := by decide +kernel
theorem zd_Model_remember_69 : decode zm_Model_remember.2.1 69 = .ok (.iconst 1, 1) := by decide +kernel
theorem zd_Model_remember_70 : decode zm_Model_remember.2.1 70 = .ok (.iadd, 1) := by decide +kernel
theorem zd_Model_remember_71 : decode zm_Model_remember.2.1 71 = .ok (.putfield 155, 3) := by decide +kernel
theorem zd_Model_remember_74 : decode zm_Model_remember.2.1 74 = .ok (.return_, 1) := by decide +kernel
theorem zb_Model_remember_0 {Γ : zG} {σ : zS} {a1 : Nat} (h_a1 : z_kd a1 = (11, 53)) (kt : ¬ (σ.1 63 27) = (nI 12) → z_J Γ zm_Model_remember 49 [some (.inr (63)), some (.inr (a1)), none] [] σ) (kf : (σ.1 63 27) = (nI 12) → z_J Γ zm_Model_remember 9 [some (.inr (63)), some (.inr (a1)), none] [] σ) : z_J Γ zm_Model_remember 0 [some (.inr (63)), some (.inr (a1)), none] [] σ := by
  refine zj_aload_n zd_Model_remember_0 rfl ?_
  refine zj_getI rfl (by decide) rfl zu_Model (k := 27) (by decide) rfl zl_Model_155 zd_Model_remember_1 ?_
  refine zj_bipush (v := nI 12) zd_Model_remember_4 (by decide) ?_
  exact zj_icmp_ne zd_Model_remember_6 (by decide) (fun h => (kt h)) (fun h => (kf h))
theorem zb_Model_remember_9 {Γ : zG} {σ : zS} {a1 : Nat} (h_a1 : z_kd a1 = (11, 53)) (k : z_J Γ zm_Model_remember 11 [some (.inr (63)), some (.inr (a1)), some (.inl (nI 0))] [] σ) : z_J Γ zm_Model_remember 9 [some (.inr (63)), some (.inr (a1)), none] [] σ := by
  refine zj_iconst (v := nI 0) zd_Model_remember_9 (by decide) ?_
  refine zj_istore_n (L' := [some (.inr (63)), some (.inr (a1)), some (.inl (nI 0))]) zd_Model_remember_10 (by decide) rfl ?_
  exact k
theorem zb_Model_remember_11 {Γ : zG} {σ : zS} {a1 : Nat} {x2 : Int32} (h_a1 : z_kd a1 = (11, 53)) (kt : (nI 583) ≤ x2 → z_J Γ zm_Model_remember 39 [some (.inr (63)), some (.inr (a1)), none] [] σ) (kf : ¬ (nI 583) ≤ x2 → z_J Γ zm_Model_remember 18 [some (.inr (63)), some (.inr (a1)), some (.inl (x2))] [] σ) : z_J Γ zm_Model_remember 11 [some (.inr (63)), some (.inr (a1)), some (.inl (x2))] [] σ := by
  refine zj_iload_n zd_Model_remember_11 rfl ?_
  refine zj_sipush (v := nI 583) zd_Model_remember_12 (by decide) ?_
  exact zj_icmp_ge zd_Model_remember_15 (by decide) (fun h => (zj_weak (L' := [some (.inr (63)), some (.inr (a1)), none]) ⟨rfl, ⟨rfl, trivial⟩⟩ (kt h))) (fun h => (kf h))
theorem zb_Model_remember_18 {Γ : zG} {σ : zS} {a1 : Nat} {x2 : Int32} {k1 k2 : Nat} (h_a1 : z_kd a1 = (11, 53)) (b1 : z_ix (x2 + (nI 53)) 636 k1) (b2 : z_ix x2 636 k2) (k : z_J Γ zm_Model_remember 11 [some (.inr (63)), some (.inr (a1)), some (.inl (x2 + nI 1))] [] (z_pI σ 76 k2 (σ.1 76 k1))) : z_J Γ zm_Model_remember 18 [some (.inr (63)), some (.inr (a1)), some (.inl (x2))] [] σ := by
  refine zj_aload_n zd_Model_remember_18 rfl ?_
  refine zj_getR rfl (by decide) rfl zu_Model (k := 26) (by decide) rfl zl_Model_54 zd_Model_remember_19 (o' := 76) rfl ?_
  refine zj_iload_n zd_Model_remember_22 rfl ?_
  refine zj_aload_n zd_Model_remember_23 rfl ?_
  refine zj_getR rfl (by decide) rfl zu_Model (k := 26) (by decide) rfl zl_Model_54 zd_Model_remember_24 (o' := 76) rfl ?_
  refine zj_iload_n zd_Model_remember_27 rfl ?_
  refine zj_bipush (v := nI 53) zd_Model_remember_28 (by decide) ?_
  refine zj_iadd zd_Model_remember_30 ?_
  refine zj_iaload rfl (by decide) b1 zd_Model_remember_31 ?_
  refine zj_iastore rfl (by decide) b2 zd_Model_remember_32 ?_
  refine zj_iinc (v := nI 1) (L' := [some (.inr (63)), some (.inr (a1)), some (.inl (x2 + nI 1))]) zd_Model_remember_33 rfl (by decide) (by decide) rfl ?_
  exact zj_goto zd_Model_remember_36 (by decide) k
theorem zb_Model_remember_39 {Γ : zG} {σ : zS} {a1 : Nat} (h_a1 : z_kd a1 = (11, 53)) (k : z_J Γ zm_Model_remember 49 [some (.inr (63)), some (.inr (a1)), none] [] (z_pI σ 63 27 ((σ.1 63 27) - (nI 1)))) : z_J Γ zm_Model_remember 39 [some (.inr (63)), some (.inr (a1)), none] [] σ := by
  refine zj_aload_n zd_Model_remember_39 rfl ?_
  refine zj_dup zd_Model_remember_40 ?_
  refine zj_getI rfl (by decide) rfl zu_Model (k := 27) (by decide) rfl zl_Model_155 zd_Model_remember_41 ?_
  refine zj_iconst (v := nI 1) zd_Model_remember_44 (by decide) ?_
  refine zj_isub zd_Model_remember_45 ?_
  refine zj_putI rfl (by decide) rfl zu_Model zy_Model_ok zn_Model (k := 27) (by decide) rfl rfl zl_Model_155 rfl rfl zd_Model_remember_46 ?_
  exact k
theorem zb_Model_remember_49 {Γ : zG} {σ : zS} {a1 : Nat} {dc : Nat} {P : zS → Prop} (h_a1 : z_kd a1 = (11, 53)) (hm : z_Cv dc zm_Model_lay_1 [.inr (a1), .inr (76), .inl ((nI 53) * (σ.1 63 27))] σ P) (hdp : dc < z_dep Γ) (k : ∀ σ1, P σ1 → z_J Γ zm_Model_remember 64 [some (.inr (63)), none, none] [] σ1) : z_J Γ zm_Model_remember 49 [some (.inr (63)), some (.inr (a1)), none] [] σ := by
  refine zj_aload_n zd_Model_remember_49 rfl ?_
  refine zj_aload_n zd_Model_remember_50 rfl ?_
  refine zj_getR rfl (by decide) rfl zu_Model (k := 26) (by decide) rfl zl_Model_54 zd_Model_remember_51 (o' := 76) rfl ?_
  refine zj_bipush (v := nI 53) zd_Model_remember_54 (by decide) ?_
  refine zj_aload_n zd_Model_remember_56 rfl ?_
  refine zj_getI rfl (by decide) rfl zu_Model (k := 27) (by decide) rfl zl_Model_155 zd_Model_remember_57 ?_
  refine zj_imul zd_Model_remember_60 ?_
  exact zj_callSv (As := [.inr (a1), .inr (76), .inl ((nI 53) * (σ.1 63 27))]) hm hdp zl_Model_165 zq_Model_lay_1 zd_Model_remember_61 rfl (Nat.le_of_ble_eq_true rfl) (fun σ1 h => (zj_weak (L' := [some (.inr (63)), none, none]) ⟨rfl, trivial⟩ (k σ1 h)))
theorem zb_Model_remember_64 {Γ : zG} {σ : zS}  (e : z_end Γ none (z_pI σ 63 27 ((σ.1 63 27) + (nI 1)))) : z_J Γ zm_Model_remember 64 [some (.inr (63)), none, none] [] σ := by
  refine zj_aload_n zd_Model_remember_64 rfl ?_
  refine zj_dup zd_Model_remember_65 ?_
  refine zj_getI rfl (by decide) rfl zu_Model (k := 27) (by decide) rfl zl_Model_155 zd_Model_remember_66 ?_
  refine zj_iconst (v := nI 1) zd_Model_remember_69 (by decide) ?_
  refine zj_iadd zd_Model_remember_70 ?_
  refine zj_putI rfl (by decide) rfl zu_Model zy_Model_ok zn_Model (k := 27) (by decide) rfl rfl zl_Model_155 rfl rfl zd_Model_remember_71 ?_
  exact zj_return rfl zd_Model_remember_74 e
theorem zd_Model_goLay_0 : decode zm_Model_goLay.2.1 0 = .ok (.aload_n 1, 1) := by decide +kernel
theorem zd_Model_goLay_1 : decode zm_Model_goLay.2.1 1 = .ok (.iload_n 2, 1) := by decide +kernel
theorem zd_Model_goLay_2 : decode zm_Model_goLay.2.1 2 = .ok (.iconst 1, 1) := by decide +kernel
theorem zd_Model_goLay_3 : decode zm_Model_goLay.2.1 3 = .ok (.iload_n 3, 1) := by decide +kernel
theorem zd_Model_goLay_4 : decode zm_Model_goLay.2.1 4 = .ok (.aload_n 0, 1) := by decide +kernel
theorem zd_Model_goLay_5 : decode zm_Model_goLay.2.1 5 = .ok (.aload_n 1, 1) := by decide +kernel
theorem zd_Model_goLay_6 : decode zm_Model_goLay.2.1 6 = .ok (.iload_n 3, 1) := by decide +kernel
theorem zd_Model_goLay_7 : decode zm_Model_goLay.2.1 7 = .ok (.invokevirtual 247, 3) := by decide +kernel
theorem zd_Model_goLay_10 : decode zm_Model_goLay.2.1 10 = .ok (.invokestatic 261, 3) := by decide +kernel
theorem zd_Model_goLay_13 : decode zm_Model_goLay.2.1 13 = .ok (.invokestatic 173, 3) := by decide +kernel
theorem zd_Model_goLay_16 : decode zm_Model_goLay.2.1 16 = .ok (.return_, 1) := by decide +kernel
theorem zb_Model_goLay_0 {Γ : zG} {σ : zS} {a1 : Nat} {x2 x3 : Int32} {dc : Nat} {P : Int32 → zS → Prop} (h_a1 : z_kd a1 = (11, 53)) (hm : z_Ci dc zm_Model_inColumn [.inr (63), .inr (a1), .inl (x3)] σ P) (hdp : dc < z_dep Γ) (k : ∀ r σ1, P r σ1 → z_J Γ zm_Model_goLay 10 [none, none, none, none] [.inl (r), .inl (x3), .inl (nI 1), .inl (x2), .inr (a1)] σ1) : z_J Γ zm_Model_goLay 0 [some (.inr (63)), some (.inr (a1)), some (.inl (x2)), some (.inl (x3))] [] σ := by
  refine zj_aload_n zd_Model_goLay_0 rfl ?_
  refine zj_iload_n zd_Model_goLay_1 rfl ?_
  refine zj_iconst (v := nI 1) zd_Model_goLay_2 (by decide) ?_
  refine zj_iload_n zd_Model_goLay_3 rfl ?_
  refine zj_aload_n zd_Model_goLay_4 rfl ?_
  refine zj_aload_n zd_Model_goLay_5 rfl ?_
  refine zj_iload_n zd_Model_goLay_6 rfl ?_
  exact zj_callVi (As := [.inr (a1), .inl (x3)]) hm hdp rfl (by decide) rfl zl_Model_247 zq_Model_inColumn zd_Model_goLay_7 rfl (Nat.le_of_ble_eq_true rfl) (fun r σ1 h => (zj_weak (L' := [none, none, none, none]) trivial (k r σ1 h)))
theorem zb_Model_goLay_10 {Γ : zG} {σ : zS} {a1 : Nat} {y0 y1 y2 y3 : Int32} {dc : Nat} {P : zS → Prop} (h_a1 : z_kd a1 = (11, 53)) (hm : z_Cv dc zm_Model_put [.inr (a1), .inl (y3), .inl (y2), .inl (y1), .inl (z_bc y0)] σ P) (hdp : dc < z_dep Γ) (k : ∀ σ1, P σ1 → z_J Γ zm_Model_goLay 16 [none, none, none, none] [] σ1) : z_J Γ zm_Model_goLay 10 [none, none, none, none] [.inl (y0), .inl (y1), .inl (y2), .inl (y3), .inr (a1)] σ := by
  refine zj_bitc zl_Model_261 (Nat.lt_of_le_of_lt (Nat.zero_le _) hdp) (Nat.le_of_ble_eq_true rfl) zd_Model_goLay_10 ?_
  exact zj_callSv (As := [.inr (a1), .inl (y3), .inl (y2), .inl (y1), .inl (z_bc y0)]) hm hdp zl_Model_173 zq_Model_put zd_Model_goLay_13 rfl (Nat.le_of_ble_eq_true rfl) (fun σ1 h => (k σ1 h))
theorem zb_Model_goLay_16 {Γ : zG} {σ : zS}  (e : z_end Γ none σ) : z_J Γ zm_Model_goLay 16 [none, none, none, none] [] σ := by
  exact zj_return rfl zd_Model_goLay_16 e
