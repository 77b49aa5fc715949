theorem zd_Model_builds_0 : decode zm_Model_builds.2.1 0 = .ok (.iload_n 2, 1) := by decide +kernel
theorem zd_Model_builds_1 : decode zm_Model_builds.2.1 1 = .ok (.iconst 0, 1) := by decide +kernel
theorem zd_Model_builds_2 : decode zm_Model_builds.2.1 2 = .ok (.bipush 99, 2) := by decide +kernel
theorem zd_Model_builds_4 : decode zm_Model_builds.2.1 4 = .ok (.invokestatic 100, 3) := by decide +kernel
theorem zd_Model_builds_7 : decode zm_Model_builds.2.1 7 = .ok (.ifCond .ne 5, 3) := by decide +kernel
theorem zd_Model_builds_10 : decode zm_Model_builds.2.1 10 = .ok (.iconst (-1), 1) := by decide +kernel
theorem zd_Model_builds_11 : decode zm_Model_builds.2.1 11 = .ok (.ireturn, 1) := by decide +kernel
theorem zd_Model_builds_12 : decode zm_Model_builds.2.1 12 = .ok (.iload_n 1, 1) := by decide +kernel
theorem zd_Model_builds_13 : decode zm_Model_builds.2.1 13 = .ok (.invokestatic 261, 3) := by decide +kernel
theorem zd_Model_builds_16 : decode zm_Model_builds.2.1 16 = .ok (.bipush 6, 2) := by decide +kernel
theorem zd_Model_builds_18 : decode zm_Model_builds.2.1 18 = .ok (.if_icmp .le 8, 3) := by decide +kernel
theorem zd_Model_builds_21 : decode zm_Model_builds.2.1 21 = .ok (.bipush (-3), 2) := by decide +kernel
theorem zd_Model_builds_23 : decode zm_Model_builds.2.1 23 = .ok (.goto 9, 3) := by decide +kernel
theorem zd_Model_builds_26 : decode zm_Model_builds.2.1 26 = .ok (.aload_n 0, 1) := by decide +kernel
theorem zd_Model_builds_27 : decode zm_Model_builds.2.1 27 = .ok (.iload_n 1, 1) := by decide +kernel
theorem zd_Model_builds_28 : decode zm_Model_builds.2.1 28 = .ok (.iload_n 2, 1) := by decide +kernel
theorem zd_Model_builds_29 : decode zm_Model_builds.2.1 29 = .ok (.invokevirtual 350, 3) := by decide +kernel
theorem zd_Model_builds_32 : decode zm_Model_builds.2.1 32 = .ok (.ireturn, 1) := by decide +kernel
theorem zb_Model_builds_0 {Γ : zG} {σ : zS} {x1 x2 : Int32} {dc : Nat} {P : Int32 → zS → Prop}  (hm : z_Ci dc zm_Model_in [.inl (x2), .inl (nI 0), .inl (nI 99)] σ P) (hdp : dc < z_dep Γ) (k : ∀ r σ1, P r σ1 → z_J Γ zm_Model_builds 7 [some (.inr (63)), some (.inl (x1)), some (.inl (x2))] [.inl (r)] σ1) : z_J Γ zm_Model_builds 0 [some (.inr (63)), some (.inl (x1)), some (.inl (x2))] [] σ := by
  refine zj_iload_n zd_Model_builds_0 rfl ?_
  refine zj_iconst (v := nI 0) zd_Model_builds_1 (by decide) ?_
  refine zj_bipush (v := nI 99) zd_Model_builds_2 (by decide) ?_
  exact zj_callSi (As := [.inl (x2), .inl (nI 0), .inl (nI 99)]) hm hdp zl_Model_100 zq_Model_in zd_Model_builds_4 rfl (Nat.le_of_ble_eq_true rfl) (fun r σ1 h => (k r σ1 h))
theorem zb_Model_builds_7 {Γ : zG} {σ : zS} {x1 x2 y0 : Int32}  (kt : ¬ y0 = 0 → z_J Γ zm_Model_builds 12 [some (.inr (63)), some (.inl (x1)), some (.inl (x2))] [] σ) (kf : y0 = 0 → z_J Γ zm_Model_builds 10 [none, none, none] [] σ) : z_J Γ zm_Model_builds 7 [some (.inr (63)), some (.inl (x1)), some (.inl (x2))] [.inl (y0)] σ := by
  exact zj_if_ne zd_Model_builds_7 (by decide) (fun h => (kt h)) (fun h => (zj_weak (L' := [none, none, none]) trivial (kf h)))
theorem zb_Model_builds_10 {Γ : zG} {σ : zS}  (e : z_end Γ (some ((-1))) σ) : z_J Γ zm_Model_builds 10 [none, none, none] [] σ := by
  refine zj_iconst (v := (-1)) zd_Model_builds_10 (by decide) ?_
  exact zj_ireturn rfl zd_Model_builds_11 e
theorem zb_Model_builds_12 {Γ : zG} {σ : zS} {x1 x2 : Int32} (hdp : 0 < z_dep Γ) (kt : (z_bc x1) ≤ (nI 6) → z_J Γ zm_Model_builds 26 [some (.inr (63)), some (.inl (x1)), some (.inl (x2))] [] σ) (kf : ¬ (z_bc x1) ≤ (nI 6) → z_J Γ zm_Model_builds 21 [none, none, none] [] σ) : z_J Γ zm_Model_builds 12 [some (.inr (63)), some (.inl (x1)), some (.inl (x2))] [] σ := by
  refine zj_iload_n zd_Model_builds_12 rfl ?_
  refine zj_bitc zl_Model_261 hdp (Nat.le_of_ble_eq_true rfl) zd_Model_builds_13 ?_
  refine zj_bipush (v := nI 6) zd_Model_builds_16 (by decide) ?_
  exact zj_icmp_le zd_Model_builds_18 (by decide) (fun h => (kt h)) (fun h => (zj_weak (L' := [none, none, none]) trivial (kf h)))
theorem zb_Model_builds_21 {Γ : zG} {σ : zS}  (k : z_J Γ zm_Model_builds 32 [none, none, none] [.inl ((-3))] σ) : z_J Γ zm_Model_builds 21 [none, none, none] [] σ := by
  refine zj_bipush (v := (-3)) zd_Model_builds_21 (by decide) ?_
  exact zj_goto zd_Model_builds_23 (by decide) k
theorem zb_Model_builds_26 {Γ : zG} {σ : zS} {x1 x2 : Int32} {dc : Nat} {P : Int32 → zS → Prop}  (hm : z_Ci dc zm_Model_tellBuild [.inr (63), .inl (x1), .inl (x2)] σ P) (hdp : dc < z_dep Γ) (k : ∀ r σ1, P r σ1 → z_J Γ zm_Model_builds 32 [none, none, none] [.inl (r)] σ1) : z_J Γ zm_Model_builds 26 [some (.inr (63)), some (.inl (x1)), some (.inl (x2))] [] σ := by
  refine zj_aload_n zd_Model_builds_26 rfl ?_
  refine zj_iload_n zd_Model_builds_27 rfl ?_
  refine zj_iload_n zd_Model_builds_28 rfl ?_
  exact zj_callVi (As := [.inl (x1), .inl (x2)]) hm hdp rfl (by decide) rfl zl_Model_350 zq_Model_tellBuild zd_Model_builds_29 rfl (Nat.le_of_ble_eq_true rfl) (fun r σ1 h => (zj_weak (L' := [none, none, none]) trivial (k r σ1 h)))
theorem zb_Model_builds_32 {Γ : zG} {σ : zS} {y0 : Int32}  (e : z_end Γ (some (y0)) σ) : z_J Γ zm_Model_builds 32 [none, none, none] [.inl (y0)] σ := by
  exact zj_ireturn rfl zd_Model_builds_32 e
theorem zd_Model_tellBuild_0 : decode zm_Model_tellBuild.2.1 0 = .ok (.aload_n 0, 1) := by decide +kernel
theorem zd_Model_tellBuild_1 : decode zm_Model_tellBuild.2.1 1 = .ok (.getfield 9, 3) := by decide +kernel
theorem zd_Model_tellBuild_4 : decode zm_Model_tellBuild.2.1 4 = .ok (.aload_n 0, 1) := by decide +kernel
theorem zd_Model_tellBuild_5 : decode zm_Model_tellBuild.2.1 5 = .ok (.getfield 60, 3) := by decide +kernel
theorem zd_Model_tellBuild_8 : decode zm_Model_tellBuild.2.1 8 = .ok (.iconst 0, 1) := by decide +kernel
theorem zd_Model_tellBuild_9 : decode zm_Model_tellBuild.2.1 9 = .ok (.invokestatic 165, 3) := by decide +kernel
theorem zd_Model_tellBuild_12 : decode zm_Model_tellBuild.2.1 12 = .ok (.aload_n 0, 1) := by decide +kernel
theorem zd_Model_tellBuild_13 : decode zm_Model_tellBuild.2.1 13 = .ok (.ldc 254, 2) := by decide +kernel
theorem zd_Model_tellBuild_15 : decode zm_Model_tellBuild.2.1 15 = .ok (.putfield 344, 3) := by decide +kernel
theorem zd_Model_tellBuild_18 : decode zm_Model_tellBuild.2.1 18 = .ok (.aload_n 0, 1) := by decide +kernel
theorem zd_Model_tellBuild_19 : decode zm_Model_tellBuild.2.1 19 = .ok (.aload_n 0, 1) := by decide +kernel
theorem zd_Model_tellBuild_20 : decode zm_Model_tellBuild.2.1 20 = .ok (.getfield 60, 3) := by decide +kernel
theorem zd_Model_tellBuild_23 : decode zm_Model_tellBuild.2.1 23 = .ok (.iload_n 1, 1) := by decide +kernel
theorem zd_Model_tellBuild_24 : decode zm_Model_tellBuild.2.1 24 = .ok (.iconst 0, 1) := by decide +kernel
theorem zd_Model_tellBuild_25 : decode zm_Model_tellBuild.2.1 25 = .ok (.iconst 0, 1) := by decide +kernel
theorem zd_Model_tellBuild_26 : decode zm_Model_tellBuild.2.1 26 = .ok (.iload_n 2, 1) := by decide +kernel
theorem zd_Model_tellBuild_27 : decode zm_Model_tellBuild.2.1 27 = .ok (.invokevirtual 347, 3) := by decide +kernel
theorem zd_Model_tellBuild_30 : decode zm_Model_tellBuild.2.1 30 = .ok (.aload_n 0, 1) := by decide +kernel
theorem zd_Model_tellBuild_31 : decode zm_Model_tellBuild.2.1 31 = .ok (.getfield 344, 3) := by decide +kernel
theorem zd_Model_tellBuild_34 : decode zm_Model_tellBuild.2.1 34 = .ok (.ldc 254, 2) := by decide +kernel
theorem zd_Model_tellBuild_36 : decode zm_Model_tellBuild.2.1 36 = .ok (.if_icmp .ne 6, 3) := by decide +kernel
theorem zd_Model_tellBuild_39 : decode zm_Model_tellBuild.2.1 39 = .ok (.bipush (-2), 2) := by decide +kernel
theorem zd_Model_tellBuild_41 : decode zm_Model_tellBuild.2.1 41 = .ok (.ireturn, 1) := by decide +kernel
theorem zd_Model_tellBuild_42 : decode zm_Model_tellBuild.2.1 42 = .ok (.aload_n 0, 1) := by decide +kernel
theorem zd_Model_tellBuild_43 : decode zm_Model_tellBuild.2.1 43 = .ok (.iconst 0, 1) := by decide +kernel
theorem zd_Model_tellBuild_44 : decode zm_Model_tellBuild.2.1 44 = .ok (.putfield 94, 3) := by decide +kernel
theorem zd_Model_tellBuild_47 : decode zm_Model_tellBuild.2.1 47 = .ok (.iconst 0, 1) := by decide +kernel
theorem zd_Model_tellBuild_48 : decode zm_Model_tellBuild.2.1 48 = .ok (.istore_n 3, 1) := by decide +kernel
theorem zd_Model_tellBuild_49 : decode zm_Model_tellBuild.2.1 49 = .ok (.iload_n 3, 1) := by decide +kernel
theorem zd_Model_tellBuild_50 : decode zm_Model_tellBuild.2.1 50 = .ok (.iconst 2, 1) := by decide +kernel
theorem zd_Model_tellBuild_51 : decode zm_Model_tellBuild.2.1 51 = .ok (.aload_n 0, 1) := by decide +kernel
theorem zd_Model_tellBuild_52 : decode zm_Model_tellBuild.2.1 52 = .ok (.getfield 344, 3) := by decide +kernel
theorem zd_Model_tellBuild_55 : decode zm_Model_tellBuild.2.1 55 = .ok (.imul, 1) := by decide +kernel
theorem zd_Model_tellBuild_56 : decode zm_Model_tellBuild.2.1 56 = .ok (.if_icmp .ge 19, 3) := by decide +kernel
theorem zd_Model_tellBuild_59 : decode zm_Model_tellBuild.2.1 59 = .ok (.aload_n 0, 1) := by decide +kernel
theorem zd_Model_tellBuild_60 : decode zm_Model_tellBuild.2.1 60 = .ok (.aload_n 0, 1) := by decide +kernel
theorem zd_Model_tellBuild_61 : decode zm_Model_tellBuild.2.1 61 = .ok (.getfield 69, 3) := by decide +kernel
theorem zd_Model_tellBuild_64 : decode zm_Model_tellBuild.2.1 64 = .ok (.iload_n 3, 1) := by decide +kernel
theorem zd_Model_tellBuild_65 : decode zm_Model_tellBuild.2.1 65 = .ok (.iaload, 1) := by decide +kernel
theorem zd_Model_tellBuild_66 : decode zm_Model_tellBuild.2.1 66 = .ok (.invokevirtual 312, 3) := by decide +kernel
theorem zd_Model_tellBuild_69 : decode zm_Model_tellBuild.2.1 69 = .ok (.iinc 3 1, 3) := by decide +kernel
theorem zd_Model_tellBuild_72 : decode zm_Model_tellBuild.2.1 72 = .ok (.goto (-23), 3) := by decide +kernel
theorem zd_Model_tellBuild_75 : decode zm_Model_tellBuild.2.1 75 = .ok (.aload_n 0, 1) := by decide +kernel
theorem zd_Model_tellBuild_76 : decode zm_Model_tellBuild.2.1 76 = .ok (.getfield 344, 3) := by decide +kernel
theorem zd_Model_tellBuild_79 : decode zm_Model_tellBuild.2.1 79 = .ok (.ireturn, 1) := by decide +kernel
theorem zb_Model_tellBuild_0 {Γ : zG} {σ : zS} {x1 x2 : Int32} {dc : Nat} {P : zS → Prop}  (hm : z_Cv dc zm_Model_lay_1 [.inr (64), .inr (78), .inl (nI 0)] σ P) (hdp : dc < z_dep Γ) (k : ∀ σ1, P σ1 → z_J Γ zm_Model_tellBuild 12 [some (.inr (63)), some (.inl (x1)), some (.inl (x2)), none] [] σ1) : z_J Γ zm_Model_tellBuild 0 [some (.inr (63)), some (.inl (x1)), some (.inl (x2)), none] [] σ := by
  refine zj_aload_n zd_Model_tellBuild_0 rfl ?_
  refine zj_getR rfl (by decide) rfl zu_Model (k := 0) (by decide) rfl zl_Model_9 zd_Model_tellBuild_1 (o' := 64) rfl ?_
  refine zj_aload_n zd_Model_tellBuild_4 rfl ?_
  refine zj_getR rfl (by decide) rfl zu_Model (k := 29) (by decide) rfl zl_Model_60 zd_Model_tellBuild_5 (o' := 78) rfl ?_
  refine zj_iconst (v := nI 0) zd_Model_tellBuild_8 (by decide) ?_
  exact zj_callSv (As := [.inr (64), .inr (78), .inl (nI 0)]) hm hdp zl_Model_165 zq_Model_lay_1 zd_Model_tellBuild_9 rfl (Nat.le_of_ble_eq_true rfl) (fun σ1 h => (k σ1 h))
theorem zb_Model_tellBuild_12 {Γ : zG} {σ : zS} {x1 x2 : Int32} {dc : Nat} {P : zS → Prop}  (hm : z_Cv dc zm_Model_goBuild [.inr (63), .inr (78), .inl (x1), .inl (nI 0), .inl (nI 0), .inl (x2)] (z_pI σ 63 35 (1000000 : Int32)) P) (hdp : dc < z_dep Γ) (k : ∀ σ1, P σ1 → z_J Γ zm_Model_tellBuild 30 [some (.inr (63)), none, none, none] [] σ1) : z_J Γ zm_Model_tellBuild 12 [some (.inr (63)), some (.inl (x1)), some (.inl (x2)), none] [] σ := by
  refine zj_aload_n zd_Model_tellBuild_12 rfl ?_
  refine zj_ldc (v := 1000000) zl_Model_254 zd_Model_tellBuild_13 ?_
  refine zj_putI rfl (by decide) rfl zu_Model zy_Model_ok zn_Model (k := 35) (by decide) rfl rfl zl_Model_344 rfl rfl zd_Model_tellBuild_15 ?_
  refine zj_aload_n zd_Model_tellBuild_18 rfl ?_
  refine zj_aload_n zd_Model_tellBuild_19 rfl ?_
  refine zj_getR rfl (by decide) rfl zu_Model (k := 29) (by decide) rfl zl_Model_60 zd_Model_tellBuild_20 (o' := 78) rfl ?_
  refine zj_iload_n zd_Model_tellBuild_23 rfl ?_
  refine zj_iconst (v := nI 0) zd_Model_tellBuild_24 (by decide) ?_
  refine zj_iconst (v := nI 0) zd_Model_tellBuild_25 (by decide) ?_
  refine zj_iload_n zd_Model_tellBuild_26 rfl ?_
  exact zj_callVv (As := [.inr (78), .inl (x1), .inl (nI 0), .inl (nI 0), .inl (x2)]) hm hdp rfl (by decide) rfl zl_Model_347 zq_Model_goBuild zd_Model_tellBuild_27 rfl (Nat.le_of_ble_eq_true rfl) (fun σ1 h => (zj_weak (L' := [some (.inr (63)), none, none, none]) ⟨rfl, trivial⟩ (k σ1 h)))
theorem zb_Model_tellBuild_30 {Γ : zG} {σ : zS}  (kt : ¬ (σ.1 63 35) = (1000000 : Int32) → z_J Γ zm_Model_tellBuild 42 [some (.inr (63)), none, none, none] [] σ) (kf : (σ.1 63 35) = (1000000 : Int32) → z_J Γ zm_Model_tellBuild 39 [none, none, none, none] [] σ) : z_J Γ zm_Model_tellBuild 30 [some (.inr (63)), none, none, none] [] σ := by
  refine zj_aload_n zd_Model_tellBuild_30 rfl ?_
  refine zj_getI rfl (by decide) rfl zu_Model (k := 35) (by decide) rfl zl_Model_344 zd_Model_tellBuild_31 ?_
  refine zj_ldc (v := 1000000) zl_Model_254 zd_Model_tellBuild_34 ?_
  exact zj_icmp_ne zd_Model_tellBuild_36 (by decide) (fun h => (kt h)) (fun h => (zj_weak (L' := [none, none, none, none]) trivial (kf h)))
theorem zb_Model_tellBuild_39 {Γ : zG} {σ : zS}  (e : z_end Γ (some ((-2))) σ) : z_J Γ zm_Model_tellBuild 39 [none, none, none, none] [] σ := by
  refine zj_bipush (v := (-2)) zd_Model_tellBuild_39 (by decide) ?_
  exact zj_ireturn rfl zd_Model_tellBuild_41 e
theorem zb_Model_tellBuild_42 {Γ : zG} {σ : zS}  (k : z_J Γ zm_Model_tellBuild 49 [some (.inr (63)), none, none, some (.inl (nI 0))] [] (z_pI σ 63 10 (nI 0))) : z_J Γ zm_Model_tellBuild 42 [some (.inr (63)), none, none, none] [] σ := by
  refine zj_aload_n zd_Model_tellBuild_42 rfl ?_
  refine zj_iconst (v := nI 0) zd_Model_tellBuild_43 (by decide) ?_
  refine zj_putI rfl (by decide) rfl zu_Model zy_Model_ok zn_Model (k := 10) (by decide) rfl rfl zl_Model_94 rfl rfl zd_Model_tellBuild_44 ?_
  refine zj_iconst (v := nI 0) zd_Model_tellBuild_47 (by decide) ?_
  refine zj_istore_n (L' := [some (.inr (63)), none, none, some (.inl (nI 0))]) zd_Model_tellBuild_48 (by decide) rfl ?_
  exact k
theorem zb_Model_tellBuild_49 {Γ : zG} {σ : zS} {x3 : Int32}  (kt : ((nI 2) * (σ.1 63 35)) ≤ x3 → z_J Γ zm_Model_tellBuild 75 [some (.inr (63)), none, none, none] [] σ) (kf : ¬ ((nI 2) * (σ.1 63 35)) ≤ x3 → z_J Γ zm_Model_tellBuild 59 [some (.inr (63)), none, none, some (.inl (x3))] [] σ) : z_J Γ zm_Model_tellBuild 49 [some (.inr (63)), none, none, some (.inl (x3))] [] σ := by
  refine zj_iload_n zd_Model_tellBuild_49 rfl ?_
  refine zj_iconst (v := nI 2) zd_Model_tellBuild_50 (by decide) ?_
  refine zj_aload_n zd_Model_tellBuild_51 rfl ?_
  refine zj_getI rfl (by decide) rfl zu_Model (k := 35) (by decide) rfl zl_Model_344 zd_Model_tellBuild_52 ?_
  refine zj_imul zd_Model_tellBuild_55 ?_
  exact zj_icmp_ge zd_Model_tellBuild_56 (by decide) (fun h => (zj_weak (L' := [some (.inr (63)), none, none, none]) ⟨rfl, trivial⟩ (kt h))) (fun h => (kf h))
theorem zb_Model_tellBuild_59 {Γ : zG} {σ : zS} {x3 : Int32} {k1 : Nat} {dc : Nat} {P : zS → Prop}  (b1 : z_ix x3 24 k1) (hm : z_Cv dc zm_Model_tell [.inr (63), .inl (σ.1 81 k1)] σ P) (hdp : dc < z_dep Γ) (k : ∀ σ1, P σ1 → z_J Γ zm_Model_tellBuild 69 [some (.inr (63)), none, none, some (.inl (x3))] [] σ1) : z_J Γ zm_Model_tellBuild 59 [some (.inr (63)), none, none, some (.inl (x3))] [] σ := by
  refine zj_aload_n zd_Model_tellBuild_59 rfl ?_
  refine zj_aload_n zd_Model_tellBuild_60 rfl ?_
  refine zj_getR rfl (by decide) rfl zu_Model (k := 34) (by decide) rfl zl_Model_69 zd_Model_tellBuild_61 (o' := 81) rfl ?_
  refine zj_iload_n zd_Model_tellBuild_64 rfl ?_
  refine zj_iaload rfl (by decide) b1 zd_Model_tellBuild_65 ?_
  exact zj_callVv (As := [.inl (σ.1 81 k1)]) hm hdp rfl (by decide) rfl zl_Model_312 zq_Model_tell zd_Model_tellBuild_66 rfl (Nat.le_of_ble_eq_true rfl) (fun σ1 h => (k σ1 h))
theorem zb_Model_tellBuild_69 {Γ : zG} {σ : zS} {x3 : Int32}  (k : z_J Γ zm_Model_tellBuild 49 [some (.inr (63)), none, none, some (.inl (x3 + nI 1))] [] σ) : z_J Γ zm_Model_tellBuild 69 [some (.inr (63)), none, none, some (.inl (x3))] [] σ := by
  refine zj_iinc (v := nI 1) (L' := [some (.inr (63)), none, none, some (.inl (x3 + nI 1))]) zd_Model_tellBuild_69 rfl (by decide) (by decide) rfl ?_
  exact zj_goto zd_Model_tellBuild_72 (by decide) k
theorem zb_Model_tellBuild_75 {Γ : zG} {σ : zS}  (e : z_end Γ (some (σ.1 63 35)) σ) : z_J Γ zm_Model_tellBuild 75 [some (.inr (63)), none, none, none] [] σ := by
  refine zj_aload_n zd_Model_tellBuild_75 rfl ?_
  refine zj_getI rfl (by decide) rfl zu_Model (k := 35) (by decide) rfl zl_Model_344 zd_Model_tellBuild_76 ?_
  exact zj_ireturn rfl zd_Model_tellBuild_79 e
theorem zd_Model_goBuild_0 : decode zm_Model_goBuild.2.1 0 = .ok (.aload_n 0, 1) := by decide +kernel
theorem zd_Model_goBuild_1 : decode zm_Model_goBuild.2.1 1 = .ok (.aload_n 1, 1) := by decide +kernel
theorem zd_Model_goBuild_2 : decode zm_Model_goBuild.2.1 2 = .ok (.invokevirtual 334, 3) := by decide +kernel
theorem zd_Model_goBuild_5 : decode zm_Model_goBuild.2.1 5 = .ok (.istore 6, 2) := by decide +kernel
theorem zd_Model_goBuild_7 : decode zm_Model_goBuild.2.1 7 = .ok (.iload 5, 2) := by decide +kernel
theorem zd_Model_goBuild_9 : decode zm_Model_goBuild.2.1 9 = .ok (.ifCond .ge 16, 3) := by decide +kernel
theorem zd_Model_goBuild_12 : decode zm_Model_goBuild.2.1 12 = .ok (.aload_n 0, 1) := by decide +kernel
theorem zd_Model_goBuild_13 : decode zm_Model_goBuild.2.1 13 = .ok (.aload_n 0, 1) := by decide +kernel
theorem zd_Model_goBuild_14 : decode zm_Model_goBuild.2.1 14 = .ok (.getfield 341, 3) := by decide +kernel
theorem zd_Model_goBuild_17 : decode zm_Model_goBuild.2.1 17 = .ok (.iload 6, 2) := by decide +kernel
theorem zd_Model_goBuild_19 : decode zm_Model_goBuild.2.1 19 = .ok (.invokestatic 226, 3) := by decide +kernel
theorem zd_Model_goBuild_22 : decode zm_Model_goBuild.2.1 22 = .ok (.putfield 341, 3) := by decide +kernel
theorem zd_Model_goBuild_25 : decode zm_Model_goBuild.2.1 25 = .ok (.iload 5, 2) := by decide +kernel
theorem zd_Model_goBuild_27 : decode zm_Model_goBuild.2.1 27 = .ok (.ifCond .lt 13, 3) := by decide +kernel
theorem zd_Model_goBuild_30 : decode zm_Model_goBuild.2.1 30 = .ok (.iload 4, 2) := by decide +kernel
theorem zd_Model_goBuild_32 : decode zm_Model_goBuild.2.1 32 = .ok (.aload_n 0, 1) := by decide +kernel
theorem zd_Model_goBuild_33 : decode zm_Model_goBuild.2.1 33 = .ok (.getfield 344, 3) := by decide +kernel
theorem zd_Model_goBuild_36 : decode zm_Model_goBuild.2.1 36 = .ok (.if_icmp .lt 4, 3) := by decide +kernel
theorem zd_Model_goBuild_39 : decode zm_Model_goBuild.2.1 39 = .ok (.return_, 1) := by decide +kernel
theorem zd_Model_goBuild_40 : decode zm_Model_goBuild.2.1 40 = .ok (.iload 5, 2) := by decide +kernel
theorem zd_Model_goBuild_42 : decode zm_Model_goBuild.2.1 42 = .ok (.ifCond .lt 49, 3) := by decide +kernel
theorem zd_Model_goBuild_45 : decode zm_Model_goBuild.2.1 45 = .ok (.iload 6, 2) := by decide +kernel
theorem zd_Model_goBuild_47 : decode zm_Model_goBuild.2.1 47 = .ok (.iload 5, 2) := by decide +kernel
theorem zd_Model_goBuild_49 : decode zm_Model_goBuild.2.1 49 = .ok (.if_icmp .lt 42, 3) := by decide +kernel
theorem zd_Model_goBuild_52 : decode zm_Model_goBuild.2.1 52 = .ok (.aload_n 0, 1) := by decide +kernel
theorem zd_Model_goBuild_53 : decode zm_Model_goBuild.2.1 53 = .ok (.iload 4, 2) := by decide +kernel
theorem zd_Model_goBuild_55 : decode zm_Model_goBuild.2.1 55 = .ok (.putfield 344, 3) := by decide +kernel
theorem zd_Model_goBuild_58 : decode zm_Model_goBuild.2.1 58 = .ok (.iconst 0, 1) := by decide +kernel
theorem zd_Model_goBuild_59 : decode zm_Model_goBuild.2.1 59 = .ok (.istore 7, 2) := by decide +kernel
theorem zd_Model_goBuild_61 : decode zm_Model_goBuild.2.1 61 = .ok (.iload 7, 2) := by decide +kernel
theorem zd_Model_goBuild_63 : decode zm_Model_goBuild.2.1 63 = .ok (.iconst 2, 1) := by decide +kernel
theorem zd_Model_goBuild_64 : decode zm_Model_goBuild.2.1 64 = .ok (.iload 4, 2) := by decide +kernel
theorem zd_Model_goBuild_66 : decode zm_Model_goBuild.2.1 66 = .ok (.imul, 1) := by decide +kernel
theorem zd_Model_goBuild_67 : decode zm_Model_goBuild.2.1 67 = .ok (.if_icmp .ge 23, 3) := by decide +kernel
theorem zd_Model_goBuild_70 : decode zm_Model_goBuild.2.1 70 = .ok (.aload_n 0, 1) := by decide +kernel
theorem zd_Model_goBuild_71 : decode zm_Model_goBuild.2.1 71 = .ok (.getfield 69, 3) := by decide +kernel
theorem zd_Model_goBuild_74 : decode zm_Model_goBuild.2.1 74 = .ok (.iload 7, 2) := by decide +kernel
theorem zd_Model_goBuild_76 : decode zm_Model_goBuild.2.1 76 = .ok (.aload_n 0, 1) := by decide +kernel
theorem zd_Model_goBuild_77 : decode zm_Model_goBuild.2.1 77 = .ok (.getfield 66, 3) := by decide +kernel
theorem zd_Model_goBuild_80 : decode zm_Model_goBuild.2.1 80 = .ok (.iload 7, 2) := by decide +kernel
theorem zd_Model_goBuild_82 : decode zm_Model_goBuild.2.1 82 = .ok (.iaload, 1) := by decide +kernel
theorem zd_Model_goBuild_83 : decode zm_Model_goBuild.2.1 83 = .ok (.iastore, 1) := by decide +kernel
theorem zd_Model_goBuild_84 : decode zm_Model_goBuild.2.1 84 = .ok (.iinc 7 1, 3) := by decide +kernel
theorem zd_Model_goBuild_87 : decode zm_Model_goBuild.2.1 87 = .ok (.goto (-26), 3) := by decide +kernel
theorem zd_Model_goBuild_90 : decode zm_Model_goBuild.2.1 90 = .ok (.return_, 1) := by decide +kernel
theorem zd_Model_goBuild_91 : decode zm_Model_goBuild.2.1 91 = .ok (.iload_n 3, 1) := by decide +kernel
theorem zd_Model_goBuild_92 : decode zm_Model_goBuild.2.1 92 = .ok (.istore 7, 2) := by decide +kernel
theorem zd_Model_goBuild_94 : decode zm_Model_goBuild.2.1 94 = .ok (.iload 7, 2) := by decide +kernel
theorem zd_Model_goBuild_96 : decode zm_Model_goBuild.2.1 96 = .ok (.aload_n 0, 1) := by decide +kernel
theorem zd_Model_goBuild_97 : decode zm_Model_goBuild.2.1 97 = .ok (.getfield 97, 3) := by decide +kernel
theorem zd_Model_goBuild_100 : decode zm_Model_goBuild.2.1 100 = .ok (.if_icmp .ge 139, 3) := by decide +kernel
theorem zd_Model_goBuild_103 : decode zm_Model_goBuild.2.1 103 = .ok (.iload_n 2, 1) := by decide +kernel
theorem zd_Model_goBuild_104 : decode zm_Model_goBuild.2.1 104 = .ok (.iload 7, 2) := by decide +kernel
theorem zd_Model_goBuild_106 : decode zm_Model_goBuild.2.1 106 = .ok (.invokestatic 169, 3) := by decide +kernel
theorem zd_Model_goBuild_109 : decode zm_Model_goBuild.2.1 109 = .ok (.ifCond .ne 6, 3) := by decide +kernel
theorem zd_Model_goBuild_112 : decode zm_Model_goBuild.2.1 112 = .ok (.goto 121, 3) := by decide +kernel
theorem zd_Model_goBuild_115 : decode zm_Model_goBuild.2.1 115 = .ok (.iconst 0, 1) := by decide +kernel
theorem zd_Model_goBuild_116 : decode zm_Model_goBuild.2.1 116 = .ok (.istore 8, 2) := by decide +kernel
theorem zd_Model_goBuild_118 : decode zm_Model_goBuild.2.1 118 = .ok (.iload 8, 2) := by decide +kernel
theorem zd_Model_goBuild_120 : decode zm_Model_goBuild.2.1 120 = .ok (.aload_n 0, 1) := by decide +kernel
theorem zd_Model_goBuild_121 : decode zm_Model_goBuild.2.1 121 = .ok (.getfield 19, 3) := by decide +kernel
theorem zd_Model_goBuild_124 : decode zm_Model_goBuild.2.1 124 = .ok (.if_icmp .ge 109, 3) := by decide +kernel
theorem zd_Model_goBuild_127 : decode zm_Model_goBuild.2.1 127 = .ok (.aload_n 0, 1) := by decide +kernel
theorem zd_Model_goBuild_128 : decode zm_Model_goBuild.2.1 128 = .ok (.aload_n 1, 1) := by decide +kernel
theorem zd_Model_goBuild_129 : decode zm_Model_goBuild.2.1 129 = .ok (.iload 7, 2) := by decide +kernel
theorem zd_Model_goBuild_131 : decode zm_Model_goBuild.2.1 131 = .ok (.iload 8, 2) := by decide +kernel
theorem zd_Model_goBuild_133 : decode zm_Model_goBuild.2.1 133 = .ok (.invokevirtual 278, 3) := by decide +kernel
theorem zd_Model_goBuild_136 : decode zm_Model_goBuild.2.1 136 = .ok (.ifCond .ge 6, 3) := by decide +kernel
theorem zd_Model_goBuild_139 : decode zm_Model_goBuild.2.1 139 = .ok (.goto 88, 3) := by decide +kernel
theorem zd_Model_goBuild_142 : decode zm_Model_goBuild.2.1 142 = .ok (.aload_n 1, 1) := by decide +kernel
theorem zd_Model_goBuild_143 : decode zm_Model_goBuild.2.1 143 = .ok (.iload 7, 2) := by decide +kernel
theorem zd_Model_goBuild_145 : decode zm_Model_goBuild.2.1 145 = .ok (.iaload, 1) := by decide +kernel
theorem zd_Model_goBuild_146 : decode zm_Model_goBuild.2.1 146 = .ok (.istore 9, 2) := by decide +kernel
theorem zd_Model_goBuild_148 : decode zm_Model_goBuild.2.1 148 = .ok (.aload_n 1, 1) := by decide +kernel
theorem zd_Model_goBuild_149 : decode zm_Model_goBuild.2.1 149 = .ok (.bipush 12, 2) := by decide +kernel
theorem zd_Model_goBuild_151 : decode zm_Model_goBuild.2.1 151 = .ok (.iload 7, 2) := by decide +kernel
theorem zd_Model_goBuild_153 : decode zm_Model_goBuild.2.1 153 = .ok (.iadd, 1) := by decide +kernel
theorem zd_Model_goBuild_154 : decode zm_Model_goBuild.2.1 154 = .ok (.iaload, 1) := by decide +kernel
theorem zd_Model_goBuild_155 : decode zm_Model_goBuild.2.1 155 = .ok (.istore 10, 2) := by decide +kernel
theorem zd_Model_goBuild_157 : decode zm_Model_goBuild.2.1 157 = .ok (.aload_n 1, 1) := by decide +kernel
theorem zd_Model_goBuild_158 : decode zm_Model_goBuild.2.1 158 = .ok (.bipush 24, 2) := by decide +kernel
theorem zd_Model_goBuild_160 : decode zm_Model_goBuild.2.1 160 = .ok (.iload 7, 2) := by decide +kernel
theorem zd_Model_goBuild_162 : decode zm_Model_goBuild.2.1 162 = .ok (.iadd, 1) := by decide +kernel
theorem zd_Model_goBuild_163 : decode zm_Model_goBuild.2.1 163 = .ok (.iaload, 1) := by decide +kernel
theorem zd_Model_goBuild_164 : decode zm_Model_goBuild.2.1 164 = .ok (.istore 11, 2) := by decide +kernel
theorem zd_Model_goBuild_166 : decode zm_Model_goBuild.2.1 166 = .ok (.aload_n 0, 1) := by decide +kernel
theorem zd_Model_goBuild_167 : decode zm_Model_goBuild.2.1 167 = .ok (.aload_n 1, 1) := by decide +kernel
theorem zd_Model_goBuild_168 : decode zm_Model_goBuild.2.1 168 = .ok (.iload 7, 2) := by decide +kernel
theorem zd_Model_goBuild_170 : decode zm_Model_goBuild.2.1 170 = .ok (.iload 8, 2) := by decide +kernel
theorem zd_Model_goBuild_172 : decode zm_Model_goBuild.2.1 172 = .ok (.invokevirtual 288, 3) := by decide +kernel
theorem zd_Model_goBuild_175 : decode zm_Model_goBuild.2.1 175 = .ok (.aload_n 0, 1) := by decide +kernel
theorem zd_Model_goBuild_176 : decode zm_Model_goBuild.2.1 176 = .ok (.getfield 66, 3) := by decide +kernel
theorem zd_Model_goBuild_179 : decode zm_Model_goBuild.2.1 179 = .ok (.iconst 2, 1) := by decide +kernel
theorem zd_Model_goBuild_180 : decode zm_Model_goBuild.2.1 180 = .ok (.iload 4, 2) := by decide +kernel
theorem zd_Model_goBuild_182 : decode zm_Model_goBuild.2.1 182 = .ok (.imul, 1) := by decide +kernel
theorem zd_Model_goBuild_183 : decode zm_Model_goBuild.2.1 183 = .ok (.iload 7, 2) := by decide +kernel
theorem zd_Model_goBuild_185 : decode zm_Model_goBuild.2.1 185 = .ok (.iastore, 1) := by decide +kernel
theorem zd_Model_goBuild_186 : decode zm_Model_goBuild.2.1 186 = .ok (.aload_n 0, 1) := by decide +kernel
theorem zd_Model_goBuild_187 : decode zm_Model_goBuild.2.1 187 = .ok (.getfield 66, 3) := by decide +kernel
theorem zd_Model_goBuild_190 : decode zm_Model_goBuild.2.1 190 = .ok (.iconst 2, 1) := by decide +kernel
theorem zd_Model_goBuild_191 : decode zm_Model_goBuild.2.1 191 = .ok (.iload 4, 2) := by decide +kernel
theorem zd_Model_goBuild_193 : decode zm_Model_goBuild.2.1 193 = .ok (.imul, 1) := by decide +kernel
theorem zd_Model_goBuild_194 : decode zm_Model_goBuild.2.1 194 = .ok (.iconst 1, 1) := by decide +kernel
theorem zd_Model_goBuild_195 : decode zm_Model_goBuild.2.1 195 = .ok (.iadd, 1) := by decide +kernel
theorem zd_Model_goBuild_196 : decode zm_Model_goBuild.2.1 196 = .ok (.iload 8, 2) := by decide +kernel
theorem zd_Model_goBuild_198 : decode zm_Model_goBuild.2.1 198 = .ok (.iastore, 1) := by decide +kernel
theorem zd_Model_goBuild_199 : decode zm_Model_goBuild.2.1 199 = .ok (.aload_n 0, 1) := by decide +kernel
theorem zd_Model_goBuild_200 : decode zm_Model_goBuild.2.1 200 = .ok (.aload_n 1, 1) := by decide +kernel
theorem zd_Model_goBuild_201 : decode zm_Model_goBuild.2.1 201 = .ok (.iload_n 2, 1) := by decide +kernel
theorem zd_Model_goBuild_202 : decode zm_Model_goBuild.2.1 202 = .ok (.iload 7, 2) := by decide +kernel
theorem zd_Model_goBuild_204 : decode zm_Model_goBuild.2.1 204 = .ok (.iconst 1, 1) := by decide +kernel
theorem zd_Model_goBuild_205 : decode zm_Model_goBuild.2.1 205 = .ok (.iadd, 1) := by decide +kernel
theorem zd_Model_goBuild_206 : decode zm_Model_goBuild.2.1 206 = .ok (.iload 4, 2) := by decide +kernel
theorem zd_Model_goBuild_208 : decode zm_Model_goBuild.2.1 208 = .ok (.iconst 1, 1) := by decide +kernel
theorem zd_Model_goBuild_209 : decode zm_Model_goBuild.2.1 209 = .ok (.iadd, 1) := by decide +kernel
theorem zd_Model_goBuild_210 : decode zm_Model_goBuild.2.1 210 = .ok (.iload 5, 2) := by decide +kernel
theorem zd_Model_goBuild_212 : decode zm_Model_goBuild.2.1 212 = .ok (.invokevirtual 347, 3) := by decide +kernel
theorem zd_Model_goBuild_215 : decode zm_Model_goBuild.2.1 215 = .ok (.aload_n 1, 1) := by decide +kernel
theorem zd_Model_goBuild_216 : decode zm_Model_goBuild.2.1 216 = .ok (.iload 7, 2) := by decide +kernel
theorem zd_Model_goBuild_218 : decode zm_Model_goBuild.2.1 218 = .ok (.iload 9, 2) := by decide +kernel
theorem zd_Model_goBuild_220 : decode zm_Model_goBuild.2.1 220 = .ok (.iload 10, 2) := by decide +kernel
theorem zd_Model_goBuild_222 : decode zm_Model_goBuild.2.1 222 = .ok (.iload 11, 2) := by decide +kernel
theorem zd_Model_goBuild_224 : decode zm_Model_goBuild.2.1 224 = .ok (.invokestatic 173, 3) := by decide +kernel
theorem zd_Model_goBuild_227 : decode zm_Model_goBuild.2.1 227 = .ok (.iinc 8 1, 3) := by decide +kernel
theorem zd_Model_goBuild_230 : decode zm_Model_goBuild.2.1 230 = .ok (.goto (-112), 3) := by decide +kernel
theorem zd_Model_goBuild_233 : decode zm_Model_goBuild.2.1 233 = .ok (.iinc 7 1, 3) := by decide +kernel
theorem zd_Model_goBuild_236 : decode zm_Model_goBuild.2.1 236 = .ok (.goto (-142), 3) := by decide +kernel
theorem zd_Model_goBuild_239 : decode zm_Model_goBuild.2.1 239 = .ok (.return_, 1) := by decide +kernel
theorem zb_Model_goBuild_0 {Γ : zG} {σ : zS} {a1 : Nat} {x2 x3 x4 x5 : Int32} {dc : Nat} {P : Int32 → zS → Prop} (h_a1 : z_kd a1 = (11, 53)) (hm : z_Ci dc zm_Model_leastHeight [.inr (63), .inr (a1)] σ P) (hdp : dc < z_dep Γ) (k : ∀ r σ1, P r σ1 → z_J Γ zm_Model_goBuild 5 [some (.inr (63)), some (.inr (a1)), some (.inl (x2)), some (.inl (x3)), some (.inl (x4)), some (.inl (x5)), none, none, none, none, none, none] [.inl (r)] σ1) : z_J Γ zm_Model_goBuild 0 [some (.inr (63)), some (.inr (a1)), some (.inl (x2)), some (.inl (x3)), some (.inl (x4)), some (.inl (x5)), none, none, none, none, none, none] [] σ := by
  refine zj_aload_n zd_Model_goBuild_0 rfl ?_
  refine zj_aload_n zd_Model_goBuild_1 rfl ?_
  exact zj_callVi (As := [.inr (a1)]) hm hdp rfl (by decide) rfl zl_Model_334 zq_Model_leastHeight zd_Model_goBuild_2 rfl (Nat.le_of_ble_eq_true rfl) (fun r σ1 h => (k r σ1 h))
theorem zb_Model_goBuild_5 {Γ : zG} {σ : zS} {a1 : Nat} {x2 x3 x4 x5 y0 : Int32} (h_a1 : z_kd a1 = (11, 53)) (kt : 0 ≤ x5 → z_J Γ zm_Model_goBuild 25 [some (.inr (63)), some (.inr (a1)), some (.inl (x2)), some (.inl (x3)), some (.inl (x4)), some (.inl (x5)), some (.inl (y0)), none, none, none, none, none] [] σ) (kf : ¬ 0 ≤ x5 → z_J Γ zm_Model_goBuild 12 [some (.inr (63)), some (.inr (a1)), some (.inl (x2)), some (.inl (x3)), some (.inl (x4)), some (.inl (x5)), some (.inl (y0)), none, none, none, none, none] [] σ) : z_J Γ zm_Model_goBuild 5 [some (.inr (63)), some (.inr (a1)), some (.inl (x2)), some (.inl (x3)), some (.inl (x4)), some (.inl (x5)), none, none, none, none, none, none] [.inl (y0)] σ := by
  refine zj_istore (L' := [some (.inr (63)), some (.inr (a1)), some (.inl (x2)), some (.inl (x3)), some (.inl (x4)), some (.inl (x5)), some (.inl (y0)), none, none, none, none, none]) zd_Model_goBuild_5 (by decide) rfl ?_
  refine zj_iload zd_Model_goBuild_7 rfl ?_
  exact zj_if_ge zd_Model_goBuild_9 (by decide) (fun h => (kt h)) (fun h => (kf h))
theorem zb_Model_goBuild_12 {Γ : zG} {σ : zS} {a1 : Nat} {x2 x3 x4 x5 x6 : Int32} (h_a1 : z_kd a1 = (11, 53)) (hdp : 0 < z_dep Γ) (k : z_J Γ zm_Model_goBuild 25 [some (.inr (63)), some (.inr (a1)), some (.inl (x2)), some (.inl (x3)), some (.inl (x4)), some (.inl (x5)), some (.inl (x6)), none, none, none, none, none] [] (z_pI σ 63 36 (z_max (σ.1 63 36) x6))) : z_J Γ zm_Model_goBuild 12 [some (.inr (63)), some (.inr (a1)), some (.inl (x2)), some (.inl (x3)), some (.inl (x4)), some (.inl (x5)), some (.inl (x6)), none, none, none, none, none] [] σ := by
  refine zj_aload_n zd_Model_goBuild_12 rfl ?_
  refine zj_aload_n zd_Model_goBuild_13 rfl ?_
  refine zj_getI rfl (by decide) rfl zu_Model (k := 36) (by decide) rfl zl_Model_341 zd_Model_goBuild_14 ?_
  refine zj_iload zd_Model_goBuild_17 rfl ?_
  refine zj_mmax zl_Model_226 zx_max_s zx_Math zx_max_c hdp (Nat.le_of_ble_eq_true rfl) zd_Model_goBuild_19 ?_
  refine zj_putI rfl (by decide) rfl zu_Model zy_Model_ok zn_Model (k := 36) (by decide) rfl rfl zl_Model_341 rfl rfl zd_Model_goBuild_22 ?_
  exact k
theorem zb_Model_goBuild_25 {Γ : zG} {σ : zS} {a1 : Nat} {x2 x3 x4 x5 x6 : Int32} (h_a1 : z_kd a1 = (11, 53)) (kt : x5 < 0 → z_J Γ zm_Model_goBuild 40 [some (.inr (63)), some (.inr (a1)), some (.inl (x2)), some (.inl (x3)), some (.inl (x4)), some (.inl (x5)), some (.inl (x6)), none, none, none, none, none] [] σ) (kf : ¬ x5 < 0 → z_J Γ zm_Model_goBuild 30 [some (.inr (63)), some (.inr (a1)), some (.inl (x2)), some (.inl (x3)), some (.inl (x4)), some (.inl (x5)), some (.inl (x6)), none, none, none, none, none] [] σ) : z_J Γ zm_Model_goBuild 25 [some (.inr (63)), some (.inr (a1)), some (.inl (x2)), some (.inl (x3)), some (.inl (x4)), some (.inl (x5)), some (.inl (x6)), none, none, none, none, none] [] σ := by
  refine zj_iload zd_Model_goBuild_25 rfl ?_
  exact zj_if_lt zd_Model_goBuild_27 (by decide) (fun h => (kt h)) (fun h => (kf h))
theorem zb_Model_goBuild_30 {Γ : zG} {σ : zS} {a1 : Nat} {x2 x3 x4 x5 x6 : Int32} (h_a1 : z_kd a1 = (11, 53)) (kt : x4 < (σ.1 63 35) → z_J Γ zm_Model_goBuild 40 [some (.inr (63)), some (.inr (a1)), some (.inl (x2)), some (.inl (x3)), some (.inl (x4)), some (.inl (x5)), some (.inl (x6)), none, none, none, none, none] [] σ) (kf : ¬ x4 < (σ.1 63 35) → z_J Γ zm_Model_goBuild 39 [none, none, none, none, none, none, none, none, none, none, none, none] [] σ) : z_J Γ zm_Model_goBuild 30 [some (.inr (63)), some (.inr (a1)), some (.inl (x2)), some (.inl (x3)), some (.inl (x4)), some (.inl (x5)), some (.inl (x6)), none, none, none, none, none] [] σ := by
  refine zj_iload zd_Model_goBuild_30 rfl ?_
  refine zj_aload_n zd_Model_goBuild_32 rfl ?_
  refine zj_getI rfl (by decide) rfl zu_Model (k := 35) (by decide) rfl zl_Model_344 zd_Model_goBuild_33 ?_
  exact zj_icmp_lt zd_Model_goBuild_36 (by decide) (fun h => (kt h)) (fun h => (zj_weak (L' := [none, none, none, none, none, none, none, none, none, none, none, none]) trivial (kf h)))
theorem zb_Model_goBuild_39 {Γ : zG} {σ : zS}  (e : z_end Γ none σ) : z_J Γ zm_Model_goBuild 39 [none, none, none, none, none, none, none, none, none, none, none, none] [] σ := by
  exact zj_return rfl zd_Model_goBuild_39 e
theorem zb_Model_goBuild_40 {Γ : zG} {σ : zS} {a1 : Nat} {x2 x3 x4 x5 x6 : Int32} (h_a1 : z_kd a1 = (11, 53)) (kt : x5 < 0 → z_J Γ zm_Model_goBuild 91 [some (.inr (63)), some (.inr (a1)), some (.inl (x2)), some (.inl (x3)), some (.inl (x4)), some (.inl (x5)), none, none, none, none, none, none] [] σ) (kf : ¬ x5 < 0 → z_J Γ zm_Model_goBuild 45 [some (.inr (63)), some (.inr (a1)), some (.inl (x2)), some (.inl (x3)), some (.inl (x4)), some (.inl (x5)), some (.inl (x6)), none, none, none, none, none] [] σ) : z_J Γ zm_Model_goBuild 40 [some (.inr (63)), some (.inr (a1)), some (.inl (x2)), some (.inl (x3)), some (.inl (x4)), some (.inl (x5)), some (.inl (x6)), none, none, none, none, none] [] σ := by
  refine zj_iload zd_Model_goBuild_40 rfl ?_
  exact zj_if_lt zd_Model_goBuild_42 (by decide) (fun h => (zj_weak (L' := [some (.inr (63)), some (.inr (a1)), some (.inl (x2)), some (.inl (x3)), some (.inl (x4)), some (.inl (x5)), none, none, none, none, none, none]) ⟨rfl, ⟨rfl, ⟨rfl, ⟨rfl, ⟨rfl, ⟨rfl, trivial⟩⟩⟩⟩⟩⟩ (kt h))) (fun h => (kf h))
theorem zb_Model_goBuild_45 {Γ : zG} {σ : zS} {a1 : Nat} {x2 x3 x4 x5 x6 : Int32} (h_a1 : z_kd a1 = (11, 53)) (kt : x6 < x5 → z_J Γ zm_Model_goBuild 91 [some (.inr (63)), some (.inr (a1)), some (.inl (x2)), some (.inl (x3)), some (.inl (x4)), some (.inl (x5)), none, none, none, none, none, none] [] σ) (kf : ¬ x6 < x5 → z_J Γ zm_Model_goBuild 52 [some (.inr (63)), none, none, none, some (.inl (x4)), none, none, none, none, none, none, none] [] σ) : z_J Γ zm_Model_goBuild 45 [some (.inr (63)), some (.inr (a1)), some (.inl (x2)), some (.inl (x3)), some (.inl (x4)), some (.inl (x5)), some (.inl (x6)), none, none, none, none, none] [] σ := by
  refine zj_iload zd_Model_goBuild_45 rfl ?_
  refine zj_iload zd_Model_goBuild_47 rfl ?_
  exact zj_icmp_lt zd_Model_goBuild_49 (by decide) (fun h => (zj_weak (L' := [some (.inr (63)), some (.inr (a1)), some (.inl (x2)), some (.inl (x3)), some (.inl (x4)), some (.inl (x5)), none, none, none, none, none, none]) ⟨rfl, ⟨rfl, ⟨rfl, ⟨rfl, ⟨rfl, ⟨rfl, trivial⟩⟩⟩⟩⟩⟩ (kt h))) (fun h => (zj_weak (L' := [some (.inr (63)), none, none, none, some (.inl (x4)), none, none, none, none, none, none, none]) ⟨rfl, ⟨rfl, trivial⟩⟩ (kf h)))
theorem zb_Model_goBuild_52 {Γ : zG} {σ : zS} {x4 : Int32}  (k : z_J Γ zm_Model_goBuild 61 [some (.inr (63)), none, none, none, some (.inl (x4)), none, none, some (.inl (nI 0)), none, none, none, none] [] (z_pI σ 63 35 x4)) : z_J Γ zm_Model_goBuild 52 [some (.inr (63)), none, none, none, some (.inl (x4)), none, none, none, none, none, none, none] [] σ := by
  refine zj_aload_n zd_Model_goBuild_52 rfl ?_
  refine zj_iload zd_Model_goBuild_53 rfl ?_
  refine zj_putI rfl (by decide) rfl zu_Model zy_Model_ok zn_Model (k := 35) (by decide) rfl rfl zl_Model_344 rfl rfl zd_Model_goBuild_55 ?_
  refine zj_iconst (v := nI 0) zd_Model_goBuild_58 (by decide) ?_
  refine zj_istore (L' := [some (.inr (63)), none, none, none, some (.inl (x4)), none, none, some (.inl (nI 0)), none, none, none, none]) zd_Model_goBuild_59 (by decide) rfl ?_
  exact k
theorem zb_Model_goBuild_61 {Γ : zG} {σ : zS} {x4 x7 : Int32}  (kt : ((nI 2) * x4) ≤ x7 → z_J Γ zm_Model_goBuild 90 [none, none, none, none, none, none, none, none, none, none, none, none] [] σ) (kf : ¬ ((nI 2) * x4) ≤ x7 → z_J Γ zm_Model_goBuild 70 [some (.inr (63)), none, none, none, some (.inl (x4)), none, none, some (.inl (x7)), none, none, none, none] [] σ) : z_J Γ zm_Model_goBuild 61 [some (.inr (63)), none, none, none, some (.inl (x4)), none, none, some (.inl (x7)), none, none, none, none] [] σ := by
  refine zj_iload zd_Model_goBuild_61 rfl ?_
  refine zj_iconst (v := nI 2) zd_Model_goBuild_63 (by decide) ?_
  refine zj_iload zd_Model_goBuild_64 rfl ?_
  refine zj_imul zd_Model_goBuild_66 ?_
  exact zj_icmp_ge zd_Model_goBuild_67 (by decide) (fun h => (zj_weak (L' := [none, none, none, none, none, none, none, none, none, none, none, none]) trivial (kt h))) (fun h => (kf h))
theorem zb_Model_goBuild_70 {Γ : zG} {σ : zS} {x4 x7 : Int32} {k1 k2 : Nat}  (b1 : z_ix x7 24 k1) (b2 : z_ix x7 24 k2) (k : z_J Γ zm_Model_goBuild 61 [some (.inr (63)), none, none, none, some (.inl (x4)), none, none, some (.inl (x7 + nI 1)), none, none, none, none] [] (z_pI σ 81 k2 (σ.1 80 k1))) : z_J Γ zm_Model_goBuild 70 [some (.inr (63)), none, none, none, some (.inl (x4)), none, none, some (.inl (x7)), none, none, none, none] [] σ := by
  refine zj_aload_n zd_Model_goBuild_70 rfl ?_
  refine zj_getR rfl (by decide) rfl zu_Model (k := 34) (by decide) rfl zl_Model_69 zd_Model_goBuild_71 (o' := 81) rfl ?_
  refine zj_iload zd_Model_goBuild_74 rfl ?_
  refine zj_aload_n zd_Model_goBuild_76 rfl ?_
  refine zj_getR rfl (by decide) rfl zu_Model (k := 33) (by decide) rfl zl_Model_66 zd_Model_goBuild_77 (o' := 80) rfl ?_
  refine zj_iload zd_Model_goBuild_80 rfl ?_
  refine zj_iaload rfl (by decide) b1 zd_Model_goBuild_82 ?_
  refine zj_iastore rfl (by decide) b2 zd_Model_goBuild_83 ?_
  refine zj_iinc (v := nI 1) (L' := [some (.inr (63)), none, none, none, some (.inl (x4)), none, none, some (.inl (x7 + nI 1)), none, none, none, none]) zd_Model_goBuild_84 rfl (by decide) (by decide) rfl ?_
  exact zj_goto zd_Model_goBuild_87 (by decide) k
theorem zb_Model_goBuild_90 {Γ : zG} {σ : zS}  (e : z_end Γ none σ) : z_J Γ zm_Model_goBuild 90 [none, none, none, none, none, none, none, none, none, none, none, none] [] σ := by
  exact zj_return rfl zd_Model_goBuild_90 e
theorem zb_Model_goBuild_91 {Γ : zG} {σ : zS} {a1 : Nat} {x2 x3 x4 x5 : Int32} (h_a1 : z_kd a1 = (11, 53)) (k : z_J Γ zm_Model_goBuild 94 [some (.inr (63)), some (.inr (a1)), some (.inl (x2)), none, some (.inl (x4)), some (.inl (x5)), none, some (.inl (x3)), none, none, none, none] [] σ) : z_J Γ zm_Model_goBuild 91 [some (.inr (63)), some (.inr (a1)), some (.inl (x2)), some (.inl (x3)), some (.inl (x4)), some (.inl (x5)), none, none, none, none, none, none] [] σ := by
  refine zj_iload_n zd_Model_goBuild_91 rfl ?_
  refine zj_istore (L' := [some (.inr (63)), some (.inr (a1)), some (.inl (x2)), some (.inl (x3)), some (.inl (x4)), some (.inl (x5)), none, some (.inl (x3)), none, none, none, none]) zd_Model_goBuild_92 (by decide) rfl ?_
  exact (zj_weak (L' := [some (.inr (63)), some (.inr (a1)), some (.inl (x2)), none, some (.inl (x4)), some (.inl (x5)), none, some (.inl (x3)), none, none, none, none]) ⟨rfl, ⟨rfl, ⟨rfl, ⟨rfl, ⟨rfl, ⟨rfl, trivial⟩⟩⟩⟩⟩⟩ k)
theorem zb_Model_goBuild_94 {Γ : zG} {σ : zS} {a1 : Nat} {x2 x4 x5 x7 : Int32} (h_a1 : z_kd a1 = (11, 53)) (kt : (σ.1 63 1) ≤ x7 → z_J Γ zm_Model_goBuild 239 [none, none, none, none, none, none, none, none, none, none, none, none] [] σ) (kf : ¬ (σ.1 63 1) ≤ x7 → z_J Γ zm_Model_goBuild 103 [some (.inr (63)), some (.inr (a1)), some (.inl (x2)), none, some (.inl (x4)), some (.inl (x5)), none, some (.inl (x7)), none, none, none, none] [] σ) : z_J Γ zm_Model_goBuild 94 [some (.inr (63)), some (.inr (a1)), some (.inl (x2)), none, some (.inl (x4)), some (.inl (x5)), none, some (.inl (x7)), none, none, none, none] [] σ := by
  refine zj_iload zd_Model_goBuild_94 rfl ?_
  refine zj_aload_n zd_Model_goBuild_96 rfl ?_
  refine zj_getI rfl (by decide) rfl zu_Model (k := 1) (by decide) rfl zl_Model_97 zd_Model_goBuild_97 ?_
  exact zj_icmp_ge zd_Model_goBuild_100 (by decide) (fun h => (zj_weak (L' := [none, none, none, none, none, none, none, none, none, none, none, none]) trivial (kt h))) (fun h => (kf h))
theorem zb_Model_goBuild_103 {Γ : zG} {σ : zS} {a1 : Nat} {x2 x4 x5 x7 : Int32} {dc : Nat} {P : Int32 → zS → Prop} (h_a1 : z_kd a1 = (11, 53)) (hm : z_Ci dc zm_Model_has [.inl (x2), .inl (x7)] σ P) (hdp : dc < z_dep Γ) (k : ∀ r σ1, P r σ1 → z_J Γ zm_Model_goBuild 109 [some (.inr (63)), some (.inr (a1)), some (.inl (x2)), none, some (.inl (x4)), some (.inl (x5)), none, some (.inl (x7)), none, none, none, none] [.inl (r)] σ1) : z_J Γ zm_Model_goBuild 103 [some (.inr (63)), some (.inr (a1)), some (.inl (x2)), none, some (.inl (x4)), some (.inl (x5)), none, some (.inl (x7)), none, none, none, none] [] σ := by
  refine zj_iload_n zd_Model_goBuild_103 rfl ?_
  refine zj_iload zd_Model_goBuild_104 rfl ?_
  exact zj_callSi (As := [.inl (x2), .inl (x7)]) hm hdp zl_Model_169 zq_Model_has zd_Model_goBuild_106 rfl (Nat.le_of_ble_eq_true rfl) (fun r σ1 h => (k r σ1 h))
theorem zb_Model_goBuild_109 {Γ : zG} {σ : zS} {a1 : Nat} {x2 x4 x5 x7 y0 : Int32} (h_a1 : z_kd a1 = (11, 53)) (kt : ¬ y0 = 0 → z_J Γ zm_Model_goBuild 115 [some (.inr (63)), some (.inr (a1)), some (.inl (x2)), none, some (.inl (x4)), some (.inl (x5)), none, some (.inl (x7)), none, none, none, none] [] σ) (kf : y0 = 0 → z_J Γ zm_Model_goBuild 112 [some (.inr (63)), some (.inr (a1)), some (.inl (x2)), none, some (.inl (x4)), some (.inl (x5)), none, some (.inl (x7)), none, none, none, none] [] σ) : z_J Γ zm_Model_goBuild 109 [some (.inr (63)), some (.inr (a1)), some (.inl (x2)), none, some (.inl (x4)), some (.inl (x5)), none, some (.inl (x7)), none, none, none, none] [.inl (y0)] σ := by
  exact zj_if_ne zd_Model_goBuild_109 (by decide) (fun h => (kt h)) (fun h => (kf h))
theorem zb_Model_goBuild_112 {Γ : zG} {σ : zS} {a1 : Nat} {x2 x4 x5 x7 : Int32} (h_a1 : z_kd a1 = (11, 53)) (k : z_J Γ zm_Model_goBuild 233 [some (.inr (63)), some (.inr (a1)), some (.inl (x2)), none, some (.inl (x4)), some (.inl (x5)), none, some (.inl (x7)), none, none, none, none] [] σ) : z_J Γ zm_Model_goBuild 112 [some (.inr (63)), some (.inr (a1)), some (.inl (x2)), none, some (.inl (x4)), some (.inl (x5)), none, some (.inl (x7)), none, none, none, none] [] σ := by
  exact zj_goto zd_Model_goBuild_112 (by decide) k
theorem zb_Model_goBuild_115 {Γ : zG} {σ : zS} {a1 : Nat} {x2 x4 x5 x7 : Int32} (h_a1 : z_kd a1 = (11, 53)) (k : z_J Γ zm_Model_goBuild 118 [some (.inr (63)), some (.inr (a1)), some (.inl (x2)), none, some (.inl (x4)), some (.inl (x5)), none, some (.inl (x7)), some (.inl (nI 0)), none, none, none] [] σ) : z_J Γ zm_Model_goBuild 115 [some (.inr (63)), some (.inr (a1)), some (.inl (x2)), none, some (.inl (x4)), some (.inl (x5)), none, some (.inl (x7)), none, none, none, none] [] σ := by
  refine zj_iconst (v := nI 0) zd_Model_goBuild_115 (by decide) ?_
  refine zj_istore (L' := [some (.inr (63)), some (.inr (a1)), some (.inl (x2)), none, some (.inl (x4)), some (.inl (x5)), none, some (.inl (x7)), some (.inl (nI 0)), none, none, none]) zd_Model_goBuild_116 (by decide) rfl ?_
  exact k
theorem zb_Model_goBuild_118 {Γ : zG} {σ : zS} {a1 : Nat} {x2 x4 x5 x7 x8 : Int32} (h_a1 : z_kd a1 = (11, 53)) (kt : (σ.1 63 4) ≤ x8 → z_J Γ zm_Model_goBuild 233 [some (.inr (63)), some (.inr (a1)), some (.inl (x2)), none, some (.inl (x4)), some (.inl (x5)), none, some (.inl (x7)), none, none, none, none] [] σ) (kf : ¬ (σ.1 63 4) ≤ x8 → z_J Γ zm_Model_goBuild 127 [some (.inr (63)), some (.inr (a1)), some (.inl (x2)), none, some (.inl (x4)), some (.inl (x5)), none, some (.inl (x7)), some (.inl (x8)), none, none, none] [] σ) : z_J Γ zm_Model_goBuild 118 [some (.inr (63)), some (.inr (a1)), some (.inl (x2)), none, some (.inl (x4)), some (.inl (x5)), none, some (.inl (x7)), some (.inl (x8)), none, none, none] [] σ := by
  refine zj_iload zd_Model_goBuild_118 rfl ?_
  refine zj_aload_n zd_Model_goBuild_120 rfl ?_
  refine zj_getI rfl (by decide) rfl zu_Model (k := 4) (by decide) rfl zl_Model_19 zd_Model_goBuild_121 ?_
  exact zj_icmp_ge zd_Model_goBuild_124 (by decide) (fun h => (zj_weak (L' := [some (.inr (63)), some (.inr (a1)), some (.inl (x2)), none, some (.inl (x4)), some (.inl (x5)), none, some (.inl (x7)), none, none, none, none]) ⟨rfl, ⟨rfl, ⟨rfl, ⟨rfl, ⟨rfl, ⟨rfl, trivial⟩⟩⟩⟩⟩⟩ (kt h))) (fun h => (kf h))
theorem zb_Model_goBuild_127 {Γ : zG} {σ : zS} {a1 : Nat} {x2 x4 x5 x7 x8 : Int32} {dc : Nat} {P : Int32 → zS → Prop} (h_a1 : z_kd a1 = (11, 53)) (hm : z_Ci dc zm_Model_refusesTop [.inr (63), .inr (a1), .inl (x7), .inl (x8)] σ P) (hdp : dc < z_dep Γ) (k : ∀ r σ1, P r σ1 → z_J Γ zm_Model_goBuild 136 [some (.inr (63)), some (.inr (a1)), some (.inl (x2)), none, some (.inl (x4)), some (.inl (x5)), none, some (.inl (x7)), some (.inl (x8)), none, none, none] [.inl (r)] σ1) : z_J Γ zm_Model_goBuild 127 [some (.inr (63)), some (.inr (a1)), some (.inl (x2)), none, some (.inl (x4)), some (.inl (x5)), none, some (.inl (x7)), some (.inl (x8)), none, none, none] [] σ := by
  refine zj_aload_n zd_Model_goBuild_127 rfl ?_
  refine zj_aload_n zd_Model_goBuild_128 rfl ?_
  refine zj_iload zd_Model_goBuild_129 rfl ?_
  refine zj_iload zd_Model_goBuild_131 rfl ?_
  exact zj_callVi (As := [.inr (a1), .inl (x7), .inl (x8)]) hm hdp rfl (by decide) rfl zl_Model_278 zq_Model_refusesTop zd_Model_goBuild_133 rfl (Nat.le_of_ble_eq_true rfl) (fun r σ1 h => (k r σ1 h))
theorem zb_Model_goBuild_136 {Γ : zG} {σ : zS} {a1 : Nat} {x2 x4 x5 x7 x8 y0 : Int32} (h_a1 : z_kd a1 = (11, 53)) (kt : 0 ≤ y0 → z_J Γ zm_Model_goBuild 142 [some (.inr (63)), some (.inr (a1)), some (.inl (x2)), none, some (.inl (x4)), some (.inl (x5)), none, some (.inl (x7)), some (.inl (x8)), none, none, none] [] σ) (kf : ¬ 0 ≤ y0 → z_J Γ zm_Model_goBuild 139 [some (.inr (63)), some (.inr (a1)), some (.inl (x2)), none, some (.inl (x4)), some (.inl (x5)), none, some (.inl (x7)), some (.inl (x8)), none, none, none] [] σ) : z_J Γ zm_Model_goBuild 136 [some (.inr (63)), some (.inr (a1)), some (.inl (x2)), none, some (.inl (x4)), some (.inl (x5)), none, some (.inl (x7)), some (.inl (x8)), none, none, none] [.inl (y0)] σ := by
  exact zj_if_ge zd_Model_goBuild_136 (by decide) (fun h => (kt h)) (fun h => (kf h))
theorem zb_Model_goBuild_139 {Γ : zG} {σ : zS} {a1 : Nat} {x2 x4 x5 x7 x8 : Int32} (h_a1 : z_kd a1 = (11, 53)) (k : z_J Γ zm_Model_goBuild 227 [some (.inr (63)), some (.inr (a1)), some (.inl (x2)), none, some (.inl (x4)), some (.inl (x5)), none, some (.inl (x7)), some (.inl (x8)), none, none, none] [] σ) : z_J Γ zm_Model_goBuild 139 [some (.inr (63)), some (.inr (a1)), some (.inl (x2)), none, some (.inl (x4)), some (.inl (x5)), none, some (.inl (x7)), some (.inl (x8)), none, none, none] [] σ := by
  exact zj_goto zd_Model_goBuild_139 (by decide) k
theorem zb_Model_goBuild_142 {Γ : zG} {σ : zS} {a1 : Nat} {x2 x4 x5 x7 x8 : Int32} {k1 k2 k3 : Nat} {dc : Nat} {P : zS → Prop} (h_a1 : z_kd a1 = (11, 53)) (b1 : z_ix x7 53 k1) (b2 : z_ix ((nI 12) + x7) 53 k2) (b3 : z_ix ((nI 24) + x7) 53 k3) (hm : z_Cv dc zm_Model_goLay [.inr (63), .inr (a1), .inl (x7), .inl (x8)] σ P) (hdp : dc < z_dep Γ) (k : ∀ σ1, P σ1 → z_J Γ zm_Model_goBuild 175 [some (.inr (63)), some (.inr (a1)), some (.inl (x2)), none, some (.inl (x4)), some (.inl (x5)), none, some (.inl (x7)), some (.inl (x8)), some (.inl (σ.1 a1 k1)), some (.inl (σ.1 a1 k2)), some (.inl (σ.1 a1 k3))] [] σ1) : z_J Γ zm_Model_goBuild 142 [some (.inr (63)), some (.inr (a1)), some (.inl (x2)), none, some (.inl (x4)), some (.inl (x5)), none, some (.inl (x7)), some (.inl (x8)), none, none, none] [] σ := by
  refine zj_aload_n zd_Model_goBuild_142 rfl ?_
  refine zj_iload zd_Model_goBuild_143 rfl ?_
  refine zj_iaload h_a1 (by decide) b1 zd_Model_goBuild_145 ?_
  refine zj_istore (L' := [some (.inr (63)), some (.inr (a1)), some (.inl (x2)), none, some (.inl (x4)), some (.inl (x5)), none, some (.inl (x7)), some (.inl (x8)), some (.inl (σ.1 a1 k1)), none, none]) zd_Model_goBuild_146 (by decide) rfl ?_
  refine zj_aload_n zd_Model_goBuild_148 rfl ?_
  refine zj_bipush (v := nI 12) zd_Model_goBuild_149 (by decide) ?_
  refine zj_iload zd_Model_goBuild_151 rfl ?_
  refine zj_iadd zd_Model_goBuild_153 ?_
  refine zj_iaload h_a1 (by decide) b2 zd_Model_goBuild_154 ?_
  refine zj_istore (L' := [some (.inr (63)), some (.inr (a1)), some (.inl (x2)), none, some (.inl (x4)), some (.inl (x5)), none, some (.inl (x7)), some (.inl (x8)), some (.inl (σ.1 a1 k1)), some (.inl (σ.1 a1 k2)), none]) zd_Model_goBuild_155 (by decide) rfl ?_
  refine zj_aload_n zd_Model_goBuild_157 rfl ?_
  refine zj_bipush (v := nI 24) zd_Model_goBuild_158 (by decide) ?_
  refine zj_iload zd_Model_goBuild_160 rfl ?_
  refine zj_iadd zd_Model_goBuild_162 ?_
  refine zj_iaload h_a1 (by decide) b3 zd_Model_goBuild_163 ?_
  refine zj_istore (L' := [some (.inr (63)), some (.inr (a1)), some (.inl (x2)), none, some (.inl (x4)), some (.inl (x5)), none, some (.inl (x7)), some (.inl (x8)), some (.inl (σ.1 a1 k1)), some (.inl (σ.1 a1 k2)), some (.inl (σ.1 a1 k3))]) zd_Model_goBuild_164 (by decide) rfl ?_
  refine zj_aload_n zd_Model_goBuild_166 rfl ?_
  refine zj_aload_n zd_Model_goBuild_167 rfl ?_
  refine zj_iload zd_Model_goBuild_168 rfl ?_
  refine zj_iload zd_Model_goBuild_170 rfl ?_
  exact zj_callVv (As := [.inr (a1), .inl (x7), .inl (x8)]) hm hdp rfl (by decide) rfl zl_Model_288 zq_Model_goLay zd_Model_goBuild_172 rfl (Nat.le_of_ble_eq_true rfl) (fun σ1 h => (k σ1 h))
theorem zb_Model_goBuild_175 {Γ : zG} {σ : zS} {a1 : Nat} {x2 x4 x5 x7 x8 x9 x10 x11 : Int32} {k1 k2 : Nat} {dc : Nat} {P : zS → Prop} (h_a1 : z_kd a1 = (11, 53)) (b1 : z_ix ((nI 2) * x4) 24 k1) (b2 : z_ix (((nI 2) * x4) + (nI 1)) 24 k2) (hm : z_Cv dc zm_Model_goBuild [.inr (63), .inr (a1), .inl (x2), .inl (x7 + (nI 1)), .inl (x4 + (nI 1)), .inl (x5)] (z_pI (z_pI σ 80 k1 x7) 80 k2 x8) P) (hdp : dc < z_dep Γ) (k : ∀ σ1, P σ1 → z_J Γ zm_Model_goBuild 215 [some (.inr (63)), some (.inr (a1)), some (.inl (x2)), none, some (.inl (x4)), some (.inl (x5)), none, some (.inl (x7)), some (.inl (x8)), some (.inl (x9)), some (.inl (x10)), some (.inl (x11))] [] σ1) : z_J Γ zm_Model_goBuild 175 [some (.inr (63)), some (.inr (a1)), some (.inl (x2)), none, some (.inl (x4)), some (.inl (x5)), none, some (.inl (x7)), some (.inl (x8)), some (.inl (x9)), some (.inl (x10)), some (.inl (x11))] [] σ := by
  refine zj_aload_n zd_Model_goBuild_175 rfl ?_
  refine zj_getR rfl (by decide) rfl zu_Model (k := 33) (by decide) rfl zl_Model_66 zd_Model_goBuild_176 (o' := 80) rfl ?_
  refine zj_iconst (v := nI 2) zd_Model_goBuild_179 (by decide) ?_
  refine zj_iload zd_Model_goBuild_180 rfl ?_
  refine zj_imul zd_Model_goBuild_182 ?_
  refine zj_iload zd_Model_goBuild_183 rfl ?_
  refine zj_iastore rfl (by decide) b1 zd_Model_goBuild_185 ?_
  refine zj_aload_n zd_Model_goBuild_186 rfl ?_
  refine zj_getR rfl (by decide) rfl zu_Model (k := 33) (by decide) rfl zl_Model_66 zd_Model_goBuild_187 (o' := 80) rfl ?_
  refine zj_iconst (v := nI 2) zd_Model_goBuild_190 (by decide) ?_
  refine zj_iload zd_Model_goBuild_191 rfl ?_
  refine zj_imul zd_Model_goBuild_193 ?_
  refine zj_iconst (v := nI 1) zd_Model_goBuild_194 (by decide) ?_
  refine zj_iadd zd_Model_goBuild_195 ?_
  refine zj_iload zd_Model_goBuild_196 rfl ?_
  refine zj_iastore rfl (by decide) b2 zd_Model_goBuild_198 ?_
  refine zj_aload_n zd_Model_goBuild_199 rfl ?_
  refine zj_aload_n zd_Model_goBuild_200 rfl ?_
  refine zj_iload_n zd_Model_goBuild_201 rfl ?_
  refine zj_iload zd_Model_goBuild_202 rfl ?_
  refine zj_iconst (v := nI 1) zd_Model_goBuild_204 (by decide) ?_
  refine zj_iadd zd_Model_goBuild_205 ?_
  refine zj_iload zd_Model_goBuild_206 rfl ?_
  refine zj_iconst (v := nI 1) zd_Model_goBuild_208 (by decide) ?_
  refine zj_iadd zd_Model_goBuild_209 ?_
  refine zj_iload zd_Model_goBuild_210 rfl ?_
  exact zj_callVv (As := [.inr (a1), .inl (x2), .inl (x7 + (nI 1)), .inl (x4 + (nI 1)), .inl (x5)]) hm hdp rfl (by decide) rfl zl_Model_347 zq_Model_goBuild zd_Model_goBuild_212 rfl (Nat.le_of_ble_eq_true rfl) (fun σ1 h => (k σ1 h))
theorem zb_Model_goBuild_215 {Γ : zG} {σ : zS} {a1 : Nat} {x2 x4 x5 x7 x8 x9 x10 x11 : Int32} {dc : Nat} {P : zS → Prop} (h_a1 : z_kd a1 = (11, 53)) (hm : z_Cv dc zm_Model_put [.inr (a1), .inl (x7), .inl (x9), .inl (x10), .inl (x11)] σ P) (hdp : dc < z_dep Γ) (k : ∀ σ1, P σ1 → z_J Γ zm_Model_goBuild 227 [some (.inr (63)), some (.inr (a1)), some (.inl (x2)), none, some (.inl (x4)), some (.inl (x5)), none, some (.inl (x7)), some (.inl (x8)), none, none, none] [] σ1) : z_J Γ zm_Model_goBuild 215 [some (.inr (63)), some (.inr (a1)), some (.inl (x2)), none, some (.inl (x4)), some (.inl (x5)), none, some (.inl (x7)), some (.inl (x8)), some (.inl (x9)), some (.inl (x10)), some (.inl (x11))] [] σ := by
  refine zj_aload_n zd_Model_goBuild_215 rfl ?_
  refine zj_iload zd_Model_goBuild_216 rfl ?_
  refine zj_iload zd_Model_goBuild_218 rfl ?_
  refine zj_iload zd_Model_goBuild_220 rfl ?_
  refine zj_iload zd_Model_goBuild_222 rfl ?_
  exact zj_callSv (As := [.inr (a1), .inl (x7), .inl (x9), .inl (x10), .inl (x11)]) hm hdp zl_Model_173 zq_Model_put zd_Model_goBuild_224 rfl (Nat.le_of_ble_eq_true rfl) (fun σ1 h => (zj_weak (L' := [some (.inr (63)), some (.inr (a1)), some (.inl (x2)), none, some (.inl (x4)), some (.inl (x5)), none, some (.inl (x7)), some (.inl (x8)), none, none, none]) ⟨rfl, ⟨rfl, ⟨rfl, ⟨rfl, ⟨rfl, ⟨rfl, ⟨rfl, trivial⟩⟩⟩⟩⟩⟩⟩ (k σ1 h)))
theorem zb_Model_goBuild_227 {Γ : zG} {σ : zS} {a1 : Nat} {x2 x4 x5 x7 x8 : Int32} (h_a1 : z_kd a1 = (11, 53)) (k : z_J Γ zm_Model_goBuild 118 [some (.inr (63)), some (.inr (a1)), some (.inl (x2)), none, some (.inl (x4)), some (.inl (x5)), none, some (.inl (x7)), some (.inl (x8 + nI 1)), none, none, none] [] σ) : z_J Γ zm_Model_goBuild 227 [some (.inr (63)), some (.inr (a1)), some (.inl (x2)), none, some (.inl (x4)), some (.inl (x5)), none, some (.inl (x7)), some (.inl (x8)), none, none, none] [] σ := by
  refine zj_iinc (v := nI 1) (L' := [some (.inr (63)), some (.inr (a1)), some (.inl (x2)), none, some (.inl (x4)), some (.inl (x5)), none, some (.inl (x7)), some (.inl (x8 + nI 1)), none, none, none]) zd_Model_goBuild_227 rfl (by decide) (by decide) rfl ?_
  exact zj_goto zd_Model_goBuild_230 (by decide) k
theorem zb_Model_goBuild_233 {Γ : zG} {σ : zS} {a1 : Nat} {x2 x4 x5 x7 : Int32} (h_a1 : z_kd a1 = (11, 53)) (k : z_J Γ zm_Model_goBuild 94 [some (.inr (63)), some (.inr (a1)), some (.inl (x2)), none, some (.inl (x4)), some (.inl (x5)), none, some (.inl (x7 + nI 1)), none, none, none, none] [] σ) : z_J Γ zm_Model_goBuild 233 [some (.inr (63)), some (.inr (a1)), some (.inl (x2)), none, some (.inl (x4)), some (.inl (x5)), none, some (.inl (x7)), none, none, none, none] [] σ := by
  refine zj_iinc (v := nI 1) (L' := [some (.inr (63)), some (.inr (a1)), some (.inl (x2)), none, some (.inl (x4)), some (.inl (x5)), none, some (.inl (x7 + nI 1)), none, none, none, none]) zd_Model_goBuild_233 rfl (by decide) (by decide) rfl ?_
  exact zj_goto zd_Model_goBuild_236 (by decide) k
theorem zb_Model_goBuild_239 {Γ : zG} {σ : zS}  (e : z_end Γ none σ) : z_J Γ zm_Model_goBuild 239 [none, none, none, none, none, none, none, none, none, none, none, none] [] σ := by
  exact zj_return rfl zd_Model_goBuild_239 e
theorem zd_Model_tallest_0 : decode zm_Model_tallest.2.1 0 = .ok (.aload_n 0, 1) := by decide +kernel
theorem zd_Model_tallest_1 : decode zm_Model_tallest.2.1 1 = .ok (.iconst 0, 1) := by decide +kernel
theorem zd_Model_tallest_2 : decode zm_Model_tallest.2.1 2 = .ok (.putfield 91, 3) := by decide +kernel
theorem zd_Model_tallest_5 : decode zm_Model_tallest.2.1 5 = .ok (.aload_n 0, 1) := by decide +kernel
theorem zd_Model_tallest_6 : decode zm_Model_tallest.2.1 6 = .ok (.aload_n 0, 1) := by decide +kernel
theorem zd_Model_tallest_7 : decode zm_Model_tallest.2.1 7 = .ok (.getfield 9, 3) := by decide +kernel
theorem zd_Model_tallest_10 : decode zm_Model_tallest.2.1 10 = .ok (.iconst 0, 1) := by decide +kernel
theorem zd_Model_tallest_11 : decode zm_Model_tallest.2.1 11 = .ok (.invokevirtual 331, 3) := by decide +kernel
theorem zd_Model_tallest_14 : decode zm_Model_tallest.2.1 14 = .ok (.istore_n 1, 1) := by decide +kernel
theorem zd_Model_tallest_15 : decode zm_Model_tallest.2.1 15 = .ok (.iload_n 1, 1) := by decide +kernel
theorem zd_Model_tallest_16 : decode zm_Model_tallest.2.1 16 = .ok (.invokestatic 261, 3) := by decide +kernel
theorem zd_Model_tallest_19 : decode zm_Model_tallest.2.1 19 = .ok (.bipush 6, 2) := by decide +kernel
theorem zd_Model_tallest_21 : decode zm_Model_tallest.2.1 21 = .ok (.if_icmp .le 6, 3) := by decide +kernel
theorem zd_Model_tallest_24 : decode zm_Model_tallest.2.1 24 = .ok (.bipush (-3), 2) := by decide +kernel
theorem zd_Model_tallest_26 : decode zm_Model_tallest.2.1 26 = .ok (.ireturn, 1) := by decide +kernel
theorem zd_Model_tallest_27 : decode zm_Model_tallest.2.1 27 = .ok (.aload_n 0, 1) := by decide +kernel
theorem zd_Model_tallest_28 : decode zm_Model_tallest.2.1 28 = .ok (.getfield 9, 3) := by decide +kernel
theorem zd_Model_tallest_31 : decode zm_Model_tallest.2.1 31 = .ok (.aload_n 0, 1) := by decide +kernel
theorem zd_Model_tallest_32 : decode zm_Model_tallest.2.1 32 = .ok (.getfield 60, 3) := by decide +kernel
theorem zd_Model_tallest_35 : decode zm_Model_tallest.2.1 35 = .ok (.iconst 0, 1) := by decide +kernel
theorem zd_Model_tallest_36 : decode zm_Model_tallest.2.1 36 = .ok (.invokestatic 165, 3) := by decide +kernel
theorem zd_Model_tallest_39 : decode zm_Model_tallest.2.1 39 = .ok (.aload_n 0, 1) := by decide +kernel
theorem zd_Model_tallest_40 : decode zm_Model_tallest.2.1 40 = .ok (.iconst 0, 1) := by decide +kernel
theorem zd_Model_tallest_41 : decode zm_Model_tallest.2.1 41 = .ok (.putfield 341, 3) := by decide +kernel
theorem zd_Model_tallest_44 : decode zm_Model_tallest.2.1 44 = .ok (.aload_n 0, 1) := by decide +kernel
theorem zd_Model_tallest_45 : decode zm_Model_tallest.2.1 45 = .ok (.aload_n 0, 1) := by decide +kernel
theorem zd_Model_tallest_46 : decode zm_Model_tallest.2.1 46 = .ok (.getfield 60, 3) := by decide +kernel
theorem zd_Model_tallest_49 : decode zm_Model_tallest.2.1 49 = .ok (.iload_n 1, 1) := by decide +kernel
theorem zd_Model_tallest_50 : decode zm_Model_tallest.2.1 50 = .ok (.iconst 0, 1) := by decide +kernel
theorem zd_Model_tallest_51 : decode zm_Model_tallest.2.1 51 = .ok (.iconst 0, 1) := by decide +kernel
theorem zd_Model_tallest_52 : decode zm_Model_tallest.2.1 52 = .ok (.iconst (-1), 1) := by decide +kernel
theorem zd_Model_tallest_53 : decode zm_Model_tallest.2.1 53 = .ok (.invokevirtual 347, 3) := by decide +kernel
theorem zd_Model_tallest_56 : decode zm_Model_tallest.2.1 56 = .ok (.bipush 99, 2) := by decide +kernel
theorem zd_Model_tallest_58 : decode zm_Model_tallest.2.1 58 = .ok (.aload_n 0, 1) := by decide +kernel
theorem zd_Model_tallest_59 : decode zm_Model_tallest.2.1 59 = .ok (.getfield 341, 3) := by decide +kernel
theorem zd_Model_tallest_62 : decode zm_Model_tallest.2.1 62 = .ok (.invokestatic 221, 3) := by decide +kernel
theorem zd_Model_tallest_65 : decode zm_Model_tallest.2.1 65 = .ok (.istore_n 2, 1) := by decide +kernel
theorem zd_Model_tallest_66 : decode zm_Model_tallest.2.1 66 = .ok (.aload_n 0, 1) := by decide +kernel
theorem zd_Model_tallest_67 : decode zm_Model_tallest.2.1 67 = .ok (.iload_n 1, 1) := by decide +kernel
theorem zd_Model_tallest_68 : decode zm_Model_tallest.2.1 68 = .ok (.iload_n 2, 1) := by decide +kernel
theorem zd_Model_tallest_69 : decode zm_Model_tallest.2.1 69 = .ok (.invokevirtual 350, 3) := by decide +kernel
theorem zd_Model_tallest_72 : decode zm_Model_tallest.2.1 72 = .ok (.istore_n 3, 1) := by decide +kernel
theorem zd_Model_tallest_73 : decode zm_Model_tallest.2.1 73 = .ok (.aload_n 0, 1) := by decide +kernel
theorem zd_Model_tallest_74 : decode zm_Model_tallest.2.1 74 = .ok (.iconst 0, 1) := by decide +kernel
theorem zd_Model_tallest_75 : decode zm_Model_tallest.2.1 75 = .ok (.putfield 94, 3) := by decide +kernel
theorem zd_Model_tallest_78 : decode zm_Model_tallest.2.1 78 = .ok (.aload_n 0, 1) := by decide +kernel
theorem zd_Model_tallest_79 : decode zm_Model_tallest.2.1 79 = .ok (.iload_n 3, 1) := by decide +kernel
theorem zd_Model_tallest_80 : decode zm_Model_tallest.2.1 80 = .ok (.invokevirtual 312, 3) := by decide +kernel
theorem zd_Model_tallest_83 : decode zm_Model_tallest.2.1 83 = .ok (.iload_n 2, 1) := by decide +kernel
theorem zd_Model_tallest_84 : decode zm_Model_tallest.2.1 84 = .ok (.ireturn, 1) := by decide +kernel
theorem zb_Model_tallest_0 {Γ : zG} {σ : zS} {dc : Nat} {P : Int32 → zS → Prop}  (hm : z_Ci dc zm_Model_whereBits [.inr (63), .inr (64), .inl (nI 0)] (z_pI σ 63 11 (nI 0)) P) (hdp : dc < z_dep Γ) (k : ∀ r σ1, P r σ1 → z_J Γ zm_Model_tallest 14 [some (.inr (63)), none, none, none] [.inl (r)] σ1) : z_J Γ zm_Model_tallest 0 [some (.inr (63)), none, none, none] [] σ := by
  refine zj_aload_n zd_Model_tallest_0 rfl ?_
  refine zj_iconst (v := nI 0) zd_Model_tallest_1 (by decide) ?_
  refine zj_putI rfl (by decide) rfl zu_Model zy_Model_ok zn_Model (k := 11) (by decide) rfl rfl zl_Model_91 rfl rfl zd_Model_tallest_2 ?_
  refine zj_aload_n zd_Model_tallest_5 rfl ?_
  refine zj_aload_n zd_Model_tallest_6 rfl ?_
  refine zj_getR rfl (by decide) rfl zu_Model (k := 0) (by decide) rfl zl_Model_9 zd_Model_tallest_7 (o' := 64) rfl ?_
  refine zj_iconst (v := nI 0) zd_Model_tallest_10 (by decide) ?_
  exact zj_callVi (As := [.inr (64), .inl (nI 0)]) hm hdp rfl (by decide) rfl zl_Model_331 zq_Model_whereBits zd_Model_tallest_11 rfl (Nat.le_of_ble_eq_true rfl) (fun r σ1 h => (k r σ1 h))
theorem zb_Model_tallest_14 {Γ : zG} {σ : zS} {y0 : Int32} (hdp : 0 < z_dep Γ) (kt : (z_bc y0) ≤ (nI 6) → z_J Γ zm_Model_tallest 27 [some (.inr (63)), some (.inl (y0)), none, none] [] σ) (kf : ¬ (z_bc y0) ≤ (nI 6) → z_J Γ zm_Model_tallest 24 [none, none, none, none] [] σ) : z_J Γ zm_Model_tallest 14 [some (.inr (63)), none, none, none] [.inl (y0)] σ := by
  refine zj_istore_n (L' := [some (.inr (63)), some (.inl (y0)), none, none]) zd_Model_tallest_14 (by decide) rfl ?_
  refine zj_iload_n zd_Model_tallest_15 rfl ?_
  refine zj_bitc zl_Model_261 hdp (Nat.le_of_ble_eq_true rfl) zd_Model_tallest_16 ?_
  refine zj_bipush (v := nI 6) zd_Model_tallest_19 (by decide) ?_
  exact zj_icmp_le zd_Model_tallest_21 (by decide) (fun h => (kt h)) (fun h => (zj_weak (L' := [none, none, none, none]) trivial (kf h)))
theorem zb_Model_tallest_24 {Γ : zG} {σ : zS}  (e : z_end Γ (some ((-3))) σ) : z_J Γ zm_Model_tallest 24 [none, none, none, none] [] σ := by
  refine zj_bipush (v := (-3)) zd_Model_tallest_24 (by decide) ?_
  exact zj_ireturn rfl zd_Model_tallest_26 e
theorem zb_Model_tallest_27 {Γ : zG} {σ : zS} {x1 : Int32} {dc : Nat} {P : zS → Prop}  (hm : z_Cv dc zm_Model_lay_1 [.inr (64), .inr (78), .inl (nI 0)] σ P) (hdp : dc < z_dep Γ) (k : ∀ σ1, P σ1 → z_J Γ zm_Model_tallest 39 [some (.inr (63)), some (.inl (x1)), none, none] [] σ1) : z_J Γ zm_Model_tallest 27 [some (.inr (63)), some (.inl (x1)), none, none] [] σ := by
  refine zj_aload_n zd_Model_tallest_27 rfl ?_
  refine zj_getR rfl (by decide) rfl zu_Model (k := 0) (by decide) rfl zl_Model_9 zd_Model_tallest_28 (o' := 64) rfl ?_
  refine zj_aload_n zd_Model_tallest_31 rfl ?_
  refine zj_getR rfl (by decide) rfl zu_Model (k := 29) (by decide) rfl zl_Model_60 zd_Model_tallest_32 (o' := 78) rfl ?_
  refine zj_iconst (v := nI 0) zd_Model_tallest_35 (by decide) ?_
  exact zj_callSv (As := [.inr (64), .inr (78), .inl (nI 0)]) hm hdp zl_Model_165 zq_Model_lay_1 zd_Model_tallest_36 rfl (Nat.le_of_ble_eq_true rfl) (fun σ1 h => (k σ1 h))
theorem zb_Model_tallest_39 {Γ : zG} {σ : zS} {x1 : Int32} {dc : Nat} {P : zS → Prop}  (hm : z_Cv dc zm_Model_goBuild [.inr (63), .inr (78), .inl (x1), .inl (nI 0), .inl (nI 0), .inl ((-1))] (z_pI σ 63 36 (nI 0)) P) (hdp : dc < z_dep Γ) (k : ∀ σ1, P σ1 → z_J Γ zm_Model_tallest 56 [some (.inr (63)), some (.inl (x1)), none, none] [] σ1) : z_J Γ zm_Model_tallest 39 [some (.inr (63)), some (.inl (x1)), none, none] [] σ := by
  refine zj_aload_n zd_Model_tallest_39 rfl ?_
  refine zj_iconst (v := nI 0) zd_Model_tallest_40 (by decide) ?_
  refine zj_putI rfl (by decide) rfl zu_Model zy_Model_ok zn_Model (k := 36) (by decide) rfl rfl zl_Model_341 rfl rfl zd_Model_tallest_41 ?_
  refine zj_aload_n zd_Model_tallest_44 rfl ?_
  refine zj_aload_n zd_Model_tallest_45 rfl ?_
  refine zj_getR rfl (by decide) rfl zu_Model (k := 29) (by decide) rfl zl_Model_60 zd_Model_tallest_46 (o' := 78) rfl ?_
  refine zj_iload_n zd_Model_tallest_49 rfl ?_
  refine zj_iconst (v := nI 0) zd_Model_tallest_50 (by decide) ?_
  refine zj_iconst (v := nI 0) zd_Model_tallest_51 (by decide) ?_
  refine zj_iconst (v := (-1)) zd_Model_tallest_52 (by decide) ?_
  exact zj_callVv (As := [.inr (78), .inl (x1), .inl (nI 0), .inl (nI 0), .inl ((-1))]) hm hdp rfl (by decide) rfl zl_Model_347 zq_Model_goBuild zd_Model_tallest_53 rfl (Nat.le_of_ble_eq_true rfl) (fun σ1 h => (k σ1 h))
theorem zb_Model_tallest_56 {Γ : zG} {σ : zS} {x1 : Int32} {dc : Nat} {P : Int32 → zS → Prop}  (hm : z_Ci dc zm_Model_tellBuild [.inr (63), .inl (x1), .inl (z_min (nI 99) (σ.1 63 36))] σ P) (hdp : dc < z_dep Γ) (k : ∀ r σ1, P r σ1 → z_J Γ zm_Model_tallest 72 [some (.inr (63)), none, some (.inl (z_min (nI 99) (σ.1 63 36))), none] [.inl (r)] σ1) : z_J Γ zm_Model_tallest 56 [some (.inr (63)), some (.inl (x1)), none, none] [] σ := by
  refine zj_bipush (v := nI 99) zd_Model_tallest_56 (by decide) ?_
  refine zj_aload_n zd_Model_tallest_58 rfl ?_
  refine zj_getI rfl (by decide) rfl zu_Model (k := 36) (by decide) rfl zl_Model_341 zd_Model_tallest_59 ?_
  refine zj_mmin zl_Model_221 zx_min_s zx_Math zx_min_c (Nat.lt_of_le_of_lt (Nat.zero_le _) hdp) (Nat.le_of_ble_eq_true rfl) zd_Model_tallest_62 ?_
  refine zj_istore_n (L' := [some (.inr (63)), some (.inl (x1)), some (.inl (z_min (nI 99) (σ.1 63 36))), none]) zd_Model_tallest_65 (by decide) rfl ?_
  refine zj_aload_n zd_Model_tallest_66 rfl ?_
  refine zj_iload_n zd_Model_tallest_67 rfl ?_
  refine zj_iload_n zd_Model_tallest_68 rfl ?_
  exact zj_callVi (As := [.inl (x1), .inl (z_min (nI 99) (σ.1 63 36))]) hm hdp rfl (by decide) rfl zl_Model_350 zq_Model_tellBuild zd_Model_tallest_69 rfl (Nat.le_of_ble_eq_true rfl) (fun r σ1 h => (zj_weak (L' := [some (.inr (63)), none, some (.inl (z_min (nI 99) (σ.1 63 36))), none]) ⟨rfl, ⟨rfl, trivial⟩⟩ (k r σ1 h)))
theorem zb_Model_tallest_72 {Γ : zG} {σ : zS} {x2 y0 : Int32} {dc : Nat} {P : zS → Prop}  (hm : z_Cv dc zm_Model_tell [.inr (63), .inl (y0)] (z_pI σ 63 10 (nI 0)) P) (hdp : dc < z_dep Γ) (k : ∀ σ1, P σ1 → z_J Γ zm_Model_tallest 83 [none, none, some (.inl (x2)), none] [] σ1) : z_J Γ zm_Model_tallest 72 [some (.inr (63)), none, some (.inl (x2)), none] [.inl (y0)] σ := by
  refine zj_istore_n (L' := [some (.inr (63)), none, some (.inl (x2)), some (.inl (y0))]) zd_Model_tallest_72 (by decide) rfl ?_
  refine zj_aload_n zd_Model_tallest_73 rfl ?_
  refine zj_iconst (v := nI 0) zd_Model_tallest_74 (by decide) ?_
  refine zj_putI rfl (by decide) rfl zu_Model zy_Model_ok zn_Model (k := 10) (by decide) rfl rfl zl_Model_94 rfl rfl zd_Model_tallest_75 ?_
  refine zj_aload_n zd_Model_tallest_78 rfl ?_
  refine zj_iload_n zd_Model_tallest_79 rfl ?_
  exact zj_callVv (As := [.inl (y0)]) hm hdp rfl (by decide) rfl zl_Model_312 zq_Model_tell zd_Model_tallest_80 rfl (Nat.le_of_ble_eq_true rfl) (fun σ1 h => (zj_weak (L' := [none, none, some (.inl (x2)), none]) ⟨rfl, trivial⟩ (k σ1 h)))
theorem zb_Model_tallest_83 {Γ : zG} {σ : zS} {x2 : Int32}  (e : z_end Γ (some (x2)) σ) : z_J Γ zm_Model_tallest 83 [none, none, some (.inl (x2)), none] [] σ := by
  refine zj_iload_n zd_Model_tallest_83 rfl ?_
  exact zj_ireturn rfl zd_Model_tallest_84 e
theorem zd_Model_calls_0 : decode zm_Model_calls.2.1 0 = .ok (.aload_n 0, 1) := by decide +kernel
theorem zd_Model_calls_1 : decode zm_Model_calls.2.1 1 = .ok (.iconst 0, 1) := by decide +kernel
theorem zd_Model_calls_2 : decode zm_Model_calls.2.1 2 = .ok (.putfield 91, 3) := by decide +kernel
theorem zd_Model_calls_5 : decode zm_Model_calls.2.1 5 = .ok (.aload_n 0, 1) := by decide +kernel
theorem zd_Model_calls_6 : decode zm_Model_calls.2.1 6 = .ok (.aload_n 0, 1) := by decide +kernel
theorem zd_Model_calls_7 : decode zm_Model_calls.2.1 7 = .ok (.aload_n 0, 1) := by decide +kernel
theorem zd_Model_calls_8 : decode zm_Model_calls.2.1 8 = .ok (.getfield 9, 3) := by decide +kernel
theorem zd_Model_calls_11 : decode zm_Model_calls.2.1 11 = .ok (.iconst 2, 1) := by decide +kernel
theorem zd_Model_calls_12 : decode zm_Model_calls.2.1 12 = .ok (.invokevirtual 331, 3) := by decide +kernel
theorem zd_Model_calls_15 : decode zm_Model_calls.2.1 15 = .ok (.iload_n 1, 1) := by decide +kernel
theorem zd_Model_calls_16 : decode zm_Model_calls.2.1 16 = .ok (.invokevirtual 353, 3) := by decide +kernel
theorem zd_Model_calls_19 : decode zm_Model_calls.2.1 19 = .ok (.ireturn, 1) := by decide +kernel
theorem zb_Model_calls_0 {Γ : zG} {σ : zS} {x1 : Int32} {dc : Nat} {P : Int32 → zS → Prop}  (hm : z_Ci dc zm_Model_whereBits [.inr (63), .inr (64), .inl (nI 2)] (z_pI σ 63 11 (nI 0)) P) (hdp : dc < z_dep Γ) (k : ∀ r σ1, P r σ1 → z_J Γ zm_Model_calls 15 [none, some (.inl (x1))] [.inl (r), .inr (63)] σ1) : z_J Γ zm_Model_calls 0 [some (.inr (63)), some (.inl (x1))] [] σ := by
  refine zj_aload_n zd_Model_calls_0 rfl ?_
  refine zj_iconst (v := nI 0) zd_Model_calls_1 (by decide) ?_
  refine zj_putI rfl (by decide) rfl zu_Model zy_Model_ok zn_Model (k := 11) (by decide) rfl rfl zl_Model_91 rfl rfl zd_Model_calls_2 ?_
  refine zj_aload_n zd_Model_calls_5 rfl ?_
  refine zj_aload_n zd_Model_calls_6 rfl ?_
  refine zj_aload_n zd_Model_calls_7 rfl ?_
  refine zj_getR rfl (by decide) rfl zu_Model (k := 0) (by decide) rfl zl_Model_9 zd_Model_calls_8 (o' := 64) rfl ?_
  refine zj_iconst (v := nI 2) zd_Model_calls_11 (by decide) ?_
  exact zj_callVi (As := [.inr (64), .inl (nI 2)]) hm hdp rfl (by decide) rfl zl_Model_331 zq_Model_whereBits zd_Model_calls_12 rfl (Nat.le_of_ble_eq_true rfl) (fun r σ1 h => (zj_weak (L' := [none, some (.inl (x1))]) ⟨rfl, trivial⟩ (k r σ1 h)))
theorem zb_Model_calls_15 {Γ : zG} {σ : zS} {x1 y0 : Int32} {dc : Nat} {P : Int32 → zS → Prop}  (hm : z_Ci dc zm_Model_builds [.inr (63), .inl (y0), .inl (x1)] σ P) (hdp : dc < z_dep Γ) (k : ∀ r σ1, P r σ1 → z_J Γ zm_Model_calls 19 [none, none] [.inl (r)] σ1) : z_J Γ zm_Model_calls 15 [none, some (.inl (x1))] [.inl (y0), .inr (63)] σ := by
  refine zj_iload_n zd_Model_calls_15 rfl ?_
  exact zj_callVi (As := [.inl (y0), .inl (x1)]) hm hdp rfl (by decide) rfl zl_Model_353 zq_Model_builds zd_Model_calls_16 rfl (Nat.le_of_ble_eq_true rfl) (fun r σ1 h => (zj_weak (L' := [none, none]) trivial (k r σ1 h)))
theorem zb_Model_calls_19 {Γ : zG} {σ : zS} {y0 : Int32}  (e : z_end Γ (some (y0)) σ) : z_J Γ zm_Model_calls 19 [none, none] [.inl (y0)] σ := by
  exact zj_ireturn rfl zd_Model_calls_19 e
theorem zd_Model_stack_0 : decode zm_Model_stack.2.1 0 = .ok (.aload_n 0, 1) := by decide +kernel
theorem zd_Model_stack_1 : decode zm_Model_stack.2.1 1 = .ok (.iconst 0, 1) := by decide +kernel
theorem zd_Model_stack_2 : decode zm_Model_stack.2.1 2 = .ok (.putfield 91, 3) := by decide +kernel
theorem zd_Model_stack_5 : decode zm_Model_stack.2.1 5 = .ok (.iload_n 1, 1) := by decide +kernel
theorem zd_Model_stack_6 : decode zm_Model_stack.2.1 6 = .ok (.iconst 0, 1) := by decide +kernel
theorem zd_Model_stack_7 : decode zm_Model_stack.2.1 7 = .ok (.iconst 1, 1) := by decide +kernel
theorem zd_Model_stack_8 : decode zm_Model_stack.2.1 8 = .ok (.aload_n 0, 1) := by decide +kernel
theorem zd_Model_stack_9 : decode zm_Model_stack.2.1 9 = .ok (.getfield 97, 3) := by decide +kernel
theorem zd_Model_stack_12 : decode zm_Model_stack.2.1 12 = .ok (.ishl, 1) := by decide +kernel
theorem zd_Model_stack_13 : decode zm_Model_stack.2.1 13 = .ok (.iconst 1, 1) := by decide +kernel
theorem zd_Model_stack_14 : decode zm_Model_stack.2.1 14 = .ok (.isub, 1) := by decide +kernel
theorem zd_Model_stack_15 : decode zm_Model_stack.2.1 15 = .ok (.invokestatic 100, 3) := by decide +kernel
theorem zd_Model_stack_18 : decode zm_Model_stack.2.1 18 = .ok (.ifCond .eq 11, 3) := by decide +kernel
theorem zd_Model_stack_21 : decode zm_Model_stack.2.1 21 = .ok (.aload_n 0, 1) := by decide +kernel
theorem zd_Model_stack_22 : decode zm_Model_stack.2.1 22 = .ok (.iload_n 2, 1) := by decide +kernel
theorem zd_Model_stack_23 : decode zm_Model_stack.2.1 23 = .ok (.invokevirtual 266, 3) := by decide +kernel
theorem zd_Model_stack_26 : decode zm_Model_stack.2.1 26 = .ok (.ifCond .ne 5, 3) := by decide +kernel
theorem zd_Model_stack_29 : decode zm_Model_stack.2.1 29 = .ok (.iconst (-1), 1) := by decide +kernel
theorem zd_Model_stack_30 : decode zm_Model_stack.2.1 30 = .ok (.ireturn, 1) := by decide +kernel
theorem zd_Model_stack_31 : decode zm_Model_stack.2.1 31 = .ok (.iload_n 1, 1) := by decide +kernel
theorem zd_Model_stack_32 : decode zm_Model_stack.2.1 32 = .ok (.invokestatic 261, 3) := by decide +kernel
theorem zd_Model_stack_35 : decode zm_Model_stack.2.1 35 = .ok (.istore_n 3, 1) := by decide +kernel
theorem zd_Model_stack_36 : decode zm_Model_stack.2.1 36 = .ok (.iload_n 3, 1) := by decide +kernel
theorem zd_Model_stack_37 : decode zm_Model_stack.2.1 37 = .ok (.iconst 1, 1) := by decide +kernel
theorem zd_Model_stack_38 : decode zm_Model_stack.2.1 38 = .ok (.iconst 4, 1) := by decide +kernel
theorem zd_Model_stack_39 : decode zm_Model_stack.2.1 39 = .ok (.invokestatic 100, 3) := by decide +kernel
theorem zd_Model_stack_42 : decode zm_Model_stack.2.1 42 = .ok (.ifCond .ne 6, 3) := by decide +kernel
theorem zd_Model_stack_45 : decode zm_Model_stack.2.1 45 = .ok (.bipush (-2), 2) := by decide +kernel
theorem zd_Model_stack_47 : decode zm_Model_stack.2.1 47 = .ok (.ireturn, 1) := by decide +kernel
theorem zd_Model_stack_48 : decode zm_Model_stack.2.1 48 = .ok (.aload_n 0, 1) := by decide +kernel
theorem zd_Model_stack_49 : decode zm_Model_stack.2.1 49 = .ok (.iconst 0, 1) := by decide +kernel
theorem zd_Model_stack_50 : decode zm_Model_stack.2.1 50 = .ok (.putfield 356, 3) := by decide +kernel
theorem zd_Model_stack_53 : decode zm_Model_stack.2.1 53 = .ok (.aload_n 0, 1) := by decide +kernel
theorem zd_Model_stack_54 : decode zm_Model_stack.2.1 54 = .ok (.iload_n 1, 1) := by decide +kernel
theorem zd_Model_stack_55 : decode zm_Model_stack.2.1 55 = .ok (.iload_n 2, 1) := by decide +kernel
theorem zd_Model_stack_56 : decode zm_Model_stack.2.1 56 = .ok (.iconst 0, 1) := by decide +kernel
theorem zd_Model_stack_57 : decode zm_Model_stack.2.1 57 = .ok (.invokevirtual 359, 3) := by decide +kernel
theorem zd_Model_stack_60 : decode zm_Model_stack.2.1 60 = .ok (.aload_n 0, 1) := by decide +kernel
theorem zd_Model_stack_61 : decode zm_Model_stack.2.1 61 = .ok (.iconst 0, 1) := by decide +kernel
theorem zd_Model_stack_62 : decode zm_Model_stack.2.1 62 = .ok (.putfield 94, 3) := by decide +kernel
theorem zd_Model_stack_65 : decode zm_Model_stack.2.1 65 = .ok (.iconst 0, 1) := by decide +kernel
theorem zd_Model_stack_66 : decode zm_Model_stack.2.1 66 = .ok (.istore 4, 2) := by decide +kernel
theorem zd_Model_stack_68 : decode zm_Model_stack.2.1 68 = .ok (.iload 4, 2) := by decide +kernel
theorem zd_Model_stack_70 : decode zm_Model_stack.2.1 70 = .ok (.iload_n 3, 1) := by decide +kernel
theorem zd_Model_stack_71 : decode zm_Model_stack.2.1 71 = .ok (.if_icmp .ge 27, 3) := by decide +kernel
theorem zd_Model_stack_74 : decode zm_Model_stack.2.1 74 = .ok (.aload_n 0, 1) := by decide +kernel
theorem zd_Model_stack_75 : decode zm_Model_stack.2.1 75 = .ok (.getfield 356, 3) := by decide +kernel
theorem zd_Model_stack_78 : decode zm_Model_stack.2.1 78 = .ok (.ifCond .le 20, 3) := by decide +kernel
theorem zd_Model_stack_81 : decode zm_Model_stack.2.1 81 = .ok (.aload_n 0, 1) := by decide +kernel
theorem zd_Model_stack_82 : decode zm_Model_stack.2.1 82 = .ok (.aload_n 0, 1) := by decide +kernel
theorem zd_Model_stack_83 : decode zm_Model_stack.2.1 83 = .ok (.getfield 72, 3) := by decide +kernel
theorem zd_Model_stack_86 : decode zm_Model_stack.2.1 86 = .ok (.iload 4, 2) := by decide +kernel
theorem zd_Model_stack_88 : decode zm_Model_stack.2.1 88 = .ok (.iaload, 1) := by decide +kernel
theorem zd_Model_stack_89 : decode zm_Model_stack.2.1 89 = .ok (.invokevirtual 312, 3) := by decide +kernel
theorem zd_Model_stack_92 : decode zm_Model_stack.2.1 92 = .ok (.iinc 4 1, 3) := by decide +kernel
theorem zd_Model_stack_95 : decode zm_Model_stack.2.1 95 = .ok (.goto (-27), 3) := by decide +kernel
theorem zd_Model_stack_98 : decode zm_Model_stack.2.1 98 = .ok (.aload_n 0, 1) := by decide +kernel
theorem zd_Model_stack_99 : decode zm_Model_stack.2.1 99 = .ok (.getfield 356, 3) := by decide +kernel
theorem zd_Model_stack_102 : decode zm_Model_stack.2.1 102 = .ok (.ireturn, 1) := by decide +kernel
theorem zb_Model_stack_0 {Γ : zG} {σ : zS} {x1 x2 : Int32} {dc : Nat} {P : Int32 → zS → Prop}  (hm : z_Ci dc zm_Model_in [.inl (x1), .inl (nI 0), .inl (((nI 1) <<< (((z_pI σ 63 11 (nI 0)).1 63 1) &&& 31)) - (nI 1))] (z_pI σ 63 11 (nI 0)) P) (hdp : dc < z_dep Γ) (k : ∀ r σ1, P r σ1 → z_J Γ zm_Model_stack 18 [some (.inr (63)), some (.inl (x1)), some (.inl (x2)), none, none] [.inl (r)] σ1) : z_J Γ zm_Model_stack 0 [some (.inr (63)), some (.inl (x1)), some (.inl (x2)), none, none] [] σ := by
  refine zj_aload_n zd_Model_stack_0 rfl ?_
  refine zj_iconst (v := nI 0) zd_Model_stack_1 (by decide) ?_
  refine zj_putI rfl (by decide) rfl zu_Model zy_Model_ok zn_Model (k := 11) (by decide) rfl rfl zl_Model_91 rfl rfl zd_Model_stack_2 ?_
  refine zj_iload_n zd_Model_stack_5 rfl ?_
  refine zj_iconst (v := nI 0) zd_Model_stack_6 (by decide) ?_
  refine zj_iconst (v := nI 1) zd_Model_stack_7 (by decide) ?_
  refine zj_aload_n zd_Model_stack_8 rfl ?_
  refine zj_getI rfl (by decide) rfl zu_Model (k := 1) (by decide) rfl zl_Model_97 zd_Model_stack_9 ?_
  refine zj_ishl zd_Model_stack_12 ?_
  refine zj_iconst (v := nI 1) zd_Model_stack_13 (by decide) ?_
  refine zj_isub zd_Model_stack_14 ?_
  exact zj_callSi (As := [.inl (x1), .inl (nI 0), .inl (((nI 1) <<< (((z_pI σ 63 11 (nI 0)).1 63 1) &&& 31)) - (nI 1))]) hm hdp zl_Model_100 zq_Model_in zd_Model_stack_15 rfl (Nat.le_of_ble_eq_true rfl) (fun r σ1 h => (k r σ1 h))
theorem zb_Model_stack_18 {Γ : zG} {σ : zS} {x1 x2 y0 : Int32}  (kt : y0 = 0 → z_J Γ zm_Model_stack 29 [none, none, none, none, none] [] σ) (kf : ¬ y0 = 0 → z_J Γ zm_Model_stack 21 [some (.inr (63)), some (.inl (x1)), some (.inl (x2)), none, none] [] σ) : z_J Γ zm_Model_stack 18 [some (.inr (63)), some (.inl (x1)), some (.inl (x2)), none, none] [.inl (y0)] σ := by
  exact zj_if_eq zd_Model_stack_18 (by decide) (fun h => (zj_weak (L' := [none, none, none, none, none]) trivial (kt h))) (fun h => (kf h))
theorem zb_Model_stack_21 {Γ : zG} {σ : zS} {x1 x2 : Int32} {dc : Nat} {P : Int32 → zS → Prop}  (hm : z_Ci dc zm_Model_isColumn [.inr (63), .inl (x2)] σ P) (hdp : dc < z_dep Γ) (k : ∀ r σ1, P r σ1 → z_J Γ zm_Model_stack 26 [some (.inr (63)), some (.inl (x1)), some (.inl (x2)), none, none] [.inl (r)] σ1) : z_J Γ zm_Model_stack 21 [some (.inr (63)), some (.inl (x1)), some (.inl (x2)), none, none] [] σ := by
  refine zj_aload_n zd_Model_stack_21 rfl ?_
  refine zj_iload_n zd_Model_stack_22 rfl ?_
  exact zj_callVi (As := [.inl (x2)]) hm hdp rfl (by decide) rfl zl_Model_266 zq_Model_isColumn zd_Model_stack_23 rfl (Nat.le_of_ble_eq_true rfl) (fun r σ1 h => (k r σ1 h))
theorem zb_Model_stack_26 {Γ : zG} {σ : zS} {x1 x2 y0 : Int32}  (kt : ¬ y0 = 0 → z_J Γ zm_Model_stack 31 [some (.inr (63)), some (.inl (x1)), some (.inl (x2)), none, none] [] σ) (kf : y0 = 0 → z_J Γ zm_Model_stack 29 [none, none, none, none, none] [] σ) : z_J Γ zm_Model_stack 26 [some (.inr (63)), some (.inl (x1)), some (.inl (x2)), none, none] [.inl (y0)] σ := by
  exact zj_if_ne zd_Model_stack_26 (by decide) (fun h => (kt h)) (fun h => (zj_weak (L' := [none, none, none, none, none]) trivial (kf h)))
theorem zb_Model_stack_29 {Γ : zG} {σ : zS}  (e : z_end Γ (some ((-1))) σ) : z_J Γ zm_Model_stack 29 [none, none, none, none, none] [] σ := by
  refine zj_iconst (v := (-1)) zd_Model_stack_29 (by decide) ?_
  exact zj_ireturn rfl zd_Model_stack_30 e
theorem zb_Model_stack_31 {Γ : zG} {σ : zS} {x1 x2 : Int32} {dc : Nat} {P : Int32 → zS → Prop}  (hm : z_Ci dc zm_Model_in [.inl (z_bc x1), .inl (nI 1), .inl (nI 4)] σ P) (hdp : dc < z_dep Γ) (k : ∀ r σ1, P r σ1 → z_J Γ zm_Model_stack 42 [some (.inr (63)), some (.inl (x1)), some (.inl (x2)), some (.inl (z_bc x1)), none] [.inl (r)] σ1) : z_J Γ zm_Model_stack 31 [some (.inr (63)), some (.inl (x1)), some (.inl (x2)), none, none] [] σ := by
  refine zj_iload_n zd_Model_stack_31 rfl ?_
  refine zj_bitc zl_Model_261 (Nat.lt_of_le_of_lt (Nat.zero_le _) hdp) (Nat.le_of_ble_eq_true rfl) zd_Model_stack_32 ?_
  refine zj_istore_n (L' := [some (.inr (63)), some (.inl (x1)), some (.inl (x2)), some (.inl (z_bc x1)), none]) zd_Model_stack_35 (by decide) rfl ?_
  refine zj_iload_n zd_Model_stack_36 rfl ?_
  refine zj_iconst (v := nI 1) zd_Model_stack_37 (by decide) ?_
  refine zj_iconst (v := nI 4) zd_Model_stack_38 (by decide) ?_
  exact zj_callSi (As := [.inl (z_bc x1), .inl (nI 1), .inl (nI 4)]) hm hdp zl_Model_100 zq_Model_in zd_Model_stack_39 rfl (Nat.le_of_ble_eq_true rfl) (fun r σ1 h => (k r σ1 h))
theorem zb_Model_stack_42 {Γ : zG} {σ : zS} {x1 x2 x3 y0 : Int32}  (kt : ¬ y0 = 0 → z_J Γ zm_Model_stack 48 [some (.inr (63)), some (.inl (x1)), some (.inl (x2)), some (.inl (x3)), none] [] σ) (kf : y0 = 0 → z_J Γ zm_Model_stack 45 [none, none, none, none, none] [] σ) : z_J Γ zm_Model_stack 42 [some (.inr (63)), some (.inl (x1)), some (.inl (x2)), some (.inl (x3)), none] [.inl (y0)] σ := by
  exact zj_if_ne zd_Model_stack_42 (by decide) (fun h => (kt h)) (fun h => (zj_weak (L' := [none, none, none, none, none]) trivial (kf h)))
theorem zb_Model_stack_45 {Γ : zG} {σ : zS}  (e : z_end Γ (some ((-2))) σ) : z_J Γ zm_Model_stack 45 [none, none, none, none, none] [] σ := by
  refine zj_bipush (v := (-2)) zd_Model_stack_45 (by decide) ?_
  exact zj_ireturn rfl zd_Model_stack_47 e
theorem zb_Model_stack_48 {Γ : zG} {σ : zS} {x1 x2 x3 : Int32} {dc : Nat} {P : zS → Prop}  (hm : z_Cv dc zm_Model_goStack [.inr (63), .inl (x1), .inl (x2), .inl (nI 0)] (z_pI σ 63 38 (nI 0)) P) (hdp : dc < z_dep Γ) (k : ∀ σ1, P σ1 → z_J Γ zm_Model_stack 60 [some (.inr (63)), none, none, some (.inl (x3)), none] [] σ1) : z_J Γ zm_Model_stack 48 [some (.inr (63)), some (.inl (x1)), some (.inl (x2)), some (.inl (x3)), none] [] σ := by
  refine zj_aload_n zd_Model_stack_48 rfl ?_
  refine zj_iconst (v := nI 0) zd_Model_stack_49 (by decide) ?_
  refine zj_putI rfl (by decide) rfl zu_Model zy_Model_ok zn_Model (k := 38) (by decide) rfl rfl zl_Model_356 rfl rfl zd_Model_stack_50 ?_
  refine zj_aload_n zd_Model_stack_53 rfl ?_
  refine zj_iload_n zd_Model_stack_54 rfl ?_
  refine zj_iload_n zd_Model_stack_55 rfl ?_
  refine zj_iconst (v := nI 0) zd_Model_stack_56 (by decide) ?_
  exact zj_callVv (As := [.inl (x1), .inl (x2), .inl (nI 0)]) hm hdp rfl (by decide) rfl zl_Model_359 zq_Model_goStack zd_Model_stack_57 rfl (Nat.le_of_ble_eq_true rfl) (fun σ1 h => (zj_weak (L' := [some (.inr (63)), none, none, some (.inl (x3)), none]) ⟨rfl, ⟨rfl, trivial⟩⟩ (k σ1 h)))
theorem zb_Model_stack_60 {Γ : zG} {σ : zS} {x3 : Int32}  (k : z_J Γ zm_Model_stack 68 [some (.inr (63)), none, none, some (.inl (x3)), some (.inl (nI 0))] [] (z_pI σ 63 10 (nI 0))) : z_J Γ zm_Model_stack 60 [some (.inr (63)), none, none, some (.inl (x3)), none] [] σ := by
  refine zj_aload_n zd_Model_stack_60 rfl ?_
  refine zj_iconst (v := nI 0) zd_Model_stack_61 (by decide) ?_
  refine zj_putI rfl (by decide) rfl zu_Model zy_Model_ok zn_Model (k := 10) (by decide) rfl rfl zl_Model_94 rfl rfl zd_Model_stack_62 ?_
  refine zj_iconst (v := nI 0) zd_Model_stack_65 (by decide) ?_
  refine zj_istore (L' := [some (.inr (63)), none, none, some (.inl (x3)), some (.inl (nI 0))]) zd_Model_stack_66 (by decide) rfl ?_
  exact k
theorem zb_Model_stack_68 {Γ : zG} {σ : zS} {x3 x4 : Int32}  (kt : x3 ≤ x4 → z_J Γ zm_Model_stack 98 [some (.inr (63)), none, none, none, none] [] σ) (kf : ¬ x3 ≤ x4 → z_J Γ zm_Model_stack 74 [some (.inr (63)), none, none, some (.inl (x3)), some (.inl (x4))] [] σ) : z_J Γ zm_Model_stack 68 [some (.inr (63)), none, none, some (.inl (x3)), some (.inl (x4))] [] σ := by
  refine zj_iload zd_Model_stack_68 rfl ?_
  refine zj_iload_n zd_Model_stack_70 rfl ?_
  exact zj_icmp_ge zd_Model_stack_71 (by decide) (fun h => (zj_weak (L' := [some (.inr (63)), none, none, none, none]) ⟨rfl, trivial⟩ (kt h))) (fun h => (kf h))
theorem zb_Model_stack_74 {Γ : zG} {σ : zS} {x3 x4 : Int32}  (kt : (σ.1 63 38) ≤ 0 → z_J Γ zm_Model_stack 98 [some (.inr (63)), none, none, none, none] [] σ) (kf : ¬ (σ.1 63 38) ≤ 0 → z_J Γ zm_Model_stack 81 [some (.inr (63)), none, none, some (.inl (x3)), some (.inl (x4))] [] σ) : z_J Γ zm_Model_stack 74 [some (.inr (63)), none, none, some (.inl (x3)), some (.inl (x4))] [] σ := by
  refine zj_aload_n zd_Model_stack_74 rfl ?_
  refine zj_getI rfl (by decide) rfl zu_Model (k := 38) (by decide) rfl zl_Model_356 zd_Model_stack_75 ?_
  exact zj_if_le zd_Model_stack_78 (by decide) (fun h => (zj_weak (L' := [some (.inr (63)), none, none, none, none]) ⟨rfl, trivial⟩ (kt h))) (fun h => (kf h))
theorem zb_Model_stack_81 {Γ : zG} {σ : zS} {x3 x4 : Int32} {k1 : Nat} {dc : Nat} {P : zS → Prop}  (b1 : z_ix x4 4 k1) (hm : z_Cv dc zm_Model_tell [.inr (63), .inl (σ.1 82 k1)] σ P) (hdp : dc < z_dep Γ) (k : ∀ σ1, P σ1 → z_J Γ zm_Model_stack 92 [some (.inr (63)), none, none, some (.inl (x3)), some (.inl (x4))] [] σ1) : z_J Γ zm_Model_stack 81 [some (.inr (63)), none, none, some (.inl (x3)), some (.inl (x4))] [] σ := by
  refine zj_aload_n zd_Model_stack_81 rfl ?_
  refine zj_aload_n zd_Model_stack_82 rfl ?_
  refine zj_getR rfl (by decide) rfl zu_Model (k := 37) (by decide) rfl zl_Model_72 zd_Model_stack_83 (o' := 82) rfl ?_
  refine zj_iload zd_Model_stack_86 rfl ?_
  refine zj_iaload rfl (by decide) b1 zd_Model_stack_88 ?_
  exact zj_callVv (As := [.inl (σ.1 82 k1)]) hm hdp rfl (by decide) rfl zl_Model_312 zq_Model_tell zd_Model_stack_89 rfl (Nat.le_of_ble_eq_true rfl) (fun σ1 h => (k σ1 h))
theorem zb_Model_stack_92 {Γ : zG} {σ : zS} {x3 x4 : Int32}  (k : z_J Γ zm_Model_stack 68 [some (.inr (63)), none, none, some (.inl (x3)), some (.inl (x4 + nI 1))] [] σ) : z_J Γ zm_Model_stack 92 [some (.inr (63)), none, none, some (.inl (x3)), some (.inl (x4))] [] σ := by
  refine zj_iinc (v := nI 1) (L' := [some (.inr (63)), none, none, some (.inl (x3)), some (.inl (x4 + nI 1))]) zd_Model_stack_92 rfl (by decide) (by decide) rfl ?_
  exact zj_goto zd_Model_stack_95 (by decide) k
theorem zb_Model_stack_98 {Γ : zG} {σ : zS}  (e : z_end Γ (some (σ.1 63 38)) σ) : z_J Γ zm_Model_stack 98 [some (.inr (63)), none, none, none, none] [] σ := by
  refine zj_aload_n zd_Model_stack_98 rfl ?_
  refine zj_getI rfl (by decide) rfl zu_Model (k := 38) (by decide) rfl zl_Model_356 zd_Model_stack_99 ?_
  exact zj_ireturn rfl zd_Model_stack_102 e
theorem zd_Model_goStack_0 : decode zm_Model_goStack.2.1 0 = .ok (.iload_n 1, 1) := by decide +kernel
theorem zd_Model_goStack_1 : decode zm_Model_goStack.2.1 1 = .ok (.ifCond .ne 67, 3) := by decide +kernel
theorem zd_Model_goStack_4 : decode zm_Model_goStack.2.1 4 = .ok (.aload_n 0, 1) := by decide +kernel
theorem zd_Model_goStack_5 : decode zm_Model_goStack.2.1 5 = .ok (.iload_n 2, 1) := by decide +kernel
theorem zd_Model_goStack_6 : decode zm_Model_goStack.2.1 6 = .ok (.iload_n 3, 1) := by decide +kernel
theorem zd_Model_goStack_7 : decode zm_Model_goStack.2.1 7 = .ok (.aload_n 0, 1) := by decide +kernel
theorem zd_Model_goStack_8 : decode zm_Model_goStack.2.1 8 = .ok (.getfield 9, 3) := by decide +kernel
theorem zd_Model_goStack_11 : decode zm_Model_goStack.2.1 11 = .ok (.bipush 48, 2) := by decide +kernel
theorem zd_Model_goStack_13 : decode zm_Model_goStack.2.1 13 = .ok (.iaload, 1) := by decide +kernel
theorem zd_Model_goStack_14 : decode zm_Model_goStack.2.1 14 = .ok (.invokevirtual 240, 3) := by decide +kernel
theorem zd_Model_goStack_17 : decode zm_Model_goStack.2.1 17 = .ok (.ifCond .ne 4, 3) := by decide +kernel
theorem zd_Model_goStack_20 : decode zm_Model_goStack.2.1 20 = .ok (.return_, 1) := by decide +kernel
theorem zd_Model_goStack_21 : decode zm_Model_goStack.2.1 21 = .ok (.iconst 0, 1) := by decide +kernel
theorem zd_Model_goStack_22 : decode zm_Model_goStack.2.1 22 = .ok (.istore 4, 2) := by decide +kernel
theorem zd_Model_goStack_24 : decode zm_Model_goStack.2.1 24 = .ok (.iload 4, 2) := by decide +kernel
theorem zd_Model_goStack_26 : decode zm_Model_goStack.2.1 26 = .ok (.iload_n 3, 1) := by decide +kernel
theorem zd_Model_goStack_27 : decode zm_Model_goStack.2.1 27 = .ok (.if_icmp .ge 30, 3) := by decide +kernel
theorem zd_Model_goStack_30 : decode zm_Model_goStack.2.1 30 = .ok (.aload_n 0, 1) := by decide +kernel
theorem zd_Model_goStack_31 : decode zm_Model_goStack.2.1 31 = .ok (.getfield 356, 3) := by decide +kernel
theorem zd_Model_goStack_34 : decode zm_Model_goStack.2.1 34 = .ok (.ifCond .ne 23, 3) := by decide +kernel
theorem zd_Model_goStack_37 : decode zm_Model_goStack.2.1 37 = .ok (.aload_n 0, 1) := by decide +kernel
theorem zd_Model_goStack_38 : decode zm_Model_goStack.2.1 38 = .ok (.getfield 72, 3) := by decide +kernel
theorem zd_Model_goStack_41 : decode zm_Model_goStack.2.1 41 = .ok (.iload 4, 2) := by decide +kernel
theorem zd_Model_goStack_43 : decode zm_Model_goStack.2.1 43 = .ok (.aload_n 0, 1) := by decide +kernel
theorem zd_Model_goStack_44 : decode zm_Model_goStack.2.1 44 = .ok (.getfield 51, 3) := by decide +kernel
theorem zd_Model_goStack_47 : decode zm_Model_goStack.2.1 47 = .ok (.iload 4, 2) := by decide +kernel
theorem zd_Model_goStack_49 : decode zm_Model_goStack.2.1 49 = .ok (.iaload, 1) := by decide +kernel
theorem zd_Model_goStack_50 : decode zm_Model_goStack.2.1 50 = .ok (.iastore, 1) := by decide +kernel
theorem zd_Model_goStack_51 : decode zm_Model_goStack.2.1 51 = .ok (.iinc 4 1, 3) := by decide +kernel
theorem zd_Model_goStack_54 : decode zm_Model_goStack.2.1 54 = .ok (.goto (-30), 3) := by decide +kernel
theorem zd_Model_goStack_57 : decode zm_Model_goStack.2.1 57 = .ok (.aload_n 0, 1) := by decide +kernel
theorem zd_Model_goStack_58 : decode zm_Model_goStack.2.1 58 = .ok (.dup, 1) := by decide +kernel
theorem zd_Model_goStack_59 : decode zm_Model_goStack.2.1 59 = .ok (.getfield 356, 3) := by decide +kernel
theorem zd_Model_goStack_62 : decode zm_Model_goStack.2.1 62 = .ok (.iconst 1, 1) := by decide +kernel
theorem zd_Model_goStack_63 : decode zm_Model_goStack.2.1 63 = .ok (.iadd, 1) := by decide +kernel
theorem zd_Model_goStack_64 : decode zm_Model_goStack.2.1 64 = .ok (.putfield 356, 3) := by decide +kernel
theorem zd_Model_goStack_67 : decode zm_Model_goStack.2.1 67 = .ok (.return_, 1) := by decide +kernel
theorem zd_Model_goStack_68 : decode zm_Model_goStack.2.1 68 = .ok (.iconst 0, 1) := by decide +kernel
theorem zd_Model_goStack_69 : decode zm_Model_goStack.2.1 69 = .ok (.istore 4, 2) := by decide +kernel
theorem zd_Model_goStack_71 : decode zm_Model_goStack.2.1 71 = .ok (.iload 4, 2) := by decide +kernel
theorem zd_Model_goStack_73 : decode zm_Model_goStack.2.1 73 = .ok (.aload_n 0, 1) := by decide +kernel
theorem zd_Model_goStack_74 : decode zm_Model_goStack.2.1 74 = .ok (.getfield 97, 3) := by decide +kernel
theorem zd_Model_goStack_77 : decode zm_Model_goStack.2.1 77 = .ok (.if_icmp .ge 45, 3) := by decide +kernel
theorem zd_Model_goStack_80 : decode zm_Model_goStack.2.1 80 = .ok (.iload_n 1, 1) := by decide +kernel
theorem zd_Model_goStack_81 : decode zm_Model_goStack.2.1 81 = .ok (.iload 4, 2) := by decide +kernel
theorem zd_Model_goStack_83 : decode zm_Model_goStack.2.1 83 = .ok (.invokestatic 169, 3) := by decide +kernel
theorem zd_Model_goStack_86 : decode zm_Model_goStack.2.1 86 = .ok (.ifCond .ne 6, 3) := by decide +kernel
theorem zd_Model_goStack_89 : decode zm_Model_goStack.2.1 89 = .ok (.goto 27, 3) := by decide +kernel
theorem zd_Model_goStack_92 : decode zm_Model_goStack.2.1 92 = .ok (.aload_n 0, 1) := by decide +kernel
theorem zd_Model_goStack_93 : decode zm_Model_goStack.2.1 93 = .ok (.getfield 51, 3) := by decide +kernel
theorem zd_Model_goStack_96 : decode zm_Model_goStack.2.1 96 = .ok (.iload_n 3, 1) := by decide +kernel
theorem zd_Model_goStack_97 : decode zm_Model_goStack.2.1 97 = .ok (.iload 4, 2) := by decide +kernel
theorem zd_Model_goStack_99 : decode zm_Model_goStack.2.1 99 = .ok (.iastore, 1) := by decide +kernel
theorem zd_Model_goStack_100 : decode zm_Model_goStack.2.1 100 = .ok (.aload_n 0, 1) := by decide +kernel
theorem zd_Model_goStack_101 : decode zm_Model_goStack.2.1 101 = .ok (.iload_n 1, 1) := by decide +kernel
theorem zd_Model_goStack_102 : decode zm_Model_goStack.2.1 102 = .ok (.iconst 1, 1) := by decide +kernel
theorem zd_Model_goStack_103 : decode zm_Model_goStack.2.1 103 = .ok (.iload 4, 2) := by decide +kernel
theorem zd_Model_goStack_105 : decode zm_Model_goStack.2.1 105 = .ok (.ishl, 1) := by decide +kernel
theorem zd_Model_goStack_106 : decode zm_Model_goStack.2.1 106 = .ok (.iconst (-1), 1) := by decide +kernel
theorem zd_Model_goStack_107 : decode zm_Model_goStack.2.1 107 = .ok (.ixor, 1) := by decide +kernel
theorem zd_Model_goStack_108 : decode zm_Model_goStack.2.1 108 = .ok (.iand, 1) := by decide +kernel
theorem zd_Model_goStack_109 : decode zm_Model_goStack.2.1 109 = .ok (.iload_n 2, 1) := by decide +kernel
theorem zd_Model_goStack_110 : decode zm_Model_goStack.2.1 110 = .ok (.iload_n 3, 1) := by decide +kernel
theorem zd_Model_goStack_111 : decode zm_Model_goStack.2.1 111 = .ok (.iconst 1, 1) := by decide +kernel
theorem zd_Model_goStack_112 : decode zm_Model_goStack.2.1 112 = .ok (.iadd, 1) := by decide +kernel
theorem zd_Model_goStack_113 : decode zm_Model_goStack.2.1 113 = .ok (.invokevirtual 359, 3) := by decide +kernel
theorem zd_Model_goStack_116 : decode zm_Model_goStack.2.1 116 = .ok (.iinc 4 1, 3) := by decide +kernel
theorem zd_Model_goStack_119 : decode zm_Model_goStack.2.1 119 = .ok (.goto (-48), 3) := by decide +kernel
theorem zd_Model_goStack_122 : decode zm_Model_goStack.2.1 122 = .ok (.return_, 1) := by decide +kernel
theorem zb_Model_goStack_0 {Γ : zG} {σ : zS} {x1 x2 x3 : Int32}  (kt : ¬ x1 = 0 → z_J Γ zm_Model_goStack 68 [some (.inr (63)), some (.inl (x1)), some (.inl (x2)), some (.inl (x3)), none] [] σ) (kf : x1 = 0 → z_J Γ zm_Model_goStack 4 [some (.inr (63)), none, some (.inl (x2)), some (.inl (x3)), none] [] σ) : z_J Γ zm_Model_goStack 0 [some (.inr (63)), some (.inl (x1)), some (.inl (x2)), some (.inl (x3)), none] [] σ := by
  refine zj_iload_n zd_Model_goStack_0 rfl ?_
  exact zj_if_ne zd_Model_goStack_1 (by decide) (fun h => (kt h)) (fun h => (zj_weak (L' := [some (.inr (63)), none, some (.inl (x2)), some (.inl (x3)), none]) ⟨rfl, ⟨rfl, ⟨rfl, trivial⟩⟩⟩ (kf h)))
theorem zb_Model_goStack_4 {Γ : zG} {σ : zS} {x2 x3 : Int32} {k1 : Nat} {dc : Nat} {P : Int32 → zS → Prop}  (b1 : z_ix (nI 48) 53 k1) (hm : z_Ci dc zm_Model_doesPileHold [.inr (63), .inl (x2), .inl (x3), .inl (σ.1 64 k1)] σ P) (hdp : dc < z_dep Γ) (k : ∀ r σ1, P r σ1 → z_J Γ zm_Model_goStack 17 [some (.inr (63)), none, none, some (.inl (x3)), none] [.inl (r)] σ1) : z_J Γ zm_Model_goStack 4 [some (.inr (63)), none, some (.inl (x2)), some (.inl (x3)), none] [] σ := by
  refine zj_aload_n zd_Model_goStack_4 rfl ?_
  refine zj_iload_n zd_Model_goStack_5 rfl ?_
  refine zj_iload_n zd_Model_goStack_6 rfl ?_
  refine zj_aload_n zd_Model_goStack_7 rfl ?_
  refine zj_getR rfl (by decide) rfl zu_Model (k := 0) (by decide) rfl zl_Model_9 zd_Model_goStack_8 (o' := 64) rfl ?_
  refine zj_bipush (v := nI 48) zd_Model_goStack_11 (by decide) ?_
  refine zj_iaload rfl (by decide) b1 zd_Model_goStack_13 ?_
  exact zj_callVi (As := [.inl (x2), .inl (x3), .inl (σ.1 64 k1)]) hm hdp rfl (by decide) rfl zl_Model_240 zq_Model_doesPileHold zd_Model_goStack_14 rfl (Nat.le_of_ble_eq_true rfl) (fun r σ1 h => (zj_weak (L' := [some (.inr (63)), none, none, some (.inl (x3)), none]) ⟨rfl, ⟨rfl, trivial⟩⟩ (k r σ1 h)))
theorem zb_Model_goStack_17 {Γ : zG} {σ : zS} {x3 y0 : Int32}  (kt : ¬ y0 = 0 → z_J Γ zm_Model_goStack 21 [some (.inr (63)), none, none, some (.inl (x3)), none] [] σ) (kf : y0 = 0 → z_J Γ zm_Model_goStack 20 [none, none, none, none, none] [] σ) : z_J Γ zm_Model_goStack 17 [some (.inr (63)), none, none, some (.inl (x3)), none] [.inl (y0)] σ := by
  exact zj_if_ne zd_Model_goStack_17 (by decide) (fun h => (kt h)) (fun h => (zj_weak (L' := [none, none, none, none, none]) trivial (kf h)))
theorem zb_Model_goStack_20 {Γ : zG} {σ : zS}  (e : z_end Γ none σ) : z_J Γ zm_Model_goStack 20 [none, none, none, none, none] [] σ := by
  exact zj_return rfl zd_Model_goStack_20 e
theorem zb_Model_goStack_21 {Γ : zG} {σ : zS} {x3 : Int32}  (k : z_J Γ zm_Model_goStack 24 [some (.inr (63)), none, none, some (.inl (x3)), some (.inl (nI 0))] [] σ) : z_J Γ zm_Model_goStack 21 [some (.inr (63)), none, none, some (.inl (x3)), none] [] σ := by
  refine zj_iconst (v := nI 0) zd_Model_goStack_21 (by decide) ?_
  refine zj_istore (L' := [some (.inr (63)), none, none, some (.inl (x3)), some (.inl (nI 0))]) zd_Model_goStack_22 (by decide) rfl ?_
  exact k
theorem zb_Model_goStack_24 {Γ : zG} {σ : zS} {x3 x4 : Int32}  (kt : x3 ≤ x4 → z_J Γ zm_Model_goStack 57 [some (.inr (63)), none, none, none, none] [] σ) (kf : ¬ x3 ≤ x4 → z_J Γ zm_Model_goStack 30 [some (.inr (63)), none, none, some (.inl (x3)), some (.inl (x4))] [] σ) : z_J Γ zm_Model_goStack 24 [some (.inr (63)), none, none, some (.inl (x3)), some (.inl (x4))] [] σ := by
  refine zj_iload zd_Model_goStack_24 rfl ?_
  refine zj_iload_n zd_Model_goStack_26 rfl ?_
  exact zj_icmp_ge zd_Model_goStack_27 (by decide) (fun h => (zj_weak (L' := [some (.inr (63)), none, none, none, none]) ⟨rfl, trivial⟩ (kt h))) (fun h => (kf h))
theorem zb_Model_goStack_30 {Γ : zG} {σ : zS} {x3 x4 : Int32}  (kt : ¬ (σ.1 63 38) = 0 → z_J Γ zm_Model_goStack 57 [some (.inr (63)), none, none, none, none] [] σ) (kf : (σ.1 63 38) = 0 → z_J Γ zm_Model_goStack 37 [some (.inr (63)), none, none, some (.inl (x3)), some (.inl (x4))] [] σ) : z_J Γ zm_Model_goStack 30 [some (.inr (63)), none, none, some (.inl (x3)), some (.inl (x4))] [] σ := by
  refine zj_aload_n zd_Model_goStack_30 rfl ?_
  refine zj_getI rfl (by decide) rfl zu_Model (k := 38) (by decide) rfl zl_Model_356 zd_Model_goStack_31 ?_
  exact zj_if_ne zd_Model_goStack_34 (by decide) (fun h => (zj_weak (L' := [some (.inr (63)), none, none, none, none]) ⟨rfl, trivial⟩ (kt h))) (fun h => (kf h))
theorem zb_Model_goStack_37 {Γ : zG} {σ : zS} {x3 x4 : Int32} {k1 k2 : Nat}  (b1 : z_ix x4 4 k1) (b2 : z_ix x4 4 k2) (k : z_J Γ zm_Model_goStack 24 [some (.inr (63)), none, none, some (.inl (x3)), some (.inl (x4 + nI 1))] [] (z_pI σ 82 k2 (σ.1 75 k1))) : z_J Γ zm_Model_goStack 37 [some (.inr (63)), none, none, some (.inl (x3)), some (.inl (x4))] [] σ := by
  refine zj_aload_n zd_Model_goStack_37 rfl ?_
  refine zj_getR rfl (by decide) rfl zu_Model (k := 37) (by decide) rfl zl_Model_72 zd_Model_goStack_38 (o' := 82) rfl ?_
  refine zj_iload zd_Model_goStack_41 rfl ?_
  refine zj_aload_n zd_Model_goStack_43 rfl ?_
  refine zj_getR rfl (by decide) rfl zu_Model (k := 25) (by decide) rfl zl_Model_51 zd_Model_goStack_44 (o' := 75) rfl ?_
  refine zj_iload zd_Model_goStack_47 rfl ?_
  refine zj_iaload rfl (by decide) b1 zd_Model_goStack_49 ?_
  refine zj_iastore rfl (by decide) b2 zd_Model_goStack_50 ?_
  refine zj_iinc (v := nI 1) (L' := [some (.inr (63)), none, none, some (.inl (x3)), some (.inl (x4 + nI 1))]) zd_Model_goStack_51 rfl (by decide) (by decide) rfl ?_
  exact zj_goto zd_Model_goStack_54 (by decide) k
theorem zb_Model_goStack_57 {Γ : zG} {σ : zS}  (e : z_end Γ none (z_pI σ 63 38 ((σ.1 63 38) + (nI 1)))) : z_J Γ zm_Model_goStack 57 [some (.inr (63)), none, none, none, none] [] σ := by
  refine zj_aload_n zd_Model_goStack_57 rfl ?_
  refine zj_dup zd_Model_goStack_58 ?_
  refine zj_getI rfl (by decide) rfl zu_Model (k := 38) (by decide) rfl zl_Model_356 zd_Model_goStack_59 ?_
  refine zj_iconst (v := nI 1) zd_Model_goStack_62 (by decide) ?_
  refine zj_iadd zd_Model_goStack_63 ?_
  refine zj_putI rfl (by decide) rfl zu_Model zy_Model_ok zn_Model (k := 38) (by decide) rfl rfl zl_Model_356 rfl rfl zd_Model_goStack_64 ?_
  exact zj_return rfl zd_Model_goStack_67 e
theorem zb_Model_goStack_68 {Γ : zG} {σ : zS} {x1 x2 x3 : Int32}  (k : z_J Γ zm_Model_goStack 71 [some (.inr (63)), some (.inl (x1)), some (.inl (x2)), some (.inl (x3)), some (.inl (nI 0))] [] σ) : z_J Γ zm_Model_goStack 68 [some (.inr (63)), some (.inl (x1)), some (.inl (x2)), some (.inl (x3)), none] [] σ := by
  refine zj_iconst (v := nI 0) zd_Model_goStack_68 (by decide) ?_
  refine zj_istore (L' := [some (.inr (63)), some (.inl (x1)), some (.inl (x2)), some (.inl (x3)), some (.inl (nI 0))]) zd_Model_goStack_69 (by decide) rfl ?_
  exact k
theorem zb_Model_goStack_71 {Γ : zG} {σ : zS} {x1 x2 x3 x4 : Int32}  (kt : (σ.1 63 1) ≤ x4 → z_J Γ zm_Model_goStack 122 [none, none, none, none, none] [] σ) (kf : ¬ (σ.1 63 1) ≤ x4 → z_J Γ zm_Model_goStack 80 [some (.inr (63)), some (.inl (x1)), some (.inl (x2)), some (.inl (x3)), some (.inl (x4))] [] σ) : z_J Γ zm_Model_goStack 71 [some (.inr (63)), some (.inl (x1)), some (.inl (x2)), some (.inl (x3)), some (.inl (x4))] [] σ := by
  refine zj_iload zd_Model_goStack_71 rfl ?_
  refine zj_aload_n zd_Model_goStack_73 rfl ?_
  refine zj_getI rfl (by decide) rfl zu_Model (k := 1) (by decide) rfl zl_Model_97 zd_Model_goStack_74 ?_
  exact zj_icmp_ge zd_Model_goStack_77 (by decide) (fun h => (zj_weak (L' := [none, none, none, none, none]) trivial (kt h))) (fun h => (kf h))
theorem zb_Model_goStack_80 {Γ : zG} {σ : zS} {x1 x2 x3 x4 : Int32} {dc : Nat} {P : Int32 → zS → Prop}  (hm : z_Ci dc zm_Model_has [.inl (x1), .inl (x4)] σ P) (hdp : dc < z_dep Γ) (k : ∀ r σ1, P r σ1 → z_J Γ zm_Model_goStack 86 [some (.inr (63)), some (.inl (x1)), some (.inl (x2)), some (.inl (x3)), some (.inl (x4))] [.inl (r)] σ1) : z_J Γ zm_Model_goStack 80 [some (.inr (63)), some (.inl (x1)), some (.inl (x2)), some (.inl (x3)), some (.inl (x4))] [] σ := by
  refine zj_iload_n zd_Model_goStack_80 rfl ?_
  refine zj_iload zd_Model_goStack_81 rfl ?_
  exact zj_callSi (As := [.inl (x1), .inl (x4)]) hm hdp zl_Model_169 zq_Model_has zd_Model_goStack_83 rfl (Nat.le_of_ble_eq_true rfl) (fun r σ1 h => (k r σ1 h))
theorem zb_Model_goStack_86 {Γ : zG} {σ : zS} {x1 x2 x3 x4 y0 : Int32}  (kt : ¬ y0 = 0 → z_J Γ zm_Model_goStack 92 [some (.inr (63)), some (.inl (x1)), some (.inl (x2)), some (.inl (x3)), some (.inl (x4))] [] σ) (kf : y0 = 0 → z_J Γ zm_Model_goStack 89 [some (.inr (63)), some (.inl (x1)), some (.inl (x2)), some (.inl (x3)), some (.inl (x4))] [] σ) : z_J Γ zm_Model_goStack 86 [some (.inr (63)), some (.inl (x1)), some (.inl (x2)), some (.inl (x3)), some (.inl (x4))] [.inl (y0)] σ := by
  exact zj_if_ne zd_Model_goStack_86 (by decide) (fun h => (kt h)) (fun h => (kf h))
theorem zb_Model_goStack_89 {Γ : zG} {σ : zS} {x1 x2 x3 x4 : Int32}  (k : z_J Γ zm_Model_goStack 116 [some (.inr (63)), some (.inl (x1)), some (.inl (x2)), some (.inl (x3)), some (.inl (x4))] [] σ) : z_J Γ zm_Model_goStack 89 [some (.inr (63)), some (.inl (x1)), some (.inl (x2)), some (.inl (x3)), some (.inl (x4))] [] σ := by
  exact zj_goto zd_Model_goStack_89 (by decide) k
theorem zb_Model_goStack_92 {Γ : zG} {σ : zS} {x1 x2 x3 x4 : Int32} {k1 : Nat} {dc : Nat} {P : zS → Prop}  (b1 : z_ix x3 4 k1) (hm : z_Cv dc zm_Model_goStack [.inr (63), .inl (x1 &&& (((nI 1) <<< (x4 &&& 31)) ^^^ (-1))), .inl (x2), .inl (x3 + (nI 1))] (z_pI σ 75 k1 x4) P) (hdp : dc < z_dep Γ) (k : ∀ σ1, P σ1 → z_J Γ zm_Model_goStack 116 [some (.inr (63)), some (.inl (x1)), some (.inl (x2)), some (.inl (x3)), some (.inl (x4))] [] σ1) : z_J Γ zm_Model_goStack 92 [some (.inr (63)), some (.inl (x1)), some (.inl (x2)), some (.inl (x3)), some (.inl (x4))] [] σ := by
  refine zj_aload_n zd_Model_goStack_92 rfl ?_
  refine zj_getR rfl (by decide) rfl zu_Model (k := 25) (by decide) rfl zl_Model_51 zd_Model_goStack_93 (o' := 75) rfl ?_
  refine zj_iload_n zd_Model_goStack_96 rfl ?_
  refine zj_iload zd_Model_goStack_97 rfl ?_
  refine zj_iastore rfl (by decide) b1 zd_Model_goStack_99 ?_
  refine zj_aload_n zd_Model_goStack_100 rfl ?_
  refine zj_iload_n zd_Model_goStack_101 rfl ?_
  refine zj_iconst (v := nI 1) zd_Model_goStack_102 (by decide) ?_
  refine zj_iload zd_Model_goStack_103 rfl ?_
  refine zj_ishl zd_Model_goStack_105 ?_
  refine zj_iconst (v := (-1)) zd_Model_goStack_106 (by decide) ?_
  refine zj_ixor zd_Model_goStack_107 ?_
  refine zj_iand zd_Model_goStack_108 ?_
  refine zj_iload_n zd_Model_goStack_109 rfl ?_
  refine zj_iload_n zd_Model_goStack_110 rfl ?_
  refine zj_iconst (v := nI 1) zd_Model_goStack_111 (by decide) ?_
  refine zj_iadd zd_Model_goStack_112 ?_
  exact zj_callVv (As := [.inl (x1 &&& (((nI 1) <<< (x4 &&& 31)) ^^^ (-1))), .inl (x2), .inl (x3 + (nI 1))]) hm hdp rfl (by decide) rfl zl_Model_359 zq_Model_goStack zd_Model_goStack_113 rfl (Nat.le_of_ble_eq_true rfl) (fun σ1 h => (k σ1 h))
theorem zb_Model_goStack_116 {Γ : zG} {σ : zS} {x1 x2 x3 x4 : Int32}  (k : z_J Γ zm_Model_goStack 71 [some (.inr (63)), some (.inl (x1)), some (.inl (x2)), some (.inl (x3)), some (.inl (x4 + nI 1))] [] σ) : z_J Γ zm_Model_goStack 116 [some (.inr (63)), some (.inl (x1)), some (.inl (x2)), some (.inl (x3)), some (.inl (x4))] [] σ := by
  refine zj_iinc (v := nI 1) (L' := [some (.inr (63)), some (.inl (x1)), some (.inl (x2)), some (.inl (x3)), some (.inl (x4 + nI 1))]) zd_Model_goStack_116 rfl (by decide) (by decide) rfl ?_
  exact zj_goto zd_Model_goStack_119 (by decide) k
theorem zb_Model_goStack_122 {Γ : zG} {σ : zS}  (e : z_end Γ none σ) : z_J Γ zm_Model_goStack 122 [none, none, none, none, none] [] σ := by
  exact zj_return rfl zd_Model_goStack_122 e
theorem zd_Model_play_0 : decode zm_Model_play.2.1 0 = .ok (.aload_n 0, 1) := by decide +kernel
theorem zd_Model_play_1 : decode zm_Model_play.2.1 1 = .ok (.iconst 0, 1) := by decide +kernel
theorem zd_Model_play_2 : decode zm_Model_play.2.1 2 = .ok (.putfield 91, 3) := by decide +kernel
theorem zd_Model_play_5 : decode zm_Model_play.2.1 5 = .ok (.iload_n 1, 1) := by decide +kernel
theorem zd_Model_play_6 : decode zm_Model_play.2.1 6 = .ok (.iconst 1, 1) := by decide +kernel
theorem zd_Model_play_7 : decode zm_Model_play.2.1 7 = .ok (.iconst 4, 1) := by decide +kernel
theorem zd_Model_play_8 : decode zm_Model_play.2.1 8 = .ok (.invokestatic 100, 3) := by decide +kernel
theorem zd_Model_play_11 : decode zm_Model_play.2.1 11 = .ok (.ifCond .ne 5, 3) := by decide +kernel
theorem zd_Model_play_14 : decode zm_Model_play.2.1 14 = .ok (.iconst (-1), 1) := by decide +kernel
theorem zd_Model_play_15 : decode zm_Model_play.2.1 15 = .ok (.ireturn, 1) := by decide +kernel
theorem zd_Model_play_16 : decode zm_Model_play.2.1 16 = .ok (.aload_n 0, 1) := by decide +kernel
theorem zd_Model_play_17 : decode zm_Model_play.2.1 17 = .ok (.aload_n 0, 1) := by decide +kernel
theorem zd_Model_play_18 : decode zm_Model_play.2.1 18 = .ok (.getfield 9, 3) := by decide +kernel
theorem zd_Model_play_21 : decode zm_Model_play.2.1 21 = .ok (.iconst 0, 1) := by decide +kernel
theorem zd_Model_play_22 : decode zm_Model_play.2.1 22 = .ok (.invokevirtual 331, 3) := by decide +kernel
theorem zd_Model_play_25 : decode zm_Model_play.2.1 25 = .ok (.invokestatic 261, 3) := by decide +kernel
theorem zd_Model_play_28 : decode zm_Model_play.2.1 28 = .ok (.iconst 4, 1) := by decide +kernel
theorem zd_Model_play_29 : decode zm_Model_play.2.1 29 = .ok (.if_icmp .le 6, 3) := by decide +kernel
theorem zd_Model_play_32 : decode zm_Model_play.2.1 32 = .ok (.bipush (-3), 2) := by decide +kernel
theorem zd_Model_play_34 : decode zm_Model_play.2.1 34 = .ok (.ireturn, 1) := by decide +kernel
theorem zd_Model_play_35 : decode zm_Model_play.2.1 35 = .ok (.aload_n 0, 1) := by decide +kernel
theorem zd_Model_play_36 : decode zm_Model_play.2.1 36 = .ok (.getfield 9, 3) := by decide +kernel
theorem zd_Model_play_39 : decode zm_Model_play.2.1 39 = .ok (.aload_n 0, 1) := by decide +kernel
theorem zd_Model_play_40 : decode zm_Model_play.2.1 40 = .ok (.getfield 60, 3) := by decide +kernel
theorem zd_Model_play_43 : decode zm_Model_play.2.1 43 = .ok (.iconst 0, 1) := by decide +kernel
theorem zd_Model_play_44 : decode zm_Model_play.2.1 44 = .ok (.invokestatic 165, 3) := by decide +kernel
theorem zd_Model_play_47 : decode zm_Model_play.2.1 47 = .ok (.aload_n 0, 1) := by decide +kernel
theorem zd_Model_play_48 : decode zm_Model_play.2.1 48 = .ok (.aload_n 0, 1) := by decide +kernel
theorem zd_Model_play_49 : decode zm_Model_play.2.1 49 = .ok (.getfield 60, 3) := by decide +kernel
theorem zd_Model_play_52 : decode zm_Model_play.2.1 52 = .ok (.iconst 0, 1) := by decide +kernel
theorem zd_Model_play_53 : decode zm_Model_play.2.1 53 = .ok (.iload_n 1, 1) := by decide +kernel
theorem zd_Model_play_54 : decode zm_Model_play.2.1 54 = .ok (.invokevirtual 369, 3) := by decide +kernel
theorem zd_Model_play_57 : decode zm_Model_play.2.1 57 = .ok (.istore_n 2, 1) := by decide +kernel
theorem zd_Model_play_58 : decode zm_Model_play.2.1 58 = .ok (.aload_n 0, 1) := by decide +kernel
theorem zd_Model_play_59 : decode zm_Model_play.2.1 59 = .ok (.iconst 0, 1) := by decide +kernel
theorem zd_Model_play_60 : decode zm_Model_play.2.1 60 = .ok (.putfield 94, 3) := by decide +kernel
theorem zd_Model_play_63 : decode zm_Model_play.2.1 63 = .ok (.aload_n 0, 1) := by decide +kernel
theorem zd_Model_play_64 : decode zm_Model_play.2.1 64 = .ok (.aload_n 0, 1) := by decide +kernel
theorem zd_Model_play_65 : decode zm_Model_play.2.1 65 = .ok (.getfield 372, 3) := by decide +kernel
theorem zd_Model_play_68 : decode zm_Model_play.2.1 68 = .ok (.invokevirtual 312, 3) := by decide +kernel
theorem zd_Model_play_71 : decode zm_Model_play.2.1 71 = .ok (.iload_n 2, 1) := by decide +kernel
theorem zd_Model_play_72 : decode zm_Model_play.2.1 72 = .ok (.ireturn, 1) := by decide +kernel
theorem zb_Model_play_0 {Γ : zG} {σ : zS} {x1 : Int32} {dc : Nat} {P : Int32 → zS → Prop}  (hm : z_Ci dc zm_Model_in [.inl (x1), .inl (nI 1), .inl (nI 4)] (z_pI σ 63 11 (nI 0)) P) (hdp : dc < z_dep Γ) (k : ∀ r σ1, P r σ1 → z_J Γ zm_Model_play 11 [some (.inr (63)), some (.inl (x1)), none] [.inl (r)] σ1) : z_J Γ zm_Model_play 0 [some (.inr (63)), some (.inl (x1)), none] [] σ := by
  refine zj_aload_n zd_Model_play_0 rfl ?_
  refine zj_iconst (v := nI 0) zd_Model_play_1 (by decide) ?_
  refine zj_putI rfl (by decide) rfl zu_Model zy_Model_ok zn_Model (k := 11) (by decide) rfl rfl zl_Model_91 rfl rfl zd_Model_play_2 ?_
  refine zj_iload_n zd_Model_play_5 rfl ?_
  refine zj_iconst (v := nI 1) zd_Model_play_6 (by decide) ?_
  refine zj_iconst (v := nI 4) zd_Model_play_7 (by decide) ?_
  exact zj_callSi (As := [.inl (x1), .inl (nI 1), .inl (nI 4)]) hm hdp zl_Model_100 zq_Model_in zd_Model_play_8 rfl (Nat.le_of_ble_eq_true rfl) (fun r σ1 h => (k r σ1 h))
theorem zb_Model_play_11 {Γ : zG} {σ : zS} {x1 y0 : Int32}  (kt : ¬ y0 = 0 → z_J Γ zm_Model_play 16 [some (.inr (63)), some (.inl (x1)), none] [] σ) (kf : y0 = 0 → z_J Γ zm_Model_play 14 [none, none, none] [] σ) : z_J Γ zm_Model_play 11 [some (.inr (63)), some (.inl (x1)), none] [.inl (y0)] σ := by
  exact zj_if_ne zd_Model_play_11 (by decide) (fun h => (kt h)) (fun h => (zj_weak (L' := [none, none, none]) trivial (kf h)))
theorem zb_Model_play_14 {Γ : zG} {σ : zS}  (e : z_end Γ (some ((-1))) σ) : z_J Γ zm_Model_play 14 [none, none, none] [] σ := by
  refine zj_iconst (v := (-1)) zd_Model_play_14 (by decide) ?_
  exact zj_ireturn rfl zd_Model_play_15 e
theorem zb_Model_play_16 {Γ : zG} {σ : zS} {x1 : Int32} {dc : Nat} {P : Int32 → zS → Prop}  (hm : z_Ci dc zm_Model_whereBits [.inr (63), .inr (64), .inl (nI 0)] σ P) (hdp : dc < z_dep Γ) (k : ∀ r σ1, P r σ1 → z_J Γ zm_Model_play 25 [some (.inr (63)), some (.inl (x1)), none] [.inl (r)] σ1) : z_J Γ zm_Model_play 16 [some (.inr (63)), some (.inl (x1)), none] [] σ := by
  refine zj_aload_n zd_Model_play_16 rfl ?_
  refine zj_aload_n zd_Model_play_17 rfl ?_
  refine zj_getR rfl (by decide) rfl zu_Model (k := 0) (by decide) rfl zl_Model_9 zd_Model_play_18 (o' := 64) rfl ?_
  refine zj_iconst (v := nI 0) zd_Model_play_21 (by decide) ?_
  exact zj_callVi (As := [.inr (64), .inl (nI 0)]) hm hdp rfl (by decide) rfl zl_Model_331 zq_Model_whereBits zd_Model_play_22 rfl (Nat.le_of_ble_eq_true rfl) (fun r σ1 h => (k r σ1 h))
theorem zb_Model_play_25 {Γ : zG} {σ : zS} {x1 y0 : Int32} (hdp : 0 < z_dep Γ) (kt : (z_bc y0) ≤ (nI 4) → z_J Γ zm_Model_play 35 [some (.inr (63)), some (.inl (x1)), none] [] σ) (kf : ¬ (z_bc y0) ≤ (nI 4) → z_J Γ zm_Model_play 32 [none, none, none] [] σ) : z_J Γ zm_Model_play 25 [some (.inr (63)), some (.inl (x1)), none] [.inl (y0)] σ := by
  refine zj_bitc zl_Model_261 hdp (Nat.le_of_ble_eq_true rfl) zd_Model_play_25 ?_
  refine zj_iconst (v := nI 4) zd_Model_play_28 (by decide) ?_
  exact zj_icmp_le zd_Model_play_29 (by decide) (fun h => (kt h)) (fun h => (zj_weak (L' := [none, none, none]) trivial (kf h)))
theorem zb_Model_play_32 {Γ : zG} {σ : zS}  (e : z_end Γ (some ((-3))) σ) : z_J Γ zm_Model_play 32 [none, none, none] [] σ := by
  refine zj_bipush (v := (-3)) zd_Model_play_32 (by decide) ?_
  exact zj_ireturn rfl zd_Model_play_34 e
theorem zb_Model_play_35 {Γ : zG} {σ : zS} {x1 : Int32} {dc : Nat} {P : zS → Prop}  (hm : z_Cv dc zm_Model_lay_1 [.inr (64), .inr (78), .inl (nI 0)] σ P) (hdp : dc < z_dep Γ) (k : ∀ σ1, P σ1 → z_J Γ zm_Model_play 47 [some (.inr (63)), some (.inl (x1)), none] [] σ1) : z_J Γ zm_Model_play 35 [some (.inr (63)), some (.inl (x1)), none] [] σ := by
  refine zj_aload_n zd_Model_play_35 rfl ?_
  refine zj_getR rfl (by decide) rfl zu_Model (k := 0) (by decide) rfl zl_Model_9 zd_Model_play_36 (o' := 64) rfl ?_
  refine zj_aload_n zd_Model_play_39 rfl ?_
  refine zj_getR rfl (by decide) rfl zu_Model (k := 29) (by decide) rfl zl_Model_60 zd_Model_play_40 (o' := 78) rfl ?_
  refine zj_iconst (v := nI 0) zd_Model_play_43 (by decide) ?_
  exact zj_callSv (As := [.inr (64), .inr (78), .inl (nI 0)]) hm hdp zl_Model_165 zq_Model_lay_1 zd_Model_play_44 rfl (Nat.le_of_ble_eq_true rfl) (fun σ1 h => (k σ1 h))
theorem zb_Model_play_47 {Γ : zG} {σ : zS} {x1 : Int32} {dc : Nat} {P : Int32 → zS → Prop}  (hm : z_Ci dc zm_Model_goPlay [.inr (63), .inr (78), .inl (nI 0), .inl (x1)] σ P) (hdp : dc < z_dep Γ) (k : ∀ r σ1, P r σ1 → z_J Γ zm_Model_play 57 [some (.inr (63)), none, none] [.inl (r)] σ1) : z_J Γ zm_Model_play 47 [some (.inr (63)), some (.inl (x1)), none] [] σ := by
  refine zj_aload_n zd_Model_play_47 rfl ?_
  refine zj_aload_n zd_Model_play_48 rfl ?_
  refine zj_getR rfl (by decide) rfl zu_Model (k := 29) (by decide) rfl zl_Model_60 zd_Model_play_49 (o' := 78) rfl ?_
  refine zj_iconst (v := nI 0) zd_Model_play_52 (by decide) ?_
  refine zj_iload_n zd_Model_play_53 rfl ?_
  exact zj_callVi (As := [.inr (78), .inl (nI 0), .inl (x1)]) hm hdp rfl (by decide) rfl zl_Model_369 zq_Model_goPlay zd_Model_play_54 rfl (Nat.le_of_ble_eq_true rfl) (fun r σ1 h => (zj_weak (L' := [some (.inr (63)), none, none]) ⟨rfl, trivial⟩ (k r σ1 h)))
theorem zb_Model_play_57 {Γ : zG} {σ : zS} {y0 : Int32} {dc : Nat} {P : zS → Prop}  (hm : z_Cv dc zm_Model_tell [.inr (63), .inl ((z_pI σ 63 10 (nI 0)).1 63 39)] (z_pI σ 63 10 (nI 0)) P) (hdp : dc < z_dep Γ) (k : ∀ σ1, P σ1 → z_J Γ zm_Model_play 71 [none, none, some (.inl (y0))] [] σ1) : z_J Γ zm_Model_play 57 [some (.inr (63)), none, none] [.inl (y0)] σ := by
  refine zj_istore_n (L' := [some (.inr (63)), none, some (.inl (y0))]) zd_Model_play_57 (by decide) rfl ?_
  refine zj_aload_n zd_Model_play_58 rfl ?_
  refine zj_iconst (v := nI 0) zd_Model_play_59 (by decide) ?_
  refine zj_putI rfl (by decide) rfl zu_Model zy_Model_ok zn_Model (k := 10) (by decide) rfl rfl zl_Model_94 rfl rfl zd_Model_play_60 ?_
  refine zj_aload_n zd_Model_play_63 rfl ?_
  refine zj_aload_n zd_Model_play_64 rfl ?_
  refine zj_getI rfl (by decide) rfl zu_Model (k := 39) (by decide) rfl zl_Model_372 zd_Model_play_65 ?_
  exact zj_callVv (As := [.inl ((z_pI σ 63 10 (nI 0)).1 63 39)]) hm hdp rfl (by decide) rfl zl_Model_312 zq_Model_tell zd_Model_play_68 rfl (Nat.le_of_ble_eq_true rfl) (fun σ1 h => (zj_weak (L' := [none, none, some (.inl (y0))]) ⟨rfl, trivial⟩ (k σ1 h)))
theorem zb_Model_play_71 {Γ : zG} {σ : zS} {x2 : Int32}  (e : z_end Γ (some (x2)) σ) : z_J Γ zm_Model_play 71 [none, none, some (.inl (x2))] [] σ := by
  refine zj_iload_n zd_Model_play_71 rfl ?_
  exact zj_ireturn rfl zd_Model_play_72 e
theorem zd_Model_goPlay_0 : decode zm_Model_goPlay.2.1 0 = .ok (.iload_n 2, 1) := by decide +kernel
theorem zd_Model_goPlay_1 : decode zm_Model_goPlay.2.1 1 = .ok (.iload_n 3, 1) := by decide +kernel
theorem zd_Model_goPlay_2 : decode zm_Model_goPlay.2.1 2 = .ok (.if_icmp .ne 9, 3) := by decide +kernel
theorem zd_Model_goPlay_5 : decode zm_Model_goPlay.2.1 5 = .ok (.aload_n 0, 1) := by decide +kernel
theorem zd_Model_goPlay_6 : decode zm_Model_goPlay.2.1 6 = .ok (.aload_n 1, 1) := by decide +kernel
theorem zd_Model_goPlay_7 : decode zm_Model_goPlay.2.1 7 = .ok (.invokevirtual 334, 3) := by decide +kernel
theorem zd_Model_goPlay_10 : decode zm_Model_goPlay.2.1 10 = .ok (.ireturn, 1) := by decide +kernel
theorem zd_Model_goPlay_11 : decode zm_Model_goPlay.2.1 11 = .ok (.iload_n 2, 1) := by decide +kernel
theorem zd_Model_goPlay_12 : decode zm_Model_goPlay.2.1 12 = .ok (.iconst 2, 1) := by decide +kernel
theorem zd_Model_goPlay_13 : decode zm_Model_goPlay.2.1 13 = .ok (.irem, 1) := by decide +kernel
theorem zd_Model_goPlay_14 : decode zm_Model_goPlay.2.1 14 = .ok (.ifCond .ne 13, 3) := by decide +kernel
theorem zd_Model_goPlay_17 : decode zm_Model_goPlay.2.1 17 = .ok (.aload_n 0, 1) := by decide +kernel
theorem zd_Model_goPlay_18 : decode zm_Model_goPlay.2.1 18 = .ok (.aload_n 1, 1) := by decide +kernel
theorem zd_Model_goPlay_19 : decode zm_Model_goPlay.2.1 19 = .ok (.iload_n 2, 1) := by decide +kernel
theorem zd_Model_goPlay_20 : decode zm_Model_goPlay.2.1 20 = .ok (.iload_n 3, 1) := by decide +kernel
theorem zd_Model_goPlay_21 : decode zm_Model_goPlay.2.1 21 = .ok (.invokevirtual 363, 3) := by decide +kernel
theorem zd_Model_goPlay_24 : decode zm_Model_goPlay.2.1 24 = .ok (.goto 10, 3) := by decide +kernel
theorem zd_Model_goPlay_27 : decode zm_Model_goPlay.2.1 27 = .ok (.aload_n 0, 1) := by decide +kernel
theorem zd_Model_goPlay_28 : decode zm_Model_goPlay.2.1 28 = .ok (.aload_n 1, 1) := by decide +kernel
theorem zd_Model_goPlay_29 : decode zm_Model_goPlay.2.1 29 = .ok (.iload_n 2, 1) := by decide +kernel
theorem zd_Model_goPlay_30 : decode zm_Model_goPlay.2.1 30 = .ok (.iload_n 3, 1) := by decide +kernel
theorem zd_Model_goPlay_31 : decode zm_Model_goPlay.2.1 31 = .ok (.invokevirtual 366, 3) := by decide +kernel
theorem zd_Model_goPlay_34 : decode zm_Model_goPlay.2.1 34 = .ok (.ireturn, 1) := by decide +kernel
theorem zb_Model_goPlay_0 {Γ : zG} {σ : zS} {a1 : Nat} {x2 x3 : Int32} (h_a1 : z_kd a1 = (11, 53)) (kt : ¬ x2 = x3 → z_J Γ zm_Model_goPlay 11 [some (.inr (63)), some (.inr (a1)), some (.inl (x2)), some (.inl (x3))] [] σ) (kf : x2 = x3 → z_J Γ zm_Model_goPlay 5 [some (.inr (63)), some (.inr (a1)), none, none] [] σ) : z_J Γ zm_Model_goPlay 0 [some (.inr (63)), some (.inr (a1)), some (.inl (x2)), some (.inl (x3))] [] σ := by
  refine zj_iload_n zd_Model_goPlay_0 rfl ?_
  refine zj_iload_n zd_Model_goPlay_1 rfl ?_
  exact zj_icmp_ne zd_Model_goPlay_2 (by decide) (fun h => (kt h)) (fun h => (zj_weak (L' := [some (.inr (63)), some (.inr (a1)), none, none]) ⟨rfl, ⟨rfl, trivial⟩⟩ (kf h)))
theorem zb_Model_goPlay_5 {Γ : zG} {σ : zS} {a1 : Nat} {dc : Nat} {P : Int32 → zS → Prop} (h_a1 : z_kd a1 = (11, 53)) (hm : z_Ci dc zm_Model_leastHeight [.inr (63), .inr (a1)] σ P) (hdp : dc < z_dep Γ) (k : ∀ r σ1, P r σ1 → z_J Γ zm_Model_goPlay 10 [none, none, none, none] [.inl (r)] σ1) : z_J Γ zm_Model_goPlay 5 [some (.inr (63)), some (.inr (a1)), none, none] [] σ := by
  refine zj_aload_n zd_Model_goPlay_5 rfl ?_
  refine zj_aload_n zd_Model_goPlay_6 rfl ?_
  exact zj_callVi (As := [.inr (a1)]) hm hdp rfl (by decide) rfl zl_Model_334 zq_Model_leastHeight zd_Model_goPlay_7 rfl (Nat.le_of_ble_eq_true rfl) (fun r σ1 h => (zj_weak (L' := [none, none, none, none]) trivial (k r σ1 h)))
theorem zb_Model_goPlay_10 {Γ : zG} {σ : zS} {y0 : Int32}  (e : z_end Γ (some (y0)) σ) : z_J Γ zm_Model_goPlay 10 [none, none, none, none] [.inl (y0)] σ := by
  exact zj_ireturn rfl zd_Model_goPlay_10 e
theorem zb_Model_goPlay_11 {Γ : zG} {σ : zS} {a1 : Nat} {x2 x3 : Int32} (h_a1 : z_kd a1 = (11, 53)) (kt : ¬ (x2 - x2 / (nI 2) * (nI 2)) = 0 → z_J Γ zm_Model_goPlay 27 [some (.inr (63)), some (.inr (a1)), some (.inl (x2)), some (.inl (x3))] [] σ) (kf : (x2 - x2 / (nI 2) * (nI 2)) = 0 → z_J Γ zm_Model_goPlay 17 [some (.inr (63)), some (.inr (a1)), some (.inl (x2)), some (.inl (x3))] [] σ) : z_J Γ zm_Model_goPlay 11 [some (.inr (63)), some (.inr (a1)), some (.inl (x2)), some (.inl (x3))] [] σ := by
  refine zj_iload_n zd_Model_goPlay_11 rfl ?_
  refine zj_iconst (v := nI 2) zd_Model_goPlay_12 (by decide) ?_
  refine zj_irem zd_Model_goPlay_13 (by decide) ?_
  exact zj_if_ne zd_Model_goPlay_14 (by decide) (fun h => (kt h)) (fun h => (kf h))
theorem zb_Model_goPlay_17 {Γ : zG} {σ : zS} {a1 : Nat} {x2 x3 : Int32} {dc : Nat} {P : Int32 → zS → Prop} (h_a1 : z_kd a1 = (11, 53)) (hm : z_Ci dc zm_Model_goEnemy [.inr (63), .inr (a1), .inl (x2), .inl (x3)] σ P) (hdp : dc < z_dep Γ) (k : ∀ r σ1, P r σ1 → z_J Γ zm_Model_goPlay 24 [none, none, none, none] [.inl (r)] σ1) : z_J Γ zm_Model_goPlay 17 [some (.inr (63)), some (.inr (a1)), some (.inl (x2)), some (.inl (x3))] [] σ := by
  refine zj_aload_n zd_Model_goPlay_17 rfl ?_
  refine zj_aload_n zd_Model_goPlay_18 rfl ?_
  refine zj_iload_n zd_Model_goPlay_19 rfl ?_
  refine zj_iload_n zd_Model_goPlay_20 rfl ?_
  exact zj_callVi (As := [.inr (a1), .inl (x2), .inl (x3)]) hm hdp rfl (by decide) rfl zl_Model_363 zq_Model_goEnemy zd_Model_goPlay_21 rfl (Nat.le_of_ble_eq_true rfl) (fun r σ1 h => (zj_weak (L' := [none, none, none, none]) trivial (k r σ1 h)))
theorem zb_Model_goPlay_24 {Γ : zG} {σ : zS} {y0 : Int32}  (k : z_J Γ zm_Model_goPlay 34 [none, none, none, none] [.inl (y0)] σ) : z_J Γ zm_Model_goPlay 24 [none, none, none, none] [.inl (y0)] σ := by
  exact zj_goto zd_Model_goPlay_24 (by decide) k
theorem zb_Model_goPlay_27 {Γ : zG} {σ : zS} {a1 : Nat} {x2 x3 : Int32} {dc : Nat} {P : Int32 → zS → Prop} (h_a1 : z_kd a1 = (11, 53)) (hm : z_Ci dc zm_Model_goCity [.inr (63), .inr (a1), .inl (x2), .inl (x3)] σ P) (hdp : dc < z_dep Γ) (k : ∀ r σ1, P r σ1 → z_J Γ zm_Model_goPlay 34 [none, none, none, none] [.inl (r)] σ1) : z_J Γ zm_Model_goPlay 27 [some (.inr (63)), some (.inr (a1)), some (.inl (x2)), some (.inl (x3))] [] σ := by
  refine zj_aload_n zd_Model_goPlay_27 rfl ?_
  refine zj_aload_n zd_Model_goPlay_28 rfl ?_
  refine zj_iload_n zd_Model_goPlay_29 rfl ?_
  refine zj_iload_n zd_Model_goPlay_30 rfl ?_
  exact zj_callVi (As := [.inr (a1), .inl (x2), .inl (x3)]) hm hdp rfl (by decide) rfl zl_Model_366 zq_Model_goCity zd_Model_goPlay_31 rfl (Nat.le_of_ble_eq_true rfl) (fun r σ1 h => (zj_weak (L' := [none, none, none, none]) trivial (k r σ1 h)))
theorem zb_Model_goPlay_34 {Γ : zG} {σ : zS} {y0 : Int32}  (e : z_end Γ (some (y0)) σ) : z_J Γ zm_Model_goPlay 34 [none, none, none, none] [.inl (y0)] σ := by
  exact zj_ireturn rfl zd_Model_goPlay_34 e
theorem zd_Model_goEnemy_0 : decode zm_Model_goEnemy.2.1 0 = .ok (.ldc 254, 2) := by decide +kernel
theorem zd_Model_goEnemy_2 : decode zm_Model_goEnemy.2.1 2 = .ok (.istore 4, 2) := by decide +kernel
theorem zd_Model_goEnemy_4 : decode zm_Model_goEnemy.2.1 4 = .ok (.iconst (-1), 1) := by decide +kernel
theorem zd_Model_goEnemy_5 : decode zm_Model_goEnemy.2.1 5 = .ok (.istore 5, 2) := by decide +kernel
theorem zd_Model_goEnemy_7 : decode zm_Model_goEnemy.2.1 7 = .ok (.iconst 0, 1) := by decide +kernel
theorem zd_Model_goEnemy_8 : decode zm_Model_goEnemy.2.1 8 = .ok (.istore 6, 2) := by decide +kernel
theorem zd_Model_goEnemy_10 : decode zm_Model_goEnemy.2.1 10 = .ok (.iload 6, 2) := by decide +kernel
theorem zd_Model_goEnemy_12 : decode zm_Model_goEnemy.2.1 12 = .ok (.aload_n 0, 1) := by decide +kernel
theorem zd_Model_goEnemy_13 : decode zm_Model_goEnemy.2.1 13 = .ok (.getfield 19, 3) := by decide +kernel
theorem zd_Model_goEnemy_16 : decode zm_Model_goEnemy.2.1 16 = .ok (.if_icmp .ge 66, 3) := by decide +kernel
theorem zd_Model_goEnemy_19 : decode zm_Model_goEnemy.2.1 19 = .ok (.aload_n 0, 1) := by decide +kernel
theorem zd_Model_goEnemy_20 : decode zm_Model_goEnemy.2.1 20 = .ok (.aload_n 1, 1) := by decide +kernel
theorem zd_Model_goEnemy_21 : decode zm_Model_goEnemy.2.1 21 = .ok (.iload 6, 2) := by decide +kernel
theorem zd_Model_goEnemy_23 : decode zm_Model_goEnemy.2.1 23 = .ok (.invokevirtual 269, 3) := by decide +kernel
theorem zd_Model_goEnemy_26 : decode zm_Model_goEnemy.2.1 26 = .ok (.istore 7, 2) := by decide +kernel
theorem zd_Model_goEnemy_28 : decode zm_Model_goEnemy.2.1 28 = .ok (.iload 7, 2) := by decide +kernel
theorem zd_Model_goEnemy_30 : decode zm_Model_goEnemy.2.1 30 = .ok (.iconst (-1), 1) := by decide +kernel
theorem zd_Model_goEnemy_31 : decode zm_Model_goEnemy.2.1 31 = .ok (.if_icmp .ne 6, 3) := by decide +kernel
theorem zd_Model_goEnemy_34 : decode zm_Model_goEnemy.2.1 34 = .ok (.goto 42, 3) := by decide +kernel
theorem zd_Model_goEnemy_37 : decode zm_Model_goEnemy.2.1 37 = .ok (.aload_n 1, 1) := by decide +kernel
theorem zd_Model_goEnemy_38 : decode zm_Model_goEnemy.2.1 38 = .ok (.iload 7, 2) := by decide +kernel
theorem zd_Model_goEnemy_40 : decode zm_Model_goEnemy.2.1 40 = .ok (.iconst 3, 1) := by decide +kernel
theorem zd_Model_goEnemy_41 : decode zm_Model_goEnemy.2.1 41 = .ok (.iastore, 1) := by decide +kernel
theorem zd_Model_goEnemy_42 : decode zm_Model_goEnemy.2.1 42 = .ok (.aload_n 0, 1) := by decide +kernel
theorem zd_Model_goEnemy_43 : decode zm_Model_goEnemy.2.1 43 = .ok (.aload_n 1, 1) := by decide +kernel
theorem zd_Model_goEnemy_44 : decode zm_Model_goEnemy.2.1 44 = .ok (.iload_n 2, 1) := by decide +kernel
theorem zd_Model_goEnemy_45 : decode zm_Model_goEnemy.2.1 45 = .ok (.iconst 1, 1) := by decide +kernel
theorem zd_Model_goEnemy_46 : decode zm_Model_goEnemy.2.1 46 = .ok (.iadd, 1) := by decide +kernel
theorem zd_Model_goEnemy_47 : decode zm_Model_goEnemy.2.1 47 = .ok (.iload_n 3, 1) := by decide +kernel
theorem zd_Model_goEnemy_48 : decode zm_Model_goEnemy.2.1 48 = .ok (.invokevirtual 369, 3) := by decide +kernel
theorem zd_Model_goEnemy_51 : decode zm_Model_goEnemy.2.1 51 = .ok (.istore 8, 2) := by decide +kernel
theorem zd_Model_goEnemy_53 : decode zm_Model_goEnemy.2.1 53 = .ok (.aload_n 1, 1) := by decide +kernel
theorem zd_Model_goEnemy_54 : decode zm_Model_goEnemy.2.1 54 = .ok (.iload 7, 2) := by decide +kernel
theorem zd_Model_goEnemy_56 : decode zm_Model_goEnemy.2.1 56 = .ok (.iconst 1, 1) := by decide +kernel
theorem zd_Model_goEnemy_57 : decode zm_Model_goEnemy.2.1 57 = .ok (.iastore, 1) := by decide +kernel
theorem zd_Model_goEnemy_58 : decode zm_Model_goEnemy.2.1 58 = .ok (.iload 8, 2) := by decide +kernel
theorem zd_Model_goEnemy_60 : decode zm_Model_goEnemy.2.1 60 = .ok (.iload 4, 2) := by decide +kernel
theorem zd_Model_goEnemy_62 : decode zm_Model_goEnemy.2.1 62 = .ok (.if_icmp .lt 6, 3) := by decide +kernel
theorem zd_Model_goEnemy_65 : decode zm_Model_goEnemy.2.1 65 = .ok (.goto 11, 3) := by decide +kernel
theorem zd_Model_goEnemy_68 : decode zm_Model_goEnemy.2.1 68 = .ok (.iload 8, 2) := by decide +kernel
theorem zd_Model_goEnemy_70 : decode zm_Model_goEnemy.2.1 70 = .ok (.istore 4, 2) := by decide +kernel
theorem zd_Model_goEnemy_72 : decode zm_Model_goEnemy.2.1 72 = .ok (.iload 6, 2) := by decide +kernel
theorem zd_Model_goEnemy_74 : decode zm_Model_goEnemy.2.1 74 = .ok (.istore 5, 2) := by decide +kernel
theorem zd_Model_goEnemy_76 : decode zm_Model_goEnemy.2.1 76 = .ok (.iinc 6 1, 3) := by decide +kernel
theorem zd_Model_goEnemy_79 : decode zm_Model_goEnemy.2.1 79 = .ok (.goto (-69), 3) := by decide +kernel
theorem zd_Model_goEnemy_82 : decode zm_Model_goEnemy.2.1 82 = .ok (.iload 4, 2) := by decide +kernel
theorem zd_Model_goEnemy_84 : decode zm_Model_goEnemy.2.1 84 = .ok (.ldc 254, 2) := by decide +kernel
theorem zd_Model_goEnemy_86 : decode zm_Model_goEnemy.2.1 86 = .ok (.if_icmp .ne 14, 3) := by decide +kernel
theorem zd_Model_goEnemy_89 : decode zm_Model_goEnemy.2.1 89 = .ok (.aload_n 0, 1) := by decide +kernel
theorem zd_Model_goEnemy_90 : decode zm_Model_goEnemy.2.1 90 = .ok (.aload_n 1, 1) := by decide +kernel
theorem zd_Model_goEnemy_91 : decode zm_Model_goEnemy.2.1 91 = .ok (.iload_n 2, 1) := by decide +kernel
theorem zd_Model_goEnemy_92 : decode zm_Model_goEnemy.2.1 92 = .ok (.iconst 1, 1) := by decide +kernel
theorem zd_Model_goEnemy_93 : decode zm_Model_goEnemy.2.1 93 = .ok (.iadd, 1) := by decide +kernel
theorem zd_Model_goEnemy_94 : decode zm_Model_goEnemy.2.1 94 = .ok (.iload_n 3, 1) := by decide +kernel
theorem zd_Model_goEnemy_95 : decode zm_Model_goEnemy.2.1 95 = .ok (.invokevirtual 369, 3) := by decide +kernel
theorem zd_Model_goEnemy_98 : decode zm_Model_goEnemy.2.1 98 = .ok (.istore 4, 2) := by decide +kernel
theorem zd_Model_goEnemy_100 : decode zm_Model_goEnemy.2.1 100 = .ok (.aload_n 0, 1) := by decide +kernel
theorem zd_Model_goEnemy_101 : decode zm_Model_goEnemy.2.1 101 = .ok (.iload 5, 2) := by decide +kernel
theorem zd_Model_goEnemy_103 : decode zm_Model_goEnemy.2.1 103 = .ok (.putfield 372, 3) := by decide +kernel
theorem zd_Model_goEnemy_106 : decode zm_Model_goEnemy.2.1 106 = .ok (.iload 4, 2) := by decide +kernel
theorem zd_Model_goEnemy_108 : decode zm_Model_goEnemy.2.1 108 = .ok (.ireturn, 1) := by decide +kernel
theorem zb_Model_goEnemy_0 {Γ : zG} {σ : zS} {a1 : Nat} {x2 x3 : Int32} (h_a1 : z_kd a1 = (11, 53)) (k : z_J Γ zm_Model_goEnemy 10 [some (.inr (63)), some (.inr (a1)), some (.inl (x2)), some (.inl (x3)), some (.inl ((1000000 : Int32))), some (.inl ((-1))), some (.inl (nI 0)), none, none] [] σ) : z_J Γ zm_Model_goEnemy 0 [some (.inr (63)), some (.inr (a1)), some (.inl (x2)), some (.inl (x3)), none, none, none, none, none] [] σ := by
  refine zj_ldc (v := 1000000) zl_Model_254 zd_Model_goEnemy_0 ?_
  refine zj_istore (L' := [some (.inr (63)), some (.inr (a1)), some (.inl (x2)), some (.inl (x3)), some (.inl ((1000000 : Int32))), none, none, none, none]) zd_Model_goEnemy_2 (by decide) rfl ?_
  refine zj_iconst (v := (-1)) zd_Model_goEnemy_4 (by decide) ?_
  refine zj_istore (L' := [some (.inr (63)), some (.inr (a1)), some (.inl (x2)), some (.inl (x3)), some (.inl ((1000000 : Int32))), some (.inl ((-1))), none, none, none]) zd_Model_goEnemy_5 (by decide) rfl ?_
  refine zj_iconst (v := nI 0) zd_Model_goEnemy_7 (by decide) ?_
  refine zj_istore (L' := [some (.inr (63)), some (.inr (a1)), some (.inl (x2)), some (.inl (x3)), some (.inl ((1000000 : Int32))), some (.inl ((-1))), some (.inl (nI 0)), none, none]) zd_Model_goEnemy_8 (by decide) rfl ?_
  exact k
theorem zb_Model_goEnemy_10 {Γ : zG} {σ : zS} {a1 : Nat} {x2 x3 x4 x5 x6 : Int32} (h_a1 : z_kd a1 = (11, 53)) (kt : (σ.1 63 4) ≤ x6 → z_J Γ zm_Model_goEnemy 82 [some (.inr (63)), some (.inr (a1)), some (.inl (x2)), some (.inl (x3)), some (.inl (x4)), some (.inl (x5)), none, none, none] [] σ) (kf : ¬ (σ.1 63 4) ≤ x6 → z_J Γ zm_Model_goEnemy 19 [some (.inr (63)), some (.inr (a1)), some (.inl (x2)), some (.inl (x3)), some (.inl (x4)), some (.inl (x5)), some (.inl (x6)), none, none] [] σ) : z_J Γ zm_Model_goEnemy 10 [some (.inr (63)), some (.inr (a1)), some (.inl (x2)), some (.inl (x3)), some (.inl (x4)), some (.inl (x5)), some (.inl (x6)), none, none] [] σ := by
  refine zj_iload zd_Model_goEnemy_10 rfl ?_
  refine zj_aload_n zd_Model_goEnemy_12 rfl ?_
  refine zj_getI rfl (by decide) rfl zu_Model (k := 4) (by decide) rfl zl_Model_19 zd_Model_goEnemy_13 ?_
  exact zj_icmp_ge zd_Model_goEnemy_16 (by decide) (fun h => (zj_weak (L' := [some (.inr (63)), some (.inr (a1)), some (.inl (x2)), some (.inl (x3)), some (.inl (x4)), some (.inl (x5)), none, none, none]) ⟨rfl, ⟨rfl, ⟨rfl, ⟨rfl, ⟨rfl, ⟨rfl, trivial⟩⟩⟩⟩⟩⟩ (kt h))) (fun h => (kf h))
theorem zb_Model_goEnemy_19 {Γ : zG} {σ : zS} {a1 : Nat} {x2 x3 x4 x5 x6 : Int32} {dc : Nat} {P : Int32 → zS → Prop} (h_a1 : z_kd a1 = (11, 53)) (hm : z_Ci dc zm_Model_highest [.inr (63), .inr (a1), .inl (x6)] σ P) (hdp : dc < z_dep Γ) (k : ∀ r σ1, P r σ1 → z_J Γ zm_Model_goEnemy 26 [some (.inr (63)), some (.inr (a1)), some (.inl (x2)), some (.inl (x3)), some (.inl (x4)), some (.inl (x5)), some (.inl (x6)), none, none] [.inl (r)] σ1) : z_J Γ zm_Model_goEnemy 19 [some (.inr (63)), some (.inr (a1)), some (.inl (x2)), some (.inl (x3)), some (.inl (x4)), some (.inl (x5)), some (.inl (x6)), none, none] [] σ := by
  refine zj_aload_n zd_Model_goEnemy_19 rfl ?_
  refine zj_aload_n zd_Model_goEnemy_20 rfl ?_
  refine zj_iload zd_Model_goEnemy_21 rfl ?_
  exact zj_callVi (As := [.inr (a1), .inl (x6)]) hm hdp rfl (by decide) rfl zl_Model_269 zq_Model_highest zd_Model_goEnemy_23 rfl (Nat.le_of_ble_eq_true rfl) (fun r σ1 h => (k r σ1 h))
theorem zb_Model_goEnemy_26 {Γ : zG} {σ : zS} {a1 : Nat} {x2 x3 x4 x5 x6 y0 : Int32} (h_a1 : z_kd a1 = (11, 53)) (kt : ¬ y0 = (-1) → z_J Γ zm_Model_goEnemy 37 [some (.inr (63)), some (.inr (a1)), some (.inl (x2)), some (.inl (x3)), some (.inl (x4)), some (.inl (x5)), some (.inl (x6)), some (.inl (y0)), none] [] σ) (kf : y0 = (-1) → z_J Γ zm_Model_goEnemy 34 [some (.inr (63)), some (.inr (a1)), some (.inl (x2)), some (.inl (x3)), some (.inl (x4)), some (.inl (x5)), some (.inl (x6)), none, none] [] σ) : z_J Γ zm_Model_goEnemy 26 [some (.inr (63)), some (.inr (a1)), some (.inl (x2)), some (.inl (x3)), some (.inl (x4)), some (.inl (x5)), some (.inl (x6)), none, none] [.inl (y0)] σ := by
  refine zj_istore (L' := [some (.inr (63)), some (.inr (a1)), some (.inl (x2)), some (.inl (x3)), some (.inl (x4)), some (.inl (x5)), some (.inl (x6)), some (.inl (y0)), none]) zd_Model_goEnemy_26 (by decide) rfl ?_
  refine zj_iload zd_Model_goEnemy_28 rfl ?_
  refine zj_iconst (v := (-1)) zd_Model_goEnemy_30 (by decide) ?_
  exact zj_icmp_ne zd_Model_goEnemy_31 (by decide) (fun h => (kt h)) (fun h => (zj_weak (L' := [some (.inr (63)), some (.inr (a1)), some (.inl (x2)), some (.inl (x3)), some (.inl (x4)), some (.inl (x5)), some (.inl (x6)), none, none]) ⟨rfl, ⟨rfl, ⟨rfl, ⟨rfl, ⟨rfl, ⟨rfl, ⟨rfl, trivial⟩⟩⟩⟩⟩⟩⟩ (kf h)))
theorem zb_Model_goEnemy_34 {Γ : zG} {σ : zS} {a1 : Nat} {x2 x3 x4 x5 x6 : Int32} (h_a1 : z_kd a1 = (11, 53)) (k : z_J Γ zm_Model_goEnemy 76 [some (.inr (63)), some (.inr (a1)), some (.inl (x2)), some (.inl (x3)), some (.inl (x4)), some (.inl (x5)), some (.inl (x6)), none, none] [] σ) : z_J Γ zm_Model_goEnemy 34 [some (.inr (63)), some (.inr (a1)), some (.inl (x2)), some (.inl (x3)), some (.inl (x4)), some (.inl (x5)), some (.inl (x6)), none, none] [] σ := by
  exact zj_goto zd_Model_goEnemy_34 (by decide) k
theorem zb_Model_goEnemy_37 {Γ : zG} {σ : zS} {a1 : Nat} {x2 x3 x4 x5 x6 x7 : Int32} {k1 : Nat} {dc : Nat} {P : Int32 → zS → Prop} (h_a1 : z_kd a1 = (11, 53)) (b1 : z_ix x7 53 k1) (hm : z_Ci dc zm_Model_goPlay [.inr (63), .inr (a1), .inl (x2 + (nI 1)), .inl (x3)] (z_pI σ a1 k1 (nI 3)) P) (hdp : dc < z_dep Γ) (k : ∀ r σ1, P r σ1 → z_J Γ zm_Model_goEnemy 51 [some (.inr (63)), some (.inr (a1)), some (.inl (x2)), some (.inl (x3)), some (.inl (x4)), some (.inl (x5)), some (.inl (x6)), some (.inl (x7)), none] [.inl (r)] σ1) : z_J Γ zm_Model_goEnemy 37 [some (.inr (63)), some (.inr (a1)), some (.inl (x2)), some (.inl (x3)), some (.inl (x4)), some (.inl (x5)), some (.inl (x6)), some (.inl (x7)), none] [] σ := by
  refine zj_aload_n zd_Model_goEnemy_37 rfl ?_
  refine zj_iload zd_Model_goEnemy_38 rfl ?_
  refine zj_iconst (v := nI 3) zd_Model_goEnemy_40 (by decide) ?_
  refine zj_iastore h_a1 (by decide) b1 zd_Model_goEnemy_41 ?_
  refine zj_aload_n zd_Model_goEnemy_42 rfl ?_
  refine zj_aload_n zd_Model_goEnemy_43 rfl ?_
  refine zj_iload_n zd_Model_goEnemy_44 rfl ?_
  refine zj_iconst (v := nI 1) zd_Model_goEnemy_45 (by decide) ?_
  refine zj_iadd zd_Model_goEnemy_46 ?_
  refine zj_iload_n zd_Model_goEnemy_47 rfl ?_
  exact zj_callVi (As := [.inr (a1), .inl (x2 + (nI 1)), .inl (x3)]) hm hdp rfl (by decide) rfl zl_Model_369 zq_Model_goPlay zd_Model_goEnemy_48 rfl (Nat.le_of_ble_eq_true rfl) (fun r σ1 h => (k r σ1 h))
theorem zb_Model_goEnemy_51 {Γ : zG} {σ : zS} {a1 : Nat} {x2 x3 x4 x5 x6 x7 y0 : Int32} {k1 : Nat} (h_a1 : z_kd a1 = (11, 53)) (b1 : z_ix x7 53 k1) (kt : y0 < x4 → z_J Γ zm_Model_goEnemy 68 [some (.inr (63)), some (.inr (a1)), some (.inl (x2)), some (.inl (x3)), none, none, some (.inl (x6)), none, some (.inl (y0))] [] (z_pI σ a1 k1 (nI 1))) (kf : ¬ y0 < x4 → z_J Γ zm_Model_goEnemy 65 [some (.inr (63)), some (.inr (a1)), some (.inl (x2)), some (.inl (x3)), some (.inl (x4)), some (.inl (x5)), some (.inl (x6)), none, none] [] (z_pI σ a1 k1 (nI 1))) : z_J Γ zm_Model_goEnemy 51 [some (.inr (63)), some (.inr (a1)), some (.inl (x2)), some (.inl (x3)), some (.inl (x4)), some (.inl (x5)), some (.inl (x6)), some (.inl (x7)), none] [.inl (y0)] σ := by
  refine zj_istore (L' := [some (.inr (63)), some (.inr (a1)), some (.inl (x2)), some (.inl (x3)), some (.inl (x4)), some (.inl (x5)), some (.inl (x6)), some (.inl (x7)), some (.inl (y0))]) zd_Model_goEnemy_51 (by decide) rfl ?_
  refine zj_aload_n zd_Model_goEnemy_53 rfl ?_
  refine zj_iload zd_Model_goEnemy_54 rfl ?_
  refine zj_iconst (v := nI 1) zd_Model_goEnemy_56 (by decide) ?_
  refine zj_iastore h_a1 (by decide) b1 zd_Model_goEnemy_57 ?_
  refine zj_iload zd_Model_goEnemy_58 rfl ?_
  refine zj_iload zd_Model_goEnemy_60 rfl ?_
  exact zj_icmp_lt zd_Model_goEnemy_62 (by decide) (fun h => (zj_weak (L' := [some (.inr (63)), some (.inr (a1)), some (.inl (x2)), some (.inl (x3)), none, none, some (.inl (x6)), none, some (.inl (y0))]) ⟨rfl, ⟨rfl, ⟨rfl, ⟨rfl, ⟨rfl, ⟨rfl, trivial⟩⟩⟩⟩⟩⟩ (kt h))) (fun h => (zj_weak (L' := [some (.inr (63)), some (.inr (a1)), some (.inl (x2)), some (.inl (x3)), some (.inl (x4)), some (.inl (x5)), some (.inl (x6)), none, none]) ⟨rfl, ⟨rfl, ⟨rfl, ⟨rfl, ⟨rfl, ⟨rfl, ⟨rfl, trivial⟩⟩⟩⟩⟩⟩⟩ (kf h)))
theorem zb_Model_goEnemy_65 {Γ : zG} {σ : zS} {a1 : Nat} {x2 x3 x4 x5 x6 : Int32} (h_a1 : z_kd a1 = (11, 53)) (k : z_J Γ zm_Model_goEnemy 76 [some (.inr (63)), some (.inr (a1)), some (.inl (x2)), some (.inl (x3)), some (.inl (x4)), some (.inl (x5)), some (.inl (x6)), none, none] [] σ) : z_J Γ zm_Model_goEnemy 65 [some (.inr (63)), some (.inr (a1)), some (.inl (x2)), some (.inl (x3)), some (.inl (x4)), some (.inl (x5)), some (.inl (x6)), none, none] [] σ := by
  exact zj_goto zd_Model_goEnemy_65 (by decide) k
theorem zb_Model_goEnemy_68 {Γ : zG} {σ : zS} {a1 : Nat} {x2 x3 x6 x8 : Int32} (h_a1 : z_kd a1 = (11, 53)) (k : z_J Γ zm_Model_goEnemy 76 [some (.inr (63)), some (.inr (a1)), some (.inl (x2)), some (.inl (x3)), some (.inl (x8)), some (.inl (x6)), some (.inl (x6)), none, none] [] σ) : z_J Γ zm_Model_goEnemy 68 [some (.inr (63)), some (.inr (a1)), some (.inl (x2)), some (.inl (x3)), none, none, some (.inl (x6)), none, some (.inl (x8))] [] σ := by
  refine zj_iload zd_Model_goEnemy_68 rfl ?_
  refine zj_istore (L' := [some (.inr (63)), some (.inr (a1)), some (.inl (x2)), some (.inl (x3)), some (.inl (x8)), none, some (.inl (x6)), none, some (.inl (x8))]) zd_Model_goEnemy_70 (by decide) rfl ?_
  refine zj_iload zd_Model_goEnemy_72 rfl ?_
  refine zj_istore (L' := [some (.inr (63)), some (.inr (a1)), some (.inl (x2)), some (.inl (x3)), some (.inl (x8)), some (.inl (x6)), some (.inl (x6)), none, some (.inl (x8))]) zd_Model_goEnemy_74 (by decide) rfl ?_
  exact (zj_weak (L' := [some (.inr (63)), some (.inr (a1)), some (.inl (x2)), some (.inl (x3)), some (.inl (x8)), some (.inl (x6)), some (.inl (x6)), none, none]) ⟨rfl, ⟨rfl, ⟨rfl, ⟨rfl, ⟨rfl, ⟨rfl, ⟨rfl, trivial⟩⟩⟩⟩⟩⟩⟩ k)
theorem zb_Model_goEnemy_76 {Γ : zG} {σ : zS} {a1 : Nat} {x2 x3 x4 x5 x6 : Int32} (h_a1 : z_kd a1 = (11, 53)) (k : z_J Γ zm_Model_goEnemy 10 [some (.inr (63)), some (.inr (a1)), some (.inl (x2)), some (.inl (x3)), some (.inl (x4)), some (.inl (x5)), some (.inl (x6 + nI 1)), none, none] [] σ) : z_J Γ zm_Model_goEnemy 76 [some (.inr (63)), some (.inr (a1)), some (.inl (x2)), some (.inl (x3)), some (.inl (x4)), some (.inl (x5)), some (.inl (x6)), none, none] [] σ := by
  refine zj_iinc (v := nI 1) (L' := [some (.inr (63)), some (.inr (a1)), some (.inl (x2)), some (.inl (x3)), some (.inl (x4)), some (.inl (x5)), some (.inl (x6 + nI 1)), none, none]) zd_Model_goEnemy_76 rfl (by decide) (by decide) rfl ?_
  exact zj_goto zd_Model_goEnemy_79 (by decide) k
theorem zb_Model_goEnemy_82 {Γ : zG} {σ : zS} {a1 : Nat} {x2 x3 x4 x5 : Int32} (h_a1 : z_kd a1 = (11, 53)) (kt : ¬ x4 = (1000000 : Int32) → z_J Γ zm_Model_goEnemy 100 [some (.inr (63)), none, none, none, some (.inl (x4)), some (.inl (x5)), none, none, none] [] σ) (kf : x4 = (1000000 : Int32) → z_J Γ zm_Model_goEnemy 89 [some (.inr (63)), some (.inr (a1)), some (.inl (x2)), some (.inl (x3)), none, some (.inl (x5)), none, none, none] [] σ) : z_J Γ zm_Model_goEnemy 82 [some (.inr (63)), some (.inr (a1)), some (.inl (x2)), some (.inl (x3)), some (.inl (x4)), some (.inl (x5)), none, none, none] [] σ := by
  refine zj_iload zd_Model_goEnemy_82 rfl ?_
  refine zj_ldc (v := 1000000) zl_Model_254 zd_Model_goEnemy_84 ?_
  exact zj_icmp_ne zd_Model_goEnemy_86 (by decide) (fun h => (zj_weak (L' := [some (.inr (63)), none, none, none, some (.inl (x4)), some (.inl (x5)), none, none, none]) ⟨rfl, ⟨rfl, ⟨rfl, trivial⟩⟩⟩ (kt h))) (fun h => (zj_weak (L' := [some (.inr (63)), some (.inr (a1)), some (.inl (x2)), some (.inl (x3)), none, some (.inl (x5)), none, none, none]) ⟨rfl, ⟨rfl, ⟨rfl, ⟨rfl, ⟨rfl, trivial⟩⟩⟩⟩⟩ (kf h)))
theorem zb_Model_goEnemy_89 {Γ : zG} {σ : zS} {a1 : Nat} {x2 x3 x5 : Int32} {dc : Nat} {P : Int32 → zS → Prop} (h_a1 : z_kd a1 = (11, 53)) (hm : z_Ci dc zm_Model_goPlay [.inr (63), .inr (a1), .inl (x2 + (nI 1)), .inl (x3)] σ P) (hdp : dc < z_dep Γ) (k : ∀ r σ1, P r σ1 → z_J Γ zm_Model_goEnemy 98 [some (.inr (63)), none, none, none, none, some (.inl (x5)), none, none, none] [.inl (r)] σ1) : z_J Γ zm_Model_goEnemy 89 [some (.inr (63)), some (.inr (a1)), some (.inl (x2)), some (.inl (x3)), none, some (.inl (x5)), none, none, none] [] σ := by
  refine zj_aload_n zd_Model_goEnemy_89 rfl ?_
  refine zj_aload_n zd_Model_goEnemy_90 rfl ?_
  refine zj_iload_n zd_Model_goEnemy_91 rfl ?_
  refine zj_iconst (v := nI 1) zd_Model_goEnemy_92 (by decide) ?_
  refine zj_iadd zd_Model_goEnemy_93 ?_
  refine zj_iload_n zd_Model_goEnemy_94 rfl ?_
  exact zj_callVi (As := [.inr (a1), .inl (x2 + (nI 1)), .inl (x3)]) hm hdp rfl (by decide) rfl zl_Model_369 zq_Model_goPlay zd_Model_goEnemy_95 rfl (Nat.le_of_ble_eq_true rfl) (fun r σ1 h => (zj_weak (L' := [some (.inr (63)), none, none, none, none, some (.inl (x5)), none, none, none]) ⟨rfl, ⟨rfl, trivial⟩⟩ (k r σ1 h)))
theorem zb_Model_goEnemy_98 {Γ : zG} {σ : zS} {x5 y0 : Int32}  (k : z_J Γ zm_Model_goEnemy 100 [some (.inr (63)), none, none, none, some (.inl (y0)), some (.inl (x5)), none, none, none] [] σ) : z_J Γ zm_Model_goEnemy 98 [some (.inr (63)), none, none, none, none, some (.inl (x5)), none, none, none] [.inl (y0)] σ := by
  refine zj_istore (L' := [some (.inr (63)), none, none, none, some (.inl (y0)), some (.inl (x5)), none, none, none]) zd_Model_goEnemy_98 (by decide) rfl ?_
  exact k
theorem zb_Model_goEnemy_100 {Γ : zG} {σ : zS} {x4 x5 : Int32}  (e : z_end Γ (some (x4)) (z_pI σ 63 39 x5)) : z_J Γ zm_Model_goEnemy 100 [some (.inr (63)), none, none, none, some (.inl (x4)), some (.inl (x5)), none, none, none] [] σ := by
  refine zj_aload_n zd_Model_goEnemy_100 rfl ?_
  refine zj_iload zd_Model_goEnemy_101 rfl ?_
  refine zj_putI rfl (by decide) rfl zu_Model zy_Model_ok zn_Model (k := 39) (by decide) rfl rfl zl_Model_372 rfl rfl zd_Model_goEnemy_103 ?_
  refine zj_iload zd_Model_goEnemy_106 rfl ?_
  exact zj_ireturn rfl zd_Model_goEnemy_108 e
theorem zd_Model_goCity_0 : decode zm_Model_goCity.2.1 0 = .ok (.aload_n 0, 1) := by decide +kernel
theorem zd_Model_goCity_1 : decode zm_Model_goCity.2.1 1 = .ok (.aload_n 1, 1) := by decide +kernel
theorem zd_Model_goCity_2 : decode zm_Model_goCity.2.1 2 = .ok (.iload_n 2, 1) := by decide +kernel
theorem zd_Model_goCity_3 : decode zm_Model_goCity.2.1 3 = .ok (.iconst 1, 1) := by decide +kernel
theorem zd_Model_goCity_4 : decode zm_Model_goCity.2.1 4 = .ok (.iadd, 1) := by decide +kernel
theorem zd_Model_goCity_5 : decode zm_Model_goCity.2.1 5 = .ok (.iload_n 3, 1) := by decide +kernel
theorem zd_Model_goCity_6 : decode zm_Model_goCity.2.1 6 = .ok (.invokevirtual 369, 3) := by decide +kernel
theorem zd_Model_goCity_9 : decode zm_Model_goCity.2.1 9 = .ok (.istore 4, 2) := by decide +kernel
theorem zd_Model_goCity_11 : decode zm_Model_goCity.2.1 11 = .ok (.iconst 0, 1) := by decide +kernel
theorem zd_Model_goCity_12 : decode zm_Model_goCity.2.1 12 = .ok (.istore 5, 2) := by decide +kernel
theorem zd_Model_goCity_14 : decode zm_Model_goCity.2.1 14 = .ok (.iload 5, 2) := by decide +kernel
theorem zd_Model_goCity_16 : decode zm_Model_goCity.2.1 16 = .ok (.aload_n 0, 1) := by decide +kernel
theorem zd_Model_goCity_17 : decode zm_Model_goCity.2.1 17 = .ok (.getfield 97, 3) := by decide +kernel
theorem zd_Model_goCity_20 : decode zm_Model_goCity.2.1 20 = .ok (.if_icmp .ge 96, 3) := by decide +kernel
theorem zd_Model_goCity_23 : decode zm_Model_goCity.2.1 23 = .ok (.iconst 0, 1) := by decide +kernel
theorem zd_Model_goCity_24 : decode zm_Model_goCity.2.1 24 = .ok (.istore 6, 2) := by decide +kernel
theorem zd_Model_goCity_26 : decode zm_Model_goCity.2.1 26 = .ok (.iload 6, 2) := by decide +kernel
theorem zd_Model_goCity_28 : decode zm_Model_goCity.2.1 28 = .ok (.aload_n 0, 1) := by decide +kernel
theorem zd_Model_goCity_29 : decode zm_Model_goCity.2.1 29 = .ok (.getfield 19, 3) := by decide +kernel
theorem zd_Model_goCity_32 : decode zm_Model_goCity.2.1 32 = .ok (.if_icmp .ge 78, 3) := by decide +kernel
theorem zd_Model_goCity_35 : decode zm_Model_goCity.2.1 35 = .ok (.aload_n 0, 1) := by decide +kernel
theorem zd_Model_goCity_36 : decode zm_Model_goCity.2.1 36 = .ok (.aload_n 1, 1) := by decide +kernel
theorem zd_Model_goCity_37 : decode zm_Model_goCity.2.1 37 = .ok (.iload 5, 2) := by decide +kernel
theorem zd_Model_goCity_39 : decode zm_Model_goCity.2.1 39 = .ok (.iload 6, 2) := by decide +kernel
theorem zd_Model_goCity_41 : decode zm_Model_goCity.2.1 41 = .ok (.invokevirtual 281, 3) := by decide +kernel
theorem zd_Model_goCity_44 : decode zm_Model_goCity.2.1 44 = .ok (.ifCond .ge 6, 3) := by decide +kernel
theorem zd_Model_goCity_47 : decode zm_Model_goCity.2.1 47 = .ok (.goto 57, 3) := by decide +kernel
theorem zd_Model_goCity_50 : decode zm_Model_goCity.2.1 50 = .ok (.aload_n 1, 1) := by decide +kernel
theorem zd_Model_goCity_51 : decode zm_Model_goCity.2.1 51 = .ok (.bipush 12, 2) := by decide +kernel
theorem zd_Model_goCity_53 : decode zm_Model_goCity.2.1 53 = .ok (.iload 5, 2) := by decide +kernel
theorem zd_Model_goCity_55 : decode zm_Model_goCity.2.1 55 = .ok (.iadd, 1) := by decide +kernel
theorem zd_Model_goCity_56 : decode zm_Model_goCity.2.1 56 = .ok (.iaload, 1) := by decide +kernel
theorem zd_Model_goCity_57 : decode zm_Model_goCity.2.1 57 = .ok (.istore 7, 2) := by decide +kernel
theorem zd_Model_goCity_59 : decode zm_Model_goCity.2.1 59 = .ok (.aload_n 1, 1) := by decide +kernel
theorem zd_Model_goCity_60 : decode zm_Model_goCity.2.1 60 = .ok (.bipush 24, 2) := by decide +kernel
theorem zd_Model_goCity_62 : decode zm_Model_goCity.2.1 62 = .ok (.iload 5, 2) := by decide +kernel
theorem zd_Model_goCity_64 : decode zm_Model_goCity.2.1 64 = .ok (.iadd, 1) := by decide +kernel
theorem zd_Model_goCity_65 : decode zm_Model_goCity.2.1 65 = .ok (.iaload, 1) := by decide +kernel
theorem zd_Model_goCity_66 : decode zm_Model_goCity.2.1 66 = .ok (.istore 8, 2) := by decide +kernel
theorem zd_Model_goCity_68 : decode zm_Model_goCity.2.1 68 = .ok (.aload_n 0, 1) := by decide +kernel
theorem zd_Model_goCity_69 : decode zm_Model_goCity.2.1 69 = .ok (.aload_n 1, 1) := by decide +kernel
theorem zd_Model_goCity_70 : decode zm_Model_goCity.2.1 70 = .ok (.iload 5, 2) := by decide +kernel
theorem zd_Model_goCity_72 : decode zm_Model_goCity.2.1 72 = .ok (.iload 6, 2) := by decide +kernel
theorem zd_Model_goCity_74 : decode zm_Model_goCity.2.1 74 = .ok (.invokevirtual 288, 3) := by decide +kernel
theorem zd_Model_goCity_77 : decode zm_Model_goCity.2.1 77 = .ok (.iload 4, 2) := by decide +kernel
theorem zd_Model_goCity_79 : decode zm_Model_goCity.2.1 79 = .ok (.aload_n 0, 1) := by decide +kernel
theorem zd_Model_goCity_80 : decode zm_Model_goCity.2.1 80 = .ok (.aload_n 1, 1) := by decide +kernel
theorem zd_Model_goCity_81 : decode zm_Model_goCity.2.1 81 = .ok (.iload_n 2, 1) := by decide +kernel
theorem zd_Model_goCity_82 : decode zm_Model_goCity.2.1 82 = .ok (.iconst 1, 1) := by decide +kernel
theorem zd_Model_goCity_83 : decode zm_Model_goCity.2.1 83 = .ok (.iadd, 1) := by decide +kernel
theorem zd_Model_goCity_84 : decode zm_Model_goCity.2.1 84 = .ok (.iload_n 3, 1) := by decide +kernel
theorem zd_Model_goCity_85 : decode zm_Model_goCity.2.1 85 = .ok (.invokevirtual 369, 3) := by decide +kernel
theorem zd_Model_goCity_88 : decode zm_Model_goCity.2.1 88 = .ok (.invokestatic 226, 3) := by decide +kernel
theorem zd_Model_goCity_91 : decode zm_Model_goCity.2.1 91 = .ok (.istore 4, 2) := by decide +kernel
theorem zd_Model_goCity_93 : decode zm_Model_goCity.2.1 93 = .ok (.aload_n 1, 1) := by decide +kernel
theorem zd_Model_goCity_94 : decode zm_Model_goCity.2.1 94 = .ok (.iload 5, 2) := by decide +kernel
theorem zd_Model_goCity_96 : decode zm_Model_goCity.2.1 96 = .ok (.iconst 0, 1) := by decide +kernel
theorem zd_Model_goCity_97 : decode zm_Model_goCity.2.1 97 = .ok (.iload 7, 2) := by decide +kernel
theorem zd_Model_goCity_99 : decode zm_Model_goCity.2.1 99 = .ok (.iload 8, 2) := by decide +kernel
theorem zd_Model_goCity_101 : decode zm_Model_goCity.2.1 101 = .ok (.invokestatic 173, 3) := by decide +kernel
theorem zd_Model_goCity_104 : decode zm_Model_goCity.2.1 104 = .ok (.iinc 6 1, 3) := by decide +kernel
theorem zd_Model_goCity_107 : decode zm_Model_goCity.2.1 107 = .ok (.goto (-81), 3) := by decide +kernel
theorem zd_Model_goCity_110 : decode zm_Model_goCity.2.1 110 = .ok (.iinc 5 1, 3) := by decide +kernel
theorem zd_Model_goCity_113 : decode zm_Model_goCity.2.1 113 = .ok (.goto (-99), 3) := by decide +kernel
theorem zd_Model_goCity_116 : decode zm_Model_goCity.2.1 116 = .ok (.iload 4, 2) := by decide +kernel
theorem zd_Model_goCity_118 : decode zm_Model_goCity.2.1 118 = .ok (.ireturn, 1) := by decide +kernel
theorem zb_Model_goCity_0 {Γ : zG} {σ : zS} {a1 : Nat} {x2 x3 : Int32} {dc : Nat} {P : Int32 → zS → Prop} (h_a1 : z_kd a1 = (11, 53)) (hm : z_Ci dc zm_Model_goPlay [.inr (63), .inr (a1), .inl (x2 + (nI 1)), .inl (x3)] σ P) (hdp : dc < z_dep Γ) (k : ∀ r σ1, P r σ1 → z_J Γ zm_Model_goCity 9 [some (.inr (63)), some (.inr (a1)), some (.inl (x2)), some (.inl (x3)), none, none, none, none, none] [.inl (r)] σ1) : z_J Γ zm_Model_goCity 0 [some (.inr (63)), some (.inr (a1)), some (.inl (x2)), some (.inl (x3)), none, none, none, none, none] [] σ := by
  refine zj_aload_n zd_Model_goCity_0 rfl ?_
  refine zj_aload_n zd_Model_goCity_1 rfl ?_
  refine zj_iload_n zd_Model_goCity_2 rfl ?_
  refine zj_iconst (v := nI 1) zd_Model_goCity_3 (by decide) ?_
  refine zj_iadd zd_Model_goCity_4 ?_
  refine zj_iload_n zd_Model_goCity_5 rfl ?_
  exact zj_callVi (As := [.inr (a1), .inl (x2 + (nI 1)), .inl (x3)]) hm hdp rfl (by decide) rfl zl_Model_369 zq_Model_goPlay zd_Model_goCity_6 rfl (Nat.le_of_ble_eq_true rfl) (fun r σ1 h => (k r σ1 h))
theorem zb_Model_goCity_9 {Γ : zG} {σ : zS} {a1 : Nat} {x2 x3 y0 : Int32} (h_a1 : z_kd a1 = (11, 53)) (k : z_J Γ zm_Model_goCity 14 [some (.inr (63)), some (.inr (a1)), some (.inl (x2)), some (.inl (x3)), some (.inl (y0)), some (.inl (nI 0)), none, none, none] [] σ) : z_J Γ zm_Model_goCity 9 [some (.inr (63)), some (.inr (a1)), some (.inl (x2)), some (.inl (x3)), none, none, none, none, none] [.inl (y0)] σ := by
  refine zj_istore (L' := [some (.inr (63)), some (.inr (a1)), some (.inl (x2)), some (.inl (x3)), some (.inl (y0)), none, none, none, none]) zd_Model_goCity_9 (by decide) rfl ?_
  refine zj_iconst (v := nI 0) zd_Model_goCity_11 (by decide) ?_
  refine zj_istore (L' := [some (.inr (63)), some (.inr (a1)), some (.inl (x2)), some (.inl (x3)), some (.inl (y0)), some (.inl (nI 0)), none, none, none]) zd_Model_goCity_12 (by decide) rfl ?_
  exact k
theorem zb_Model_goCity_14 {Γ : zG} {σ : zS} {a1 : Nat} {x2 x3 x4 x5 : Int32} (h_a1 : z_kd a1 = (11, 53)) (kt : (σ.1 63 1) ≤ x5 → z_J Γ zm_Model_goCity 116 [none, none, none, none, some (.inl (x4)), none, none, none, none] [] σ) (kf : ¬ (σ.1 63 1) ≤ x5 → z_J Γ zm_Model_goCity 23 [some (.inr (63)), some (.inr (a1)), some (.inl (x2)), some (.inl (x3)), some (.inl (x4)), some (.inl (x5)), none, none, none] [] σ) : z_J Γ zm_Model_goCity 14 [some (.inr (63)), some (.inr (a1)), some (.inl (x2)), some (.inl (x3)), some (.inl (x4)), some (.inl (x5)), none, none, none] [] σ := by
  refine zj_iload zd_Model_goCity_14 rfl ?_
  refine zj_aload_n zd_Model_goCity_16 rfl ?_
  refine zj_getI rfl (by decide) rfl zu_Model (k := 1) (by decide) rfl zl_Model_97 zd_Model_goCity_17 ?_
  exact zj_icmp_ge zd_Model_goCity_20 (by decide) (fun h => (zj_weak (L' := [none, none, none, none, some (.inl (x4)), none, none, none, none]) ⟨rfl, trivial⟩ (kt h))) (fun h => (kf h))
theorem zb_Model_goCity_23 {Γ : zG} {σ : zS} {a1 : Nat} {x2 x3 x4 x5 : Int32} (h_a1 : z_kd a1 = (11, 53)) (k : z_J Γ zm_Model_goCity 26 [some (.inr (63)), some (.inr (a1)), some (.inl (x2)), some (.inl (x3)), some (.inl (x4)), some (.inl (x5)), some (.inl (nI 0)), none, none] [] σ) : z_J Γ zm_Model_goCity 23 [some (.inr (63)), some (.inr (a1)), some (.inl (x2)), some (.inl (x3)), some (.inl (x4)), some (.inl (x5)), none, none, none] [] σ := by
  refine zj_iconst (v := nI 0) zd_Model_goCity_23 (by decide) ?_
  refine zj_istore (L' := [some (.inr (63)), some (.inr (a1)), some (.inl (x2)), some (.inl (x3)), some (.inl (x4)), some (.inl (x5)), some (.inl (nI 0)), none, none]) zd_Model_goCity_24 (by decide) rfl ?_
  exact k
theorem zb_Model_goCity_26 {Γ : zG} {σ : zS} {a1 : Nat} {x2 x3 x4 x5 x6 : Int32} (h_a1 : z_kd a1 = (11, 53)) (kt : (σ.1 63 4) ≤ x6 → z_J Γ zm_Model_goCity 110 [some (.inr (63)), some (.inr (a1)), some (.inl (x2)), some (.inl (x3)), some (.inl (x4)), some (.inl (x5)), none, none, none] [] σ) (kf : ¬ (σ.1 63 4) ≤ x6 → z_J Γ zm_Model_goCity 35 [some (.inr (63)), some (.inr (a1)), some (.inl (x2)), some (.inl (x3)), some (.inl (x4)), some (.inl (x5)), some (.inl (x6)), none, none] [] σ) : z_J Γ zm_Model_goCity 26 [some (.inr (63)), some (.inr (a1)), some (.inl (x2)), some (.inl (x3)), some (.inl (x4)), some (.inl (x5)), some (.inl (x6)), none, none] [] σ := by
  refine zj_iload zd_Model_goCity_26 rfl ?_
  refine zj_aload_n zd_Model_goCity_28 rfl ?_
  refine zj_getI rfl (by decide) rfl zu_Model (k := 4) (by decide) rfl zl_Model_19 zd_Model_goCity_29 ?_
  exact zj_icmp_ge zd_Model_goCity_32 (by decide) (fun h => (zj_weak (L' := [some (.inr (63)), some (.inr (a1)), some (.inl (x2)), some (.inl (x3)), some (.inl (x4)), some (.inl (x5)), none, none, none]) ⟨rfl, ⟨rfl, ⟨rfl, ⟨rfl, ⟨rfl, ⟨rfl, trivial⟩⟩⟩⟩⟩⟩ (kt h))) (fun h => (kf h))
theorem zb_Model_goCity_35 {Γ : zG} {σ : zS} {a1 : Nat} {x2 x3 x4 x5 x6 : Int32} {dc : Nat} {P : Int32 → zS → Prop} (h_a1 : z_kd a1 = (11, 53)) (hm : z_Ci dc zm_Model_refusesLay [.inr (63), .inr (a1), .inl (x5), .inl (x6)] σ P) (hdp : dc < z_dep Γ) (k : ∀ r σ1, P r σ1 → z_J Γ zm_Model_goCity 44 [some (.inr (63)), some (.inr (a1)), some (.inl (x2)), some (.inl (x3)), some (.inl (x4)), some (.inl (x5)), some (.inl (x6)), none, none] [.inl (r)] σ1) : z_J Γ zm_Model_goCity 35 [some (.inr (63)), some (.inr (a1)), some (.inl (x2)), some (.inl (x3)), some (.inl (x4)), some (.inl (x5)), some (.inl (x6)), none, none] [] σ := by
  refine zj_aload_n zd_Model_goCity_35 rfl ?_
  refine zj_aload_n zd_Model_goCity_36 rfl ?_
  refine zj_iload zd_Model_goCity_37 rfl ?_
  refine zj_iload zd_Model_goCity_39 rfl ?_
  exact zj_callVi (As := [.inr (a1), .inl (x5), .inl (x6)]) hm hdp rfl (by decide) rfl zl_Model_281 zq_Model_refusesLay zd_Model_goCity_41 rfl (Nat.le_of_ble_eq_true rfl) (fun r σ1 h => (k r σ1 h))
theorem zb_Model_goCity_44 {Γ : zG} {σ : zS} {a1 : Nat} {x2 x3 x4 x5 x6 y0 : Int32} (h_a1 : z_kd a1 = (11, 53)) (kt : 0 ≤ y0 → z_J Γ zm_Model_goCity 50 [some (.inr (63)), some (.inr (a1)), some (.inl (x2)), some (.inl (x3)), some (.inl (x4)), some (.inl (x5)), some (.inl (x6)), none, none] [] σ) (kf : ¬ 0 ≤ y0 → z_J Γ zm_Model_goCity 47 [some (.inr (63)), some (.inr (a1)), some (.inl (x2)), some (.inl (x3)), some (.inl (x4)), some (.inl (x5)), some (.inl (x6)), none, none] [] σ) : z_J Γ zm_Model_goCity 44 [some (.inr (63)), some (.inr (a1)), some (.inl (x2)), some (.inl (x3)), some (.inl (x4)), some (.inl (x5)), some (.inl (x6)), none, none] [.inl (y0)] σ := by
  exact zj_if_ge zd_Model_goCity_44 (by decide) (fun h => (kt h)) (fun h => (kf h))
theorem zb_Model_goCity_47 {Γ : zG} {σ : zS} {a1 : Nat} {x2 x3 x4 x5 x6 : Int32} (h_a1 : z_kd a1 = (11, 53)) (k : z_J Γ zm_Model_goCity 104 [some (.inr (63)), some (.inr (a1)), some (.inl (x2)), some (.inl (x3)), some (.inl (x4)), some (.inl (x5)), some (.inl (x6)), none, none] [] σ) : z_J Γ zm_Model_goCity 47 [some (.inr (63)), some (.inr (a1)), some (.inl (x2)), some (.inl (x3)), some (.inl (x4)), some (.inl (x5)), some (.inl (x6)), none, none] [] σ := by
  exact zj_goto zd_Model_goCity_47 (by decide) k
theorem zb_Model_goCity_50 {Γ : zG} {σ : zS} {a1 : Nat} {x2 x3 x4 x5 x6 : Int32} {k1 k2 : Nat} {dc : Nat} {P : zS → Prop} (h_a1 : z_kd a1 = (11, 53)) (b1 : z_ix ((nI 12) + x5) 53 k1) (b2 : z_ix ((nI 24) + x5) 53 k2) (hm : z_Cv dc zm_Model_goLay [.inr (63), .inr (a1), .inl (x5), .inl (x6)] σ P) (hdp : dc < z_dep Γ) (k : ∀ σ1, P σ1 → z_J Γ zm_Model_goCity 77 [some (.inr (63)), some (.inr (a1)), some (.inl (x2)), some (.inl (x3)), some (.inl (x4)), some (.inl (x5)), some (.inl (x6)), some (.inl (σ.1 a1 k1)), some (.inl (σ.1 a1 k2))] [] σ1) : z_J Γ zm_Model_goCity 50 [some (.inr (63)), some (.inr (a1)), some (.inl (x2)), some (.inl (x3)), some (.inl (x4)), some (.inl (x5)), some (.inl (x6)), none, none] [] σ := by
  refine zj_aload_n zd_Model_goCity_50 rfl ?_
  refine zj_bipush (v := nI 12) zd_Model_goCity_51 (by decide) ?_
  refine zj_iload zd_Model_goCity_53 rfl ?_
  refine zj_iadd zd_Model_goCity_55 ?_
  refine zj_iaload h_a1 (by decide) b1 zd_Model_goCity_56 ?_
  refine zj_istore (L' := [some (.inr (63)), some (.inr (a1)), some (.inl (x2)), some (.inl (x3)), some (.inl (x4)), some (.inl (x5)), some (.inl (x6)), some (.inl (σ.1 a1 k1)), none]) zd_Model_goCity_57 (by decide) rfl ?_
  refine zj_aload_n zd_Model_goCity_59 rfl ?_
  refine zj_bipush (v := nI 24) zd_Model_goCity_60 (by decide) ?_
  refine zj_iload zd_Model_goCity_62 rfl ?_
  refine zj_iadd zd_Model_goCity_64 ?_
  refine zj_iaload h_a1 (by decide) b2 zd_Model_goCity_65 ?_
  refine zj_istore (L' := [some (.inr (63)), some (.inr (a1)), some (.inl (x2)), some (.inl (x3)), some (.inl (x4)), some (.inl (x5)), some (.inl (x6)), some (.inl (σ.1 a1 k1)), some (.inl (σ.1 a1 k2))]) zd_Model_goCity_66 (by decide) rfl ?_
  refine zj_aload_n zd_Model_goCity_68 rfl ?_
  refine zj_aload_n zd_Model_goCity_69 rfl ?_
  refine zj_iload zd_Model_goCity_70 rfl ?_
  refine zj_iload zd_Model_goCity_72 rfl ?_
  exact zj_callVv (As := [.inr (a1), .inl (x5), .inl (x6)]) hm hdp rfl (by decide) rfl zl_Model_288 zq_Model_goLay zd_Model_goCity_74 rfl (Nat.le_of_ble_eq_true rfl) (fun σ1 h => (k σ1 h))
theorem zb_Model_goCity_77 {Γ : zG} {σ : zS} {a1 : Nat} {x2 x3 x4 x5 x6 x7 x8 : Int32} {dc : Nat} {P : Int32 → zS → Prop} (h_a1 : z_kd a1 = (11, 53)) (hm : z_Ci dc zm_Model_goPlay [.inr (63), .inr (a1), .inl (x2 + (nI 1)), .inl (x3)] σ P) (hdp : dc < z_dep Γ) (k : ∀ r σ1, P r σ1 → z_J Γ zm_Model_goCity 88 [some (.inr (63)), some (.inr (a1)), some (.inl (x2)), some (.inl (x3)), none, some (.inl (x5)), some (.inl (x6)), some (.inl (x7)), some (.inl (x8))] [.inl (r), .inl (x4)] σ1) : z_J Γ zm_Model_goCity 77 [some (.inr (63)), some (.inr (a1)), some (.inl (x2)), some (.inl (x3)), some (.inl (x4)), some (.inl (x5)), some (.inl (x6)), some (.inl (x7)), some (.inl (x8))] [] σ := by
  refine zj_iload zd_Model_goCity_77 rfl ?_
  refine zj_aload_n zd_Model_goCity_79 rfl ?_
  refine zj_aload_n zd_Model_goCity_80 rfl ?_
  refine zj_iload_n zd_Model_goCity_81 rfl ?_
  refine zj_iconst (v := nI 1) zd_Model_goCity_82 (by decide) ?_
  refine zj_iadd zd_Model_goCity_83 ?_
  refine zj_iload_n zd_Model_goCity_84 rfl ?_
  exact zj_callVi (As := [.inr (a1), .inl (x2 + (nI 1)), .inl (x3)]) hm hdp rfl (by decide) rfl zl_Model_369 zq_Model_goPlay zd_Model_goCity_85 rfl (Nat.le_of_ble_eq_true rfl) (fun r σ1 h => (zj_weak (L' := [some (.inr (63)), some (.inr (a1)), some (.inl (x2)), some (.inl (x3)), none, some (.inl (x5)), some (.inl (x6)), some (.inl (x7)), some (.inl (x8))]) ⟨rfl, ⟨rfl, ⟨rfl, ⟨rfl, ⟨rfl, ⟨rfl, ⟨rfl, ⟨rfl, trivial⟩⟩⟩⟩⟩⟩⟩⟩ (k r σ1 h)))
theorem zb_Model_goCity_88 {Γ : zG} {σ : zS} {a1 : Nat} {x2 x3 x5 x6 x7 x8 y0 y1 : Int32} {dc : Nat} {P : zS → Prop} (h_a1 : z_kd a1 = (11, 53)) (hm : z_Cv dc zm_Model_put [.inr (a1), .inl (x5), .inl (nI 0), .inl (x7), .inl (x8)] σ P) (hdp : dc < z_dep Γ) (k : ∀ σ1, P σ1 → z_J Γ zm_Model_goCity 104 [some (.inr (63)), some (.inr (a1)), some (.inl (x2)), some (.inl (x3)), some (.inl (z_max y1 y0)), some (.inl (x5)), some (.inl (x6)), none, none] [] σ1) : z_J Γ zm_Model_goCity 88 [some (.inr (63)), some (.inr (a1)), some (.inl (x2)), some (.inl (x3)), none, some (.inl (x5)), some (.inl (x6)), some (.inl (x7)), some (.inl (x8))] [.inl (y0), .inl (y1)] σ := by
  refine zj_mmax zl_Model_226 zx_max_s zx_Math zx_max_c (Nat.lt_of_le_of_lt (Nat.zero_le _) hdp) (Nat.le_of_ble_eq_true rfl) zd_Model_goCity_88 ?_
  refine zj_istore (L' := [some (.inr (63)), some (.inr (a1)), some (.inl (x2)), some (.inl (x3)), some (.inl (z_max y1 y0)), some (.inl (x5)), some (.inl (x6)), some (.inl (x7)), some (.inl (x8))]) zd_Model_goCity_91 (by decide) rfl ?_
  refine zj_aload_n zd_Model_goCity_93 rfl ?_
  refine zj_iload zd_Model_goCity_94 rfl ?_
  refine zj_iconst (v := nI 0) zd_Model_goCity_96 (by decide) ?_
  refine zj_iload zd_Model_goCity_97 rfl ?_
  refine zj_iload zd_Model_goCity_99 rfl ?_
  exact zj_callSv (As := [.inr (a1), .inl (x5), .inl (nI 0), .inl (x7), .inl (x8)]) hm hdp zl_Model_173 zq_Model_put zd_Model_goCity_101 rfl (Nat.le_of_ble_eq_true rfl) (fun σ1 h => (zj_weak (L' := [some (.inr (63)), some (.inr (a1)), some (.inl (x2)), some (.inl (x3)), some (.inl (z_max y1 y0)), some (.inl (x5)), some (.inl (x6)), none, none]) ⟨rfl, ⟨rfl, ⟨rfl, ⟨rfl, ⟨rfl, ⟨rfl, ⟨rfl, trivial⟩⟩⟩⟩⟩⟩⟩ (k σ1 h)))
theorem zb_Model_goCity_104 {Γ : zG} {σ : zS} {a1 : Nat} {x2 x3 x4 x5 x6 : Int32} (h_a1 : z_kd a1 = (11, 53)) (k : z_J Γ zm_Model_goCity 26 [some (.inr (63)), some (.inr (a1)), some (.inl (x2)), some (.inl (x3)), some (.inl (x4)), some (.inl (x5)), some (.inl (x6 + nI 1)), none, none] [] σ) : z_J Γ zm_Model_goCity 104 [some (.inr (63)), some (.inr (a1)), some (.inl (x2)), some (.inl (x3)), some (.inl (x4)), some (.inl (x5)), some (.inl (x6)), none, none] [] σ := by
  refine zj_iinc (v := nI 1) (L' := [some (.inr (63)), some (.inr (a1)), some (.inl (x2)), some (.inl (x3)), some (.inl (x4)), some (.inl (x5)), some (.inl (x6 + nI 1)), none, none]) zd_Model_goCity_104 rfl (by decide) (by decide) rfl ?_
  exact zj_goto zd_Model_goCity_107 (by decide) k
theorem zb_Model_goCity_110 {Γ : zG} {σ : zS} {a1 : Nat} {x2 x3 x4 x5 : Int32} (h_a1 : z_kd a1 = (11, 53)) (k : z_J Γ zm_Model_goCity 14 [some (.inr (63)), some (.inr (a1)), some (.inl (x2)), some (.inl (x3)), some (.inl (x4)), some (.inl (x5 + nI 1)), none, none, none] [] σ) : z_J Γ zm_Model_goCity 110 [some (.inr (63)), some (.inr (a1)), some (.inl (x2)), some (.inl (x3)), some (.inl (x4)), some (.inl (x5)), none, none, none] [] σ := by
  refine zj_iinc (v := nI 1) (L' := [some (.inr (63)), some (.inr (a1)), some (.inl (x2)), some (.inl (x3)), some (.inl (x4)), some (.inl (x5 + nI 1)), none, none, none]) zd_Model_goCity_110 rfl (by decide) (by decide) rfl ?_
  exact zj_goto zd_Model_goCity_113 (by decide) k
theorem zb_Model_goCity_116 {Γ : zG} {σ : zS} {x4 : Int32}  (e : z_end Γ (some (x4)) σ) : z_J Γ zm_Model_goCity 116 [none, none, none, none, some (.inl (x4)), none, none, none, none] [] σ := by
  refine zj_iload zd_Model_goCity_116 rfl ?_
  exact zj_ireturn rfl zd_Model_goCity_118 e
theorem zd_Model_law_0 : decode zm_Model_law.2.1 0 = .ok (.aload_n 0, 1) := by decide +kernel
theorem zd_Model_law_1 : decode zm_Model_law.2.1 1 = .ok (.iconst 0, 1) := by decide +kernel
theorem zd_Model_law_2 : decode zm_Model_law.2.1 2 = .ok (.putfield 91, 3) := by decide +kernel
theorem zd_Model_law_5 : decode zm_Model_law.2.1 5 = .ok (.aload_n 0, 1) := by decide +kernel
theorem zd_Model_law_6 : decode zm_Model_law.2.1 6 = .ok (.getfield 107, 3) := by decide +kernel
theorem zd_Model_law_9 : decode zm_Model_law.2.1 9 = .ok (.istore_n 1, 1) := by decide +kernel
theorem zd_Model_law_10 : decode zm_Model_law.2.1 10 = .ok (.aload_n 0, 1) := by decide +kernel
theorem zd_Model_law_11 : decode zm_Model_law.2.1 11 = .ok (.invokevirtual 215, 3) := by decide +kernel
theorem zd_Model_law_14 : decode zm_Model_law.2.1 14 = .ok (.ifCond .ne 12, 3) := by decide +kernel
theorem zd_Model_law_17 : decode zm_Model_law.2.1 17 = .ok (.sipush (-10000), 3) := by decide +kernel
theorem zd_Model_law_20 : decode zm_Model_law.2.1 20 = .ok (.aload_n 0, 1) := by decide +kernel
theorem zd_Model_law_21 : decode zm_Model_law.2.1 21 = .ok (.getfield 122, 3) := by decide +kernel
theorem zd_Model_law_24 : decode zm_Model_law.2.1 24 = .ok (.isub, 1) := by decide +kernel
theorem zd_Model_law_25 : decode zm_Model_law.2.1 25 = .ok (.ireturn, 1) := by decide +kernel
theorem zd_Model_law_26 : decode zm_Model_law.2.1 26 = .ok (.aload_n 0, 1) := by decide +kernel
theorem zd_Model_law_27 : decode zm_Model_law.2.1 27 = .ok (.invokevirtual 375, 3) := by decide +kernel
theorem zd_Model_law_30 : decode zm_Model_law.2.1 30 = .ok (.istore_n 2, 1) := by decide +kernel
theorem zd_Model_law_31 : decode zm_Model_law.2.1 31 = .ok (.aload_n 0, 1) := by decide +kernel
theorem zd_Model_law_32 : decode zm_Model_law.2.1 32 = .ok (.invokevirtual 378, 3) := by decide +kernel
theorem zd_Model_law_35 : decode zm_Model_law.2.1 35 = .ok (.istore_n 3, 1) := by decide +kernel
theorem zd_Model_law_36 : decode zm_Model_law.2.1 36 = .ok (.aload_n 0, 1) := by decide +kernel
theorem zd_Model_law_37 : decode zm_Model_law.2.1 37 = .ok (.getfield 42, 3) := by decide +kernel
theorem zd_Model_law_40 : decode zm_Model_law.2.1 40 = .ok (.astore 4, 2) := by decide +kernel
theorem zd_Model_law_42 : decode zm_Model_law.2.1 42 = .ok (.aload_n 0, 1) := by decide +kernel
theorem zd_Model_law_43 : decode zm_Model_law.2.1 43 = .ok (.getfield 218, 3) := by decide +kernel
theorem zd_Model_law_46 : decode zm_Model_law.2.1 46 = .ok (.istore 5, 2) := by decide +kernel
theorem zd_Model_law_48 : decode zm_Model_law.2.1 48 = .ok (.aload_n 0, 1) := by decide +kernel
theorem zd_Model_law_49 : decode zm_Model_law.2.1 49 = .ok (.aload_n 0, 1) := by decide +kernel
theorem zd_Model_law_50 : decode zm_Model_law.2.1 50 = .ok (.getfield 45, 3) := by decide +kernel
theorem zd_Model_law_53 : decode zm_Model_law.2.1 53 = .ok (.putfield 42, 3) := by decide +kernel
theorem zd_Model_law_56 : decode zm_Model_law.2.1 56 = .ok (.aload_n 0, 1) := by decide +kernel
theorem zd_Model_law_57 : decode zm_Model_law.2.1 57 = .ok (.iload_n 1, 1) := by decide +kernel
theorem zd_Model_law_58 : decode zm_Model_law.2.1 58 = .ok (.putfield 218, 3) := by decide +kernel
theorem zd_Model_law_61 : decode zm_Model_law.2.1 61 = .ok (.iconst 0, 1) := by decide +kernel
theorem zd_Model_law_62 : decode zm_Model_law.2.1 62 = .ok (.istore 6, 2) := by decide +kernel
theorem zd_Model_law_64 : decode zm_Model_law.2.1 64 = .ok (.iload 6, 2) := by decide +kernel
theorem zd_Model_law_66 : decode zm_Model_law.2.1 66 = .ok (.iload_n 1, 1) := by decide +kernel
theorem zd_Model_law_67 : decode zm_Model_law.2.1 67 = .ok (.if_icmp .ge 23, 3) := by decide +kernel
theorem zd_Model_law_70 : decode zm_Model_law.2.1 70 = .ok (.aload_n 0, 1) := by decide +kernel
theorem zd_Model_law_71 : decode zm_Model_law.2.1 71 = .ok (.getfield 42, 3) := by decide +kernel
theorem zd_Model_law_74 : decode zm_Model_law.2.1 74 = .ok (.iload 6, 2) := by decide +kernel
theorem zd_Model_law_76 : decode zm_Model_law.2.1 76 = .ok (.aload_n 0, 1) := by decide +kernel
theorem zd_Model_law_77 : decode zm_Model_law.2.1 77 = .ok (.getfield 26, 3) := by decide +kernel
theorem zd_Model_law_80 : decode zm_Model_law.2.1 80 = .ok (.iload 6, 2) := by decide +kernel
theorem zd_Model_law_82 : decode zm_Model_law.2.1 82 = .ok (.baload, 1) := by decide +kernel
theorem zd_Model_law_83 : decode zm_Model_law.2.1 83 = .ok (.bastore, 1) := by decide +kernel
theorem zd_Model_law_84 : decode zm_Model_law.2.1 84 = .ok (.iinc 6 1, 3) := by decide +kernel
theorem zd_Model_law_87 : decode zm_Model_law.2.1 87 = .ok (.goto (-23), 3) := by decide +kernel
theorem zd_Model_law_90 : decode zm_Model_law.2.1 90 = .ok (.aload_n 0, 1) := by decide +kernel
theorem zd_Model_law_91 : decode zm_Model_law.2.1 91 = .ok (.invokevirtual 375, 3) := by decide +kernel
theorem zd_Model_law_94 : decode zm_Model_law.2.1 94 = .ok (.istore 6, 2) := by decide +kernel
theorem zd_Model_law_96 : decode zm_Model_law.2.1 96 = .ok (.aload_n 0, 1) := by decide +kernel
theorem zd_Model_law_97 : decode zm_Model_law.2.1 97 = .ok (.invokevirtual 378, 3) := by decide +kernel
theorem zd_Model_law_100 : decode zm_Model_law.2.1 100 = .ok (.istore 7, 2) := by decide +kernel
theorem zd_Model_law_102 : decode zm_Model_law.2.1 102 = .ok (.aload_n 0, 1) := by decide +kernel
theorem zd_Model_law_103 : decode zm_Model_law.2.1 103 = .ok (.aload 4, 2) := by decide +kernel
theorem zd_Model_law_105 : decode zm_Model_law.2.1 105 = .ok (.putfield 42, 3) := by decide +kernel
theorem zd_Model_law_108 : decode zm_Model_law.2.1 108 = .ok (.aload_n 0, 1) := by decide +kernel
theorem zd_Model_law_109 : decode zm_Model_law.2.1 109 = .ok (.iload 5, 2) := by decide +kernel
theorem zd_Model_law_111 : decode zm_Model_law.2.1 111 = .ok (.putfield 218, 3) := by decide +kernel
theorem zd_Model_law_114 : decode zm_Model_law.2.1 114 = .ok (.aload_n 0, 1) := by decide +kernel
theorem zd_Model_law_115 : decode zm_Model_law.2.1 115 = .ok (.iconst 0, 1) := by decide +kernel
theorem zd_Model_law_116 : decode zm_Model_law.2.1 116 = .ok (.putfield 94, 3) := by decide +kernel
theorem zd_Model_law_119 : decode zm_Model_law.2.1 119 = .ok (.aload_n 0, 1) := by decide +kernel
theorem zd_Model_law_120 : decode zm_Model_law.2.1 120 = .ok (.iload_n 2, 1) := by decide +kernel
theorem zd_Model_law_121 : decode zm_Model_law.2.1 121 = .ok (.invokevirtual 312, 3) := by decide +kernel
theorem zd_Model_law_124 : decode zm_Model_law.2.1 124 = .ok (.aload_n 0, 1) := by decide +kernel
theorem zd_Model_law_125 : decode zm_Model_law.2.1 125 = .ok (.iload 7, 2) := by decide +kernel
theorem zd_Model_law_127 : decode zm_Model_law.2.1 127 = .ok (.iload_n 3, 1) := by decide +kernel
theorem zd_Model_law_128 : decode zm_Model_law.2.1 128 = .ok (.isub, 1) := by decide +kernel
theorem zd_Model_law_129 : decode zm_Model_law.2.1 129 = .ok (.invokevirtual 312, 3) := by decide +kernel
theorem zd_Model_law_132 : decode zm_Model_law.2.1 132 = .ok (.iload 6, 2) := by decide +kernel
theorem zd_Model_law_134 : decode zm_Model_law.2.1 134 = .ok (.ireturn, 1) := by decide +kernel
theorem zb_Model_law_0 {Γ : zG} {σ : zS} {dc : Nat} {P : Int32 → zS → Prop}  (hm : z_Ci dc zm_Model_readRule [.inr (63)] (z_pI σ 63 11 (nI 0)) P) (hdp : dc < z_dep Γ) (k : ∀ r σ1, P r σ1 → z_J Γ zm_Model_law 14 [some (.inr (63)), some (.inl ((z_pI σ 63 11 (nI 0)).1 63 8)), none, none, none, none, none, none] [.inl (r)] σ1) : z_J Γ zm_Model_law 0 [some (.inr (63)), none, none, none, none, none, none, none] [] σ := by
  refine zj_aload_n zd_Model_law_0 rfl ?_
  refine zj_iconst (v := nI 0) zd_Model_law_1 (by decide) ?_
  refine zj_putI rfl (by decide) rfl zu_Model zy_Model_ok zn_Model (k := 11) (by decide) rfl rfl zl_Model_91 rfl rfl zd_Model_law_2 ?_
  refine zj_aload_n zd_Model_law_5 rfl ?_
  refine zj_getI rfl (by decide) rfl zu_Model (k := 8) (by decide) rfl zl_Model_107 zd_Model_law_6 ?_
  refine zj_istore_n (L' := [some (.inr (63)), some (.inl ((z_pI σ 63 11 (nI 0)).1 63 8)), none, none, none, none, none, none]) zd_Model_law_9 (by decide) rfl ?_
  refine zj_aload_n zd_Model_law_10 rfl ?_
  exact zj_callVi (As := []) hm hdp rfl (by decide) rfl zl_Model_215 zq_Model_readRule zd_Model_law_11 rfl (Nat.le_of_ble_eq_true rfl) (fun r σ1 h => (k r σ1 h))
theorem zb_Model_law_14 {Γ : zG} {σ : zS} {x1 y0 : Int32}  (kt : ¬ y0 = 0 → z_J Γ zm_Model_law 26 [some (.inr (63)), some (.inl (x1)), none, none, none, none, none, none] [] σ) (kf : y0 = 0 → z_J Γ zm_Model_law 17 [some (.inr (63)), none, none, none, none, none, none, none] [] σ) : z_J Γ zm_Model_law 14 [some (.inr (63)), some (.inl (x1)), none, none, none, none, none, none] [.inl (y0)] σ := by
  exact zj_if_ne zd_Model_law_14 (by decide) (fun h => (kt h)) (fun h => (zj_weak (L' := [some (.inr (63)), none, none, none, none, none, none, none]) ⟨rfl, trivial⟩ (kf h)))
theorem zb_Model_law_17 {Γ : zG} {σ : zS}  (e : z_end Γ (some ((-10000) - (σ.1 63 16))) σ) : z_J Γ zm_Model_law 17 [some (.inr (63)), none, none, none, none, none, none, none] [] σ := by
  refine zj_sipush (v := (-10000)) zd_Model_law_17 (by decide) ?_
  refine zj_aload_n zd_Model_law_20 rfl ?_
  refine zj_getI rfl (by decide) rfl zu_Model (k := 16) (by decide) rfl zl_Model_122 zd_Model_law_21 ?_
  refine zj_isub zd_Model_law_24 ?_
  exact zj_ireturn rfl zd_Model_law_25 e
theorem zb_Model_law_26 {Γ : zG} {σ : zS} {x1 : Int32} {dc : Nat} {P : Int32 → zS → Prop}  (hm : z_Ci dc zm_Model_heldBits [.inr (63)] σ P) (hdp : dc < z_dep Γ) (k : ∀ r σ1, P r σ1 → z_J Γ zm_Model_law 30 [some (.inr (63)), some (.inl (x1)), none, none, none, none, none, none] [.inl (r)] σ1) : z_J Γ zm_Model_law 26 [some (.inr (63)), some (.inl (x1)), none, none, none, none, none, none] [] σ := by
  refine zj_aload_n zd_Model_law_26 rfl ?_
  exact zj_callVi (As := []) hm hdp rfl (by decide) rfl zl_Model_375 zq_Model_heldBits zd_Model_law_27 rfl (Nat.le_of_ble_eq_true rfl) (fun r σ1 h => (k r σ1 h))
theorem zb_Model_law_30 {Γ : zG} {σ : zS} {x1 y0 : Int32} {dc : Nat} {P : Int32 → zS → Prop}  (hm : z_Ci dc zm_Model_allBear [.inr (63)] σ P) (hdp : dc < z_dep Γ) (k : ∀ r σ1, P r σ1 → z_J Γ zm_Model_law 35 [some (.inr (63)), some (.inl (x1)), some (.inl (y0)), none, none, none, none, none] [.inl (r)] σ1) : z_J Γ zm_Model_law 30 [some (.inr (63)), some (.inl (x1)), none, none, none, none, none, none] [.inl (y0)] σ := by
  refine zj_istore_n (L' := [some (.inr (63)), some (.inl (x1)), some (.inl (y0)), none, none, none, none, none]) zd_Model_law_30 (by decide) rfl ?_
  refine zj_aload_n zd_Model_law_31 rfl ?_
  exact zj_callVi (As := []) hm hdp rfl (by decide) rfl zl_Model_378 zq_Model_allBear zd_Model_law_32 rfl (Nat.le_of_ble_eq_true rfl) (fun r σ1 h => (k r σ1 h))
theorem zb_Model_law_35 {Γ : zG} {σ : zS} {x1 x2 y0 : Int32} {nm1 : Nat}  (m1 : z_kd (σ.2 63 20) = (9, nm1)) (k : z_J Γ zm_Model_law 64 [some (.inr (63)), some (.inl (x1)), some (.inl (x2)), some (.inl (y0)), some (.inr (σ.2 63 20)), some (.inl (σ.1 63 22)), some (.inl (nI 0)), none] [] (z_pI (z_pR σ 63 20 73) 63 22 x1)) : z_J Γ zm_Model_law 35 [some (.inr (63)), some (.inl (x1)), some (.inl (x2)), none, none, none, none, none] [.inl (y0)] σ := by
  refine zj_istore_n (L' := [some (.inr (63)), some (.inl (x1)), some (.inl (x2)), some (.inl (y0)), none, none, none, none]) zd_Model_law_35 (by decide) rfl ?_
  refine zj_aload_n zd_Model_law_36 rfl ?_
  refine zj_getM rfl (by decide) rfl zu_Model (k := 20) (by decide) rfl zl_Model_42 zd_Model_law_37 (z_lt m1 (by decide)) ?_
  refine zj_astore (L' := [some (.inr (63)), some (.inl (x1)), some (.inl (x2)), some (.inl (y0)), some (.inr (σ.2 63 20)), none, none, none]) zd_Model_law_40 (by decide) rfl ?_
  refine zj_aload_n zd_Model_law_42 rfl ?_
  refine zj_getI rfl (by decide) rfl zu_Model (k := 22) (by decide) rfl zl_Model_218 zd_Model_law_43 ?_
  refine zj_istore (L' := [some (.inr (63)), some (.inl (x1)), some (.inl (x2)), some (.inl (y0)), some (.inr (σ.2 63 20)), some (.inl (σ.1 63 22)), none, none]) zd_Model_law_46 (by decide) rfl ?_
  refine zj_aload_n zd_Model_law_48 rfl ?_
  refine zj_aload_n zd_Model_law_49 rfl ?_
  refine zj_getR rfl (by decide) rfl zu_Model (k := 21) (by decide) rfl zl_Model_45 zd_Model_law_50 (o' := 73) rfl ?_
  refine zj_putM rfl (by decide) rfl zu_Model zy_Model_ok zn_Model (k := 20) (by decide) rfl rfl zl_Model_42 (z_lt rfl (by decide)) (fun _ => rfl) (fun _ => rfl) zd_Model_law_53 ?_
  refine zj_aload_n zd_Model_law_56 rfl ?_
  refine zj_iload_n zd_Model_law_57 rfl ?_
  refine zj_putI rfl (by decide) rfl zu_Model zy_Model_ok zn_Model (k := 22) (by decide) rfl rfl zl_Model_218 rfl rfl zd_Model_law_58 ?_
  refine zj_iconst (v := nI 0) zd_Model_law_61 (by decide) ?_
  refine zj_istore (L' := [some (.inr (63)), some (.inl (x1)), some (.inl (x2)), some (.inl (y0)), some (.inr (σ.2 63 20)), some (.inl (σ.1 63 22)), some (.inl (nI 0)), none]) zd_Model_law_62 (by decide) rfl ?_
  exact k
theorem zb_Model_law_64 {Γ : zG} {σ : zS} {x1 x2 x3 x5 x6 : Int32}  (kt : x1 ≤ x6 → z_J Γ zm_Model_law 90 [some (.inr (63)), none, some (.inl (x2)), some (.inl (x3)), some (.inr (σ.2 63 20)), some (.inl (x5)), none, none] [] σ) (kf : ¬ x1 ≤ x6 → z_J Γ zm_Model_law 70 [some (.inr (63)), some (.inl (x1)), some (.inl (x2)), some (.inl (x3)), some (.inr (σ.2 63 20)), some (.inl (x5)), some (.inl (x6)), none] [] σ) : z_J Γ zm_Model_law 64 [some (.inr (63)), some (.inl (x1)), some (.inl (x2)), some (.inl (x3)), some (.inr (σ.2 63 20)), some (.inl (x5)), some (.inl (x6)), none] [] σ := by
  refine zj_iload zd_Model_law_64 rfl ?_
  refine zj_iload_n zd_Model_law_66 rfl ?_
  exact zj_icmp_ge zd_Model_law_67 (by decide) (fun h => (zj_weak (L' := [some (.inr (63)), none, some (.inl (x2)), some (.inl (x3)), some (.inr (σ.2 63 20)), some (.inl (x5)), none, none]) ⟨rfl, ⟨rfl, ⟨rfl, ⟨rfl, ⟨rfl, trivial⟩⟩⟩⟩⟩ (kt h))) (fun h => (kf h))
theorem zb_Model_law_70 {Γ : zG} {σ : zS} {x1 x2 x3 x5 x6 : Int32} {nm1 k1 k2 : Nat} (hs_nm1 : nm1 < 2 ^ 31) (m1 : z_kd (σ.2 63 20) = (9, nm1)) (b1 : z_ix x6 80 k1) (b2 : z_ix x6 nm1 k2) (k : z_J Γ zm_Model_law 64 [some (.inr (63)), some (.inl (x1)), some (.inl (x2)), some (.inl (x3)), some (.inr (σ.2 63 20)), some (.inl (x5)), some (.inl (x6 + nI 1)), none] [] (z_pI σ (σ.2 63 20) k2 (vp_nar .byte (σ.1 68 k1)))) : z_J Γ zm_Model_law 70 [some (.inr (63)), some (.inl (x1)), some (.inl (x2)), some (.inl (x3)), some (.inr (σ.2 63 20)), some (.inl (x5)), some (.inl (x6)), none] [] σ := by
  refine zj_aload_n zd_Model_law_70 rfl ?_
  refine zj_getM rfl (by decide) rfl zu_Model (k := 20) (by decide) rfl zl_Model_42 zd_Model_law_71 (z_lt m1 (by decide)) ?_
  refine zj_iload zd_Model_law_74 rfl ?_
  refine zj_aload_n zd_Model_law_76 rfl ?_
  refine zj_getR rfl (by decide) rfl zu_Model (k := 7) (by decide) rfl zl_Model_26 zd_Model_law_77 (o' := 68) rfl ?_
  refine zj_iload zd_Model_law_80 rfl ?_
  refine zj_baload rfl (by decide) b1 zd_Model_law_82 ?_
  refine zj_bastore m1 hs_nm1 b2 zd_Model_law_83 ?_
  refine zj_iinc (v := nI 1) (L' := [some (.inr (63)), some (.inl (x1)), some (.inl (x2)), some (.inl (x3)), some (.inr (σ.2 63 20)), some (.inl (x5)), some (.inl (x6 + nI 1)), none]) zd_Model_law_84 rfl (by decide) (by decide) rfl ?_
  exact zj_goto zd_Model_law_87 (by decide) k
theorem zb_Model_law_90 {Γ : zG} {σ : zS} {x2 x3 x5 : Int32} {dc : Nat} {P : Int32 → zS → Prop}  (hm : z_Ci dc zm_Model_heldBits [.inr (63)] σ P) (hdp : dc < z_dep Γ) (k : ∀ r σ1, P r σ1 → z_J Γ zm_Model_law 94 [some (.inr (63)), none, some (.inl (x2)), some (.inl (x3)), some (.inr (σ.2 63 20)), some (.inl (x5)), none, none] [.inl (r)] σ1) : z_J Γ zm_Model_law 90 [some (.inr (63)), none, some (.inl (x2)), some (.inl (x3)), some (.inr (σ.2 63 20)), some (.inl (x5)), none, none] [] σ := by
  refine zj_aload_n zd_Model_law_90 rfl ?_
  exact zj_callVi (As := []) hm hdp rfl (by decide) rfl zl_Model_375 zq_Model_heldBits zd_Model_law_91 rfl (Nat.le_of_ble_eq_true rfl) (fun r σ1 h => (k r σ1 h))
theorem zb_Model_law_94 {Γ : zG} {σ : zS} {w4 : Nat} {nw4 : Nat} {x2 x3 x5 y0 : Int32} {dc : Nat} {P : Int32 → zS → Prop} (h_w4 : z_kd w4 = (9, nw4)) (hm : z_Ci dc zm_Model_allBear [.inr (63)] σ P) (hdp : dc < z_dep Γ) (k : ∀ r σ1, P r σ1 → z_J Γ zm_Model_law 100 [some (.inr (63)), none, some (.inl (x2)), some (.inl (x3)), some (.inr (w4)), some (.inl (x5)), some (.inl (y0)), none] [.inl (r)] σ1) : z_J Γ zm_Model_law 94 [some (.inr (63)), none, some (.inl (x2)), some (.inl (x3)), some (.inr (w4)), some (.inl (x5)), none, none] [.inl (y0)] σ := by
  refine zj_istore (L' := [some (.inr (63)), none, some (.inl (x2)), some (.inl (x3)), some (.inr (w4)), some (.inl (x5)), some (.inl (y0)), none]) zd_Model_law_94 (by decide) rfl ?_
  refine zj_aload_n zd_Model_law_96 rfl ?_
  exact zj_callVi (As := []) hm hdp rfl (by decide) rfl zl_Model_378 zq_Model_allBear zd_Model_law_97 rfl (Nat.le_of_ble_eq_true rfl) (fun r σ1 h => (k r σ1 h))
theorem zb_Model_law_100 {Γ : zG} {σ : zS} {w4 : Nat} {nw4 : Nat} {x2 x3 x5 x6 y0 : Int32} {dc : Nat} {P : zS → Prop} (h_w4 : z_kd w4 = (9, nw4)) (hm : z_Cv dc zm_Model_tell [.inr (63), .inl (x2)] (z_pI (z_pI (z_pR σ 63 20 w4) 63 22 x5) 63 10 (nI 0)) P) (hdp : dc < z_dep Γ) (k : ∀ σ1, P σ1 → z_J Γ zm_Model_law 124 [some (.inr (63)), none, none, some (.inl (x3)), none, none, some (.inl (x6)), some (.inl (y0))] [] σ1) : z_J Γ zm_Model_law 100 [some (.inr (63)), none, some (.inl (x2)), some (.inl (x3)), some (.inr (w4)), some (.inl (x5)), some (.inl (x6)), none] [.inl (y0)] σ := by
  refine zj_istore (L' := [some (.inr (63)), none, some (.inl (x2)), some (.inl (x3)), some (.inr (w4)), some (.inl (x5)), some (.inl (x6)), some (.inl (y0))]) zd_Model_law_100 (by decide) rfl ?_
  refine zj_aload_n zd_Model_law_102 rfl ?_
  refine zj_aload zd_Model_law_103 rfl ?_
  refine zj_putM rfl (by decide) rfl zu_Model zy_Model_ok zn_Model (k := 20) (by decide) rfl rfl zl_Model_42 (z_lt h_w4 (by decide)) (fun _ => rfl) (fun _ => rfl) zd_Model_law_105 ?_
  refine zj_aload_n zd_Model_law_108 rfl ?_
  refine zj_iload zd_Model_law_109 rfl ?_
  refine zj_putI rfl (by decide) rfl zu_Model zy_Model_ok zn_Model (k := 22) (by decide) rfl rfl zl_Model_218 rfl rfl zd_Model_law_111 ?_
  refine zj_aload_n zd_Model_law_114 rfl ?_
  refine zj_iconst (v := nI 0) zd_Model_law_115 (by decide) ?_
  refine zj_putI rfl (by decide) rfl zu_Model zy_Model_ok zn_Model (k := 10) (by decide) rfl rfl zl_Model_94 rfl rfl zd_Model_law_116 ?_
  refine zj_aload_n zd_Model_law_119 rfl ?_
  refine zj_iload_n zd_Model_law_120 rfl ?_
  exact zj_callVv (As := [.inl (x2)]) hm hdp rfl (by decide) rfl zl_Model_312 zq_Model_tell zd_Model_law_121 rfl (Nat.le_of_ble_eq_true rfl) (fun σ1 h => (zj_weak (L' := [some (.inr (63)), none, none, some (.inl (x3)), none, none, some (.inl (x6)), some (.inl (y0))]) ⟨rfl, ⟨rfl, ⟨rfl, ⟨rfl, trivial⟩⟩⟩⟩ (k σ1 h)))
theorem zb_Model_law_124 {Γ : zG} {σ : zS} {x3 x6 x7 : Int32} {dc : Nat} {P : zS → Prop}  (hm : z_Cv dc zm_Model_tell [.inr (63), .inl (x7 - x3)] σ P) (hdp : dc < z_dep Γ) (k : ∀ σ1, P σ1 → z_J Γ zm_Model_law 132 [none, none, none, none, none, none, some (.inl (x6)), none] [] σ1) : z_J Γ zm_Model_law 124 [some (.inr (63)), none, none, some (.inl (x3)), none, none, some (.inl (x6)), some (.inl (x7))] [] σ := by
  refine zj_aload_n zd_Model_law_124 rfl ?_
  refine zj_iload zd_Model_law_125 rfl ?_
  refine zj_iload_n zd_Model_law_127 rfl ?_
  refine zj_isub zd_Model_law_128 ?_
  exact zj_callVv (As := [.inl (x7 - x3)]) hm hdp rfl (by decide) rfl zl_Model_312 zq_Model_tell zd_Model_law_129 rfl (Nat.le_of_ble_eq_true rfl) (fun σ1 h => (zj_weak (L' := [none, none, none, none, none, none, some (.inl (x6)), none]) ⟨rfl, trivial⟩ (k σ1 h)))
theorem zb_Model_law_132 {Γ : zG} {σ : zS} {x6 : Int32}  (e : z_end Γ (some (x6)) σ) : z_J Γ zm_Model_law 132 [none, none, none, none, none, none, some (.inl (x6)), none] [] σ := by
  refine zj_iload zd_Model_law_132 rfl ?_
  exact zj_ireturn rfl zd_Model_law_134 e
theorem zd_Model_heldBits_0 : decode zm_Model_heldBits.2.1 0 = .ok (.iconst 0, 1) := by decide +kernel
theorem zd_Model_heldBits_1 : decode zm_Model_heldBits.2.1 1 = .ok (.istore_n 1, 1) := by decide +kernel
theorem zd_Model_heldBits_2 : decode zm_Model_heldBits.2.1 2 = .ok (.iconst 0, 1) := by decide +kernel
theorem zd_Model_heldBits_3 : decode zm_Model_heldBits.2.1 3 = .ok (.istore_n 2, 1) := by decide +kernel
theorem zd_Model_heldBits_4 : decode zm_Model_heldBits.2.1 4 = .ok (.iload_n 2, 1) := by decide +kernel
theorem zd_Model_heldBits_5 : decode zm_Model_heldBits.2.1 5 = .ok (.aload_n 0, 1) := by decide +kernel
theorem zd_Model_heldBits_6 : decode zm_Model_heldBits.2.1 6 = .ok (.getfield 19, 3) := by decide +kernel
theorem zd_Model_heldBits_9 : decode zm_Model_heldBits.2.1 9 = .ok (.if_icmp .ge 31, 3) := by decide +kernel
theorem zd_Model_heldBits_12 : decode zm_Model_heldBits.2.1 12 = .ok (.iload_n 1, 1) := by decide +kernel
theorem zd_Model_heldBits_13 : decode zm_Model_heldBits.2.1 13 = .ok (.aload_n 0, 1) := by decide +kernel
theorem zd_Model_heldBits_14 : decode zm_Model_heldBits.2.1 14 = .ok (.aload_n 0, 1) := by decide +kernel
theorem zd_Model_heldBits_15 : decode zm_Model_heldBits.2.1 15 = .ok (.getfield 9, 3) := by decide +kernel
theorem zd_Model_heldBits_18 : decode zm_Model_heldBits.2.1 18 = .ok (.iload_n 2, 1) := by decide +kernel
theorem zd_Model_heldBits_19 : decode zm_Model_heldBits.2.1 19 = .ok (.invokevirtual 177, 3) := by decide +kernel
theorem zd_Model_heldBits_22 : decode zm_Model_heldBits.2.1 22 = .ok (.ifCond .eq 9, 3) := by decide +kernel
theorem zd_Model_heldBits_25 : decode zm_Model_heldBits.2.1 25 = .ok (.iconst 1, 1) := by decide +kernel
theorem zd_Model_heldBits_26 : decode zm_Model_heldBits.2.1 26 = .ok (.iload_n 2, 1) := by decide +kernel
theorem zd_Model_heldBits_27 : decode zm_Model_heldBits.2.1 27 = .ok (.ishl, 1) := by decide +kernel
theorem zd_Model_heldBits_28 : decode zm_Model_heldBits.2.1 28 = .ok (.goto 4, 3) := by decide +kernel
theorem zd_Model_heldBits_31 : decode zm_Model_heldBits.2.1 31 = .ok (.iconst 0, 1) := by decide +kernel
theorem zd_Model_heldBits_32 : decode zm_Model_heldBits.2.1 32 = .ok (.ior, 1) := by decide +kernel
theorem zd_Model_heldBits_33 : decode zm_Model_heldBits.2.1 33 = .ok (.istore_n 1, 1) := by decide +kernel
theorem zd_Model_heldBits_34 : decode zm_Model_heldBits.2.1 34 = .ok (.iinc 2 1, 3) := by decide +kernel
theorem zd_Model_heldBits_37 : decode zm_Model_heldBits.2.1 37 = .ok (.goto (-33), 3) := by decide +kernel
theorem zd_Model_heldBits_40 : decode zm_Model_heldBits.2.1 40 = .ok (.iload_n 1, 1) := by decide +kernel
theorem zd_Model_heldBits_41 : decode zm_Model_heldBits.2.1 41 = .ok (.ireturn, 1) := by decide +kernel
theorem zb_Model_heldBits_0 {Γ : zG} {σ : zS}  (k : z_J Γ zm_Model_heldBits 4 [some (.inr (63)), some (.inl (nI 0)), some (.inl (nI 0))] [] σ) : z_J Γ zm_Model_heldBits 0 [some (.inr (63)), none, none] [] σ := by
  refine zj_iconst (v := nI 0) zd_Model_heldBits_0 (by decide) ?_
  refine zj_istore_n (L' := [some (.inr (63)), some (.inl (nI 0)), none]) zd_Model_heldBits_1 (by decide) rfl ?_
  refine zj_iconst (v := nI 0) zd_Model_heldBits_2 (by decide) ?_
  refine zj_istore_n (L' := [some (.inr (63)), some (.inl (nI 0)), some (.inl (nI 0))]) zd_Model_heldBits_3 (by decide) rfl ?_
  exact k
theorem zb_Model_heldBits_4 {Γ : zG} {σ : zS} {x1 x2 : Int32}  (kt : (σ.1 63 4) ≤ x2 → z_J Γ zm_Model_heldBits 40 [none, some (.inl (x1)), none] [] σ) (kf : ¬ (σ.1 63 4) ≤ x2 → z_J Γ zm_Model_heldBits 12 [some (.inr (63)), some (.inl (x1)), some (.inl (x2))] [] σ) : z_J Γ zm_Model_heldBits 4 [some (.inr (63)), some (.inl (x1)), some (.inl (x2))] [] σ := by
  refine zj_iload_n zd_Model_heldBits_4 rfl ?_
  refine zj_aload_n zd_Model_heldBits_5 rfl ?_
  refine zj_getI rfl (by decide) rfl zu_Model (k := 4) (by decide) rfl zl_Model_19 zd_Model_heldBits_6 ?_
  exact zj_icmp_ge zd_Model_heldBits_9 (by decide) (fun h => (zj_weak (L' := [none, some (.inl (x1)), none]) ⟨rfl, trivial⟩ (kt h))) (fun h => (kf h))
theorem zb_Model_heldBits_12 {Γ : zG} {σ : zS} {x1 x2 : Int32} {dc : Nat} {P : Int32 → zS → Prop}  (hm : z_Ci dc zm_Model_isHeld [.inr (63), .inr (64), .inl (x2)] σ P) (hdp : dc < z_dep Γ) (k : ∀ r σ1, P r σ1 → z_J Γ zm_Model_heldBits 22 [some (.inr (63)), none, some (.inl (x2))] [.inl (r), .inl (x1)] σ1) : z_J Γ zm_Model_heldBits 12 [some (.inr (63)), some (.inl (x1)), some (.inl (x2))] [] σ := by
  refine zj_iload_n zd_Model_heldBits_12 rfl ?_
  refine zj_aload_n zd_Model_heldBits_13 rfl ?_
  refine zj_aload_n zd_Model_heldBits_14 rfl ?_
  refine zj_getR rfl (by decide) rfl zu_Model (k := 0) (by decide) rfl zl_Model_9 zd_Model_heldBits_15 (o' := 64) rfl ?_
  refine zj_iload_n zd_Model_heldBits_18 rfl ?_
  exact zj_callVi (As := [.inr (64), .inl (x2)]) hm hdp rfl (by decide) rfl zl_Model_177 zq_Model_isHeld zd_Model_heldBits_19 rfl (Nat.le_of_ble_eq_true rfl) (fun r σ1 h => (zj_weak (L' := [some (.inr (63)), none, some (.inl (x2))]) ⟨rfl, ⟨rfl, trivial⟩⟩ (k r σ1 h)))
theorem zb_Model_heldBits_22 {Γ : zG} {σ : zS} {x2 y0 y1 : Int32}  (kt : y0 = 0 → z_J Γ zm_Model_heldBits 31 [some (.inr (63)), none, some (.inl (x2))] [.inl (y1)] σ) (kf : ¬ y0 = 0 → z_J Γ zm_Model_heldBits 25 [some (.inr (63)), none, some (.inl (x2))] [.inl (y1)] σ) : z_J Γ zm_Model_heldBits 22 [some (.inr (63)), none, some (.inl (x2))] [.inl (y0), .inl (y1)] σ := by
  exact zj_if_eq zd_Model_heldBits_22 (by decide) (fun h => (kt h)) (fun h => (kf h))
theorem zb_Model_heldBits_25 {Γ : zG} {σ : zS} {x2 y0 : Int32}  (k : z_J Γ zm_Model_heldBits 32 [some (.inr (63)), none, some (.inl (x2))] [.inl ((nI 1) <<< (x2 &&& 31)), .inl (y0)] σ) : z_J Γ zm_Model_heldBits 25 [some (.inr (63)), none, some (.inl (x2))] [.inl (y0)] σ := by
  refine zj_iconst (v := nI 1) zd_Model_heldBits_25 (by decide) ?_
  refine zj_iload_n zd_Model_heldBits_26 rfl ?_
  refine zj_ishl zd_Model_heldBits_27 ?_
  exact zj_goto zd_Model_heldBits_28 (by decide) k
theorem zb_Model_heldBits_31 {Γ : zG} {σ : zS} {x2 y0 : Int32}  (k : z_J Γ zm_Model_heldBits 32 [some (.inr (63)), none, some (.inl (x2))] [.inl (nI 0), .inl (y0)] σ) : z_J Γ zm_Model_heldBits 31 [some (.inr (63)), none, some (.inl (x2))] [.inl (y0)] σ := by
  refine zj_iconst (v := nI 0) zd_Model_heldBits_31 (by decide) ?_
  exact k
theorem zb_Model_heldBits_32 {Γ : zG} {σ : zS} {x2 y0 y1 : Int32}  (k : z_J Γ zm_Model_heldBits 4 [some (.inr (63)), some (.inl (y1 ||| y0)), some (.inl (x2 + nI 1))] [] σ) : z_J Γ zm_Model_heldBits 32 [some (.inr (63)), none, some (.inl (x2))] [.inl (y0), .inl (y1)] σ := by
  refine zj_ior zd_Model_heldBits_32 ?_
  refine zj_istore_n (L' := [some (.inr (63)), some (.inl (y1 ||| y0)), some (.inl (x2))]) zd_Model_heldBits_33 (by decide) rfl ?_
  refine zj_iinc (v := nI 1) (L' := [some (.inr (63)), some (.inl (y1 ||| y0)), some (.inl (x2 + nI 1))]) zd_Model_heldBits_34 rfl (by decide) (by decide) rfl ?_
  exact zj_goto zd_Model_heldBits_37 (by decide) k
theorem zb_Model_heldBits_40 {Γ : zG} {σ : zS} {x1 : Int32}  (e : z_end Γ (some (x1)) σ) : z_J Γ zm_Model_heldBits 40 [none, some (.inl (x1)), none] [] σ := by
  refine zj_iload_n zd_Model_heldBits_40 rfl ?_
  exact zj_ireturn rfl zd_Model_heldBits_41 e
theorem zd_Model_allBear_0 : decode zm_Model_allBear.2.1 0 = .ok (.iconst 0, 1) := by decide +kernel
theorem zd_Model_allBear_1 : decode zm_Model_allBear.2.1 1 = .ok (.istore_n 1, 1) := by decide +kernel
theorem zd_Model_allBear_2 : decode zm_Model_allBear.2.1 2 = .ok (.iconst 0, 1) := by decide +kernel
theorem zd_Model_allBear_3 : decode zm_Model_allBear.2.1 3 = .ok (.istore_n 2, 1) := by decide +kernel
theorem zd_Model_allBear_4 : decode zm_Model_allBear.2.1 4 = .ok (.iload_n 2, 1) := by decide +kernel
theorem zd_Model_allBear_5 : decode zm_Model_allBear.2.1 5 = .ok (.aload_n 0, 1) := by decide +kernel
theorem zd_Model_allBear_6 : decode zm_Model_allBear.2.1 6 = .ok (.getfield 19, 3) := by decide +kernel
theorem zd_Model_allBear_9 : decode zm_Model_allBear.2.1 9 = .ok (.if_icmp .ge 60, 3) := by decide +kernel
theorem zd_Model_allBear_12 : decode zm_Model_allBear.2.1 12 = .ok (.aload_n 0, 1) := by decide +kernel
theorem zd_Model_allBear_13 : decode zm_Model_allBear.2.1 13 = .ok (.aload_n 0, 1) := by decide +kernel
theorem zd_Model_allBear_14 : decode zm_Model_allBear.2.1 14 = .ok (.getfield 9, 3) := by decide +kernel
theorem zd_Model_allBear_17 : decode zm_Model_allBear.2.1 17 = .ok (.iload_n 2, 1) := by decide +kernel
theorem zd_Model_allBear_18 : decode zm_Model_allBear.2.1 18 = .ok (.iconst 0, 1) := by decide +kernel
theorem zd_Model_allBear_19 : decode zm_Model_allBear.2.1 19 = .ok (.invokevirtual 236, 3) := by decide +kernel
theorem zd_Model_allBear_22 : decode zm_Model_allBear.2.1 22 = .ok (.istore_n 3, 1) := by decide +kernel
theorem zd_Model_allBear_23 : decode zm_Model_allBear.2.1 23 = .ok (.iconst 0, 1) := by decide +kernel
theorem zd_Model_allBear_24 : decode zm_Model_allBear.2.1 24 = .ok (.istore 4, 2) := by decide +kernel
theorem zd_Model_allBear_26 : decode zm_Model_allBear.2.1 26 = .ok (.iload 4, 2) := by decide +kernel
theorem zd_Model_allBear_28 : decode zm_Model_allBear.2.1 28 = .ok (.iload_n 3, 1) := by decide +kernel
theorem zd_Model_allBear_29 : decode zm_Model_allBear.2.1 29 = .ok (.if_icmp .ge 34, 3) := by decide +kernel
theorem zd_Model_allBear_32 : decode zm_Model_allBear.2.1 32 = .ok (.iload_n 1, 1) := by decide +kernel
theorem zd_Model_allBear_33 : decode zm_Model_allBear.2.1 33 = .ok (.aload_n 0, 1) := by decide +kernel
theorem zd_Model_allBear_34 : decode zm_Model_allBear.2.1 34 = .ok (.aload_n 0, 1) := by decide +kernel
theorem zd_Model_allBear_35 : decode zm_Model_allBear.2.1 35 = .ok (.getfield 51, 3) := by decide +kernel
theorem zd_Model_allBear_38 : decode zm_Model_allBear.2.1 38 = .ok (.iload 4, 2) := by decide +kernel
theorem zd_Model_allBear_40 : decode zm_Model_allBear.2.1 40 = .ok (.iaload, 1) := by decide +kernel
theorem zd_Model_allBear_41 : decode zm_Model_allBear.2.1 41 = .ok (.iload_n 2, 1) := by decide +kernel
theorem zd_Model_allBear_42 : decode zm_Model_allBear.2.1 42 = .ok (.iload 4, 2) := by decide +kernel
theorem zd_Model_allBear_44 : decode zm_Model_allBear.2.1 44 = .ok (.iload_n 3, 1) := by decide +kernel
theorem zd_Model_allBear_45 : decode zm_Model_allBear.2.1 45 = .ok (.aload_n 0, 1) := by decide +kernel
theorem zd_Model_allBear_46 : decode zm_Model_allBear.2.1 46 = .ok (.getfield 9, 3) := by decide +kernel
theorem zd_Model_allBear_49 : decode zm_Model_allBear.2.1 49 = .ok (.bipush 48, 2) := by decide +kernel
theorem zd_Model_allBear_51 : decode zm_Model_allBear.2.1 51 = .ok (.iaload, 1) := by decide +kernel
theorem zd_Model_allBear_52 : decode zm_Model_allBear.2.1 52 = .ok (.invokevirtual 232, 3) := by decide +kernel
theorem zd_Model_allBear_55 : decode zm_Model_allBear.2.1 55 = .ok (.iadd, 1) := by decide +kernel
theorem zd_Model_allBear_56 : decode zm_Model_allBear.2.1 56 = .ok (.istore_n 1, 1) := by decide +kernel
theorem zd_Model_allBear_57 : decode zm_Model_allBear.2.1 57 = .ok (.iinc 4 1, 3) := by decide +kernel
theorem zd_Model_allBear_60 : decode zm_Model_allBear.2.1 60 = .ok (.goto (-34), 3) := by decide +kernel
theorem zd_Model_allBear_63 : decode zm_Model_allBear.2.1 63 = .ok (.iinc 2 1, 3) := by decide +kernel
theorem zd_Model_allBear_66 : decode zm_Model_allBear.2.1 66 = .ok (.goto (-62), 3) := by decide +kernel
theorem zd_Model_allBear_69 : decode zm_Model_allBear.2.1 69 = .ok (.iload_n 1, 1) := by decide +kernel
theorem zd_Model_allBear_70 : decode zm_Model_allBear.2.1 70 = .ok (.ireturn, 1) := by decide +kernel
theorem zb_Model_allBear_0 {Γ : zG} {σ : zS}  (k : z_J Γ zm_Model_allBear 4 [some (.inr (63)), some (.inl (nI 0)), some (.inl (nI 0)), none, none] [] σ) : z_J Γ zm_Model_allBear 0 [some (.inr (63)), none, none, none, none] [] σ := by
  refine zj_iconst (v := nI 0) zd_Model_allBear_0 (by decide) ?_
  refine zj_istore_n (L' := [some (.inr (63)), some (.inl (nI 0)), none, none, none]) zd_Model_allBear_1 (by decide) rfl ?_
  refine zj_iconst (v := nI 0) zd_Model_allBear_2 (by decide) ?_
  refine zj_istore_n (L' := [some (.inr (63)), some (.inl (nI 0)), some (.inl (nI 0)), none, none]) zd_Model_allBear_3 (by decide) rfl ?_
  exact k
theorem zb_Model_allBear_4 {Γ : zG} {σ : zS} {x1 x2 : Int32}  (kt : (σ.1 63 4) ≤ x2 → z_J Γ zm_Model_allBear 69 [none, some (.inl (x1)), none, none, none] [] σ) (kf : ¬ (σ.1 63 4) ≤ x2 → z_J Γ zm_Model_allBear 12 [some (.inr (63)), some (.inl (x1)), some (.inl (x2)), none, none] [] σ) : z_J Γ zm_Model_allBear 4 [some (.inr (63)), some (.inl (x1)), some (.inl (x2)), none, none] [] σ := by
  refine zj_iload_n zd_Model_allBear_4 rfl ?_
  refine zj_aload_n zd_Model_allBear_5 rfl ?_
  refine zj_getI rfl (by decide) rfl zu_Model (k := 4) (by decide) rfl zl_Model_19 zd_Model_allBear_6 ?_
  exact zj_icmp_ge zd_Model_allBear_9 (by decide) (fun h => (zj_weak (L' := [none, some (.inl (x1)), none, none, none]) ⟨rfl, trivial⟩ (kt h))) (fun h => (kf h))
theorem zb_Model_allBear_12 {Γ : zG} {σ : zS} {x1 x2 : Int32} {dc : Nat} {P : Int32 → zS → Prop}  (hm : z_Ci dc zm_Model_readPile [.inr (63), .inr (64), .inl (x2), .inl (nI 0)] σ P) (hdp : dc < z_dep Γ) (k : ∀ r σ1, P r σ1 → z_J Γ zm_Model_allBear 22 [some (.inr (63)), some (.inl (x1)), some (.inl (x2)), none, none] [.inl (r)] σ1) : z_J Γ zm_Model_allBear 12 [some (.inr (63)), some (.inl (x1)), some (.inl (x2)), none, none] [] σ := by
  refine zj_aload_n zd_Model_allBear_12 rfl ?_
  refine zj_aload_n zd_Model_allBear_13 rfl ?_
  refine zj_getR rfl (by decide) rfl zu_Model (k := 0) (by decide) rfl zl_Model_9 zd_Model_allBear_14 (o' := 64) rfl ?_
  refine zj_iload_n zd_Model_allBear_17 rfl ?_
  refine zj_iconst (v := nI 0) zd_Model_allBear_18 (by decide) ?_
  exact zj_callVi (As := [.inr (64), .inl (x2), .inl (nI 0)]) hm hdp rfl (by decide) rfl zl_Model_236 zq_Model_readPile zd_Model_allBear_19 rfl (Nat.le_of_ble_eq_true rfl) (fun r σ1 h => (k r σ1 h))
theorem zb_Model_allBear_22 {Γ : zG} {σ : zS} {x1 x2 y0 : Int32}  (k : z_J Γ zm_Model_allBear 26 [some (.inr (63)), some (.inl (x1)), some (.inl (x2)), some (.inl (y0)), some (.inl (nI 0))] [] σ) : z_J Γ zm_Model_allBear 22 [some (.inr (63)), some (.inl (x1)), some (.inl (x2)), none, none] [.inl (y0)] σ := by
  refine zj_istore_n (L' := [some (.inr (63)), some (.inl (x1)), some (.inl (x2)), some (.inl (y0)), none]) zd_Model_allBear_22 (by decide) rfl ?_
  refine zj_iconst (v := nI 0) zd_Model_allBear_23 (by decide) ?_
  refine zj_istore (L' := [some (.inr (63)), some (.inl (x1)), some (.inl (x2)), some (.inl (y0)), some (.inl (nI 0))]) zd_Model_allBear_24 (by decide) rfl ?_
  exact k
theorem zb_Model_allBear_26 {Γ : zG} {σ : zS} {x1 x2 x3 x4 : Int32}  (kt : x3 ≤ x4 → z_J Γ zm_Model_allBear 63 [some (.inr (63)), some (.inl (x1)), some (.inl (x2)), none, none] [] σ) (kf : ¬ x3 ≤ x4 → z_J Γ zm_Model_allBear 32 [some (.inr (63)), some (.inl (x1)), some (.inl (x2)), some (.inl (x3)), some (.inl (x4))] [] σ) : z_J Γ zm_Model_allBear 26 [some (.inr (63)), some (.inl (x1)), some (.inl (x2)), some (.inl (x3)), some (.inl (x4))] [] σ := by
  refine zj_iload zd_Model_allBear_26 rfl ?_
  refine zj_iload_n zd_Model_allBear_28 rfl ?_
  exact zj_icmp_ge zd_Model_allBear_29 (by decide) (fun h => (zj_weak (L' := [some (.inr (63)), some (.inl (x1)), some (.inl (x2)), none, none]) ⟨rfl, ⟨rfl, ⟨rfl, trivial⟩⟩⟩ (kt h))) (fun h => (kf h))
theorem zb_Model_allBear_32 {Γ : zG} {σ : zS} {x1 x2 x3 x4 : Int32} {k1 k2 : Nat} {dc : Nat} {P : Int32 → zS → Prop}  (b1 : z_ix x4 4 k1) (b2 : z_ix (nI 48) 53 k2) (hm : z_Ci dc zm_Model_bears [.inr (63), .inl (σ.1 75 k1), .inl (x2), .inl (x4), .inl (x3), .inl (σ.1 64 k2)] σ P) (hdp : dc < z_dep Γ) (k : ∀ r σ1, P r σ1 → z_J Γ zm_Model_allBear 55 [some (.inr (63)), none, some (.inl (x2)), some (.inl (x3)), some (.inl (x4))] [.inl (r), .inl (x1)] σ1) : z_J Γ zm_Model_allBear 32 [some (.inr (63)), some (.inl (x1)), some (.inl (x2)), some (.inl (x3)), some (.inl (x4))] [] σ := by
  refine zj_iload_n zd_Model_allBear_32 rfl ?_
  refine zj_aload_n zd_Model_allBear_33 rfl ?_
  refine zj_aload_n zd_Model_allBear_34 rfl ?_
  refine zj_getR rfl (by decide) rfl zu_Model (k := 25) (by decide) rfl zl_Model_51 zd_Model_allBear_35 (o' := 75) rfl ?_
  refine zj_iload zd_Model_allBear_38 rfl ?_
  refine zj_iaload rfl (by decide) b1 zd_Model_allBear_40 ?_
  refine zj_iload_n zd_Model_allBear_41 rfl ?_
  refine zj_iload zd_Model_allBear_42 rfl ?_
  refine zj_iload_n zd_Model_allBear_44 rfl ?_
  refine zj_aload_n zd_Model_allBear_45 rfl ?_
  refine zj_getR rfl (by decide) rfl zu_Model (k := 0) (by decide) rfl zl_Model_9 zd_Model_allBear_46 (o' := 64) rfl ?_
  refine zj_bipush (v := nI 48) zd_Model_allBear_49 (by decide) ?_
  refine zj_iaload rfl (by decide) b2 zd_Model_allBear_51 ?_
  exact zj_callVi (As := [.inl (σ.1 75 k1), .inl (x2), .inl (x4), .inl (x3), .inl (σ.1 64 k2)]) hm hdp rfl (by decide) rfl zl_Model_232 zq_Model_bears zd_Model_allBear_52 rfl (Nat.le_of_ble_eq_true rfl) (fun r σ1 h => (zj_weak (L' := [some (.inr (63)), none, some (.inl (x2)), some (.inl (x3)), some (.inl (x4))]) ⟨rfl, ⟨rfl, ⟨rfl, ⟨rfl, trivial⟩⟩⟩⟩ (k r σ1 h)))
theorem zb_Model_allBear_55 {Γ : zG} {σ : zS} {x2 x3 x4 y0 y1 : Int32}  (k : z_J Γ zm_Model_allBear 26 [some (.inr (63)), some (.inl (y1 + y0)), some (.inl (x2)), some (.inl (x3)), some (.inl (x4 + nI 1))] [] σ) : z_J Γ zm_Model_allBear 55 [some (.inr (63)), none, some (.inl (x2)), some (.inl (x3)), some (.inl (x4))] [.inl (y0), .inl (y1)] σ := by
  refine zj_iadd zd_Model_allBear_55 ?_
  refine zj_istore_n (L' := [some (.inr (63)), some (.inl (y1 + y0)), some (.inl (x2)), some (.inl (x3)), some (.inl (x4))]) zd_Model_allBear_56 (by decide) rfl ?_
  refine zj_iinc (v := nI 1) (L' := [some (.inr (63)), some (.inl (y1 + y0)), some (.inl (x2)), some (.inl (x3)), some (.inl (x4 + nI 1))]) zd_Model_allBear_57 rfl (by decide) (by decide) rfl ?_
  exact zj_goto zd_Model_allBear_60 (by decide) k
theorem zb_Model_allBear_63 {Γ : zG} {σ : zS} {x1 x2 : Int32}  (k : z_J Γ zm_Model_allBear 4 [some (.inr (63)), some (.inl (x1)), some (.inl (x2 + nI 1)), none, none] [] σ) : z_J Γ zm_Model_allBear 63 [some (.inr (63)), some (.inl (x1)), some (.inl (x2)), none, none] [] σ := by
  refine zj_iinc (v := nI 1) (L' := [some (.inr (63)), some (.inl (x1)), some (.inl (x2 + nI 1)), none, none]) zd_Model_allBear_63 rfl (by decide) (by decide) rfl ?_
  exact zj_goto zd_Model_allBear_66 (by decide) k
theorem zb_Model_allBear_69 {Γ : zG} {σ : zS} {x1 : Int32}  (e : z_end Γ (some (x1)) σ) : z_J Γ zm_Model_allBear 69 [none, some (.inl (x1)), none, none, none] [] σ := by
  refine zj_iload_n zd_Model_allBear_69 rfl ?_
  exact zj_ireturn rfl zd_Model_allBear_70 e
theorem zd_Model_seen_0 : decode zm_Model_seen.2.1 0 = .ok (.aload_n 0, 1) := by decide +kernel
theorem zd_Model_seen_1 : decode zm_Model_seen.2.1 1 = .ok (.iconst 0, 1) := by decide +kernel
theorem zd_Model_seen_2 : decode zm_Model_seen.2.1 2 = .ok (.putfield 91, 3) := by decide +kernel
theorem zd_Model_seen_5 : decode zm_Model_seen.2.1 5 = .ok (.aload_n 0, 1) := by decide +kernel
theorem zd_Model_seen_6 : decode zm_Model_seen.2.1 6 = .ok (.iload_n 1, 1) := by decide +kernel
theorem zd_Model_seen_7 : decode zm_Model_seen.2.1 7 = .ok (.invokevirtual 266, 3) := by decide +kernel
theorem zd_Model_seen_10 : decode zm_Model_seen.2.1 10 = .ok (.ifCond .eq 13, 3) := by decide +kernel
theorem zd_Model_seen_13 : decode zm_Model_seen.2.1 13 = .ok (.iload_n 2, 1) := by decide +kernel
theorem zd_Model_seen_14 : decode zm_Model_seen.2.1 14 = .ok (.iconst 0, 1) := by decide +kernel
theorem zd_Model_seen_15 : decode zm_Model_seen.2.1 15 = .ok (.bipush 99, 2) := by decide +kernel
theorem zd_Model_seen_17 : decode zm_Model_seen.2.1 17 = .ok (.invokestatic 100, 3) := by decide +kernel
theorem zd_Model_seen_20 : decode zm_Model_seen.2.1 20 = .ok (.ifCond .ne 5, 3) := by decide +kernel
theorem zd_Model_seen_23 : decode zm_Model_seen.2.1 23 = .ok (.iconst (-1), 1) := by decide +kernel
theorem zd_Model_seen_24 : decode zm_Model_seen.2.1 24 = .ok (.ireturn, 1) := by decide +kernel
theorem zd_Model_seen_25 : decode zm_Model_seen.2.1 25 = .ok (.aload_n 0, 1) := by decide +kernel
theorem zd_Model_seen_26 : decode zm_Model_seen.2.1 26 = .ok (.getfield 75, 3) := by decide +kernel
theorem zd_Model_seen_29 : decode zm_Model_seen.2.1 29 = .ok (.iload_n 1, 1) := by decide +kernel
theorem zd_Model_seen_30 : decode zm_Model_seen.2.1 30 = .ok (.iload_n 2, 1) := by decide +kernel
theorem zd_Model_seen_31 : decode zm_Model_seen.2.1 31 = .ok (.iastore, 1) := by decide +kernel
theorem zd_Model_seen_32 : decode zm_Model_seen.2.1 32 = .ok (.aload_n 0, 1) := by decide +kernel
theorem zd_Model_seen_33 : decode zm_Model_seen.2.1 33 = .ok (.dup, 1) := by decide +kernel
theorem zd_Model_seen_34 : decode zm_Model_seen.2.1 34 = .ok (.getfield 181, 3) := by decide +kernel
theorem zd_Model_seen_37 : decode zm_Model_seen.2.1 37 = .ok (.iconst 1, 1) := by decide +kernel
theorem zd_Model_seen_38 : decode zm_Model_seen.2.1 38 = .ok (.iload_n 1, 1) := by decide +kernel
theorem zd_Model_seen_39 : decode zm_Model_seen.2.1 39 = .ok (.ishl, 1) := by decide +kernel
theorem zd_Model_seen_40 : decode zm_Model_seen.2.1 40 = .ok (.ior, 1) := by decide +kernel
theorem zd_Model_seen_41 : decode zm_Model_seen.2.1 41 = .ok (.putfield 181, 3) := by decide +kernel
theorem zd_Model_seen_44 : decode zm_Model_seen.2.1 44 = .ok (.aload_n 0, 1) := by decide +kernel
theorem zd_Model_seen_45 : decode zm_Model_seen.2.1 45 = .ok (.getfield 181, 3) := by decide +kernel
theorem zd_Model_seen_48 : decode zm_Model_seen.2.1 48 = .ok (.invokestatic 261, 3) := by decide +kernel
theorem zd_Model_seen_51 : decode zm_Model_seen.2.1 51 = .ok (.ireturn, 1) := by decide +kernel
theorem zb_Model_seen_0 {Γ : zG} {σ : zS} {x1 x2 : Int32} {dc : Nat} {P : Int32 → zS → Prop}  (hm : z_Ci dc zm_Model_isColumn [.inr (63), .inl (x1)] (z_pI σ 63 11 (nI 0)) P) (hdp : dc < z_dep Γ) (k : ∀ r σ1, P r σ1 → z_J Γ zm_Model_seen 10 [some (.inr (63)), some (.inl (x1)), some (.inl (x2))] [.inl (r)] σ1) : z_J Γ zm_Model_seen 0 [some (.inr (63)), some (.inl (x1)), some (.inl (x2))] [] σ := by
  refine zj_aload_n zd_Model_seen_0 rfl ?_
  refine zj_iconst (v := nI 0) zd_Model_seen_1 (by decide) ?_
  refine zj_putI rfl (by decide) rfl zu_Model zy_Model_ok zn_Model (k := 11) (by decide) rfl rfl zl_Model_91 rfl rfl zd_Model_seen_2 ?_
  refine zj_aload_n zd_Model_seen_5 rfl ?_
  refine zj_iload_n zd_Model_seen_6 rfl ?_
  exact zj_callVi (As := [.inl (x1)]) hm hdp rfl (by decide) rfl zl_Model_266 zq_Model_isColumn zd_Model_seen_7 rfl (Nat.le_of_ble_eq_true rfl) (fun r σ1 h => (k r σ1 h))
theorem zb_Model_seen_10 {Γ : zG} {σ : zS} {x1 x2 y0 : Int32}  (kt : y0 = 0 → z_J Γ zm_Model_seen 23 [none, none, none] [] σ) (kf : ¬ y0 = 0 → z_J Γ zm_Model_seen 13 [some (.inr (63)), some (.inl (x1)), some (.inl (x2))] [] σ) : z_J Γ zm_Model_seen 10 [some (.inr (63)), some (.inl (x1)), some (.inl (x2))] [.inl (y0)] σ := by
  exact zj_if_eq zd_Model_seen_10 (by decide) (fun h => (zj_weak (L' := [none, none, none]) trivial (kt h))) (fun h => (kf h))
theorem zb_Model_seen_13 {Γ : zG} {σ : zS} {x1 x2 : Int32} {dc : Nat} {P : Int32 → zS → Prop}  (hm : z_Ci dc zm_Model_in [.inl (x2), .inl (nI 0), .inl (nI 99)] σ P) (hdp : dc < z_dep Γ) (k : ∀ r σ1, P r σ1 → z_J Γ zm_Model_seen 20 [some (.inr (63)), some (.inl (x1)), some (.inl (x2))] [.inl (r)] σ1) : z_J Γ zm_Model_seen 13 [some (.inr (63)), some (.inl (x1)), some (.inl (x2))] [] σ := by
  refine zj_iload_n zd_Model_seen_13 rfl ?_
  refine zj_iconst (v := nI 0) zd_Model_seen_14 (by decide) ?_
  refine zj_bipush (v := nI 99) zd_Model_seen_15 (by decide) ?_
  exact zj_callSi (As := [.inl (x2), .inl (nI 0), .inl (nI 99)]) hm hdp zl_Model_100 zq_Model_in zd_Model_seen_17 rfl (Nat.le_of_ble_eq_true rfl) (fun r σ1 h => (k r σ1 h))
theorem zb_Model_seen_20 {Γ : zG} {σ : zS} {x1 x2 y0 : Int32}  (kt : ¬ y0 = 0 → z_J Γ zm_Model_seen 25 [some (.inr (63)), some (.inl (x1)), some (.inl (x2))] [] σ) (kf : y0 = 0 → z_J Γ zm_Model_seen 23 [none, none, none] [] σ) : z_J Γ zm_Model_seen 20 [some (.inr (63)), some (.inl (x1)), some (.inl (x2))] [.inl (y0)] σ := by
  exact zj_if_ne zd_Model_seen_20 (by decide) (fun h => (kt h)) (fun h => (zj_weak (L' := [none, none, none]) trivial (kf h)))
theorem zb_Model_seen_23 {Γ : zG} {σ : zS}  (e : z_end Γ (some ((-1))) σ) : z_J Γ zm_Model_seen 23 [none, none, none] [] σ := by
  refine zj_iconst (v := (-1)) zd_Model_seen_23 (by decide) ?_
  exact zj_ireturn rfl zd_Model_seen_24 e
theorem zb_Model_seen_25 {Γ : zG} {σ : zS} {x1 x2 : Int32} {k1 : Nat} (hdp : 0 < z_dep Γ) (b1 : z_ix x1 6 k1) (e : z_end Γ (some (z_bc ((z_pI (z_pI σ 83 k1 x2) 63 41 (((z_pI σ 83 k1 x2).1 63 41) ||| ((nI 1) <<< (x1 &&& 31)))).1 63 41))) (z_pI (z_pI σ 83 k1 x2) 63 41 (((z_pI σ 83 k1 x2).1 63 41) ||| ((nI 1) <<< (x1 &&& 31))))) : z_J Γ zm_Model_seen 25 [some (.inr (63)), some (.inl (x1)), some (.inl (x2))] [] σ := by
  refine zj_aload_n zd_Model_seen_25 rfl ?_
  refine zj_getR rfl (by decide) rfl zu_Model (k := 40) (by decide) rfl zl_Model_75 zd_Model_seen_26 (o' := 83) rfl ?_
  refine zj_iload_n zd_Model_seen_29 rfl ?_
  refine zj_iload_n zd_Model_seen_30 rfl ?_
  refine zj_iastore rfl (by decide) b1 zd_Model_seen_31 ?_
  refine zj_aload_n zd_Model_seen_32 rfl ?_
  refine zj_dup zd_Model_seen_33 ?_
  refine zj_getI rfl (by decide) rfl zu_Model (k := 41) (by decide) rfl zl_Model_181 zd_Model_seen_34 ?_
  refine zj_iconst (v := nI 1) zd_Model_seen_37 (by decide) ?_
  refine zj_iload_n zd_Model_seen_38 rfl ?_
  refine zj_ishl zd_Model_seen_39 ?_
  refine zj_ior zd_Model_seen_40 ?_
  refine zj_putI rfl (by decide) rfl zu_Model zy_Model_ok zn_Model (k := 41) (by decide) rfl rfl zl_Model_181 rfl rfl zd_Model_seen_41 ?_
  refine zj_aload_n zd_Model_seen_44 rfl ?_
  refine zj_getI rfl (by decide) rfl zu_Model (k := 41) (by decide) rfl zl_Model_181 zd_Model_seen_45 ?_
  refine zj_bitc zl_Model_261 hdp (Nat.le_of_ble_eq_true rfl) zd_Model_seen_48 ?_
  exact zj_ireturn rfl zd_Model_seen_51 e
theorem zd_Model_forget_0 : decode zm_Model_forget.2.1 0 = .ok (.aload_n 0, 1) := by decide +kernel
theorem zd_Model_forget_1 : decode zm_Model_forget.2.1 1 = .ok (.iconst 0, 1) := by decide +kernel
theorem zd_Model_forget_2 : decode zm_Model_forget.2.1 2 = .ok (.putfield 91, 3) := by decide +kernel
theorem zd_Model_forget_5 : decode zm_Model_forget.2.1 5 = .ok (.aload_n 0, 1) := by decide +kernel
theorem zd_Model_forget_6 : decode zm_Model_forget.2.1 6 = .ok (.getfield 181, 3) := by decide +kernel
theorem zd_Model_forget_9 : decode zm_Model_forget.2.1 9 = .ok (.invokestatic 261, 3) := by decide +kernel
theorem zd_Model_forget_12 : decode zm_Model_forget.2.1 12 = .ok (.istore_n 1, 1) := by decide +kernel
theorem zd_Model_forget_13 : decode zm_Model_forget.2.1 13 = .ok (.aload_n 0, 1) := by decide +kernel
theorem zd_Model_forget_14 : decode zm_Model_forget.2.1 14 = .ok (.iconst 0, 1) := by decide +kernel
theorem zd_Model_forget_15 : decode zm_Model_forget.2.1 15 = .ok (.putfield 181, 3) := by decide +kernel
theorem zd_Model_forget_18 : decode zm_Model_forget.2.1 18 = .ok (.iload_n 1, 1) := by decide +kernel
theorem zd_Model_forget_19 : decode zm_Model_forget.2.1 19 = .ok (.ireturn, 1) := by decide +kernel
theorem zb_Model_forget_0 {Γ : zG} {σ : zS} (hdp : 0 < z_dep Γ) (e : z_end Γ (some (z_bc ((z_pI σ 63 11 (nI 0)).1 63 41))) (z_pI (z_pI σ 63 11 (nI 0)) 63 41 (nI 0))) : z_J Γ zm_Model_forget 0 [some (.inr (63)), none] [] σ := by
  refine zj_aload_n zd_Model_forget_0 rfl ?_
  refine zj_iconst (v := nI 0) zd_Model_forget_1 (by decide) ?_
  refine zj_putI rfl (by decide) rfl zu_Model zy_Model_ok zn_Model (k := 11) (by decide) rfl rfl zl_Model_91 rfl rfl zd_Model_forget_2 ?_
  refine zj_aload_n zd_Model_forget_5 rfl ?_
  refine zj_getI rfl (by decide) rfl zu_Model (k := 41) (by decide) rfl zl_Model_181 zd_Model_forget_6 ?_
  refine zj_bitc zl_Model_261 hdp (Nat.le_of_ble_eq_true rfl) zd_Model_forget_9 ?_
  refine zj_istore_n (L' := [some (.inr (63)), some (.inl (z_bc ((z_pI σ 63 11 (nI 0)).1 63 41)))]) zd_Model_forget_12 (by decide) rfl ?_
  refine zj_aload_n zd_Model_forget_13 rfl ?_
  refine zj_iconst (v := nI 0) zd_Model_forget_14 (by decide) ?_
  refine zj_putI rfl (by decide) rfl zu_Model zy_Model_ok zn_Model (k := 41) (by decide) rfl rfl zl_Model_181 rfl rfl zd_Model_forget_15 ?_
  refine zj_iload_n zd_Model_forget_18 rfl ?_
  exact zj_ireturn rfl zd_Model_forget_19 e
theorem zd_Model_out_0 : decode zm_Model_out.2.1 0 = .ok (.aload_n 0, 1) := by decide +kernel
theorem zd_Model_out_1 : decode zm_Model_out.2.1 1 = .ok (.iconst 0, 1) := by decide +kernel
theorem zd_Model_out_2 : decode zm_Model_out.2.1 2 = .ok (.putfield 91, 3) := by decide +kernel
theorem zd_Model_out_5 : decode zm_Model_out.2.1 5 = .ok (.aload_n 0, 1) := by decide +kernel
theorem zd_Model_out_6 : decode zm_Model_out.2.1 6 = .ok (.iload_n 1, 1) := by decide +kernel
theorem zd_Model_out_7 : decode zm_Model_out.2.1 7 = .ok (.invokevirtual 266, 3) := by decide +kernel
theorem zd_Model_out_10 : decode zm_Model_out.2.1 10 = .ok (.ifCond .ne 5, 3) := by decide +kernel
theorem zd_Model_out_13 : decode zm_Model_out.2.1 13 = .ok (.iconst (-1), 1) := by decide +kernel
theorem zd_Model_out_14 : decode zm_Model_out.2.1 14 = .ok (.ireturn, 1) := by decide +kernel
theorem zd_Model_out_15 : decode zm_Model_out.2.1 15 = .ok (.aload_n 0, 1) := by decide +kernel
theorem zd_Model_out_16 : decode zm_Model_out.2.1 16 = .ok (.getfield 181, 3) := by decide +kernel
theorem zd_Model_out_19 : decode zm_Model_out.2.1 19 = .ok (.iload_n 1, 1) := by decide +kernel
theorem zd_Model_out_20 : decode zm_Model_out.2.1 20 = .ok (.invokestatic 169, 3) := by decide +kernel
theorem zd_Model_out_23 : decode zm_Model_out.2.1 23 = .ok (.ifCond .ne 6, 3) := by decide +kernel
theorem zd_Model_out_26 : decode zm_Model_out.2.1 26 = .ok (.bipush (-2), 2) := by decide +kernel
theorem zd_Model_out_28 : decode zm_Model_out.2.1 28 = .ok (.ireturn, 1) := by decide +kernel
theorem zd_Model_out_29 : decode zm_Model_out.2.1 29 = .ok (.aload_n 0, 1) := by decide +kernel
theorem zd_Model_out_30 : decode zm_Model_out.2.1 30 = .ok (.aload_n 0, 1) := by decide +kernel
theorem zd_Model_out_31 : decode zm_Model_out.2.1 31 = .ok (.getfield 9, 3) := by decide +kernel
theorem zd_Model_out_34 : decode zm_Model_out.2.1 34 = .ok (.iload_n 1, 1) := by decide +kernel
theorem zd_Model_out_35 : decode zm_Model_out.2.1 35 = .ok (.invokevirtual 247, 3) := by decide +kernel
theorem zd_Model_out_38 : decode zm_Model_out.2.1 38 = .ok (.istore_n 2, 1) := by decide +kernel
theorem zd_Model_out_39 : decode zm_Model_out.2.1 39 = .ok (.iconst 0, 1) := by decide +kernel
theorem zd_Model_out_40 : decode zm_Model_out.2.1 40 = .ok (.istore_n 3, 1) := by decide +kernel
theorem zd_Model_out_41 : decode zm_Model_out.2.1 41 = .ok (.iconst (-1), 1) := by decide +kernel
theorem zd_Model_out_42 : decode zm_Model_out.2.1 42 = .ok (.istore 4, 2) := by decide +kernel
theorem zd_Model_out_44 : decode zm_Model_out.2.1 44 = .ok (.iload_n 2, 1) := by decide +kernel
theorem zd_Model_out_45 : decode zm_Model_out.2.1 45 = .ok (.istore 5, 2) := by decide +kernel
theorem zd_Model_out_47 : decode zm_Model_out.2.1 47 = .ok (.iconst 0, 1) := by decide +kernel
theorem zd_Model_out_48 : decode zm_Model_out.2.1 48 = .ok (.istore 6, 2) := by decide +kernel
theorem zd_Model_out_50 : decode zm_Model_out.2.1 50 = .ok (.iload 6, 2) := by decide +kernel
theorem zd_Model_out_52 : decode zm_Model_out.2.1 52 = .ok (.iload_n 2, 1) := by decide +kernel
theorem zd_Model_out_53 : decode zm_Model_out.2.1 53 = .ok (.if_icmp .gt 63, 3) := by decide +kernel
theorem zd_Model_out_56 : decode zm_Model_out.2.1 56 = .ok (.iload 6, 2) := by decide +kernel
theorem zd_Model_out_58 : decode zm_Model_out.2.1 58 = .ok (.iload_n 2, 1) := by decide +kernel
theorem zd_Model_out_59 : decode zm_Model_out.2.1 59 = .ok (.iconst (-1), 1) := by decide +kernel
theorem zd_Model_out_60 : decode zm_Model_out.2.1 60 = .ok (.ixor, 1) := by decide +kernel
theorem zd_Model_out_61 : decode zm_Model_out.2.1 61 = .ok (.iand, 1) := by decide +kernel
theorem zd_Model_out_62 : decode zm_Model_out.2.1 62 = .ok (.ifCond .ne 48, 3) := by decide +kernel
theorem zd_Model_out_65 : decode zm_Model_out.2.1 65 = .ok (.aload_n 0, 1) := by decide +kernel
theorem zd_Model_out_66 : decode zm_Model_out.2.1 66 = .ok (.iload_n 2, 1) := by decide +kernel
theorem zd_Model_out_67 : decode zm_Model_out.2.1 67 = .ok (.iload 6, 2) := by decide +kernel
theorem zd_Model_out_69 : decode zm_Model_out.2.1 69 = .ok (.iconst (-1), 1) := by decide +kernel
theorem zd_Model_out_70 : decode zm_Model_out.2.1 70 = .ok (.ixor, 1) := by decide +kernel
theorem zd_Model_out_71 : decode zm_Model_out.2.1 71 = .ok (.iand, 1) := by decide +kernel
theorem zd_Model_out_72 : decode zm_Model_out.2.1 72 = .ok (.invokevirtual 251, 3) := by decide +kernel
theorem zd_Model_out_75 : decode zm_Model_out.2.1 75 = .ok (.aload_n 0, 1) := by decide +kernel
theorem zd_Model_out_76 : decode zm_Model_out.2.1 76 = .ok (.getfield 75, 3) := by decide +kernel
theorem zd_Model_out_79 : decode zm_Model_out.2.1 79 = .ok (.iload_n 1, 1) := by decide +kernel
theorem zd_Model_out_80 : decode zm_Model_out.2.1 80 = .ok (.iaload, 1) := by decide +kernel
theorem zd_Model_out_81 : decode zm_Model_out.2.1 81 = .ok (.if_icmp .eq 6, 3) := by decide +kernel
theorem zd_Model_out_84 : decode zm_Model_out.2.1 84 = .ok (.goto 26, 3) := by decide +kernel
theorem zd_Model_out_87 : decode zm_Model_out.2.1 87 = .ok (.iload_n 3, 1) := by decide +kernel
theorem zd_Model_out_88 : decode zm_Model_out.2.1 88 = .ok (.ifCond .ne 8, 3) := by decide +kernel
theorem zd_Model_out_91 : decode zm_Model_out.2.1 91 = .ok (.iload 6, 2) := by decide +kernel
theorem zd_Model_out_93 : decode zm_Model_out.2.1 93 = .ok (.goto 5, 3) := by decide +kernel
theorem zd_Model_out_96 : decode zm_Model_out.2.1 96 = .ok (.iload 4, 2) := by decide +kernel
theorem zd_Model_out_98 : decode zm_Model_out.2.1 98 = .ok (.istore 4, 2) := by decide +kernel
theorem zd_Model_out_100 : decode zm_Model_out.2.1 100 = .ok (.iload 5, 2) := by decide +kernel
theorem zd_Model_out_102 : decode zm_Model_out.2.1 102 = .ok (.iload 6, 2) := by decide +kernel
theorem zd_Model_out_104 : decode zm_Model_out.2.1 104 = .ok (.iand, 1) := by decide +kernel
theorem zd_Model_out_105 : decode zm_Model_out.2.1 105 = .ok (.istore 5, 2) := by decide +kernel
theorem zd_Model_out_107 : decode zm_Model_out.2.1 107 = .ok (.iinc 3 1, 3) := by decide +kernel
theorem zd_Model_out_110 : decode zm_Model_out.2.1 110 = .ok (.iinc 6 1, 3) := by decide +kernel
theorem zd_Model_out_113 : decode zm_Model_out.2.1 113 = .ok (.goto (-63), 3) := by decide +kernel
theorem zd_Model_out_116 : decode zm_Model_out.2.1 116 = .ok (.aload_n 0, 1) := by decide +kernel
theorem zd_Model_out_117 : decode zm_Model_out.2.1 117 = .ok (.iconst 0, 1) := by decide +kernel
theorem zd_Model_out_118 : decode zm_Model_out.2.1 118 = .ok (.putfield 94, 3) := by decide +kernel
theorem zd_Model_out_121 : decode zm_Model_out.2.1 121 = .ok (.aload_n 0, 1) := by decide +kernel
theorem zd_Model_out_122 : decode zm_Model_out.2.1 122 = .ok (.iload 4, 2) := by decide +kernel
theorem zd_Model_out_124 : decode zm_Model_out.2.1 124 = .ok (.invokevirtual 312, 3) := by decide +kernel
theorem zd_Model_out_127 : decode zm_Model_out.2.1 127 = .ok (.aload_n 0, 1) := by decide +kernel
theorem zd_Model_out_128 : decode zm_Model_out.2.1 128 = .ok (.iload_n 3, 1) := by decide +kernel
theorem zd_Model_out_129 : decode zm_Model_out.2.1 129 = .ok (.ifCond .ne 7, 3) := by decide +kernel
theorem zd_Model_out_132 : decode zm_Model_out.2.1 132 = .ok (.iconst 0, 1) := by decide +kernel
theorem zd_Model_out_133 : decode zm_Model_out.2.1 133 = .ok (.goto 5, 3) := by decide +kernel
theorem zd_Model_out_136 : decode zm_Model_out.2.1 136 = .ok (.iload 5, 2) := by decide +kernel
theorem zd_Model_out_138 : decode zm_Model_out.2.1 138 = .ok (.invokevirtual 312, 3) := by decide +kernel
theorem zd_Model_out_141 : decode zm_Model_out.2.1 141 = .ok (.iload_n 3, 1) := by decide +kernel
theorem zd_Model_out_142 : decode zm_Model_out.2.1 142 = .ok (.ireturn, 1) := by decide +kernel
theorem zb_Model_out_0 {Γ : zG} {σ : zS} {x1 : Int32} {dc : Nat} {P : Int32 → zS → Prop}  (hm : z_Ci dc zm_Model_isColumn [.inr (63), .inl (x1)] (z_pI σ 63 11 (nI 0)) P) (hdp : dc < z_dep Γ) (k : ∀ r σ1, P r σ1 → z_J Γ zm_Model_out 10 [some (.inr (63)), some (.inl (x1)), none, none, none, none, none] [.inl (r)] σ1) : z_J Γ zm_Model_out 0 [some (.inr (63)), some (.inl (x1)), none, none, none, none, none] [] σ := by
  refine zj_aload_n zd_Model_out_0 rfl ?_
  refine zj_iconst (v := nI 0) zd_Model_out_1 (by decide) ?_
  refine zj_putI rfl (by decide) rfl zu_Model zy_Model_ok zn_Model (k := 11) (by decide) rfl rfl zl_Model_91 rfl rfl zd_Model_out_2 ?_
  refine zj_aload_n zd_Model_out_5 rfl ?_
  refine zj_iload_n zd_Model_out_6 rfl ?_
  exact zj_callVi (As := [.inl (x1)]) hm hdp rfl (by decide) rfl zl_Model_266 zq_Model_isColumn zd_Model_out_7 rfl (Nat.le_of_ble_eq_true rfl) (fun r σ1 h => (k r σ1 h))
theorem zb_Model_out_10 {Γ : zG} {σ : zS} {x1 y0 : Int32}  (kt : ¬ y0 = 0 → z_J Γ zm_Model_out 15 [some (.inr (63)), some (.inl (x1)), none, none, none, none, none] [] σ) (kf : y0 = 0 → z_J Γ zm_Model_out 13 [none, none, none, none, none, none, none] [] σ) : z_J Γ zm_Model_out 10 [some (.inr (63)), some (.inl (x1)), none, none, none, none, none] [.inl (y0)] σ := by
  exact zj_if_ne zd_Model_out_10 (by decide) (fun h => (kt h)) (fun h => (zj_weak (L' := [none, none, none, none, none, none, none]) trivial (kf h)))
theorem zb_Model_out_13 {Γ : zG} {σ : zS}  (e : z_end Γ (some ((-1))) σ) : z_J Γ zm_Model_out 13 [none, none, none, none, none, none, none] [] σ := by
  refine zj_iconst (v := (-1)) zd_Model_out_13 (by decide) ?_
  exact zj_ireturn rfl zd_Model_out_14 e
theorem zb_Model_out_15 {Γ : zG} {σ : zS} {x1 : Int32} {dc : Nat} {P : Int32 → zS → Prop}  (hm : z_Ci dc zm_Model_has [.inl (σ.1 63 41), .inl (x1)] σ P) (hdp : dc < z_dep Γ) (k : ∀ r σ1, P r σ1 → z_J Γ zm_Model_out 23 [some (.inr (63)), some (.inl (x1)), none, none, none, none, none] [.inl (r)] σ1) : z_J Γ zm_Model_out 15 [some (.inr (63)), some (.inl (x1)), none, none, none, none, none] [] σ := by
  refine zj_aload_n zd_Model_out_15 rfl ?_
  refine zj_getI rfl (by decide) rfl zu_Model (k := 41) (by decide) rfl zl_Model_181 zd_Model_out_16 ?_
  refine zj_iload_n zd_Model_out_19 rfl ?_
  exact zj_callSi (As := [.inl (σ.1 63 41), .inl (x1)]) hm hdp zl_Model_169 zq_Model_has zd_Model_out_20 rfl (Nat.le_of_ble_eq_true rfl) (fun r σ1 h => (k r σ1 h))
theorem zb_Model_out_23 {Γ : zG} {σ : zS} {x1 y0 : Int32}  (kt : ¬ y0 = 0 → z_J Γ zm_Model_out 29 [some (.inr (63)), some (.inl (x1)), none, none, none, none, none] [] σ) (kf : y0 = 0 → z_J Γ zm_Model_out 26 [none, none, none, none, none, none, none] [] σ) : z_J Γ zm_Model_out 23 [some (.inr (63)), some (.inl (x1)), none, none, none, none, none] [.inl (y0)] σ := by
  exact zj_if_ne zd_Model_out_23 (by decide) (fun h => (kt h)) (fun h => (zj_weak (L' := [none, none, none, none, none, none, none]) trivial (kf h)))
theorem zb_Model_out_26 {Γ : zG} {σ : zS}  (e : z_end Γ (some ((-2))) σ) : z_J Γ zm_Model_out 26 [none, none, none, none, none, none, none] [] σ := by
  refine zj_bipush (v := (-2)) zd_Model_out_26 (by decide) ?_
  exact zj_ireturn rfl zd_Model_out_28 e
theorem zb_Model_out_29 {Γ : zG} {σ : zS} {x1 : Int32} {dc : Nat} {P : Int32 → zS → Prop}  (hm : z_Ci dc zm_Model_inColumn [.inr (63), .inr (64), .inl (x1)] σ P) (hdp : dc < z_dep Γ) (k : ∀ r σ1, P r σ1 → z_J Γ zm_Model_out 38 [some (.inr (63)), some (.inl (x1)), none, none, none, none, none] [.inl (r)] σ1) : z_J Γ zm_Model_out 29 [some (.inr (63)), some (.inl (x1)), none, none, none, none, none] [] σ := by
  refine zj_aload_n zd_Model_out_29 rfl ?_
  refine zj_aload_n zd_Model_out_30 rfl ?_
  refine zj_getR rfl (by decide) rfl zu_Model (k := 0) (by decide) rfl zl_Model_9 zd_Model_out_31 (o' := 64) rfl ?_
  refine zj_iload_n zd_Model_out_34 rfl ?_
  exact zj_callVi (As := [.inr (64), .inl (x1)]) hm hdp rfl (by decide) rfl zl_Model_247 zq_Model_inColumn zd_Model_out_35 rfl (Nat.le_of_ble_eq_true rfl) (fun r σ1 h => (k r σ1 h))
theorem zb_Model_out_38 {Γ : zG} {σ : zS} {x1 y0 : Int32}  (k : z_J Γ zm_Model_out 50 [some (.inr (63)), some (.inl (x1)), some (.inl (y0)), some (.inl (nI 0)), some (.inl ((-1))), some (.inl (y0)), some (.inl (nI 0))] [] σ) : z_J Γ zm_Model_out 38 [some (.inr (63)), some (.inl (x1)), none, none, none, none, none] [.inl (y0)] σ := by
  refine zj_istore_n (L' := [some (.inr (63)), some (.inl (x1)), some (.inl (y0)), none, none, none, none]) zd_Model_out_38 (by decide) rfl ?_
  refine zj_iconst (v := nI 0) zd_Model_out_39 (by decide) ?_
  refine zj_istore_n (L' := [some (.inr (63)), some (.inl (x1)), some (.inl (y0)), some (.inl (nI 0)), none, none, none]) zd_Model_out_40 (by decide) rfl ?_
  refine zj_iconst (v := (-1)) zd_Model_out_41 (by decide) ?_
  refine zj_istore (L' := [some (.inr (63)), some (.inl (x1)), some (.inl (y0)), some (.inl (nI 0)), some (.inl ((-1))), none, none]) zd_Model_out_42 (by decide) rfl ?_
  refine zj_iload_n zd_Model_out_44 rfl ?_
  refine zj_istore (L' := [some (.inr (63)), some (.inl (x1)), some (.inl (y0)), some (.inl (nI 0)), some (.inl ((-1))), some (.inl (y0)), none]) zd_Model_out_45 (by decide) rfl ?_
  refine zj_iconst (v := nI 0) zd_Model_out_47 (by decide) ?_
  refine zj_istore (L' := [some (.inr (63)), some (.inl (x1)), some (.inl (y0)), some (.inl (nI 0)), some (.inl ((-1))), some (.inl (y0)), some (.inl (nI 0))]) zd_Model_out_48 (by decide) rfl ?_
  exact k
theorem zb_Model_out_50 {Γ : zG} {σ : zS} {x1 x2 x3 x4 x5 x6 : Int32}  (kt : x2 < x6 → z_J Γ zm_Model_out 116 [some (.inr (63)), none, none, some (.inl (x3)), some (.inl (x4)), some (.inl (x5)), none] [] σ) (kf : ¬ x2 < x6 → z_J Γ zm_Model_out 56 [some (.inr (63)), some (.inl (x1)), some (.inl (x2)), some (.inl (x3)), some (.inl (x4)), some (.inl (x5)), some (.inl (x6))] [] σ) : z_J Γ zm_Model_out 50 [some (.inr (63)), some (.inl (x1)), some (.inl (x2)), some (.inl (x3)), some (.inl (x4)), some (.inl (x5)), some (.inl (x6))] [] σ := by
  refine zj_iload zd_Model_out_50 rfl ?_
  refine zj_iload_n zd_Model_out_52 rfl ?_
  exact zj_icmp_gt zd_Model_out_53 (by decide) (fun h => (zj_weak (L' := [some (.inr (63)), none, none, some (.inl (x3)), some (.inl (x4)), some (.inl (x5)), none]) ⟨rfl, ⟨rfl, ⟨rfl, ⟨rfl, trivial⟩⟩⟩⟩ (kt h))) (fun h => (kf h))
theorem zb_Model_out_56 {Γ : zG} {σ : zS} {x1 x2 x3 x4 x5 x6 : Int32}  (kt : ¬ (x6 &&& (x2 ^^^ (-1))) = 0 → z_J Γ zm_Model_out 110 [some (.inr (63)), some (.inl (x1)), some (.inl (x2)), some (.inl (x3)), some (.inl (x4)), some (.inl (x5)), some (.inl (x6))] [] σ) (kf : (x6 &&& (x2 ^^^ (-1))) = 0 → z_J Γ zm_Model_out 65 [some (.inr (63)), some (.inl (x1)), some (.inl (x2)), some (.inl (x3)), some (.inl (x4)), some (.inl (x5)), some (.inl (x6))] [] σ) : z_J Γ zm_Model_out 56 [some (.inr (63)), some (.inl (x1)), some (.inl (x2)), some (.inl (x3)), some (.inl (x4)), some (.inl (x5)), some (.inl (x6))] [] σ := by
  refine zj_iload zd_Model_out_56 rfl ?_
  refine zj_iload_n zd_Model_out_58 rfl ?_
  refine zj_iconst (v := (-1)) zd_Model_out_59 (by decide) ?_
  refine zj_ixor zd_Model_out_60 ?_
  refine zj_iand zd_Model_out_61 ?_
  exact zj_if_ne zd_Model_out_62 (by decide) (fun h => (kt h)) (fun h => (kf h))
theorem zb_Model_out_65 {Γ : zG} {σ : zS} {x1 x2 x3 x4 x5 x6 : Int32} {dc : Nat} {P : Int32 → zS → Prop}  (hm : z_Ci dc zm_Model_thickOf [.inr (63), .inl (x2 &&& (x6 ^^^ (-1)))] σ P) (hdp : dc < z_dep Γ) (k : ∀ r σ1, P r σ1 → z_J Γ zm_Model_out 75 [some (.inr (63)), some (.inl (x1)), some (.inl (x2)), some (.inl (x3)), some (.inl (x4)), some (.inl (x5)), some (.inl (x6))] [.inl (r)] σ1) : z_J Γ zm_Model_out 65 [some (.inr (63)), some (.inl (x1)), some (.inl (x2)), some (.inl (x3)), some (.inl (x4)), some (.inl (x5)), some (.inl (x6))] [] σ := by
  refine zj_aload_n zd_Model_out_65 rfl ?_
  refine zj_iload_n zd_Model_out_66 rfl ?_
  refine zj_iload zd_Model_out_67 rfl ?_
  refine zj_iconst (v := (-1)) zd_Model_out_69 (by decide) ?_
  refine zj_ixor zd_Model_out_70 ?_
  refine zj_iand zd_Model_out_71 ?_
  exact zj_callVi (As := [.inl (x2 &&& (x6 ^^^ (-1)))]) hm hdp rfl (by decide) rfl zl_Model_251 zq_Model_thickOf zd_Model_out_72 rfl (Nat.le_of_ble_eq_true rfl) (fun r σ1 h => (k r σ1 h))
theorem zb_Model_out_75 {Γ : zG} {σ : zS} {x1 x2 x3 x4 x5 x6 y0 : Int32} {k1 : Nat}  (b1 : z_ix x1 6 k1) (kt : y0 = (σ.1 83 k1) → z_J Γ zm_Model_out 87 [some (.inr (63)), some (.inl (x1)), some (.inl (x2)), some (.inl (x3)), some (.inl (x4)), some (.inl (x5)), some (.inl (x6))] [] σ) (kf : ¬ y0 = (σ.1 83 k1) → z_J Γ zm_Model_out 84 [some (.inr (63)), some (.inl (x1)), some (.inl (x2)), some (.inl (x3)), some (.inl (x4)), some (.inl (x5)), some (.inl (x6))] [] σ) : z_J Γ zm_Model_out 75 [some (.inr (63)), some (.inl (x1)), some (.inl (x2)), some (.inl (x3)), some (.inl (x4)), some (.inl (x5)), some (.inl (x6))] [.inl (y0)] σ := by
  refine zj_aload_n zd_Model_out_75 rfl ?_
  refine zj_getR rfl (by decide) rfl zu_Model (k := 40) (by decide) rfl zl_Model_75 zd_Model_out_76 (o' := 83) rfl ?_
  refine zj_iload_n zd_Model_out_79 rfl ?_
  refine zj_iaload rfl (by decide) b1 zd_Model_out_80 ?_
  exact zj_icmp_eq zd_Model_out_81 (by decide) (fun h => (kt h)) (fun h => (kf h))
theorem zb_Model_out_84 {Γ : zG} {σ : zS} {x1 x2 x3 x4 x5 x6 : Int32}  (k : z_J Γ zm_Model_out 110 [some (.inr (63)), some (.inl (x1)), some (.inl (x2)), some (.inl (x3)), some (.inl (x4)), some (.inl (x5)), some (.inl (x6))] [] σ) : z_J Γ zm_Model_out 84 [some (.inr (63)), some (.inl (x1)), some (.inl (x2)), some (.inl (x3)), some (.inl (x4)), some (.inl (x5)), some (.inl (x6))] [] σ := by
  exact zj_goto zd_Model_out_84 (by decide) k
theorem zb_Model_out_87 {Γ : zG} {σ : zS} {x1 x2 x3 x4 x5 x6 : Int32}  (kt : ¬ x3 = 0 → z_J Γ zm_Model_out 96 [some (.inr (63)), some (.inl (x1)), some (.inl (x2)), some (.inl (x3)), some (.inl (x4)), some (.inl (x5)), some (.inl (x6))] [] σ) (kf : x3 = 0 → z_J Γ zm_Model_out 91 [some (.inr (63)), some (.inl (x1)), some (.inl (x2)), some (.inl (x3)), none, some (.inl (x5)), some (.inl (x6))] [] σ) : z_J Γ zm_Model_out 87 [some (.inr (63)), some (.inl (x1)), some (.inl (x2)), some (.inl (x3)), some (.inl (x4)), some (.inl (x5)), some (.inl (x6))] [] σ := by
  refine zj_iload_n zd_Model_out_87 rfl ?_
  exact zj_if_ne zd_Model_out_88 (by decide) (fun h => (kt h)) (fun h => (zj_weak (L' := [some (.inr (63)), some (.inl (x1)), some (.inl (x2)), some (.inl (x3)), none, some (.inl (x5)), some (.inl (x6))]) ⟨rfl, ⟨rfl, ⟨rfl, ⟨rfl, ⟨rfl, ⟨rfl, trivial⟩⟩⟩⟩⟩⟩ (kf h)))
theorem zb_Model_out_91 {Γ : zG} {σ : zS} {x1 x2 x3 x5 x6 : Int32}  (k : z_J Γ zm_Model_out 98 [some (.inr (63)), some (.inl (x1)), some (.inl (x2)), some (.inl (x3)), none, some (.inl (x5)), some (.inl (x6))] [.inl (x6)] σ) : z_J Γ zm_Model_out 91 [some (.inr (63)), some (.inl (x1)), some (.inl (x2)), some (.inl (x3)), none, some (.inl (x5)), some (.inl (x6))] [] σ := by
  refine zj_iload zd_Model_out_91 rfl ?_
  exact zj_goto zd_Model_out_93 (by decide) k
theorem zb_Model_out_96 {Γ : zG} {σ : zS} {x1 x2 x3 x4 x5 x6 : Int32}  (k : z_J Γ zm_Model_out 98 [some (.inr (63)), some (.inl (x1)), some (.inl (x2)), some (.inl (x3)), none, some (.inl (x5)), some (.inl (x6))] [.inl (x4)] σ) : z_J Γ zm_Model_out 96 [some (.inr (63)), some (.inl (x1)), some (.inl (x2)), some (.inl (x3)), some (.inl (x4)), some (.inl (x5)), some (.inl (x6))] [] σ := by
  refine zj_iload zd_Model_out_96 rfl ?_
  exact (zj_weak (L' := [some (.inr (63)), some (.inl (x1)), some (.inl (x2)), some (.inl (x3)), none, some (.inl (x5)), some (.inl (x6))]) ⟨rfl, ⟨rfl, ⟨rfl, ⟨rfl, ⟨rfl, ⟨rfl, trivial⟩⟩⟩⟩⟩⟩ k)
theorem zb_Model_out_98 {Γ : zG} {σ : zS} {x1 x2 x3 x5 x6 y0 : Int32}  (k : z_J Γ zm_Model_out 110 [some (.inr (63)), some (.inl (x1)), some (.inl (x2)), some (.inl (x3 + nI 1)), some (.inl (y0)), some (.inl (x5 &&& x6)), some (.inl (x6))] [] σ) : z_J Γ zm_Model_out 98 [some (.inr (63)), some (.inl (x1)), some (.inl (x2)), some (.inl (x3)), none, some (.inl (x5)), some (.inl (x6))] [.inl (y0)] σ := by
  refine zj_istore (L' := [some (.inr (63)), some (.inl (x1)), some (.inl (x2)), some (.inl (x3)), some (.inl (y0)), some (.inl (x5)), some (.inl (x6))]) zd_Model_out_98 (by decide) rfl ?_
  refine zj_iload zd_Model_out_100 rfl ?_
  refine zj_iload zd_Model_out_102 rfl ?_
  refine zj_iand zd_Model_out_104 ?_
  refine zj_istore (L' := [some (.inr (63)), some (.inl (x1)), some (.inl (x2)), some (.inl (x3)), some (.inl (y0)), some (.inl (x5 &&& x6)), some (.inl (x6))]) zd_Model_out_105 (by decide) rfl ?_
  refine zj_iinc (v := nI 1) (L' := [some (.inr (63)), some (.inl (x1)), some (.inl (x2)), some (.inl (x3 + nI 1)), some (.inl (y0)), some (.inl (x5 &&& x6)), some (.inl (x6))]) zd_Model_out_107 rfl (by decide) (by decide) rfl ?_
  exact k
theorem zb_Model_out_110 {Γ : zG} {σ : zS} {x1 x2 x3 x4 x5 x6 : Int32}  (k : z_J Γ zm_Model_out 50 [some (.inr (63)), some (.inl (x1)), some (.inl (x2)), some (.inl (x3)), some (.inl (x4)), some (.inl (x5)), some (.inl (x6 + nI 1))] [] σ) : z_J Γ zm_Model_out 110 [some (.inr (63)), some (.inl (x1)), some (.inl (x2)), some (.inl (x3)), some (.inl (x4)), some (.inl (x5)), some (.inl (x6))] [] σ := by
  refine zj_iinc (v := nI 1) (L' := [some (.inr (63)), some (.inl (x1)), some (.inl (x2)), some (.inl (x3)), some (.inl (x4)), some (.inl (x5)), some (.inl (x6 + nI 1))]) zd_Model_out_110 rfl (by decide) (by decide) rfl ?_
  exact zj_goto zd_Model_out_113 (by decide) k
theorem zb_Model_out_116 {Γ : zG} {σ : zS} {x3 x4 x5 : Int32} {dc : Nat} {P : zS → Prop}  (hm : z_Cv dc zm_Model_tell [.inr (63), .inl (x4)] (z_pI σ 63 10 (nI 0)) P) (hdp : dc < z_dep Γ) (k : ∀ σ1, P σ1 → z_J Γ zm_Model_out 127 [some (.inr (63)), none, none, some (.inl (x3)), none, some (.inl (x5)), none] [] σ1) : z_J Γ zm_Model_out 116 [some (.inr (63)), none, none, some (.inl (x3)), some (.inl (x4)), some (.inl (x5)), none] [] σ := by
  refine zj_aload_n zd_Model_out_116 rfl ?_
  refine zj_iconst (v := nI 0) zd_Model_out_117 (by decide) ?_
  refine zj_putI rfl (by decide) rfl zu_Model zy_Model_ok zn_Model (k := 10) (by decide) rfl rfl zl_Model_94 rfl rfl zd_Model_out_118 ?_
  refine zj_aload_n zd_Model_out_121 rfl ?_
  refine zj_iload zd_Model_out_122 rfl ?_
  exact zj_callVv (As := [.inl (x4)]) hm hdp rfl (by decide) rfl zl_Model_312 zq_Model_tell zd_Model_out_124 rfl (Nat.le_of_ble_eq_true rfl) (fun σ1 h => (zj_weak (L' := [some (.inr (63)), none, none, some (.inl (x3)), none, some (.inl (x5)), none]) ⟨rfl, ⟨rfl, ⟨rfl, trivial⟩⟩⟩ (k σ1 h)))
theorem zb_Model_out_127 {Γ : zG} {σ : zS} {x3 x5 : Int32}  (kt : ¬ x3 = 0 → z_J Γ zm_Model_out 136 [none, none, none, some (.inl (x3)), none, some (.inl (x5)), none] [.inr (63)] σ) (kf : x3 = 0 → z_J Γ zm_Model_out 132 [none, none, none, some (.inl (x3)), none, none, none] [.inr (63)] σ) : z_J Γ zm_Model_out 127 [some (.inr (63)), none, none, some (.inl (x3)), none, some (.inl (x5)), none] [] σ := by
  refine zj_aload_n zd_Model_out_127 rfl ?_
  refine zj_iload_n zd_Model_out_128 rfl ?_
  exact zj_if_ne zd_Model_out_129 (by decide) (fun h => (zj_weak (L' := [none, none, none, some (.inl (x3)), none, some (.inl (x5)), none]) ⟨rfl, ⟨rfl, trivial⟩⟩ (kt h))) (fun h => (zj_weak (L' := [none, none, none, some (.inl (x3)), none, none, none]) ⟨rfl, trivial⟩ (kf h)))
theorem zb_Model_out_132 {Γ : zG} {σ : zS} {x3 : Int32}  (k : z_J Γ zm_Model_out 138 [none, none, none, some (.inl (x3)), none, none, none] [.inl (nI 0), .inr (63)] σ) : z_J Γ zm_Model_out 132 [none, none, none, some (.inl (x3)), none, none, none] [.inr (63)] σ := by
  refine zj_iconst (v := nI 0) zd_Model_out_132 (by decide) ?_
  exact zj_goto zd_Model_out_133 (by decide) k
theorem zb_Model_out_136 {Γ : zG} {σ : zS} {x3 x5 : Int32}  (k : z_J Γ zm_Model_out 138 [none, none, none, some (.inl (x3)), none, none, none] [.inl (x5), .inr (63)] σ) : z_J Γ zm_Model_out 136 [none, none, none, some (.inl (x3)), none, some (.inl (x5)), none] [.inr (63)] σ := by
  refine zj_iload zd_Model_out_136 rfl ?_
  exact (zj_weak (L' := [none, none, none, some (.inl (x3)), none, none, none]) ⟨rfl, trivial⟩ k)
theorem zb_Model_out_138 {Γ : zG} {σ : zS} {x3 y0 : Int32} {dc : Nat} {P : zS → Prop}  (hm : z_Cv dc zm_Model_tell [.inr (63), .inl (y0)] σ P) (hdp : dc < z_dep Γ) (k : ∀ σ1, P σ1 → z_J Γ zm_Model_out 141 [none, none, none, some (.inl (x3)), none, none, none] [] σ1) : z_J Γ zm_Model_out 138 [none, none, none, some (.inl (x3)), none, none, none] [.inl (y0), .inr (63)] σ := by
  exact zj_callVv (As := [.inl (y0)]) hm hdp rfl (by decide) rfl zl_Model_312 zq_Model_tell zd_Model_out_138 rfl (Nat.le_of_ble_eq_true rfl) (fun σ1 h => (k σ1 h))
theorem zb_Model_out_141 {Γ : zG} {σ : zS} {x3 : Int32}  (e : z_end Γ (some (x3)) σ) : z_J Γ zm_Model_out 141 [none, none, none, some (.inl (x3)), none, none, none] [] σ := by
  refine zj_iload_n zd_Model_out_141 rfl ?_
  exact zj_ireturn rfl zd_Model_out_142 e
theorem zd_Model_look_0 : decode zm_Model_look.2.1 0 = .ok (.aload_n 0, 1) := by decide +kernel
theorem zd_Model_look_1 : decode zm_Model_look.2.1 1 = .ok (.iconst 0, 1) := by decide +kernel
theorem zd_Model_look_2 : decode zm_Model_look.2.1 2 = .ok (.putfield 91, 3) := by decide +kernel
theorem zd_Model_look_5 : decode zm_Model_look.2.1 5 = .ok (.bipush (-2), 2) := by decide +kernel
theorem zd_Model_look_7 : decode zm_Model_look.2.1 7 = .ok (.istore_n 1, 1) := by decide +kernel
theorem zd_Model_look_8 : decode zm_Model_look.2.1 8 = .ok (.iconst 0, 1) := by decide +kernel
theorem zd_Model_look_9 : decode zm_Model_look.2.1 9 = .ok (.istore_n 2, 1) := by decide +kernel
theorem zd_Model_look_10 : decode zm_Model_look.2.1 10 = .ok (.iconst 0, 1) := by decide +kernel
theorem zd_Model_look_11 : decode zm_Model_look.2.1 11 = .ok (.istore_n 3, 1) := by decide +kernel
theorem zd_Model_look_12 : decode zm_Model_look.2.1 12 = .ok (.iload_n 3, 1) := by decide +kernel
theorem zd_Model_look_13 : decode zm_Model_look.2.1 13 = .ok (.aload_n 0, 1) := by decide +kernel
theorem zd_Model_look_14 : decode zm_Model_look.2.1 14 = .ok (.getfield 19, 3) := by decide +kernel
theorem zd_Model_look_17 : decode zm_Model_look.2.1 17 = .ok (.if_icmp .ge 40, 3) := by decide +kernel
theorem zd_Model_look_20 : decode zm_Model_look.2.1 20 = .ok (.aload_n 0, 1) := by decide +kernel
theorem zd_Model_look_21 : decode zm_Model_look.2.1 21 = .ok (.getfield 181, 3) := by decide +kernel
theorem zd_Model_look_24 : decode zm_Model_look.2.1 24 = .ok (.iload_n 3, 1) := by decide +kernel
theorem zd_Model_look_25 : decode zm_Model_look.2.1 25 = .ok (.invokestatic 169, 3) := by decide +kernel
theorem zd_Model_look_28 : decode zm_Model_look.2.1 28 = .ok (.ifCond .ne 23, 3) := by decide +kernel
theorem zd_Model_look_31 : decode zm_Model_look.2.1 31 = .ok (.aload_n 0, 1) := by decide +kernel
theorem zd_Model_look_32 : decode zm_Model_look.2.1 32 = .ok (.iload_n 3, 1) := by decide +kernel
theorem zd_Model_look_33 : decode zm_Model_look.2.1 33 = .ok (.invokevirtual 381, 3) := by decide +kernel
theorem zd_Model_look_36 : decode zm_Model_look.2.1 36 = .ok (.iload_n 2, 1) := by decide +kernel
theorem zd_Model_look_37 : decode zm_Model_look.2.1 37 = .ok (.if_icmp .gt 6, 3) := by decide +kernel
theorem zd_Model_look_40 : decode zm_Model_look.2.1 40 = .ok (.goto 11, 3) := by decide +kernel
theorem zd_Model_look_43 : decode zm_Model_look.2.1 43 = .ok (.iload_n 3, 1) := by decide +kernel
theorem zd_Model_look_44 : decode zm_Model_look.2.1 44 = .ok (.istore_n 1, 1) := by decide +kernel
theorem zd_Model_look_45 : decode zm_Model_look.2.1 45 = .ok (.aload_n 0, 1) := by decide +kernel
theorem zd_Model_look_46 : decode zm_Model_look.2.1 46 = .ok (.iload_n 3, 1) := by decide +kernel
theorem zd_Model_look_47 : decode zm_Model_look.2.1 47 = .ok (.invokevirtual 381, 3) := by decide +kernel
theorem zd_Model_look_50 : decode zm_Model_look.2.1 50 = .ok (.istore_n 2, 1) := by decide +kernel
theorem zd_Model_look_51 : decode zm_Model_look.2.1 51 = .ok (.iinc 3 1, 3) := by decide +kernel
theorem zd_Model_look_54 : decode zm_Model_look.2.1 54 = .ok (.goto (-42), 3) := by decide +kernel
theorem zd_Model_look_57 : decode zm_Model_look.2.1 57 = .ok (.iload_n 1, 1) := by decide +kernel
theorem zd_Model_look_58 : decode zm_Model_look.2.1 58 = .ok (.ifCond .ge 6, 3) := by decide +kernel
theorem zd_Model_look_61 : decode zm_Model_look.2.1 61 = .ok (.bipush (-2), 2) := by decide +kernel
theorem zd_Model_look_63 : decode zm_Model_look.2.1 63 = .ok (.ireturn, 1) := by decide +kernel
theorem zd_Model_look_64 : decode zm_Model_look.2.1 64 = .ok (.aload_n 0, 1) := by decide +kernel
theorem zd_Model_look_65 : decode zm_Model_look.2.1 65 = .ok (.iconst 0, 1) := by decide +kernel
theorem zd_Model_look_66 : decode zm_Model_look.2.1 66 = .ok (.putfield 94, 3) := by decide +kernel
theorem zd_Model_look_69 : decode zm_Model_look.2.1 69 = .ok (.aload_n 0, 1) := by decide +kernel
theorem zd_Model_look_70 : decode zm_Model_look.2.1 70 = .ok (.iload_n 2, 1) := by decide +kernel
theorem zd_Model_look_71 : decode zm_Model_look.2.1 71 = .ok (.invokevirtual 312, 3) := by decide +kernel
theorem zd_Model_look_74 : decode zm_Model_look.2.1 74 = .ok (.iload_n 1, 1) := by decide +kernel
theorem zd_Model_look_75 : decode zm_Model_look.2.1 75 = .ok (.ireturn, 1) := by decide +kernel
theorem zb_Model_look_0 {Γ : zG} {σ : zS}  (k : z_J Γ zm_Model_look 12 [some (.inr (63)), some (.inl ((-2))), some (.inl (nI 0)), some (.inl (nI 0))] [] (z_pI σ 63 11 (nI 0))) : z_J Γ zm_Model_look 0 [some (.inr (63)), none, none, none] [] σ := by
  refine zj_aload_n zd_Model_look_0 rfl ?_
  refine zj_iconst (v := nI 0) zd_Model_look_1 (by decide) ?_
  refine zj_putI rfl (by decide) rfl zu_Model zy_Model_ok zn_Model (k := 11) (by decide) rfl rfl zl_Model_91 rfl rfl zd_Model_look_2 ?_
  refine zj_bipush (v := (-2)) zd_Model_look_5 (by decide) ?_
  refine zj_istore_n (L' := [some (.inr (63)), some (.inl ((-2))), none, none]) zd_Model_look_7 (by decide) rfl ?_
  refine zj_iconst (v := nI 0) zd_Model_look_8 (by decide) ?_
  refine zj_istore_n (L' := [some (.inr (63)), some (.inl ((-2))), some (.inl (nI 0)), none]) zd_Model_look_9 (by decide) rfl ?_
  refine zj_iconst (v := nI 0) zd_Model_look_10 (by decide) ?_
  refine zj_istore_n (L' := [some (.inr (63)), some (.inl ((-2))), some (.inl (nI 0)), some (.inl (nI 0))]) zd_Model_look_11 (by decide) rfl ?_
  exact k
theorem zb_Model_look_12 {Γ : zG} {σ : zS} {x1 x2 x3 : Int32}  (kt : (σ.1 63 4) ≤ x3 → z_J Γ zm_Model_look 57 [some (.inr (63)), some (.inl (x1)), some (.inl (x2)), none] [] σ) (kf : ¬ (σ.1 63 4) ≤ x3 → z_J Γ zm_Model_look 20 [some (.inr (63)), some (.inl (x1)), some (.inl (x2)), some (.inl (x3))] [] σ) : z_J Γ zm_Model_look 12 [some (.inr (63)), some (.inl (x1)), some (.inl (x2)), some (.inl (x3))] [] σ := by
  refine zj_iload_n zd_Model_look_12 rfl ?_
  refine zj_aload_n zd_Model_look_13 rfl ?_
  refine zj_getI rfl (by decide) rfl zu_Model (k := 4) (by decide) rfl zl_Model_19 zd_Model_look_14 ?_
  exact zj_icmp_ge zd_Model_look_17 (by decide) (fun h => (zj_weak (L' := [some (.inr (63)), some (.inl (x1)), some (.inl (x2)), none]) ⟨rfl, ⟨rfl, ⟨rfl, trivial⟩⟩⟩ (kt h))) (fun h => (kf h))
theorem zb_Model_look_20 {Γ : zG} {σ : zS} {x1 x2 x3 : Int32} {dc : Nat} {P : Int32 → zS → Prop}  (hm : z_Ci dc zm_Model_has [.inl (σ.1 63 41), .inl (x3)] σ P) (hdp : dc < z_dep Γ) (k : ∀ r σ1, P r σ1 → z_J Γ zm_Model_look 28 [some (.inr (63)), some (.inl (x1)), some (.inl (x2)), some (.inl (x3))] [.inl (r)] σ1) : z_J Γ zm_Model_look 20 [some (.inr (63)), some (.inl (x1)), some (.inl (x2)), some (.inl (x3))] [] σ := by
  refine zj_aload_n zd_Model_look_20 rfl ?_
  refine zj_getI rfl (by decide) rfl zu_Model (k := 41) (by decide) rfl zl_Model_181 zd_Model_look_21 ?_
  refine zj_iload_n zd_Model_look_24 rfl ?_
  exact zj_callSi (As := [.inl (σ.1 63 41), .inl (x3)]) hm hdp zl_Model_169 zq_Model_has zd_Model_look_25 rfl (Nat.le_of_ble_eq_true rfl) (fun r σ1 h => (k r σ1 h))
theorem zb_Model_look_28 {Γ : zG} {σ : zS} {x1 x2 x3 y0 : Int32}  (kt : ¬ y0 = 0 → z_J Γ zm_Model_look 51 [some (.inr (63)), some (.inl (x1)), some (.inl (x2)), some (.inl (x3))] [] σ) (kf : y0 = 0 → z_J Γ zm_Model_look 31 [some (.inr (63)), some (.inl (x1)), some (.inl (x2)), some (.inl (x3))] [] σ) : z_J Γ zm_Model_look 28 [some (.inr (63)), some (.inl (x1)), some (.inl (x2)), some (.inl (x3))] [.inl (y0)] σ := by
  exact zj_if_ne zd_Model_look_28 (by decide) (fun h => (kt h)) (fun h => (kf h))
theorem zb_Model_look_31 {Γ : zG} {σ : zS} {x1 x2 x3 : Int32} {dc : Nat} {P : Int32 → zS → Prop}  (hm : z_Ci dc zm_Model_shows [.inr (63), .inl (x3)] σ P) (hdp : dc < z_dep Γ) (k : ∀ r σ1, P r σ1 → z_J Γ zm_Model_look 36 [some (.inr (63)), some (.inl (x1)), some (.inl (x2)), some (.inl (x3))] [.inl (r)] σ1) : z_J Γ zm_Model_look 31 [some (.inr (63)), some (.inl (x1)), some (.inl (x2)), some (.inl (x3))] [] σ := by
  refine zj_aload_n zd_Model_look_31 rfl ?_
  refine zj_iload_n zd_Model_look_32 rfl ?_
  exact zj_callVi (As := [.inl (x3)]) hm hdp rfl (by decide) rfl zl_Model_381 zq_Model_shows zd_Model_look_33 rfl (Nat.le_of_ble_eq_true rfl) (fun r σ1 h => (k r σ1 h))
theorem zb_Model_look_36 {Γ : zG} {σ : zS} {x1 x2 x3 y0 : Int32}  (kt : x2 < y0 → z_J Γ zm_Model_look 43 [some (.inr (63)), none, none, some (.inl (x3))] [] σ) (kf : ¬ x2 < y0 → z_J Γ zm_Model_look 40 [some (.inr (63)), some (.inl (x1)), some (.inl (x2)), some (.inl (x3))] [] σ) : z_J Γ zm_Model_look 36 [some (.inr (63)), some (.inl (x1)), some (.inl (x2)), some (.inl (x3))] [.inl (y0)] σ := by
  refine zj_iload_n zd_Model_look_36 rfl ?_
  exact zj_icmp_gt zd_Model_look_37 (by decide) (fun h => (zj_weak (L' := [some (.inr (63)), none, none, some (.inl (x3))]) ⟨rfl, ⟨rfl, trivial⟩⟩ (kt h))) (fun h => (kf h))
theorem zb_Model_look_40 {Γ : zG} {σ : zS} {x1 x2 x3 : Int32}  (k : z_J Γ zm_Model_look 51 [some (.inr (63)), some (.inl (x1)), some (.inl (x2)), some (.inl (x3))] [] σ) : z_J Γ zm_Model_look 40 [some (.inr (63)), some (.inl (x1)), some (.inl (x2)), some (.inl (x3))] [] σ := by
  exact zj_goto zd_Model_look_40 (by decide) k
theorem zb_Model_look_43 {Γ : zG} {σ : zS} {x3 : Int32} {dc : Nat} {P : Int32 → zS → Prop}  (hm : z_Ci dc zm_Model_shows [.inr (63), .inl (x3)] σ P) (hdp : dc < z_dep Γ) (k : ∀ r σ1, P r σ1 → z_J Γ zm_Model_look 50 [some (.inr (63)), some (.inl (x3)), none, some (.inl (x3))] [.inl (r)] σ1) : z_J Γ zm_Model_look 43 [some (.inr (63)), none, none, some (.inl (x3))] [] σ := by
  refine zj_iload_n zd_Model_look_43 rfl ?_
  refine zj_istore_n (L' := [some (.inr (63)), some (.inl (x3)), none, some (.inl (x3))]) zd_Model_look_44 (by decide) rfl ?_
  refine zj_aload_n zd_Model_look_45 rfl ?_
  refine zj_iload_n zd_Model_look_46 rfl ?_
  exact zj_callVi (As := [.inl (x3)]) hm hdp rfl (by decide) rfl zl_Model_381 zq_Model_shows zd_Model_look_47 rfl (Nat.le_of_ble_eq_true rfl) (fun r σ1 h => (k r σ1 h))
theorem zb_Model_look_50 {Γ : zG} {σ : zS} {x1 x3 y0 : Int32}  (k : z_J Γ zm_Model_look 51 [some (.inr (63)), some (.inl (x1)), some (.inl (y0)), some (.inl (x3))] [] σ) : z_J Γ zm_Model_look 50 [some (.inr (63)), some (.inl (x1)), none, some (.inl (x3))] [.inl (y0)] σ := by
  refine zj_istore_n (L' := [some (.inr (63)), some (.inl (x1)), some (.inl (y0)), some (.inl (x3))]) zd_Model_look_50 (by decide) rfl ?_
  exact k
theorem zb_Model_look_51 {Γ : zG} {σ : zS} {x1 x2 x3 : Int32}  (k : z_J Γ zm_Model_look 12 [some (.inr (63)), some (.inl (x1)), some (.inl (x2)), some (.inl (x3 + nI 1))] [] σ) : z_J Γ zm_Model_look 51 [some (.inr (63)), some (.inl (x1)), some (.inl (x2)), some (.inl (x3))] [] σ := by
  refine zj_iinc (v := nI 1) (L' := [some (.inr (63)), some (.inl (x1)), some (.inl (x2)), some (.inl (x3 + nI 1))]) zd_Model_look_51 rfl (by decide) (by decide) rfl ?_
  exact zj_goto zd_Model_look_54 (by decide) k
theorem zb_Model_look_57 {Γ : zG} {σ : zS} {x1 x2 : Int32}  (kt : 0 ≤ x1 → z_J Γ zm_Model_look 64 [some (.inr (63)), some (.inl (x1)), some (.inl (x2)), none] [] σ) (kf : ¬ 0 ≤ x1 → z_J Γ zm_Model_look 61 [none, none, none, none] [] σ) : z_J Γ zm_Model_look 57 [some (.inr (63)), some (.inl (x1)), some (.inl (x2)), none] [] σ := by
  refine zj_iload_n zd_Model_look_57 rfl ?_
  exact zj_if_ge zd_Model_look_58 (by decide) (fun h => (kt h)) (fun h => (zj_weak (L' := [none, none, none, none]) trivial (kf h)))
theorem zb_Model_look_61 {Γ : zG} {σ : zS}  (e : z_end Γ (some ((-2))) σ) : z_J Γ zm_Model_look 61 [none, none, none, none] [] σ := by
  refine zj_bipush (v := (-2)) zd_Model_look_61 (by decide) ?_
  exact zj_ireturn rfl zd_Model_look_63 e
theorem zb_Model_look_64 {Γ : zG} {σ : zS} {x1 x2 : Int32} {dc : Nat} {P : zS → Prop}  (hm : z_Cv dc zm_Model_tell [.inr (63), .inl (x2)] (z_pI σ 63 10 (nI 0)) P) (hdp : dc < z_dep Γ) (k : ∀ σ1, P σ1 → z_J Γ zm_Model_look 74 [none, some (.inl (x1)), none, none] [] σ1) : z_J Γ zm_Model_look 64 [some (.inr (63)), some (.inl (x1)), some (.inl (x2)), none] [] σ := by
  refine zj_aload_n zd_Model_look_64 rfl ?_
  refine zj_iconst (v := nI 0) zd_Model_look_65 (by decide) ?_
  refine zj_putI rfl (by decide) rfl zu_Model zy_Model_ok zn_Model (k := 10) (by decide) rfl rfl zl_Model_94 rfl rfl zd_Model_look_66 ?_
  refine zj_aload_n zd_Model_look_69 rfl ?_
  refine zj_iload_n zd_Model_look_70 rfl ?_
  exact zj_callVv (As := [.inl (x2)]) hm hdp rfl (by decide) rfl zl_Model_312 zq_Model_tell zd_Model_look_71 rfl (Nat.le_of_ble_eq_true rfl) (fun σ1 h => (zj_weak (L' := [none, some (.inl (x1)), none, none]) ⟨rfl, trivial⟩ (k σ1 h)))
theorem zb_Model_look_74 {Γ : zG} {σ : zS} {x1 : Int32}  (e : z_end Γ (some (x1)) σ) : z_J Γ zm_Model_look 74 [none, some (.inl (x1)), none, none] [] σ := by
  refine zj_iload_n zd_Model_look_74 rfl ?_
  exact zj_ireturn rfl zd_Model_look_75 e
theorem zd_Model_shows_0 : decode zm_Model_shows.2.1 0 = .ok (.aload_n 0, 1) := by decide +kernel
theorem zd_Model_shows_1 : decode zm_Model_shows.2.1 1 = .ok (.aload_n 0, 1) := by decide +kernel
theorem zd_Model_shows_2 : decode zm_Model_shows.2.1 2 = .ok (.getfield 9, 3) := by decide +kernel
theorem zd_Model_shows_5 : decode zm_Model_shows.2.1 5 = .ok (.iload_n 1, 1) := by decide +kernel
theorem zd_Model_shows_6 : decode zm_Model_shows.2.1 6 = .ok (.invokevirtual 247, 3) := by decide +kernel
theorem zd_Model_shows_9 : decode zm_Model_shows.2.1 9 = .ok (.istore_n 2, 1) := by decide +kernel
theorem zd_Model_shows_10 : decode zm_Model_shows.2.1 10 = .ok (.iconst 0, 1) := by decide +kernel
theorem zd_Model_shows_11 : decode zm_Model_shows.2.1 11 = .ok (.istore_n 3, 1) := by decide +kernel
theorem zd_Model_shows_12 : decode zm_Model_shows.2.1 12 = .ok (.iconst 0, 1) := by decide +kernel
theorem zd_Model_shows_13 : decode zm_Model_shows.2.1 13 = .ok (.istore 4, 2) := by decide +kernel
theorem zd_Model_shows_15 : decode zm_Model_shows.2.1 15 = .ok (.iload 4, 2) := by decide +kernel
theorem zd_Model_shows_17 : decode zm_Model_shows.2.1 17 = .ok (.aload_n 0, 1) := by decide +kernel
theorem zd_Model_shows_18 : decode zm_Model_shows.2.1 18 = .ok (.getfield 78, 3) := by decide +kernel
theorem zd_Model_shows_21 : decode zm_Model_shows.2.1 21 = .ok (.arraylength, 1) := by decide +kernel
theorem zd_Model_shows_22 : decode zm_Model_shows.2.1 22 = .ok (.if_icmp .ge 17, 3) := by decide +kernel
theorem zd_Model_shows_25 : decode zm_Model_shows.2.1 25 = .ok (.aload_n 0, 1) := by decide +kernel
theorem zd_Model_shows_26 : decode zm_Model_shows.2.1 26 = .ok (.getfield 78, 3) := by decide +kernel
theorem zd_Model_shows_29 : decode zm_Model_shows.2.1 29 = .ok (.iload 4, 2) := by decide +kernel
theorem zd_Model_shows_31 : decode zm_Model_shows.2.1 31 = .ok (.iconst 0, 1) := by decide +kernel
theorem zd_Model_shows_32 : decode zm_Model_shows.2.1 32 = .ok (.bastore, 1) := by decide +kernel
theorem zd_Model_shows_33 : decode zm_Model_shows.2.1 33 = .ok (.iinc 4 1, 3) := by decide +kernel
theorem zd_Model_shows_36 : decode zm_Model_shows.2.1 36 = .ok (.goto (-21), 3) := by decide +kernel
theorem zd_Model_shows_39 : decode zm_Model_shows.2.1 39 = .ok (.iconst 0, 1) := by decide +kernel
theorem zd_Model_shows_40 : decode zm_Model_shows.2.1 40 = .ok (.istore 4, 2) := by decide +kernel
theorem zd_Model_shows_42 : decode zm_Model_shows.2.1 42 = .ok (.iload 4, 2) := by decide +kernel
theorem zd_Model_shows_44 : decode zm_Model_shows.2.1 44 = .ok (.iload_n 2, 1) := by decide +kernel
theorem zd_Model_shows_45 : decode zm_Model_shows.2.1 45 = .ok (.if_icmp .gt 55, 3) := by decide +kernel
theorem zd_Model_shows_48 : decode zm_Model_shows.2.1 48 = .ok (.iload 4, 2) := by decide +kernel
theorem zd_Model_shows_50 : decode zm_Model_shows.2.1 50 = .ok (.iload_n 2, 1) := by decide +kernel
theorem zd_Model_shows_51 : decode zm_Model_shows.2.1 51 = .ok (.iconst (-1), 1) := by decide +kernel
theorem zd_Model_shows_52 : decode zm_Model_shows.2.1 52 = .ok (.ixor, 1) := by decide +kernel
theorem zd_Model_shows_53 : decode zm_Model_shows.2.1 53 = .ok (.iand, 1) := by decide +kernel
theorem zd_Model_shows_54 : decode zm_Model_shows.2.1 54 = .ok (.ifCond .eq 6, 3) := by decide +kernel
theorem zd_Model_shows_57 : decode zm_Model_shows.2.1 57 = .ok (.goto 37, 3) := by decide +kernel
theorem zd_Model_shows_60 : decode zm_Model_shows.2.1 60 = .ok (.iload_n 3, 1) := by decide +kernel
theorem zd_Model_shows_61 : decode zm_Model_shows.2.1 61 = .ok (.aload_n 0, 1) := by decide +kernel
theorem zd_Model_shows_62 : decode zm_Model_shows.2.1 62 = .ok (.getfield 78, 3) := by decide +kernel
theorem zd_Model_shows_65 : decode zm_Model_shows.2.1 65 = .ok (.aload_n 0, 1) := by decide +kernel
theorem zd_Model_shows_66 : decode zm_Model_shows.2.1 66 = .ok (.iload 4, 2) := by decide +kernel
theorem zd_Model_shows_68 : decode zm_Model_shows.2.1 68 = .ok (.invokevirtual 251, 3) := by decide +kernel
theorem zd_Model_shows_71 : decode zm_Model_shows.2.1 71 = .ok (.baload, 1) := by decide +kernel
theorem zd_Model_shows_72 : decode zm_Model_shows.2.1 72 = .ok (.ifCond .eq 7, 3) := by decide +kernel
theorem zd_Model_shows_75 : decode zm_Model_shows.2.1 75 = .ok (.iconst 0, 1) := by decide +kernel
theorem zd_Model_shows_76 : decode zm_Model_shows.2.1 76 = .ok (.goto 4, 3) := by decide +kernel
theorem zd_Model_shows_79 : decode zm_Model_shows.2.1 79 = .ok (.iconst 1, 1) := by decide +kernel
theorem zd_Model_shows_80 : decode zm_Model_shows.2.1 80 = .ok (.iadd, 1) := by decide +kernel
theorem zd_Model_shows_81 : decode zm_Model_shows.2.1 81 = .ok (.istore_n 3, 1) := by decide +kernel
theorem zd_Model_shows_82 : decode zm_Model_shows.2.1 82 = .ok (.aload_n 0, 1) := by decide +kernel
theorem zd_Model_shows_83 : decode zm_Model_shows.2.1 83 = .ok (.getfield 78, 3) := by decide +kernel
theorem zd_Model_shows_86 : decode zm_Model_shows.2.1 86 = .ok (.aload_n 0, 1) := by decide +kernel
theorem zd_Model_shows_87 : decode zm_Model_shows.2.1 87 = .ok (.iload 4, 2) := by decide +kernel
theorem zd_Model_shows_89 : decode zm_Model_shows.2.1 89 = .ok (.invokevirtual 251, 3) := by decide +kernel
theorem zd_Model_shows_92 : decode zm_Model_shows.2.1 92 = .ok (.iconst 1, 1) := by decide +kernel
theorem zd_Model_shows_93 : decode zm_Model_shows.2.1 93 = .ok (.bastore, 1) := by decide +kernel
theorem zd_Model_shows_94 : decode zm_Model_shows.2.1 94 = .ok (.iinc 4 1, 3) := by decide +kernel
theorem zd_Model_shows_97 : decode zm_Model_shows.2.1 97 = .ok (.goto (-55), 3) := by decide +kernel
theorem zd_Model_shows_100 : decode zm_Model_shows.2.1 100 = .ok (.iload_n 3, 1) := by decide +kernel
theorem zd_Model_shows_101 : decode zm_Model_shows.2.1 101 = .ok (.ireturn, 1) := by decide +kernel
theorem zb_Model_shows_0 {Γ : zG} {σ : zS} {x1 : Int32} {dc : Nat} {P : Int32 → zS → Prop}  (hm : z_Ci dc zm_Model_inColumn [.inr (63), .inr (64), .inl (x1)] σ P) (hdp : dc < z_dep Γ) (k : ∀ r σ1, P r σ1 → z_J Γ zm_Model_shows 9 [some (.inr (63)), none, none, none, none] [.inl (r)] σ1) : z_J Γ zm_Model_shows 0 [some (.inr (63)), some (.inl (x1)), none, none, none] [] σ := by
  refine zj_aload_n zd_Model_shows_0 rfl ?_
  refine zj_aload_n zd_Model_shows_1 rfl ?_
  refine zj_getR rfl (by decide) rfl zu_Model (k := 0) (by decide) rfl zl_Model_9 zd_Model_shows_2 (o' := 64) rfl ?_
  refine zj_iload_n zd_Model_shows_5 rfl ?_
  exact zj_callVi (As := [.inr (64), .inl (x1)]) hm hdp rfl (by decide) rfl zl_Model_247 zq_Model_inColumn zd_Model_shows_6 rfl (Nat.le_of_ble_eq_true rfl) (fun r σ1 h => (zj_weak (L' := [some (.inr (63)), none, none, none, none]) ⟨rfl, trivial⟩ (k r σ1 h)))
theorem zb_Model_shows_9 {Γ : zG} {σ : zS} {y0 : Int32}  (k : z_J Γ zm_Model_shows 15 [some (.inr (63)), none, some (.inl (y0)), some (.inl (nI 0)), some (.inl (nI 0))] [] σ) : z_J Γ zm_Model_shows 9 [some (.inr (63)), none, none, none, none] [.inl (y0)] σ := by
  refine zj_istore_n (L' := [some (.inr (63)), none, some (.inl (y0)), none, none]) zd_Model_shows_9 (by decide) rfl ?_
  refine zj_iconst (v := nI 0) zd_Model_shows_10 (by decide) ?_
  refine zj_istore_n (L' := [some (.inr (63)), none, some (.inl (y0)), some (.inl (nI 0)), none]) zd_Model_shows_11 (by decide) rfl ?_
  refine zj_iconst (v := nI 0) zd_Model_shows_12 (by decide) ?_
  refine zj_istore (L' := [some (.inr (63)), none, some (.inl (y0)), some (.inl (nI 0)), some (.inl (nI 0))]) zd_Model_shows_13 (by decide) rfl ?_
  exact k
theorem zb_Model_shows_15 {Γ : zG} {σ : zS} {x2 x3 x4 : Int32}  (kt : (nI 37) ≤ x4 → z_J Γ zm_Model_shows 39 [some (.inr (63)), none, some (.inl (x2)), some (.inl (x3)), none] [] σ) (kf : ¬ (nI 37) ≤ x4 → z_J Γ zm_Model_shows 25 [some (.inr (63)), none, some (.inl (x2)), some (.inl (x3)), some (.inl (x4))] [] σ) : z_J Γ zm_Model_shows 15 [some (.inr (63)), none, some (.inl (x2)), some (.inl (x3)), some (.inl (x4))] [] σ := by
  refine zj_iload zd_Model_shows_15 rfl ?_
  refine zj_aload_n zd_Model_shows_17 rfl ?_
  refine zj_getR rfl (by decide) rfl zu_Model (k := 42) (by decide) rfl zl_Model_78 zd_Model_shows_18 (o' := 84) rfl ?_
  refine zj_alen rfl (by decide) (by decide) (v := nI 37) rfl zd_Model_shows_21 ?_
  exact zj_icmp_ge zd_Model_shows_22 (by decide) (fun h => (zj_weak (L' := [some (.inr (63)), none, some (.inl (x2)), some (.inl (x3)), none]) ⟨rfl, ⟨rfl, ⟨rfl, trivial⟩⟩⟩ (kt h))) (fun h => (kf h))
theorem zb_Model_shows_25 {Γ : zG} {σ : zS} {x2 x3 x4 : Int32} {k1 : Nat}  (b1 : z_ix x4 37 k1) (k : z_J Γ zm_Model_shows 15 [some (.inr (63)), none, some (.inl (x2)), some (.inl (x3)), some (.inl (x4 + nI 1))] [] (z_pI σ 84 k1 (vp_nar .boolean (nI 0)))) : z_J Γ zm_Model_shows 25 [some (.inr (63)), none, some (.inl (x2)), some (.inl (x3)), some (.inl (x4))] [] σ := by
  refine zj_aload_n zd_Model_shows_25 rfl ?_
  refine zj_getR rfl (by decide) rfl zu_Model (k := 42) (by decide) rfl zl_Model_78 zd_Model_shows_26 (o' := 84) rfl ?_
  refine zj_iload zd_Model_shows_29 rfl ?_
  refine zj_iconst (v := nI 0) zd_Model_shows_31 (by decide) ?_
  refine zj_zastore rfl (by decide) b1 zd_Model_shows_32 ?_
  refine zj_iinc (v := nI 1) (L' := [some (.inr (63)), none, some (.inl (x2)), some (.inl (x3)), some (.inl (x4 + nI 1))]) zd_Model_shows_33 rfl (by decide) (by decide) rfl ?_
  exact zj_goto zd_Model_shows_36 (by decide) k
theorem zb_Model_shows_39 {Γ : zG} {σ : zS} {x2 x3 : Int32}  (k : z_J Γ zm_Model_shows 42 [some (.inr (63)), none, some (.inl (x2)), some (.inl (x3)), some (.inl (nI 0))] [] σ) : z_J Γ zm_Model_shows 39 [some (.inr (63)), none, some (.inl (x2)), some (.inl (x3)), none] [] σ := by
  refine zj_iconst (v := nI 0) zd_Model_shows_39 (by decide) ?_
  refine zj_istore (L' := [some (.inr (63)), none, some (.inl (x2)), some (.inl (x3)), some (.inl (nI 0))]) zd_Model_shows_40 (by decide) rfl ?_
  exact k
theorem zb_Model_shows_42 {Γ : zG} {σ : zS} {x2 x3 x4 : Int32}  (kt : x2 < x4 → z_J Γ zm_Model_shows 100 [none, none, none, some (.inl (x3)), none] [] σ) (kf : ¬ x2 < x4 → z_J Γ zm_Model_shows 48 [some (.inr (63)), none, some (.inl (x2)), some (.inl (x3)), some (.inl (x4))] [] σ) : z_J Γ zm_Model_shows 42 [some (.inr (63)), none, some (.inl (x2)), some (.inl (x3)), some (.inl (x4))] [] σ := by
  refine zj_iload zd_Model_shows_42 rfl ?_
  refine zj_iload_n zd_Model_shows_44 rfl ?_
  exact zj_icmp_gt zd_Model_shows_45 (by decide) (fun h => (zj_weak (L' := [none, none, none, some (.inl (x3)), none]) ⟨rfl, trivial⟩ (kt h))) (fun h => (kf h))
theorem zb_Model_shows_48 {Γ : zG} {σ : zS} {x2 x3 x4 : Int32}  (kt : (x4 &&& (x2 ^^^ (-1))) = 0 → z_J Γ zm_Model_shows 60 [some (.inr (63)), none, some (.inl (x2)), some (.inl (x3)), some (.inl (x4))] [] σ) (kf : ¬ (x4 &&& (x2 ^^^ (-1))) = 0 → z_J Γ zm_Model_shows 57 [some (.inr (63)), none, some (.inl (x2)), some (.inl (x3)), some (.inl (x4))] [] σ) : z_J Γ zm_Model_shows 48 [some (.inr (63)), none, some (.inl (x2)), some (.inl (x3)), some (.inl (x4))] [] σ := by
  refine zj_iload zd_Model_shows_48 rfl ?_
  refine zj_iload_n zd_Model_shows_50 rfl ?_
  refine zj_iconst (v := (-1)) zd_Model_shows_51 (by decide) ?_
  refine zj_ixor zd_Model_shows_52 ?_
  refine zj_iand zd_Model_shows_53 ?_
  exact zj_if_eq zd_Model_shows_54 (by decide) (fun h => (kt h)) (fun h => (kf h))
theorem zb_Model_shows_57 {Γ : zG} {σ : zS} {x2 x3 x4 : Int32}  (k : z_J Γ zm_Model_shows 94 [some (.inr (63)), none, some (.inl (x2)), some (.inl (x3)), some (.inl (x4))] [] σ) : z_J Γ zm_Model_shows 57 [some (.inr (63)), none, some (.inl (x2)), some (.inl (x3)), some (.inl (x4))] [] σ := by
  exact zj_goto zd_Model_shows_57 (by decide) k
theorem zb_Model_shows_60 {Γ : zG} {σ : zS} {x2 x3 x4 : Int32} {dc : Nat} {P : Int32 → zS → Prop}  (hm : z_Ci dc zm_Model_thickOf [.inr (63), .inl (x4)] σ P) (hdp : dc < z_dep Γ) (k : ∀ r σ1, P r σ1 → z_J Γ zm_Model_shows 71 [some (.inr (63)), none, some (.inl (x2)), none, some (.inl (x4))] [.inl (r), .inr (84), .inl (x3)] σ1) : z_J Γ zm_Model_shows 60 [some (.inr (63)), none, some (.inl (x2)), some (.inl (x3)), some (.inl (x4))] [] σ := by
  refine zj_iload_n zd_Model_shows_60 rfl ?_
  refine zj_aload_n zd_Model_shows_61 rfl ?_
  refine zj_getR rfl (by decide) rfl zu_Model (k := 42) (by decide) rfl zl_Model_78 zd_Model_shows_62 (o' := 84) rfl ?_
  refine zj_aload_n zd_Model_shows_65 rfl ?_
  refine zj_iload zd_Model_shows_66 rfl ?_
  exact zj_callVi (As := [.inl (x4)]) hm hdp rfl (by decide) rfl zl_Model_251 zq_Model_thickOf zd_Model_shows_68 rfl (Nat.le_of_ble_eq_true rfl) (fun r σ1 h => (zj_weak (L' := [some (.inr (63)), none, some (.inl (x2)), none, some (.inl (x4))]) ⟨rfl, ⟨rfl, ⟨rfl, trivial⟩⟩⟩ (k r σ1 h)))
theorem zb_Model_shows_71 {Γ : zG} {σ : zS} {x2 x4 y0 y2 : Int32} {k1 : Nat}  (b1 : z_ix y0 37 k1) (kt : (σ.1 84 k1) = 0 → z_J Γ zm_Model_shows 79 [some (.inr (63)), none, some (.inl (x2)), none, some (.inl (x4))] [.inl (y2)] σ) (kf : ¬ (σ.1 84 k1) = 0 → z_J Γ zm_Model_shows 75 [some (.inr (63)), none, some (.inl (x2)), none, some (.inl (x4))] [.inl (y2)] σ) : z_J Γ zm_Model_shows 71 [some (.inr (63)), none, some (.inl (x2)), none, some (.inl (x4))] [.inl (y0), .inr (84), .inl (y2)] σ := by
  refine zj_zaload rfl (by decide) b1 zd_Model_shows_71 ?_
  exact zj_if_eq zd_Model_shows_72 (by decide) (fun h => (kt h)) (fun h => (kf h))
theorem zb_Model_shows_75 {Γ : zG} {σ : zS} {x2 x4 y0 : Int32}  (k : z_J Γ zm_Model_shows 80 [some (.inr (63)), none, some (.inl (x2)), none, some (.inl (x4))] [.inl (nI 0), .inl (y0)] σ) : z_J Γ zm_Model_shows 75 [some (.inr (63)), none, some (.inl (x2)), none, some (.inl (x4))] [.inl (y0)] σ := by
  refine zj_iconst (v := nI 0) zd_Model_shows_75 (by decide) ?_
  exact zj_goto zd_Model_shows_76 (by decide) k
theorem zb_Model_shows_79 {Γ : zG} {σ : zS} {x2 x4 y0 : Int32}  (k : z_J Γ zm_Model_shows 80 [some (.inr (63)), none, some (.inl (x2)), none, some (.inl (x4))] [.inl (nI 1), .inl (y0)] σ) : z_J Γ zm_Model_shows 79 [some (.inr (63)), none, some (.inl (x2)), none, some (.inl (x4))] [.inl (y0)] σ := by
  refine zj_iconst (v := nI 1) zd_Model_shows_79 (by decide) ?_
  exact k
theorem zb_Model_shows_80 {Γ : zG} {σ : zS} {x2 x4 y0 y1 : Int32} {dc : Nat} {P : Int32 → zS → Prop}  (hm : z_Ci dc zm_Model_thickOf [.inr (63), .inl (x4)] σ P) (hdp : dc < z_dep Γ) (k : ∀ r σ1, P r σ1 → z_J Γ zm_Model_shows 92 [some (.inr (63)), none, some (.inl (x2)), some (.inl (y1 + y0)), some (.inl (x4))] [.inl (r), .inr (84)] σ1) : z_J Γ zm_Model_shows 80 [some (.inr (63)), none, some (.inl (x2)), none, some (.inl (x4))] [.inl (y0), .inl (y1)] σ := by
  refine zj_iadd zd_Model_shows_80 ?_
  refine zj_istore_n (L' := [some (.inr (63)), none, some (.inl (x2)), some (.inl (y1 + y0)), some (.inl (x4))]) zd_Model_shows_81 (by decide) rfl ?_
  refine zj_aload_n zd_Model_shows_82 rfl ?_
  refine zj_getR rfl (by decide) rfl zu_Model (k := 42) (by decide) rfl zl_Model_78 zd_Model_shows_83 (o' := 84) rfl ?_
  refine zj_aload_n zd_Model_shows_86 rfl ?_
  refine zj_iload zd_Model_shows_87 rfl ?_
  exact zj_callVi (As := [.inl (x4)]) hm hdp rfl (by decide) rfl zl_Model_251 zq_Model_thickOf zd_Model_shows_89 rfl (Nat.le_of_ble_eq_true rfl) (fun r σ1 h => (k r σ1 h))
theorem zb_Model_shows_92 {Γ : zG} {σ : zS} {x2 x3 x4 y0 : Int32} {k1 : Nat}  (b1 : z_ix y0 37 k1) (k : z_J Γ zm_Model_shows 94 [some (.inr (63)), none, some (.inl (x2)), some (.inl (x3)), some (.inl (x4))] [] (z_pI σ 84 k1 (vp_nar .boolean (nI 1)))) : z_J Γ zm_Model_shows 92 [some (.inr (63)), none, some (.inl (x2)), some (.inl (x3)), some (.inl (x4))] [.inl (y0), .inr (84)] σ := by
  refine zj_iconst (v := nI 1) zd_Model_shows_92 (by decide) ?_
  refine zj_zastore rfl (by decide) b1 zd_Model_shows_93 ?_
  exact k
theorem zb_Model_shows_94 {Γ : zG} {σ : zS} {x2 x3 x4 : Int32}  (k : z_J Γ zm_Model_shows 42 [some (.inr (63)), none, some (.inl (x2)), some (.inl (x3)), some (.inl (x4 + nI 1))] [] σ) : z_J Γ zm_Model_shows 94 [some (.inr (63)), none, some (.inl (x2)), some (.inl (x3)), some (.inl (x4))] [] σ := by
  refine zj_iinc (v := nI 1) (L' := [some (.inr (63)), none, some (.inl (x2)), some (.inl (x3)), some (.inl (x4 + nI 1))]) zd_Model_shows_94 rfl (by decide) (by decide) rfl ?_
  exact zj_goto zd_Model_shows_97 (by decide) k
theorem zb_Model_shows_100 {Γ : zG} {σ : zS} {x3 : Int32}  (e : z_end Γ (some (x3)) σ) : z_J Γ zm_Model_shows 100 [none, none, none, some (.inl (x3)), none] [] σ := by
  refine zj_iload_n zd_Model_shows_100 rfl ?_
  exact zj_ireturn rfl zd_Model_shows_101 e
theorem zd_Model_rests_0 : decode zm_Model_rests.2.1 0 = .ok (.aload_n 0, 1) := by decide +kernel
theorem zd_Model_rests_1 : decode zm_Model_rests.2.1 1 = .ok (.iconst 0, 1) := by decide +kernel
theorem zd_Model_rests_2 : decode zm_Model_rests.2.1 2 = .ok (.putfield 91, 3) := by decide +kernel
theorem zd_Model_rests_5 : decode zm_Model_rests.2.1 5 = .ok (.iload_n 1, 1) := by decide +kernel
theorem zd_Model_rests_6 : decode zm_Model_rests.2.1 6 = .ok (.iconst 0, 1) := by decide +kernel
theorem zd_Model_rests_7 : decode zm_Model_rests.2.1 7 = .ok (.bipush 9, 2) := by decide +kernel
theorem zd_Model_rests_9 : decode zm_Model_rests.2.1 9 = .ok (.invokestatic 100, 3) := by decide +kernel
theorem zd_Model_rests_12 : decode zm_Model_rests.2.1 12 = .ok (.ifCond .eq 13, 3) := by decide +kernel
theorem zd_Model_rests_15 : decode zm_Model_rests.2.1 15 = .ok (.iload_n 2, 1) := by decide +kernel
theorem zd_Model_rests_16 : decode zm_Model_rests.2.1 16 = .ok (.iconst 0, 1) := by decide +kernel
theorem zd_Model_rests_17 : decode zm_Model_rests.2.1 17 = .ok (.bipush 9, 2) := by decide +kernel
theorem zd_Model_rests_19 : decode zm_Model_rests.2.1 19 = .ok (.invokestatic 100, 3) := by decide +kernel
theorem zd_Model_rests_22 : decode zm_Model_rests.2.1 22 = .ok (.ifCond .ne 5, 3) := by decide +kernel
theorem zd_Model_rests_25 : decode zm_Model_rests.2.1 25 = .ok (.iconst (-1), 1) := by decide +kernel
theorem zd_Model_rests_26 : decode zm_Model_rests.2.1 26 = .ok (.ireturn, 1) := by decide +kernel
theorem zd_Model_rests_27 : decode zm_Model_rests.2.1 27 = .ok (.iconst 0, 1) := by decide +kernel
theorem zd_Model_rests_28 : decode zm_Model_rests.2.1 28 = .ok (.istore_n 3, 1) := by decide +kernel
theorem zd_Model_rests_29 : decode zm_Model_rests.2.1 29 = .ok (.aload_n 0, 1) := by decide +kernel
theorem zd_Model_rests_30 : decode zm_Model_rests.2.1 30 = .ok (.iconst 0, 1) := by decide +kernel
theorem zd_Model_rests_31 : decode zm_Model_rests.2.1 31 = .ok (.putfield 94, 3) := by decide +kernel
theorem zd_Model_rests_34 : decode zm_Model_rests.2.1 34 = .ok (.iconst 0, 1) := by decide +kernel
theorem zd_Model_rests_35 : decode zm_Model_rests.2.1 35 = .ok (.istore 4, 2) := by decide +kernel
theorem zd_Model_rests_37 : decode zm_Model_rests.2.1 37 = .ok (.iload 4, 2) := by decide +kernel
theorem zd_Model_rests_39 : decode zm_Model_rests.2.1 39 = .ok (.bipush 9, 2) := by decide +kernel
theorem zd_Model_rests_41 : decode zm_Model_rests.2.1 41 = .ok (.if_icmp .gt 71, 3) := by decide +kernel
theorem zd_Model_rests_44 : decode zm_Model_rests.2.1 44 = .ok (.iconst 0, 1) := by decide +kernel
theorem zd_Model_rests_45 : decode zm_Model_rests.2.1 45 = .ok (.istore 5, 2) := by decide +kernel
theorem zd_Model_rests_47 : decode zm_Model_rests.2.1 47 = .ok (.iload 5, 2) := by decide +kernel
theorem zd_Model_rests_49 : decode zm_Model_rests.2.1 49 = .ok (.bipush 9, 2) := by decide +kernel
theorem zd_Model_rests_51 : decode zm_Model_rests.2.1 51 = .ok (.if_icmp .gt 55, 3) := by decide +kernel
theorem zd_Model_rests_54 : decode zm_Model_rests.2.1 54 = .ok (.iload 4, 2) := by decide +kernel
theorem zd_Model_rests_56 : decode zm_Model_rests.2.1 56 = .ok (.iload 5, 2) := by decide +kernel
theorem zd_Model_rests_58 : decode zm_Model_rests.2.1 58 = .ok (.iload_n 1, 1) := by decide +kernel
theorem zd_Model_rests_59 : decode zm_Model_rests.2.1 59 = .ok (.iload_n 2, 1) := by decide +kernel
theorem zd_Model_rests_60 : decode zm_Model_rests.2.1 60 = .ok (.invokestatic 388, 3) := by decide +kernel
theorem zd_Model_rests_63 : decode zm_Model_rests.2.1 63 = .ok (.ifCond .eq 37, 3) := by decide +kernel
theorem zd_Model_rests_66 : decode zm_Model_rests.2.1 66 = .ok (.iload 5, 2) := by decide +kernel
theorem zd_Model_rests_68 : decode zm_Model_rests.2.1 68 = .ok (.iload 4, 2) := by decide +kernel
theorem zd_Model_rests_70 : decode zm_Model_rests.2.1 70 = .ok (.iload_n 1, 1) := by decide +kernel
theorem zd_Model_rests_71 : decode zm_Model_rests.2.1 71 = .ok (.iload_n 2, 1) := by decide +kernel
theorem zd_Model_rests_72 : decode zm_Model_rests.2.1 72 = .ok (.invokestatic 388, 3) := by decide +kernel
theorem zd_Model_rests_75 : decode zm_Model_rests.2.1 75 = .ok (.ifCond .ne 6, 3) := by decide +kernel
theorem zd_Model_rests_78 : decode zm_Model_rests.2.1 78 = .ok (.goto 22, 3) := by decide +kernel
theorem zd_Model_rests_81 : decode zm_Model_rests.2.1 81 = .ok (.iload_n 3, 1) := by decide +kernel
theorem zd_Model_rests_82 : decode zm_Model_rests.2.1 82 = .ok (.ifCond .ne 15, 3) := by decide +kernel
theorem zd_Model_rests_85 : decode zm_Model_rests.2.1 85 = .ok (.aload_n 0, 1) := by decide +kernel
theorem zd_Model_rests_86 : decode zm_Model_rests.2.1 86 = .ok (.iload 4, 2) := by decide +kernel
theorem zd_Model_rests_88 : decode zm_Model_rests.2.1 88 = .ok (.invokevirtual 312, 3) := by decide +kernel
theorem zd_Model_rests_91 : decode zm_Model_rests.2.1 91 = .ok (.aload_n 0, 1) := by decide +kernel
theorem zd_Model_rests_92 : decode zm_Model_rests.2.1 92 = .ok (.iload 5, 2) := by decide +kernel
theorem zd_Model_rests_94 : decode zm_Model_rests.2.1 94 = .ok (.invokevirtual 312, 3) := by decide +kernel
theorem zd_Model_rests_97 : decode zm_Model_rests.2.1 97 = .ok (.iinc 3 1, 3) := by decide +kernel
theorem zd_Model_rests_100 : decode zm_Model_rests.2.1 100 = .ok (.iinc 5 1, 3) := by decide +kernel
theorem zd_Model_rests_103 : decode zm_Model_rests.2.1 103 = .ok (.goto (-56), 3) := by decide +kernel
theorem zd_Model_rests_106 : decode zm_Model_rests.2.1 106 = .ok (.iinc 4 1, 3) := by decide +kernel
theorem zd_Model_rests_109 : decode zm_Model_rests.2.1 109 = .ok (.goto (-72), 3) := by decide +kernel
theorem zd_Model_rests_112 : decode zm_Model_rests.2.1 112 = .ok (.iload_n 3, 1) := by decide +kernel
theorem zd_Model_rests_113 : decode zm_Model_rests.2.1 113 = .ok (.ireturn, 1) := by decide +kernel
theorem zb_Model_rests_0 {Γ : zG} {σ : zS} {x1 x2 : Int32} {dc : Nat} {P : Int32 → zS → Prop}  (hm : z_Ci dc zm_Model_in [.inl (x1), .inl (nI 0), .inl (nI 9)] (z_pI σ 63 11 (nI 0)) P) (hdp : dc < z_dep Γ) (k : ∀ r σ1, P r σ1 → z_J Γ zm_Model_rests 12 [some (.inr (63)), some (.inl (x1)), some (.inl (x2)), none, none, none] [.inl (r)] σ1) : z_J Γ zm_Model_rests 0 [some (.inr (63)), some (.inl (x1)), some (.inl (x2)), none, none, none] [] σ := by
  refine zj_aload_n zd_Model_rests_0 rfl ?_
  refine zj_iconst (v := nI 0) zd_Model_rests_1 (by decide) ?_
  refine zj_putI rfl (by decide) rfl zu_Model zy_Model_ok zn_Model (k := 11) (by decide) rfl rfl zl_Model_91 rfl rfl zd_Model_rests_2 ?_
  refine zj_iload_n zd_Model_rests_5 rfl ?_
  refine zj_iconst (v := nI 0) zd_Model_rests_6 (by decide) ?_
  refine zj_bipush (v := nI 9) zd_Model_rests_7 (by decide) ?_
  exact zj_callSi (As := [.inl (x1), .inl (nI 0), .inl (nI 9)]) hm hdp zl_Model_100 zq_Model_in zd_Model_rests_9 rfl (Nat.le_of_ble_eq_true rfl) (fun r σ1 h => (k r σ1 h))
theorem zb_Model_rests_12 {Γ : zG} {σ : zS} {x1 x2 y0 : Int32}  (kt : y0 = 0 → z_J Γ zm_Model_rests 25 [none, none, none, none, none, none] [] σ) (kf : ¬ y0 = 0 → z_J Γ zm_Model_rests 15 [some (.inr (63)), some (.inl (x1)), some (.inl (x2)), none, none, none] [] σ) : z_J Γ zm_Model_rests 12 [some (.inr (63)), some (.inl (x1)), some (.inl (x2)), none, none, none] [.inl (y0)] σ := by
  exact zj_if_eq zd_Model_rests_12 (by decide) (fun h => (zj_weak (L' := [none, none, none, none, none, none]) trivial (kt h))) (fun h => (kf h))
theorem zb_Model_rests_15 {Γ : zG} {σ : zS} {x1 x2 : Int32} {dc : Nat} {P : Int32 → zS → Prop}  (hm : z_Ci dc zm_Model_in [.inl (x2), .inl (nI 0), .inl (nI 9)] σ P) (hdp : dc < z_dep Γ) (k : ∀ r σ1, P r σ1 → z_J Γ zm_Model_rests 22 [some (.inr (63)), some (.inl (x1)), some (.inl (x2)), none, none, none] [.inl (r)] σ1) : z_J Γ zm_Model_rests 15 [some (.inr (63)), some (.inl (x1)), some (.inl (x2)), none, none, none] [] σ := by
  refine zj_iload_n zd_Model_rests_15 rfl ?_
  refine zj_iconst (v := nI 0) zd_Model_rests_16 (by decide) ?_
  refine zj_bipush (v := nI 9) zd_Model_rests_17 (by decide) ?_
  exact zj_callSi (As := [.inl (x2), .inl (nI 0), .inl (nI 9)]) hm hdp zl_Model_100 zq_Model_in zd_Model_rests_19 rfl (Nat.le_of_ble_eq_true rfl) (fun r σ1 h => (k r σ1 h))
theorem zb_Model_rests_22 {Γ : zG} {σ : zS} {x1 x2 y0 : Int32}  (kt : ¬ y0 = 0 → z_J Γ zm_Model_rests 27 [some (.inr (63)), some (.inl (x1)), some (.inl (x2)), none, none, none] [] σ) (kf : y0 = 0 → z_J Γ zm_Model_rests 25 [none, none, none, none, none, none] [] σ) : z_J Γ zm_Model_rests 22 [some (.inr (63)), some (.inl (x1)), some (.inl (x2)), none, none, none] [.inl (y0)] σ := by
  exact zj_if_ne zd_Model_rests_22 (by decide) (fun h => (kt h)) (fun h => (zj_weak (L' := [none, none, none, none, none, none]) trivial (kf h)))
theorem zb_Model_rests_25 {Γ : zG} {σ : zS}  (e : z_end Γ (some ((-1))) σ) : z_J Γ zm_Model_rests 25 [none, none, none, none, none, none] [] σ := by
  refine zj_iconst (v := (-1)) zd_Model_rests_25 (by decide) ?_
  exact zj_ireturn rfl zd_Model_rests_26 e
theorem zb_Model_rests_27 {Γ : zG} {σ : zS} {x1 x2 : Int32}  (k : z_J Γ zm_Model_rests 37 [some (.inr (63)), some (.inl (x1)), some (.inl (x2)), some (.inl (nI 0)), some (.inl (nI 0)), none] [] (z_pI σ 63 10 (nI 0))) : z_J Γ zm_Model_rests 27 [some (.inr (63)), some (.inl (x1)), some (.inl (x2)), none, none, none] [] σ := by
  refine zj_iconst (v := nI 0) zd_Model_rests_27 (by decide) ?_
  refine zj_istore_n (L' := [some (.inr (63)), some (.inl (x1)), some (.inl (x2)), some (.inl (nI 0)), none, none]) zd_Model_rests_28 (by decide) rfl ?_
  refine zj_aload_n zd_Model_rests_29 rfl ?_
  refine zj_iconst (v := nI 0) zd_Model_rests_30 (by decide) ?_
  refine zj_putI rfl (by decide) rfl zu_Model zy_Model_ok zn_Model (k := 10) (by decide) rfl rfl zl_Model_94 rfl rfl zd_Model_rests_31 ?_
  refine zj_iconst (v := nI 0) zd_Model_rests_34 (by decide) ?_
  refine zj_istore (L' := [some (.inr (63)), some (.inl (x1)), some (.inl (x2)), some (.inl (nI 0)), some (.inl (nI 0)), none]) zd_Model_rests_35 (by decide) rfl ?_
  exact k
theorem zb_Model_rests_37 {Γ : zG} {σ : zS} {x1 x2 x3 x4 : Int32}  (kt : (nI 9) < x4 → z_J Γ zm_Model_rests 112 [none, none, none, some (.inl (x3)), none, none] [] σ) (kf : ¬ (nI 9) < x4 → z_J Γ zm_Model_rests 44 [some (.inr (63)), some (.inl (x1)), some (.inl (x2)), some (.inl (x3)), some (.inl (x4)), none] [] σ) : z_J Γ zm_Model_rests 37 [some (.inr (63)), some (.inl (x1)), some (.inl (x2)), some (.inl (x3)), some (.inl (x4)), none] [] σ := by
  refine zj_iload zd_Model_rests_37 rfl ?_
  refine zj_bipush (v := nI 9) zd_Model_rests_39 (by decide) ?_
  exact zj_icmp_gt zd_Model_rests_41 (by decide) (fun h => (zj_weak (L' := [none, none, none, some (.inl (x3)), none, none]) ⟨rfl, trivial⟩ (kt h))) (fun h => (kf h))
theorem zb_Model_rests_44 {Γ : zG} {σ : zS} {x1 x2 x3 x4 : Int32}  (k : z_J Γ zm_Model_rests 47 [some (.inr (63)), some (.inl (x1)), some (.inl (x2)), some (.inl (x3)), some (.inl (x4)), some (.inl (nI 0))] [] σ) : z_J Γ zm_Model_rests 44 [some (.inr (63)), some (.inl (x1)), some (.inl (x2)), some (.inl (x3)), some (.inl (x4)), none] [] σ := by
  refine zj_iconst (v := nI 0) zd_Model_rests_44 (by decide) ?_
  refine zj_istore (L' := [some (.inr (63)), some (.inl (x1)), some (.inl (x2)), some (.inl (x3)), some (.inl (x4)), some (.inl (nI 0))]) zd_Model_rests_45 (by decide) rfl ?_
  exact k
theorem zb_Model_rests_47 {Γ : zG} {σ : zS} {x1 x2 x3 x4 x5 : Int32}  (kt : (nI 9) < x5 → z_J Γ zm_Model_rests 106 [some (.inr (63)), some (.inl (x1)), some (.inl (x2)), some (.inl (x3)), some (.inl (x4)), none] [] σ) (kf : ¬ (nI 9) < x5 → z_J Γ zm_Model_rests 54 [some (.inr (63)), some (.inl (x1)), some (.inl (x2)), some (.inl (x3)), some (.inl (x4)), some (.inl (x5))] [] σ) : z_J Γ zm_Model_rests 47 [some (.inr (63)), some (.inl (x1)), some (.inl (x2)), some (.inl (x3)), some (.inl (x4)), some (.inl (x5))] [] σ := by
  refine zj_iload zd_Model_rests_47 rfl ?_
  refine zj_bipush (v := nI 9) zd_Model_rests_49 (by decide) ?_
  exact zj_icmp_gt zd_Model_rests_51 (by decide) (fun h => (zj_weak (L' := [some (.inr (63)), some (.inl (x1)), some (.inl (x2)), some (.inl (x3)), some (.inl (x4)), none]) ⟨rfl, ⟨rfl, ⟨rfl, ⟨rfl, ⟨rfl, trivial⟩⟩⟩⟩⟩ (kt h))) (fun h => (kf h))
theorem zb_Model_rests_54 {Γ : zG} {σ : zS} {x1 x2 x3 x4 x5 : Int32} {dc : Nat} {P : Int32 → zS → Prop}  (hm : z_Ci dc zm_Model_isBest [.inl (x4), .inl (x5), .inl (x1), .inl (x2)] σ P) (hdp : dc < z_dep Γ) (k : ∀ r σ1, P r σ1 → z_J Γ zm_Model_rests 63 [some (.inr (63)), some (.inl (x1)), some (.inl (x2)), some (.inl (x3)), some (.inl (x4)), some (.inl (x5))] [.inl (r)] σ1) : z_J Γ zm_Model_rests 54 [some (.inr (63)), some (.inl (x1)), some (.inl (x2)), some (.inl (x3)), some (.inl (x4)), some (.inl (x5))] [] σ := by
  refine zj_iload zd_Model_rests_54 rfl ?_
  refine zj_iload zd_Model_rests_56 rfl ?_
  refine zj_iload_n zd_Model_rests_58 rfl ?_
  refine zj_iload_n zd_Model_rests_59 rfl ?_
  exact zj_callSi (As := [.inl (x4), .inl (x5), .inl (x1), .inl (x2)]) hm hdp zl_Model_388 zq_Model_isBest zd_Model_rests_60 rfl (Nat.le_of_ble_eq_true rfl) (fun r σ1 h => (k r σ1 h))
theorem zb_Model_rests_63 {Γ : zG} {σ : zS} {x1 x2 x3 x4 x5 y0 : Int32}  (kt : y0 = 0 → z_J Γ zm_Model_rests 100 [some (.inr (63)), some (.inl (x1)), some (.inl (x2)), some (.inl (x3)), some (.inl (x4)), some (.inl (x5))] [] σ) (kf : ¬ y0 = 0 → z_J Γ zm_Model_rests 66 [some (.inr (63)), some (.inl (x1)), some (.inl (x2)), some (.inl (x3)), some (.inl (x4)), some (.inl (x5))] [] σ) : z_J Γ zm_Model_rests 63 [some (.inr (63)), some (.inl (x1)), some (.inl (x2)), some (.inl (x3)), some (.inl (x4)), some (.inl (x5))] [.inl (y0)] σ := by
  exact zj_if_eq zd_Model_rests_63 (by decide) (fun h => (kt h)) (fun h => (kf h))
theorem zb_Model_rests_66 {Γ : zG} {σ : zS} {x1 x2 x3 x4 x5 : Int32} {dc : Nat} {P : Int32 → zS → Prop}  (hm : z_Ci dc zm_Model_isBest [.inl (x5), .inl (x4), .inl (x1), .inl (x2)] σ P) (hdp : dc < z_dep Γ) (k : ∀ r σ1, P r σ1 → z_J Γ zm_Model_rests 75 [some (.inr (63)), some (.inl (x1)), some (.inl (x2)), some (.inl (x3)), some (.inl (x4)), some (.inl (x5))] [.inl (r)] σ1) : z_J Γ zm_Model_rests 66 [some (.inr (63)), some (.inl (x1)), some (.inl (x2)), some (.inl (x3)), some (.inl (x4)), some (.inl (x5))] [] σ := by
  refine zj_iload zd_Model_rests_66 rfl ?_
  refine zj_iload zd_Model_rests_68 rfl ?_
  refine zj_iload_n zd_Model_rests_70 rfl ?_
  refine zj_iload_n zd_Model_rests_71 rfl ?_
  exact zj_callSi (As := [.inl (x5), .inl (x4), .inl (x1), .inl (x2)]) hm hdp zl_Model_388 zq_Model_isBest zd_Model_rests_72 rfl (Nat.le_of_ble_eq_true rfl) (fun r σ1 h => (k r σ1 h))
theorem zb_Model_rests_75 {Γ : zG} {σ : zS} {x1 x2 x3 x4 x5 y0 : Int32}  (kt : ¬ y0 = 0 → z_J Γ zm_Model_rests 81 [some (.inr (63)), some (.inl (x1)), some (.inl (x2)), some (.inl (x3)), some (.inl (x4)), some (.inl (x5))] [] σ) (kf : y0 = 0 → z_J Γ zm_Model_rests 78 [some (.inr (63)), some (.inl (x1)), some (.inl (x2)), some (.inl (x3)), some (.inl (x4)), some (.inl (x5))] [] σ) : z_J Γ zm_Model_rests 75 [some (.inr (63)), some (.inl (x1)), some (.inl (x2)), some (.inl (x3)), some (.inl (x4)), some (.inl (x5))] [.inl (y0)] σ := by
  exact zj_if_ne zd_Model_rests_75 (by decide) (fun h => (kt h)) (fun h => (kf h))
theorem zb_Model_rests_78 {Γ : zG} {σ : zS} {x1 x2 x3 x4 x5 : Int32}  (k : z_J Γ zm_Model_rests 100 [some (.inr (63)), some (.inl (x1)), some (.inl (x2)), some (.inl (x3)), some (.inl (x4)), some (.inl (x5))] [] σ) : z_J Γ zm_Model_rests 78 [some (.inr (63)), some (.inl (x1)), some (.inl (x2)), some (.inl (x3)), some (.inl (x4)), some (.inl (x5))] [] σ := by
  exact zj_goto zd_Model_rests_78 (by decide) k
theorem zb_Model_rests_81 {Γ : zG} {σ : zS} {x1 x2 x3 x4 x5 : Int32}  (kt : ¬ x3 = 0 → z_J Γ zm_Model_rests 97 [some (.inr (63)), some (.inl (x1)), some (.inl (x2)), some (.inl (x3)), some (.inl (x4)), some (.inl (x5))] [] σ) (kf : x3 = 0 → z_J Γ zm_Model_rests 85 [some (.inr (63)), some (.inl (x1)), some (.inl (x2)), some (.inl (x3)), some (.inl (x4)), some (.inl (x5))] [] σ) : z_J Γ zm_Model_rests 81 [some (.inr (63)), some (.inl (x1)), some (.inl (x2)), some (.inl (x3)), some (.inl (x4)), some (.inl (x5))] [] σ := by
  refine zj_iload_n zd_Model_rests_81 rfl ?_
  exact zj_if_ne zd_Model_rests_82 (by decide) (fun h => (kt h)) (fun h => (kf h))
theorem zb_Model_rests_85 {Γ : zG} {σ : zS} {x1 x2 x3 x4 x5 : Int32} {dc : Nat} {P : zS → Prop}  (hm : z_Cv dc zm_Model_tell [.inr (63), .inl (x4)] σ P) (hdp : dc < z_dep Γ) (k : ∀ σ1, P σ1 → z_J Γ zm_Model_rests 91 [some (.inr (63)), some (.inl (x1)), some (.inl (x2)), some (.inl (x3)), some (.inl (x4)), some (.inl (x5))] [] σ1) : z_J Γ zm_Model_rests 85 [some (.inr (63)), some (.inl (x1)), some (.inl (x2)), some (.inl (x3)), some (.inl (x4)), some (.inl (x5))] [] σ := by
  refine zj_aload_n zd_Model_rests_85 rfl ?_
  refine zj_iload zd_Model_rests_86 rfl ?_
  exact zj_callVv (As := [.inl (x4)]) hm hdp rfl (by decide) rfl zl_Model_312 zq_Model_tell zd_Model_rests_88 rfl (Nat.le_of_ble_eq_true rfl) (fun σ1 h => (k σ1 h))
theorem zb_Model_rests_91 {Γ : zG} {σ : zS} {x1 x2 x3 x4 x5 : Int32} {dc : Nat} {P : zS → Prop}  (hm : z_Cv dc zm_Model_tell [.inr (63), .inl (x5)] σ P) (hdp : dc < z_dep Γ) (k : ∀ σ1, P σ1 → z_J Γ zm_Model_rests 97 [some (.inr (63)), some (.inl (x1)), some (.inl (x2)), some (.inl (x3)), some (.inl (x4)), some (.inl (x5))] [] σ1) : z_J Γ zm_Model_rests 91 [some (.inr (63)), some (.inl (x1)), some (.inl (x2)), some (.inl (x3)), some (.inl (x4)), some (.inl (x5))] [] σ := by
  refine zj_aload_n zd_Model_rests_91 rfl ?_
  refine zj_iload zd_Model_rests_92 rfl ?_
  exact zj_callVv (As := [.inl (x5)]) hm hdp rfl (by decide) rfl zl_Model_312 zq_Model_tell zd_Model_rests_94 rfl (Nat.le_of_ble_eq_true rfl) (fun σ1 h => (k σ1 h))
theorem zb_Model_rests_97 {Γ : zG} {σ : zS} {x1 x2 x3 x4 x5 : Int32}  (k : z_J Γ zm_Model_rests 100 [some (.inr (63)), some (.inl (x1)), some (.inl (x2)), some (.inl (x3 + nI 1)), some (.inl (x4)), some (.inl (x5))] [] σ) : z_J Γ zm_Model_rests 97 [some (.inr (63)), some (.inl (x1)), some (.inl (x2)), some (.inl (x3)), some (.inl (x4)), some (.inl (x5))] [] σ := by
  refine zj_iinc (v := nI 1) (L' := [some (.inr (63)), some (.inl (x1)), some (.inl (x2)), some (.inl (x3 + nI 1)), some (.inl (x4)), some (.inl (x5))]) zd_Model_rests_97 rfl (by decide) (by decide) rfl ?_
  exact k
theorem zb_Model_rests_100 {Γ : zG} {σ : zS} {x1 x2 x3 x4 x5 : Int32}  (k : z_J Γ zm_Model_rests 47 [some (.inr (63)), some (.inl (x1)), some (.inl (x2)), some (.inl (x3)), some (.inl (x4)), some (.inl (x5 + nI 1))] [] σ) : z_J Γ zm_Model_rests 100 [some (.inr (63)), some (.inl (x1)), some (.inl (x2)), some (.inl (x3)), some (.inl (x4)), some (.inl (x5))] [] σ := by
  refine zj_iinc (v := nI 1) (L' := [some (.inr (63)), some (.inl (x1)), some (.inl (x2)), some (.inl (x3)), some (.inl (x4)), some (.inl (x5 + nI 1))]) zd_Model_rests_100 rfl (by decide) (by decide) rfl ?_
  exact zj_goto zd_Model_rests_103 (by decide) k
theorem zb_Model_rests_106 {Γ : zG} {σ : zS} {x1 x2 x3 x4 : Int32}  (k : z_J Γ zm_Model_rests 37 [some (.inr (63)), some (.inl (x1)), some (.inl (x2)), some (.inl (x3)), some (.inl (x4 + nI 1)), none] [] σ) : z_J Γ zm_Model_rests 106 [some (.inr (63)), some (.inl (x1)), some (.inl (x2)), some (.inl (x3)), some (.inl (x4)), none] [] σ := by
  refine zj_iinc (v := nI 1) (L' := [some (.inr (63)), some (.inl (x1)), some (.inl (x2)), some (.inl (x3)), some (.inl (x4 + nI 1)), none]) zd_Model_rests_106 rfl (by decide) (by decide) rfl ?_
  exact zj_goto zd_Model_rests_109 (by decide) k
theorem zb_Model_rests_112 {Γ : zG} {σ : zS} {x3 : Int32}  (e : z_end Γ (some (x3)) σ) : z_J Γ zm_Model_rests 112 [none, none, none, some (.inl (x3)), none, none] [] σ := by
  refine zj_iload_n zd_Model_rests_112 rfl ?_
  exact zj_ireturn rfl zd_Model_rests_113 e
theorem zd_Model_isBest_0 : decode zm_Model_isBest.2.1 0 = .ok (.iconst 0, 1) := by decide +kernel
theorem zd_Model_isBest_1 : decode zm_Model_isBest.2.1 1 = .ok (.istore 4, 2) := by decide +kernel
theorem zd_Model_isBest_3 : decode zm_Model_isBest.2.1 3 = .ok (.iload 4, 2) := by decide +kernel
theorem zd_Model_isBest_5 : decode zm_Model_isBest.2.1 5 = .ok (.bipush 9, 2) := by decide +kernel
theorem zd_Model_isBest_7 : decode zm_Model_isBest.2.1 7 = .ok (.if_icmp .gt 29, 3) := by decide +kernel
theorem zd_Model_isBest_10 : decode zm_Model_isBest.2.1 10 = .ok (.iload 4, 2) := by decide +kernel
theorem zd_Model_isBest_12 : decode zm_Model_isBest.2.1 12 = .ok (.iload_n 1, 1) := by decide +kernel
theorem zd_Model_isBest_13 : decode zm_Model_isBest.2.1 13 = .ok (.iload_n 2, 1) := by decide +kernel
theorem zd_Model_isBest_14 : decode zm_Model_isBest.2.1 14 = .ok (.iload_n 3, 1) := by decide +kernel
theorem zd_Model_isBest_15 : decode zm_Model_isBest.2.1 15 = .ok (.invokestatic 384, 3) := by decide +kernel
theorem zd_Model_isBest_18 : decode zm_Model_isBest.2.1 18 = .ok (.iload_n 0, 1) := by decide +kernel
theorem zd_Model_isBest_19 : decode zm_Model_isBest.2.1 19 = .ok (.iload_n 1, 1) := by decide +kernel
theorem zd_Model_isBest_20 : decode zm_Model_isBest.2.1 20 = .ok (.iload_n 2, 1) := by decide +kernel
theorem zd_Model_isBest_21 : decode zm_Model_isBest.2.1 21 = .ok (.iload_n 3, 1) := by decide +kernel
theorem zd_Model_isBest_22 : decode zm_Model_isBest.2.1 22 = .ok (.invokestatic 384, 3) := by decide +kernel
theorem zd_Model_isBest_25 : decode zm_Model_isBest.2.1 25 = .ok (.if_icmp .le 5, 3) := by decide +kernel
theorem zd_Model_isBest_28 : decode zm_Model_isBest.2.1 28 = .ok (.iconst 0, 1) := by decide +kernel
theorem zd_Model_isBest_29 : decode zm_Model_isBest.2.1 29 = .ok (.ireturn, 1) := by decide +kernel
theorem zd_Model_isBest_30 : decode zm_Model_isBest.2.1 30 = .ok (.iinc 4 1, 3) := by decide +kernel
theorem zd_Model_isBest_33 : decode zm_Model_isBest.2.1 33 = .ok (.goto (-30), 3) := by decide +kernel
theorem zd_Model_isBest_36 : decode zm_Model_isBest.2.1 36 = .ok (.iconst 1, 1) := by decide +kernel
theorem zd_Model_isBest_37 : decode zm_Model_isBest.2.1 37 = .ok (.ireturn, 1) := by decide +kernel
theorem zb_Model_isBest_0 {Γ : zG} {σ : zS} {x0 x1 x2 x3 : Int32}  (k : z_J Γ zm_Model_isBest 3 [some (.inl (x0)), some (.inl (x1)), some (.inl (x2)), some (.inl (x3)), some (.inl (nI 0))] [] σ) : z_J Γ zm_Model_isBest 0 [some (.inl (x0)), some (.inl (x1)), some (.inl (x2)), some (.inl (x3)), none] [] σ := by
  refine zj_iconst (v := nI 0) zd_Model_isBest_0 (by decide) ?_
  refine zj_istore (L' := [some (.inl (x0)), some (.inl (x1)), some (.inl (x2)), some (.inl (x3)), some (.inl (nI 0))]) zd_Model_isBest_1 (by decide) rfl ?_
  exact k
theorem zb_Model_isBest_3 {Γ : zG} {σ : zS} {x0 x1 x2 x3 x4 : Int32}  (kt : (nI 9) < x4 → z_J Γ zm_Model_isBest 36 [none, none, none, none, none] [] σ) (kf : ¬ (nI 9) < x4 → z_J Γ zm_Model_isBest 10 [some (.inl (x0)), some (.inl (x1)), some (.inl (x2)), some (.inl (x3)), some (.inl (x4))] [] σ) : z_J Γ zm_Model_isBest 3 [some (.inl (x0)), some (.inl (x1)), some (.inl (x2)), some (.inl (x3)), some (.inl (x4))] [] σ := by
  refine zj_iload zd_Model_isBest_3 rfl ?_
  refine zj_bipush (v := nI 9) zd_Model_isBest_5 (by decide) ?_
  exact zj_icmp_gt zd_Model_isBest_7 (by decide) (fun h => (zj_weak (L' := [none, none, none, none, none]) trivial (kt h))) (fun h => (kf h))
theorem zb_Model_isBest_10 {Γ : zG} {σ : zS} {x0 x1 x2 x3 x4 : Int32} {dc : Nat} {P : Int32 → zS → Prop}  (hm : z_Ci dc zm_Model_gets [.inl (x4), .inl (x1), .inl (x2), .inl (x3)] σ P) (hdp : dc < z_dep Γ) (k : ∀ r σ1, P r σ1 → z_J Γ zm_Model_isBest 18 [some (.inl (x0)), some (.inl (x1)), some (.inl (x2)), some (.inl (x3)), some (.inl (x4))] [.inl (r)] σ1) : z_J Γ zm_Model_isBest 10 [some (.inl (x0)), some (.inl (x1)), some (.inl (x2)), some (.inl (x3)), some (.inl (x4))] [] σ := by
  refine zj_iload zd_Model_isBest_10 rfl ?_
  refine zj_iload_n zd_Model_isBest_12 rfl ?_
  refine zj_iload_n zd_Model_isBest_13 rfl ?_
  refine zj_iload_n zd_Model_isBest_14 rfl ?_
  exact zj_callSi (As := [.inl (x4), .inl (x1), .inl (x2), .inl (x3)]) hm hdp zl_Model_384 zq_Model_gets zd_Model_isBest_15 rfl (Nat.le_of_ble_eq_true rfl) (fun r σ1 h => (k r σ1 h))
theorem zb_Model_isBest_18 {Γ : zG} {σ : zS} {x0 x1 x2 x3 x4 y0 : Int32} {dc : Nat} {P : Int32 → zS → Prop}  (hm : z_Ci dc zm_Model_gets [.inl (x0), .inl (x1), .inl (x2), .inl (x3)] σ P) (hdp : dc < z_dep Γ) (k : ∀ r σ1, P r σ1 → z_J Γ zm_Model_isBest 25 [some (.inl (x0)), some (.inl (x1)), some (.inl (x2)), some (.inl (x3)), some (.inl (x4))] [.inl (r), .inl (y0)] σ1) : z_J Γ zm_Model_isBest 18 [some (.inl (x0)), some (.inl (x1)), some (.inl (x2)), some (.inl (x3)), some (.inl (x4))] [.inl (y0)] σ := by
  refine zj_iload_n zd_Model_isBest_18 rfl ?_
  refine zj_iload_n zd_Model_isBest_19 rfl ?_
  refine zj_iload_n zd_Model_isBest_20 rfl ?_
  refine zj_iload_n zd_Model_isBest_21 rfl ?_
  exact zj_callSi (As := [.inl (x0), .inl (x1), .inl (x2), .inl (x3)]) hm hdp zl_Model_384 zq_Model_gets zd_Model_isBest_22 rfl (Nat.le_of_ble_eq_true rfl) (fun r σ1 h => (k r σ1 h))
theorem zb_Model_isBest_25 {Γ : zG} {σ : zS} {x0 x1 x2 x3 x4 y0 y1 : Int32}  (kt : y1 ≤ y0 → z_J Γ zm_Model_isBest 30 [some (.inl (x0)), some (.inl (x1)), some (.inl (x2)), some (.inl (x3)), some (.inl (x4))] [] σ) (kf : ¬ y1 ≤ y0 → z_J Γ zm_Model_isBest 28 [none, none, none, none, none] [] σ) : z_J Γ zm_Model_isBest 25 [some (.inl (x0)), some (.inl (x1)), some (.inl (x2)), some (.inl (x3)), some (.inl (x4))] [.inl (y0), .inl (y1)] σ := by
  exact zj_icmp_le zd_Model_isBest_25 (by decide) (fun h => (kt h)) (fun h => (zj_weak (L' := [none, none, none, none, none]) trivial (kf h)))
theorem zb_Model_isBest_28 {Γ : zG} {σ : zS}  (e : z_end Γ (some (nI 0)) σ) : z_J Γ zm_Model_isBest 28 [none, none, none, none, none] [] σ := by
  refine zj_iconst (v := nI 0) zd_Model_isBest_28 (by decide) ?_
  exact zj_zreturn rfl (Or.inl (by decide)) zd_Model_isBest_29 e
theorem zb_Model_isBest_30 {Γ : zG} {σ : zS} {x0 x1 x2 x3 x4 : Int32}  (k : z_J Γ zm_Model_isBest 3 [some (.inl (x0)), some (.inl (x1)), some (.inl (x2)), some (.inl (x3)), some (.inl (x4 + nI 1))] [] σ) : z_J Γ zm_Model_isBest 30 [some (.inl (x0)), some (.inl (x1)), some (.inl (x2)), some (.inl (x3)), some (.inl (x4))] [] σ := by
  refine zj_iinc (v := nI 1) (L' := [some (.inl (x0)), some (.inl (x1)), some (.inl (x2)), some (.inl (x3)), some (.inl (x4 + nI 1))]) zd_Model_isBest_30 rfl (by decide) (by decide) rfl ?_
  exact zj_goto zd_Model_isBest_33 (by decide) k
theorem zb_Model_isBest_36 {Γ : zG} {σ : zS}  (e : z_end Γ (some (nI 1)) σ) : z_J Γ zm_Model_isBest 36 [none, none, none, none, none] [] σ := by
  refine zj_iconst (v := nI 1) zd_Model_isBest_36 (by decide) ?_
  exact zj_zreturn rfl (Or.inr (by decide)) zd_Model_isBest_37 e
theorem zd_Model_gets_0 : decode zm_Model_gets.2.1 0 = .ok (.iload_n 0, 1) := by decide +kernel
theorem zd_Model_gets_1 : decode zm_Model_gets.2.1 1 = .ok (.iload_n 1, 1) := by decide +kernel
theorem zd_Model_gets_2 : decode zm_Model_gets.2.1 2 = .ok (.if_icmp .le 7, 3) := by decide +kernel
theorem zd_Model_gets_5 : decode zm_Model_gets.2.1 5 = .ok (.iload_n 2, 1) := by decide +kernel
theorem zd_Model_gets_6 : decode zm_Model_gets.2.1 6 = .ok (.goto 15, 3) := by decide +kernel
theorem zd_Model_gets_9 : decode zm_Model_gets.2.1 9 = .ok (.iload_n 0, 1) := by decide +kernel
theorem zd_Model_gets_10 : decode zm_Model_gets.2.1 10 = .ok (.iload_n 1, 1) := by decide +kernel
theorem zd_Model_gets_11 : decode zm_Model_gets.2.1 11 = .ok (.if_icmp .ne 9, 3) := by decide +kernel
theorem zd_Model_gets_14 : decode zm_Model_gets.2.1 14 = .ok (.iload_n 2, 1) := by decide +kernel
theorem zd_Model_gets_15 : decode zm_Model_gets.2.1 15 = .ok (.iconst 2, 1) := by decide +kernel
theorem zd_Model_gets_16 : decode zm_Model_gets.2.1 16 = .ok (.idiv, 1) := by decide +kernel
theorem zd_Model_gets_17 : decode zm_Model_gets.2.1 17 = .ok (.goto 4, 3) := by decide +kernel
theorem zd_Model_gets_20 : decode zm_Model_gets.2.1 20 = .ok (.iconst 0, 1) := by decide +kernel
theorem zd_Model_gets_21 : decode zm_Model_gets.2.1 21 = .ok (.iload_n 3, 1) := by decide +kernel
theorem zd_Model_gets_22 : decode zm_Model_gets.2.1 22 = .ok (.iload_n 0, 1) := by decide +kernel
theorem zd_Model_gets_23 : decode zm_Model_gets.2.1 23 = .ok (.imul, 1) := by decide +kernel
theorem zd_Model_gets_24 : decode zm_Model_gets.2.1 24 = .ok (.isub, 1) := by decide +kernel
theorem zd_Model_gets_25 : decode zm_Model_gets.2.1 25 = .ok (.ireturn, 1) := by decide +kernel
theorem zb_Model_gets_0 {Γ : zG} {σ : zS} {x0 x1 x2 x3 : Int32}  (kt : x0 ≤ x1 → z_J Γ zm_Model_gets 9 [some (.inl (x0)), some (.inl (x1)), some (.inl (x2)), some (.inl (x3))] [] σ) (kf : ¬ x0 ≤ x1 → z_J Γ zm_Model_gets 5 [some (.inl (x0)), none, some (.inl (x2)), some (.inl (x3))] [] σ) : z_J Γ zm_Model_gets 0 [some (.inl (x0)), some (.inl (x1)), some (.inl (x2)), some (.inl (x3))] [] σ := by
  refine zj_iload_n zd_Model_gets_0 rfl ?_
  refine zj_iload_n zd_Model_gets_1 rfl ?_
  exact zj_icmp_le zd_Model_gets_2 (by decide) (fun h => (kt h)) (fun h => (zj_weak (L' := [some (.inl (x0)), none, some (.inl (x2)), some (.inl (x3))]) ⟨rfl, ⟨rfl, ⟨rfl, trivial⟩⟩⟩ (kf h)))
theorem zb_Model_gets_5 {Γ : zG} {σ : zS} {x0 x2 x3 : Int32}  (k : z_J Γ zm_Model_gets 21 [some (.inl (x0)), none, none, some (.inl (x3))] [.inl (x2)] σ) : z_J Γ zm_Model_gets 5 [some (.inl (x0)), none, some (.inl (x2)), some (.inl (x3))] [] σ := by
  refine zj_iload_n zd_Model_gets_5 rfl ?_
  exact zj_goto zd_Model_gets_6 (by decide) (zj_weak (L' := [some (.inl (x0)), none, none, some (.inl (x3))]) ⟨rfl, ⟨rfl, trivial⟩⟩ k)
theorem zb_Model_gets_9 {Γ : zG} {σ : zS} {x0 x1 x2 x3 : Int32}  (kt : ¬ x0 = x1 → z_J Γ zm_Model_gets 20 [some (.inl (x0)), none, none, some (.inl (x3))] [] σ) (kf : x0 = x1 → z_J Γ zm_Model_gets 14 [some (.inl (x0)), none, some (.inl (x2)), some (.inl (x3))] [] σ) : z_J Γ zm_Model_gets 9 [some (.inl (x0)), some (.inl (x1)), some (.inl (x2)), some (.inl (x3))] [] σ := by
  refine zj_iload_n zd_Model_gets_9 rfl ?_
  refine zj_iload_n zd_Model_gets_10 rfl ?_
  exact zj_icmp_ne zd_Model_gets_11 (by decide) (fun h => (zj_weak (L' := [some (.inl (x0)), none, none, some (.inl (x3))]) ⟨rfl, ⟨rfl, trivial⟩⟩ (kt h))) (fun h => (zj_weak (L' := [some (.inl (x0)), none, some (.inl (x2)), some (.inl (x3))]) ⟨rfl, ⟨rfl, ⟨rfl, trivial⟩⟩⟩ (kf h)))
theorem zb_Model_gets_14 {Γ : zG} {σ : zS} {x0 x2 x3 : Int32}  (k : z_J Γ zm_Model_gets 21 [some (.inl (x0)), none, none, some (.inl (x3))] [.inl (x2 / (nI 2))] σ) : z_J Γ zm_Model_gets 14 [some (.inl (x0)), none, some (.inl (x2)), some (.inl (x3))] [] σ := by
  refine zj_iload_n zd_Model_gets_14 rfl ?_
  refine zj_iconst (v := nI 2) zd_Model_gets_15 (by decide) ?_
  refine zj_idiv zd_Model_gets_16 (by decide) ?_
  exact zj_goto zd_Model_gets_17 (by decide) (zj_weak (L' := [some (.inl (x0)), none, none, some (.inl (x3))]) ⟨rfl, ⟨rfl, trivial⟩⟩ k)
theorem zb_Model_gets_20 {Γ : zG} {σ : zS} {x0 x3 : Int32}  (k : z_J Γ zm_Model_gets 21 [some (.inl (x0)), none, none, some (.inl (x3))] [.inl (nI 0)] σ) : z_J Γ zm_Model_gets 20 [some (.inl (x0)), none, none, some (.inl (x3))] [] σ := by
  refine zj_iconst (v := nI 0) zd_Model_gets_20 (by decide) ?_
  exact k
theorem zb_Model_gets_21 {Γ : zG} {σ : zS} {x0 x3 y0 : Int32}  (e : z_end Γ (some (y0 - (x3 * x0))) σ) : z_J Γ zm_Model_gets 21 [some (.inl (x0)), none, none, some (.inl (x3))] [.inl (y0)] σ := by
  refine zj_iload_n zd_Model_gets_21 rfl ?_
  refine zj_iload_n zd_Model_gets_22 rfl ?_
  refine zj_imul zd_Model_gets_23 ?_
  refine zj_isub zd_Model_gets_24 ?_
  exact zj_ireturn rfl zd_Model_gets_25 e
theorem zd_Model_years_0 : decode zm_Model_years.2.1 0 = .ok (.aload_n 0, 1) := by decide +kernel
theorem zd_Model_years_1 : decode zm_Model_years.2.1 1 = .ok (.iconst 0, 1) := by decide +kernel
theorem zd_Model_years_2 : decode zm_Model_years.2.1 2 = .ok (.putfield 91, 3) := by decide +kernel
theorem zd_Model_years_5 : decode zm_Model_years.2.1 5 = .ok (.aload_n 0, 1) := by decide +kernel
theorem zd_Model_years_6 : decode zm_Model_years.2.1 6 = .ok (.getfield 97, 3) := by decide +kernel
theorem zd_Model_years_9 : decode zm_Model_years.2.1 9 = .ok (.ifCond .ne 6, 3) := by decide +kernel
theorem zd_Model_years_12 : decode zm_Model_years.2.1 12 = .ok (.bipush (-2), 2) := by decide +kernel
theorem zd_Model_years_14 : decode zm_Model_years.2.1 14 = .ok (.ireturn, 1) := by decide +kernel
theorem zd_Model_years_15 : decode zm_Model_years.2.1 15 = .ok (.iload_n 2, 1) := by decide +kernel
theorem zd_Model_years_16 : decode zm_Model_years.2.1 16 = .ok (.iconst 1, 1) := by decide +kernel
theorem zd_Model_years_17 : decode zm_Model_years.2.1 17 = .ok (.bipush 60, 2) := by decide +kernel
theorem zd_Model_years_19 : decode zm_Model_years.2.1 19 = .ok (.invokestatic 100, 3) := by decide +kernel
theorem zd_Model_years_22 : decode zm_Model_years.2.1 22 = .ok (.ifCond .ne 5, 3) := by decide +kernel
theorem zd_Model_years_25 : decode zm_Model_years.2.1 25 = .ok (.iconst (-1), 1) := by decide +kernel
theorem zd_Model_years_26 : decode zm_Model_years.2.1 26 = .ok (.ireturn, 1) := by decide +kernel
theorem zd_Model_years_27 : decode zm_Model_years.2.1 27 = .ok (.aload_n 0, 1) := by decide +kernel
theorem zd_Model_years_28 : decode zm_Model_years.2.1 28 = .ok (.iload_n 1, 1) := by decide +kernel
theorem zd_Model_years_29 : decode zm_Model_years.2.1 29 = .ok (.putfield 391, 3) := by decide +kernel
theorem zd_Model_years_32 : decode zm_Model_years.2.1 32 = .ok (.iconst 0, 1) := by decide +kernel
theorem zd_Model_years_33 : decode zm_Model_years.2.1 33 = .ok (.istore_n 3, 1) := by decide +kernel
theorem zd_Model_years_34 : decode zm_Model_years.2.1 34 = .ok (.iconst 0, 1) := by decide +kernel
theorem zd_Model_years_35 : decode zm_Model_years.2.1 35 = .ok (.istore 4, 2) := by decide +kernel
theorem zd_Model_years_37 : decode zm_Model_years.2.1 37 = .ok (.ldc 254, 2) := by decide +kernel
theorem zd_Model_years_39 : decode zm_Model_years.2.1 39 = .ok (.istore 5, 2) := by decide +kernel
theorem zd_Model_years_41 : decode zm_Model_years.2.1 41 = .ok (.aload_n 0, 1) := by decide +kernel
theorem zd_Model_years_42 : decode zm_Model_years.2.1 42 = .ok (.getfield 9, 3) := by decide +kernel
theorem zd_Model_years_45 : decode zm_Model_years.2.1 45 = .ok (.aload_n 0, 1) := by decide +kernel
theorem zd_Model_years_46 : decode zm_Model_years.2.1 46 = .ok (.getfield 60, 3) := by decide +kernel
theorem zd_Model_years_49 : decode zm_Model_years.2.1 49 = .ok (.iconst 0, 1) := by decide +kernel
theorem zd_Model_years_50 : decode zm_Model_years.2.1 50 = .ok (.invokestatic 165, 3) := by decide +kernel
theorem zd_Model_years_53 : decode zm_Model_years.2.1 53 = .ok (.iconst 0, 1) := by decide +kernel
theorem zd_Model_years_54 : decode zm_Model_years.2.1 54 = .ok (.istore 6, 2) := by decide +kernel
theorem zd_Model_years_56 : decode zm_Model_years.2.1 56 = .ok (.iload 6, 2) := by decide +kernel
theorem zd_Model_years_58 : decode zm_Model_years.2.1 58 = .ok (.iload_n 2, 1) := by decide +kernel
theorem zd_Model_years_59 : decode zm_Model_years.2.1 59 = .ok (.if_icmp .ge 108, 3) := by decide +kernel
theorem zd_Model_years_62 : decode zm_Model_years.2.1 62 = .ok (.iload 4, 2) := by decide +kernel
theorem zd_Model_years_64 : decode zm_Model_years.2.1 64 = .ok (.aload_n 0, 1) := by decide +kernel
theorem zd_Model_years_65 : decode zm_Model_years.2.1 65 = .ok (.aload_n 0, 1) := by decide +kernel
theorem zd_Model_years_66 : decode zm_Model_years.2.1 66 = .ok (.getfield 60, 3) := by decide +kernel
theorem zd_Model_years_69 : decode zm_Model_years.2.1 69 = .ok (.aload_n 0, 1) := by decide +kernel
theorem zd_Model_years_70 : decode zm_Model_years.2.1 70 = .ok (.aload_n 0, 1) := by decide +kernel
theorem zd_Model_years_71 : decode zm_Model_years.2.1 71 = .ok (.getfield 19, 3) := by decide +kernel
theorem zd_Model_years_74 : decode zm_Model_years.2.1 74 = .ok (.invokevirtual 395, 3) := by decide +kernel
theorem zd_Model_years_77 : decode zm_Model_years.2.1 77 = .ok (.iconst 1, 1) := by decide +kernel
theorem zd_Model_years_78 : decode zm_Model_years.2.1 78 = .ok (.invokevirtual 309, 3) := by decide +kernel
theorem zd_Model_years_81 : decode zm_Model_years.2.1 81 = .ok (.invokestatic 261, 3) := by decide +kernel
theorem zd_Model_years_84 : decode zm_Model_years.2.1 84 = .ok (.iadd, 1) := by decide +kernel
theorem zd_Model_years_85 : decode zm_Model_years.2.1 85 = .ok (.istore 4, 2) := by decide +kernel
theorem zd_Model_years_87 : decode zm_Model_years.2.1 87 = .ok (.aload_n 0, 1) := by decide +kernel
theorem zd_Model_years_88 : decode zm_Model_years.2.1 88 = .ok (.aload_n 0, 1) := by decide +kernel
theorem zd_Model_years_89 : decode zm_Model_years.2.1 89 = .ok (.getfield 97, 3) := by decide +kernel
theorem zd_Model_years_92 : decode zm_Model_years.2.1 92 = .ok (.invokevirtual 395, 3) := by decide +kernel
theorem zd_Model_years_95 : decode zm_Model_years.2.1 95 = .ok (.istore 7, 2) := by decide +kernel
theorem zd_Model_years_97 : decode zm_Model_years.2.1 97 = .ok (.aload_n 0, 1) := by decide +kernel
theorem zd_Model_years_98 : decode zm_Model_years.2.1 98 = .ok (.aload_n 0, 1) := by decide +kernel
theorem zd_Model_years_99 : decode zm_Model_years.2.1 99 = .ok (.getfield 19, 3) := by decide +kernel
theorem zd_Model_years_102 : decode zm_Model_years.2.1 102 = .ok (.invokevirtual 395, 3) := by decide +kernel
theorem zd_Model_years_105 : decode zm_Model_years.2.1 105 = .ok (.istore 8, 2) := by decide +kernel
theorem zd_Model_years_107 : decode zm_Model_years.2.1 107 = .ok (.aload_n 0, 1) := by decide +kernel
theorem zd_Model_years_108 : decode zm_Model_years.2.1 108 = .ok (.aload_n 0, 1) := by decide +kernel
theorem zd_Model_years_109 : decode zm_Model_years.2.1 109 = .ok (.getfield 60, 3) := by decide +kernel
theorem zd_Model_years_112 : decode zm_Model_years.2.1 112 = .ok (.iload 7, 2) := by decide +kernel
theorem zd_Model_years_114 : decode zm_Model_years.2.1 114 = .ok (.iload 8, 2) := by decide +kernel
theorem zd_Model_years_116 : decode zm_Model_years.2.1 116 = .ok (.invokevirtual 281, 3) := by decide +kernel
theorem zd_Model_years_119 : decode zm_Model_years.2.1 119 = .ok (.ifCond .ne 18, 3) := by decide +kernel
theorem zd_Model_years_122 : decode zm_Model_years.2.1 122 = .ok (.aload_n 0, 1) := by decide +kernel
theorem zd_Model_years_123 : decode zm_Model_years.2.1 123 = .ok (.aload_n 0, 1) := by decide +kernel
theorem zd_Model_years_124 : decode zm_Model_years.2.1 124 = .ok (.getfield 60, 3) := by decide +kernel
theorem zd_Model_years_127 : decode zm_Model_years.2.1 127 = .ok (.iload 7, 2) := by decide +kernel
theorem zd_Model_years_129 : decode zm_Model_years.2.1 129 = .ok (.iload 8, 2) := by decide +kernel
theorem zd_Model_years_131 : decode zm_Model_years.2.1 131 = .ok (.invokevirtual 288, 3) := by decide +kernel
theorem zd_Model_years_134 : decode zm_Model_years.2.1 134 = .ok (.iinc 3 1, 3) := by decide +kernel
theorem zd_Model_years_137 : decode zm_Model_years.2.1 137 = .ok (.aload_n 0, 1) := by decide +kernel
theorem zd_Model_years_138 : decode zm_Model_years.2.1 138 = .ok (.aload_n 0, 1) := by decide +kernel
theorem zd_Model_years_139 : decode zm_Model_years.2.1 139 = .ok (.getfield 60, 3) := by decide +kernel
theorem zd_Model_years_142 : decode zm_Model_years.2.1 142 = .ok (.iconst 1, 1) := by decide +kernel
theorem zd_Model_years_143 : decode zm_Model_years.2.1 143 = .ok (.invokevirtual 321, 3) := by decide +kernel
theorem zd_Model_years_146 : decode zm_Model_years.2.1 146 = .ok (.iload 5, 2) := by decide +kernel
theorem zd_Model_years_148 : decode zm_Model_years.2.1 148 = .ok (.aload_n 0, 1) := by decide +kernel
theorem zd_Model_years_149 : decode zm_Model_years.2.1 149 = .ok (.aload_n 0, 1) := by decide +kernel
theorem zd_Model_years_150 : decode zm_Model_years.2.1 150 = .ok (.getfield 60, 3) := by decide +kernel
theorem zd_Model_years_153 : decode zm_Model_years.2.1 153 = .ok (.invokevirtual 334, 3) := by decide +kernel
theorem zd_Model_years_156 : decode zm_Model_years.2.1 156 = .ok (.invokestatic 221, 3) := by decide +kernel
theorem zd_Model_years_159 : decode zm_Model_years.2.1 159 = .ok (.istore 5, 2) := by decide +kernel
theorem zd_Model_years_161 : decode zm_Model_years.2.1 161 = .ok (.iinc 6 1, 3) := by decide +kernel
theorem zd_Model_years_164 : decode zm_Model_years.2.1 164 = .ok (.goto (-108), 3) := by decide +kernel
theorem zd_Model_years_167 : decode zm_Model_years.2.1 167 = .ok (.aload_n 0, 1) := by decide +kernel
theorem zd_Model_years_168 : decode zm_Model_years.2.1 168 = .ok (.iconst 0, 1) := by decide +kernel
theorem zd_Model_years_169 : decode zm_Model_years.2.1 169 = .ok (.putfield 94, 3) := by decide +kernel
theorem zd_Model_years_172 : decode zm_Model_years.2.1 172 = .ok (.aload_n 0, 1) := by decide +kernel
theorem zd_Model_years_173 : decode zm_Model_years.2.1 173 = .ok (.iload 4, 2) := by decide +kernel
theorem zd_Model_years_175 : decode zm_Model_years.2.1 175 = .ok (.invokevirtual 312, 3) := by decide +kernel
theorem zd_Model_years_178 : decode zm_Model_years.2.1 178 = .ok (.aload_n 0, 1) := by decide +kernel
theorem zd_Model_years_179 : decode zm_Model_years.2.1 179 = .ok (.iload 5, 2) := by decide +kernel
theorem zd_Model_years_181 : decode zm_Model_years.2.1 181 = .ok (.invokevirtual 312, 3) := by decide +kernel
theorem zd_Model_years_184 : decode zm_Model_years.2.1 184 = .ok (.iload_n 3, 1) := by decide +kernel
theorem zd_Model_years_185 : decode zm_Model_years.2.1 185 = .ok (.ireturn, 1) := by decide +kernel
theorem zb_Model_years_0 {Γ : zG} {σ : zS} {x1 x2 : Int32}  (kt : ¬ ((z_pI σ 63 11 (nI 0)).1 63 1) = 0 → z_J Γ zm_Model_years 15 [some (.inr (63)), some (.inl (x1)), some (.inl (x2)), none, none, none, none, none, none] [] (z_pI σ 63 11 (nI 0))) (kf : ((z_pI σ 63 11 (nI 0)).1 63 1) = 0 → z_J Γ zm_Model_years 12 [none, none, none, none, none, none, none, none, none] [] (z_pI σ 63 11 (nI 0))) : z_J Γ zm_Model_years 0 [some (.inr (63)), some (.inl (x1)), some (.inl (x2)), none, none, none, none, none, none] [] σ := by
  refine zj_aload_n zd_Model_years_0 rfl ?_
  refine zj_iconst (v := nI 0) zd_Model_years_1 (by decide) ?_
  refine zj_putI rfl (by decide) rfl zu_Model zy_Model_ok zn_Model (k := 11) (by decide) rfl rfl zl_Model_91 rfl rfl zd_Model_years_2 ?_
  refine zj_aload_n zd_Model_years_5 rfl ?_
  refine zj_getI rfl (by decide) rfl zu_Model (k := 1) (by decide) rfl zl_Model_97 zd_Model_years_6 ?_
  exact zj_if_ne zd_Model_years_9 (by decide) (fun h => (kt h)) (fun h => (zj_weak (L' := [none, none, none, none, none, none, none, none, none]) trivial (kf h)))
theorem zb_Model_years_12 {Γ : zG} {σ : zS}  (e : z_end Γ (some ((-2))) σ) : z_J Γ zm_Model_years 12 [none, none, none, none, none, none, none, none, none] [] σ := by
  refine zj_bipush (v := (-2)) zd_Model_years_12 (by decide) ?_
  exact zj_ireturn rfl zd_Model_years_14 e
theorem zb_Model_years_15 {Γ : zG} {σ : zS} {x1 x2 : Int32} {dc : Nat} {P : Int32 → zS → Prop}  (hm : z_Ci dc zm_Model_in [.inl (x2), .inl (nI 1), .inl (nI 60)] σ P) (hdp : dc < z_dep Γ) (k : ∀ r σ1, P r σ1 → z_J Γ zm_Model_years 22 [some (.inr (63)), some (.inl (x1)), some (.inl (x2)), none, none, none, none, none, none] [.inl (r)] σ1) : z_J Γ zm_Model_years 15 [some (.inr (63)), some (.inl (x1)), some (.inl (x2)), none, none, none, none, none, none] [] σ := by
  refine zj_iload_n zd_Model_years_15 rfl ?_
  refine zj_iconst (v := nI 1) zd_Model_years_16 (by decide) ?_
  refine zj_bipush (v := nI 60) zd_Model_years_17 (by decide) ?_
  exact zj_callSi (As := [.inl (x2), .inl (nI 1), .inl (nI 60)]) hm hdp zl_Model_100 zq_Model_in zd_Model_years_19 rfl (Nat.le_of_ble_eq_true rfl) (fun r σ1 h => (k r σ1 h))
theorem zb_Model_years_22 {Γ : zG} {σ : zS} {x1 x2 y0 : Int32}  (kt : ¬ y0 = 0 → z_J Γ zm_Model_years 27 [some (.inr (63)), some (.inl (x1)), some (.inl (x2)), none, none, none, none, none, none] [] σ) (kf : y0 = 0 → z_J Γ zm_Model_years 25 [none, none, none, none, none, none, none, none, none] [] σ) : z_J Γ zm_Model_years 22 [some (.inr (63)), some (.inl (x1)), some (.inl (x2)), none, none, none, none, none, none] [.inl (y0)] σ := by
  exact zj_if_ne zd_Model_years_22 (by decide) (fun h => (kt h)) (fun h => (zj_weak (L' := [none, none, none, none, none, none, none, none, none]) trivial (kf h)))
theorem zb_Model_years_25 {Γ : zG} {σ : zS}  (e : z_end Γ (some ((-1))) σ) : z_J Γ zm_Model_years 25 [none, none, none, none, none, none, none, none, none] [] σ := by
  refine zj_iconst (v := (-1)) zd_Model_years_25 (by decide) ?_
  exact zj_ireturn rfl zd_Model_years_26 e
theorem zb_Model_years_27 {Γ : zG} {σ : zS} {x1 x2 : Int32} {dc : Nat} {P : zS → Prop}  (hm : z_Cv dc zm_Model_lay_1 [.inr (64), .inr (78), .inl (nI 0)] (z_pI σ 63 43 x1) P) (hdp : dc < z_dep Γ) (k : ∀ σ1, P σ1 → z_J Γ zm_Model_years 53 [some (.inr (63)), none, some (.inl (x2)), some (.inl (nI 0)), some (.inl (nI 0)), some (.inl ((1000000 : Int32))), none, none, none] [] σ1) : z_J Γ zm_Model_years 27 [some (.inr (63)), some (.inl (x1)), some (.inl (x2)), none, none, none, none, none, none] [] σ := by
  refine zj_aload_n zd_Model_years_27 rfl ?_
  refine zj_iload_n zd_Model_years_28 rfl ?_
  refine zj_putI rfl (by decide) rfl zu_Model zy_Model_ok zn_Model (k := 43) (by decide) rfl rfl zl_Model_391 rfl rfl zd_Model_years_29 ?_
  refine zj_iconst (v := nI 0) zd_Model_years_32 (by decide) ?_
  refine zj_istore_n (L' := [some (.inr (63)), some (.inl (x1)), some (.inl (x2)), some (.inl (nI 0)), none, none, none, none, none]) zd_Model_years_33 (by decide) rfl ?_
  refine zj_iconst (v := nI 0) zd_Model_years_34 (by decide) ?_
  refine zj_istore (L' := [some (.inr (63)), some (.inl (x1)), some (.inl (x2)), some (.inl (nI 0)), some (.inl (nI 0)), none, none, none, none]) zd_Model_years_35 (by decide) rfl ?_
  refine zj_ldc (v := 1000000) zl_Model_254 zd_Model_years_37 ?_
  refine zj_istore (L' := [some (.inr (63)), some (.inl (x1)), some (.inl (x2)), some (.inl (nI 0)), some (.inl (nI 0)), some (.inl ((1000000 : Int32))), none, none, none]) zd_Model_years_39 (by decide) rfl ?_
  refine zj_aload_n zd_Model_years_41 rfl ?_
  refine zj_getR rfl (by decide) rfl zu_Model (k := 0) (by decide) rfl zl_Model_9 zd_Model_years_42 (o' := 64) rfl ?_
  refine zj_aload_n zd_Model_years_45 rfl ?_
  refine zj_getR rfl (by decide) rfl zu_Model (k := 29) (by decide) rfl zl_Model_60 zd_Model_years_46 (o' := 78) rfl ?_
  refine zj_iconst (v := nI 0) zd_Model_years_49 (by decide) ?_
  exact zj_callSv (As := [.inr (64), .inr (78), .inl (nI 0)]) hm hdp zl_Model_165 zq_Model_lay_1 zd_Model_years_50 rfl (Nat.le_of_ble_eq_true rfl) (fun σ1 h => (zj_weak (L' := [some (.inr (63)), none, some (.inl (x2)), some (.inl (nI 0)), some (.inl (nI 0)), some (.inl ((1000000 : Int32))), none, none, none]) ⟨rfl, ⟨rfl, ⟨rfl, ⟨rfl, ⟨rfl, trivial⟩⟩⟩⟩⟩ (k σ1 h)))
theorem zb_Model_years_53 {Γ : zG} {σ : zS} {x2 x3 x4 x5 : Int32}  (k : z_J Γ zm_Model_years 56 [some (.inr (63)), none, some (.inl (x2)), some (.inl (x3)), some (.inl (x4)), some (.inl (x5)), some (.inl (nI 0)), none, none] [] σ) : z_J Γ zm_Model_years 53 [some (.inr (63)), none, some (.inl (x2)), some (.inl (x3)), some (.inl (x4)), some (.inl (x5)), none, none, none] [] σ := by
  refine zj_iconst (v := nI 0) zd_Model_years_53 (by decide) ?_
  refine zj_istore (L' := [some (.inr (63)), none, some (.inl (x2)), some (.inl (x3)), some (.inl (x4)), some (.inl (x5)), some (.inl (nI 0)), none, none]) zd_Model_years_54 (by decide) rfl ?_
  exact k
theorem zb_Model_years_56 {Γ : zG} {σ : zS} {x2 x3 x4 x5 x6 : Int32}  (kt : x2 ≤ x6 → z_J Γ zm_Model_years 167 [some (.inr (63)), none, none, some (.inl (x3)), some (.inl (x4)), some (.inl (x5)), none, none, none] [] σ) (kf : ¬ x2 ≤ x6 → z_J Γ zm_Model_years 62 [some (.inr (63)), none, some (.inl (x2)), some (.inl (x3)), some (.inl (x4)), some (.inl (x5)), some (.inl (x6)), none, none] [] σ) : z_J Γ zm_Model_years 56 [some (.inr (63)), none, some (.inl (x2)), some (.inl (x3)), some (.inl (x4)), some (.inl (x5)), some (.inl (x6)), none, none] [] σ := by
  refine zj_iload zd_Model_years_56 rfl ?_
  refine zj_iload_n zd_Model_years_58 rfl ?_
  exact zj_icmp_ge zd_Model_years_59 (by decide) (fun h => (zj_weak (L' := [some (.inr (63)), none, none, some (.inl (x3)), some (.inl (x4)), some (.inl (x5)), none, none, none]) ⟨rfl, ⟨rfl, ⟨rfl, ⟨rfl, trivial⟩⟩⟩⟩ (kt h))) (fun h => (kf h))
theorem zb_Model_years_62 {Γ : zG} {σ : zS} {x2 x3 x4 x5 x6 : Int32} {dc : Nat} {P : Int32 → zS → Prop}  (hm : z_Ci dc zm_Model_draw [.inr (63), .inl (σ.1 63 4)] σ P) (hdp : dc < z_dep Γ) (k : ∀ r σ1, P r σ1 → z_J Γ zm_Model_years 77 [some (.inr (63)), none, some (.inl (x2)), some (.inl (x3)), none, some (.inl (x5)), some (.inl (x6)), none, none] [.inl (r), .inr (78), .inr (63), .inl (x4)] σ1) : z_J Γ zm_Model_years 62 [some (.inr (63)), none, some (.inl (x2)), some (.inl (x3)), some (.inl (x4)), some (.inl (x5)), some (.inl (x6)), none, none] [] σ := by
  refine zj_iload zd_Model_years_62 rfl ?_
  refine zj_aload_n zd_Model_years_64 rfl ?_
  refine zj_aload_n zd_Model_years_65 rfl ?_
  refine zj_getR rfl (by decide) rfl zu_Model (k := 29) (by decide) rfl zl_Model_60 zd_Model_years_66 (o' := 78) rfl ?_
  refine zj_aload_n zd_Model_years_69 rfl ?_
  refine zj_aload_n zd_Model_years_70 rfl ?_
  refine zj_getI rfl (by decide) rfl zu_Model (k := 4) (by decide) rfl zl_Model_19 zd_Model_years_71 ?_
  exact zj_callVi (As := [.inl (σ.1 63 4)]) hm hdp rfl (by decide) rfl zl_Model_395 zq_Model_draw zd_Model_years_74 rfl (Nat.le_of_ble_eq_true rfl) (fun r σ1 h => (zj_weak (L' := [some (.inr (63)), none, some (.inl (x2)), some (.inl (x3)), none, some (.inl (x5)), some (.inl (x6)), none, none]) ⟨rfl, ⟨rfl, ⟨rfl, ⟨rfl, ⟨rfl, trivial⟩⟩⟩⟩⟩ (k r σ1 h)))
theorem zb_Model_years_77 {Γ : zG} {σ : zS} {x2 x3 x5 x6 y0 y3 : Int32} {dc : Nat} {P : Int32 → zS → Prop}  (hm : z_Ci dc zm_Model_goShot [.inr (63), .inr (78), .inl (y0), .inl (nI 1)] σ P) (hdp : dc < z_dep Γ) (k : ∀ r σ1, P r σ1 → z_J Γ zm_Model_years 81 [some (.inr (63)), none, some (.inl (x2)), some (.inl (x3)), none, some (.inl (x5)), some (.inl (x6)), none, none] [.inl (r), .inl (y3)] σ1) : z_J Γ zm_Model_years 77 [some (.inr (63)), none, some (.inl (x2)), some (.inl (x3)), none, some (.inl (x5)), some (.inl (x6)), none, none] [.inl (y0), .inr (78), .inr (63), .inl (y3)] σ := by
  refine zj_iconst (v := nI 1) zd_Model_years_77 (by decide) ?_
  exact zj_callVi (As := [.inr (78), .inl (y0), .inl (nI 1)]) hm hdp rfl (by decide) rfl zl_Model_309 zq_Model_goShot zd_Model_years_78 rfl (Nat.le_of_ble_eq_true rfl) (fun r σ1 h => (k r σ1 h))
theorem zb_Model_years_81 {Γ : zG} {σ : zS} {x2 x3 x5 x6 y0 y1 : Int32} {dc : Nat} {P : Int32 → zS → Prop}  (hm : z_Ci dc zm_Model_draw [.inr (63), .inl (σ.1 63 1)] σ P) (hdp : dc < z_dep Γ) (k : ∀ r σ1, P r σ1 → z_J Γ zm_Model_years 95 [some (.inr (63)), none, some (.inl (x2)), some (.inl (x3)), some (.inl (y1 + (z_bc y0))), some (.inl (x5)), some (.inl (x6)), none, none] [.inl (r)] σ1) : z_J Γ zm_Model_years 81 [some (.inr (63)), none, some (.inl (x2)), some (.inl (x3)), none, some (.inl (x5)), some (.inl (x6)), none, none] [.inl (y0), .inl (y1)] σ := by
  refine zj_bitc zl_Model_261 (Nat.lt_of_le_of_lt (Nat.zero_le _) hdp) (Nat.le_of_ble_eq_true rfl) zd_Model_years_81 ?_
  refine zj_iadd zd_Model_years_84 ?_
  refine zj_istore (L' := [some (.inr (63)), none, some (.inl (x2)), some (.inl (x3)), some (.inl (y1 + (z_bc y0))), some (.inl (x5)), some (.inl (x6)), none, none]) zd_Model_years_85 (by decide) rfl ?_
  refine zj_aload_n zd_Model_years_87 rfl ?_
  refine zj_aload_n zd_Model_years_88 rfl ?_
  refine zj_getI rfl (by decide) rfl zu_Model (k := 1) (by decide) rfl zl_Model_97 zd_Model_years_89 ?_
  exact zj_callVi (As := [.inl (σ.1 63 1)]) hm hdp rfl (by decide) rfl zl_Model_395 zq_Model_draw zd_Model_years_92 rfl (Nat.le_of_ble_eq_true rfl) (fun r σ1 h => (k r σ1 h))
theorem zb_Model_years_95 {Γ : zG} {σ : zS} {x2 x3 x4 x5 x6 y0 : Int32} {dc : Nat} {P : Int32 → zS → Prop}  (hm : z_Ci dc zm_Model_draw [.inr (63), .inl (σ.1 63 4)] σ P) (hdp : dc < z_dep Γ) (k : ∀ r σ1, P r σ1 → z_J Γ zm_Model_years 105 [some (.inr (63)), none, some (.inl (x2)), some (.inl (x3)), some (.inl (x4)), some (.inl (x5)), some (.inl (x6)), some (.inl (y0)), none] [.inl (r)] σ1) : z_J Γ zm_Model_years 95 [some (.inr (63)), none, some (.inl (x2)), some (.inl (x3)), some (.inl (x4)), some (.inl (x5)), some (.inl (x6)), none, none] [.inl (y0)] σ := by
  refine zj_istore (L' := [some (.inr (63)), none, some (.inl (x2)), some (.inl (x3)), some (.inl (x4)), some (.inl (x5)), some (.inl (x6)), some (.inl (y0)), none]) zd_Model_years_95 (by decide) rfl ?_
  refine zj_aload_n zd_Model_years_97 rfl ?_
  refine zj_aload_n zd_Model_years_98 rfl ?_
  refine zj_getI rfl (by decide) rfl zu_Model (k := 4) (by decide) rfl zl_Model_19 zd_Model_years_99 ?_
  exact zj_callVi (As := [.inl (σ.1 63 4)]) hm hdp rfl (by decide) rfl zl_Model_395 zq_Model_draw zd_Model_years_102 rfl (Nat.le_of_ble_eq_true rfl) (fun r σ1 h => (k r σ1 h))
theorem zb_Model_years_105 {Γ : zG} {σ : zS} {x2 x3 x4 x5 x6 x7 y0 : Int32} {dc : Nat} {P : Int32 → zS → Prop}  (hm : z_Ci dc zm_Model_refusesLay [.inr (63), .inr (78), .inl (x7), .inl (y0)] σ P) (hdp : dc < z_dep Γ) (k : ∀ r σ1, P r σ1 → z_J Γ zm_Model_years 119 [some (.inr (63)), none, some (.inl (x2)), some (.inl (x3)), some (.inl (x4)), some (.inl (x5)), some (.inl (x6)), some (.inl (x7)), some (.inl (y0))] [.inl (r)] σ1) : z_J Γ zm_Model_years 105 [some (.inr (63)), none, some (.inl (x2)), some (.inl (x3)), some (.inl (x4)), some (.inl (x5)), some (.inl (x6)), some (.inl (x7)), none] [.inl (y0)] σ := by
  refine zj_istore (L' := [some (.inr (63)), none, some (.inl (x2)), some (.inl (x3)), some (.inl (x4)), some (.inl (x5)), some (.inl (x6)), some (.inl (x7)), some (.inl (y0))]) zd_Model_years_105 (by decide) rfl ?_
  refine zj_aload_n zd_Model_years_107 rfl ?_
  refine zj_aload_n zd_Model_years_108 rfl ?_
  refine zj_getR rfl (by decide) rfl zu_Model (k := 29) (by decide) rfl zl_Model_60 zd_Model_years_109 (o' := 78) rfl ?_
  refine zj_iload zd_Model_years_112 rfl ?_
  refine zj_iload zd_Model_years_114 rfl ?_
  exact zj_callVi (As := [.inr (78), .inl (x7), .inl (y0)]) hm hdp rfl (by decide) rfl zl_Model_281 zq_Model_refusesLay zd_Model_years_116 rfl (Nat.le_of_ble_eq_true rfl) (fun r σ1 h => (k r σ1 h))
theorem zb_Model_years_119 {Γ : zG} {σ : zS} {x2 x3 x4 x5 x6 x7 x8 y0 : Int32}  (kt : ¬ y0 = 0 → z_J Γ zm_Model_years 137 [some (.inr (63)), none, some (.inl (x2)), some (.inl (x3)), some (.inl (x4)), some (.inl (x5)), some (.inl (x6)), none, none] [] σ) (kf : y0 = 0 → z_J Γ zm_Model_years 122 [some (.inr (63)), none, some (.inl (x2)), some (.inl (x3)), some (.inl (x4)), some (.inl (x5)), some (.inl (x6)), some (.inl (x7)), some (.inl (x8))] [] σ) : z_J Γ zm_Model_years 119 [some (.inr (63)), none, some (.inl (x2)), some (.inl (x3)), some (.inl (x4)), some (.inl (x5)), some (.inl (x6)), some (.inl (x7)), some (.inl (x8))] [.inl (y0)] σ := by
  exact zj_if_ne zd_Model_years_119 (by decide) (fun h => (zj_weak (L' := [some (.inr (63)), none, some (.inl (x2)), some (.inl (x3)), some (.inl (x4)), some (.inl (x5)), some (.inl (x6)), none, none]) ⟨rfl, ⟨rfl, ⟨rfl, ⟨rfl, ⟨rfl, ⟨rfl, trivial⟩⟩⟩⟩⟩⟩ (kt h))) (fun h => (kf h))
theorem zb_Model_years_122 {Γ : zG} {σ : zS} {x2 x3 x4 x5 x6 x7 x8 : Int32} {dc : Nat} {P : zS → Prop}  (hm : z_Cv dc zm_Model_goLay [.inr (63), .inr (78), .inl (x7), .inl (x8)] σ P) (hdp : dc < z_dep Γ) (k : ∀ σ1, P σ1 → z_J Γ zm_Model_years 134 [some (.inr (63)), none, some (.inl (x2)), some (.inl (x3)), some (.inl (x4)), some (.inl (x5)), some (.inl (x6)), none, none] [] σ1) : z_J Γ zm_Model_years 122 [some (.inr (63)), none, some (.inl (x2)), some (.inl (x3)), some (.inl (x4)), some (.inl (x5)), some (.inl (x6)), some (.inl (x7)), some (.inl (x8))] [] σ := by
  refine zj_aload_n zd_Model_years_122 rfl ?_
  refine zj_aload_n zd_Model_years_123 rfl ?_
  refine zj_getR rfl (by decide) rfl zu_Model (k := 29) (by decide) rfl zl_Model_60 zd_Model_years_124 (o' := 78) rfl ?_
  refine zj_iload zd_Model_years_127 rfl ?_
  refine zj_iload zd_Model_years_129 rfl ?_
  exact zj_callVv (As := [.inr (78), .inl (x7), .inl (x8)]) hm hdp rfl (by decide) rfl zl_Model_288 zq_Model_goLay zd_Model_years_131 rfl (Nat.le_of_ble_eq_true rfl) (fun σ1 h => (zj_weak (L' := [some (.inr (63)), none, some (.inl (x2)), some (.inl (x3)), some (.inl (x4)), some (.inl (x5)), some (.inl (x6)), none, none]) ⟨rfl, ⟨rfl, ⟨rfl, ⟨rfl, ⟨rfl, ⟨rfl, trivial⟩⟩⟩⟩⟩⟩ (k σ1 h)))
theorem zb_Model_years_134 {Γ : zG} {σ : zS} {x2 x3 x4 x5 x6 : Int32}  (k : z_J Γ zm_Model_years 137 [some (.inr (63)), none, some (.inl (x2)), some (.inl (x3 + nI 1)), some (.inl (x4)), some (.inl (x5)), some (.inl (x6)), none, none] [] σ) : z_J Γ zm_Model_years 134 [some (.inr (63)), none, some (.inl (x2)), some (.inl (x3)), some (.inl (x4)), some (.inl (x5)), some (.inl (x6)), none, none] [] σ := by
  refine zj_iinc (v := nI 1) (L' := [some (.inr (63)), none, some (.inl (x2)), some (.inl (x3 + nI 1)), some (.inl (x4)), some (.inl (x5)), some (.inl (x6)), none, none]) zd_Model_years_134 rfl (by decide) (by decide) rfl ?_
  exact k
theorem zb_Model_years_137 {Γ : zG} {σ : zS} {x2 x3 x4 x5 x6 : Int32} {dc : Nat} {P : zS → Prop}  (hm : z_Cv dc zm_Model_goDays [.inr (63), .inr (78), .inl (nI 1)] σ P) (hdp : dc < z_dep Γ) (k : ∀ σ1, P σ1 → z_J Γ zm_Model_years 146 [some (.inr (63)), none, some (.inl (x2)), some (.inl (x3)), some (.inl (x4)), some (.inl (x5)), some (.inl (x6)), none, none] [] σ1) : z_J Γ zm_Model_years 137 [some (.inr (63)), none, some (.inl (x2)), some (.inl (x3)), some (.inl (x4)), some (.inl (x5)), some (.inl (x6)), none, none] [] σ := by
  refine zj_aload_n zd_Model_years_137 rfl ?_
  refine zj_aload_n zd_Model_years_138 rfl ?_
  refine zj_getR rfl (by decide) rfl zu_Model (k := 29) (by decide) rfl zl_Model_60 zd_Model_years_139 (o' := 78) rfl ?_
  refine zj_iconst (v := nI 1) zd_Model_years_142 (by decide) ?_
  exact zj_callVv (As := [.inr (78), .inl (nI 1)]) hm hdp rfl (by decide) rfl zl_Model_321 zq_Model_goDays zd_Model_years_143 rfl (Nat.le_of_ble_eq_true rfl) (fun σ1 h => (k σ1 h))
theorem zb_Model_years_146 {Γ : zG} {σ : zS} {x2 x3 x4 x5 x6 : Int32} {dc : Nat} {P : Int32 → zS → Prop}  (hm : z_Ci dc zm_Model_leastHeight [.inr (63), .inr (78)] σ P) (hdp : dc < z_dep Γ) (k : ∀ r σ1, P r σ1 → z_J Γ zm_Model_years 156 [some (.inr (63)), none, some (.inl (x2)), some (.inl (x3)), some (.inl (x4)), none, some (.inl (x6)), none, none] [.inl (r), .inl (x5)] σ1) : z_J Γ zm_Model_years 146 [some (.inr (63)), none, some (.inl (x2)), some (.inl (x3)), some (.inl (x4)), some (.inl (x5)), some (.inl (x6)), none, none] [] σ := by
  refine zj_iload zd_Model_years_146 rfl ?_
  refine zj_aload_n zd_Model_years_148 rfl ?_
  refine zj_aload_n zd_Model_years_149 rfl ?_
  refine zj_getR rfl (by decide) rfl zu_Model (k := 29) (by decide) rfl zl_Model_60 zd_Model_years_150 (o' := 78) rfl ?_
  exact zj_callVi (As := [.inr (78)]) hm hdp rfl (by decide) rfl zl_Model_334 zq_Model_leastHeight zd_Model_years_153 rfl (Nat.le_of_ble_eq_true rfl) (fun r σ1 h => (zj_weak (L' := [some (.inr (63)), none, some (.inl (x2)), some (.inl (x3)), some (.inl (x4)), none, some (.inl (x6)), none, none]) ⟨rfl, ⟨rfl, ⟨rfl, ⟨rfl, ⟨rfl, trivial⟩⟩⟩⟩⟩ (k r σ1 h)))
theorem zb_Model_years_156 {Γ : zG} {σ : zS} {x2 x3 x4 x6 y0 y1 : Int32} (hdp : 0 < z_dep Γ) (k : z_J Γ zm_Model_years 56 [some (.inr (63)), none, some (.inl (x2)), some (.inl (x3)), some (.inl (x4)), some (.inl (z_min y1 y0)), some (.inl (x6 + nI 1)), none, none] [] σ) : z_J Γ zm_Model_years 156 [some (.inr (63)), none, some (.inl (x2)), some (.inl (x3)), some (.inl (x4)), none, some (.inl (x6)), none, none] [.inl (y0), .inl (y1)] σ := by
  refine zj_mmin zl_Model_221 zx_min_s zx_Math zx_min_c hdp (Nat.le_of_ble_eq_true rfl) zd_Model_years_156 ?_
  refine zj_istore (L' := [some (.inr (63)), none, some (.inl (x2)), some (.inl (x3)), some (.inl (x4)), some (.inl (z_min y1 y0)), some (.inl (x6)), none, none]) zd_Model_years_159 (by decide) rfl ?_
  refine zj_iinc (v := nI 1) (L' := [some (.inr (63)), none, some (.inl (x2)), some (.inl (x3)), some (.inl (x4)), some (.inl (z_min y1 y0)), some (.inl (x6 + nI 1)), none, none]) zd_Model_years_161 rfl (by decide) (by decide) rfl ?_
  exact zj_goto zd_Model_years_164 (by decide) k
theorem zb_Model_years_167 {Γ : zG} {σ : zS} {x3 x4 x5 : Int32} {dc : Nat} {P : zS → Prop}  (hm : z_Cv dc zm_Model_tell [.inr (63), .inl (x4)] (z_pI σ 63 10 (nI 0)) P) (hdp : dc < z_dep Γ) (k : ∀ σ1, P σ1 → z_J Γ zm_Model_years 178 [some (.inr (63)), none, none, some (.inl (x3)), none, some (.inl (x5)), none, none, none] [] σ1) : z_J Γ zm_Model_years 167 [some (.inr (63)), none, none, some (.inl (x3)), some (.inl (x4)), some (.inl (x5)), none, none, none] [] σ := by
  refine zj_aload_n zd_Model_years_167 rfl ?_
  refine zj_iconst (v := nI 0) zd_Model_years_168 (by decide) ?_
  refine zj_putI rfl (by decide) rfl zu_Model zy_Model_ok zn_Model (k := 10) (by decide) rfl rfl zl_Model_94 rfl rfl zd_Model_years_169 ?_
  refine zj_aload_n zd_Model_years_172 rfl ?_
  refine zj_iload zd_Model_years_173 rfl ?_
  exact zj_callVv (As := [.inl (x4)]) hm hdp rfl (by decide) rfl zl_Model_312 zq_Model_tell zd_Model_years_175 rfl (Nat.le_of_ble_eq_true rfl) (fun σ1 h => (zj_weak (L' := [some (.inr (63)), none, none, some (.inl (x3)), none, some (.inl (x5)), none, none, none]) ⟨rfl, ⟨rfl, ⟨rfl, trivial⟩⟩⟩ (k σ1 h)))
theorem zb_Model_years_178 {Γ : zG} {σ : zS} {x3 x5 : Int32} {dc : Nat} {P : zS → Prop}  (hm : z_Cv dc zm_Model_tell [.inr (63), .inl (x5)] σ P) (hdp : dc < z_dep Γ) (k : ∀ σ1, P σ1 → z_J Γ zm_Model_years 184 [none, none, none, some (.inl (x3)), none, none, none, none, none] [] σ1) : z_J Γ zm_Model_years 178 [some (.inr (63)), none, none, some (.inl (x3)), none, some (.inl (x5)), none, none, none] [] σ := by
  refine zj_aload_n zd_Model_years_178 rfl ?_
  refine zj_iload zd_Model_years_179 rfl ?_
  exact zj_callVv (As := [.inl (x5)]) hm hdp rfl (by decide) rfl zl_Model_312 zq_Model_tell zd_Model_years_181 rfl (Nat.le_of_ble_eq_true rfl) (fun σ1 h => (zj_weak (L' := [none, none, none, some (.inl (x3)), none, none, none, none, none]) ⟨rfl, trivial⟩ (k σ1 h)))
theorem zb_Model_years_184 {Γ : zG} {σ : zS} {x3 : Int32}  (e : z_end Γ (some (x3)) σ) : z_J Γ zm_Model_years 184 [none, none, none, some (.inl (x3)), none, none, none, none, none] [] σ := by
  refine zj_iload_n zd_Model_years_184 rfl ?_
  exact zj_ireturn rfl zd_Model_years_185 e
theorem zd_Model_draw_0 : decode zm_Model_draw.2.1 0 = .ok (.aload_n 0, 1) := by decide +kernel
theorem zd_Model_draw_1 : decode zm_Model_draw.2.1 1 = .ok (.aload_n 0, 1) := by decide +kernel
theorem zd_Model_draw_2 : decode zm_Model_draw.2.1 2 = .ok (.getfield 391, 3) := by decide +kernel
theorem zd_Model_draw_5 : decode zm_Model_draw.2.1 5 = .ok (.ldc_w 394, 3) := by decide +kernel
theorem zd_Model_draw_8 : decode zm_Model_draw.2.1 8 = .ok (.imul, 1) := by decide +kernel
theorem zd_Model_draw_9 : decode zm_Model_draw.2.1 9 = .ok (.sipush 12345, 3) := by decide +kernel
theorem zd_Model_draw_12 : decode zm_Model_draw.2.1 12 = .ok (.iadd, 1) := by decide +kernel
theorem zd_Model_draw_13 : decode zm_Model_draw.2.1 13 = .ok (.putfield 391, 3) := by decide +kernel
theorem zd_Model_draw_16 : decode zm_Model_draw.2.1 16 = .ok (.aload_n 0, 1) := by decide +kernel
theorem zd_Model_draw_17 : decode zm_Model_draw.2.1 17 = .ok (.getfield 391, 3) := by decide +kernel
theorem zd_Model_draw_20 : decode zm_Model_draw.2.1 20 = .ok (.bipush 16, 2) := by decide +kernel
theorem zd_Model_draw_22 : decode zm_Model_draw.2.1 22 = .ok (.iushr, 1) := by decide +kernel
theorem zd_Model_draw_23 : decode zm_Model_draw.2.1 23 = .ok (.iload_n 1, 1) := by decide +kernel
theorem zd_Model_draw_24 : decode zm_Model_draw.2.1 24 = .ok (.irem, 1) := by decide +kernel
theorem zd_Model_draw_25 : decode zm_Model_draw.2.1 25 = .ok (.ireturn, 1) := by decide +kernel
theorem zb_Model_draw_0 {Γ : zG} {σ : zS} {x1 : Int32}  (d1 : ¬ x1 = 0) (e : z_end Γ (some ((z_ushr ((z_pI σ 63 43 (((σ.1 63 43) * (1103515245 : Int32)) + (nI 12345))).1 63 43) (nI 16)) - (z_ushr ((z_pI σ 63 43 (((σ.1 63 43) * (1103515245 : Int32)) + (nI 12345))).1 63 43) (nI 16)) / x1 * x1)) (z_pI σ 63 43 (((σ.1 63 43) * (1103515245 : Int32)) + (nI 12345)))) : z_J Γ zm_Model_draw 0 [some (.inr (63)), some (.inl (x1))] [] σ := by
  refine zj_aload_n zd_Model_draw_0 rfl ?_
  refine zj_aload_n zd_Model_draw_1 rfl ?_
  refine zj_getI rfl (by decide) rfl zu_Model (k := 43) (by decide) rfl zl_Model_391 zd_Model_draw_2 ?_
  refine zj_ldcw (v := 1103515245) zl_Model_394 zd_Model_draw_5 ?_
  refine zj_imul zd_Model_draw_8 ?_
  refine zj_sipush (v := nI 12345) zd_Model_draw_9 (by decide) ?_
  refine zj_iadd zd_Model_draw_12 ?_
  refine zj_putI rfl (by decide) rfl zu_Model zy_Model_ok zn_Model (k := 43) (by decide) rfl rfl zl_Model_391 rfl rfl zd_Model_draw_13 ?_
  refine zj_aload_n zd_Model_draw_16 rfl ?_
  refine zj_getI rfl (by decide) rfl zu_Model (k := 43) (by decide) rfl zl_Model_391 zd_Model_draw_17 ?_
  refine zj_bipush (v := nI 16) zd_Model_draw_20 (by decide) ?_
  refine zj_iushr zd_Model_draw_22 ?_
  refine zj_iload_n zd_Model_draw_23 rfl ?_
  refine zj_irem zd_Model_draw_24 d1 ?_
  exact zj_ireturn rfl zd_Model_draw_25 e
theorem zd_Model_keep_0 : decode zm_Model_keep.2.1 0 = .ok (.aload_n 0, 1) := by decide +kernel
theorem zd_Model_keep_1 : decode zm_Model_keep.2.1 1 = .ok (.iconst 0, 1) := by decide +kernel
theorem zd_Model_keep_2 : decode zm_Model_keep.2.1 2 = .ok (.putfield 91, 3) := by decide +kernel
theorem zd_Model_keep_5 : decode zm_Model_keep.2.1 5 = .ok (.iload_n 1, 1) := by decide +kernel
theorem zd_Model_keep_6 : decode zm_Model_keep.2.1 6 = .ok (.iconst 0, 1) := by decide +kernel
theorem zd_Model_keep_7 : decode zm_Model_keep.2.1 7 = .ok (.iconst 1, 1) := by decide +kernel
theorem zd_Model_keep_8 : decode zm_Model_keep.2.1 8 = .ok (.invokestatic 100, 3) := by decide +kernel
theorem zd_Model_keep_11 : decode zm_Model_keep.2.1 11 = .ok (.ifCond .ne 5, 3) := by decide +kernel
theorem zd_Model_keep_14 : decode zm_Model_keep.2.1 14 = .ok (.iconst 0, 1) := by decide +kernel
theorem zd_Model_keep_15 : decode zm_Model_keep.2.1 15 = .ok (.ireturn, 1) := by decide +kernel
theorem zd_Model_keep_16 : decode zm_Model_keep.2.1 16 = .ok (.aload_n 0, 1) := by decide +kernel
theorem zd_Model_keep_17 : decode zm_Model_keep.2.1 17 = .ok (.getfield 85, 3) := by decide +kernel
theorem zd_Model_keep_20 : decode zm_Model_keep.2.1 20 = .ok (.iload_n 1, 1) := by decide +kernel
theorem zd_Model_keep_21 : decode zm_Model_keep.2.1 21 = .ok (.iconst 1, 1) := by decide +kernel
theorem zd_Model_keep_22 : decode zm_Model_keep.2.1 22 = .ok (.bastore, 1) := by decide +kernel
theorem zd_Model_keep_23 : decode zm_Model_keep.2.1 23 = .ok (.aload_n 0, 1) := by decide +kernel
theorem zd_Model_keep_24 : decode zm_Model_keep.2.1 24 = .ok (.getfield 88, 3) := by decide +kernel
theorem zd_Model_keep_27 : decode zm_Model_keep.2.1 27 = .ok (.iload_n 1, 1) := by decide +kernel
theorem zd_Model_keep_28 : decode zm_Model_keep.2.1 28 = .ok (.aload_n 0, 1) := by decide +kernel
theorem zd_Model_keep_29 : decode zm_Model_keep.2.1 29 = .ok (.getfield 158, 3) := by decide +kernel
theorem zd_Model_keep_32 : decode zm_Model_keep.2.1 32 = .ok (.iastore, 1) := by decide +kernel
theorem zd_Model_keep_33 : decode zm_Model_keep.2.1 33 = .ok (.aload_n 0, 1) := by decide +kernel
theorem zd_Model_keep_34 : decode zm_Model_keep.2.1 34 = .ok (.getfield 9, 3) := by decide +kernel
theorem zd_Model_keep_37 : decode zm_Model_keep.2.1 37 = .ok (.aload_n 0, 1) := by decide +kernel
theorem zd_Model_keep_38 : decode zm_Model_keep.2.1 38 = .ok (.getfield 82, 3) := by decide +kernel
theorem zd_Model_keep_41 : decode zm_Model_keep.2.1 41 = .ok (.bipush 53, 2) := by decide +kernel
theorem zd_Model_keep_43 : decode zm_Model_keep.2.1 43 = .ok (.iload_n 1, 1) := by decide +kernel
theorem zd_Model_keep_44 : decode zm_Model_keep.2.1 44 = .ok (.imul, 1) := by decide +kernel
theorem zd_Model_keep_45 : decode zm_Model_keep.2.1 45 = .ok (.invokestatic 165, 3) := by decide +kernel
theorem zd_Model_keep_48 : decode zm_Model_keep.2.1 48 = .ok (.iconst 1, 1) := by decide +kernel
theorem zd_Model_keep_49 : decode zm_Model_keep.2.1 49 = .ok (.ireturn, 1) := by decide +kernel
theorem zb_Model_keep_0 {Γ : zG} {σ : zS} {x1 : Int32} {dc : Nat} {P : Int32 → zS → Prop}  (hm : z_Ci dc zm_Model_in [.inl (x1), .inl (nI 0), .inl (nI 1)] (z_pI σ 63 11 (nI 0)) P) (hdp : dc < z_dep Γ) (k : ∀ r σ1, P r σ1 → z_J Γ zm_Model_keep 11 [some (.inr (63)), some (.inl (x1))] [.inl (r)] σ1) : z_J Γ zm_Model_keep 0 [some (.inr (63)), some (.inl (x1))] [] σ := by
  refine zj_aload_n zd_Model_keep_0 rfl ?_
  refine zj_iconst (v := nI 0) zd_Model_keep_1 (by decide) ?_
  refine zj_putI rfl (by decide) rfl zu_Model zy_Model_ok zn_Model (k := 11) (by decide) rfl rfl zl_Model_91 rfl rfl zd_Model_keep_2 ?_
  refine zj_iload_n zd_Model_keep_5 rfl ?_
  refine zj_iconst (v := nI 0) zd_Model_keep_6 (by decide) ?_
  refine zj_iconst (v := nI 1) zd_Model_keep_7 (by decide) ?_
  exact zj_callSi (As := [.inl (x1), .inl (nI 0), .inl (nI 1)]) hm hdp zl_Model_100 zq_Model_in zd_Model_keep_8 rfl (Nat.le_of_ble_eq_true rfl) (fun r σ1 h => (k r σ1 h))
theorem zb_Model_keep_11 {Γ : zG} {σ : zS} {x1 y0 : Int32}  (kt : ¬ y0 = 0 → z_J Γ zm_Model_keep 16 [some (.inr (63)), some (.inl (x1))] [] σ) (kf : y0 = 0 → z_J Γ zm_Model_keep 14 [none, none] [] σ) : z_J Γ zm_Model_keep 11 [some (.inr (63)), some (.inl (x1))] [.inl (y0)] σ := by
  exact zj_if_ne zd_Model_keep_11 (by decide) (fun h => (kt h)) (fun h => (zj_weak (L' := [none, none]) trivial (kf h)))
theorem zb_Model_keep_14 {Γ : zG} {σ : zS}  (e : z_end Γ (some (nI 0)) σ) : z_J Γ zm_Model_keep 14 [none, none] [] σ := by
  refine zj_iconst (v := nI 0) zd_Model_keep_14 (by decide) ?_
  exact zj_zreturn rfl (Or.inl (by decide)) zd_Model_keep_15 e
theorem zb_Model_keep_16 {Γ : zG} {σ : zS} {x1 : Int32} {k1 k2 : Nat} {dc : Nat} {P : zS → Prop}  (b1 : z_ix x1 2 k1) (b2 : z_ix x1 2 k2) (hm : z_Cv dc zm_Model_lay_1 [.inr (64), .inr (85), .inl ((nI 53) * x1)] (z_pI (z_pI σ 86 k1 (vp_nar .boolean (nI 1))) 87 k2 ((z_pI σ 86 k1 (vp_nar .boolean (nI 1))).1 63 44)) P) (hdp : dc < z_dep Γ) (k : ∀ σ1, P σ1 → z_J Γ zm_Model_keep 48 [none, none] [] σ1) : z_J Γ zm_Model_keep 16 [some (.inr (63)), some (.inl (x1))] [] σ := by
  refine zj_aload_n zd_Model_keep_16 rfl ?_
  refine zj_getR rfl (by decide) rfl zu_Model (k := 46) (by decide) rfl zl_Model_85 zd_Model_keep_17 (o' := 86) rfl ?_
  refine zj_iload_n zd_Model_keep_20 rfl ?_
  refine zj_iconst (v := nI 1) zd_Model_keep_21 (by decide) ?_
  refine zj_zastore rfl (by decide) b1 zd_Model_keep_22 ?_
  refine zj_aload_n zd_Model_keep_23 rfl ?_
  refine zj_getR rfl (by decide) rfl zu_Model (k := 47) (by decide) rfl zl_Model_88 zd_Model_keep_24 (o' := 87) rfl ?_
  refine zj_iload_n zd_Model_keep_27 rfl ?_
  refine zj_aload_n zd_Model_keep_28 rfl ?_
  refine zj_getI rfl (by decide) rfl zu_Model (k := 44) (by decide) rfl zl_Model_158 zd_Model_keep_29 ?_
  refine zj_iastore rfl (by decide) b2 zd_Model_keep_32 ?_
  refine zj_aload_n zd_Model_keep_33 rfl ?_
  refine zj_getR rfl (by decide) rfl zu_Model (k := 0) (by decide) rfl zl_Model_9 zd_Model_keep_34 (o' := 64) rfl ?_
  refine zj_aload_n zd_Model_keep_37 rfl ?_
  refine zj_getR rfl (by decide) rfl zu_Model (k := 45) (by decide) rfl zl_Model_82 zd_Model_keep_38 (o' := 85) rfl ?_
  refine zj_bipush (v := nI 53) zd_Model_keep_41 (by decide) ?_
  refine zj_iload_n zd_Model_keep_43 rfl ?_
  refine zj_imul zd_Model_keep_44 ?_
  exact zj_callSv (As := [.inr (64), .inr (85), .inl ((nI 53) * x1)]) hm hdp zl_Model_165 zq_Model_lay_1 zd_Model_keep_45 rfl (Nat.le_of_ble_eq_true rfl) (fun σ1 h => (zj_weak (L' := [none, none]) trivial (k σ1 h)))
theorem zb_Model_keep_48 {Γ : zG} {σ : zS}  (e : z_end Γ (some (nI 1)) σ) : z_J Γ zm_Model_keep 48 [none, none] [] σ := by
  refine zj_iconst (v := nI 1) zd_Model_keep_48 (by decide) ?_
  exact zj_zreturn rfl (Or.inr (by decide)) zd_Model_keep_49 e
theorem zd_Model_again_0 : decode zm_Model_again.2.1 0 = .ok (.aload_n 0, 1) := by decide +kernel
theorem zd_Model_again_1 : decode zm_Model_again.2.1 1 = .ok (.iconst 0, 1) := by decide +kernel
theorem zd_Model_again_2 : decode zm_Model_again.2.1 2 = .ok (.putfield 91, 3) := by decide +kernel
theorem zd_Model_again_5 : decode zm_Model_again.2.1 5 = .ok (.iload_n 1, 1) := by decide +kernel
theorem zd_Model_again_6 : decode zm_Model_again.2.1 6 = .ok (.iconst 0, 1) := by decide +kernel
theorem zd_Model_again_7 : decode zm_Model_again.2.1 7 = .ok (.iconst 1, 1) := by decide +kernel
theorem zd_Model_again_8 : decode zm_Model_again.2.1 8 = .ok (.invokestatic 100, 3) := by decide +kernel
theorem zd_Model_again_11 : decode zm_Model_again.2.1 11 = .ok (.ifCond .eq 25, 3) := by decide +kernel
theorem zd_Model_again_14 : decode zm_Model_again.2.1 14 = .ok (.aload_n 0, 1) := by decide +kernel
theorem zd_Model_again_15 : decode zm_Model_again.2.1 15 = .ok (.getfield 85, 3) := by decide +kernel
theorem zd_Model_again_18 : decode zm_Model_again.2.1 18 = .ok (.iload_n 1, 1) := by decide +kernel
theorem zd_Model_again_19 : decode zm_Model_again.2.1 19 = .ok (.baload, 1) := by decide +kernel
theorem zd_Model_again_20 : decode zm_Model_again.2.1 20 = .ok (.ifCond .eq 16, 3) := by decide +kernel
theorem zd_Model_again_23 : decode zm_Model_again.2.1 23 = .ok (.aload_n 0, 1) := by decide +kernel
theorem zd_Model_again_24 : decode zm_Model_again.2.1 24 = .ok (.getfield 88, 3) := by decide +kernel
theorem zd_Model_again_27 : decode zm_Model_again.2.1 27 = .ok (.iload_n 1, 1) := by decide +kernel
theorem zd_Model_again_28 : decode zm_Model_again.2.1 28 = .ok (.iaload, 1) := by decide +kernel
theorem zd_Model_again_29 : decode zm_Model_again.2.1 29 = .ok (.aload_n 0, 1) := by decide +kernel
theorem zd_Model_again_30 : decode zm_Model_again.2.1 30 = .ok (.getfield 158, 3) := by decide +kernel
theorem zd_Model_again_33 : decode zm_Model_again.2.1 33 = .ok (.if_icmp .eq 5, 3) := by decide +kernel
theorem zd_Model_again_36 : decode zm_Model_again.2.1 36 = .ok (.iconst 0, 1) := by decide +kernel
theorem zd_Model_again_37 : decode zm_Model_again.2.1 37 = .ok (.ireturn, 1) := by decide +kernel
theorem zd_Model_again_38 : decode zm_Model_again.2.1 38 = .ok (.iconst 0, 1) := by decide +kernel
theorem zd_Model_again_39 : decode zm_Model_again.2.1 39 = .ok (.istore_n 2, 1) := by decide +kernel
theorem zd_Model_again_40 : decode zm_Model_again.2.1 40 = .ok (.iload_n 2, 1) := by decide +kernel
theorem zd_Model_again_41 : decode zm_Model_again.2.1 41 = .ok (.bipush 53, 2) := by decide +kernel
theorem zd_Model_again_43 : decode zm_Model_again.2.1 43 = .ok (.if_icmp .ge 26, 3) := by decide +kernel
theorem zd_Model_again_46 : decode zm_Model_again.2.1 46 = .ok (.aload_n 0, 1) := by decide +kernel
theorem zd_Model_again_47 : decode zm_Model_again.2.1 47 = .ok (.getfield 9, 3) := by decide +kernel
theorem zd_Model_again_50 : decode zm_Model_again.2.1 50 = .ok (.iload_n 2, 1) := by decide +kernel
theorem zd_Model_again_51 : decode zm_Model_again.2.1 51 = .ok (.aload_n 0, 1) := by decide +kernel
theorem zd_Model_again_52 : decode zm_Model_again.2.1 52 = .ok (.getfield 82, 3) := by decide +kernel
theorem zd_Model_again_55 : decode zm_Model_again.2.1 55 = .ok (.bipush 53, 2) := by decide +kernel
theorem zd_Model_again_57 : decode zm_Model_again.2.1 57 = .ok (.iload_n 1, 1) := by decide +kernel
theorem zd_Model_again_58 : decode zm_Model_again.2.1 58 = .ok (.imul, 1) := by decide +kernel
theorem zd_Model_again_59 : decode zm_Model_again.2.1 59 = .ok (.iload_n 2, 1) := by decide +kernel
theorem zd_Model_again_60 : decode zm_Model_again.2.1 60 = .ok (.iadd, 1) := by decide +kernel
theorem zd_Model_again_61 : decode zm_Model_again.2.1 61 = .ok (.iaload, 1) := by decide +kernel
theorem zd_Model_again_62 : decode zm_Model_again.2.1 62 = .ok (.iastore, 1) := by decide +kernel
theorem zd_Model_again_63 : decode zm_Model_again.2.1 63 = .ok (.iinc 2 1, 3) := by decide +kernel
theorem zd_Model_again_66 : decode zm_Model_again.2.1 66 = .ok (.goto (-26), 3) := by decide +kernel
theorem zd_Model_again_69 : decode zm_Model_again.2.1 69 = .ok (.aload_n 0, 1) := by decide +kernel
theorem zd_Model_again_70 : decode zm_Model_again.2.1 70 = .ok (.iconst 0, 1) := by decide +kernel
theorem zd_Model_again_71 : decode zm_Model_again.2.1 71 = .ok (.putfield 155, 3) := by decide +kernel
theorem zd_Model_again_74 : decode zm_Model_again.2.1 74 = .ok (.iconst 1, 1) := by decide +kernel
theorem zd_Model_again_75 : decode zm_Model_again.2.1 75 = .ok (.ireturn, 1) := by decide +kernel
theorem zb_Model_again_0 {Γ : zG} {σ : zS} {x1 : Int32} {dc : Nat} {P : Int32 → zS → Prop}  (hm : z_Ci dc zm_Model_in [.inl (x1), .inl (nI 0), .inl (nI 1)] (z_pI σ 63 11 (nI 0)) P) (hdp : dc < z_dep Γ) (k : ∀ r σ1, P r σ1 → z_J Γ zm_Model_again 11 [some (.inr (63)), some (.inl (x1)), none] [.inl (r)] σ1) : z_J Γ zm_Model_again 0 [some (.inr (63)), some (.inl (x1)), none] [] σ := by
  refine zj_aload_n zd_Model_again_0 rfl ?_
  refine zj_iconst (v := nI 0) zd_Model_again_1 (by decide) ?_
  refine zj_putI rfl (by decide) rfl zu_Model zy_Model_ok zn_Model (k := 11) (by decide) rfl rfl zl_Model_91 rfl rfl zd_Model_again_2 ?_
  refine zj_iload_n zd_Model_again_5 rfl ?_
  refine zj_iconst (v := nI 0) zd_Model_again_6 (by decide) ?_
  refine zj_iconst (v := nI 1) zd_Model_again_7 (by decide) ?_
  exact zj_callSi (As := [.inl (x1), .inl (nI 0), .inl (nI 1)]) hm hdp zl_Model_100 zq_Model_in zd_Model_again_8 rfl (Nat.le_of_ble_eq_true rfl) (fun r σ1 h => (k r σ1 h))
theorem zb_Model_again_11 {Γ : zG} {σ : zS} {x1 y0 : Int32}  (kt : y0 = 0 → z_J Γ zm_Model_again 36 [none, none, none] [] σ) (kf : ¬ y0 = 0 → z_J Γ zm_Model_again 14 [some (.inr (63)), some (.inl (x1)), none] [] σ) : z_J Γ zm_Model_again 11 [some (.inr (63)), some (.inl (x1)), none] [.inl (y0)] σ := by
  exact zj_if_eq zd_Model_again_11 (by decide) (fun h => (zj_weak (L' := [none, none, none]) trivial (kt h))) (fun h => (kf h))
theorem zb_Model_again_14 {Γ : zG} {σ : zS} {x1 : Int32} {k1 : Nat}  (b1 : z_ix x1 2 k1) (kt : (σ.1 86 k1) = 0 → z_J Γ zm_Model_again 36 [none, none, none] [] σ) (kf : ¬ (σ.1 86 k1) = 0 → z_J Γ zm_Model_again 23 [some (.inr (63)), some (.inl (x1)), none] [] σ) : z_J Γ zm_Model_again 14 [some (.inr (63)), some (.inl (x1)), none] [] σ := by
  refine zj_aload_n zd_Model_again_14 rfl ?_
  refine zj_getR rfl (by decide) rfl zu_Model (k := 46) (by decide) rfl zl_Model_85 zd_Model_again_15 (o' := 86) rfl ?_
  refine zj_iload_n zd_Model_again_18 rfl ?_
  refine zj_zaload rfl (by decide) b1 zd_Model_again_19 ?_
  exact zj_if_eq zd_Model_again_20 (by decide) (fun h => (zj_weak (L' := [none, none, none]) trivial (kt h))) (fun h => (kf h))
theorem zb_Model_again_23 {Γ : zG} {σ : zS} {x1 : Int32} {k1 : Nat}  (b1 : z_ix x1 2 k1) (kt : (σ.1 87 k1) = (σ.1 63 44) → z_J Γ zm_Model_again 38 [some (.inr (63)), some (.inl (x1)), none] [] σ) (kf : ¬ (σ.1 87 k1) = (σ.1 63 44) → z_J Γ zm_Model_again 36 [none, none, none] [] σ) : z_J Γ zm_Model_again 23 [some (.inr (63)), some (.inl (x1)), none] [] σ := by
  refine zj_aload_n zd_Model_again_23 rfl ?_
  refine zj_getR rfl (by decide) rfl zu_Model (k := 47) (by decide) rfl zl_Model_88 zd_Model_again_24 (o' := 87) rfl ?_
  refine zj_iload_n zd_Model_again_27 rfl ?_
  refine zj_iaload rfl (by decide) b1 zd_Model_again_28 ?_
  refine zj_aload_n zd_Model_again_29 rfl ?_
  refine zj_getI rfl (by decide) rfl zu_Model (k := 44) (by decide) rfl zl_Model_158 zd_Model_again_30 ?_
  exact zj_icmp_eq zd_Model_again_33 (by decide) (fun h => (kt h)) (fun h => (zj_weak (L' := [none, none, none]) trivial (kf h)))
theorem zb_Model_again_36 {Γ : zG} {σ : zS}  (e : z_end Γ (some (nI 0)) σ) : z_J Γ zm_Model_again 36 [none, none, none] [] σ := by
  refine zj_iconst (v := nI 0) zd_Model_again_36 (by decide) ?_
  exact zj_zreturn rfl (Or.inl (by decide)) zd_Model_again_37 e
theorem zb_Model_again_38 {Γ : zG} {σ : zS} {x1 : Int32}  (k : z_J Γ zm_Model_again 40 [some (.inr (63)), some (.inl (x1)), some (.inl (nI 0))] [] σ) : z_J Γ zm_Model_again 38 [some (.inr (63)), some (.inl (x1)), none] [] σ := by
  refine zj_iconst (v := nI 0) zd_Model_again_38 (by decide) ?_
  refine zj_istore_n (L' := [some (.inr (63)), some (.inl (x1)), some (.inl (nI 0))]) zd_Model_again_39 (by decide) rfl ?_
  exact k
theorem zb_Model_again_40 {Γ : zG} {σ : zS} {x1 x2 : Int32}  (kt : (nI 53) ≤ x2 → z_J Γ zm_Model_again 69 [some (.inr (63)), none, none] [] σ) (kf : ¬ (nI 53) ≤ x2 → z_J Γ zm_Model_again 46 [some (.inr (63)), some (.inl (x1)), some (.inl (x2))] [] σ) : z_J Γ zm_Model_again 40 [some (.inr (63)), some (.inl (x1)), some (.inl (x2))] [] σ := by
  refine zj_iload_n zd_Model_again_40 rfl ?_
  refine zj_bipush (v := nI 53) zd_Model_again_41 (by decide) ?_
  exact zj_icmp_ge zd_Model_again_43 (by decide) (fun h => (zj_weak (L' := [some (.inr (63)), none, none]) ⟨rfl, trivial⟩ (kt h))) (fun h => (kf h))
theorem zb_Model_again_46 {Γ : zG} {σ : zS} {x1 x2 : Int32} {k1 k2 : Nat}  (b1 : z_ix (((nI 53) * x1) + x2) 106 k1) (b2 : z_ix x2 53 k2) (k : z_J Γ zm_Model_again 40 [some (.inr (63)), some (.inl (x1)), some (.inl (x2 + nI 1))] [] (z_pI σ 64 k2 (σ.1 85 k1))) : z_J Γ zm_Model_again 46 [some (.inr (63)), some (.inl (x1)), some (.inl (x2))] [] σ := by
  refine zj_aload_n zd_Model_again_46 rfl ?_
  refine zj_getR rfl (by decide) rfl zu_Model (k := 0) (by decide) rfl zl_Model_9 zd_Model_again_47 (o' := 64) rfl ?_
  refine zj_iload_n zd_Model_again_50 rfl ?_
  refine zj_aload_n zd_Model_again_51 rfl ?_
  refine zj_getR rfl (by decide) rfl zu_Model (k := 45) (by decide) rfl zl_Model_82 zd_Model_again_52 (o' := 85) rfl ?_
  refine zj_bipush (v := nI 53) zd_Model_again_55 (by decide) ?_
  refine zj_iload_n zd_Model_again_57 rfl ?_
  refine zj_imul zd_Model_again_58 ?_
  refine zj_iload_n zd_Model_again_59 rfl ?_
  refine zj_iadd zd_Model_again_60 ?_
  refine zj_iaload rfl (by decide) b1 zd_Model_again_61 ?_
  refine zj_iastore rfl (by decide) b2 zd_Model_again_62 ?_
  refine zj_iinc (v := nI 1) (L' := [some (.inr (63)), some (.inl (x1)), some (.inl (x2 + nI 1))]) zd_Model_again_63 rfl (by decide) (by decide) rfl ?_
  exact zj_goto zd_Model_again_66 (by decide) k
theorem zb_Model_again_69 {Γ : zG} {σ : zS}  (e : z_end Γ (some (nI 1)) (z_pI σ 63 27 (nI 0))) : z_J Γ zm_Model_again 69 [some (.inr (63)), none, none] [] σ := by
  refine zj_aload_n zd_Model_again_69 rfl ?_
  refine zj_iconst (v := nI 0) zd_Model_again_70 (by decide) ?_
  refine zj_putI rfl (by decide) rfl zu_Model zy_Model_ok zn_Model (k := 27) (by decide) rfl rfl zl_Model_155 rfl rfl zd_Model_again_71 ?_
  refine zj_iconst (v := nI 1) zd_Model_again_74 (by decide) ?_
  exact zj_zreturn rfl (Or.inr (by decide)) zd_Model_again_75 e
theorem zd_Model_count_0 : decode zm_Model_count.2.1 0 = .ok (.aload_n 0, 1) := by decide +kernel
theorem zd_Model_count_1 : decode zm_Model_count.2.1 1 = .ok (.iconst 0, 1) := by decide +kernel
theorem zd_Model_count_2 : decode zm_Model_count.2.1 2 = .ok (.putfield 91, 3) := by decide +kernel
theorem zd_Model_count_5 : decode zm_Model_count.2.1 5 = .ok (.iload_n 1, 1) := by decide +kernel
theorem zd_Model_count_6 : decode zm_Model_count.2.1 6 = .ok (.tableswitch 130 0 12 #[66, 71, 76, 81, 89, 89, 89, 89, 101, 110, 115, 120, 125], 66) := by decide +kernel
theorem zd_Model_count_72 : decode zm_Model_count.2.1 72 = .ok (.aload_n 0, 1) := by decide +kernel
theorem zd_Model_count_73 : decode zm_Model_count.2.1 73 = .ok (.getfield 97, 3) := by decide +kernel
theorem zd_Model_count_76 : decode zm_Model_count.2.1 76 = .ok (.ireturn, 1) := by decide +kernel
theorem zd_Model_count_77 : decode zm_Model_count.2.1 77 = .ok (.aload_n 0, 1) := by decide +kernel
theorem zd_Model_count_78 : decode zm_Model_count.2.1 78 = .ok (.getfield 19, 3) := by decide +kernel
theorem zd_Model_count_81 : decode zm_Model_count.2.1 81 = .ok (.ireturn, 1) := by decide +kernel
theorem zd_Model_count_82 : decode zm_Model_count.2.1 82 = .ok (.aload_n 0, 1) := by decide +kernel
theorem zd_Model_count_83 : decode zm_Model_count.2.1 83 = .ok (.getfield 104, 3) := by decide +kernel
theorem zd_Model_count_86 : decode zm_Model_count.2.1 86 = .ok (.ireturn, 1) := by decide +kernel
theorem zd_Model_count_87 : decode zm_Model_count.2.1 87 = .ok (.aload_n 0, 1) := by decide +kernel
theorem zd_Model_count_88 : decode zm_Model_count.2.1 88 = .ok (.getfield 9, 3) := by decide +kernel
theorem zd_Model_count_91 : decode zm_Model_count.2.1 91 = .ok (.bipush 48, 2) := by decide +kernel
theorem zd_Model_count_93 : decode zm_Model_count.2.1 93 = .ok (.iaload, 1) := by decide +kernel
theorem zd_Model_count_94 : decode zm_Model_count.2.1 94 = .ok (.ireturn, 1) := by decide +kernel
theorem zd_Model_count_95 : decode zm_Model_count.2.1 95 = .ok (.aload_n 0, 1) := by decide +kernel
theorem zd_Model_count_96 : decode zm_Model_count.2.1 96 = .ok (.aload_n 0, 1) := by decide +kernel
theorem zd_Model_count_97 : decode zm_Model_count.2.1 97 = .ok (.getfield 9, 3) := by decide +kernel
theorem zd_Model_count_100 : decode zm_Model_count.2.1 100 = .ok (.iload_n 1, 1) := by decide +kernel
theorem zd_Model_count_101 : decode zm_Model_count.2.1 101 = .ok (.iconst 4, 1) := by decide +kernel
theorem zd_Model_count_102 : decode zm_Model_count.2.1 102 = .ok (.isub, 1) := by decide +kernel
theorem zd_Model_count_103 : decode zm_Model_count.2.1 103 = .ok (.invokevirtual 331, 3) := by decide +kernel
theorem zd_Model_count_106 : decode zm_Model_count.2.1 106 = .ok (.ireturn, 1) := by decide +kernel
theorem zd_Model_count_107 : decode zm_Model_count.2.1 107 = .ok (.aload_n 0, 1) := by decide +kernel
theorem zd_Model_count_108 : decode zm_Model_count.2.1 108 = .ok (.aload_n 0, 1) := by decide +kernel
theorem zd_Model_count_109 : decode zm_Model_count.2.1 109 = .ok (.getfield 9, 3) := by decide +kernel
theorem zd_Model_count_112 : decode zm_Model_count.2.1 112 = .ok (.invokevirtual 334, 3) := by decide +kernel
theorem zd_Model_count_115 : decode zm_Model_count.2.1 115 = .ok (.ireturn, 1) := by decide +kernel
theorem zd_Model_count_116 : decode zm_Model_count.2.1 116 = .ok (.aload_n 0, 1) := by decide +kernel
theorem zd_Model_count_117 : decode zm_Model_count.2.1 117 = .ok (.getfield 181, 3) := by decide +kernel
theorem zd_Model_count_120 : decode zm_Model_count.2.1 120 = .ok (.ireturn, 1) := by decide +kernel
theorem zd_Model_count_121 : decode zm_Model_count.2.1 121 = .ok (.aload_n 0, 1) := by decide +kernel
theorem zd_Model_count_122 : decode zm_Model_count.2.1 122 = .ok (.getfield 155, 3) := by decide +kernel
theorem zd_Model_count_125 : decode zm_Model_count.2.1 125 = .ok (.ireturn, 1) := by decide +kernel
theorem zd_Model_count_126 : decode zm_Model_count.2.1 126 = .ok (.aload_n 0, 1) := by decide +kernel
theorem zd_Model_count_127 : decode zm_Model_count.2.1 127 = .ok (.getfield 94, 3) := by decide +kernel
theorem zd_Model_count_130 : decode zm_Model_count.2.1 130 = .ok (.ireturn, 1) := by decide +kernel
theorem zd_Model_count_131 : decode zm_Model_count.2.1 131 = .ok (.aload_n 0, 1) := by decide +kernel
theorem zd_Model_count_132 : decode zm_Model_count.2.1 132 = .ok (.getfield 107, 3) := by decide +kernel
theorem zd_Model_count_135 : decode zm_Model_count.2.1 135 = .ok (.ireturn, 1) := by decide +kernel
theorem zd_Model_count_136 : decode zm_Model_count.2.1 136 = .ok (.iconst (-1), 1) := by decide +kernel
theorem zd_Model_count_137 : decode zm_Model_count.2.1 137 = .ok (.ireturn, 1) := by decide +kernel
theorem zb_Model_count_0 {Γ : zG} {σ : zS} {x1 : Int32}  (kd : x1.toInt < 0 ∨ 12 < x1.toInt → z_J Γ zm_Model_count 136 [none, none] [] (z_pI σ 63 11 (nI 0))) (k0_ : x1 = nI 0 → z_J Γ zm_Model_count 72 [some (.inr (63)), none] [] (z_pI σ 63 11 (nI 0))) (k1_ : x1 = nI 1 → z_J Γ zm_Model_count 77 [some (.inr (63)), none] [] (z_pI σ 63 11 (nI 0))) (k2_ : x1 = nI 2 → z_J Γ zm_Model_count 82 [some (.inr (63)), none] [] (z_pI σ 63 11 (nI 0))) (k3_ : x1 = nI 3 → z_J Γ zm_Model_count 87 [some (.inr (63)), none] [] (z_pI σ 63 11 (nI 0))) (k4_ : x1 = nI 4 → z_J Γ zm_Model_count 95 [some (.inr (63)), some (.inl (x1))] [] (z_pI σ 63 11 (nI 0))) (k5_ : x1 = nI 5 → z_J Γ zm_Model_count 95 [some (.inr (63)), some (.inl (x1))] [] (z_pI σ 63 11 (nI 0))) (k6_ : x1 = nI 6 → z_J Γ zm_Model_count 95 [some (.inr (63)), some (.inl (x1))] [] (z_pI σ 63 11 (nI 0))) (k7_ : x1 = nI 7 → z_J Γ zm_Model_count 95 [some (.inr (63)), some (.inl (x1))] [] (z_pI σ 63 11 (nI 0))) (k8_ : x1 = nI 8 → z_J Γ zm_Model_count 107 [some (.inr (63)), none] [] (z_pI σ 63 11 (nI 0))) (k9_ : x1 = nI 9 → z_J Γ zm_Model_count 116 [some (.inr (63)), none] [] (z_pI σ 63 11 (nI 0))) (k10_ : x1 = nI 10 → z_J Γ zm_Model_count 121 [some (.inr (63)), none] [] (z_pI σ 63 11 (nI 0))) (k11_ : x1 = nI 11 → z_J Γ zm_Model_count 126 [some (.inr (63)), none] [] (z_pI σ 63 11 (nI 0))) (k12_ : x1 = nI 12 → z_J Γ zm_Model_count 131 [some (.inr (63)), none] [] (z_pI σ 63 11 (nI 0))) : z_J Γ zm_Model_count 0 [some (.inr (63)), some (.inl (x1))] [] σ := by
  refine zj_aload_n zd_Model_count_0 rfl ?_
  refine zj_iconst (v := nI 0) zd_Model_count_1 (by decide) ?_
  refine zj_putI rfl (by decide) rfl zu_Model zy_Model_ok zn_Model (k := 11) (by decide) rfl rfl zl_Model_91 rfl rfl zd_Model_count_2 ?_
  refine zj_iload_n zd_Model_count_5 rfl ?_
  rcases (show (x1.toInt < 0 ∨ 12 < x1.toInt) ∨ x1.toInt = 0 ∨ x1.toInt = 1 ∨ x1.toInt = 2 ∨ x1.toInt = 3 ∨ x1.toInt = 4 ∨ x1.toInt = 5 ∨ x1.toInt = 6 ∨ x1.toInt = 7 ∨ x1.toInt = 8 ∨ x1.toInt = 9 ∨ x1.toInt = 10 ∨ x1.toInt = 11 ∨ x1.toInt = 12 by omega) with h | h | h | h | h | h | h | h | h | h | h | h | h | h
  · exact zj_tblOut zd_Model_count_6 h (by decide) (zj_weak (L' := [none, none]) trivial (kd h))
  · exact zj_tblIn zd_Model_count_6 (by omega) (by omega) (by rw [h]; rfl) (by decide) (zj_weak (L' := [some (.inr (63)), none]) ⟨rfl, trivial⟩ (k0_ (Int32.toInt_inj.mp (by rw [h]; decide))))
  · exact zj_tblIn zd_Model_count_6 (by omega) (by omega) (by rw [h]; rfl) (by decide) (zj_weak (L' := [some (.inr (63)), none]) ⟨rfl, trivial⟩ (k1_ (Int32.toInt_inj.mp (by rw [h]; decide))))
  · exact zj_tblIn zd_Model_count_6 (by omega) (by omega) (by rw [h]; rfl) (by decide) (zj_weak (L' := [some (.inr (63)), none]) ⟨rfl, trivial⟩ (k2_ (Int32.toInt_inj.mp (by rw [h]; decide))))
  · exact zj_tblIn zd_Model_count_6 (by omega) (by omega) (by rw [h]; rfl) (by decide) (zj_weak (L' := [some (.inr (63)), none]) ⟨rfl, trivial⟩ (k3_ (Int32.toInt_inj.mp (by rw [h]; decide))))
  · exact zj_tblIn zd_Model_count_6 (by omega) (by omega) (by rw [h]; rfl) (by decide) (k4_ (Int32.toInt_inj.mp (by rw [h]; decide)))
  · exact zj_tblIn zd_Model_count_6 (by omega) (by omega) (by rw [h]; rfl) (by decide) (k5_ (Int32.toInt_inj.mp (by rw [h]; decide)))
  · exact zj_tblIn zd_Model_count_6 (by omega) (by omega) (by rw [h]; rfl) (by decide) (k6_ (Int32.toInt_inj.mp (by rw [h]; decide)))
  · exact zj_tblIn zd_Model_count_6 (by omega) (by omega) (by rw [h]; rfl) (by decide) (k7_ (Int32.toInt_inj.mp (by rw [h]; decide)))
  · exact zj_tblIn zd_Model_count_6 (by omega) (by omega) (by rw [h]; rfl) (by decide) (zj_weak (L' := [some (.inr (63)), none]) ⟨rfl, trivial⟩ (k8_ (Int32.toInt_inj.mp (by rw [h]; decide))))
  · exact zj_tblIn zd_Model_count_6 (by omega) (by omega) (by rw [h]; rfl) (by decide) (zj_weak (L' := [some (.inr (63)), none]) ⟨rfl, trivial⟩ (k9_ (Int32.toInt_inj.mp (by rw [h]; decide))))
  · exact zj_tblIn zd_Model_count_6 (by omega) (by omega) (by rw [h]; rfl) (by decide) (zj_weak (L' := [some (.inr (63)), none]) ⟨rfl, trivial⟩ (k10_ (Int32.toInt_inj.mp (by rw [h]; decide))))
  · exact zj_tblIn zd_Model_count_6 (by omega) (by omega) (by rw [h]; rfl) (by decide) (zj_weak (L' := [some (.inr (63)), none]) ⟨rfl, trivial⟩ (k11_ (Int32.toInt_inj.mp (by rw [h]; decide))))
  · exact zj_tblIn zd_Model_count_6 (by omega) (by omega) (by rw [h]; rfl) (by decide) (zj_weak (L' := [some (.inr (63)), none]) ⟨rfl, trivial⟩ (k12_ (Int32.toInt_inj.mp (by rw [h]; decide))))
theorem zb_Model_count_72 {Γ : zG} {σ : zS}  (e : z_end Γ (some (σ.1 63 1)) σ) : z_J Γ zm_Model_count 72 [some (.inr (63)), none] [] σ := by
  refine zj_aload_n zd_Model_count_72 rfl ?_
  refine zj_getI rfl (by decide) rfl zu_Model (k := 1) (by decide) rfl zl_Model_97 zd_Model_count_73 ?_
  exact zj_ireturn rfl zd_Model_count_76 e
theorem zb_Model_count_77 {Γ : zG} {σ : zS}  (e : z_end Γ (some (σ.1 63 4)) σ) : z_J Γ zm_Model_count 77 [some (.inr (63)), none] [] σ := by
  refine zj_aload_n zd_Model_count_77 rfl ?_
  refine zj_getI rfl (by decide) rfl zu_Model (k := 4) (by decide) rfl zl_Model_19 zd_Model_count_78 ?_
  exact zj_ireturn rfl zd_Model_count_81 e
theorem zb_Model_count_82 {Γ : zG} {σ : zS}  (e : z_end Γ (some (σ.1 63 5)) σ) : z_J Γ zm_Model_count 82 [some (.inr (63)), none] [] σ := by
  refine zj_aload_n zd_Model_count_82 rfl ?_
  refine zj_getI rfl (by decide) rfl zu_Model (k := 5) (by decide) rfl zl_Model_104 zd_Model_count_83 ?_
  exact zj_ireturn rfl zd_Model_count_86 e
theorem zb_Model_count_87 {Γ : zG} {σ : zS} {k1 : Nat}  (b1 : z_ix (nI 48) 53 k1) (e : z_end Γ (some (σ.1 64 k1)) σ) : z_J Γ zm_Model_count 87 [some (.inr (63)), none] [] σ := by
  refine zj_aload_n zd_Model_count_87 rfl ?_
  refine zj_getR rfl (by decide) rfl zu_Model (k := 0) (by decide) rfl zl_Model_9 zd_Model_count_88 (o' := 64) rfl ?_
  refine zj_bipush (v := nI 48) zd_Model_count_91 (by decide) ?_
  refine zj_iaload rfl (by decide) b1 zd_Model_count_93 ?_
  exact zj_ireturn rfl zd_Model_count_94 e
theorem zb_Model_count_95 {Γ : zG} {σ : zS} {x1 : Int32} {dc : Nat} {P : Int32 → zS → Prop}  (hm : z_Ci dc zm_Model_whereBits [.inr (63), .inr (64), .inl (x1 - (nI 4))] σ P) (hdp : dc < z_dep Γ) (k : ∀ r σ1, P r σ1 → z_J Γ zm_Model_count 106 [none, none] [.inl (r)] σ1) : z_J Γ zm_Model_count 95 [some (.inr (63)), some (.inl (x1))] [] σ := by
  refine zj_aload_n zd_Model_count_95 rfl ?_
  refine zj_aload_n zd_Model_count_96 rfl ?_
  refine zj_getR rfl (by decide) rfl zu_Model (k := 0) (by decide) rfl zl_Model_9 zd_Model_count_97 (o' := 64) rfl ?_
  refine zj_iload_n zd_Model_count_100 rfl ?_
  refine zj_iconst (v := nI 4) zd_Model_count_101 (by decide) ?_
  refine zj_isub zd_Model_count_102 ?_
  exact zj_callVi (As := [.inr (64), .inl (x1 - (nI 4))]) hm hdp rfl (by decide) rfl zl_Model_331 zq_Model_whereBits zd_Model_count_103 rfl (Nat.le_of_ble_eq_true rfl) (fun r σ1 h => (zj_weak (L' := [none, none]) trivial (k r σ1 h)))
theorem zb_Model_count_106 {Γ : zG} {σ : zS} {y0 : Int32}  (e : z_end Γ (some (y0)) σ) : z_J Γ zm_Model_count 106 [none, none] [.inl (y0)] σ := by
  exact zj_ireturn rfl zd_Model_count_106 e
theorem zb_Model_count_107 {Γ : zG} {σ : zS} {dc : Nat} {P : Int32 → zS → Prop}  (hm : z_Ci dc zm_Model_leastHeight [.inr (63), .inr (64)] σ P) (hdp : dc < z_dep Γ) (k : ∀ r σ1, P r σ1 → z_J Γ zm_Model_count 115 [none, none] [.inl (r)] σ1) : z_J Γ zm_Model_count 107 [some (.inr (63)), none] [] σ := by
  refine zj_aload_n zd_Model_count_107 rfl ?_
  refine zj_aload_n zd_Model_count_108 rfl ?_
  refine zj_getR rfl (by decide) rfl zu_Model (k := 0) (by decide) rfl zl_Model_9 zd_Model_count_109 (o' := 64) rfl ?_
  exact zj_callVi (As := [.inr (64)]) hm hdp rfl (by decide) rfl zl_Model_334 zq_Model_leastHeight zd_Model_count_112 rfl (Nat.le_of_ble_eq_true rfl) (fun r σ1 h => (zj_weak (L' := [none, none]) trivial (k r σ1 h)))
theorem zb_Model_count_115 {Γ : zG} {σ : zS} {y0 : Int32}  (e : z_end Γ (some (y0)) σ) : z_J Γ zm_Model_count 115 [none, none] [.inl (y0)] σ := by
  exact zj_ireturn rfl zd_Model_count_115 e
theorem zb_Model_count_116 {Γ : zG} {σ : zS}  (e : z_end Γ (some (σ.1 63 41)) σ) : z_J Γ zm_Model_count 116 [some (.inr (63)), none] [] σ := by
  refine zj_aload_n zd_Model_count_116 rfl ?_
  refine zj_getI rfl (by decide) rfl zu_Model (k := 41) (by decide) rfl zl_Model_181 zd_Model_count_117 ?_
  exact zj_ireturn rfl zd_Model_count_120 e
theorem zb_Model_count_121 {Γ : zG} {σ : zS}  (e : z_end Γ (some (σ.1 63 27)) σ) : z_J Γ zm_Model_count 121 [some (.inr (63)), none] [] σ := by
  refine zj_aload_n zd_Model_count_121 rfl ?_
  refine zj_getI rfl (by decide) rfl zu_Model (k := 27) (by decide) rfl zl_Model_155 zd_Model_count_122 ?_
  exact zj_ireturn rfl zd_Model_count_125 e
theorem zb_Model_count_126 {Γ : zG} {σ : zS}  (e : z_end Γ (some (σ.1 63 10)) σ) : z_J Γ zm_Model_count 126 [some (.inr (63)), none] [] σ := by
  refine zj_aload_n zd_Model_count_126 rfl ?_
  refine zj_getI rfl (by decide) rfl zu_Model (k := 10) (by decide) rfl zl_Model_94 zd_Model_count_127 ?_
  exact zj_ireturn rfl zd_Model_count_130 e
theorem zb_Model_count_131 {Γ : zG} {σ : zS}  (e : z_end Γ (some (σ.1 63 8)) σ) : z_J Γ zm_Model_count 131 [some (.inr (63)), none] [] σ := by
  refine zj_aload_n zd_Model_count_131 rfl ?_
  refine zj_getI rfl (by decide) rfl zu_Model (k := 8) (by decide) rfl zl_Model_107 zd_Model_count_132 ?_
  exact zj_ireturn rfl zd_Model_count_135 e
theorem zb_Model_count_136 {Γ : zG} {σ : zS}  (e : z_end Γ (some ((-1))) σ) : z_J Γ zm_Model_count 136 [none, none] [] σ := by
  refine zj_iconst (v := (-1)) zd_Model_count_136 (by decide) ?_
  exact zj_ireturn rfl zd_Model_count_137 e
theorem zd_Model_row_0 : decode zm_Model_row.2.1 0 = .ok (.aload_n 0, 1) := by decide +kernel
theorem zd_Model_row_1 : decode zm_Model_row.2.1 1 = .ok (.iconst 0, 1) := by decide +kernel
theorem zd_Model_row_2 : decode zm_Model_row.2.1 2 = .ok (.putfield 91, 3) := by decide +kernel
theorem zd_Model_row_5 : decode zm_Model_row.2.1 5 = .ok (.iload_n 1, 1) := by decide +kernel
theorem zd_Model_row_6 : decode zm_Model_row.2.1 6 = .ok (.iconst 0, 1) := by decide +kernel
theorem zd_Model_row_7 : decode zm_Model_row.2.1 7 = .ok (.aload_n 0, 1) := by decide +kernel
theorem zd_Model_row_8 : decode zm_Model_row.2.1 8 = .ok (.getfield 94, 3) := by decide +kernel
theorem zd_Model_row_11 : decode zm_Model_row.2.1 11 = .ok (.iconst 1, 1) := by decide +kernel
theorem zd_Model_row_12 : decode zm_Model_row.2.1 12 = .ok (.isub, 1) := by decide +kernel
theorem zd_Model_row_13 : decode zm_Model_row.2.1 13 = .ok (.invokestatic 100, 3) := by decide +kernel
theorem zd_Model_row_16 : decode zm_Model_row.2.1 16 = .ok (.ifCond .eq 12, 3) := by decide +kernel
theorem zd_Model_row_19 : decode zm_Model_row.2.1 19 = .ok (.aload_n 0, 1) := by decide +kernel
theorem zd_Model_row_20 : decode zm_Model_row.2.1 20 = .ok (.getfield 30, 3) := by decide +kernel
theorem zd_Model_row_23 : decode zm_Model_row.2.1 23 = .ok (.iload_n 1, 1) := by decide +kernel
theorem zd_Model_row_24 : decode zm_Model_row.2.1 24 = .ok (.iaload, 1) := by decide +kernel
theorem zd_Model_row_25 : decode zm_Model_row.2.1 25 = .ok (.goto 7, 3) := by decide +kernel
theorem zd_Model_row_28 : decode zm_Model_row.2.1 28 = .ok (.aload_n 0, 1) := by decide +kernel
theorem zd_Model_row_29 : decode zm_Model_row.2.1 29 = .ok (.invokevirtual 258, 3) := by decide +kernel
theorem zd_Model_row_32 : decode zm_Model_row.2.1 32 = .ok (.ireturn, 1) := by decide +kernel
theorem zb_Model_row_0 {Γ : zG} {σ : zS} {x1 : Int32} {dc : Nat} {P : Int32 → zS → Prop}  (hm : z_Ci dc zm_Model_in [.inl (x1), .inl (nI 0), .inl (((z_pI σ 63 11 (nI 0)).1 63 10) - (nI 1))] (z_pI σ 63 11 (nI 0)) P) (hdp : dc < z_dep Γ) (k : ∀ r σ1, P r σ1 → z_J Γ zm_Model_row 16 [some (.inr (63)), some (.inl (x1))] [.inl (r)] σ1) : z_J Γ zm_Model_row 0 [some (.inr (63)), some (.inl (x1))] [] σ := by
  refine zj_aload_n zd_Model_row_0 rfl ?_
  refine zj_iconst (v := nI 0) zd_Model_row_1 (by decide) ?_
  refine zj_putI rfl (by decide) rfl zu_Model zy_Model_ok zn_Model (k := 11) (by decide) rfl rfl zl_Model_91 rfl rfl zd_Model_row_2 ?_
  refine zj_iload_n zd_Model_row_5 rfl ?_
  refine zj_iconst (v := nI 0) zd_Model_row_6 (by decide) ?_
  refine zj_aload_n zd_Model_row_7 rfl ?_
  refine zj_getI rfl (by decide) rfl zu_Model (k := 10) (by decide) rfl zl_Model_94 zd_Model_row_8 ?_
  refine zj_iconst (v := nI 1) zd_Model_row_11 (by decide) ?_
  refine zj_isub zd_Model_row_12 ?_
  exact zj_callSi (As := [.inl (x1), .inl (nI 0), .inl (((z_pI σ 63 11 (nI 0)).1 63 10) - (nI 1))]) hm hdp zl_Model_100 zq_Model_in zd_Model_row_13 rfl (Nat.le_of_ble_eq_true rfl) (fun r σ1 h => (k r σ1 h))
theorem zb_Model_row_16 {Γ : zG} {σ : zS} {x1 y0 : Int32}  (kt : y0 = 0 → z_J Γ zm_Model_row 28 [some (.inr (63)), none] [] σ) (kf : ¬ y0 = 0 → z_J Γ zm_Model_row 19 [some (.inr (63)), some (.inl (x1))] [] σ) : z_J Γ zm_Model_row 16 [some (.inr (63)), some (.inl (x1))] [.inl (y0)] σ := by
  exact zj_if_eq zd_Model_row_16 (by decide) (fun h => (zj_weak (L' := [some (.inr (63)), none]) ⟨rfl, trivial⟩ (kt h))) (fun h => (kf h))
theorem zb_Model_row_19 {Γ : zG} {σ : zS} {x1 : Int32} {k1 : Nat}  (b1 : z_ix x1 20 k1) (k : z_J Γ zm_Model_row 32 [none, none] [.inl (σ.1 69 k1)] σ) : z_J Γ zm_Model_row 19 [some (.inr (63)), some (.inl (x1))] [] σ := by
  refine zj_aload_n zd_Model_row_19 rfl ?_
  refine zj_getR rfl (by decide) rfl zu_Model (k := 9) (by decide) rfl zl_Model_30 zd_Model_row_20 (o' := 69) rfl ?_
  refine zj_iload_n zd_Model_row_23 rfl ?_
  refine zj_iaload rfl (by decide) b1 zd_Model_row_24 ?_
  exact zj_goto zd_Model_row_25 (by decide) (zj_weak (L' := [none, none]) trivial k)
theorem zb_Model_row_28 {Γ : zG} {σ : zS} {dc : Nat} {P : Int32 → zS → Prop}  (hm : z_Ci dc zm_Model_lost [.inr (63)] σ P) (hdp : dc < z_dep Γ) (k : ∀ r σ1, P r σ1 → z_J Γ zm_Model_row 32 [none, none] [.inl (r)] σ1) : z_J Γ zm_Model_row 28 [some (.inr (63)), none] [] σ := by
  refine zj_aload_n zd_Model_row_28 rfl ?_
  exact zj_callVi (As := []) hm hdp rfl (by decide) rfl zl_Model_258 zq_Model_lost zd_Model_row_29 rfl (Nat.le_of_ble_eq_true rfl) (fun r σ1 h => (zj_weak (L' := [none, none]) trivial (k r σ1 h)))
theorem zb_Model_row_32 {Γ : zG} {σ : zS} {y0 : Int32}  (e : z_end Γ (some (y0)) σ) : z_J Γ zm_Model_row 32 [none, none] [.inl (y0)] σ := by
  exact zj_ireturn rfl zd_Model_row_32 e
