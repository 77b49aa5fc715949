theorem zd_Model_lend_0 : decode zm_Model_lend.2.1 0 = .ok (.aload_n 0, 1) := by decide +kernel
theorem zd_Model_lend_1 : decode zm_Model_lend.2.1 1 = .ok (.iconst 0, 1) := by decide +kernel
theorem zd_Model_lend_2 : decode zm_Model_lend.2.1 2 = .ok (.putfield 91, 3) := by decide +kernel
theorem zd_Model_lend_5 : decode zm_Model_lend.2.1 5 = .ok (.aload_n 0, 1) := by decide +kernel
theorem zd_Model_lend_6 : decode zm_Model_lend.2.1 6 = .ok (.iload_n 1, 1) := by decide +kernel
theorem zd_Model_lend_7 : decode zm_Model_lend.2.1 7 = .ok (.iload_n 2, 1) := by decide +kernel
theorem zd_Model_lend_8 : decode zm_Model_lend.2.1 8 = .ok (.iload_n 3, 1) := by decide +kernel
theorem zd_Model_lend_9 : decode zm_Model_lend.2.1 9 = .ok (.invokevirtual 296, 3) := by decide +kernel
theorem zd_Model_lend_12 : decode zm_Model_lend.2.1 12 = .ok (.istore 4, 2) := by decide +kernel
theorem zd_Model_lend_14 : decode zm_Model_lend.2.1 14 = .ok (.iload 4, 2) := by decide +kernel
theorem zd_Model_lend_16 : decode zm_Model_lend.2.1 16 = .ok (.ifCond .ge 6, 3) := by decide +kernel
theorem zd_Model_lend_19 : decode zm_Model_lend.2.1 19 = .ok (.iload 4, 2) := by decide +kernel
theorem zd_Model_lend_21 : decode zm_Model_lend.2.1 21 = .ok (.ireturn, 1) := by decide +kernel
theorem zd_Model_lend_22 : decode zm_Model_lend.2.1 22 = .ok (.aload_n 0, 1) := by decide +kernel
theorem zd_Model_lend_23 : decode zm_Model_lend.2.1 23 = .ok (.aload_n 0, 1) := by decide +kernel
theorem zd_Model_lend_24 : decode zm_Model_lend.2.1 24 = .ok (.getfield 9, 3) := by decide +kernel
theorem zd_Model_lend_27 : decode zm_Model_lend.2.1 27 = .ok (.invokevirtual 284, 3) := by decide +kernel
theorem zd_Model_lend_30 : decode zm_Model_lend.2.1 30 = .ok (.aload_n 0, 1) := by decide +kernel
theorem zd_Model_lend_31 : decode zm_Model_lend.2.1 31 = .ok (.iload_n 1, 1) := by decide +kernel
theorem zd_Model_lend_32 : decode zm_Model_lend.2.1 32 = .ok (.iload_n 2, 1) := by decide +kernel
theorem zd_Model_lend_33 : decode zm_Model_lend.2.1 33 = .ok (.iload_n 3, 1) := by decide +kernel
theorem zd_Model_lend_34 : decode zm_Model_lend.2.1 34 = .ok (.invokevirtual 300, 3) := by decide +kernel
theorem zd_Model_lend_37 : decode zm_Model_lend.2.1 37 = .ok (.ireturn, 1) := by decide +kernel
theorem zb_Model_lend_0 {Γ : zG} {σ : zS} {x1 x2 x3 : Int32} {dc : Nat} {P : Int32 → zS → Prop}  (hm : z_Ci dc zm_Model_refusesLend [.inr (63), .inl (x1), .inl (x2), .inl (x3)] (z_pI σ 63 11 (nI 0)) P) (hdp : dc < z_dep Γ) (k : ∀ r σ1, P r σ1 → z_J Γ zm_Model_lend 12 [some (.inr (63)), some (.inl (x1)), some (.inl (x2)), some (.inl (x3)), none] [.inl (r)] σ1) : z_J Γ zm_Model_lend 0 [some (.inr (63)), some (.inl (x1)), some (.inl (x2)), some (.inl (x3)), none] [] σ := by
  refine zj_aload_n zd_Model_lend_0 rfl ?_
  refine zj_iconst (v := nI 0) zd_Model_lend_1 (by decide) ?_
  refine zj_putI rfl (by decide) rfl zu_Model zy_Model_ok zn_Model (k := 11) (by decide) rfl rfl zl_Model_91 rfl rfl zd_Model_lend_2 ?_
  refine zj_aload_n zd_Model_lend_5 rfl ?_
  refine zj_iload_n zd_Model_lend_6 rfl ?_
  refine zj_iload_n zd_Model_lend_7 rfl ?_
  refine zj_iload_n zd_Model_lend_8 rfl ?_
  exact zj_callVi (As := [.inl (x1), .inl (x2), .inl (x3)]) hm hdp rfl (by decide) rfl zl_Model_296 zq_Model_refusesLend zd_Model_lend_9 rfl (Nat.le_of_ble_eq_true rfl) (fun r σ1 h => (k r σ1 h))
theorem zb_Model_lend_12 {Γ : zG} {σ : zS} {x1 x2 x3 y0 : Int32}  (kt : 0 ≤ y0 → z_J Γ zm_Model_lend 22 [some (.inr (63)), some (.inl (x1)), some (.inl (x2)), some (.inl (x3)), none] [] σ) (kf : ¬ 0 ≤ y0 → z_J Γ zm_Model_lend 19 [none, none, none, none, some (.inl (y0))] [] σ) : z_J Γ zm_Model_lend 12 [some (.inr (63)), some (.inl (x1)), some (.inl (x2)), some (.inl (x3)), none] [.inl (y0)] σ := by
  refine zj_istore (L' := [some (.inr (63)), some (.inl (x1)), some (.inl (x2)), some (.inl (x3)), some (.inl (y0))]) zd_Model_lend_12 (by decide) rfl ?_
  refine zj_iload zd_Model_lend_14 rfl ?_
  exact zj_if_ge zd_Model_lend_16 (by decide) (fun h => (zj_weak (L' := [some (.inr (63)), some (.inl (x1)), some (.inl (x2)), some (.inl (x3)), none]) ⟨rfl, ⟨rfl, ⟨rfl, ⟨rfl, trivial⟩⟩⟩⟩ (kt h))) (fun h => (zj_weak (L' := [none, none, none, none, some (.inl (y0))]) ⟨rfl, trivial⟩ (kf h)))
theorem zb_Model_lend_19 {Γ : zG} {σ : zS} {x4 : Int32}  (e : z_end Γ (some (x4)) σ) : z_J Γ zm_Model_lend 19 [none, none, none, none, some (.inl (x4))] [] σ := by
  refine zj_iload zd_Model_lend_19 rfl ?_
  exact zj_ireturn rfl zd_Model_lend_21 e
theorem zb_Model_lend_22 {Γ : zG} {σ : zS} {x1 x2 x3 : Int32} {dc : Nat} {P : zS → Prop}  (hm : z_Cv dc zm_Model_remember [.inr (63), .inr (64)] σ P) (hdp : dc < z_dep Γ) (k : ∀ σ1, P σ1 → z_J Γ zm_Model_lend 30 [some (.inr (63)), some (.inl (x1)), some (.inl (x2)), some (.inl (x3)), none] [] σ1) : z_J Γ zm_Model_lend 22 [some (.inr (63)), some (.inl (x1)), some (.inl (x2)), some (.inl (x3)), none] [] σ := by
  refine zj_aload_n zd_Model_lend_22 rfl ?_
  refine zj_aload_n zd_Model_lend_23 rfl ?_
  refine zj_getR rfl (by decide) rfl zu_Model (k := 0) (by decide) rfl zl_Model_9 zd_Model_lend_24 (o' := 64) rfl ?_
  exact zj_callVv (As := [.inr (64)]) hm hdp rfl (by decide) rfl zl_Model_284 zq_Model_remember zd_Model_lend_27 rfl (Nat.le_of_ble_eq_true rfl) (fun σ1 h => (k σ1 h))
theorem zb_Model_lend_30 {Γ : zG} {σ : zS} {x1 x2 x3 : Int32} {dc : Nat} {P : Int32 → zS → Prop}  (hm : z_Ci dc zm_Model_goLend [.inr (63), .inl (x1), .inl (x2), .inl (x3)] σ P) (hdp : dc < z_dep Γ) (k : ∀ r σ1, P r σ1 → z_J Γ zm_Model_lend 37 [none, none, none, none, none] [.inl (r)] σ1) : z_J Γ zm_Model_lend 30 [some (.inr (63)), some (.inl (x1)), some (.inl (x2)), some (.inl (x3)), none] [] σ := by
  refine zj_aload_n zd_Model_lend_30 rfl ?_
  refine zj_iload_n zd_Model_lend_31 rfl ?_
  refine zj_iload_n zd_Model_lend_32 rfl ?_
  refine zj_iload_n zd_Model_lend_33 rfl ?_
  exact zj_callVi (As := [.inl (x1), .inl (x2), .inl (x3)]) hm hdp rfl (by decide) rfl zl_Model_300 zq_Model_goLend zd_Model_lend_34 rfl (Nat.le_of_ble_eq_true rfl) (fun r σ1 h => (zj_weak (L' := [none, none, none, none, none]) trivial (k r σ1 h)))
theorem zb_Model_lend_37 {Γ : zG} {σ : zS} {y0 : Int32}  (e : z_end Γ (some (y0)) σ) : z_J Γ zm_Model_lend 37 [none, none, none, none, none] [.inl (y0)] σ := by
  exact zj_ireturn rfl zd_Model_lend_37 e
theorem zd_Model_refusesLend_0 : decode zm_Model_refusesLend.2.1 0 = .ok (.aload_n 0, 1) := by decide +kernel
theorem zd_Model_refusesLend_1 : decode zm_Model_refusesLend.2.1 1 = .ok (.iload_n 1, 1) := by decide +kernel
theorem zd_Model_refusesLend_2 : decode zm_Model_refusesLend.2.1 2 = .ok (.invokevirtual 184, 3) := by decide +kernel
theorem zd_Model_refusesLend_5 : decode zm_Model_refusesLend.2.1 5 = .ok (.ifCond .eq 21, 3) := by decide +kernel
theorem zd_Model_refusesLend_8 : decode zm_Model_refusesLend.2.1 8 = .ok (.aload_n 0, 1) := by decide +kernel
theorem zd_Model_refusesLend_9 : decode zm_Model_refusesLend.2.1 9 = .ok (.iload_n 2, 1) := by decide +kernel
theorem zd_Model_refusesLend_10 : decode zm_Model_refusesLend.2.1 10 = .ok (.invokevirtual 272, 3) := by decide +kernel
theorem zd_Model_refusesLend_13 : decode zm_Model_refusesLend.2.1 13 = .ok (.ifCond .eq 13, 3) := by decide +kernel
theorem zd_Model_refusesLend_16 : decode zm_Model_refusesLend.2.1 16 = .ok (.iload_n 3, 1) := by decide +kernel
theorem zd_Model_refusesLend_17 : decode zm_Model_refusesLend.2.1 17 = .ok (.iconst 1, 1) := by decide +kernel
theorem zd_Model_refusesLend_18 : decode zm_Model_refusesLend.2.1 18 = .ok (.bipush 30, 2) := by decide +kernel
theorem zd_Model_refusesLend_20 : decode zm_Model_refusesLend.2.1 20 = .ok (.invokestatic 100, 3) := by decide +kernel
theorem zd_Model_refusesLend_23 : decode zm_Model_refusesLend.2.1 23 = .ok (.ifCond .ne 5, 3) := by decide +kernel
theorem zd_Model_refusesLend_26 : decode zm_Model_refusesLend.2.1 26 = .ok (.iconst (-1), 1) := by decide +kernel
theorem zd_Model_refusesLend_27 : decode zm_Model_refusesLend.2.1 27 = .ok (.ireturn, 1) := by decide +kernel
theorem zd_Model_refusesLend_28 : decode zm_Model_refusesLend.2.1 28 = .ok (.aload_n 0, 1) := by decide +kernel
theorem zd_Model_refusesLend_29 : decode zm_Model_refusesLend.2.1 29 = .ok (.getfield 9, 3) := by decide +kernel
theorem zd_Model_refusesLend_32 : decode zm_Model_refusesLend.2.1 32 = .ok (.iload_n 1, 1) := by decide +kernel
theorem zd_Model_refusesLend_33 : decode zm_Model_refusesLend.2.1 33 = .ok (.iaload, 1) := by decide +kernel
theorem zd_Model_refusesLend_34 : decode zm_Model_refusesLend.2.1 34 = .ok (.iconst 2, 1) := by decide +kernel
theorem zd_Model_refusesLend_35 : decode zm_Model_refusesLend.2.1 35 = .ok (.if_icmp .eq 13, 3) := by decide +kernel
theorem zd_Model_refusesLend_38 : decode zm_Model_refusesLend.2.1 38 = .ok (.aload_n 0, 1) := by decide +kernel
theorem zd_Model_refusesLend_39 : decode zm_Model_refusesLend.2.1 39 = .ok (.getfield 9, 3) := by decide +kernel
theorem zd_Model_refusesLend_42 : decode zm_Model_refusesLend.2.1 42 = .ok (.iload_n 1, 1) := by decide +kernel
theorem zd_Model_refusesLend_43 : decode zm_Model_refusesLend.2.1 43 = .ok (.iaload, 1) := by decide +kernel
theorem zd_Model_refusesLend_44 : decode zm_Model_refusesLend.2.1 44 = .ok (.iconst 3, 1) := by decide +kernel
theorem zd_Model_refusesLend_45 : decode zm_Model_refusesLend.2.1 45 = .ok (.if_icmp .ne 6, 3) := by decide +kernel
theorem zd_Model_refusesLend_48 : decode zm_Model_refusesLend.2.1 48 = .ok (.bipush (-2), 2) := by decide +kernel
theorem zd_Model_refusesLend_50 : decode zm_Model_refusesLend.2.1 50 = .ok (.ireturn, 1) := by decide +kernel
theorem zd_Model_refusesLend_51 : decode zm_Model_refusesLend.2.1 51 = .ok (.aload_n 0, 1) := by decide +kernel
theorem zd_Model_refusesLend_52 : decode zm_Model_refusesLend.2.1 52 = .ok (.aload_n 0, 1) := by decide +kernel
theorem zd_Model_refusesLend_53 : decode zm_Model_refusesLend.2.1 53 = .ok (.getfield 9, 3) := by decide +kernel
theorem zd_Model_refusesLend_56 : decode zm_Model_refusesLend.2.1 56 = .ok (.iload_n 2, 1) := by decide +kernel
theorem zd_Model_refusesLend_57 : decode zm_Model_refusesLend.2.1 57 = .ok (.invokevirtual 275, 3) := by decide +kernel
theorem zd_Model_refusesLend_60 : decode zm_Model_refusesLend.2.1 60 = .ok (.invokestatic 261, 3) := by decide +kernel
theorem zd_Model_refusesLend_63 : decode zm_Model_refusesLend.2.1 63 = .ok (.iconst 3, 1) := by decide +kernel
theorem zd_Model_refusesLend_64 : decode zm_Model_refusesLend.2.1 64 = .ok (.if_icmp .ne 8, 3) := by decide +kernel
theorem zd_Model_refusesLend_67 : decode zm_Model_refusesLend.2.1 67 = .ok (.bipush (-3), 2) := by decide +kernel
theorem zd_Model_refusesLend_69 : decode zm_Model_refusesLend.2.1 69 = .ok (.goto 4, 3) := by decide +kernel
theorem zd_Model_refusesLend_72 : decode zm_Model_refusesLend.2.1 72 = .ok (.iconst 0, 1) := by decide +kernel
theorem zd_Model_refusesLend_73 : decode zm_Model_refusesLend.2.1 73 = .ok (.ireturn, 1) := by decide +kernel
theorem zb_Model_refusesLend_0 {Γ : zG} {σ : zS} {x1 x2 x3 : Int32} {dc : Nat} {P : Int32 → zS → Prop}  (hm : z_Ci dc zm_Model_isBook [.inr (63), .inl (x1)] σ P) (hdp : dc < z_dep Γ) (k : ∀ r σ1, P r σ1 → z_J Γ zm_Model_refusesLend 5 [some (.inr (63)), some (.inl (x1)), some (.inl (x2)), some (.inl (x3))] [.inl (r)] σ1) : z_J Γ zm_Model_refusesLend 0 [some (.inr (63)), some (.inl (x1)), some (.inl (x2)), some (.inl (x3))] [] σ := by
  refine zj_aload_n zd_Model_refusesLend_0 rfl ?_
  refine zj_iload_n zd_Model_refusesLend_1 rfl ?_
  exact zj_callVi (As := [.inl (x1)]) hm hdp rfl (by decide) rfl zl_Model_184 zq_Model_isBook zd_Model_refusesLend_2 rfl (Nat.le_of_ble_eq_true rfl) (fun r σ1 h => (k r σ1 h))
theorem zb_Model_refusesLend_5 {Γ : zG} {σ : zS} {x1 x2 x3 y0 : Int32}  (kt : y0 = 0 → z_J Γ zm_Model_refusesLend 26 [none, none, none, none] [] σ) (kf : ¬ y0 = 0 → z_J Γ zm_Model_refusesLend 8 [some (.inr (63)), some (.inl (x1)), some (.inl (x2)), some (.inl (x3))] [] σ) : z_J Γ zm_Model_refusesLend 5 [some (.inr (63)), some (.inl (x1)), some (.inl (x2)), some (.inl (x3))] [.inl (y0)] σ := by
  exact zj_if_eq zd_Model_refusesLend_5 (by decide) (fun h => (zj_weak (L' := [none, none, none, none]) trivial (kt h))) (fun h => (kf h))
theorem zb_Model_refusesLend_8 {Γ : zG} {σ : zS} {x1 x2 x3 : Int32} {dc : Nat} {P : Int32 → zS → Prop}  (hm : z_Ci dc zm_Model_isReader [.inr (63), .inl (x2)] σ P) (hdp : dc < z_dep Γ) (k : ∀ r σ1, P r σ1 → z_J Γ zm_Model_refusesLend 13 [some (.inr (63)), some (.inl (x1)), some (.inl (x2)), some (.inl (x3))] [.inl (r)] σ1) : z_J Γ zm_Model_refusesLend 8 [some (.inr (63)), some (.inl (x1)), some (.inl (x2)), some (.inl (x3))] [] σ := by
  refine zj_aload_n zd_Model_refusesLend_8 rfl ?_
  refine zj_iload_n zd_Model_refusesLend_9 rfl ?_
  exact zj_callVi (As := [.inl (x2)]) hm hdp rfl (by decide) rfl zl_Model_272 zq_Model_isReader zd_Model_refusesLend_10 rfl (Nat.le_of_ble_eq_true rfl) (fun r σ1 h => (k r σ1 h))
theorem zb_Model_refusesLend_13 {Γ : zG} {σ : zS} {x1 x2 x3 y0 : Int32}  (kt : y0 = 0 → z_J Γ zm_Model_refusesLend 26 [none, none, none, none] [] σ) (kf : ¬ y0 = 0 → z_J Γ zm_Model_refusesLend 16 [some (.inr (63)), some (.inl (x1)), some (.inl (x2)), some (.inl (x3))] [] σ) : z_J Γ zm_Model_refusesLend 13 [some (.inr (63)), some (.inl (x1)), some (.inl (x2)), some (.inl (x3))] [.inl (y0)] σ := by
  exact zj_if_eq zd_Model_refusesLend_13 (by decide) (fun h => (zj_weak (L' := [none, none, none, none]) trivial (kt h))) (fun h => (kf h))
theorem zb_Model_refusesLend_16 {Γ : zG} {σ : zS} {x1 x2 x3 : Int32} {dc : Nat} {P : Int32 → zS → Prop}  (hm : z_Ci dc zm_Model_in [.inl (x3), .inl (nI 1), .inl (nI 30)] σ P) (hdp : dc < z_dep Γ) (k : ∀ r σ1, P r σ1 → z_J Γ zm_Model_refusesLend 23 [some (.inr (63)), some (.inl (x1)), some (.inl (x2)), none] [.inl (r)] σ1) : z_J Γ zm_Model_refusesLend 16 [some (.inr (63)), some (.inl (x1)), some (.inl (x2)), some (.inl (x3))] [] σ := by
  refine zj_iload_n zd_Model_refusesLend_16 rfl ?_
  refine zj_iconst (v := nI 1) zd_Model_refusesLend_17 (by decide) ?_
  refine zj_bipush (v := nI 30) zd_Model_refusesLend_18 (by decide) ?_
  exact zj_callSi (As := [.inl (x3), .inl (nI 1), .inl (nI 30)]) hm hdp zl_Model_100 zq_Model_in zd_Model_refusesLend_20 rfl (Nat.le_of_ble_eq_true rfl) (fun r σ1 h => (zj_weak (L' := [some (.inr (63)), some (.inl (x1)), some (.inl (x2)), none]) ⟨rfl, ⟨rfl, ⟨rfl, trivial⟩⟩⟩ (k r σ1 h)))
theorem zb_Model_refusesLend_23 {Γ : zG} {σ : zS} {x1 x2 y0 : Int32}  (kt : ¬ y0 = 0 → z_J Γ zm_Model_refusesLend 28 [some (.inr (63)), some (.inl (x1)), some (.inl (x2)), none] [] σ) (kf : y0 = 0 → z_J Γ zm_Model_refusesLend 26 [none, none, none, none] [] σ) : z_J Γ zm_Model_refusesLend 23 [some (.inr (63)), some (.inl (x1)), some (.inl (x2)), none] [.inl (y0)] σ := by
  exact zj_if_ne zd_Model_refusesLend_23 (by decide) (fun h => (kt h)) (fun h => (zj_weak (L' := [none, none, none, none]) trivial (kf h)))
theorem zb_Model_refusesLend_26 {Γ : zG} {σ : zS}  (e : z_end Γ (some ((-1))) σ) : z_J Γ zm_Model_refusesLend 26 [none, none, none, none] [] σ := by
  refine zj_iconst (v := (-1)) zd_Model_refusesLend_26 (by decide) ?_
  exact zj_ireturn rfl zd_Model_refusesLend_27 e
theorem zb_Model_refusesLend_28 {Γ : zG} {σ : zS} {x1 x2 : Int32} {k1 : Nat}  (b1 : z_ix x1 53 k1) (kt : (σ.1 64 k1) = (nI 2) → z_J Γ zm_Model_refusesLend 48 [none, none, none, none] [] σ) (kf : ¬ (σ.1 64 k1) = (nI 2) → z_J Γ zm_Model_refusesLend 38 [some (.inr (63)), some (.inl (x1)), some (.inl (x2)), none] [] σ) : z_J Γ zm_Model_refusesLend 28 [some (.inr (63)), some (.inl (x1)), some (.inl (x2)), none] [] σ := by
  refine zj_aload_n zd_Model_refusesLend_28 rfl ?_
  refine zj_getR rfl (by decide) rfl zu_Model (k := 0) (by decide) rfl zl_Model_9 zd_Model_refusesLend_29 (o' := 64) rfl ?_
  refine zj_iload_n zd_Model_refusesLend_32 rfl ?_
  refine zj_iaload rfl (by decide) b1 zd_Model_refusesLend_33 ?_
  refine zj_iconst (v := nI 2) zd_Model_refusesLend_34 (by decide) ?_
  exact zj_icmp_eq zd_Model_refusesLend_35 (by decide) (fun h => (zj_weak (L' := [none, none, none, none]) trivial (kt h))) (fun h => (kf h))
theorem zb_Model_refusesLend_38 {Γ : zG} {σ : zS} {x1 x2 : Int32} {k1 : Nat}  (b1 : z_ix x1 53 k1) (kt : ¬ (σ.1 64 k1) = (nI 3) → z_J Γ zm_Model_refusesLend 51 [some (.inr (63)), none, some (.inl (x2)), none] [] σ) (kf : (σ.1 64 k1) = (nI 3) → z_J Γ zm_Model_refusesLend 48 [none, none, none, none] [] σ) : z_J Γ zm_Model_refusesLend 38 [some (.inr (63)), some (.inl (x1)), some (.inl (x2)), none] [] σ := by
  refine zj_aload_n zd_Model_refusesLend_38 rfl ?_
  refine zj_getR rfl (by decide) rfl zu_Model (k := 0) (by decide) rfl zl_Model_9 zd_Model_refusesLend_39 (o' := 64) rfl ?_
  refine zj_iload_n zd_Model_refusesLend_42 rfl ?_
  refine zj_iaload rfl (by decide) b1 zd_Model_refusesLend_43 ?_
  refine zj_iconst (v := nI 3) zd_Model_refusesLend_44 (by decide) ?_
  exact zj_icmp_ne zd_Model_refusesLend_45 (by decide) (fun h => (zj_weak (L' := [some (.inr (63)), none, some (.inl (x2)), none]) ⟨rfl, ⟨rfl, trivial⟩⟩ (kt h))) (fun h => (zj_weak (L' := [none, none, none, none]) trivial (kf h)))
theorem zb_Model_refusesLend_48 {Γ : zG} {σ : zS}  (e : z_end Γ (some ((-2))) σ) : z_J Γ zm_Model_refusesLend 48 [none, none, none, none] [] σ := by
  refine zj_bipush (v := (-2)) zd_Model_refusesLend_48 (by decide) ?_
  exact zj_ireturn rfl zd_Model_refusesLend_50 e
theorem zb_Model_refusesLend_51 {Γ : zG} {σ : zS} {x2 : Int32} {dc : Nat} {P : Int32 → zS → Prop}  (hm : z_Ci dc zm_Model_lentTo [.inr (63), .inr (64), .inl (x2)] σ P) (hdp : dc < z_dep Γ) (k : ∀ r σ1, P r σ1 → z_J Γ zm_Model_refusesLend 60 [none, none, none, none] [.inl (r)] σ1) : z_J Γ zm_Model_refusesLend 51 [some (.inr (63)), none, some (.inl (x2)), none] [] σ := by
  refine zj_aload_n zd_Model_refusesLend_51 rfl ?_
  refine zj_aload_n zd_Model_refusesLend_52 rfl ?_
  refine zj_getR rfl (by decide) rfl zu_Model (k := 0) (by decide) rfl zl_Model_9 zd_Model_refusesLend_53 (o' := 64) rfl ?_
  refine zj_iload_n zd_Model_refusesLend_56 rfl ?_
  exact zj_callVi (As := [.inr (64), .inl (x2)]) hm hdp rfl (by decide) rfl zl_Model_275 zq_Model_lentTo zd_Model_refusesLend_57 rfl (Nat.le_of_ble_eq_true rfl) (fun r σ1 h => (zj_weak (L' := [none, none, none, none]) trivial (k r σ1 h)))
theorem zb_Model_refusesLend_60 {Γ : zG} {σ : zS} {y0 : Int32} (hdp : 0 < z_dep Γ) (kt : ¬ (z_bc y0) = (nI 3) → z_J Γ zm_Model_refusesLend 72 [none, none, none, none] [] σ) (kf : (z_bc y0) = (nI 3) → z_J Γ zm_Model_refusesLend 67 [none, none, none, none] [] σ) : z_J Γ zm_Model_refusesLend 60 [none, none, none, none] [.inl (y0)] σ := by
  refine zj_bitc zl_Model_261 hdp (Nat.le_of_ble_eq_true rfl) zd_Model_refusesLend_60 ?_
  refine zj_iconst (v := nI 3) zd_Model_refusesLend_63 (by decide) ?_
  exact zj_icmp_ne zd_Model_refusesLend_64 (by decide) (fun h => (kt h)) (fun h => (kf h))
theorem zb_Model_refusesLend_67 {Γ : zG} {σ : zS}  (k : z_J Γ zm_Model_refusesLend 73 [none, none, none, none] [.inl ((-3))] σ) : z_J Γ zm_Model_refusesLend 67 [none, none, none, none] [] σ := by
  refine zj_bipush (v := (-3)) zd_Model_refusesLend_67 (by decide) ?_
  exact zj_goto zd_Model_refusesLend_69 (by decide) k
theorem zb_Model_refusesLend_72 {Γ : zG} {σ : zS}  (k : z_J Γ zm_Model_refusesLend 73 [none, none, none, none] [.inl (nI 0)] σ) : z_J Γ zm_Model_refusesLend 72 [none, none, none, none] [] σ := by
  refine zj_iconst (v := nI 0) zd_Model_refusesLend_72 (by decide) ?_
  exact k
theorem zb_Model_refusesLend_73 {Γ : zG} {σ : zS} {y0 : Int32}  (e : z_end Γ (some (y0)) σ) : z_J Γ zm_Model_refusesLend 73 [none, none, none, none] [.inl (y0)] σ := by
  exact zj_ireturn rfl zd_Model_refusesLend_73 e
theorem zd_Model_goLend_0 : decode zm_Model_goLend.2.1 0 = .ok (.aload_n 0, 1) := by decide +kernel
theorem zd_Model_goLend_1 : decode zm_Model_goLend.2.1 1 = .ok (.aload_n 0, 1) := by decide +kernel
theorem zd_Model_goLend_2 : decode zm_Model_goLend.2.1 2 = .ok (.getfield 9, 3) := by decide +kernel
theorem zd_Model_goLend_5 : decode zm_Model_goLend.2.1 5 = .ok (.iload_n 1, 1) := by decide +kernel
theorem zd_Model_goLend_6 : decode zm_Model_goLend.2.1 6 = .ok (.invokevirtual 292, 3) := by decide +kernel
theorem zd_Model_goLend_9 : decode zm_Model_goLend.2.1 9 = .ok (.aload_n 0, 1) := by decide +kernel
theorem zd_Model_goLend_10 : decode zm_Model_goLend.2.1 10 = .ok (.getfield 9, 3) := by decide +kernel
theorem zd_Model_goLend_13 : decode zm_Model_goLend.2.1 13 = .ok (.iload_n 1, 1) := by decide +kernel
theorem zd_Model_goLend_14 : decode zm_Model_goLend.2.1 14 = .ok (.iconst 2, 1) := by decide +kernel
theorem zd_Model_goLend_15 : decode zm_Model_goLend.2.1 15 = .ok (.iload_n 2, 1) := by decide +kernel
theorem zd_Model_goLend_16 : decode zm_Model_goLend.2.1 16 = .ok (.iconst 0, 1) := by decide +kernel
theorem zd_Model_goLend_17 : decode zm_Model_goLend.2.1 17 = .ok (.invokestatic 173, 3) := by decide +kernel
theorem zd_Model_goLend_20 : decode zm_Model_goLend.2.1 20 = .ok (.aload_n 0, 1) := by decide +kernel
theorem zd_Model_goLend_21 : decode zm_Model_goLend.2.1 21 = .ok (.getfield 9, 3) := by decide +kernel
theorem zd_Model_goLend_24 : decode zm_Model_goLend.2.1 24 = .ok (.bipush 36, 2) := by decide +kernel
theorem zd_Model_goLend_26 : decode zm_Model_goLend.2.1 26 = .ok (.iload_n 1, 1) := by decide +kernel
theorem zd_Model_goLend_27 : decode zm_Model_goLend.2.1 27 = .ok (.iadd, 1) := by decide +kernel
theorem zd_Model_goLend_28 : decode zm_Model_goLend.2.1 28 = .ok (.aload_n 0, 1) := by decide +kernel
theorem zd_Model_goLend_29 : decode zm_Model_goLend.2.1 29 = .ok (.getfield 9, 3) := by decide +kernel
theorem zd_Model_goLend_32 : decode zm_Model_goLend.2.1 32 = .ok (.bipush 48, 2) := by decide +kernel
theorem zd_Model_goLend_34 : decode zm_Model_goLend.2.1 34 = .ok (.iaload, 1) := by decide +kernel
theorem zd_Model_goLend_35 : decode zm_Model_goLend.2.1 35 = .ok (.iload_n 3, 1) := by decide +kernel
theorem zd_Model_goLend_36 : decode zm_Model_goLend.2.1 36 = .ok (.iadd, 1) := by decide +kernel
theorem zd_Model_goLend_37 : decode zm_Model_goLend.2.1 37 = .ok (.iastore, 1) := by decide +kernel
theorem zd_Model_goLend_38 : decode zm_Model_goLend.2.1 38 = .ok (.aload_n 0, 1) := by decide +kernel
theorem zd_Model_goLend_39 : decode zm_Model_goLend.2.1 39 = .ok (.getfield 9, 3) := by decide +kernel
theorem zd_Model_goLend_42 : decode zm_Model_goLend.2.1 42 = .ok (.bipush 36, 2) := by decide +kernel
theorem zd_Model_goLend_44 : decode zm_Model_goLend.2.1 44 = .ok (.iload_n 1, 1) := by decide +kernel
theorem zd_Model_goLend_45 : decode zm_Model_goLend.2.1 45 = .ok (.iadd, 1) := by decide +kernel
theorem zd_Model_goLend_46 : decode zm_Model_goLend.2.1 46 = .ok (.iaload, 1) := by decide +kernel
theorem zd_Model_goLend_47 : decode zm_Model_goLend.2.1 47 = .ok (.ireturn, 1) := by decide +kernel
theorem zb_Model_goLend_0 {Γ : zG} {σ : zS} {x1 x2 x3 : Int32} {dc : Nat} {P : zS → Prop}  (hm : z_Cv dc zm_Model_takeOut [.inr (63), .inr (64), .inl (x1)] σ P) (hdp : dc < z_dep Γ) (k : ∀ σ1, P σ1 → z_J Γ zm_Model_goLend 9 [some (.inr (63)), some (.inl (x1)), some (.inl (x2)), some (.inl (x3))] [] σ1) : z_J Γ zm_Model_goLend 0 [some (.inr (63)), some (.inl (x1)), some (.inl (x2)), some (.inl (x3))] [] σ := by
  refine zj_aload_n zd_Model_goLend_0 rfl ?_
  refine zj_aload_n zd_Model_goLend_1 rfl ?_
  refine zj_getR rfl (by decide) rfl zu_Model (k := 0) (by decide) rfl zl_Model_9 zd_Model_goLend_2 (o' := 64) rfl ?_
  refine zj_iload_n zd_Model_goLend_5 rfl ?_
  exact zj_callVv (As := [.inr (64), .inl (x1)]) hm hdp rfl (by decide) rfl zl_Model_292 zq_Model_takeOut zd_Model_goLend_6 rfl (Nat.le_of_ble_eq_true rfl) (fun σ1 h => (k σ1 h))
theorem zb_Model_goLend_9 {Γ : zG} {σ : zS} {x1 x2 x3 : Int32} {dc : Nat} {P : zS → Prop}  (hm : z_Cv dc zm_Model_put [.inr (64), .inl (x1), .inl (nI 2), .inl (x2), .inl (nI 0)] σ P) (hdp : dc < z_dep Γ) (k : ∀ σ1, P σ1 → z_J Γ zm_Model_goLend 20 [some (.inr (63)), some (.inl (x1)), none, some (.inl (x3))] [] σ1) : z_J Γ zm_Model_goLend 9 [some (.inr (63)), some (.inl (x1)), some (.inl (x2)), some (.inl (x3))] [] σ := by
  refine zj_aload_n zd_Model_goLend_9 rfl ?_
  refine zj_getR rfl (by decide) rfl zu_Model (k := 0) (by decide) rfl zl_Model_9 zd_Model_goLend_10 (o' := 64) rfl ?_
  refine zj_iload_n zd_Model_goLend_13 rfl ?_
  refine zj_iconst (v := nI 2) zd_Model_goLend_14 (by decide) ?_
  refine zj_iload_n zd_Model_goLend_15 rfl ?_
  refine zj_iconst (v := nI 0) zd_Model_goLend_16 (by decide) ?_
  exact zj_callSv (As := [.inr (64), .inl (x1), .inl (nI 2), .inl (x2), .inl (nI 0)]) hm hdp zl_Model_173 zq_Model_put zd_Model_goLend_17 rfl (Nat.le_of_ble_eq_true rfl) (fun σ1 h => (zj_weak (L' := [some (.inr (63)), some (.inl (x1)), none, some (.inl (x3))]) ⟨rfl, ⟨rfl, ⟨rfl, trivial⟩⟩⟩ (k σ1 h)))
theorem zb_Model_goLend_20 {Γ : zG} {σ : zS} {x1 x3 : Int32} {k1 k2 k3 : Nat}  (b1 : z_ix (nI 48) 53 k1) (b2 : z_ix ((nI 36) + x1) 53 k2) (b3 : z_ix ((nI 36) + x1) 53 k3) (e : z_end Γ (some ((z_pI σ 64 k2 ((σ.1 64 k1) + x3)).1 64 k3)) (z_pI σ 64 k2 ((σ.1 64 k1) + x3))) : z_J Γ zm_Model_goLend 20 [some (.inr (63)), some (.inl (x1)), none, some (.inl (x3))] [] σ := by
  refine zj_aload_n zd_Model_goLend_20 rfl ?_
  refine zj_getR rfl (by decide) rfl zu_Model (k := 0) (by decide) rfl zl_Model_9 zd_Model_goLend_21 (o' := 64) rfl ?_
  refine zj_bipush (v := nI 36) zd_Model_goLend_24 (by decide) ?_
  refine zj_iload_n zd_Model_goLend_26 rfl ?_
  refine zj_iadd zd_Model_goLend_27 ?_
  refine zj_aload_n zd_Model_goLend_28 rfl ?_
  refine zj_getR rfl (by decide) rfl zu_Model (k := 0) (by decide) rfl zl_Model_9 zd_Model_goLend_29 (o' := 64) rfl ?_
  refine zj_bipush (v := nI 48) zd_Model_goLend_32 (by decide) ?_
  refine zj_iaload rfl (by decide) b1 zd_Model_goLend_34 ?_
  refine zj_iload_n zd_Model_goLend_35 rfl ?_
  refine zj_iadd zd_Model_goLend_36 ?_
  refine zj_iastore rfl (by decide) b2 zd_Model_goLend_37 ?_
  refine zj_aload_n zd_Model_goLend_38 rfl ?_
  refine zj_getR rfl (by decide) rfl zu_Model (k := 0) (by decide) rfl zl_Model_9 zd_Model_goLend_39 (o' := 64) rfl ?_
  refine zj_bipush (v := nI 36) zd_Model_goLend_42 (by decide) ?_
  refine zj_iload_n zd_Model_goLend_44 rfl ?_
  refine zj_iadd zd_Model_goLend_45 ?_
  refine zj_iaload rfl (by decide) b3 zd_Model_goLend_46 ?_
  exact zj_ireturn rfl zd_Model_goLend_47 e
theorem zd_Model_takeOut_0 : decode zm_Model_takeOut.2.1 0 = .ok (.aload_n 1, 1) := by decide +kernel
theorem zd_Model_takeOut_1 : decode zm_Model_takeOut.2.1 1 = .ok (.iload_n 2, 1) := by decide +kernel
theorem zd_Model_takeOut_2 : decode zm_Model_takeOut.2.1 2 = .ok (.iaload, 1) := by decide +kernel
theorem zd_Model_takeOut_3 : decode zm_Model_takeOut.2.1 3 = .ok (.iconst 1, 1) := by decide +kernel
theorem zd_Model_takeOut_4 : decode zm_Model_takeOut.2.1 4 = .ok (.if_icmp .eq 4, 3) := by decide +kernel
theorem zd_Model_takeOut_7 : decode zm_Model_takeOut.2.1 7 = .ok (.return_, 1) := by decide +kernel
theorem zd_Model_takeOut_8 : decode zm_Model_takeOut.2.1 8 = .ok (.iconst 0, 1) := by decide +kernel
theorem zd_Model_takeOut_9 : decode zm_Model_takeOut.2.1 9 = .ok (.istore_n 3, 1) := by decide +kernel
theorem zd_Model_takeOut_10 : decode zm_Model_takeOut.2.1 10 = .ok (.iload_n 3, 1) := by decide +kernel
theorem zd_Model_takeOut_11 : decode zm_Model_takeOut.2.1 11 = .ok (.aload_n 0, 1) := by decide +kernel
theorem zd_Model_takeOut_12 : decode zm_Model_takeOut.2.1 12 = .ok (.getfield 97, 3) := by decide +kernel
theorem zd_Model_takeOut_15 : decode zm_Model_takeOut.2.1 15 = .ok (.if_icmp .ge 61, 3) := by decide +kernel
theorem zd_Model_takeOut_18 : decode zm_Model_takeOut.2.1 18 = .ok (.iload_n 3, 1) := by decide +kernel
theorem zd_Model_takeOut_19 : decode zm_Model_takeOut.2.1 19 = .ok (.iload_n 2, 1) := by decide +kernel
theorem zd_Model_takeOut_20 : decode zm_Model_takeOut.2.1 20 = .ok (.if_icmp .eq 50, 3) := by decide +kernel
theorem zd_Model_takeOut_23 : decode zm_Model_takeOut.2.1 23 = .ok (.aload_n 1, 1) := by decide +kernel
theorem zd_Model_takeOut_24 : decode zm_Model_takeOut.2.1 24 = .ok (.iload_n 3, 1) := by decide +kernel
theorem zd_Model_takeOut_25 : decode zm_Model_takeOut.2.1 25 = .ok (.iaload, 1) := by decide +kernel
theorem zd_Model_takeOut_26 : decode zm_Model_takeOut.2.1 26 = .ok (.iconst 1, 1) := by decide +kernel
theorem zd_Model_takeOut_27 : decode zm_Model_takeOut.2.1 27 = .ok (.if_icmp .ne 43, 3) := by decide +kernel
theorem zd_Model_takeOut_30 : decode zm_Model_takeOut.2.1 30 = .ok (.aload_n 1, 1) := by decide +kernel
theorem zd_Model_takeOut_31 : decode zm_Model_takeOut.2.1 31 = .ok (.bipush 12, 2) := by decide +kernel
theorem zd_Model_takeOut_33 : decode zm_Model_takeOut.2.1 33 = .ok (.iload_n 3, 1) := by decide +kernel
theorem zd_Model_takeOut_34 : decode zm_Model_takeOut.2.1 34 = .ok (.iadd, 1) := by decide +kernel
theorem zd_Model_takeOut_35 : decode zm_Model_takeOut.2.1 35 = .ok (.iaload, 1) := by decide +kernel
theorem zd_Model_takeOut_36 : decode zm_Model_takeOut.2.1 36 = .ok (.aload_n 1, 1) := by decide +kernel
theorem zd_Model_takeOut_37 : decode zm_Model_takeOut.2.1 37 = .ok (.bipush 12, 2) := by decide +kernel
theorem zd_Model_takeOut_39 : decode zm_Model_takeOut.2.1 39 = .ok (.iload_n 2, 1) := by decide +kernel
theorem zd_Model_takeOut_40 : decode zm_Model_takeOut.2.1 40 = .ok (.iadd, 1) := by decide +kernel
theorem zd_Model_takeOut_41 : decode zm_Model_takeOut.2.1 41 = .ok (.iaload, 1) := by decide +kernel
theorem zd_Model_takeOut_42 : decode zm_Model_takeOut.2.1 42 = .ok (.if_icmp .ne 28, 3) := by decide +kernel
theorem zd_Model_takeOut_45 : decode zm_Model_takeOut.2.1 45 = .ok (.aload_n 1, 1) := by decide +kernel
theorem zd_Model_takeOut_46 : decode zm_Model_takeOut.2.1 46 = .ok (.bipush 24, 2) := by decide +kernel
theorem zd_Model_takeOut_48 : decode zm_Model_takeOut.2.1 48 = .ok (.iload_n 3, 1) := by decide +kernel
theorem zd_Model_takeOut_49 : decode zm_Model_takeOut.2.1 49 = .ok (.iadd, 1) := by decide +kernel
theorem zd_Model_takeOut_50 : decode zm_Model_takeOut.2.1 50 = .ok (.iaload, 1) := by decide +kernel
theorem zd_Model_takeOut_51 : decode zm_Model_takeOut.2.1 51 = .ok (.aload_n 1, 1) := by decide +kernel
theorem zd_Model_takeOut_52 : decode zm_Model_takeOut.2.1 52 = .ok (.bipush 24, 2) := by decide +kernel
theorem zd_Model_takeOut_54 : decode zm_Model_takeOut.2.1 54 = .ok (.iload_n 2, 1) := by decide +kernel
theorem zd_Model_takeOut_55 : decode zm_Model_takeOut.2.1 55 = .ok (.iadd, 1) := by decide +kernel
theorem zd_Model_takeOut_56 : decode zm_Model_takeOut.2.1 56 = .ok (.iaload, 1) := by decide +kernel
theorem zd_Model_takeOut_57 : decode zm_Model_takeOut.2.1 57 = .ok (.if_icmp .le 13, 3) := by decide +kernel
theorem zd_Model_takeOut_60 : decode zm_Model_takeOut.2.1 60 = .ok (.aload_n 1, 1) := by decide +kernel
theorem zd_Model_takeOut_61 : decode zm_Model_takeOut.2.1 61 = .ok (.bipush 24, 2) := by decide +kernel
theorem zd_Model_takeOut_63 : decode zm_Model_takeOut.2.1 63 = .ok (.iload_n 3, 1) := by decide +kernel
theorem zd_Model_takeOut_64 : decode zm_Model_takeOut.2.1 64 = .ok (.iadd, 1) := by decide +kernel
theorem zd_Model_takeOut_65 : decode zm_Model_takeOut.2.1 65 = .ok (.dup2, 1) := by decide +kernel
theorem zd_Model_takeOut_66 : decode zm_Model_takeOut.2.1 66 = .ok (.iaload, 1) := by decide +kernel
theorem zd_Model_takeOut_67 : decode zm_Model_takeOut.2.1 67 = .ok (.iconst 1, 1) := by decide +kernel
theorem zd_Model_takeOut_68 : decode zm_Model_takeOut.2.1 68 = .ok (.isub, 1) := by decide +kernel
theorem zd_Model_takeOut_69 : decode zm_Model_takeOut.2.1 69 = .ok (.iastore, 1) := by decide +kernel
theorem zd_Model_takeOut_70 : decode zm_Model_takeOut.2.1 70 = .ok (.iinc 3 1, 3) := by decide +kernel
theorem zd_Model_takeOut_73 : decode zm_Model_takeOut.2.1 73 = .ok (.goto (-63), 3) := by decide +kernel
theorem zd_Model_takeOut_76 : decode zm_Model_takeOut.2.1 76 = .ok (.return_, 1) := by decide +kernel
theorem zb_Model_takeOut_0 {Γ : zG} {σ : zS} {a1 : Nat} {x2 : Int32} {k1 : Nat} (h_a1 : z_kd a1 = (11, 53)) (b1 : z_ix x2 53 k1) (kt : (σ.1 a1 k1) = (nI 1) → z_J Γ zm_Model_takeOut 8 [some (.inr (63)), some (.inr (a1)), some (.inl (x2)), none] [] σ) (kf : ¬ (σ.1 a1 k1) = (nI 1) → z_J Γ zm_Model_takeOut 7 [none, none, none, none] [] σ) : z_J Γ zm_Model_takeOut 0 [some (.inr (63)), some (.inr (a1)), some (.inl (x2)), none] [] σ := by
  refine zj_aload_n zd_Model_takeOut_0 rfl ?_
  refine zj_iload_n zd_Model_takeOut_1 rfl ?_
  refine zj_iaload h_a1 (by decide) b1 zd_Model_takeOut_2 ?_
  refine zj_iconst (v := nI 1) zd_Model_takeOut_3 (by decide) ?_
  exact zj_icmp_eq zd_Model_takeOut_4 (by decide) (fun h => (kt h)) (fun h => (zj_weak (L' := [none, none, none, none]) trivial (kf h)))
theorem zb_Model_takeOut_7 {Γ : zG} {σ : zS}  (e : z_end Γ none σ) : z_J Γ zm_Model_takeOut 7 [none, none, none, none] [] σ := by
  exact zj_return rfl zd_Model_takeOut_7 e
theorem zb_Model_takeOut_8 {Γ : zG} {σ : zS} {a1 : Nat} {x2 : Int32} (h_a1 : z_kd a1 = (11, 53)) (k : z_J Γ zm_Model_takeOut 10 [some (.inr (63)), some (.inr (a1)), some (.inl (x2)), some (.inl (nI 0))] [] σ) : z_J Γ zm_Model_takeOut 8 [some (.inr (63)), some (.inr (a1)), some (.inl (x2)), none] [] σ := by
  refine zj_iconst (v := nI 0) zd_Model_takeOut_8 (by decide) ?_
  refine zj_istore_n (L' := [some (.inr (63)), some (.inr (a1)), some (.inl (x2)), some (.inl (nI 0))]) zd_Model_takeOut_9 (by decide) rfl ?_
  exact k
theorem zb_Model_takeOut_10 {Γ : zG} {σ : zS} {a1 : Nat} {x2 x3 : Int32} (h_a1 : z_kd a1 = (11, 53)) (kt : (σ.1 63 1) ≤ x3 → z_J Γ zm_Model_takeOut 76 [none, none, none, none] [] σ) (kf : ¬ (σ.1 63 1) ≤ x3 → z_J Γ zm_Model_takeOut 18 [some (.inr (63)), some (.inr (a1)), some (.inl (x2)), some (.inl (x3))] [] σ) : z_J Γ zm_Model_takeOut 10 [some (.inr (63)), some (.inr (a1)), some (.inl (x2)), some (.inl (x3))] [] σ := by
  refine zj_iload_n zd_Model_takeOut_10 rfl ?_
  refine zj_aload_n zd_Model_takeOut_11 rfl ?_
  refine zj_getI rfl (by decide) rfl zu_Model (k := 1) (by decide) rfl zl_Model_97 zd_Model_takeOut_12 ?_
  exact zj_icmp_ge zd_Model_takeOut_15 (by decide) (fun h => (zj_weak (L' := [none, none, none, none]) trivial (kt h))) (fun h => (kf h))
theorem zb_Model_takeOut_18 {Γ : zG} {σ : zS} {a1 : Nat} {x2 x3 : Int32} (h_a1 : z_kd a1 = (11, 53)) (kt : x3 = x2 → z_J Γ zm_Model_takeOut 70 [some (.inr (63)), some (.inr (a1)), some (.inl (x2)), some (.inl (x3))] [] σ) (kf : ¬ x3 = x2 → z_J Γ zm_Model_takeOut 23 [some (.inr (63)), some (.inr (a1)), some (.inl (x2)), some (.inl (x3))] [] σ) : z_J Γ zm_Model_takeOut 18 [some (.inr (63)), some (.inr (a1)), some (.inl (x2)), some (.inl (x3))] [] σ := by
  refine zj_iload_n zd_Model_takeOut_18 rfl ?_
  refine zj_iload_n zd_Model_takeOut_19 rfl ?_
  exact zj_icmp_eq zd_Model_takeOut_20 (by decide) (fun h => (kt h)) (fun h => (kf h))
theorem zb_Model_takeOut_23 {Γ : zG} {σ : zS} {a1 : Nat} {x2 x3 : Int32} {k1 : Nat} (h_a1 : z_kd a1 = (11, 53)) (b1 : z_ix x3 53 k1) (kt : ¬ (σ.1 a1 k1) = (nI 1) → z_J Γ zm_Model_takeOut 70 [some (.inr (63)), some (.inr (a1)), some (.inl (x2)), some (.inl (x3))] [] σ) (kf : (σ.1 a1 k1) = (nI 1) → z_J Γ zm_Model_takeOut 30 [some (.inr (63)), some (.inr (a1)), some (.inl (x2)), some (.inl (x3))] [] σ) : z_J Γ zm_Model_takeOut 23 [some (.inr (63)), some (.inr (a1)), some (.inl (x2)), some (.inl (x3))] [] σ := by
  refine zj_aload_n zd_Model_takeOut_23 rfl ?_
  refine zj_iload_n zd_Model_takeOut_24 rfl ?_
  refine zj_iaload h_a1 (by decide) b1 zd_Model_takeOut_25 ?_
  refine zj_iconst (v := nI 1) zd_Model_takeOut_26 (by decide) ?_
  exact zj_icmp_ne zd_Model_takeOut_27 (by decide) (fun h => (kt h)) (fun h => (kf h))
theorem zb_Model_takeOut_30 {Γ : zG} {σ : zS} {a1 : Nat} {x2 x3 : Int32} {k1 k2 : Nat} (h_a1 : z_kd a1 = (11, 53)) (b1 : z_ix ((nI 12) + x3) 53 k1) (b2 : z_ix ((nI 12) + x2) 53 k2) (kt : ¬ (σ.1 a1 k1) = (σ.1 a1 k2) → z_J Γ zm_Model_takeOut 70 [some (.inr (63)), some (.inr (a1)), some (.inl (x2)), some (.inl (x3))] [] σ) (kf : (σ.1 a1 k1) = (σ.1 a1 k2) → z_J Γ zm_Model_takeOut 45 [some (.inr (63)), some (.inr (a1)), some (.inl (x2)), some (.inl (x3))] [] σ) : z_J Γ zm_Model_takeOut 30 [some (.inr (63)), some (.inr (a1)), some (.inl (x2)), some (.inl (x3))] [] σ := by
  refine zj_aload_n zd_Model_takeOut_30 rfl ?_
  refine zj_bipush (v := nI 12) zd_Model_takeOut_31 (by decide) ?_
  refine zj_iload_n zd_Model_takeOut_33 rfl ?_
  refine zj_iadd zd_Model_takeOut_34 ?_
  refine zj_iaload h_a1 (by decide) b1 zd_Model_takeOut_35 ?_
  refine zj_aload_n zd_Model_takeOut_36 rfl ?_
  refine zj_bipush (v := nI 12) zd_Model_takeOut_37 (by decide) ?_
  refine zj_iload_n zd_Model_takeOut_39 rfl ?_
  refine zj_iadd zd_Model_takeOut_40 ?_
  refine zj_iaload h_a1 (by decide) b2 zd_Model_takeOut_41 ?_
  exact zj_icmp_ne zd_Model_takeOut_42 (by decide) (fun h => (kt h)) (fun h => (kf h))
theorem zb_Model_takeOut_45 {Γ : zG} {σ : zS} {a1 : Nat} {x2 x3 : Int32} {k1 k2 : Nat} (h_a1 : z_kd a1 = (11, 53)) (b1 : z_ix ((nI 24) + x3) 53 k1) (b2 : z_ix ((nI 24) + x2) 53 k2) (kt : (σ.1 a1 k1) ≤ (σ.1 a1 k2) → z_J Γ zm_Model_takeOut 70 [some (.inr (63)), some (.inr (a1)), some (.inl (x2)), some (.inl (x3))] [] σ) (kf : ¬ (σ.1 a1 k1) ≤ (σ.1 a1 k2) → z_J Γ zm_Model_takeOut 60 [some (.inr (63)), some (.inr (a1)), some (.inl (x2)), some (.inl (x3))] [] σ) : z_J Γ zm_Model_takeOut 45 [some (.inr (63)), some (.inr (a1)), some (.inl (x2)), some (.inl (x3))] [] σ := by
  refine zj_aload_n zd_Model_takeOut_45 rfl ?_
  refine zj_bipush (v := nI 24) zd_Model_takeOut_46 (by decide) ?_
  refine zj_iload_n zd_Model_takeOut_48 rfl ?_
  refine zj_iadd zd_Model_takeOut_49 ?_
  refine zj_iaload h_a1 (by decide) b1 zd_Model_takeOut_50 ?_
  refine zj_aload_n zd_Model_takeOut_51 rfl ?_
  refine zj_bipush (v := nI 24) zd_Model_takeOut_52 (by decide) ?_
  refine zj_iload_n zd_Model_takeOut_54 rfl ?_
  refine zj_iadd zd_Model_takeOut_55 ?_
  refine zj_iaload h_a1 (by decide) b2 zd_Model_takeOut_56 ?_
  exact zj_icmp_le zd_Model_takeOut_57 (by decide) (fun h => (kt h)) (fun h => (kf h))
theorem zb_Model_takeOut_60 {Γ : zG} {σ : zS} {a1 : Nat} {x2 x3 : Int32} {k1 k2 : Nat} (h_a1 : z_kd a1 = (11, 53)) (b1 : z_ix ((nI 24) + x3) 53 k1) (b2 : z_ix ((nI 24) + x3) 53 k2) (k : z_J Γ zm_Model_takeOut 70 [some (.inr (63)), some (.inr (a1)), some (.inl (x2)), some (.inl (x3))] [] (z_pI σ a1 k2 ((σ.1 a1 k1) - (nI 1)))) : z_J Γ zm_Model_takeOut 60 [some (.inr (63)), some (.inr (a1)), some (.inl (x2)), some (.inl (x3))] [] σ := by
  refine zj_aload_n zd_Model_takeOut_60 rfl ?_
  refine zj_bipush (v := nI 24) zd_Model_takeOut_61 (by decide) ?_
  refine zj_iload_n zd_Model_takeOut_63 rfl ?_
  refine zj_iadd zd_Model_takeOut_64 ?_
  refine zj_dup2 zd_Model_takeOut_65 ?_
  refine zj_iaload h_a1 (by decide) b1 zd_Model_takeOut_66 ?_
  refine zj_iconst (v := nI 1) zd_Model_takeOut_67 (by decide) ?_
  refine zj_isub zd_Model_takeOut_68 ?_
  refine zj_iastore h_a1 (by decide) b2 zd_Model_takeOut_69 ?_
  exact k
theorem zb_Model_takeOut_70 {Γ : zG} {σ : zS} {a1 : Nat} {x2 x3 : Int32} (h_a1 : z_kd a1 = (11, 53)) (k : z_J Γ zm_Model_takeOut 10 [some (.inr (63)), some (.inr (a1)), some (.inl (x2)), some (.inl (x3 + nI 1))] [] σ) : z_J Γ zm_Model_takeOut 70 [some (.inr (63)), some (.inr (a1)), some (.inl (x2)), some (.inl (x3))] [] σ := by
  refine zj_iinc (v := nI 1) (L' := [some (.inr (63)), some (.inr (a1)), some (.inl (x2)), some (.inl (x3 + nI 1))]) zd_Model_takeOut_70 rfl (by decide) (by decide) rfl ?_
  exact zj_goto zd_Model_takeOut_73 (by decide) k
theorem zb_Model_takeOut_76 {Γ : zG} {σ : zS}  (e : z_end Γ none σ) : z_J Γ zm_Model_takeOut 76 [none, none, none, none] [] σ := by
  exact zj_return rfl zd_Model_takeOut_76 e
theorem zd_Model_recall_0 : decode zm_Model_recall.2.1 0 = .ok (.aload_n 0, 1) := by decide +kernel
theorem zd_Model_recall_1 : decode zm_Model_recall.2.1 1 = .ok (.iconst 0, 1) := by decide +kernel
theorem zd_Model_recall_2 : decode zm_Model_recall.2.1 2 = .ok (.putfield 91, 3) := by decide +kernel
theorem zd_Model_recall_5 : decode zm_Model_recall.2.1 5 = .ok (.aload_n 0, 1) := by decide +kernel
theorem zd_Model_recall_6 : decode zm_Model_recall.2.1 6 = .ok (.iload_n 1, 1) := by decide +kernel
theorem zd_Model_recall_7 : decode zm_Model_recall.2.1 7 = .ok (.invokevirtual 184, 3) := by decide +kernel
theorem zd_Model_recall_10 : decode zm_Model_recall.2.1 10 = .ok (.ifCond .ne 5, 3) := by decide +kernel
theorem zd_Model_recall_13 : decode zm_Model_recall.2.1 13 = .ok (.iconst (-1), 1) := by decide +kernel
theorem zd_Model_recall_14 : decode zm_Model_recall.2.1 14 = .ok (.ireturn, 1) := by decide +kernel
theorem zd_Model_recall_15 : decode zm_Model_recall.2.1 15 = .ok (.aload_n 0, 1) := by decide +kernel
theorem zd_Model_recall_16 : decode zm_Model_recall.2.1 16 = .ok (.getfield 9, 3) := by decide +kernel
theorem zd_Model_recall_19 : decode zm_Model_recall.2.1 19 = .ok (.iload_n 1, 1) := by decide +kernel
theorem zd_Model_recall_20 : decode zm_Model_recall.2.1 20 = .ok (.iaload, 1) := by decide +kernel
theorem zd_Model_recall_21 : decode zm_Model_recall.2.1 21 = .ok (.iconst 2, 1) := by decide +kernel
theorem zd_Model_recall_22 : decode zm_Model_recall.2.1 22 = .ok (.if_icmp .eq 6, 3) := by decide +kernel
theorem zd_Model_recall_25 : decode zm_Model_recall.2.1 25 = .ok (.bipush (-2), 2) := by decide +kernel
theorem zd_Model_recall_27 : decode zm_Model_recall.2.1 27 = .ok (.ireturn, 1) := by decide +kernel
theorem zd_Model_recall_28 : decode zm_Model_recall.2.1 28 = .ok (.aload_n 0, 1) := by decide +kernel
theorem zd_Model_recall_29 : decode zm_Model_recall.2.1 29 = .ok (.aload_n 0, 1) := by decide +kernel
theorem zd_Model_recall_30 : decode zm_Model_recall.2.1 30 = .ok (.getfield 9, 3) := by decide +kernel
theorem zd_Model_recall_33 : decode zm_Model_recall.2.1 33 = .ok (.invokevirtual 284, 3) := by decide +kernel
theorem zd_Model_recall_36 : decode zm_Model_recall.2.1 36 = .ok (.aload_n 0, 1) := by decide +kernel
theorem zd_Model_recall_37 : decode zm_Model_recall.2.1 37 = .ok (.iload_n 1, 1) := by decide +kernel
theorem zd_Model_recall_38 : decode zm_Model_recall.2.1 38 = .ok (.invokevirtual 303, 3) := by decide +kernel
theorem zd_Model_recall_41 : decode zm_Model_recall.2.1 41 = .ok (.ireturn, 1) := by decide +kernel
theorem zb_Model_recall_0 {Γ : zG} {σ : zS} {x1 : Int32} {dc : Nat} {P : Int32 → zS → Prop}  (hm : z_Ci dc zm_Model_isBook [.inr (63), .inl (x1)] (z_pI σ 63 11 (nI 0)) P) (hdp : dc < z_dep Γ) (k : ∀ r σ1, P r σ1 → z_J Γ zm_Model_recall 10 [some (.inr (63)), some (.inl (x1))] [.inl (r)] σ1) : z_J Γ zm_Model_recall 0 [some (.inr (63)), some (.inl (x1))] [] σ := by
  refine zj_aload_n zd_Model_recall_0 rfl ?_
  refine zj_iconst (v := nI 0) zd_Model_recall_1 (by decide) ?_
  refine zj_putI rfl (by decide) rfl zu_Model zy_Model_ok zn_Model (k := 11) (by decide) rfl rfl zl_Model_91 rfl rfl zd_Model_recall_2 ?_
  refine zj_aload_n zd_Model_recall_5 rfl ?_
  refine zj_iload_n zd_Model_recall_6 rfl ?_
  exact zj_callVi (As := [.inl (x1)]) hm hdp rfl (by decide) rfl zl_Model_184 zq_Model_isBook zd_Model_recall_7 rfl (Nat.le_of_ble_eq_true rfl) (fun r σ1 h => (k r σ1 h))
theorem zb_Model_recall_10 {Γ : zG} {σ : zS} {x1 y0 : Int32}  (kt : ¬ y0 = 0 → z_J Γ zm_Model_recall 15 [some (.inr (63)), some (.inl (x1))] [] σ) (kf : y0 = 0 → z_J Γ zm_Model_recall 13 [none, none] [] σ) : z_J Γ zm_Model_recall 10 [some (.inr (63)), some (.inl (x1))] [.inl (y0)] σ := by
  exact zj_if_ne zd_Model_recall_10 (by decide) (fun h => (kt h)) (fun h => (zj_weak (L' := [none, none]) trivial (kf h)))
theorem zb_Model_recall_13 {Γ : zG} {σ : zS}  (e : z_end Γ (some ((-1))) σ) : z_J Γ zm_Model_recall 13 [none, none] [] σ := by
  refine zj_iconst (v := (-1)) zd_Model_recall_13 (by decide) ?_
  exact zj_ireturn rfl zd_Model_recall_14 e
theorem zb_Model_recall_15 {Γ : zG} {σ : zS} {x1 : Int32} {k1 : Nat}  (b1 : z_ix x1 53 k1) (kt : (σ.1 64 k1) = (nI 2) → z_J Γ zm_Model_recall 28 [some (.inr (63)), some (.inl (x1))] [] σ) (kf : ¬ (σ.1 64 k1) = (nI 2) → z_J Γ zm_Model_recall 25 [none, none] [] σ) : z_J Γ zm_Model_recall 15 [some (.inr (63)), some (.inl (x1))] [] σ := by
  refine zj_aload_n zd_Model_recall_15 rfl ?_
  refine zj_getR rfl (by decide) rfl zu_Model (k := 0) (by decide) rfl zl_Model_9 zd_Model_recall_16 (o' := 64) rfl ?_
  refine zj_iload_n zd_Model_recall_19 rfl ?_
  refine zj_iaload rfl (by decide) b1 zd_Model_recall_20 ?_
  refine zj_iconst (v := nI 2) zd_Model_recall_21 (by decide) ?_
  exact zj_icmp_eq zd_Model_recall_22 (by decide) (fun h => (kt h)) (fun h => (zj_weak (L' := [none, none]) trivial (kf h)))
theorem zb_Model_recall_25 {Γ : zG} {σ : zS}  (e : z_end Γ (some ((-2))) σ) : z_J Γ zm_Model_recall 25 [none, none] [] σ := by
  refine zj_bipush (v := (-2)) zd_Model_recall_25 (by decide) ?_
  exact zj_ireturn rfl zd_Model_recall_27 e
theorem zb_Model_recall_28 {Γ : zG} {σ : zS} {x1 : Int32} {dc : Nat} {P : zS → Prop}  (hm : z_Cv dc zm_Model_remember [.inr (63), .inr (64)] σ P) (hdp : dc < z_dep Γ) (k : ∀ σ1, P σ1 → z_J Γ zm_Model_recall 36 [some (.inr (63)), some (.inl (x1))] [] σ1) : z_J Γ zm_Model_recall 28 [some (.inr (63)), some (.inl (x1))] [] σ := by
  refine zj_aload_n zd_Model_recall_28 rfl ?_
  refine zj_aload_n zd_Model_recall_29 rfl ?_
  refine zj_getR rfl (by decide) rfl zu_Model (k := 0) (by decide) rfl zl_Model_9 zd_Model_recall_30 (o' := 64) rfl ?_
  exact zj_callVv (As := [.inr (64)]) hm hdp rfl (by decide) rfl zl_Model_284 zq_Model_remember zd_Model_recall_33 rfl (Nat.le_of_ble_eq_true rfl) (fun σ1 h => (k σ1 h))
theorem zb_Model_recall_36 {Γ : zG} {σ : zS} {x1 : Int32} {dc : Nat} {P : Int32 → zS → Prop}  (hm : z_Ci dc zm_Model_goRecall [.inr (63), .inl (x1)] σ P) (hdp : dc < z_dep Γ) (k : ∀ r σ1, P r σ1 → z_J Γ zm_Model_recall 41 [none, none] [.inl (r)] σ1) : z_J Γ zm_Model_recall 36 [some (.inr (63)), some (.inl (x1))] [] σ := by
  refine zj_aload_n zd_Model_recall_36 rfl ?_
  refine zj_iload_n zd_Model_recall_37 rfl ?_
  exact zj_callVi (As := [.inl (x1)]) hm hdp rfl (by decide) rfl zl_Model_303 zq_Model_goRecall zd_Model_recall_38 rfl (Nat.le_of_ble_eq_true rfl) (fun r σ1 h => (zj_weak (L' := [none, none]) trivial (k r σ1 h)))
theorem zb_Model_recall_41 {Γ : zG} {σ : zS} {y0 : Int32}  (e : z_end Γ (some (y0)) σ) : z_J Γ zm_Model_recall 41 [none, none] [.inl (y0)] σ := by
  exact zj_ireturn rfl zd_Model_recall_41 e
theorem zd_Model_goRecall_0 : decode zm_Model_goRecall.2.1 0 = .ok (.aload_n 0, 1) := by decide +kernel
theorem zd_Model_goRecall_1 : decode zm_Model_goRecall.2.1 1 = .ok (.getfield 9, 3) := by decide +kernel
theorem zd_Model_goRecall_4 : decode zm_Model_goRecall.2.1 4 = .ok (.iload_n 1, 1) := by decide +kernel
theorem zd_Model_goRecall_5 : decode zm_Model_goRecall.2.1 5 = .ok (.iconst 0, 1) := by decide +kernel
theorem zd_Model_goRecall_6 : decode zm_Model_goRecall.2.1 6 = .ok (.iastore, 1) := by decide +kernel
theorem zd_Model_goRecall_7 : decode zm_Model_goRecall.2.1 7 = .ok (.aload_n 0, 1) := by decide +kernel
theorem zd_Model_goRecall_8 : decode zm_Model_goRecall.2.1 8 = .ok (.getfield 9, 3) := by decide +kernel
theorem zd_Model_goRecall_11 : decode zm_Model_goRecall.2.1 11 = .ok (.bipush 12, 2) := by decide +kernel
theorem zd_Model_goRecall_13 : decode zm_Model_goRecall.2.1 13 = .ok (.iload_n 1, 1) := by decide +kernel
theorem zd_Model_goRecall_14 : decode zm_Model_goRecall.2.1 14 = .ok (.iadd, 1) := by decide +kernel
theorem zd_Model_goRecall_15 : decode zm_Model_goRecall.2.1 15 = .ok (.iaload, 1) := by decide +kernel
theorem zd_Model_goRecall_16 : decode zm_Model_goRecall.2.1 16 = .ok (.ireturn, 1) := by decide +kernel
theorem zb_Model_goRecall_0 {Γ : zG} {σ : zS} {x1 : Int32} {k1 k2 : Nat}  (b1 : z_ix x1 53 k1) (b2 : z_ix ((nI 12) + x1) 53 k2) (e : z_end Γ (some ((z_pI σ 64 k1 (nI 0)).1 64 k2)) (z_pI σ 64 k1 (nI 0))) : z_J Γ zm_Model_goRecall 0 [some (.inr (63)), some (.inl (x1))] [] σ := by
  refine zj_aload_n zd_Model_goRecall_0 rfl ?_
  refine zj_getR rfl (by decide) rfl zu_Model (k := 0) (by decide) rfl zl_Model_9 zd_Model_goRecall_1 (o' := 64) rfl ?_
  refine zj_iload_n zd_Model_goRecall_4 rfl ?_
  refine zj_iconst (v := nI 0) zd_Model_goRecall_5 (by decide) ?_
  refine zj_iastore rfl (by decide) b1 zd_Model_goRecall_6 ?_
  refine zj_aload_n zd_Model_goRecall_7 rfl ?_
  refine zj_getR rfl (by decide) rfl zu_Model (k := 0) (by decide) rfl zl_Model_9 zd_Model_goRecall_8 (o' := 64) rfl ?_
  refine zj_bipush (v := nI 12) zd_Model_goRecall_11 (by decide) ?_
  refine zj_iload_n zd_Model_goRecall_13 rfl ?_
  refine zj_iadd zd_Model_goRecall_14 ?_
  refine zj_iaload rfl (by decide) b2 zd_Model_goRecall_15 ?_
  exact zj_ireturn rfl zd_Model_goRecall_16 e
theorem zd_Model_shot_0 : decode zm_Model_shot.2.1 0 = .ok (.aload_n 0, 1) := by decide +kernel
theorem zd_Model_shot_1 : decode zm_Model_shot.2.1 1 = .ok (.iconst 0, 1) := by decide +kernel
theorem zd_Model_shot_2 : decode zm_Model_shot.2.1 2 = .ok (.putfield 91, 3) := by decide +kernel
theorem zd_Model_shot_5 : decode zm_Model_shot.2.1 5 = .ok (.aload_n 0, 1) := by decide +kernel
theorem zd_Model_shot_6 : decode zm_Model_shot.2.1 6 = .ok (.iload_n 1, 1) := by decide +kernel
theorem zd_Model_shot_7 : decode zm_Model_shot.2.1 7 = .ok (.iload_n 2, 1) := by decide +kernel
theorem zd_Model_shot_8 : decode zm_Model_shot.2.1 8 = .ok (.invokevirtual 306, 3) := by decide +kernel
theorem zd_Model_shot_11 : decode zm_Model_shot.2.1 11 = .ok (.istore_n 3, 1) := by decide +kernel
theorem zd_Model_shot_12 : decode zm_Model_shot.2.1 12 = .ok (.iload_n 3, 1) := by decide +kernel
theorem zd_Model_shot_13 : decode zm_Model_shot.2.1 13 = .ok (.ifCond .ge 5, 3) := by decide +kernel
theorem zd_Model_shot_16 : decode zm_Model_shot.2.1 16 = .ok (.iload_n 3, 1) := by decide +kernel
theorem zd_Model_shot_17 : decode zm_Model_shot.2.1 17 = .ok (.ireturn, 1) := by decide +kernel
theorem zd_Model_shot_18 : decode zm_Model_shot.2.1 18 = .ok (.aload_n 0, 1) := by decide +kernel
theorem zd_Model_shot_19 : decode zm_Model_shot.2.1 19 = .ok (.aload_n 0, 1) := by decide +kernel
theorem zd_Model_shot_20 : decode zm_Model_shot.2.1 20 = .ok (.getfield 9, 3) := by decide +kernel
theorem zd_Model_shot_23 : decode zm_Model_shot.2.1 23 = .ok (.invokevirtual 284, 3) := by decide +kernel
theorem zd_Model_shot_26 : decode zm_Model_shot.2.1 26 = .ok (.aload_n 0, 1) := by decide +kernel
theorem zd_Model_shot_27 : decode zm_Model_shot.2.1 27 = .ok (.iconst 0, 1) := by decide +kernel
theorem zd_Model_shot_28 : decode zm_Model_shot.2.1 28 = .ok (.putfield 94, 3) := by decide +kernel
theorem zd_Model_shot_31 : decode zm_Model_shot.2.1 31 = .ok (.aload_n 0, 1) := by decide +kernel
theorem zd_Model_shot_32 : decode zm_Model_shot.2.1 32 = .ok (.aload_n 0, 1) := by decide +kernel
theorem zd_Model_shot_33 : decode zm_Model_shot.2.1 33 = .ok (.aload_n 0, 1) := by decide +kernel
theorem zd_Model_shot_34 : decode zm_Model_shot.2.1 34 = .ok (.getfield 9, 3) := by decide +kernel
theorem zd_Model_shot_37 : decode zm_Model_shot.2.1 37 = .ok (.iload_n 1, 1) := by decide +kernel
theorem zd_Model_shot_38 : decode zm_Model_shot.2.1 38 = .ok (.iload_n 2, 1) := by decide +kernel
theorem zd_Model_shot_39 : decode zm_Model_shot.2.1 39 = .ok (.invokevirtual 309, 3) := by decide +kernel
theorem zd_Model_shot_42 : decode zm_Model_shot.2.1 42 = .ok (.invokevirtual 312, 3) := by decide +kernel
theorem zd_Model_shot_45 : decode zm_Model_shot.2.1 45 = .ok (.aload_n 0, 1) := by decide +kernel
theorem zd_Model_shot_46 : decode zm_Model_shot.2.1 46 = .ok (.aload_n 0, 1) := by decide +kernel
theorem zd_Model_shot_47 : decode zm_Model_shot.2.1 47 = .ok (.getfield 9, 3) := by decide +kernel
theorem zd_Model_shot_50 : decode zm_Model_shot.2.1 50 = .ok (.iload_n 1, 1) := by decide +kernel
theorem zd_Model_shot_51 : decode zm_Model_shot.2.1 51 = .ok (.invokevirtual 255, 3) := by decide +kernel
theorem zd_Model_shot_54 : decode zm_Model_shot.2.1 54 = .ok (.ireturn, 1) := by decide +kernel
theorem zb_Model_shot_0 {Γ : zG} {σ : zS} {x1 x2 : Int32} {dc : Nat} {P : Int32 → zS → Prop}  (hm : z_Ci dc zm_Model_refusesShot [.inr (63), .inl (x1), .inl (x2)] (z_pI σ 63 11 (nI 0)) P) (hdp : dc < z_dep Γ) (k : ∀ r σ1, P r σ1 → z_J Γ zm_Model_shot 11 [some (.inr (63)), some (.inl (x1)), some (.inl (x2)), none] [.inl (r)] σ1) : z_J Γ zm_Model_shot 0 [some (.inr (63)), some (.inl (x1)), some (.inl (x2)), none] [] σ := by
  refine zj_aload_n zd_Model_shot_0 rfl ?_
  refine zj_iconst (v := nI 0) zd_Model_shot_1 (by decide) ?_
  refine zj_putI rfl (by decide) rfl zu_Model zy_Model_ok zn_Model (k := 11) (by decide) rfl rfl zl_Model_91 rfl rfl zd_Model_shot_2 ?_
  refine zj_aload_n zd_Model_shot_5 rfl ?_
  refine zj_iload_n zd_Model_shot_6 rfl ?_
  refine zj_iload_n zd_Model_shot_7 rfl ?_
  exact zj_callVi (As := [.inl (x1), .inl (x2)]) hm hdp rfl (by decide) rfl zl_Model_306 zq_Model_refusesShot zd_Model_shot_8 rfl (Nat.le_of_ble_eq_true rfl) (fun r σ1 h => (k r σ1 h))
theorem zb_Model_shot_11 {Γ : zG} {σ : zS} {x1 x2 y0 : Int32}  (kt : 0 ≤ y0 → z_J Γ zm_Model_shot 18 [some (.inr (63)), some (.inl (x1)), some (.inl (x2)), none] [] σ) (kf : ¬ 0 ≤ y0 → z_J Γ zm_Model_shot 16 [none, none, none, some (.inl (y0))] [] σ) : z_J Γ zm_Model_shot 11 [some (.inr (63)), some (.inl (x1)), some (.inl (x2)), none] [.inl (y0)] σ := by
  refine zj_istore_n (L' := [some (.inr (63)), some (.inl (x1)), some (.inl (x2)), some (.inl (y0))]) zd_Model_shot_11 (by decide) rfl ?_
  refine zj_iload_n zd_Model_shot_12 rfl ?_
  exact zj_if_ge zd_Model_shot_13 (by decide) (fun h => (zj_weak (L' := [some (.inr (63)), some (.inl (x1)), some (.inl (x2)), none]) ⟨rfl, ⟨rfl, ⟨rfl, trivial⟩⟩⟩ (kt h))) (fun h => (zj_weak (L' := [none, none, none, some (.inl (y0))]) ⟨rfl, trivial⟩ (kf h)))
theorem zb_Model_shot_16 {Γ : zG} {σ : zS} {x3 : Int32}  (e : z_end Γ (some (x3)) σ) : z_J Γ zm_Model_shot 16 [none, none, none, some (.inl (x3))] [] σ := by
  refine zj_iload_n zd_Model_shot_16 rfl ?_
  exact zj_ireturn rfl zd_Model_shot_17 e
theorem zb_Model_shot_18 {Γ : zG} {σ : zS} {x1 x2 : Int32} {dc : Nat} {P : zS → Prop}  (hm : z_Cv dc zm_Model_remember [.inr (63), .inr (64)] σ P) (hdp : dc < z_dep Γ) (k : ∀ σ1, P σ1 → z_J Γ zm_Model_shot 26 [some (.inr (63)), some (.inl (x1)), some (.inl (x2)), none] [] σ1) : z_J Γ zm_Model_shot 18 [some (.inr (63)), some (.inl (x1)), some (.inl (x2)), none] [] σ := by
  refine zj_aload_n zd_Model_shot_18 rfl ?_
  refine zj_aload_n zd_Model_shot_19 rfl ?_
  refine zj_getR rfl (by decide) rfl zu_Model (k := 0) (by decide) rfl zl_Model_9 zd_Model_shot_20 (o' := 64) rfl ?_
  exact zj_callVv (As := [.inr (64)]) hm hdp rfl (by decide) rfl zl_Model_284 zq_Model_remember zd_Model_shot_23 rfl (Nat.le_of_ble_eq_true rfl) (fun σ1 h => (k σ1 h))
theorem zb_Model_shot_26 {Γ : zG} {σ : zS} {x1 x2 : Int32} {dc : Nat} {P : Int32 → zS → Prop}  (hm : z_Ci dc zm_Model_goShot [.inr (63), .inr (64), .inl (x1), .inl (x2)] (z_pI σ 63 10 (nI 0)) P) (hdp : dc < z_dep Γ) (k : ∀ r σ1, P r σ1 → z_J Γ zm_Model_shot 42 [some (.inr (63)), some (.inl (x1)), none, none] [.inl (r), .inr (63)] σ1) : z_J Γ zm_Model_shot 26 [some (.inr (63)), some (.inl (x1)), some (.inl (x2)), none] [] σ := by
  refine zj_aload_n zd_Model_shot_26 rfl ?_
  refine zj_iconst (v := nI 0) zd_Model_shot_27 (by decide) ?_
  refine zj_putI rfl (by decide) rfl zu_Model zy_Model_ok zn_Model (k := 10) (by decide) rfl rfl zl_Model_94 rfl rfl zd_Model_shot_28 ?_
  refine zj_aload_n zd_Model_shot_31 rfl ?_
  refine zj_aload_n zd_Model_shot_32 rfl ?_
  refine zj_aload_n zd_Model_shot_33 rfl ?_
  refine zj_getR rfl (by decide) rfl zu_Model (k := 0) (by decide) rfl zl_Model_9 zd_Model_shot_34 (o' := 64) rfl ?_
  refine zj_iload_n zd_Model_shot_37 rfl ?_
  refine zj_iload_n zd_Model_shot_38 rfl ?_
  exact zj_callVi (As := [.inr (64), .inl (x1), .inl (x2)]) hm hdp rfl (by decide) rfl zl_Model_309 zq_Model_goShot zd_Model_shot_39 rfl (Nat.le_of_ble_eq_true rfl) (fun r σ1 h => (zj_weak (L' := [some (.inr (63)), some (.inl (x1)), none, none]) ⟨rfl, ⟨rfl, trivial⟩⟩ (k r σ1 h)))
theorem zb_Model_shot_42 {Γ : zG} {σ : zS} {x1 y0 : Int32} {dc : Nat} {P : zS → Prop}  (hm : z_Cv dc zm_Model_tell [.inr (63), .inl (y0)] σ P) (hdp : dc < z_dep Γ) (k : ∀ σ1, P σ1 → z_J Γ zm_Model_shot 45 [some (.inr (63)), some (.inl (x1)), none, none] [] σ1) : z_J Γ zm_Model_shot 42 [some (.inr (63)), some (.inl (x1)), none, none] [.inl (y0), .inr (63)] σ := by
  exact zj_callVv (As := [.inl (y0)]) hm hdp rfl (by decide) rfl zl_Model_312 zq_Model_tell zd_Model_shot_42 rfl (Nat.le_of_ble_eq_true rfl) (fun σ1 h => (k σ1 h))
theorem zb_Model_shot_45 {Γ : zG} {σ : zS} {x1 : Int32} {dc : Nat} {P : Int32 → zS → Prop}  (hm : z_Ci dc zm_Model_heightOf [.inr (63), .inr (64), .inl (x1)] σ P) (hdp : dc < z_dep Γ) (k : ∀ r σ1, P r σ1 → z_J Γ zm_Model_shot 54 [none, none, none, none] [.inl (r)] σ1) : z_J Γ zm_Model_shot 45 [some (.inr (63)), some (.inl (x1)), none, none] [] σ := by
  refine zj_aload_n zd_Model_shot_45 rfl ?_
  refine zj_aload_n zd_Model_shot_46 rfl ?_
  refine zj_getR rfl (by decide) rfl zu_Model (k := 0) (by decide) rfl zl_Model_9 zd_Model_shot_47 (o' := 64) rfl ?_
  refine zj_iload_n zd_Model_shot_50 rfl ?_
  exact zj_callVi (As := [.inr (64), .inl (x1)]) hm hdp rfl (by decide) rfl zl_Model_255 zq_Model_heightOf zd_Model_shot_51 rfl (Nat.le_of_ble_eq_true rfl) (fun r σ1 h => (zj_weak (L' := [none, none, none, none]) trivial (k r σ1 h)))
theorem zb_Model_shot_54 {Γ : zG} {σ : zS} {y0 : Int32}  (e : z_end Γ (some (y0)) σ) : z_J Γ zm_Model_shot 54 [none, none, none, none] [.inl (y0)] σ := by
  exact zj_ireturn rfl zd_Model_shot_54 e
theorem zd_Model_refusesShot_0 : decode zm_Model_refusesShot.2.1 0 = .ok (.aload_n 0, 1) := by decide +kernel
theorem zd_Model_refusesShot_1 : decode zm_Model_refusesShot.2.1 1 = .ok (.iload_n 1, 1) := by decide +kernel
theorem zd_Model_refusesShot_2 : decode zm_Model_refusesShot.2.1 2 = .ok (.invokevirtual 266, 3) := by decide +kernel
theorem zd_Model_refusesShot_5 : decode zm_Model_refusesShot.2.1 5 = .ok (.ifCond .eq 12, 3) := by decide +kernel
theorem zd_Model_refusesShot_8 : decode zm_Model_refusesShot.2.1 8 = .ok (.iload_n 2, 1) := by decide +kernel
theorem zd_Model_refusesShot_9 : decode zm_Model_refusesShot.2.1 9 = .ok (.iconst 1, 1) := by decide +kernel
theorem zd_Model_refusesShot_10 : decode zm_Model_refusesShot.2.1 10 = .ok (.iconst 4, 1) := by decide +kernel
theorem zd_Model_refusesShot_11 : decode zm_Model_refusesShot.2.1 11 = .ok (.invokestatic 100, 3) := by decide +kernel
theorem zd_Model_refusesShot_14 : decode zm_Model_refusesShot.2.1 14 = .ok (.ifCond .ne 5, 3) := by decide +kernel
theorem zd_Model_refusesShot_17 : decode zm_Model_refusesShot.2.1 17 = .ok (.iconst (-1), 1) := by decide +kernel
theorem zd_Model_refusesShot_18 : decode zm_Model_refusesShot.2.1 18 = .ok (.ireturn, 1) := by decide +kernel
theorem zd_Model_refusesShot_19 : decode zm_Model_refusesShot.2.1 19 = .ok (.aload_n 0, 1) := by decide +kernel
theorem zd_Model_refusesShot_20 : decode zm_Model_refusesShot.2.1 20 = .ok (.aload_n 0, 1) := by decide +kernel
theorem zd_Model_refusesShot_21 : decode zm_Model_refusesShot.2.1 21 = .ok (.getfield 9, 3) := by decide +kernel
theorem zd_Model_refusesShot_24 : decode zm_Model_refusesShot.2.1 24 = .ok (.iload_n 1, 1) := by decide +kernel
theorem zd_Model_refusesShot_25 : decode zm_Model_refusesShot.2.1 25 = .ok (.invokevirtual 247, 3) := by decide +kernel
theorem zd_Model_refusesShot_28 : decode zm_Model_refusesShot.2.1 28 = .ok (.ifCond .ne 8, 3) := by decide +kernel
theorem zd_Model_refusesShot_31 : decode zm_Model_refusesShot.2.1 31 = .ok (.bipush (-2), 2) := by decide +kernel
theorem zd_Model_refusesShot_33 : decode zm_Model_refusesShot.2.1 33 = .ok (.goto 4, 3) := by decide +kernel
theorem zd_Model_refusesShot_36 : decode zm_Model_refusesShot.2.1 36 = .ok (.iconst 0, 1) := by decide +kernel
theorem zd_Model_refusesShot_37 : decode zm_Model_refusesShot.2.1 37 = .ok (.ireturn, 1) := by decide +kernel
theorem zb_Model_refusesShot_0 {Γ : zG} {σ : zS} {x1 x2 : Int32} {dc : Nat} {P : Int32 → zS → Prop}  (hm : z_Ci dc zm_Model_isColumn [.inr (63), .inl (x1)] σ P) (hdp : dc < z_dep Γ) (k : ∀ r σ1, P r σ1 → z_J Γ zm_Model_refusesShot 5 [some (.inr (63)), some (.inl (x1)), some (.inl (x2))] [.inl (r)] σ1) : z_J Γ zm_Model_refusesShot 0 [some (.inr (63)), some (.inl (x1)), some (.inl (x2))] [] σ := by
  refine zj_aload_n zd_Model_refusesShot_0 rfl ?_
  refine zj_iload_n zd_Model_refusesShot_1 rfl ?_
  exact zj_callVi (As := [.inl (x1)]) hm hdp rfl (by decide) rfl zl_Model_266 zq_Model_isColumn zd_Model_refusesShot_2 rfl (Nat.le_of_ble_eq_true rfl) (fun r σ1 h => (k r σ1 h))
theorem zb_Model_refusesShot_5 {Γ : zG} {σ : zS} {x1 x2 y0 : Int32}  (kt : y0 = 0 → z_J Γ zm_Model_refusesShot 17 [none, none, none] [] σ) (kf : ¬ y0 = 0 → z_J Γ zm_Model_refusesShot 8 [some (.inr (63)), some (.inl (x1)), some (.inl (x2))] [] σ) : z_J Γ zm_Model_refusesShot 5 [some (.inr (63)), some (.inl (x1)), some (.inl (x2))] [.inl (y0)] σ := by
  exact zj_if_eq zd_Model_refusesShot_5 (by decide) (fun h => (zj_weak (L' := [none, none, none]) trivial (kt h))) (fun h => (kf h))
theorem zb_Model_refusesShot_8 {Γ : zG} {σ : zS} {x1 x2 : Int32} {dc : Nat} {P : Int32 → zS → Prop}  (hm : z_Ci dc zm_Model_in [.inl (x2), .inl (nI 1), .inl (nI 4)] σ P) (hdp : dc < z_dep Γ) (k : ∀ r σ1, P r σ1 → z_J Γ zm_Model_refusesShot 14 [some (.inr (63)), some (.inl (x1)), none] [.inl (r)] σ1) : z_J Γ zm_Model_refusesShot 8 [some (.inr (63)), some (.inl (x1)), some (.inl (x2))] [] σ := by
  refine zj_iload_n zd_Model_refusesShot_8 rfl ?_
  refine zj_iconst (v := nI 1) zd_Model_refusesShot_9 (by decide) ?_
  refine zj_iconst (v := nI 4) zd_Model_refusesShot_10 (by decide) ?_
  exact zj_callSi (As := [.inl (x2), .inl (nI 1), .inl (nI 4)]) hm hdp zl_Model_100 zq_Model_in zd_Model_refusesShot_11 rfl (Nat.le_of_ble_eq_true rfl) (fun r σ1 h => (zj_weak (L' := [some (.inr (63)), some (.inl (x1)), none]) ⟨rfl, ⟨rfl, trivial⟩⟩ (k r σ1 h)))
theorem zb_Model_refusesShot_14 {Γ : zG} {σ : zS} {x1 y0 : Int32}  (kt : ¬ y0 = 0 → z_J Γ zm_Model_refusesShot 19 [some (.inr (63)), some (.inl (x1)), none] [] σ) (kf : y0 = 0 → z_J Γ zm_Model_refusesShot 17 [none, none, none] [] σ) : z_J Γ zm_Model_refusesShot 14 [some (.inr (63)), some (.inl (x1)), none] [.inl (y0)] σ := by
  exact zj_if_ne zd_Model_refusesShot_14 (by decide) (fun h => (kt h)) (fun h => (zj_weak (L' := [none, none, none]) trivial (kf h)))
theorem zb_Model_refusesShot_17 {Γ : zG} {σ : zS}  (e : z_end Γ (some ((-1))) σ) : z_J Γ zm_Model_refusesShot 17 [none, none, none] [] σ := by
  refine zj_iconst (v := (-1)) zd_Model_refusesShot_17 (by decide) ?_
  exact zj_ireturn rfl zd_Model_refusesShot_18 e
theorem zb_Model_refusesShot_19 {Γ : zG} {σ : zS} {x1 : Int32} {dc : Nat} {P : Int32 → zS → Prop}  (hm : z_Ci dc zm_Model_inColumn [.inr (63), .inr (64), .inl (x1)] σ P) (hdp : dc < z_dep Γ) (k : ∀ r σ1, P r σ1 → z_J Γ zm_Model_refusesShot 28 [none, none, none] [.inl (r)] σ1) : z_J Γ zm_Model_refusesShot 19 [some (.inr (63)), some (.inl (x1)), none] [] σ := by
  refine zj_aload_n zd_Model_refusesShot_19 rfl ?_
  refine zj_aload_n zd_Model_refusesShot_20 rfl ?_
  refine zj_getR rfl (by decide) rfl zu_Model (k := 0) (by decide) rfl zl_Model_9 zd_Model_refusesShot_21 (o' := 64) rfl ?_
  refine zj_iload_n zd_Model_refusesShot_24 rfl ?_
  exact zj_callVi (As := [.inr (64), .inl (x1)]) hm hdp rfl (by decide) rfl zl_Model_247 zq_Model_inColumn zd_Model_refusesShot_25 rfl (Nat.le_of_ble_eq_true rfl) (fun r σ1 h => (zj_weak (L' := [none, none, none]) trivial (k r σ1 h)))
theorem zb_Model_refusesShot_28 {Γ : zG} {σ : zS} {y0 : Int32}  (kt : ¬ y0 = 0 → z_J Γ zm_Model_refusesShot 36 [none, none, none] [] σ) (kf : y0 = 0 → z_J Γ zm_Model_refusesShot 31 [none, none, none] [] σ) : z_J Γ zm_Model_refusesShot 28 [none, none, none] [.inl (y0)] σ := by
  exact zj_if_ne zd_Model_refusesShot_28 (by decide) (fun h => (kt h)) (fun h => (kf h))
theorem zb_Model_refusesShot_31 {Γ : zG} {σ : zS}  (k : z_J Γ zm_Model_refusesShot 37 [none, none, none] [.inl ((-2))] σ) : z_J Γ zm_Model_refusesShot 31 [none, none, none] [] σ := by
  refine zj_bipush (v := (-2)) zd_Model_refusesShot_31 (by decide) ?_
  exact zj_goto zd_Model_refusesShot_33 (by decide) k
theorem zb_Model_refusesShot_36 {Γ : zG} {σ : zS}  (k : z_J Γ zm_Model_refusesShot 37 [none, none, none] [.inl (nI 0)] σ) : z_J Γ zm_Model_refusesShot 36 [none, none, none] [] σ := by
  refine zj_iconst (v := nI 0) zd_Model_refusesShot_36 (by decide) ?_
  exact k
theorem zb_Model_refusesShot_37 {Γ : zG} {σ : zS} {y0 : Int32}  (e : z_end Γ (some (y0)) σ) : z_J Γ zm_Model_refusesShot 37 [none, none, none] [.inl (y0)] σ := by
  exact zj_ireturn rfl zd_Model_refusesShot_37 e
theorem zd_Model_goShot_0 : decode zm_Model_goShot.2.1 0 = .ok (.iconst 0, 1) := by decide +kernel
theorem zd_Model_goShot_1 : decode zm_Model_goShot.2.1 1 = .ok (.istore 4, 2) := by decide +kernel
theorem zd_Model_goShot_3 : decode zm_Model_goShot.2.1 3 = .ok (.iconst 0, 1) := by decide +kernel
theorem zd_Model_goShot_4 : decode zm_Model_goShot.2.1 4 = .ok (.istore 5, 2) := by decide +kernel
theorem zd_Model_goShot_6 : decode zm_Model_goShot.2.1 6 = .ok (.iload 5, 2) := by decide +kernel
theorem zd_Model_goShot_8 : decode zm_Model_goShot.2.1 8 = .ok (.iload_n 3, 1) := by decide +kernel
theorem zd_Model_goShot_9 : decode zm_Model_goShot.2.1 9 = .ok (.if_icmp .ge 40, 3) := by decide +kernel
theorem zd_Model_goShot_12 : decode zm_Model_goShot.2.1 12 = .ok (.aload_n 0, 1) := by decide +kernel
theorem zd_Model_goShot_13 : decode zm_Model_goShot.2.1 13 = .ok (.aload_n 1, 1) := by decide +kernel
theorem zd_Model_goShot_14 : decode zm_Model_goShot.2.1 14 = .ok (.iload_n 2, 1) := by decide +kernel
theorem zd_Model_goShot_15 : decode zm_Model_goShot.2.1 15 = .ok (.invokevirtual 269, 3) := by decide +kernel
theorem zd_Model_goShot_18 : decode zm_Model_goShot.2.1 18 = .ok (.istore 6, 2) := by decide +kernel
theorem zd_Model_goShot_20 : decode zm_Model_goShot.2.1 20 = .ok (.iload 6, 2) := by decide +kernel
theorem zd_Model_goShot_22 : decode zm_Model_goShot.2.1 22 = .ok (.iconst (-1), 1) := by decide +kernel
theorem zd_Model_goShot_23 : decode zm_Model_goShot.2.1 23 = .ok (.if_icmp .ne 6, 3) := by decide +kernel
theorem zd_Model_goShot_26 : decode zm_Model_goShot.2.1 26 = .ok (.iload 4, 2) := by decide +kernel
theorem zd_Model_goShot_28 : decode zm_Model_goShot.2.1 28 = .ok (.ireturn, 1) := by decide +kernel
theorem zd_Model_goShot_29 : decode zm_Model_goShot.2.1 29 = .ok (.aload_n 1, 1) := by decide +kernel
theorem zd_Model_goShot_30 : decode zm_Model_goShot.2.1 30 = .ok (.iload 6, 2) := by decide +kernel
theorem zd_Model_goShot_32 : decode zm_Model_goShot.2.1 32 = .ok (.iconst 3, 1) := by decide +kernel
theorem zd_Model_goShot_33 : decode zm_Model_goShot.2.1 33 = .ok (.iastore, 1) := by decide +kernel
theorem zd_Model_goShot_34 : decode zm_Model_goShot.2.1 34 = .ok (.iload 4, 2) := by decide +kernel
theorem zd_Model_goShot_36 : decode zm_Model_goShot.2.1 36 = .ok (.iconst 1, 1) := by decide +kernel
theorem zd_Model_goShot_37 : decode zm_Model_goShot.2.1 37 = .ok (.iload 6, 2) := by decide +kernel
theorem zd_Model_goShot_39 : decode zm_Model_goShot.2.1 39 = .ok (.ishl, 1) := by decide +kernel
theorem zd_Model_goShot_40 : decode zm_Model_goShot.2.1 40 = .ok (.ior, 1) := by decide +kernel
theorem zd_Model_goShot_41 : decode zm_Model_goShot.2.1 41 = .ok (.istore 4, 2) := by decide +kernel
theorem zd_Model_goShot_43 : decode zm_Model_goShot.2.1 43 = .ok (.iinc 5 1, 3) := by decide +kernel
theorem zd_Model_goShot_46 : decode zm_Model_goShot.2.1 46 = .ok (.goto (-40), 3) := by decide +kernel
theorem zd_Model_goShot_49 : decode zm_Model_goShot.2.1 49 = .ok (.iload 4, 2) := by decide +kernel
theorem zd_Model_goShot_51 : decode zm_Model_goShot.2.1 51 = .ok (.ireturn, 1) := by decide +kernel
theorem zb_Model_goShot_0 {Γ : zG} {σ : zS} {a1 : Nat} {x2 x3 : Int32} (h_a1 : z_kd a1 = (11, 53)) (k : z_J Γ zm_Model_goShot 6 [some (.inr (63)), some (.inr (a1)), some (.inl (x2)), some (.inl (x3)), some (.inl (nI 0)), some (.inl (nI 0)), none] [] σ) : z_J Γ zm_Model_goShot 0 [some (.inr (63)), some (.inr (a1)), some (.inl (x2)), some (.inl (x3)), none, none, none] [] σ := by
  refine zj_iconst (v := nI 0) zd_Model_goShot_0 (by decide) ?_
  refine zj_istore (L' := [some (.inr (63)), some (.inr (a1)), some (.inl (x2)), some (.inl (x3)), some (.inl (nI 0)), none, none]) zd_Model_goShot_1 (by decide) rfl ?_
  refine zj_iconst (v := nI 0) zd_Model_goShot_3 (by decide) ?_
  refine zj_istore (L' := [some (.inr (63)), some (.inr (a1)), some (.inl (x2)), some (.inl (x3)), some (.inl (nI 0)), some (.inl (nI 0)), none]) zd_Model_goShot_4 (by decide) rfl ?_
  exact k
theorem zb_Model_goShot_6 {Γ : zG} {σ : zS} {a1 : Nat} {x2 x3 x4 x5 : Int32} (h_a1 : z_kd a1 = (11, 53)) (kt : x3 ≤ x5 → z_J Γ zm_Model_goShot 49 [none, none, none, none, some (.inl (x4)), none, none] [] σ) (kf : ¬ x3 ≤ x5 → z_J Γ zm_Model_goShot 12 [some (.inr (63)), some (.inr (a1)), some (.inl (x2)), some (.inl (x3)), some (.inl (x4)), some (.inl (x5)), none] [] σ) : z_J Γ zm_Model_goShot 6 [some (.inr (63)), some (.inr (a1)), some (.inl (x2)), some (.inl (x3)), some (.inl (x4)), some (.inl (x5)), none] [] σ := by
  refine zj_iload zd_Model_goShot_6 rfl ?_
  refine zj_iload_n zd_Model_goShot_8 rfl ?_
  exact zj_icmp_ge zd_Model_goShot_9 (by decide) (fun h => (zj_weak (L' := [none, none, none, none, some (.inl (x4)), none, none]) ⟨rfl, trivial⟩ (kt h))) (fun h => (kf h))
theorem zb_Model_goShot_12 {Γ : zG} {σ : zS} {a1 : Nat} {x2 x3 x4 x5 : Int32} {dc : Nat} {P : Int32 → zS → Prop} (h_a1 : z_kd a1 = (11, 53)) (hm : z_Ci dc zm_Model_highest [.inr (63), .inr (a1), .inl (x2)] σ P) (hdp : dc < z_dep Γ) (k : ∀ r σ1, P r σ1 → z_J Γ zm_Model_goShot 18 [some (.inr (63)), some (.inr (a1)), some (.inl (x2)), some (.inl (x3)), some (.inl (x4)), some (.inl (x5)), none] [.inl (r)] σ1) : z_J Γ zm_Model_goShot 12 [some (.inr (63)), some (.inr (a1)), some (.inl (x2)), some (.inl (x3)), some (.inl (x4)), some (.inl (x5)), none] [] σ := by
  refine zj_aload_n zd_Model_goShot_12 rfl ?_
  refine zj_aload_n zd_Model_goShot_13 rfl ?_
  refine zj_iload_n zd_Model_goShot_14 rfl ?_
  exact zj_callVi (As := [.inr (a1), .inl (x2)]) hm hdp rfl (by decide) rfl zl_Model_269 zq_Model_highest zd_Model_goShot_15 rfl (Nat.le_of_ble_eq_true rfl) (fun r σ1 h => (k r σ1 h))
theorem zb_Model_goShot_18 {Γ : zG} {σ : zS} {a1 : Nat} {x2 x3 x4 x5 y0 : Int32} (h_a1 : z_kd a1 = (11, 53)) (kt : ¬ y0 = (-1) → z_J Γ zm_Model_goShot 29 [some (.inr (63)), some (.inr (a1)), some (.inl (x2)), some (.inl (x3)), some (.inl (x4)), some (.inl (x5)), some (.inl (y0))] [] σ) (kf : y0 = (-1) → z_J Γ zm_Model_goShot 26 [none, none, none, none, some (.inl (x4)), none, none] [] σ) : z_J Γ zm_Model_goShot 18 [some (.inr (63)), some (.inr (a1)), some (.inl (x2)), some (.inl (x3)), some (.inl (x4)), some (.inl (x5)), none] [.inl (y0)] σ := by
  refine zj_istore (L' := [some (.inr (63)), some (.inr (a1)), some (.inl (x2)), some (.inl (x3)), some (.inl (x4)), some (.inl (x5)), some (.inl (y0))]) zd_Model_goShot_18 (by decide) rfl ?_
  refine zj_iload zd_Model_goShot_20 rfl ?_
  refine zj_iconst (v := (-1)) zd_Model_goShot_22 (by decide) ?_
  exact zj_icmp_ne zd_Model_goShot_23 (by decide) (fun h => (kt h)) (fun h => (zj_weak (L' := [none, none, none, none, some (.inl (x4)), none, none]) ⟨rfl, trivial⟩ (kf h)))
theorem zb_Model_goShot_26 {Γ : zG} {σ : zS} {x4 : Int32}  (e : z_end Γ (some (x4)) σ) : z_J Γ zm_Model_goShot 26 [none, none, none, none, some (.inl (x4)), none, none] [] σ := by
  refine zj_iload zd_Model_goShot_26 rfl ?_
  exact zj_ireturn rfl zd_Model_goShot_28 e
theorem zb_Model_goShot_29 {Γ : zG} {σ : zS} {a1 : Nat} {x2 x3 x4 x5 x6 : Int32} {k1 : Nat} (h_a1 : z_kd a1 = (11, 53)) (b1 : z_ix x6 53 k1) (k : z_J Γ zm_Model_goShot 6 [some (.inr (63)), some (.inr (a1)), some (.inl (x2)), some (.inl (x3)), some (.inl (x4 ||| ((nI 1) <<< (x6 &&& 31)))), some (.inl (x5 + nI 1)), none] [] (z_pI σ a1 k1 (nI 3))) : z_J Γ zm_Model_goShot 29 [some (.inr (63)), some (.inr (a1)), some (.inl (x2)), some (.inl (x3)), some (.inl (x4)), some (.inl (x5)), some (.inl (x6))] [] σ := by
  refine zj_aload_n zd_Model_goShot_29 rfl ?_
  refine zj_iload zd_Model_goShot_30 rfl ?_
  refine zj_iconst (v := nI 3) zd_Model_goShot_32 (by decide) ?_
  refine zj_iastore h_a1 (by decide) b1 zd_Model_goShot_33 ?_
  refine zj_iload zd_Model_goShot_34 rfl ?_
  refine zj_iconst (v := nI 1) zd_Model_goShot_36 (by decide) ?_
  refine zj_iload zd_Model_goShot_37 rfl ?_
  refine zj_ishl zd_Model_goShot_39 ?_
  refine zj_ior zd_Model_goShot_40 ?_
  refine zj_istore (L' := [some (.inr (63)), some (.inr (a1)), some (.inl (x2)), some (.inl (x3)), some (.inl (x4 ||| ((nI 1) <<< (x6 &&& 31)))), some (.inl (x5)), some (.inl (x6))]) zd_Model_goShot_41 (by decide) rfl ?_
  refine zj_iinc (v := nI 1) (L' := [some (.inr (63)), some (.inr (a1)), some (.inl (x2)), some (.inl (x3)), some (.inl (x4 ||| ((nI 1) <<< (x6 &&& 31)))), some (.inl (x5 + nI 1)), some (.inl (x6))]) zd_Model_goShot_43 rfl (by decide) (by decide) rfl ?_
  exact zj_goto zd_Model_goShot_46 (by decide) (zj_weak (L' := [some (.inr (63)), some (.inr (a1)), some (.inl (x2)), some (.inl (x3)), some (.inl (x4 ||| ((nI 1) <<< (x6 &&& 31)))), some (.inl (x5 + nI 1)), none]) ⟨rfl, ⟨rfl, ⟨rfl, ⟨rfl, ⟨rfl, ⟨rfl, trivial⟩⟩⟩⟩⟩⟩ k)
theorem zb_Model_goShot_49 {Γ : zG} {σ : zS} {x4 : Int32}  (e : z_end Γ (some (x4)) σ) : z_J Γ zm_Model_goShot 49 [none, none, none, none, some (.inl (x4)), none, none] [] σ := by
  refine zj_iload zd_Model_goShot_49 rfl ?_
  exact zj_ireturn rfl zd_Model_goShot_51 e
theorem zd_Model_tell_0 : decode zm_Model_tell.2.1 0 = .ok (.aload_n 0, 1) := by decide +kernel
theorem zd_Model_tell_1 : decode zm_Model_tell.2.1 1 = .ok (.getfield 30, 3) := by decide +kernel
theorem zd_Model_tell_4 : decode zm_Model_tell.2.1 4 = .ok (.aload_n 0, 1) := by decide +kernel
theorem zd_Model_tell_5 : decode zm_Model_tell.2.1 5 = .ok (.getfield 94, 3) := by decide +kernel
theorem zd_Model_tell_8 : decode zm_Model_tell.2.1 8 = .ok (.iload_n 1, 1) := by decide +kernel
theorem zd_Model_tell_9 : decode zm_Model_tell.2.1 9 = .ok (.iastore, 1) := by decide +kernel
theorem zd_Model_tell_10 : decode zm_Model_tell.2.1 10 = .ok (.aload_n 0, 1) := by decide +kernel
theorem zd_Model_tell_11 : decode zm_Model_tell.2.1 11 = .ok (.dup, 1) := by decide +kernel
theorem zd_Model_tell_12 : decode zm_Model_tell.2.1 12 = .ok (.getfield 94, 3) := by decide +kernel
theorem zd_Model_tell_15 : decode zm_Model_tell.2.1 15 = .ok (.iconst 1, 1) := by decide +kernel
theorem zd_Model_tell_16 : decode zm_Model_tell.2.1 16 = .ok (.iadd, 1) := by decide +kernel
theorem zd_Model_tell_17 : decode zm_Model_tell.2.1 17 = .ok (.putfield 94, 3) := by decide +kernel
theorem zd_Model_tell_20 : decode zm_Model_tell.2.1 20 = .ok (.return_, 1) := by decide +kernel
theorem zb_Model_tell_0 {Γ : zG} {σ : zS} {x1 : Int32} {k1 : Nat}  (b1 : z_ix (σ.1 63 10) 20 k1) (e : z_end Γ none (z_pI (z_pI σ 69 k1 x1) 63 10 (((z_pI σ 69 k1 x1).1 63 10) + (nI 1)))) : z_J Γ zm_Model_tell 0 [some (.inr (63)), some (.inl (x1))] [] σ := by
  refine zj_aload_n zd_Model_tell_0 rfl ?_
  refine zj_getR rfl (by decide) rfl zu_Model (k := 9) (by decide) rfl zl_Model_30 zd_Model_tell_1 (o' := 69) rfl ?_
  refine zj_aload_n zd_Model_tell_4 rfl ?_
  refine zj_getI rfl (by decide) rfl zu_Model (k := 10) (by decide) rfl zl_Model_94 zd_Model_tell_5 ?_
  refine zj_iload_n zd_Model_tell_8 rfl ?_
  refine zj_iastore rfl (by decide) b1 zd_Model_tell_9 ?_
  refine zj_aload_n zd_Model_tell_10 rfl ?_
  refine zj_dup zd_Model_tell_11 ?_
  refine zj_getI rfl (by decide) rfl zu_Model (k := 10) (by decide) rfl zl_Model_94 zd_Model_tell_12 ?_
  refine zj_iconst (v := nI 1) zd_Model_tell_15 (by decide) ?_
  refine zj_iadd zd_Model_tell_16 ?_
  refine zj_putI rfl (by decide) rfl zu_Model zy_Model_ok zn_Model (k := 10) (by decide) rfl rfl zl_Model_94 rfl rfl zd_Model_tell_17 ?_
  exact zj_return rfl zd_Model_tell_20 e
theorem zd_Model_days_0 : decode zm_Model_days.2.1 0 = .ok (.aload_n 0, 1) := by decide +kernel
theorem zd_Model_days_1 : decode zm_Model_days.2.1 1 = .ok (.iconst 0, 1) := by decide +kernel
theorem zd_Model_days_2 : decode zm_Model_days.2.1 2 = .ok (.putfield 91, 3) := by decide +kernel
theorem zd_Model_days_5 : decode zm_Model_days.2.1 5 = .ok (.iload_n 1, 1) := by decide +kernel
theorem zd_Model_days_6 : decode zm_Model_days.2.1 6 = .ok (.iconst 0, 1) := by decide +kernel
theorem zd_Model_days_7 : decode zm_Model_days.2.1 7 = .ok (.bipush 99, 2) := by decide +kernel
theorem zd_Model_days_9 : decode zm_Model_days.2.1 9 = .ok (.invokestatic 100, 3) := by decide +kernel
theorem zd_Model_days_12 : decode zm_Model_days.2.1 12 = .ok (.ifCond .ne 5, 3) := by decide +kernel
theorem zd_Model_days_15 : decode zm_Model_days.2.1 15 = .ok (.iconst (-1), 1) := by decide +kernel
theorem zd_Model_days_16 : decode zm_Model_days.2.1 16 = .ok (.ireturn, 1) := by decide +kernel
theorem zd_Model_days_17 : decode zm_Model_days.2.1 17 = .ok (.iload_n 1, 1) := by decide +kernel
theorem zd_Model_days_18 : decode zm_Model_days.2.1 18 = .ok (.ifCond .le 11, 3) := by decide +kernel
theorem zd_Model_days_21 : decode zm_Model_days.2.1 21 = .ok (.aload_n 0, 1) := by decide +kernel
theorem zd_Model_days_22 : decode zm_Model_days.2.1 22 = .ok (.aload_n 0, 1) := by decide +kernel
theorem zd_Model_days_23 : decode zm_Model_days.2.1 23 = .ok (.getfield 9, 3) := by decide +kernel
theorem zd_Model_days_26 : decode zm_Model_days.2.1 26 = .ok (.invokevirtual 284, 3) := by decide +kernel
theorem zd_Model_days_29 : decode zm_Model_days.2.1 29 = .ok (.aload_n 0, 1) := by decide +kernel
theorem zd_Model_days_30 : decode zm_Model_days.2.1 30 = .ok (.iconst 0, 1) := by decide +kernel
theorem zd_Model_days_31 : decode zm_Model_days.2.1 31 = .ok (.putfield 315, 3) := by decide +kernel
theorem zd_Model_days_34 : decode zm_Model_days.2.1 34 = .ok (.aload_n 0, 1) := by decide +kernel
theorem zd_Model_days_35 : decode zm_Model_days.2.1 35 = .ok (.iconst 0, 1) := by decide +kernel
theorem zd_Model_days_36 : decode zm_Model_days.2.1 36 = .ok (.putfield 318, 3) := by decide +kernel
theorem zd_Model_days_39 : decode zm_Model_days.2.1 39 = .ok (.aload_n 0, 1) := by decide +kernel
theorem zd_Model_days_40 : decode zm_Model_days.2.1 40 = .ok (.aload_n 0, 1) := by decide +kernel
theorem zd_Model_days_41 : decode zm_Model_days.2.1 41 = .ok (.getfield 9, 3) := by decide +kernel
theorem zd_Model_days_44 : decode zm_Model_days.2.1 44 = .ok (.iload_n 1, 1) := by decide +kernel
theorem zd_Model_days_45 : decode zm_Model_days.2.1 45 = .ok (.invokevirtual 321, 3) := by decide +kernel
theorem zd_Model_days_48 : decode zm_Model_days.2.1 48 = .ok (.aload_n 0, 1) := by decide +kernel
theorem zd_Model_days_49 : decode zm_Model_days.2.1 49 = .ok (.iconst 0, 1) := by decide +kernel
theorem zd_Model_days_50 : decode zm_Model_days.2.1 50 = .ok (.putfield 94, 3) := by decide +kernel
theorem zd_Model_days_53 : decode zm_Model_days.2.1 53 = .ok (.aload_n 0, 1) := by decide +kernel
theorem zd_Model_days_54 : decode zm_Model_days.2.1 54 = .ok (.aload_n 0, 1) := by decide +kernel
theorem zd_Model_days_55 : decode zm_Model_days.2.1 55 = .ok (.getfield 315, 3) := by decide +kernel
theorem zd_Model_days_58 : decode zm_Model_days.2.1 58 = .ok (.invokevirtual 312, 3) := by decide +kernel
theorem zd_Model_days_61 : decode zm_Model_days.2.1 61 = .ok (.aload_n 0, 1) := by decide +kernel
theorem zd_Model_days_62 : decode zm_Model_days.2.1 62 = .ok (.aload_n 0, 1) := by decide +kernel
theorem zd_Model_days_63 : decode zm_Model_days.2.1 63 = .ok (.getfield 318, 3) := by decide +kernel
theorem zd_Model_days_66 : decode zm_Model_days.2.1 66 = .ok (.invokevirtual 312, 3) := by decide +kernel
theorem zd_Model_days_69 : decode zm_Model_days.2.1 69 = .ok (.aload_n 0, 1) := by decide +kernel
theorem zd_Model_days_70 : decode zm_Model_days.2.1 70 = .ok (.getfield 9, 3) := by decide +kernel
theorem zd_Model_days_73 : decode zm_Model_days.2.1 73 = .ok (.bipush 48, 2) := by decide +kernel
theorem zd_Model_days_75 : decode zm_Model_days.2.1 75 = .ok (.iaload, 1) := by decide +kernel
theorem zd_Model_days_76 : decode zm_Model_days.2.1 76 = .ok (.ireturn, 1) := by decide +kernel
theorem zb_Model_days_0 {Γ : zG} {σ : zS} {x1 : Int32} {dc : Nat} {P : Int32 → zS → Prop}  (hm : z_Ci dc zm_Model_in [.inl (x1), .inl (nI 0), .inl (nI 99)] (z_pI σ 63 11 (nI 0)) P) (hdp : dc < z_dep Γ) (k : ∀ r σ1, P r σ1 → z_J Γ zm_Model_days 12 [some (.inr (63)), some (.inl (x1))] [.inl (r)] σ1) : z_J Γ zm_Model_days 0 [some (.inr (63)), some (.inl (x1))] [] σ := by
  refine zj_aload_n zd_Model_days_0 rfl ?_
  refine zj_iconst (v := nI 0) zd_Model_days_1 (by decide) ?_
  refine zj_putI rfl (by decide) rfl zu_Model zy_Model_ok zn_Model (k := 11) (by decide) rfl rfl zl_Model_91 rfl rfl zd_Model_days_2 ?_
  refine zj_iload_n zd_Model_days_5 rfl ?_
  refine zj_iconst (v := nI 0) zd_Model_days_6 (by decide) ?_
  refine zj_bipush (v := nI 99) zd_Model_days_7 (by decide) ?_
  exact zj_callSi (As := [.inl (x1), .inl (nI 0), .inl (nI 99)]) hm hdp zl_Model_100 zq_Model_in zd_Model_days_9 rfl (Nat.le_of_ble_eq_true rfl) (fun r σ1 h => (k r σ1 h))
theorem zb_Model_days_12 {Γ : zG} {σ : zS} {x1 y0 : Int32}  (kt : ¬ y0 = 0 → z_J Γ zm_Model_days 17 [some (.inr (63)), some (.inl (x1))] [] σ) (kf : y0 = 0 → z_J Γ zm_Model_days 15 [none, none] [] σ) : z_J Γ zm_Model_days 12 [some (.inr (63)), some (.inl (x1))] [.inl (y0)] σ := by
  exact zj_if_ne zd_Model_days_12 (by decide) (fun h => (kt h)) (fun h => (zj_weak (L' := [none, none]) trivial (kf h)))
theorem zb_Model_days_15 {Γ : zG} {σ : zS}  (e : z_end Γ (some ((-1))) σ) : z_J Γ zm_Model_days 15 [none, none] [] σ := by
  refine zj_iconst (v := (-1)) zd_Model_days_15 (by decide) ?_
  exact zj_ireturn rfl zd_Model_days_16 e
theorem zb_Model_days_17 {Γ : zG} {σ : zS} {x1 : Int32}  (kt : x1 ≤ 0 → z_J Γ zm_Model_days 29 [some (.inr (63)), some (.inl (x1))] [] σ) (kf : ¬ x1 ≤ 0 → z_J Γ zm_Model_days 21 [some (.inr (63)), some (.inl (x1))] [] σ) : z_J Γ zm_Model_days 17 [some (.inr (63)), some (.inl (x1))] [] σ := by
  refine zj_iload_n zd_Model_days_17 rfl ?_
  exact zj_if_le zd_Model_days_18 (by decide) (fun h => (kt h)) (fun h => (kf h))
theorem zb_Model_days_21 {Γ : zG} {σ : zS} {x1 : Int32} {dc : Nat} {P : zS → Prop}  (hm : z_Cv dc zm_Model_remember [.inr (63), .inr (64)] σ P) (hdp : dc < z_dep Γ) (k : ∀ σ1, P σ1 → z_J Γ zm_Model_days 29 [some (.inr (63)), some (.inl (x1))] [] σ1) : z_J Γ zm_Model_days 21 [some (.inr (63)), some (.inl (x1))] [] σ := by
  refine zj_aload_n zd_Model_days_21 rfl ?_
  refine zj_aload_n zd_Model_days_22 rfl ?_
  refine zj_getR rfl (by decide) rfl zu_Model (k := 0) (by decide) rfl zl_Model_9 zd_Model_days_23 (o' := 64) rfl ?_
  exact zj_callVv (As := [.inr (64)]) hm hdp rfl (by decide) rfl zl_Model_284 zq_Model_remember zd_Model_days_26 rfl (Nat.le_of_ble_eq_true rfl) (fun σ1 h => (k σ1 h))
theorem zb_Model_days_29 {Γ : zG} {σ : zS} {x1 : Int32} {dc : Nat} {P : zS → Prop}  (hm : z_Cv dc zm_Model_goDays [.inr (63), .inr (64), .inl (x1)] (z_pI (z_pI σ 63 30 (nI 0)) 63 31 (nI 0)) P) (hdp : dc < z_dep Γ) (k : ∀ σ1, P σ1 → z_J Γ zm_Model_days 48 [some (.inr (63)), none] [] σ1) : z_J Γ zm_Model_days 29 [some (.inr (63)), some (.inl (x1))] [] σ := by
  refine zj_aload_n zd_Model_days_29 rfl ?_
  refine zj_iconst (v := nI 0) zd_Model_days_30 (by decide) ?_
  refine zj_putI rfl (by decide) rfl zu_Model zy_Model_ok zn_Model (k := 30) (by decide) rfl rfl zl_Model_315 rfl rfl zd_Model_days_31 ?_
  refine zj_aload_n zd_Model_days_34 rfl ?_
  refine zj_iconst (v := nI 0) zd_Model_days_35 (by decide) ?_
  refine zj_putI rfl (by decide) rfl zu_Model zy_Model_ok zn_Model (k := 31) (by decide) rfl rfl zl_Model_318 rfl rfl zd_Model_days_36 ?_
  refine zj_aload_n zd_Model_days_39 rfl ?_
  refine zj_aload_n zd_Model_days_40 rfl ?_
  refine zj_getR rfl (by decide) rfl zu_Model (k := 0) (by decide) rfl zl_Model_9 zd_Model_days_41 (o' := 64) rfl ?_
  refine zj_iload_n zd_Model_days_44 rfl ?_
  exact zj_callVv (As := [.inr (64), .inl (x1)]) hm hdp rfl (by decide) rfl zl_Model_321 zq_Model_goDays zd_Model_days_45 rfl (Nat.le_of_ble_eq_true rfl) (fun σ1 h => (zj_weak (L' := [some (.inr (63)), none]) ⟨rfl, trivial⟩ (k σ1 h)))
theorem zb_Model_days_48 {Γ : zG} {σ : zS} {dc : Nat} {P : zS → Prop}  (hm : z_Cv dc zm_Model_tell [.inr (63), .inl ((z_pI σ 63 10 (nI 0)).1 63 30)] (z_pI σ 63 10 (nI 0)) P) (hdp : dc < z_dep Γ) (k : ∀ σ1, P σ1 → z_J Γ zm_Model_days 61 [some (.inr (63)), none] [] σ1) : z_J Γ zm_Model_days 48 [some (.inr (63)), none] [] σ := by
  refine zj_aload_n zd_Model_days_48 rfl ?_
  refine zj_iconst (v := nI 0) zd_Model_days_49 (by decide) ?_
  refine zj_putI rfl (by decide) rfl zu_Model zy_Model_ok zn_Model (k := 10) (by decide) rfl rfl zl_Model_94 rfl rfl zd_Model_days_50 ?_
  refine zj_aload_n zd_Model_days_53 rfl ?_
  refine zj_aload_n zd_Model_days_54 rfl ?_
  refine zj_getI rfl (by decide) rfl zu_Model (k := 30) (by decide) rfl zl_Model_315 zd_Model_days_55 ?_
  exact zj_callVv (As := [.inl ((z_pI σ 63 10 (nI 0)).1 63 30)]) hm hdp rfl (by decide) rfl zl_Model_312 zq_Model_tell zd_Model_days_58 rfl (Nat.le_of_ble_eq_true rfl) (fun σ1 h => (k σ1 h))
theorem zb_Model_days_61 {Γ : zG} {σ : zS} {dc : Nat} {P : zS → Prop}  (hm : z_Cv dc zm_Model_tell [.inr (63), .inl (σ.1 63 31)] σ P) (hdp : dc < z_dep Γ) (k : ∀ σ1, P σ1 → z_J Γ zm_Model_days 69 [some (.inr (63)), none] [] σ1) : z_J Γ zm_Model_days 61 [some (.inr (63)), none] [] σ := by
  refine zj_aload_n zd_Model_days_61 rfl ?_
  refine zj_aload_n zd_Model_days_62 rfl ?_
  refine zj_getI rfl (by decide) rfl zu_Model (k := 31) (by decide) rfl zl_Model_318 zd_Model_days_63 ?_
  exact zj_callVv (As := [.inl (σ.1 63 31)]) hm hdp rfl (by decide) rfl zl_Model_312 zq_Model_tell zd_Model_days_66 rfl (Nat.le_of_ble_eq_true rfl) (fun σ1 h => (k σ1 h))
theorem zb_Model_days_69 {Γ : zG} {σ : zS} {k1 : Nat}  (b1 : z_ix (nI 48) 53 k1) (e : z_end Γ (some (σ.1 64 k1)) σ) : z_J Γ zm_Model_days 69 [some (.inr (63)), none] [] σ := by
  refine zj_aload_n zd_Model_days_69 rfl ?_
  refine zj_getR rfl (by decide) rfl zu_Model (k := 0) (by decide) rfl zl_Model_9 zd_Model_days_70 (o' := 64) rfl ?_
  refine zj_bipush (v := nI 48) zd_Model_days_73 (by decide) ?_
  refine zj_iaload rfl (by decide) b1 zd_Model_days_75 ?_
  exact zj_ireturn rfl zd_Model_days_76 e
theorem zd_Model_goDays_0 : decode zm_Model_goDays.2.1 0 = .ok (.iconst 0, 1) := by decide +kernel
theorem zd_Model_goDays_1 : decode zm_Model_goDays.2.1 1 = .ok (.istore_n 3, 1) := by decide +kernel
theorem zd_Model_goDays_2 : decode zm_Model_goDays.2.1 2 = .ok (.iload_n 3, 1) := by decide +kernel
theorem zd_Model_goDays_3 : decode zm_Model_goDays.2.1 3 = .ok (.iload_n 2, 1) := by decide +kernel
theorem zd_Model_goDays_4 : decode zm_Model_goDays.2.1 4 = .ok (.if_icmp .ge 139, 3) := by decide +kernel
theorem zd_Model_goDays_7 : decode zm_Model_goDays.2.1 7 = .ok (.aload_n 1, 1) := by decide +kernel
theorem zd_Model_goDays_8 : decode zm_Model_goDays.2.1 8 = .ok (.bipush 48, 2) := by decide +kernel
theorem zd_Model_goDays_10 : decode zm_Model_goDays.2.1 10 = .ok (.dup2, 1) := by decide +kernel
theorem zd_Model_goDays_11 : decode zm_Model_goDays.2.1 11 = .ok (.iaload, 1) := by decide +kernel
theorem zd_Model_goDays_12 : decode zm_Model_goDays.2.1 12 = .ok (.iconst 1, 1) := by decide +kernel
theorem zd_Model_goDays_13 : decode zm_Model_goDays.2.1 13 = .ok (.iadd, 1) := by decide +kernel
theorem zd_Model_goDays_14 : decode zm_Model_goDays.2.1 14 = .ok (.iastore, 1) := by decide +kernel
theorem zd_Model_goDays_15 : decode zm_Model_goDays.2.1 15 = .ok (.iconst 0, 1) := by decide +kernel
theorem zd_Model_goDays_16 : decode zm_Model_goDays.2.1 16 = .ok (.istore 4, 2) := by decide +kernel
theorem zd_Model_goDays_18 : decode zm_Model_goDays.2.1 18 = .ok (.iload 4, 2) := by decide +kernel
theorem zd_Model_goDays_20 : decode zm_Model_goDays.2.1 20 = .ok (.aload_n 0, 1) := by decide +kernel
theorem zd_Model_goDays_21 : decode zm_Model_goDays.2.1 21 = .ok (.getfield 97, 3) := by decide +kernel
theorem zd_Model_goDays_24 : decode zm_Model_goDays.2.1 24 = .ok (.if_icmp .ge 113, 3) := by decide +kernel
theorem zd_Model_goDays_27 : decode zm_Model_goDays.2.1 27 = .ok (.aload_n 1, 1) := by decide +kernel
theorem zd_Model_goDays_28 : decode zm_Model_goDays.2.1 28 = .ok (.iload 4, 2) := by decide +kernel
theorem zd_Model_goDays_30 : decode zm_Model_goDays.2.1 30 = .ok (.iaload, 1) := by decide +kernel
theorem zd_Model_goDays_31 : decode zm_Model_goDays.2.1 31 = .ok (.iconst 2, 1) := by decide +kernel
theorem zd_Model_goDays_32 : decode zm_Model_goDays.2.1 32 = .ok (.if_icmp .ne 99, 3) := by decide +kernel
theorem zd_Model_goDays_35 : decode zm_Model_goDays.2.1 35 = .ok (.aload_n 1, 1) := by decide +kernel
theorem zd_Model_goDays_36 : decode zm_Model_goDays.2.1 36 = .ok (.bipush 36, 2) := by decide +kernel
theorem zd_Model_goDays_38 : decode zm_Model_goDays.2.1 38 = .ok (.iload 4, 2) := by decide +kernel
theorem zd_Model_goDays_40 : decode zm_Model_goDays.2.1 40 = .ok (.iadd, 1) := by decide +kernel
theorem zd_Model_goDays_41 : decode zm_Model_goDays.2.1 41 = .ok (.iaload, 1) := by decide +kernel
theorem zd_Model_goDays_42 : decode zm_Model_goDays.2.1 42 = .ok (.aload_n 0, 1) := by decide +kernel
theorem zd_Model_goDays_43 : decode zm_Model_goDays.2.1 43 = .ok (.getfield 23, 3) := by decide +kernel
theorem zd_Model_goDays_46 : decode zm_Model_goDays.2.1 46 = .ok (.aload_n 1, 1) := by decide +kernel
theorem zd_Model_goDays_47 : decode zm_Model_goDays.2.1 47 = .ok (.bipush 12, 2) := by decide +kernel
theorem zd_Model_goDays_49 : decode zm_Model_goDays.2.1 49 = .ok (.iload 4, 2) := by decide +kernel
theorem zd_Model_goDays_51 : decode zm_Model_goDays.2.1 51 = .ok (.iadd, 1) := by decide +kernel
theorem zd_Model_goDays_52 : decode zm_Model_goDays.2.1 52 = .ok (.iaload, 1) := by decide +kernel
theorem zd_Model_goDays_53 : decode zm_Model_goDays.2.1 53 = .ok (.iaload, 1) := by decide +kernel
theorem zd_Model_goDays_54 : decode zm_Model_goDays.2.1 54 = .ok (.iadd, 1) := by decide +kernel
theorem zd_Model_goDays_55 : decode zm_Model_goDays.2.1 55 = .ok (.aload_n 1, 1) := by decide +kernel
theorem zd_Model_goDays_56 : decode zm_Model_goDays.2.1 56 = .ok (.bipush 48, 2) := by decide +kernel
theorem zd_Model_goDays_58 : decode zm_Model_goDays.2.1 58 = .ok (.iaload, 1) := by decide +kernel
theorem zd_Model_goDays_59 : decode zm_Model_goDays.2.1 59 = .ok (.if_icmp .eq 6, 3) := by decide +kernel
theorem zd_Model_goDays_62 : decode zm_Model_goDays.2.1 62 = .ok (.goto 69, 3) := by decide +kernel
theorem zd_Model_goDays_65 : decode zm_Model_goDays.2.1 65 = .ok (.aload_n 1, 1) := by decide +kernel
theorem zd_Model_goDays_66 : decode zm_Model_goDays.2.1 66 = .ok (.iload 4, 2) := by decide +kernel
theorem zd_Model_goDays_68 : decode zm_Model_goDays.2.1 68 = .ok (.iconst 0, 1) := by decide +kernel
theorem zd_Model_goDays_69 : decode zm_Model_goDays.2.1 69 = .ok (.iastore, 1) := by decide +kernel
theorem zd_Model_goDays_70 : decode zm_Model_goDays.2.1 70 = .ok (.aload_n 1, 1) := by decide +kernel
theorem zd_Model_goDays_71 : decode zm_Model_goDays.2.1 71 = .ok (.bipush 49, 2) := by decide +kernel
theorem zd_Model_goDays_73 : decode zm_Model_goDays.2.1 73 = .ok (.aload_n 1, 1) := by decide +kernel
theorem zd_Model_goDays_74 : decode zm_Model_goDays.2.1 74 = .ok (.bipush 12, 2) := by decide +kernel
theorem zd_Model_goDays_76 : decode zm_Model_goDays.2.1 76 = .ok (.iload 4, 2) := by decide +kernel
theorem zd_Model_goDays_78 : decode zm_Model_goDays.2.1 78 = .ok (.iadd, 1) := by decide +kernel
theorem zd_Model_goDays_79 : decode zm_Model_goDays.2.1 79 = .ok (.iaload, 1) := by decide +kernel
theorem zd_Model_goDays_80 : decode zm_Model_goDays.2.1 80 = .ok (.iadd, 1) := by decide +kernel
theorem zd_Model_goDays_81 : decode zm_Model_goDays.2.1 81 = .ok (.dup2, 1) := by decide +kernel
theorem zd_Model_goDays_82 : decode zm_Model_goDays.2.1 82 = .ok (.iaload, 1) := by decide +kernel
theorem zd_Model_goDays_83 : decode zm_Model_goDays.2.1 83 = .ok (.aload_n 0, 1) := by decide +kernel
theorem zd_Model_goDays_84 : decode zm_Model_goDays.2.1 84 = .ok (.getfield 23, 3) := by decide +kernel
theorem zd_Model_goDays_87 : decode zm_Model_goDays.2.1 87 = .ok (.aload_n 1, 1) := by decide +kernel
theorem zd_Model_goDays_88 : decode zm_Model_goDays.2.1 88 = .ok (.bipush 12, 2) := by decide +kernel
theorem zd_Model_goDays_90 : decode zm_Model_goDays.2.1 90 = .ok (.iload 4, 2) := by decide +kernel
theorem zd_Model_goDays_92 : decode zm_Model_goDays.2.1 92 = .ok (.iadd, 1) := by decide +kernel
theorem zd_Model_goDays_93 : decode zm_Model_goDays.2.1 93 = .ok (.iaload, 1) := by decide +kernel
theorem zd_Model_goDays_94 : decode zm_Model_goDays.2.1 94 = .ok (.iaload, 1) := by decide +kernel
theorem zd_Model_goDays_95 : decode zm_Model_goDays.2.1 95 = .ok (.iadd, 1) := by decide +kernel
theorem zd_Model_goDays_96 : decode zm_Model_goDays.2.1 96 = .ok (.iastore, 1) := by decide +kernel
theorem zd_Model_goDays_97 : decode zm_Model_goDays.2.1 97 = .ok (.aload_n 0, 1) := by decide +kernel
theorem zd_Model_goDays_98 : decode zm_Model_goDays.2.1 98 = .ok (.dup, 1) := by decide +kernel
theorem zd_Model_goDays_99 : decode zm_Model_goDays.2.1 99 = .ok (.getfield 315, 3) := by decide +kernel
theorem zd_Model_goDays_102 : decode zm_Model_goDays.2.1 102 = .ok (.iconst 1, 1) := by decide +kernel
theorem zd_Model_goDays_103 : decode zm_Model_goDays.2.1 103 = .ok (.iload 4, 2) := by decide +kernel
theorem zd_Model_goDays_105 : decode zm_Model_goDays.2.1 105 = .ok (.ishl, 1) := by decide +kernel
theorem zd_Model_goDays_106 : decode zm_Model_goDays.2.1 106 = .ok (.ior, 1) := by decide +kernel
theorem zd_Model_goDays_107 : decode zm_Model_goDays.2.1 107 = .ok (.putfield 315, 3) := by decide +kernel
theorem zd_Model_goDays_110 : decode zm_Model_goDays.2.1 110 = .ok (.aload_n 0, 1) := by decide +kernel
theorem zd_Model_goDays_111 : decode zm_Model_goDays.2.1 111 = .ok (.dup, 1) := by decide +kernel
theorem zd_Model_goDays_112 : decode zm_Model_goDays.2.1 112 = .ok (.getfield 318, 3) := by decide +kernel
theorem zd_Model_goDays_115 : decode zm_Model_goDays.2.1 115 = .ok (.aload_n 0, 1) := by decide +kernel
theorem zd_Model_goDays_116 : decode zm_Model_goDays.2.1 116 = .ok (.getfield 23, 3) := by decide +kernel
theorem zd_Model_goDays_119 : decode zm_Model_goDays.2.1 119 = .ok (.aload_n 1, 1) := by decide +kernel
theorem zd_Model_goDays_120 : decode zm_Model_goDays.2.1 120 = .ok (.bipush 12, 2) := by decide +kernel
theorem zd_Model_goDays_122 : decode zm_Model_goDays.2.1 122 = .ok (.iload 4, 2) := by decide +kernel
theorem zd_Model_goDays_124 : decode zm_Model_goDays.2.1 124 = .ok (.iadd, 1) := by decide +kernel
theorem zd_Model_goDays_125 : decode zm_Model_goDays.2.1 125 = .ok (.iaload, 1) := by decide +kernel
theorem zd_Model_goDays_126 : decode zm_Model_goDays.2.1 126 = .ok (.iaload, 1) := by decide +kernel
theorem zd_Model_goDays_127 : decode zm_Model_goDays.2.1 127 = .ok (.iadd, 1) := by decide +kernel
theorem zd_Model_goDays_128 : decode zm_Model_goDays.2.1 128 = .ok (.putfield 318, 3) := by decide +kernel
theorem zd_Model_goDays_131 : decode zm_Model_goDays.2.1 131 = .ok (.iinc 4 1, 3) := by decide +kernel
theorem zd_Model_goDays_134 : decode zm_Model_goDays.2.1 134 = .ok (.goto (-116), 3) := by decide +kernel
theorem zd_Model_goDays_137 : decode zm_Model_goDays.2.1 137 = .ok (.iinc 3 1, 3) := by decide +kernel
theorem zd_Model_goDays_140 : decode zm_Model_goDays.2.1 140 = .ok (.goto (-138), 3) := by decide +kernel
theorem zd_Model_goDays_143 : decode zm_Model_goDays.2.1 143 = .ok (.return_, 1) := by decide +kernel
theorem zb_Model_goDays_0 {Γ : zG} {σ : zS} {a1 : Nat} {x2 : Int32} (h_a1 : z_kd a1 = (11, 53)) (k : z_J Γ zm_Model_goDays 2 [some (.inr (63)), some (.inr (a1)), some (.inl (x2)), some (.inl (nI 0)), none] [] σ) : z_J Γ zm_Model_goDays 0 [some (.inr (63)), some (.inr (a1)), some (.inl (x2)), none, none] [] σ := by
  refine zj_iconst (v := nI 0) zd_Model_goDays_0 (by decide) ?_
  refine zj_istore_n (L' := [some (.inr (63)), some (.inr (a1)), some (.inl (x2)), some (.inl (nI 0)), none]) zd_Model_goDays_1 (by decide) rfl ?_
  exact k
theorem zb_Model_goDays_2 {Γ : zG} {σ : zS} {a1 : Nat} {x2 x3 : Int32} (h_a1 : z_kd a1 = (11, 53)) (kt : x2 ≤ x3 → z_J Γ zm_Model_goDays 143 [none, none, none, none, none] [] σ) (kf : ¬ x2 ≤ x3 → z_J Γ zm_Model_goDays 7 [some (.inr (63)), some (.inr (a1)), some (.inl (x2)), some (.inl (x3)), none] [] σ) : z_J Γ zm_Model_goDays 2 [some (.inr (63)), some (.inr (a1)), some (.inl (x2)), some (.inl (x3)), none] [] σ := by
  refine zj_iload_n zd_Model_goDays_2 rfl ?_
  refine zj_iload_n zd_Model_goDays_3 rfl ?_
  exact zj_icmp_ge zd_Model_goDays_4 (by decide) (fun h => (zj_weak (L' := [none, none, none, none, none]) trivial (kt h))) (fun h => (kf h))
theorem zb_Model_goDays_7 {Γ : zG} {σ : zS} {a1 : Nat} {x2 x3 : Int32} {k1 k2 : Nat} (h_a1 : z_kd a1 = (11, 53)) (b1 : z_ix (nI 48) 53 k1) (b2 : z_ix (nI 48) 53 k2) (k : z_J Γ zm_Model_goDays 18 [some (.inr (63)), some (.inr (a1)), some (.inl (x2)), some (.inl (x3)), some (.inl (nI 0))] [] (z_pI σ a1 k2 ((σ.1 a1 k1) + (nI 1)))) : z_J Γ zm_Model_goDays 7 [some (.inr (63)), some (.inr (a1)), some (.inl (x2)), some (.inl (x3)), none] [] σ := by
  refine zj_aload_n zd_Model_goDays_7 rfl ?_
  refine zj_bipush (v := nI 48) zd_Model_goDays_8 (by decide) ?_
  refine zj_dup2 zd_Model_goDays_10 ?_
  refine zj_iaload h_a1 (by decide) b1 zd_Model_goDays_11 ?_
  refine zj_iconst (v := nI 1) zd_Model_goDays_12 (by decide) ?_
  refine zj_iadd zd_Model_goDays_13 ?_
  refine zj_iastore h_a1 (by decide) b2 zd_Model_goDays_14 ?_
  refine zj_iconst (v := nI 0) zd_Model_goDays_15 (by decide) ?_
  refine zj_istore (L' := [some (.inr (63)), some (.inr (a1)), some (.inl (x2)), some (.inl (x3)), some (.inl (nI 0))]) zd_Model_goDays_16 (by decide) rfl ?_
  exact k
theorem zb_Model_goDays_18 {Γ : zG} {σ : zS} {a1 : Nat} {x2 x3 x4 : Int32} (h_a1 : z_kd a1 = (11, 53)) (kt : (σ.1 63 1) ≤ x4 → z_J Γ zm_Model_goDays 137 [some (.inr (63)), some (.inr (a1)), some (.inl (x2)), some (.inl (x3)), none] [] σ) (kf : ¬ (σ.1 63 1) ≤ x4 → z_J Γ zm_Model_goDays 27 [some (.inr (63)), some (.inr (a1)), some (.inl (x2)), some (.inl (x3)), some (.inl (x4))] [] σ) : z_J Γ zm_Model_goDays 18 [some (.inr (63)), some (.inr (a1)), some (.inl (x2)), some (.inl (x3)), some (.inl (x4))] [] σ := by
  refine zj_iload zd_Model_goDays_18 rfl ?_
  refine zj_aload_n zd_Model_goDays_20 rfl ?_
  refine zj_getI rfl (by decide) rfl zu_Model (k := 1) (by decide) rfl zl_Model_97 zd_Model_goDays_21 ?_
  exact zj_icmp_ge zd_Model_goDays_24 (by decide) (fun h => (zj_weak (L' := [some (.inr (63)), some (.inr (a1)), some (.inl (x2)), some (.inl (x3)), none]) ⟨rfl, ⟨rfl, ⟨rfl, ⟨rfl, trivial⟩⟩⟩⟩ (kt h))) (fun h => (kf h))
theorem zb_Model_goDays_27 {Γ : zG} {σ : zS} {a1 : Nat} {x2 x3 x4 : Int32} {k1 : Nat} (h_a1 : z_kd a1 = (11, 53)) (b1 : z_ix x4 53 k1) (kt : ¬ (σ.1 a1 k1) = (nI 2) → z_J Γ zm_Model_goDays 131 [some (.inr (63)), some (.inr (a1)), some (.inl (x2)), some (.inl (x3)), some (.inl (x4))] [] σ) (kf : (σ.1 a1 k1) = (nI 2) → z_J Γ zm_Model_goDays 35 [some (.inr (63)), some (.inr (a1)), some (.inl (x2)), some (.inl (x3)), some (.inl (x4))] [] σ) : z_J Γ zm_Model_goDays 27 [some (.inr (63)), some (.inr (a1)), some (.inl (x2)), some (.inl (x3)), some (.inl (x4))] [] σ := by
  refine zj_aload_n zd_Model_goDays_27 rfl ?_
  refine zj_iload zd_Model_goDays_28 rfl ?_
  refine zj_iaload h_a1 (by decide) b1 zd_Model_goDays_30 ?_
  refine zj_iconst (v := nI 2) zd_Model_goDays_31 (by decide) ?_
  exact zj_icmp_ne zd_Model_goDays_32 (by decide) (fun h => (kt h)) (fun h => (kf h))
theorem zb_Model_goDays_35 {Γ : zG} {σ : zS} {a1 : Nat} {x2 x3 x4 : Int32} {k1 k2 k3 k4 : Nat} (h_a1 : z_kd a1 = (11, 53)) (b1 : z_ix ((nI 36) + x4) 53 k1) (b2 : z_ix ((nI 12) + x4) 53 k2) (b3 : z_ix (σ.1 a1 k2) 4 k3) (b4 : z_ix (nI 48) 53 k4) (kt : ((σ.1 a1 k1) + (σ.1 67 k3)) = (σ.1 a1 k4) → z_J Γ zm_Model_goDays 65 [some (.inr (63)), some (.inr (a1)), some (.inl (x2)), some (.inl (x3)), some (.inl (x4))] [] σ) (kf : ¬ ((σ.1 a1 k1) + (σ.1 67 k3)) = (σ.1 a1 k4) → z_J Γ zm_Model_goDays 62 [some (.inr (63)), some (.inr (a1)), some (.inl (x2)), some (.inl (x3)), some (.inl (x4))] [] σ) : z_J Γ zm_Model_goDays 35 [some (.inr (63)), some (.inr (a1)), some (.inl (x2)), some (.inl (x3)), some (.inl (x4))] [] σ := by
  refine zj_aload_n zd_Model_goDays_35 rfl ?_
  refine zj_bipush (v := nI 36) zd_Model_goDays_36 (by decide) ?_
  refine zj_iload zd_Model_goDays_38 rfl ?_
  refine zj_iadd zd_Model_goDays_40 ?_
  refine zj_iaload h_a1 (by decide) b1 zd_Model_goDays_41 ?_
  refine zj_aload_n zd_Model_goDays_42 rfl ?_
  refine zj_getR rfl (by decide) rfl zu_Model (k := 6) (by decide) rfl zl_Model_23 zd_Model_goDays_43 (o' := 67) rfl ?_
  refine zj_aload_n zd_Model_goDays_46 rfl ?_
  refine zj_bipush (v := nI 12) zd_Model_goDays_47 (by decide) ?_
  refine zj_iload zd_Model_goDays_49 rfl ?_
  refine zj_iadd zd_Model_goDays_51 ?_
  refine zj_iaload h_a1 (by decide) b2 zd_Model_goDays_52 ?_
  refine zj_iaload rfl (by decide) b3 zd_Model_goDays_53 ?_
  refine zj_iadd zd_Model_goDays_54 ?_
  refine zj_aload_n zd_Model_goDays_55 rfl ?_
  refine zj_bipush (v := nI 48) zd_Model_goDays_56 (by decide) ?_
  refine zj_iaload h_a1 (by decide) b4 zd_Model_goDays_58 ?_
  exact zj_icmp_eq zd_Model_goDays_59 (by decide) (fun h => (kt h)) (fun h => (kf h))
theorem zb_Model_goDays_62 {Γ : zG} {σ : zS} {a1 : Nat} {x2 x3 x4 : Int32} (h_a1 : z_kd a1 = (11, 53)) (k : z_J Γ zm_Model_goDays 131 [some (.inr (63)), some (.inr (a1)), some (.inl (x2)), some (.inl (x3)), some (.inl (x4))] [] σ) : z_J Γ zm_Model_goDays 62 [some (.inr (63)), some (.inr (a1)), some (.inl (x2)), some (.inl (x3)), some (.inl (x4))] [] σ := by
  exact zj_goto zd_Model_goDays_62 (by decide) k
theorem zb_Model_goDays_65 {Γ : zG} {σ : zS} {a1 : Nat} {x2 x3 x4 : Int32} {k1 k2 k3 k4 k5 k6 k7 k8 : Nat} (h_a1 : z_kd a1 = (11, 53)) (b1 : z_ix x4 53 k1) (b2 : z_ix ((nI 12) + x4) 53 k2) (b3 : z_ix ((nI 49) + ((z_pI σ a1 k1 (nI 0)).1 a1 k2)) 53 k3) (b4 : z_ix ((nI 12) + x4) 53 k4) (b5 : z_ix ((z_pI σ a1 k1 (nI 0)).1 a1 k4) 4 k5) (b6 : z_ix ((nI 49) + ((z_pI σ a1 k1 (nI 0)).1 a1 k2)) 53 k6) (b7 : z_ix ((nI 12) + x4) 53 k7) (b8 : z_ix ((z_pI (z_pI (z_pI σ a1 k1 (nI 0)) a1 k6 (((z_pI σ a1 k1 (nI 0)).1 a1 k3) + ((z_pI σ a1 k1 (nI 0)).1 67 k5))) 63 30 (((z_pI (z_pI σ a1 k1 (nI 0)) a1 k6 (((z_pI σ a1 k1 (nI 0)).1 a1 k3) + ((z_pI σ a1 k1 (nI 0)).1 67 k5))).1 63 30) ||| ((nI 1) <<< (x4 &&& 31)))).1 a1 k7) 4 k8) (k : z_J Γ zm_Model_goDays 131 [some (.inr (63)), some (.inr (a1)), some (.inl (x2)), some (.inl (x3)), some (.inl (x4))] [] (z_pI (z_pI (z_pI (z_pI σ a1 k1 (nI 0)) a1 k6 (((z_pI σ a1 k1 (nI 0)).1 a1 k3) + ((z_pI σ a1 k1 (nI 0)).1 67 k5))) 63 30 (((z_pI (z_pI σ a1 k1 (nI 0)) a1 k6 (((z_pI σ a1 k1 (nI 0)).1 a1 k3) + ((z_pI σ a1 k1 (nI 0)).1 67 k5))).1 63 30) ||| ((nI 1) <<< (x4 &&& 31)))) 63 31 (((z_pI (z_pI (z_pI σ a1 k1 (nI 0)) a1 k6 (((z_pI σ a1 k1 (nI 0)).1 a1 k3) + ((z_pI σ a1 k1 (nI 0)).1 67 k5))) 63 30 (((z_pI (z_pI σ a1 k1 (nI 0)) a1 k6 (((z_pI σ a1 k1 (nI 0)).1 a1 k3) + ((z_pI σ a1 k1 (nI 0)).1 67 k5))).1 63 30) ||| ((nI 1) <<< (x4 &&& 31)))).1 63 31) + ((z_pI (z_pI (z_pI σ a1 k1 (nI 0)) a1 k6 (((z_pI σ a1 k1 (nI 0)).1 a1 k3) + ((z_pI σ a1 k1 (nI 0)).1 67 k5))) 63 30 (((z_pI (z_pI σ a1 k1 (nI 0)) a1 k6 (((z_pI σ a1 k1 (nI 0)).1 a1 k3) + ((z_pI σ a1 k1 (nI 0)).1 67 k5))).1 63 30) ||| ((nI 1) <<< (x4 &&& 31)))).1 67 k8)))) : z_J Γ zm_Model_goDays 65 [some (.inr (63)), some (.inr (a1)), some (.inl (x2)), some (.inl (x3)), some (.inl (x4))] [] σ := by
  refine zj_aload_n zd_Model_goDays_65 rfl ?_
  refine zj_iload zd_Model_goDays_66 rfl ?_
  refine zj_iconst (v := nI 0) zd_Model_goDays_68 (by decide) ?_
  refine zj_iastore h_a1 (by decide) b1 zd_Model_goDays_69 ?_
  refine zj_aload_n zd_Model_goDays_70 rfl ?_
  refine zj_bipush (v := nI 49) zd_Model_goDays_71 (by decide) ?_
  refine zj_aload_n zd_Model_goDays_73 rfl ?_
  refine zj_bipush (v := nI 12) zd_Model_goDays_74 (by decide) ?_
  refine zj_iload zd_Model_goDays_76 rfl ?_
  refine zj_iadd zd_Model_goDays_78 ?_
  refine zj_iaload h_a1 (by decide) b2 zd_Model_goDays_79 ?_
  refine zj_iadd zd_Model_goDays_80 ?_
  refine zj_dup2 zd_Model_goDays_81 ?_
  refine zj_iaload h_a1 (by decide) b3 zd_Model_goDays_82 ?_
  refine zj_aload_n zd_Model_goDays_83 rfl ?_
  refine zj_getR rfl (by decide) rfl zu_Model (k := 6) (by decide) rfl zl_Model_23 zd_Model_goDays_84 (o' := 67) rfl ?_
  refine zj_aload_n zd_Model_goDays_87 rfl ?_
  refine zj_bipush (v := nI 12) zd_Model_goDays_88 (by decide) ?_
  refine zj_iload zd_Model_goDays_90 rfl ?_
  refine zj_iadd zd_Model_goDays_92 ?_
  refine zj_iaload h_a1 (by decide) b4 zd_Model_goDays_93 ?_
  refine zj_iaload rfl (by decide) b5 zd_Model_goDays_94 ?_
  refine zj_iadd zd_Model_goDays_95 ?_
  refine zj_iastore h_a1 (by decide) b6 zd_Model_goDays_96 ?_
  refine zj_aload_n zd_Model_goDays_97 rfl ?_
  refine zj_dup zd_Model_goDays_98 ?_
  refine zj_getI rfl (by decide) rfl zu_Model (k := 30) (by decide) rfl zl_Model_315 zd_Model_goDays_99 ?_
  refine zj_iconst (v := nI 1) zd_Model_goDays_102 (by decide) ?_
  refine zj_iload zd_Model_goDays_103 rfl ?_
  refine zj_ishl zd_Model_goDays_105 ?_
  refine zj_ior zd_Model_goDays_106 ?_
  refine zj_putI rfl (by decide) rfl zu_Model zy_Model_ok zn_Model (k := 30) (by decide) rfl rfl zl_Model_315 rfl rfl zd_Model_goDays_107 ?_
  refine zj_aload_n zd_Model_goDays_110 rfl ?_
  refine zj_dup zd_Model_goDays_111 ?_
  refine zj_getI rfl (by decide) rfl zu_Model (k := 31) (by decide) rfl zl_Model_318 zd_Model_goDays_112 ?_
  refine zj_aload_n zd_Model_goDays_115 rfl ?_
  refine zj_getR rfl (by decide) rfl zu_Model (k := 6) (by decide) rfl zl_Model_23 zd_Model_goDays_116 (o' := 67) rfl ?_
  refine zj_aload_n zd_Model_goDays_119 rfl ?_
  refine zj_bipush (v := nI 12) zd_Model_goDays_120 (by decide) ?_
  refine zj_iload zd_Model_goDays_122 rfl ?_
  refine zj_iadd zd_Model_goDays_124 ?_
  refine zj_iaload h_a1 (by decide) b7 zd_Model_goDays_125 ?_
  refine zj_iaload rfl (by decide) b8 zd_Model_goDays_126 ?_
  refine zj_iadd zd_Model_goDays_127 ?_
  refine zj_putI rfl (by decide) rfl zu_Model zy_Model_ok zn_Model (k := 31) (by decide) rfl rfl zl_Model_318 rfl rfl zd_Model_goDays_128 ?_
  exact k
theorem zb_Model_goDays_131 {Γ : zG} {σ : zS} {a1 : Nat} {x2 x3 x4 : Int32} (h_a1 : z_kd a1 = (11, 53)) (k : z_J Γ zm_Model_goDays 18 [some (.inr (63)), some (.inr (a1)), some (.inl (x2)), some (.inl (x3)), some (.inl (x4 + nI 1))] [] σ) : z_J Γ zm_Model_goDays 131 [some (.inr (63)), some (.inr (a1)), some (.inl (x2)), some (.inl (x3)), some (.inl (x4))] [] σ := by
  refine zj_iinc (v := nI 1) (L' := [some (.inr (63)), some (.inr (a1)), some (.inl (x2)), some (.inl (x3)), some (.inl (x4 + nI 1))]) zd_Model_goDays_131 rfl (by decide) (by decide) rfl ?_
  exact zj_goto zd_Model_goDays_134 (by decide) k
theorem zb_Model_goDays_137 {Γ : zG} {σ : zS} {a1 : Nat} {x2 x3 : Int32} (h_a1 : z_kd a1 = (11, 53)) (k : z_J Γ zm_Model_goDays 2 [some (.inr (63)), some (.inr (a1)), some (.inl (x2)), some (.inl (x3 + nI 1)), none] [] σ) : z_J Γ zm_Model_goDays 137 [some (.inr (63)), some (.inr (a1)), some (.inl (x2)), some (.inl (x3)), none] [] σ := by
  refine zj_iinc (v := nI 1) (L' := [some (.inr (63)), some (.inr (a1)), some (.inl (x2)), some (.inl (x3 + nI 1)), none]) zd_Model_goDays_137 rfl (by decide) (by decide) rfl ?_
  exact zj_goto zd_Model_goDays_140 (by decide) k
theorem zb_Model_goDays_143 {Γ : zG} {σ : zS}  (e : z_end Γ none σ) : z_J Γ zm_Model_goDays 143 [none, none, none, none, none] [] σ := by
  exact zj_return rfl zd_Model_goDays_143 e
theorem zd_Model_siege_0 : decode zm_Model_siege.2.1 0 = .ok (.aload_n 0, 1) := by decide +kernel
theorem zd_Model_siege_1 : decode zm_Model_siege.2.1 1 = .ok (.iconst 0, 1) := by decide +kernel
theorem zd_Model_siege_2 : decode zm_Model_siege.2.1 2 = .ok (.putfield 91, 3) := by decide +kernel
theorem zd_Model_siege_5 : decode zm_Model_siege.2.1 5 = .ok (.aload_n 0, 1) := by decide +kernel
theorem zd_Model_siege_6 : decode zm_Model_siege.2.1 6 = .ok (.bipush 60, 2) := by decide +kernel
theorem zd_Model_siege_8 : decode zm_Model_siege.2.1 8 = .ok (.invokevirtual 149, 3) := by decide +kernel
theorem zd_Model_siege_11 : decode zm_Model_siege.2.1 11 = .ok (.iconst 0, 1) := by decide +kernel
theorem zd_Model_siege_12 : decode zm_Model_siege.2.1 12 = .ok (.istore_n 1, 1) := by decide +kernel
theorem zd_Model_siege_13 : decode zm_Model_siege.2.1 13 = .ok (.aload_n 0, 1) := by decide +kernel
theorem zd_Model_siege_14 : decode zm_Model_siege.2.1 14 = .ok (.getfield 113, 3) := by decide +kernel
theorem zd_Model_siege_17 : decode zm_Model_siege.2.1 17 = .ok (.ifCond .le 7, 3) := by decide +kernel
theorem zd_Model_siege_20 : decode zm_Model_siege.2.1 20 = .ok (.iconst 1, 1) := by decide +kernel
theorem zd_Model_siege_21 : decode zm_Model_siege.2.1 21 = .ok (.goto 4, 3) := by decide +kernel
theorem zd_Model_siege_24 : decode zm_Model_siege.2.1 24 = .ok (.iconst 0, 1) := by decide +kernel
theorem zd_Model_siege_25 : decode zm_Model_siege.2.1 25 = .ok (.istore_n 2, 1) := by decide +kernel
theorem zd_Model_siege_26 : decode zm_Model_siege.2.1 26 = .ok (.iload_n 2, 1) := by decide +kernel
theorem zd_Model_siege_27 : decode zm_Model_siege.2.1 27 = .ok (.ifCond .eq 30, 3) := by decide +kernel
theorem zd_Model_siege_30 : decode zm_Model_siege.2.1 30 = .ok (.aload_n 0, 1) := by decide +kernel
theorem zd_Model_siege_31 : decode zm_Model_siege.2.1 31 = .ok (.invokevirtual 129, 3) := by decide +kernel
theorem zd_Model_siege_34 : decode zm_Model_siege.2.1 34 = .ok (.ifCond .eq 23, 3) := by decide +kernel
theorem zd_Model_siege_37 : decode zm_Model_siege.2.1 37 = .ok (.aload_n 0, 1) := by decide +kernel
theorem zd_Model_siege_38 : decode zm_Model_siege.2.1 38 = .ok (.iconst 4, 1) := by decide +kernel
theorem zd_Model_siege_39 : decode zm_Model_siege.2.1 39 = .ok (.iload_n 1, 1) := by decide +kernel
theorem zd_Model_siege_40 : decode zm_Model_siege.2.1 40 = .ok (.imul, 1) := by decide +kernel
theorem zd_Model_siege_41 : decode zm_Model_siege.2.1 41 = .ok (.invokevirtual 324, 3) := by decide +kernel
theorem zd_Model_siege_44 : decode zm_Model_siege.2.1 44 = .ok (.iinc 1 1, 3) := by decide +kernel
theorem zd_Model_siege_47 : decode zm_Model_siege.2.1 47 = .ok (.aload_n 0, 1) := by decide +kernel
theorem zd_Model_siege_48 : decode zm_Model_siege.2.1 48 = .ok (.bipush 59, 2) := by decide +kernel
theorem zd_Model_siege_50 : decode zm_Model_siege.2.1 50 = .ok (.invokevirtual 137, 3) := by decide +kernel
theorem zd_Model_siege_53 : decode zm_Model_siege.2.1 53 = .ok (.istore_n 2, 1) := by decide +kernel
theorem zd_Model_siege_54 : decode zm_Model_siege.2.1 54 = .ok (.goto (-28), 3) := by decide +kernel
theorem zd_Model_siege_57 : decode zm_Model_siege.2.1 57 = .ok (.aload_n 0, 1) := by decide +kernel
theorem zd_Model_siege_58 : decode zm_Model_siege.2.1 58 = .ok (.invokevirtual 152, 3) := by decide +kernel
theorem zd_Model_siege_61 : decode zm_Model_siege.2.1 61 = .ok (.ifCond .ne 10, 3) := by decide +kernel
theorem zd_Model_siege_64 : decode zm_Model_siege.2.1 64 = .ok (.iconst (-1), 1) := by decide +kernel
theorem zd_Model_siege_65 : decode zm_Model_siege.2.1 65 = .ok (.aload_n 0, 1) := by decide +kernel
theorem zd_Model_siege_66 : decode zm_Model_siege.2.1 66 = .ok (.getfield 122, 3) := by decide +kernel
theorem zd_Model_siege_69 : decode zm_Model_siege.2.1 69 = .ok (.isub, 1) := by decide +kernel
theorem zd_Model_siege_70 : decode zm_Model_siege.2.1 70 = .ok (.ireturn, 1) := by decide +kernel
theorem zd_Model_siege_71 : decode zm_Model_siege.2.1 71 = .ok (.aload_n 0, 1) := by decide +kernel
theorem zd_Model_siege_72 : decode zm_Model_siege.2.1 72 = .ok (.getfield 9, 3) := by decide +kernel
theorem zd_Model_siege_75 : decode zm_Model_siege.2.1 75 = .ok (.aload_n 0, 1) := by decide +kernel
theorem zd_Model_siege_76 : decode zm_Model_siege.2.1 76 = .ok (.getfield 57, 3) := by decide +kernel
theorem zd_Model_siege_79 : decode zm_Model_siege.2.1 79 = .ok (.iconst 0, 1) := by decide +kernel
theorem zd_Model_siege_80 : decode zm_Model_siege.2.1 80 = .ok (.invokestatic 165, 3) := by decide +kernel
theorem zd_Model_siege_83 : decode zm_Model_siege.2.1 83 = .ok (.iconst 0, 1) := by decide +kernel
theorem zd_Model_siege_84 : decode zm_Model_siege.2.1 84 = .ok (.istore_n 3, 1) := by decide +kernel
theorem zd_Model_siege_85 : decode zm_Model_siege.2.1 85 = .ok (.iload_n 3, 1) := by decide +kernel
theorem zd_Model_siege_86 : decode zm_Model_siege.2.1 86 = .ok (.iload_n 1, 1) := by decide +kernel
theorem zd_Model_siege_87 : decode zm_Model_siege.2.1 87 = .ok (.if_icmp .ge 54, 3) := by decide +kernel
theorem zd_Model_siege_90 : decode zm_Model_siege.2.1 90 = .ok (.aload_n 0, 1) := by decide +kernel
theorem zd_Model_siege_91 : decode zm_Model_siege.2.1 91 = .ok (.aload_n 0, 1) := by decide +kernel
theorem zd_Model_siege_92 : decode zm_Model_siege.2.1 92 = .ok (.getfield 63, 3) := by decide +kernel
theorem zd_Model_siege_95 : decode zm_Model_siege.2.1 95 = .ok (.iconst 4, 1) := by decide +kernel
theorem zd_Model_siege_96 : decode zm_Model_siege.2.1 96 = .ok (.iload_n 3, 1) := by decide +kernel
theorem zd_Model_siege_97 : decode zm_Model_siege.2.1 97 = .ok (.imul, 1) := by decide +kernel
theorem zd_Model_siege_98 : decode zm_Model_siege.2.1 98 = .ok (.iaload, 1) := by decide +kernel
theorem zd_Model_siege_99 : decode zm_Model_siege.2.1 99 = .ok (.aload_n 0, 1) := by decide +kernel
theorem zd_Model_siege_100 : decode zm_Model_siege.2.1 100 = .ok (.getfield 63, 3) := by decide +kernel
theorem zd_Model_siege_103 : decode zm_Model_siege.2.1 103 = .ok (.iconst 4, 1) := by decide +kernel
theorem zd_Model_siege_104 : decode zm_Model_siege.2.1 104 = .ok (.iload_n 3, 1) := by decide +kernel
theorem zd_Model_siege_105 : decode zm_Model_siege.2.1 105 = .ok (.imul, 1) := by decide +kernel
theorem zd_Model_siege_106 : decode zm_Model_siege.2.1 106 = .ok (.iconst 1, 1) := by decide +kernel
theorem zd_Model_siege_107 : decode zm_Model_siege.2.1 107 = .ok (.iadd, 1) := by decide +kernel
theorem zd_Model_siege_108 : decode zm_Model_siege.2.1 108 = .ok (.iaload, 1) := by decide +kernel
theorem zd_Model_siege_109 : decode zm_Model_siege.2.1 109 = .ok (.aload_n 0, 1) := by decide +kernel
theorem zd_Model_siege_110 : decode zm_Model_siege.2.1 110 = .ok (.getfield 63, 3) := by decide +kernel
theorem zd_Model_siege_113 : decode zm_Model_siege.2.1 113 = .ok (.iconst 4, 1) := by decide +kernel
theorem zd_Model_siege_114 : decode zm_Model_siege.2.1 114 = .ok (.iload_n 3, 1) := by decide +kernel
theorem zd_Model_siege_115 : decode zm_Model_siege.2.1 115 = .ok (.imul, 1) := by decide +kernel
theorem zd_Model_siege_116 : decode zm_Model_siege.2.1 116 = .ok (.iconst 2, 1) := by decide +kernel
theorem zd_Model_siege_117 : decode zm_Model_siege.2.1 117 = .ok (.iadd, 1) := by decide +kernel
theorem zd_Model_siege_118 : decode zm_Model_siege.2.1 118 = .ok (.iaload, 1) := by decide +kernel
theorem zd_Model_siege_119 : decode zm_Model_siege.2.1 119 = .ok (.aload_n 0, 1) := by decide +kernel
theorem zd_Model_siege_120 : decode zm_Model_siege.2.1 120 = .ok (.getfield 63, 3) := by decide +kernel
theorem zd_Model_siege_123 : decode zm_Model_siege.2.1 123 = .ok (.iconst 4, 1) := by decide +kernel
theorem zd_Model_siege_124 : decode zm_Model_siege.2.1 124 = .ok (.iload_n 3, 1) := by decide +kernel
theorem zd_Model_siege_125 : decode zm_Model_siege.2.1 125 = .ok (.imul, 1) := by decide +kernel
theorem zd_Model_siege_126 : decode zm_Model_siege.2.1 126 = .ok (.iconst 3, 1) := by decide +kernel
theorem zd_Model_siege_127 : decode zm_Model_siege.2.1 127 = .ok (.iadd, 1) := by decide +kernel
theorem zd_Model_siege_128 : decode zm_Model_siege.2.1 128 = .ok (.iaload, 1) := by decide +kernel
theorem zd_Model_siege_129 : decode zm_Model_siege.2.1 129 = .ok (.invokevirtual 327, 3) := by decide +kernel
theorem zd_Model_siege_132 : decode zm_Model_siege.2.1 132 = .ok (.ifCond .eq 9, 3) := by decide +kernel
theorem zd_Model_siege_135 : decode zm_Model_siege.2.1 135 = .ok (.iinc 3 1, 3) := by decide +kernel
theorem zd_Model_siege_138 : decode zm_Model_siege.2.1 138 = .ok (.goto (-53), 3) := by decide +kernel
theorem zd_Model_siege_141 : decode zm_Model_siege.2.1 141 = .ok (.iload_n 3, 1) := by decide +kernel
theorem zd_Model_siege_142 : decode zm_Model_siege.2.1 142 = .ok (.ifCond .le 11, 3) := by decide +kernel
theorem zd_Model_siege_145 : decode zm_Model_siege.2.1 145 = .ok (.aload_n 0, 1) := by decide +kernel
theorem zd_Model_siege_146 : decode zm_Model_siege.2.1 146 = .ok (.aload_n 0, 1) := by decide +kernel
theorem zd_Model_siege_147 : decode zm_Model_siege.2.1 147 = .ok (.getfield 57, 3) := by decide +kernel
theorem zd_Model_siege_150 : decode zm_Model_siege.2.1 150 = .ok (.invokevirtual 284, 3) := by decide +kernel
theorem zd_Model_siege_153 : decode zm_Model_siege.2.1 153 = .ok (.aload_n 0, 1) := by decide +kernel
theorem zd_Model_siege_154 : decode zm_Model_siege.2.1 154 = .ok (.iconst 0, 1) := by decide +kernel
theorem zd_Model_siege_155 : decode zm_Model_siege.2.1 155 = .ok (.putfield 94, 3) := by decide +kernel
theorem zd_Model_siege_158 : decode zm_Model_siege.2.1 158 = .ok (.aload_n 0, 1) := by decide +kernel
theorem zd_Model_siege_159 : decode zm_Model_siege.2.1 159 = .ok (.iload_n 3, 1) := by decide +kernel
theorem zd_Model_siege_160 : decode zm_Model_siege.2.1 160 = .ok (.iload_n 1, 1) := by decide +kernel
theorem zd_Model_siege_161 : decode zm_Model_siege.2.1 161 = .ok (.if_icmp .ge 7, 3) := by decide +kernel
theorem zd_Model_siege_164 : decode zm_Model_siege.2.1 164 = .ok (.iconst 1, 1) := by decide +kernel
theorem zd_Model_siege_165 : decode zm_Model_siege.2.1 165 = .ok (.goto 4, 3) := by decide +kernel
theorem zd_Model_siege_168 : decode zm_Model_siege.2.1 168 = .ok (.iconst 0, 1) := by decide +kernel
theorem zd_Model_siege_169 : decode zm_Model_siege.2.1 169 = .ok (.invokevirtual 312, 3) := by decide +kernel
theorem zd_Model_siege_172 : decode zm_Model_siege.2.1 172 = .ok (.aload_n 0, 1) := by decide +kernel
theorem zd_Model_siege_173 : decode zm_Model_siege.2.1 173 = .ok (.aload_n 0, 1) := by decide +kernel
theorem zd_Model_siege_174 : decode zm_Model_siege.2.1 174 = .ok (.aload_n 0, 1) := by decide +kernel
theorem zd_Model_siege_175 : decode zm_Model_siege.2.1 175 = .ok (.getfield 9, 3) := by decide +kernel
theorem zd_Model_siege_178 : decode zm_Model_siege.2.1 178 = .ok (.iconst 1, 1) := by decide +kernel
theorem zd_Model_siege_179 : decode zm_Model_siege.2.1 179 = .ok (.invokevirtual 331, 3) := by decide +kernel
theorem zd_Model_siege_182 : decode zm_Model_siege.2.1 182 = .ok (.invokestatic 261, 3) := by decide +kernel
theorem zd_Model_siege_185 : decode zm_Model_siege.2.1 185 = .ok (.invokevirtual 312, 3) := by decide +kernel
theorem zd_Model_siege_188 : decode zm_Model_siege.2.1 188 = .ok (.iload_n 3, 1) := by decide +kernel
theorem zd_Model_siege_189 : decode zm_Model_siege.2.1 189 = .ok (.ireturn, 1) := by decide +kernel
theorem zb_Model_siege_0 {Γ : zG} {σ : zS} {dc : Nat} {P : zS → Prop}  (hm : z_Cv dc zm_Model_beginText [.inr (63), .inl (nI 60)] (z_pI σ 63 11 (nI 0)) P) (hdp : dc < z_dep Γ) (k : ∀ σ1, P σ1 → z_J Γ zm_Model_siege 11 [some (.inr (63)), none, none, none] [] σ1) : z_J Γ zm_Model_siege 0 [some (.inr (63)), none, none, none] [] σ := by
  refine zj_aload_n zd_Model_siege_0 rfl ?_
  refine zj_iconst (v := nI 0) zd_Model_siege_1 (by decide) ?_
  refine zj_putI rfl (by decide) rfl zu_Model zy_Model_ok zn_Model (k := 11) (by decide) rfl rfl zl_Model_91 rfl rfl zd_Model_siege_2 ?_
  refine zj_aload_n zd_Model_siege_5 rfl ?_
  refine zj_bipush (v := nI 60) zd_Model_siege_6 (by decide) ?_
  exact zj_callVv (As := [.inl (nI 60)]) hm hdp rfl (by decide) rfl zl_Model_149 zq_Model_beginText zd_Model_siege_8 rfl (Nat.le_of_ble_eq_true rfl) (fun σ1 h => (k σ1 h))
theorem zb_Model_siege_11 {Γ : zG} {σ : zS}  (kt : (σ.1 63 13) ≤ 0 → z_J Γ zm_Model_siege 24 [some (.inr (63)), some (.inl (nI 0)), none, none] [] σ) (kf : ¬ (σ.1 63 13) ≤ 0 → z_J Γ zm_Model_siege 20 [some (.inr (63)), some (.inl (nI 0)), none, none] [] σ) : z_J Γ zm_Model_siege 11 [some (.inr (63)), none, none, none] [] σ := by
  refine zj_iconst (v := nI 0) zd_Model_siege_11 (by decide) ?_
  refine zj_istore_n (L' := [some (.inr (63)), some (.inl (nI 0)), none, none]) zd_Model_siege_12 (by decide) rfl ?_
  refine zj_aload_n zd_Model_siege_13 rfl ?_
  refine zj_getI rfl (by decide) rfl zu_Model (k := 13) (by decide) rfl zl_Model_113 zd_Model_siege_14 ?_
  exact zj_if_le zd_Model_siege_17 (by decide) (fun h => (kt h)) (fun h => (kf h))
theorem zb_Model_siege_20 {Γ : zG} {σ : zS} {x1 : Int32}  (k : z_J Γ zm_Model_siege 25 [some (.inr (63)), some (.inl (x1)), none, none] [.inl (nI 1)] σ) : z_J Γ zm_Model_siege 20 [some (.inr (63)), some (.inl (x1)), none, none] [] σ := by
  refine zj_iconst (v := nI 1) zd_Model_siege_20 (by decide) ?_
  exact zj_goto zd_Model_siege_21 (by decide) k
theorem zb_Model_siege_24 {Γ : zG} {σ : zS} {x1 : Int32}  (k : z_J Γ zm_Model_siege 25 [some (.inr (63)), some (.inl (x1)), none, none] [.inl (nI 0)] σ) : z_J Γ zm_Model_siege 24 [some (.inr (63)), some (.inl (x1)), none, none] [] σ := by
  refine zj_iconst (v := nI 0) zd_Model_siege_24 (by decide) ?_
  exact k
theorem zb_Model_siege_25 {Γ : zG} {σ : zS} {x1 y0 : Int32}  (k : z_J Γ zm_Model_siege 26 [some (.inr (63)), some (.inl (x1)), some (.inl (y0)), none] [] σ) : z_J Γ zm_Model_siege 25 [some (.inr (63)), some (.inl (x1)), none, none] [.inl (y0)] σ := by
  refine zj_istore_n (L' := [some (.inr (63)), some (.inl (x1)), some (.inl (y0)), none]) zd_Model_siege_25 (by decide) rfl ?_
  exact k
theorem zb_Model_siege_26 {Γ : zG} {σ : zS} {x1 x2 : Int32}  (kt : x2 = 0 → z_J Γ zm_Model_siege 57 [some (.inr (63)), some (.inl (x1)), none, none] [] σ) (kf : ¬ x2 = 0 → z_J Γ zm_Model_siege 30 [some (.inr (63)), some (.inl (x1)), none, none] [] σ) : z_J Γ zm_Model_siege 26 [some (.inr (63)), some (.inl (x1)), some (.inl (x2)), none] [] σ := by
  refine zj_iload_n zd_Model_siege_26 rfl ?_
  exact zj_if_eq zd_Model_siege_27 (by decide) (fun h => (zj_weak (L' := [some (.inr (63)), some (.inl (x1)), none, none]) ⟨rfl, ⟨rfl, trivial⟩⟩ (kt h))) (fun h => (zj_weak (L' := [some (.inr (63)), some (.inl (x1)), none, none]) ⟨rfl, ⟨rfl, trivial⟩⟩ (kf h)))
theorem zb_Model_siege_30 {Γ : zG} {σ : zS} {x1 : Int32} {dc : Nat} {P : Int32 → zS → Prop}  (hm : z_Ci dc zm_Model_fine [.inr (63)] σ P) (hdp : dc < z_dep Γ) (k : ∀ r σ1, P r σ1 → z_J Γ zm_Model_siege 34 [some (.inr (63)), some (.inl (x1)), none, none] [.inl (r)] σ1) : z_J Γ zm_Model_siege 30 [some (.inr (63)), some (.inl (x1)), none, none] [] σ := by
  refine zj_aload_n zd_Model_siege_30 rfl ?_
  exact zj_callVi (As := []) hm hdp rfl (by decide) rfl zl_Model_129 zq_Model_fine zd_Model_siege_31 rfl (Nat.le_of_ble_eq_true rfl) (fun r σ1 h => (k r σ1 h))
theorem zb_Model_siege_34 {Γ : zG} {σ : zS} {x1 y0 : Int32}  (kt : y0 = 0 → z_J Γ zm_Model_siege 57 [some (.inr (63)), some (.inl (x1)), none, none] [] σ) (kf : ¬ y0 = 0 → z_J Γ zm_Model_siege 37 [some (.inr (63)), some (.inl (x1)), none, none] [] σ) : z_J Γ zm_Model_siege 34 [some (.inr (63)), some (.inl (x1)), none, none] [.inl (y0)] σ := by
  exact zj_if_eq zd_Model_siege_34 (by decide) (fun h => (kt h)) (fun h => (kf h))
theorem zb_Model_siege_37 {Γ : zG} {σ : zS} {x1 : Int32} {dc : Nat} {P : zS → Prop}  (hm : z_Cv dc zm_Model_readAct [.inr (63), .inl ((nI 4) * x1)] σ P) (hdp : dc < z_dep Γ) (k : ∀ σ1, P σ1 → z_J Γ zm_Model_siege 44 [some (.inr (63)), some (.inl (x1)), none, none] [] σ1) : z_J Γ zm_Model_siege 37 [some (.inr (63)), some (.inl (x1)), none, none] [] σ := by
  refine zj_aload_n zd_Model_siege_37 rfl ?_
  refine zj_iconst (v := nI 4) zd_Model_siege_38 (by decide) ?_
  refine zj_iload_n zd_Model_siege_39 rfl ?_
  refine zj_imul zd_Model_siege_40 ?_
  exact zj_callVv (As := [.inl ((nI 4) * x1)]) hm hdp rfl (by decide) rfl zl_Model_324 zq_Model_readAct zd_Model_siege_41 rfl (Nat.le_of_ble_eq_true rfl) (fun σ1 h => (k σ1 h))
theorem zb_Model_siege_44 {Γ : zG} {σ : zS} {x1 : Int32} {dc : Nat} {P : Int32 → zS → Prop}  (hm : z_Ci dc zm_Model_passes [.inr (63), .inl (nI 59)] σ P) (hdp : dc < z_dep Γ) (k : ∀ r σ1, P r σ1 → z_J Γ zm_Model_siege 53 [some (.inr (63)), some (.inl (x1 + nI 1)), none, none] [.inl (r)] σ1) : z_J Γ zm_Model_siege 44 [some (.inr (63)), some (.inl (x1)), none, none] [] σ := by
  refine zj_iinc (v := nI 1) (L' := [some (.inr (63)), some (.inl (x1 + nI 1)), none, none]) zd_Model_siege_44 rfl (by decide) (by decide) rfl ?_
  refine zj_aload_n zd_Model_siege_47 rfl ?_
  refine zj_bipush (v := nI 59) zd_Model_siege_48 (by decide) ?_
  exact zj_callVi (As := [.inl (nI 59)]) hm hdp rfl (by decide) rfl zl_Model_137 zq_Model_passes zd_Model_siege_50 rfl (Nat.le_of_ble_eq_true rfl) (fun r σ1 h => (k r σ1 h))
theorem zb_Model_siege_53 {Γ : zG} {σ : zS} {x1 y0 : Int32}  (k : z_J Γ zm_Model_siege 26 [some (.inr (63)), some (.inl (x1)), some (.inl (y0)), none] [] σ) : z_J Γ zm_Model_siege 53 [some (.inr (63)), some (.inl (x1)), none, none] [.inl (y0)] σ := by
  refine zj_istore_n (L' := [some (.inr (63)), some (.inl (x1)), some (.inl (y0)), none]) zd_Model_siege_53 (by decide) rfl ?_
  exact zj_goto zd_Model_siege_54 (by decide) k
theorem zb_Model_siege_57 {Γ : zG} {σ : zS} {x1 : Int32} {dc : Nat} {P : Int32 → zS → Prop}  (hm : z_Ci dc zm_Model_wasRight [.inr (63)] σ P) (hdp : dc < z_dep Γ) (k : ∀ r σ1, P r σ1 → z_J Γ zm_Model_siege 61 [some (.inr (63)), some (.inl (x1)), none, none] [.inl (r)] σ1) : z_J Γ zm_Model_siege 57 [some (.inr (63)), some (.inl (x1)), none, none] [] σ := by
  refine zj_aload_n zd_Model_siege_57 rfl ?_
  exact zj_callVi (As := []) hm hdp rfl (by decide) rfl zl_Model_152 zq_Model_wasRight zd_Model_siege_58 rfl (Nat.le_of_ble_eq_true rfl) (fun r σ1 h => (k r σ1 h))
theorem zb_Model_siege_61 {Γ : zG} {σ : zS} {x1 y0 : Int32}  (kt : ¬ y0 = 0 → z_J Γ zm_Model_siege 71 [some (.inr (63)), some (.inl (x1)), none, none] [] σ) (kf : y0 = 0 → z_J Γ zm_Model_siege 64 [some (.inr (63)), none, none, none] [] σ) : z_J Γ zm_Model_siege 61 [some (.inr (63)), some (.inl (x1)), none, none] [.inl (y0)] σ := by
  exact zj_if_ne zd_Model_siege_61 (by decide) (fun h => (kt h)) (fun h => (zj_weak (L' := [some (.inr (63)), none, none, none]) ⟨rfl, trivial⟩ (kf h)))
theorem zb_Model_siege_64 {Γ : zG} {σ : zS}  (e : z_end Γ (some ((-1) - (σ.1 63 16))) σ) : z_J Γ zm_Model_siege 64 [some (.inr (63)), none, none, none] [] σ := by
  refine zj_iconst (v := (-1)) zd_Model_siege_64 (by decide) ?_
  refine zj_aload_n zd_Model_siege_65 rfl ?_
  refine zj_getI rfl (by decide) rfl zu_Model (k := 16) (by decide) rfl zl_Model_122 zd_Model_siege_66 ?_
  refine zj_isub zd_Model_siege_69 ?_
  exact zj_ireturn rfl zd_Model_siege_70 e
theorem zb_Model_siege_71 {Γ : zG} {σ : zS} {x1 : Int32} {dc : Nat} {P : zS → Prop}  (hm : z_Cv dc zm_Model_lay_1 [.inr (64), .inr (77), .inl (nI 0)] σ P) (hdp : dc < z_dep Γ) (k : ∀ σ1, P σ1 → z_J Γ zm_Model_siege 83 [some (.inr (63)), some (.inl (x1)), none, none] [] σ1) : z_J Γ zm_Model_siege 71 [some (.inr (63)), some (.inl (x1)), none, none] [] σ := by
  refine zj_aload_n zd_Model_siege_71 rfl ?_
  refine zj_getR rfl (by decide) rfl zu_Model (k := 0) (by decide) rfl zl_Model_9 zd_Model_siege_72 (o' := 64) rfl ?_
  refine zj_aload_n zd_Model_siege_75 rfl ?_
  refine zj_getR rfl (by decide) rfl zu_Model (k := 28) (by decide) rfl zl_Model_57 zd_Model_siege_76 (o' := 77) rfl ?_
  refine zj_iconst (v := nI 0) zd_Model_siege_79 (by decide) ?_
  exact zj_callSv (As := [.inr (64), .inr (77), .inl (nI 0)]) hm hdp zl_Model_165 zq_Model_lay_1 zd_Model_siege_80 rfl (Nat.le_of_ble_eq_true rfl) (fun σ1 h => (k σ1 h))
theorem zb_Model_siege_83 {Γ : zG} {σ : zS} {x1 : Int32}  (k : z_J Γ zm_Model_siege 85 [some (.inr (63)), some (.inl (x1)), none, some (.inl (nI 0))] [] σ) : z_J Γ zm_Model_siege 83 [some (.inr (63)), some (.inl (x1)), none, none] [] σ := by
  refine zj_iconst (v := nI 0) zd_Model_siege_83 (by decide) ?_
  refine zj_istore_n (L' := [some (.inr (63)), some (.inl (x1)), none, some (.inl (nI 0))]) zd_Model_siege_84 (by decide) rfl ?_
  exact k
theorem zb_Model_siege_85 {Γ : zG} {σ : zS} {x1 x3 : Int32}  (kt : x1 ≤ x3 → z_J Γ zm_Model_siege 141 [some (.inr (63)), some (.inl (x1)), none, some (.inl (x3))] [] σ) (kf : ¬ x1 ≤ x3 → z_J Γ zm_Model_siege 90 [some (.inr (63)), some (.inl (x1)), none, some (.inl (x3))] [] σ) : z_J Γ zm_Model_siege 85 [some (.inr (63)), some (.inl (x1)), none, some (.inl (x3))] [] σ := by
  refine zj_iload_n zd_Model_siege_85 rfl ?_
  refine zj_iload_n zd_Model_siege_86 rfl ?_
  exact zj_icmp_ge zd_Model_siege_87 (by decide) (fun h => (kt h)) (fun h => (kf h))
theorem zb_Model_siege_90 {Γ : zG} {σ : zS} {x1 x3 : Int32} {k1 k2 k3 k4 : Nat} {dc : Nat} {P : Int32 → zS → Prop}  (b1 : z_ix ((nI 4) * x3) 320 k1) (b2 : z_ix (((nI 4) * x3) + (nI 1)) 320 k2) (b3 : z_ix (((nI 4) * x3) + (nI 2)) 320 k3) (b4 : z_ix (((nI 4) * x3) + (nI 3)) 320 k4) (hm : z_Ci dc zm_Model_act [.inr (63), .inl (σ.1 79 k1), .inl (σ.1 79 k2), .inl (σ.1 79 k3), .inl (σ.1 79 k4)] σ P) (hdp : dc < z_dep Γ) (k : ∀ r σ1, P r σ1 → z_J Γ zm_Model_siege 132 [some (.inr (63)), some (.inl (x1)), none, some (.inl (x3))] [.inl (r)] σ1) : z_J Γ zm_Model_siege 90 [some (.inr (63)), some (.inl (x1)), none, some (.inl (x3))] [] σ := by
  refine zj_aload_n zd_Model_siege_90 rfl ?_
  refine zj_aload_n zd_Model_siege_91 rfl ?_
  refine zj_getR rfl (by decide) rfl zu_Model (k := 32) (by decide) rfl zl_Model_63 zd_Model_siege_92 (o' := 79) rfl ?_
  refine zj_iconst (v := nI 4) zd_Model_siege_95 (by decide) ?_
  refine zj_iload_n zd_Model_siege_96 rfl ?_
  refine zj_imul zd_Model_siege_97 ?_
  refine zj_iaload rfl (by decide) b1 zd_Model_siege_98 ?_
  refine zj_aload_n zd_Model_siege_99 rfl ?_
  refine zj_getR rfl (by decide) rfl zu_Model (k := 32) (by decide) rfl zl_Model_63 zd_Model_siege_100 (o' := 79) rfl ?_
  refine zj_iconst (v := nI 4) zd_Model_siege_103 (by decide) ?_
  refine zj_iload_n zd_Model_siege_104 rfl ?_
  refine zj_imul zd_Model_siege_105 ?_
  refine zj_iconst (v := nI 1) zd_Model_siege_106 (by decide) ?_
  refine zj_iadd zd_Model_siege_107 ?_
  refine zj_iaload rfl (by decide) b2 zd_Model_siege_108 ?_
  refine zj_aload_n zd_Model_siege_109 rfl ?_
  refine zj_getR rfl (by decide) rfl zu_Model (k := 32) (by decide) rfl zl_Model_63 zd_Model_siege_110 (o' := 79) rfl ?_
  refine zj_iconst (v := nI 4) zd_Model_siege_113 (by decide) ?_
  refine zj_iload_n zd_Model_siege_114 rfl ?_
  refine zj_imul zd_Model_siege_115 ?_
  refine zj_iconst (v := nI 2) zd_Model_siege_116 (by decide) ?_
  refine zj_iadd zd_Model_siege_117 ?_
  refine zj_iaload rfl (by decide) b3 zd_Model_siege_118 ?_
  refine zj_aload_n zd_Model_siege_119 rfl ?_
  refine zj_getR rfl (by decide) rfl zu_Model (k := 32) (by decide) rfl zl_Model_63 zd_Model_siege_120 (o' := 79) rfl ?_
  refine zj_iconst (v := nI 4) zd_Model_siege_123 (by decide) ?_
  refine zj_iload_n zd_Model_siege_124 rfl ?_
  refine zj_imul zd_Model_siege_125 ?_
  refine zj_iconst (v := nI 3) zd_Model_siege_126 (by decide) ?_
  refine zj_iadd zd_Model_siege_127 ?_
  refine zj_iaload rfl (by decide) b4 zd_Model_siege_128 ?_
  exact zj_callVi (As := [.inl (σ.1 79 k1), .inl (σ.1 79 k2), .inl (σ.1 79 k3), .inl (σ.1 79 k4)]) hm hdp rfl (by decide) rfl zl_Model_327 zq_Model_act zd_Model_siege_129 rfl (Nat.le_of_ble_eq_true rfl) (fun r σ1 h => (k r σ1 h))
theorem zb_Model_siege_132 {Γ : zG} {σ : zS} {x1 x3 y0 : Int32}  (kt : y0 = 0 → z_J Γ zm_Model_siege 141 [some (.inr (63)), some (.inl (x1)), none, some (.inl (x3))] [] σ) (kf : ¬ y0 = 0 → z_J Γ zm_Model_siege 135 [some (.inr (63)), some (.inl (x1)), none, some (.inl (x3))] [] σ) : z_J Γ zm_Model_siege 132 [some (.inr (63)), some (.inl (x1)), none, some (.inl (x3))] [.inl (y0)] σ := by
  exact zj_if_eq zd_Model_siege_132 (by decide) (fun h => (kt h)) (fun h => (kf h))
theorem zb_Model_siege_135 {Γ : zG} {σ : zS} {x1 x3 : Int32}  (k : z_J Γ zm_Model_siege 85 [some (.inr (63)), some (.inl (x1)), none, some (.inl (x3 + nI 1))] [] σ) : z_J Γ zm_Model_siege 135 [some (.inr (63)), some (.inl (x1)), none, some (.inl (x3))] [] σ := by
  refine zj_iinc (v := nI 1) (L' := [some (.inr (63)), some (.inl (x1)), none, some (.inl (x3 + nI 1))]) zd_Model_siege_135 rfl (by decide) (by decide) rfl ?_
  exact zj_goto zd_Model_siege_138 (by decide) k
theorem zb_Model_siege_141 {Γ : zG} {σ : zS} {x1 x3 : Int32}  (kt : x3 ≤ 0 → z_J Γ zm_Model_siege 153 [some (.inr (63)), some (.inl (x1)), none, some (.inl (x3))] [] σ) (kf : ¬ x3 ≤ 0 → z_J Γ zm_Model_siege 145 [some (.inr (63)), some (.inl (x1)), none, some (.inl (x3))] [] σ) : z_J Γ zm_Model_siege 141 [some (.inr (63)), some (.inl (x1)), none, some (.inl (x3))] [] σ := by
  refine zj_iload_n zd_Model_siege_141 rfl ?_
  exact zj_if_le zd_Model_siege_142 (by decide) (fun h => (kt h)) (fun h => (kf h))
theorem zb_Model_siege_145 {Γ : zG} {σ : zS} {x1 x3 : Int32} {dc : Nat} {P : zS → Prop}  (hm : z_Cv dc zm_Model_remember [.inr (63), .inr (77)] σ P) (hdp : dc < z_dep Γ) (k : ∀ σ1, P σ1 → z_J Γ zm_Model_siege 153 [some (.inr (63)), some (.inl (x1)), none, some (.inl (x3))] [] σ1) : z_J Γ zm_Model_siege 145 [some (.inr (63)), some (.inl (x1)), none, some (.inl (x3))] [] σ := by
  refine zj_aload_n zd_Model_siege_145 rfl ?_
  refine zj_aload_n zd_Model_siege_146 rfl ?_
  refine zj_getR rfl (by decide) rfl zu_Model (k := 28) (by decide) rfl zl_Model_57 zd_Model_siege_147 (o' := 77) rfl ?_
  exact zj_callVv (As := [.inr (77)]) hm hdp rfl (by decide) rfl zl_Model_284 zq_Model_remember zd_Model_siege_150 rfl (Nat.le_of_ble_eq_true rfl) (fun σ1 h => (k σ1 h))
theorem zb_Model_siege_153 {Γ : zG} {σ : zS} {x1 x3 : Int32}  (kt : x1 ≤ x3 → z_J Γ zm_Model_siege 168 [some (.inr (63)), none, none, some (.inl (x3))] [.inr (63)] (z_pI σ 63 10 (nI 0))) (kf : ¬ x1 ≤ x3 → z_J Γ zm_Model_siege 164 [some (.inr (63)), none, none, some (.inl (x3))] [.inr (63)] (z_pI σ 63 10 (nI 0))) : z_J Γ zm_Model_siege 153 [some (.inr (63)), some (.inl (x1)), none, some (.inl (x3))] [] σ := by
  refine zj_aload_n zd_Model_siege_153 rfl ?_
  refine zj_iconst (v := nI 0) zd_Model_siege_154 (by decide) ?_
  refine zj_putI rfl (by decide) rfl zu_Model zy_Model_ok zn_Model (k := 10) (by decide) rfl rfl zl_Model_94 rfl rfl zd_Model_siege_155 ?_
  refine zj_aload_n zd_Model_siege_158 rfl ?_
  refine zj_iload_n zd_Model_siege_159 rfl ?_
  refine zj_iload_n zd_Model_siege_160 rfl ?_
  exact zj_icmp_ge zd_Model_siege_161 (by decide) (fun h => (zj_weak (L' := [some (.inr (63)), none, none, some (.inl (x3))]) ⟨rfl, ⟨rfl, trivial⟩⟩ (kt h))) (fun h => (zj_weak (L' := [some (.inr (63)), none, none, some (.inl (x3))]) ⟨rfl, ⟨rfl, trivial⟩⟩ (kf h)))
theorem zb_Model_siege_164 {Γ : zG} {σ : zS} {x3 : Int32}  (k : z_J Γ zm_Model_siege 169 [some (.inr (63)), none, none, some (.inl (x3))] [.inl (nI 1), .inr (63)] σ) : z_J Γ zm_Model_siege 164 [some (.inr (63)), none, none, some (.inl (x3))] [.inr (63)] σ := by
  refine zj_iconst (v := nI 1) zd_Model_siege_164 (by decide) ?_
  exact zj_goto zd_Model_siege_165 (by decide) k
theorem zb_Model_siege_168 {Γ : zG} {σ : zS} {x3 : Int32}  (k : z_J Γ zm_Model_siege 169 [some (.inr (63)), none, none, some (.inl (x3))] [.inl (nI 0), .inr (63)] σ) : z_J Γ zm_Model_siege 168 [some (.inr (63)), none, none, some (.inl (x3))] [.inr (63)] σ := by
  refine zj_iconst (v := nI 0) zd_Model_siege_168 (by decide) ?_
  exact k
theorem zb_Model_siege_169 {Γ : zG} {σ : zS} {x3 y0 : Int32} {dc : Nat} {P : zS → Prop}  (hm : z_Cv dc zm_Model_tell [.inr (63), .inl (y0)] σ P) (hdp : dc < z_dep Γ) (k : ∀ σ1, P σ1 → z_J Γ zm_Model_siege 172 [some (.inr (63)), none, none, some (.inl (x3))] [] σ1) : z_J Γ zm_Model_siege 169 [some (.inr (63)), none, none, some (.inl (x3))] [.inl (y0), .inr (63)] σ := by
  exact zj_callVv (As := [.inl (y0)]) hm hdp rfl (by decide) rfl zl_Model_312 zq_Model_tell zd_Model_siege_169 rfl (Nat.le_of_ble_eq_true rfl) (fun σ1 h => (k σ1 h))
theorem zb_Model_siege_172 {Γ : zG} {σ : zS} {x3 : Int32} {dc : Nat} {P : Int32 → zS → Prop}  (hm : z_Ci dc zm_Model_whereBits [.inr (63), .inr (64), .inl (nI 1)] σ P) (hdp : dc < z_dep Γ) (k : ∀ r σ1, P r σ1 → z_J Γ zm_Model_siege 182 [none, none, none, some (.inl (x3))] [.inl (r), .inr (63)] σ1) : z_J Γ zm_Model_siege 172 [some (.inr (63)), none, none, some (.inl (x3))] [] σ := by
  refine zj_aload_n zd_Model_siege_172 rfl ?_
  refine zj_aload_n zd_Model_siege_173 rfl ?_
  refine zj_aload_n zd_Model_siege_174 rfl ?_
  refine zj_getR rfl (by decide) rfl zu_Model (k := 0) (by decide) rfl zl_Model_9 zd_Model_siege_175 (o' := 64) rfl ?_
  refine zj_iconst (v := nI 1) zd_Model_siege_178 (by decide) ?_
  exact zj_callVi (As := [.inr (64), .inl (nI 1)]) hm hdp rfl (by decide) rfl zl_Model_331 zq_Model_whereBits zd_Model_siege_179 rfl (Nat.le_of_ble_eq_true rfl) (fun r σ1 h => (zj_weak (L' := [none, none, none, some (.inl (x3))]) ⟨rfl, trivial⟩ (k r σ1 h)))
theorem zb_Model_siege_182 {Γ : zG} {σ : zS} {x3 y0 : Int32} {dc : Nat} {P : zS → Prop}  (hm : z_Cv dc zm_Model_tell [.inr (63), .inl (z_bc y0)] σ P) (hdp : dc < z_dep Γ) (k : ∀ σ1, P σ1 → z_J Γ zm_Model_siege 188 [none, none, none, some (.inl (x3))] [] σ1) : z_J Γ zm_Model_siege 182 [none, none, none, some (.inl (x3))] [.inl (y0), .inr (63)] σ := by
  refine zj_bitc zl_Model_261 (Nat.lt_of_le_of_lt (Nat.zero_le _) hdp) (Nat.le_of_ble_eq_true rfl) zd_Model_siege_182 ?_
  exact zj_callVv (As := [.inl (z_bc y0)]) hm hdp rfl (by decide) rfl zl_Model_312 zq_Model_tell zd_Model_siege_185 rfl (Nat.le_of_ble_eq_true rfl) (fun σ1 h => (k σ1 h))
theorem zb_Model_siege_188 {Γ : zG} {σ : zS} {x3 : Int32}  (e : z_end Γ (some (x3)) σ) : z_J Γ zm_Model_siege 188 [none, none, none, some (.inl (x3))] [] σ := by
  refine zj_iload_n zd_Model_siege_188 rfl ?_
  exact zj_ireturn rfl zd_Model_siege_189 e
theorem zd_Model_readAct_0 : decode zm_Model_readAct.2.1 0 = .ok (.aload_n 0, 1) := by decide +kernel
theorem zd_Model_readAct_1 : decode zm_Model_readAct.2.1 1 = .ok (.invokevirtual 133, 3) := by decide +kernel
theorem zd_Model_readAct_4 : decode zm_Model_readAct.2.1 4 = .ok (.istore_n 2, 1) := by decide +kernel
theorem zd_Model_readAct_5 : decode zm_Model_readAct.2.1 5 = .ok (.iload_n 2, 1) := by decide +kernel
theorem zd_Model_readAct_6 : decode zm_Model_readAct.2.1 6 = .ok (.bipush 108, 2) := by decide +kernel
theorem zd_Model_readAct_8 : decode zm_Model_readAct.2.1 8 = .ok (.if_icmp .eq 35, 3) := by decide +kernel
theorem zd_Model_readAct_11 : decode zm_Model_readAct.2.1 11 = .ok (.iload_n 2, 1) := by decide +kernel
theorem zd_Model_readAct_12 : decode zm_Model_readAct.2.1 12 = .ok (.bipush 111, 2) := by decide +kernel
theorem zd_Model_readAct_14 : decode zm_Model_readAct.2.1 14 = .ok (.if_icmp .eq 29, 3) := by decide +kernel
theorem zd_Model_readAct_17 : decode zm_Model_readAct.2.1 17 = .ok (.iload_n 2, 1) := by decide +kernel
theorem zd_Model_readAct_18 : decode zm_Model_readAct.2.1 18 = .ok (.bipush 114, 2) := by decide +kernel
theorem zd_Model_readAct_20 : decode zm_Model_readAct.2.1 20 = .ok (.if_icmp .eq 23, 3) := by decide +kernel
theorem zd_Model_readAct_23 : decode zm_Model_readAct.2.1 23 = .ok (.iload_n 2, 1) := by decide +kernel
theorem zd_Model_readAct_24 : decode zm_Model_readAct.2.1 24 = .ok (.bipush 115, 2) := by decide +kernel
theorem zd_Model_readAct_26 : decode zm_Model_readAct.2.1 26 = .ok (.if_icmp .eq 17, 3) := by decide +kernel
theorem zd_Model_readAct_29 : decode zm_Model_readAct.2.1 29 = .ok (.iload_n 2, 1) := by decide +kernel
theorem zd_Model_readAct_30 : decode zm_Model_readAct.2.1 30 = .ok (.bipush 100, 2) := by decide +kernel
theorem zd_Model_readAct_32 : decode zm_Model_readAct.2.1 32 = .ok (.if_icmp .eq 11, 3) := by decide +kernel
theorem zd_Model_readAct_35 : decode zm_Model_readAct.2.1 35 = .ok (.aload_n 0, 1) := by decide +kernel
theorem zd_Model_readAct_36 : decode zm_Model_readAct.2.1 36 = .ok (.aload_n 0, 1) := by decide +kernel
theorem zd_Model_readAct_37 : decode zm_Model_readAct.2.1 37 = .ok (.getfield 119, 3) := by decide +kernel
theorem zd_Model_readAct_40 : decode zm_Model_readAct.2.1 40 = .ok (.invokevirtual 141, 3) := by decide +kernel
theorem zd_Model_readAct_43 : decode zm_Model_readAct.2.1 43 = .ok (.aload_n 0, 1) := by decide +kernel
theorem zd_Model_readAct_44 : decode zm_Model_readAct.2.1 44 = .ok (.dup, 1) := by decide +kernel
theorem zd_Model_readAct_45 : decode zm_Model_readAct.2.1 45 = .ok (.getfield 119, 3) := by decide +kernel
theorem zd_Model_readAct_48 : decode zm_Model_readAct.2.1 48 = .ok (.iconst 1, 1) := by decide +kernel
theorem zd_Model_readAct_49 : decode zm_Model_readAct.2.1 49 = .ok (.iadd, 1) := by decide +kernel
theorem zd_Model_readAct_50 : decode zm_Model_readAct.2.1 50 = .ok (.putfield 119, 3) := by decide +kernel
theorem zd_Model_readAct_53 : decode zm_Model_readAct.2.1 53 = .ok (.aload_n 0, 1) := by decide +kernel
theorem zd_Model_readAct_54 : decode zm_Model_readAct.2.1 54 = .ok (.getfield 63, 3) := by decide +kernel
theorem zd_Model_readAct_57 : decode zm_Model_readAct.2.1 57 = .ok (.iload_n 1, 1) := by decide +kernel
theorem zd_Model_readAct_58 : decode zm_Model_readAct.2.1 58 = .ok (.iload_n 2, 1) := by decide +kernel
theorem zd_Model_readAct_59 : decode zm_Model_readAct.2.1 59 = .ok (.iastore, 1) := by decide +kernel
theorem zd_Model_readAct_60 : decode zm_Model_readAct.2.1 60 = .ok (.aload_n 0, 1) := by decide +kernel
theorem zd_Model_readAct_61 : decode zm_Model_readAct.2.1 61 = .ok (.getfield 63, 3) := by decide +kernel
theorem zd_Model_readAct_64 : decode zm_Model_readAct.2.1 64 = .ok (.iload_n 1, 1) := by decide +kernel
theorem zd_Model_readAct_65 : decode zm_Model_readAct.2.1 65 = .ok (.iconst 1, 1) := by decide +kernel
theorem zd_Model_readAct_66 : decode zm_Model_readAct.2.1 66 = .ok (.iadd, 1) := by decide +kernel
theorem zd_Model_readAct_67 : decode zm_Model_readAct.2.1 67 = .ok (.iload_n 2, 1) := by decide +kernel
theorem zd_Model_readAct_68 : decode zm_Model_readAct.2.1 68 = .ok (.bipush 100, 2) := by decide +kernel
theorem zd_Model_readAct_70 : decode zm_Model_readAct.2.1 70 = .ok (.if_icmp .ne 11, 3) := by decide +kernel
theorem zd_Model_readAct_73 : decode zm_Model_readAct.2.1 73 = .ok (.aload_n 0, 1) := by decide +kernel
theorem zd_Model_readAct_74 : decode zm_Model_readAct.2.1 74 = .ok (.iconst 2, 1) := by decide +kernel
theorem zd_Model_readAct_75 : decode zm_Model_readAct.2.1 75 = .ok (.invokevirtual 205, 3) := by decide +kernel
theorem zd_Model_readAct_78 : decode zm_Model_readAct.2.1 78 = .ok (.goto 28, 3) := by decide +kernel
theorem zd_Model_readAct_81 : decode zm_Model_readAct.2.1 81 = .ok (.iload_n 2, 1) := by decide +kernel
theorem zd_Model_readAct_82 : decode zm_Model_readAct.2.1 82 = .ok (.bipush 115, 2) := by decide +kernel
theorem zd_Model_readAct_84 : decode zm_Model_readAct.2.1 84 = .ok (.if_icmp .ne 14, 3) := by decide +kernel
theorem zd_Model_readAct_87 : decode zm_Model_readAct.2.1 87 = .ok (.aload_n 0, 1) := by decide +kernel
theorem zd_Model_readAct_88 : decode zm_Model_readAct.2.1 88 = .ok (.bipush 48, 2) := by decide +kernel
theorem zd_Model_readAct_90 : decode zm_Model_readAct.2.1 90 = .ok (.bipush 10, 2) := by decide +kernel
theorem zd_Model_readAct_92 : decode zm_Model_readAct.2.1 92 = .ok (.invokevirtual 145, 3) := by decide +kernel
theorem zd_Model_readAct_95 : decode zm_Model_readAct.2.1 95 = .ok (.goto 11, 3) := by decide +kernel
theorem zd_Model_readAct_98 : decode zm_Model_readAct.2.1 98 = .ok (.aload_n 0, 1) := by decide +kernel
theorem zd_Model_readAct_99 : decode zm_Model_readAct.2.1 99 = .ok (.bipush 97, 2) := by decide +kernel
theorem zd_Model_readAct_101 : decode zm_Model_readAct.2.1 101 = .ok (.bipush 12, 2) := by decide +kernel
theorem zd_Model_readAct_103 : decode zm_Model_readAct.2.1 103 = .ok (.invokevirtual 145, 3) := by decide +kernel
theorem zd_Model_readAct_106 : decode zm_Model_readAct.2.1 106 = .ok (.iastore, 1) := by decide +kernel
theorem zd_Model_readAct_107 : decode zm_Model_readAct.2.1 107 = .ok (.iload_n 2, 1) := by decide +kernel
theorem zd_Model_readAct_108 : decode zm_Model_readAct.2.1 108 = .ok (.bipush 108, 2) := by decide +kernel
theorem zd_Model_readAct_110 : decode zm_Model_readAct.2.1 110 = .ok (.if_icmp .eq 15, 3) := by decide +kernel
theorem zd_Model_readAct_113 : decode zm_Model_readAct.2.1 113 = .ok (.iload_n 2, 1) := by decide +kernel
theorem zd_Model_readAct_114 : decode zm_Model_readAct.2.1 114 = .ok (.bipush 111, 2) := by decide +kernel
theorem zd_Model_readAct_116 : decode zm_Model_readAct.2.1 116 = .ok (.if_icmp .eq 9, 3) := by decide +kernel
theorem zd_Model_readAct_119 : decode zm_Model_readAct.2.1 119 = .ok (.iload_n 2, 1) := by decide +kernel
theorem zd_Model_readAct_120 : decode zm_Model_readAct.2.1 120 = .ok (.bipush 115, 2) := by decide +kernel
theorem zd_Model_readAct_122 : decode zm_Model_readAct.2.1 122 = .ok (.if_icmp .ne 19, 3) := by decide +kernel
theorem zd_Model_readAct_125 : decode zm_Model_readAct.2.1 125 = .ok (.aload_n 0, 1) := by decide +kernel
theorem zd_Model_readAct_126 : decode zm_Model_readAct.2.1 126 = .ok (.getfield 63, 3) := by decide +kernel
theorem zd_Model_readAct_129 : decode zm_Model_readAct.2.1 129 = .ok (.iload_n 1, 1) := by decide +kernel
theorem zd_Model_readAct_130 : decode zm_Model_readAct.2.1 130 = .ok (.iconst 2, 1) := by decide +kernel
theorem zd_Model_readAct_131 : decode zm_Model_readAct.2.1 131 = .ok (.iadd, 1) := by decide +kernel
theorem zd_Model_readAct_132 : decode zm_Model_readAct.2.1 132 = .ok (.aload_n 0, 1) := by decide +kernel
theorem zd_Model_readAct_133 : decode zm_Model_readAct.2.1 133 = .ok (.bipush 48, 2) := by decide +kernel
theorem zd_Model_readAct_135 : decode zm_Model_readAct.2.1 135 = .ok (.bipush 10, 2) := by decide +kernel
theorem zd_Model_readAct_137 : decode zm_Model_readAct.2.1 137 = .ok (.invokevirtual 145, 3) := by decide +kernel
theorem zd_Model_readAct_140 : decode zm_Model_readAct.2.1 140 = .ok (.iastore, 1) := by decide +kernel
theorem zd_Model_readAct_141 : decode zm_Model_readAct.2.1 141 = .ok (.iload_n 2, 1) := by decide +kernel
theorem zd_Model_readAct_142 : decode zm_Model_readAct.2.1 142 = .ok (.bipush 111, 2) := by decide +kernel
theorem zd_Model_readAct_144 : decode zm_Model_readAct.2.1 144 = .ok (.if_icmp .ne 16, 3) := by decide +kernel
theorem zd_Model_readAct_147 : decode zm_Model_readAct.2.1 147 = .ok (.aload_n 0, 1) := by decide +kernel
theorem zd_Model_readAct_148 : decode zm_Model_readAct.2.1 148 = .ok (.getfield 63, 3) := by decide +kernel
theorem zd_Model_readAct_151 : decode zm_Model_readAct.2.1 151 = .ok (.iload_n 1, 1) := by decide +kernel
theorem zd_Model_readAct_152 : decode zm_Model_readAct.2.1 152 = .ok (.iconst 3, 1) := by decide +kernel
theorem zd_Model_readAct_153 : decode zm_Model_readAct.2.1 153 = .ok (.iadd, 1) := by decide +kernel
theorem zd_Model_readAct_154 : decode zm_Model_readAct.2.1 154 = .ok (.aload_n 0, 1) := by decide +kernel
theorem zd_Model_readAct_155 : decode zm_Model_readAct.2.1 155 = .ok (.iconst 2, 1) := by decide +kernel
theorem zd_Model_readAct_156 : decode zm_Model_readAct.2.1 156 = .ok (.invokevirtual 205, 3) := by decide +kernel
theorem zd_Model_readAct_159 : decode zm_Model_readAct.2.1 159 = .ok (.iastore, 1) := by decide +kernel
theorem zd_Model_readAct_160 : decode zm_Model_readAct.2.1 160 = .ok (.return_, 1) := by decide +kernel
theorem zb_Model_readAct_0 {Γ : zG} {σ : zS} {x1 : Int32} {dc : Nat} {P : Int32 → zS → Prop}  (hm : z_Ci dc zm_Model_here [.inr (63)] σ P) (hdp : dc < z_dep Γ) (k : ∀ r σ1, P r σ1 → z_J Γ zm_Model_readAct 4 [some (.inr (63)), some (.inl (x1)), none] [.inl (r)] σ1) : z_J Γ zm_Model_readAct 0 [some (.inr (63)), some (.inl (x1)), none] [] σ := by
  refine zj_aload_n zd_Model_readAct_0 rfl ?_
  exact zj_callVi (As := []) hm hdp rfl (by decide) rfl zl_Model_133 zq_Model_here zd_Model_readAct_1 rfl (Nat.le_of_ble_eq_true rfl) (fun r σ1 h => (k r σ1 h))
theorem zb_Model_readAct_4 {Γ : zG} {σ : zS} {x1 y0 : Int32}  (kt : y0 = (nI 108) → z_J Γ zm_Model_readAct 43 [some (.inr (63)), some (.inl (x1)), some (.inl (y0))] [] σ) (kf : ¬ y0 = (nI 108) → z_J Γ zm_Model_readAct 11 [some (.inr (63)), some (.inl (x1)), some (.inl (y0))] [] σ) : z_J Γ zm_Model_readAct 4 [some (.inr (63)), some (.inl (x1)), none] [.inl (y0)] σ := by
  refine zj_istore_n (L' := [some (.inr (63)), some (.inl (x1)), some (.inl (y0))]) zd_Model_readAct_4 (by decide) rfl ?_
  refine zj_iload_n zd_Model_readAct_5 rfl ?_
  refine zj_bipush (v := nI 108) zd_Model_readAct_6 (by decide) ?_
  exact zj_icmp_eq zd_Model_readAct_8 (by decide) (fun h => (kt h)) (fun h => (kf h))
theorem zb_Model_readAct_11 {Γ : zG} {σ : zS} {x1 x2 : Int32}  (kt : x2 = (nI 111) → z_J Γ zm_Model_readAct 43 [some (.inr (63)), some (.inl (x1)), some (.inl (x2))] [] σ) (kf : ¬ x2 = (nI 111) → z_J Γ zm_Model_readAct 17 [some (.inr (63)), some (.inl (x1)), some (.inl (x2))] [] σ) : z_J Γ zm_Model_readAct 11 [some (.inr (63)), some (.inl (x1)), some (.inl (x2))] [] σ := by
  refine zj_iload_n zd_Model_readAct_11 rfl ?_
  refine zj_bipush (v := nI 111) zd_Model_readAct_12 (by decide) ?_
  exact zj_icmp_eq zd_Model_readAct_14 (by decide) (fun h => (kt h)) (fun h => (kf h))
theorem zb_Model_readAct_17 {Γ : zG} {σ : zS} {x1 x2 : Int32}  (kt : x2 = (nI 114) → z_J Γ zm_Model_readAct 43 [some (.inr (63)), some (.inl (x1)), some (.inl (x2))] [] σ) (kf : ¬ x2 = (nI 114) → z_J Γ zm_Model_readAct 23 [some (.inr (63)), some (.inl (x1)), some (.inl (x2))] [] σ) : z_J Γ zm_Model_readAct 17 [some (.inr (63)), some (.inl (x1)), some (.inl (x2))] [] σ := by
  refine zj_iload_n zd_Model_readAct_17 rfl ?_
  refine zj_bipush (v := nI 114) zd_Model_readAct_18 (by decide) ?_
  exact zj_icmp_eq zd_Model_readAct_20 (by decide) (fun h => (kt h)) (fun h => (kf h))
theorem zb_Model_readAct_23 {Γ : zG} {σ : zS} {x1 x2 : Int32}  (kt : x2 = (nI 115) → z_J Γ zm_Model_readAct 43 [some (.inr (63)), some (.inl (x1)), some (.inl (x2))] [] σ) (kf : ¬ x2 = (nI 115) → z_J Γ zm_Model_readAct 29 [some (.inr (63)), some (.inl (x1)), some (.inl (x2))] [] σ) : z_J Γ zm_Model_readAct 23 [some (.inr (63)), some (.inl (x1)), some (.inl (x2))] [] σ := by
  refine zj_iload_n zd_Model_readAct_23 rfl ?_
  refine zj_bipush (v := nI 115) zd_Model_readAct_24 (by decide) ?_
  exact zj_icmp_eq zd_Model_readAct_26 (by decide) (fun h => (kt h)) (fun h => (kf h))
theorem zb_Model_readAct_29 {Γ : zG} {σ : zS} {x1 x2 : Int32}  (kt : x2 = (nI 100) → z_J Γ zm_Model_readAct 43 [some (.inr (63)), some (.inl (x1)), some (.inl (x2))] [] σ) (kf : ¬ x2 = (nI 100) → z_J Γ zm_Model_readAct 35 [some (.inr (63)), some (.inl (x1)), some (.inl (x2))] [] σ) : z_J Γ zm_Model_readAct 29 [some (.inr (63)), some (.inl (x1)), some (.inl (x2))] [] σ := by
  refine zj_iload_n zd_Model_readAct_29 rfl ?_
  refine zj_bipush (v := nI 100) zd_Model_readAct_30 (by decide) ?_
  exact zj_icmp_eq zd_Model_readAct_32 (by decide) (fun h => (kt h)) (fun h => (kf h))
theorem zb_Model_readAct_35 {Γ : zG} {σ : zS} {x1 x2 : Int32} {dc : Nat} {P : zS → Prop}  (hm : z_Cv dc zm_Model_fault [.inr (63), .inl (σ.1 63 15)] σ P) (hdp : dc < z_dep Γ) (k : ∀ σ1, P σ1 → z_J Γ zm_Model_readAct 43 [some (.inr (63)), some (.inl (x1)), some (.inl (x2))] [] σ1) : z_J Γ zm_Model_readAct 35 [some (.inr (63)), some (.inl (x1)), some (.inl (x2))] [] σ := by
  refine zj_aload_n zd_Model_readAct_35 rfl ?_
  refine zj_aload_n zd_Model_readAct_36 rfl ?_
  refine zj_getI rfl (by decide) rfl zu_Model (k := 15) (by decide) rfl zl_Model_119 zd_Model_readAct_37 ?_
  exact zj_callVv (As := [.inl (σ.1 63 15)]) hm hdp rfl (by decide) rfl zl_Model_141 zq_Model_fault zd_Model_readAct_40 rfl (Nat.le_of_ble_eq_true rfl) (fun σ1 h => (k σ1 h))
theorem zb_Model_readAct_43 {Γ : zG} {σ : zS} {x1 x2 : Int32} {k1 : Nat}  (b1 : z_ix x1 320 k1) (kt : ¬ x2 = (nI 100) → z_J Γ zm_Model_readAct 81 [some (.inr (63)), some (.inl (x1)), some (.inl (x2))] [.inl (x1 + (nI 1)), .inr (79)] (z_pI (z_pI σ 63 15 ((σ.1 63 15) + (nI 1))) 79 k1 x2)) (kf : x2 = (nI 100) → z_J Γ zm_Model_readAct 73 [some (.inr (63)), some (.inl (x1)), some (.inl (x2))] [.inl (x1 + (nI 1)), .inr (79)] (z_pI (z_pI σ 63 15 ((σ.1 63 15) + (nI 1))) 79 k1 x2)) : z_J Γ zm_Model_readAct 43 [some (.inr (63)), some (.inl (x1)), some (.inl (x2))] [] σ := by
  refine zj_aload_n zd_Model_readAct_43 rfl ?_
  refine zj_dup zd_Model_readAct_44 ?_
  refine zj_getI rfl (by decide) rfl zu_Model (k := 15) (by decide) rfl zl_Model_119 zd_Model_readAct_45 ?_
  refine zj_iconst (v := nI 1) zd_Model_readAct_48 (by decide) ?_
  refine zj_iadd zd_Model_readAct_49 ?_
  refine zj_putI rfl (by decide) rfl zu_Model zy_Model_ok zn_Model (k := 15) (by decide) rfl rfl zl_Model_119 rfl rfl zd_Model_readAct_50 ?_
  refine zj_aload_n zd_Model_readAct_53 rfl ?_
  refine zj_getR rfl (by decide) rfl zu_Model (k := 32) (by decide) rfl zl_Model_63 zd_Model_readAct_54 (o' := 79) rfl ?_
  refine zj_iload_n zd_Model_readAct_57 rfl ?_
  refine zj_iload_n zd_Model_readAct_58 rfl ?_
  refine zj_iastore rfl (by decide) b1 zd_Model_readAct_59 ?_
  refine zj_aload_n zd_Model_readAct_60 rfl ?_
  refine zj_getR rfl (by decide) rfl zu_Model (k := 32) (by decide) rfl zl_Model_63 zd_Model_readAct_61 (o' := 79) rfl ?_
  refine zj_iload_n zd_Model_readAct_64 rfl ?_
  refine zj_iconst (v := nI 1) zd_Model_readAct_65 (by decide) ?_
  refine zj_iadd zd_Model_readAct_66 ?_
  refine zj_iload_n zd_Model_readAct_67 rfl ?_
  refine zj_bipush (v := nI 100) zd_Model_readAct_68 (by decide) ?_
  exact zj_icmp_ne zd_Model_readAct_70 (by decide) (fun h => (kt h)) (fun h => (kf h))
theorem zb_Model_readAct_73 {Γ : zG} {σ : zS} {x1 x2 y0 : Int32} {dc : Nat} {P : Int32 → zS → Prop}  (hm : z_Ci dc zm_Model_number [.inr (63), .inl (nI 2)] σ P) (hdp : dc < z_dep Γ) (k : ∀ r σ1, P r σ1 → z_J Γ zm_Model_readAct 78 [some (.inr (63)), some (.inl (x1)), some (.inl (x2))] [.inl (r), .inl (y0), .inr (79)] σ1) : z_J Γ zm_Model_readAct 73 [some (.inr (63)), some (.inl (x1)), some (.inl (x2))] [.inl (y0), .inr (79)] σ := by
  refine zj_aload_n zd_Model_readAct_73 rfl ?_
  refine zj_iconst (v := nI 2) zd_Model_readAct_74 (by decide) ?_
  exact zj_callVi (As := [.inl (nI 2)]) hm hdp rfl (by decide) rfl zl_Model_205 zq_Model_number zd_Model_readAct_75 rfl (Nat.le_of_ble_eq_true rfl) (fun r σ1 h => (k r σ1 h))
theorem zb_Model_readAct_78 {Γ : zG} {σ : zS} {x1 x2 y0 y1 : Int32}  (k : z_J Γ zm_Model_readAct 106 [some (.inr (63)), some (.inl (x1)), some (.inl (x2))] [.inl (y0), .inl (y1), .inr (79)] σ) : z_J Γ zm_Model_readAct 78 [some (.inr (63)), some (.inl (x1)), some (.inl (x2))] [.inl (y0), .inl (y1), .inr (79)] σ := by
  exact zj_goto zd_Model_readAct_78 (by decide) k
theorem zb_Model_readAct_81 {Γ : zG} {σ : zS} {x1 x2 y0 : Int32}  (kt : ¬ x2 = (nI 115) → z_J Γ zm_Model_readAct 98 [some (.inr (63)), some (.inl (x1)), some (.inl (x2))] [.inl (y0), .inr (79)] σ) (kf : x2 = (nI 115) → z_J Γ zm_Model_readAct 87 [some (.inr (63)), some (.inl (x1)), some (.inl (x2))] [.inl (y0), .inr (79)] σ) : z_J Γ zm_Model_readAct 81 [some (.inr (63)), some (.inl (x1)), some (.inl (x2))] [.inl (y0), .inr (79)] σ := by
  refine zj_iload_n zd_Model_readAct_81 rfl ?_
  refine zj_bipush (v := nI 115) zd_Model_readAct_82 (by decide) ?_
  exact zj_icmp_ne zd_Model_readAct_84 (by decide) (fun h => (kt h)) (fun h => (kf h))
theorem zb_Model_readAct_87 {Γ : zG} {σ : zS} {x1 x2 y0 : Int32} {dc : Nat} {P : Int32 → zS → Prop}  (hm : z_Ci dc zm_Model_oneOf [.inr (63), .inl (nI 48), .inl (nI 10)] σ P) (hdp : dc < z_dep Γ) (k : ∀ r σ1, P r σ1 → z_J Γ zm_Model_readAct 95 [some (.inr (63)), some (.inl (x1)), some (.inl (x2))] [.inl (r), .inl (y0), .inr (79)] σ1) : z_J Γ zm_Model_readAct 87 [some (.inr (63)), some (.inl (x1)), some (.inl (x2))] [.inl (y0), .inr (79)] σ := by
  refine zj_aload_n zd_Model_readAct_87 rfl ?_
  refine zj_bipush (v := nI 48) zd_Model_readAct_88 (by decide) ?_
  refine zj_bipush (v := nI 10) zd_Model_readAct_90 (by decide) ?_
  exact zj_callVi (As := [.inl (nI 48), .inl (nI 10)]) hm hdp rfl (by decide) rfl zl_Model_145 zq_Model_oneOf zd_Model_readAct_92 rfl (Nat.le_of_ble_eq_true rfl) (fun r σ1 h => (k r σ1 h))
theorem zb_Model_readAct_95 {Γ : zG} {σ : zS} {x1 x2 y0 y1 : Int32}  (k : z_J Γ zm_Model_readAct 106 [some (.inr (63)), some (.inl (x1)), some (.inl (x2))] [.inl (y0), .inl (y1), .inr (79)] σ) : z_J Γ zm_Model_readAct 95 [some (.inr (63)), some (.inl (x1)), some (.inl (x2))] [.inl (y0), .inl (y1), .inr (79)] σ := by
  exact zj_goto zd_Model_readAct_95 (by decide) k
theorem zb_Model_readAct_98 {Γ : zG} {σ : zS} {x1 x2 y0 : Int32} {dc : Nat} {P : Int32 → zS → Prop}  (hm : z_Ci dc zm_Model_oneOf [.inr (63), .inl (nI 97), .inl (nI 12)] σ P) (hdp : dc < z_dep Γ) (k : ∀ r σ1, P r σ1 → z_J Γ zm_Model_readAct 106 [some (.inr (63)), some (.inl (x1)), some (.inl (x2))] [.inl (r), .inl (y0), .inr (79)] σ1) : z_J Γ zm_Model_readAct 98 [some (.inr (63)), some (.inl (x1)), some (.inl (x2))] [.inl (y0), .inr (79)] σ := by
  refine zj_aload_n zd_Model_readAct_98 rfl ?_
  refine zj_bipush (v := nI 97) zd_Model_readAct_99 (by decide) ?_
  refine zj_bipush (v := nI 12) zd_Model_readAct_101 (by decide) ?_
  exact zj_callVi (As := [.inl (nI 97), .inl (nI 12)]) hm hdp rfl (by decide) rfl zl_Model_145 zq_Model_oneOf zd_Model_readAct_103 rfl (Nat.le_of_ble_eq_true rfl) (fun r σ1 h => (k r σ1 h))
theorem zb_Model_readAct_106 {Γ : zG} {σ : zS} {x1 x2 y0 y1 : Int32} {k1 : Nat}  (b1 : z_ix y1 320 k1) (kt : x2 = (nI 108) → z_J Γ zm_Model_readAct 125 [some (.inr (63)), some (.inl (x1)), some (.inl (x2))] [] (z_pI σ 79 k1 y0)) (kf : ¬ x2 = (nI 108) → z_J Γ zm_Model_readAct 113 [some (.inr (63)), some (.inl (x1)), some (.inl (x2))] [] (z_pI σ 79 k1 y0)) : z_J Γ zm_Model_readAct 106 [some (.inr (63)), some (.inl (x1)), some (.inl (x2))] [.inl (y0), .inl (y1), .inr (79)] σ := by
  refine zj_iastore rfl (by decide) b1 zd_Model_readAct_106 ?_
  refine zj_iload_n zd_Model_readAct_107 rfl ?_
  refine zj_bipush (v := nI 108) zd_Model_readAct_108 (by decide) ?_
  exact zj_icmp_eq zd_Model_readAct_110 (by decide) (fun h => (kt h)) (fun h => (kf h))
theorem zb_Model_readAct_113 {Γ : zG} {σ : zS} {x1 x2 : Int32}  (kt : x2 = (nI 111) → z_J Γ zm_Model_readAct 125 [some (.inr (63)), some (.inl (x1)), some (.inl (x2))] [] σ) (kf : ¬ x2 = (nI 111) → z_J Γ zm_Model_readAct 119 [some (.inr (63)), some (.inl (x1)), some (.inl (x2))] [] σ) : z_J Γ zm_Model_readAct 113 [some (.inr (63)), some (.inl (x1)), some (.inl (x2))] [] σ := by
  refine zj_iload_n zd_Model_readAct_113 rfl ?_
  refine zj_bipush (v := nI 111) zd_Model_readAct_114 (by decide) ?_
  exact zj_icmp_eq zd_Model_readAct_116 (by decide) (fun h => (kt h)) (fun h => (kf h))
theorem zb_Model_readAct_119 {Γ : zG} {σ : zS} {x1 x2 : Int32}  (kt : ¬ x2 = (nI 115) → z_J Γ zm_Model_readAct 141 [some (.inr (63)), some (.inl (x1)), some (.inl (x2))] [] σ) (kf : x2 = (nI 115) → z_J Γ zm_Model_readAct 125 [some (.inr (63)), some (.inl (x1)), some (.inl (x2))] [] σ) : z_J Γ zm_Model_readAct 119 [some (.inr (63)), some (.inl (x1)), some (.inl (x2))] [] σ := by
  refine zj_iload_n zd_Model_readAct_119 rfl ?_
  refine zj_bipush (v := nI 115) zd_Model_readAct_120 (by decide) ?_
  exact zj_icmp_ne zd_Model_readAct_122 (by decide) (fun h => (kt h)) (fun h => (kf h))
theorem zb_Model_readAct_125 {Γ : zG} {σ : zS} {x1 x2 : Int32} {dc : Nat} {P : Int32 → zS → Prop}  (hm : z_Ci dc zm_Model_oneOf [.inr (63), .inl (nI 48), .inl (nI 10)] σ P) (hdp : dc < z_dep Γ) (k : ∀ r σ1, P r σ1 → z_J Γ zm_Model_readAct 140 [some (.inr (63)), some (.inl (x1)), some (.inl (x2))] [.inl (r), .inl (x1 + (nI 2)), .inr (79)] σ1) : z_J Γ zm_Model_readAct 125 [some (.inr (63)), some (.inl (x1)), some (.inl (x2))] [] σ := by
  refine zj_aload_n zd_Model_readAct_125 rfl ?_
  refine zj_getR rfl (by decide) rfl zu_Model (k := 32) (by decide) rfl zl_Model_63 zd_Model_readAct_126 (o' := 79) rfl ?_
  refine zj_iload_n zd_Model_readAct_129 rfl ?_
  refine zj_iconst (v := nI 2) zd_Model_readAct_130 (by decide) ?_
  refine zj_iadd zd_Model_readAct_131 ?_
  refine zj_aload_n zd_Model_readAct_132 rfl ?_
  refine zj_bipush (v := nI 48) zd_Model_readAct_133 (by decide) ?_
  refine zj_bipush (v := nI 10) zd_Model_readAct_135 (by decide) ?_
  exact zj_callVi (As := [.inl (nI 48), .inl (nI 10)]) hm hdp rfl (by decide) rfl zl_Model_145 zq_Model_oneOf zd_Model_readAct_137 rfl (Nat.le_of_ble_eq_true rfl) (fun r σ1 h => (k r σ1 h))
theorem zb_Model_readAct_140 {Γ : zG} {σ : zS} {x1 x2 y0 y1 : Int32} {k1 : Nat}  (b1 : z_ix y1 320 k1) (k : z_J Γ zm_Model_readAct 141 [some (.inr (63)), some (.inl (x1)), some (.inl (x2))] [] (z_pI σ 79 k1 y0)) : z_J Γ zm_Model_readAct 140 [some (.inr (63)), some (.inl (x1)), some (.inl (x2))] [.inl (y0), .inl (y1), .inr (79)] σ := by
  refine zj_iastore rfl (by decide) b1 zd_Model_readAct_140 ?_
  exact k
theorem zb_Model_readAct_141 {Γ : zG} {σ : zS} {x1 x2 : Int32}  (kt : ¬ x2 = (nI 111) → z_J Γ zm_Model_readAct 160 [none, none, none] [] σ) (kf : x2 = (nI 111) → z_J Γ zm_Model_readAct 147 [some (.inr (63)), some (.inl (x1)), none] [] σ) : z_J Γ zm_Model_readAct 141 [some (.inr (63)), some (.inl (x1)), some (.inl (x2))] [] σ := by
  refine zj_iload_n zd_Model_readAct_141 rfl ?_
  refine zj_bipush (v := nI 111) zd_Model_readAct_142 (by decide) ?_
  exact zj_icmp_ne zd_Model_readAct_144 (by decide) (fun h => (zj_weak (L' := [none, none, none]) trivial (kt h))) (fun h => (zj_weak (L' := [some (.inr (63)), some (.inl (x1)), none]) ⟨rfl, ⟨rfl, trivial⟩⟩ (kf h)))
theorem zb_Model_readAct_147 {Γ : zG} {σ : zS} {x1 : Int32} {dc : Nat} {P : Int32 → zS → Prop}  (hm : z_Ci dc zm_Model_number [.inr (63), .inl (nI 2)] σ P) (hdp : dc < z_dep Γ) (k : ∀ r σ1, P r σ1 → z_J Γ zm_Model_readAct 159 [none, none, none] [.inl (r), .inl (x1 + (nI 3)), .inr (79)] σ1) : z_J Γ zm_Model_readAct 147 [some (.inr (63)), some (.inl (x1)), none] [] σ := by
  refine zj_aload_n zd_Model_readAct_147 rfl ?_
  refine zj_getR rfl (by decide) rfl zu_Model (k := 32) (by decide) rfl zl_Model_63 zd_Model_readAct_148 (o' := 79) rfl ?_
  refine zj_iload_n zd_Model_readAct_151 rfl ?_
  refine zj_iconst (v := nI 3) zd_Model_readAct_152 (by decide) ?_
  refine zj_iadd zd_Model_readAct_153 ?_
  refine zj_aload_n zd_Model_readAct_154 rfl ?_
  refine zj_iconst (v := nI 2) zd_Model_readAct_155 (by decide) ?_
  exact zj_callVi (As := [.inl (nI 2)]) hm hdp rfl (by decide) rfl zl_Model_205 zq_Model_number zd_Model_readAct_156 rfl (Nat.le_of_ble_eq_true rfl) (fun r σ1 h => (zj_weak (L' := [none, none, none]) trivial (k r σ1 h)))
theorem zb_Model_readAct_159 {Γ : zG} {σ : zS} {y0 y1 : Int32} {k1 : Nat}  (b1 : z_ix y1 320 k1) (k : z_J Γ zm_Model_readAct 160 [none, none, none] [] (z_pI σ 79 k1 y0)) : z_J Γ zm_Model_readAct 159 [none, none, none] [.inl (y0), .inl (y1), .inr (79)] σ := by
  refine zj_iastore rfl (by decide) b1 zd_Model_readAct_159 ?_
  exact k
theorem zb_Model_readAct_160 {Γ : zG} {σ : zS}  (e : z_end Γ none σ) : z_J Γ zm_Model_readAct 160 [none, none, none] [] σ := by
  exact zj_return rfl zd_Model_readAct_160 e
theorem zd_Model_act_0 : decode zm_Model_act.2.1 0 = .ok (.iload_n 1, 1) := by decide +kernel
theorem zd_Model_act_1 : decode zm_Model_act.2.1 1 = .ok (.tableswitch 150 108 115 #[47, 150, 150, 74, 150, 150, 98, 126], 47) := by decide +kernel
theorem zd_Model_act_48 : decode zm_Model_act.2.1 48 = .ok (.aload_n 0, 1) := by decide +kernel
theorem zd_Model_act_49 : decode zm_Model_act.2.1 49 = .ok (.aload_n 0, 1) := by decide +kernel
theorem zd_Model_act_50 : decode zm_Model_act.2.1 50 = .ok (.getfield 9, 3) := by decide +kernel
theorem zd_Model_act_53 : decode zm_Model_act.2.1 53 = .ok (.iload_n 2, 1) := by decide +kernel
theorem zd_Model_act_54 : decode zm_Model_act.2.1 54 = .ok (.iload_n 3, 1) := by decide +kernel
theorem zd_Model_act_55 : decode zm_Model_act.2.1 55 = .ok (.invokevirtual 281, 3) := by decide +kernel
theorem zd_Model_act_58 : decode zm_Model_act.2.1 58 = .ok (.ifCond .ge 5, 3) := by decide +kernel
theorem zd_Model_act_61 : decode zm_Model_act.2.1 61 = .ok (.iconst 0, 1) := by decide +kernel
theorem zd_Model_act_62 : decode zm_Model_act.2.1 62 = .ok (.ireturn, 1) := by decide +kernel
theorem zd_Model_act_63 : decode zm_Model_act.2.1 63 = .ok (.aload_n 0, 1) := by decide +kernel
theorem zd_Model_act_64 : decode zm_Model_act.2.1 64 = .ok (.aload_n 0, 1) := by decide +kernel
theorem zd_Model_act_65 : decode zm_Model_act.2.1 65 = .ok (.getfield 9, 3) := by decide +kernel
theorem zd_Model_act_68 : decode zm_Model_act.2.1 68 = .ok (.iload_n 2, 1) := by decide +kernel
theorem zd_Model_act_69 : decode zm_Model_act.2.1 69 = .ok (.iload_n 3, 1) := by decide +kernel
theorem zd_Model_act_70 : decode zm_Model_act.2.1 70 = .ok (.invokevirtual 288, 3) := by decide +kernel
theorem zd_Model_act_73 : decode zm_Model_act.2.1 73 = .ok (.iconst 1, 1) := by decide +kernel
theorem zd_Model_act_74 : decode zm_Model_act.2.1 74 = .ok (.ireturn, 1) := by decide +kernel
theorem zd_Model_act_75 : decode zm_Model_act.2.1 75 = .ok (.aload_n 0, 1) := by decide +kernel
theorem zd_Model_act_76 : decode zm_Model_act.2.1 76 = .ok (.iload_n 2, 1) := by decide +kernel
theorem zd_Model_act_77 : decode zm_Model_act.2.1 77 = .ok (.iload_n 3, 1) := by decide +kernel
theorem zd_Model_act_78 : decode zm_Model_act.2.1 78 = .ok (.iload 4, 2) := by decide +kernel
theorem zd_Model_act_80 : decode zm_Model_act.2.1 80 = .ok (.invokevirtual 296, 3) := by decide +kernel
theorem zd_Model_act_83 : decode zm_Model_act.2.1 83 = .ok (.ifCond .ge 5, 3) := by decide +kernel
theorem zd_Model_act_86 : decode zm_Model_act.2.1 86 = .ok (.iconst 0, 1) := by decide +kernel
theorem zd_Model_act_87 : decode zm_Model_act.2.1 87 = .ok (.ireturn, 1) := by decide +kernel
theorem zd_Model_act_88 : decode zm_Model_act.2.1 88 = .ok (.aload_n 0, 1) := by decide +kernel
theorem zd_Model_act_89 : decode zm_Model_act.2.1 89 = .ok (.iload_n 2, 1) := by decide +kernel
theorem zd_Model_act_90 : decode zm_Model_act.2.1 90 = .ok (.iload_n 3, 1) := by decide +kernel
theorem zd_Model_act_91 : decode zm_Model_act.2.1 91 = .ok (.iload 4, 2) := by decide +kernel
theorem zd_Model_act_93 : decode zm_Model_act.2.1 93 = .ok (.invokevirtual 300, 3) := by decide +kernel
theorem zd_Model_act_96 : decode zm_Model_act.2.1 96 = .ok (.pop, 1) := by decide +kernel
theorem zd_Model_act_97 : decode zm_Model_act.2.1 97 = .ok (.iconst 1, 1) := by decide +kernel
theorem zd_Model_act_98 : decode zm_Model_act.2.1 98 = .ok (.ireturn, 1) := by decide +kernel
theorem zd_Model_act_99 : decode zm_Model_act.2.1 99 = .ok (.aload_n 0, 1) := by decide +kernel
theorem zd_Model_act_100 : decode zm_Model_act.2.1 100 = .ok (.iload_n 2, 1) := by decide +kernel
theorem zd_Model_act_101 : decode zm_Model_act.2.1 101 = .ok (.invokevirtual 184, 3) := by decide +kernel
theorem zd_Model_act_104 : decode zm_Model_act.2.1 104 = .ok (.ifCond .eq 13, 3) := by decide +kernel
theorem zd_Model_act_107 : decode zm_Model_act.2.1 107 = .ok (.aload_n 0, 1) := by decide +kernel
theorem zd_Model_act_108 : decode zm_Model_act.2.1 108 = .ok (.getfield 9, 3) := by decide +kernel
theorem zd_Model_act_111 : decode zm_Model_act.2.1 111 = .ok (.iload_n 2, 1) := by decide +kernel
theorem zd_Model_act_112 : decode zm_Model_act.2.1 112 = .ok (.iaload, 1) := by decide +kernel
theorem zd_Model_act_113 : decode zm_Model_act.2.1 113 = .ok (.iconst 2, 1) := by decide +kernel
theorem zd_Model_act_114 : decode zm_Model_act.2.1 114 = .ok (.if_icmp .eq 5, 3) := by decide +kernel
theorem zd_Model_act_117 : decode zm_Model_act.2.1 117 = .ok (.iconst 0, 1) := by decide +kernel
theorem zd_Model_act_118 : decode zm_Model_act.2.1 118 = .ok (.ireturn, 1) := by decide +kernel
theorem zd_Model_act_119 : decode zm_Model_act.2.1 119 = .ok (.aload_n 0, 1) := by decide +kernel
theorem zd_Model_act_120 : decode zm_Model_act.2.1 120 = .ok (.iload_n 2, 1) := by decide +kernel
theorem zd_Model_act_121 : decode zm_Model_act.2.1 121 = .ok (.invokevirtual 303, 3) := by decide +kernel
theorem zd_Model_act_124 : decode zm_Model_act.2.1 124 = .ok (.pop, 1) := by decide +kernel
theorem zd_Model_act_125 : decode zm_Model_act.2.1 125 = .ok (.iconst 1, 1) := by decide +kernel
theorem zd_Model_act_126 : decode zm_Model_act.2.1 126 = .ok (.ireturn, 1) := by decide +kernel
theorem zd_Model_act_127 : decode zm_Model_act.2.1 127 = .ok (.aload_n 0, 1) := by decide +kernel
theorem zd_Model_act_128 : decode zm_Model_act.2.1 128 = .ok (.iload_n 2, 1) := by decide +kernel
theorem zd_Model_act_129 : decode zm_Model_act.2.1 129 = .ok (.iload_n 3, 1) := by decide +kernel
theorem zd_Model_act_130 : decode zm_Model_act.2.1 130 = .ok (.invokevirtual 306, 3) := by decide +kernel
theorem zd_Model_act_133 : decode zm_Model_act.2.1 133 = .ok (.ifCond .ge 5, 3) := by decide +kernel
theorem zd_Model_act_136 : decode zm_Model_act.2.1 136 = .ok (.iconst 0, 1) := by decide +kernel
theorem zd_Model_act_137 : decode zm_Model_act.2.1 137 = .ok (.ireturn, 1) := by decide +kernel
theorem zd_Model_act_138 : decode zm_Model_act.2.1 138 = .ok (.aload_n 0, 1) := by decide +kernel
theorem zd_Model_act_139 : decode zm_Model_act.2.1 139 = .ok (.aload_n 0, 1) := by decide +kernel
theorem zd_Model_act_140 : decode zm_Model_act.2.1 140 = .ok (.getfield 9, 3) := by decide +kernel
theorem zd_Model_act_143 : decode zm_Model_act.2.1 143 = .ok (.iload_n 2, 1) := by decide +kernel
theorem zd_Model_act_144 : decode zm_Model_act.2.1 144 = .ok (.iload_n 3, 1) := by decide +kernel
theorem zd_Model_act_145 : decode zm_Model_act.2.1 145 = .ok (.invokevirtual 309, 3) := by decide +kernel
theorem zd_Model_act_148 : decode zm_Model_act.2.1 148 = .ok (.pop, 1) := by decide +kernel
theorem zd_Model_act_149 : decode zm_Model_act.2.1 149 = .ok (.iconst 1, 1) := by decide +kernel
theorem zd_Model_act_150 : decode zm_Model_act.2.1 150 = .ok (.ireturn, 1) := by decide +kernel
theorem zd_Model_act_151 : decode zm_Model_act.2.1 151 = .ok (.aload_n 0, 1) := by decide +kernel
theorem zd_Model_act_152 : decode zm_Model_act.2.1 152 = .ok (.aload_n 0, 1) := by decide +kernel
theorem zd_Model_act_153 : decode zm_Model_act.2.1 153 = .ok (.getfield 9, 3) := by decide +kernel
theorem zd_Model_act_156 : decode zm_Model_act.2.1 156 = .ok (.iload_n 2, 1) := by decide +kernel
theorem zd_Model_act_157 : decode zm_Model_act.2.1 157 = .ok (.invokevirtual 321, 3) := by decide +kernel
theorem zd_Model_act_160 : decode zm_Model_act.2.1 160 = .ok (.iconst 1, 1) := by decide +kernel
theorem zd_Model_act_161 : decode zm_Model_act.2.1 161 = .ok (.ireturn, 1) := by decide +kernel
theorem zb_Model_act_0 {Γ : zG} {σ : zS} {x1 x2 x3 x4 : Int32}  (kd : x1.toInt < 108 ∨ 115 < x1.toInt → z_J Γ zm_Model_act 151 [some (.inr (63)), none, some (.inl (x2)), none, none] [] σ) (k108_ : x1 = nI 108 → z_J Γ zm_Model_act 48 [some (.inr (63)), none, some (.inl (x2)), some (.inl (x3)), none] [] σ) (k109_ : x1 = nI 109 → z_J Γ zm_Model_act 151 [some (.inr (63)), none, some (.inl (x2)), none, none] [] σ) (k110_ : x1 = nI 110 → z_J Γ zm_Model_act 151 [some (.inr (63)), none, some (.inl (x2)), none, none] [] σ) (k111_ : x1 = nI 111 → z_J Γ zm_Model_act 75 [some (.inr (63)), none, some (.inl (x2)), some (.inl (x3)), some (.inl (x4))] [] σ) (k112_ : x1 = nI 112 → z_J Γ zm_Model_act 151 [some (.inr (63)), none, some (.inl (x2)), none, none] [] σ) (k113_ : x1 = nI 113 → z_J Γ zm_Model_act 151 [some (.inr (63)), none, some (.inl (x2)), none, none] [] σ) (k114_ : x1 = nI 114 → z_J Γ zm_Model_act 99 [some (.inr (63)), none, some (.inl (x2)), none, none] [] σ) (k115_ : x1 = nI 115 → z_J Γ zm_Model_act 127 [some (.inr (63)), none, some (.inl (x2)), some (.inl (x3)), none] [] σ) : z_J Γ zm_Model_act 0 [some (.inr (63)), some (.inl (x1)), some (.inl (x2)), some (.inl (x3)), some (.inl (x4))] [] σ := by
  refine zj_iload_n zd_Model_act_0 rfl ?_
  rcases (show (x1.toInt < 108 ∨ 115 < x1.toInt) ∨ x1.toInt = 108 ∨ x1.toInt = 109 ∨ x1.toInt = 110 ∨ x1.toInt = 111 ∨ x1.toInt = 112 ∨ x1.toInt = 113 ∨ x1.toInt = 114 ∨ x1.toInt = 115 by omega) with h | h | h | h | h | h | h | h | h
  · exact zj_tblOut zd_Model_act_1 h (by decide) (zj_weak (L' := [some (.inr (63)), none, some (.inl (x2)), none, none]) ⟨rfl, ⟨rfl, trivial⟩⟩ (kd h))
  · exact zj_tblIn zd_Model_act_1 (by omega) (by omega) (by rw [h]; rfl) (by decide) (zj_weak (L' := [some (.inr (63)), none, some (.inl (x2)), some (.inl (x3)), none]) ⟨rfl, ⟨rfl, ⟨rfl, trivial⟩⟩⟩ (k108_ (Int32.toInt_inj.mp (by rw [h]; decide))))
  · exact zj_tblIn zd_Model_act_1 (by omega) (by omega) (by rw [h]; rfl) (by decide) (zj_weak (L' := [some (.inr (63)), none, some (.inl (x2)), none, none]) ⟨rfl, ⟨rfl, trivial⟩⟩ (k109_ (Int32.toInt_inj.mp (by rw [h]; decide))))
  · exact zj_tblIn zd_Model_act_1 (by omega) (by omega) (by rw [h]; rfl) (by decide) (zj_weak (L' := [some (.inr (63)), none, some (.inl (x2)), none, none]) ⟨rfl, ⟨rfl, trivial⟩⟩ (k110_ (Int32.toInt_inj.mp (by rw [h]; decide))))
  · exact zj_tblIn zd_Model_act_1 (by omega) (by omega) (by rw [h]; rfl) (by decide) (zj_weak (L' := [some (.inr (63)), none, some (.inl (x2)), some (.inl (x3)), some (.inl (x4))]) ⟨rfl, ⟨rfl, ⟨rfl, ⟨rfl, trivial⟩⟩⟩⟩ (k111_ (Int32.toInt_inj.mp (by rw [h]; decide))))
  · exact zj_tblIn zd_Model_act_1 (by omega) (by omega) (by rw [h]; rfl) (by decide) (zj_weak (L' := [some (.inr (63)), none, some (.inl (x2)), none, none]) ⟨rfl, ⟨rfl, trivial⟩⟩ (k112_ (Int32.toInt_inj.mp (by rw [h]; decide))))
  · exact zj_tblIn zd_Model_act_1 (by omega) (by omega) (by rw [h]; rfl) (by decide) (zj_weak (L' := [some (.inr (63)), none, some (.inl (x2)), none, none]) ⟨rfl, ⟨rfl, trivial⟩⟩ (k113_ (Int32.toInt_inj.mp (by rw [h]; decide))))
  · exact zj_tblIn zd_Model_act_1 (by omega) (by omega) (by rw [h]; rfl) (by decide) (zj_weak (L' := [some (.inr (63)), none, some (.inl (x2)), none, none]) ⟨rfl, ⟨rfl, trivial⟩⟩ (k114_ (Int32.toInt_inj.mp (by rw [h]; decide))))
  · exact zj_tblIn zd_Model_act_1 (by omega) (by omega) (by rw [h]; rfl) (by decide) (zj_weak (L' := [some (.inr (63)), none, some (.inl (x2)), some (.inl (x3)), none]) ⟨rfl, ⟨rfl, ⟨rfl, trivial⟩⟩⟩ (k115_ (Int32.toInt_inj.mp (by rw [h]; decide))))
theorem zb_Model_act_48 {Γ : zG} {σ : zS} {x2 x3 : Int32} {dc : Nat} {P : Int32 → zS → Prop}  (hm : z_Ci dc zm_Model_refusesLay [.inr (63), .inr (64), .inl (x2), .inl (x3)] σ P) (hdp : dc < z_dep Γ) (k : ∀ r σ1, P r σ1 → z_J Γ zm_Model_act 58 [some (.inr (63)), none, some (.inl (x2)), some (.inl (x3)), none] [.inl (r)] σ1) : z_J Γ zm_Model_act 48 [some (.inr (63)), none, some (.inl (x2)), some (.inl (x3)), none] [] σ := by
  refine zj_aload_n zd_Model_act_48 rfl ?_
  refine zj_aload_n zd_Model_act_49 rfl ?_
  refine zj_getR rfl (by decide) rfl zu_Model (k := 0) (by decide) rfl zl_Model_9 zd_Model_act_50 (o' := 64) rfl ?_
  refine zj_iload_n zd_Model_act_53 rfl ?_
  refine zj_iload_n zd_Model_act_54 rfl ?_
  exact zj_callVi (As := [.inr (64), .inl (x2), .inl (x3)]) hm hdp rfl (by decide) rfl zl_Model_281 zq_Model_refusesLay zd_Model_act_55 rfl (Nat.le_of_ble_eq_true rfl) (fun r σ1 h => (k r σ1 h))
theorem zb_Model_act_58 {Γ : zG} {σ : zS} {x2 x3 y0 : Int32}  (kt : 0 ≤ y0 → z_J Γ zm_Model_act 63 [some (.inr (63)), none, some (.inl (x2)), some (.inl (x3)), none] [] σ) (kf : ¬ 0 ≤ y0 → z_J Γ zm_Model_act 61 [none, none, none, none, none] [] σ) : z_J Γ zm_Model_act 58 [some (.inr (63)), none, some (.inl (x2)), some (.inl (x3)), none] [.inl (y0)] σ := by
  exact zj_if_ge zd_Model_act_58 (by decide) (fun h => (kt h)) (fun h => (zj_weak (L' := [none, none, none, none, none]) trivial (kf h)))
theorem zb_Model_act_61 {Γ : zG} {σ : zS}  (e : z_end Γ (some (nI 0)) σ) : z_J Γ zm_Model_act 61 [none, none, none, none, none] [] σ := by
  refine zj_iconst (v := nI 0) zd_Model_act_61 (by decide) ?_
  exact zj_zreturn rfl (Or.inl (by decide)) zd_Model_act_62 e
theorem zb_Model_act_63 {Γ : zG} {σ : zS} {x2 x3 : Int32} {dc : Nat} {P : zS → Prop}  (hm : z_Cv dc zm_Model_goLay [.inr (63), .inr (64), .inl (x2), .inl (x3)] σ P) (hdp : dc < z_dep Γ) (k : ∀ σ1, P σ1 → z_J Γ zm_Model_act 73 [none, none, none, none, none] [] σ1) : z_J Γ zm_Model_act 63 [some (.inr (63)), none, some (.inl (x2)), some (.inl (x3)), none] [] σ := by
  refine zj_aload_n zd_Model_act_63 rfl ?_
  refine zj_aload_n zd_Model_act_64 rfl ?_
  refine zj_getR rfl (by decide) rfl zu_Model (k := 0) (by decide) rfl zl_Model_9 zd_Model_act_65 (o' := 64) rfl ?_
  refine zj_iload_n zd_Model_act_68 rfl ?_
  refine zj_iload_n zd_Model_act_69 rfl ?_
  exact zj_callVv (As := [.inr (64), .inl (x2), .inl (x3)]) hm hdp rfl (by decide) rfl zl_Model_288 zq_Model_goLay zd_Model_act_70 rfl (Nat.le_of_ble_eq_true rfl) (fun σ1 h => (zj_weak (L' := [none, none, none, none, none]) trivial (k σ1 h)))
theorem zb_Model_act_73 {Γ : zG} {σ : zS}  (e : z_end Γ (some (nI 1)) σ) : z_J Γ zm_Model_act 73 [none, none, none, none, none] [] σ := by
  refine zj_iconst (v := nI 1) zd_Model_act_73 (by decide) ?_
  exact zj_zreturn rfl (Or.inr (by decide)) zd_Model_act_74 e
theorem zb_Model_act_75 {Γ : zG} {σ : zS} {x2 x3 x4 : Int32} {dc : Nat} {P : Int32 → zS → Prop}  (hm : z_Ci dc zm_Model_refusesLend [.inr (63), .inl (x2), .inl (x3), .inl (x4)] σ P) (hdp : dc < z_dep Γ) (k : ∀ r σ1, P r σ1 → z_J Γ zm_Model_act 83 [some (.inr (63)), none, some (.inl (x2)), some (.inl (x3)), some (.inl (x4))] [.inl (r)] σ1) : z_J Γ zm_Model_act 75 [some (.inr (63)), none, some (.inl (x2)), some (.inl (x3)), some (.inl (x4))] [] σ := by
  refine zj_aload_n zd_Model_act_75 rfl ?_
  refine zj_iload_n zd_Model_act_76 rfl ?_
  refine zj_iload_n zd_Model_act_77 rfl ?_
  refine zj_iload zd_Model_act_78 rfl ?_
  exact zj_callVi (As := [.inl (x2), .inl (x3), .inl (x4)]) hm hdp rfl (by decide) rfl zl_Model_296 zq_Model_refusesLend zd_Model_act_80 rfl (Nat.le_of_ble_eq_true rfl) (fun r σ1 h => (k r σ1 h))
theorem zb_Model_act_83 {Γ : zG} {σ : zS} {x2 x3 x4 y0 : Int32}  (kt : 0 ≤ y0 → z_J Γ zm_Model_act 88 [some (.inr (63)), none, some (.inl (x2)), some (.inl (x3)), some (.inl (x4))] [] σ) (kf : ¬ 0 ≤ y0 → z_J Γ zm_Model_act 86 [none, none, none, none, none] [] σ) : z_J Γ zm_Model_act 83 [some (.inr (63)), none, some (.inl (x2)), some (.inl (x3)), some (.inl (x4))] [.inl (y0)] σ := by
  exact zj_if_ge zd_Model_act_83 (by decide) (fun h => (kt h)) (fun h => (zj_weak (L' := [none, none, none, none, none]) trivial (kf h)))
theorem zb_Model_act_86 {Γ : zG} {σ : zS}  (e : z_end Γ (some (nI 0)) σ) : z_J Γ zm_Model_act 86 [none, none, none, none, none] [] σ := by
  refine zj_iconst (v := nI 0) zd_Model_act_86 (by decide) ?_
  exact zj_zreturn rfl (Or.inl (by decide)) zd_Model_act_87 e
theorem zb_Model_act_88 {Γ : zG} {σ : zS} {x2 x3 x4 : Int32} {dc : Nat} {P : Int32 → zS → Prop}  (hm : z_Ci dc zm_Model_goLend [.inr (63), .inl (x2), .inl (x3), .inl (x4)] σ P) (hdp : dc < z_dep Γ) (k : ∀ r σ1, P r σ1 → z_J Γ zm_Model_act 96 [none, none, none, none, none] [.inl (r)] σ1) : z_J Γ zm_Model_act 88 [some (.inr (63)), none, some (.inl (x2)), some (.inl (x3)), some (.inl (x4))] [] σ := by
  refine zj_aload_n zd_Model_act_88 rfl ?_
  refine zj_iload_n zd_Model_act_89 rfl ?_
  refine zj_iload_n zd_Model_act_90 rfl ?_
  refine zj_iload zd_Model_act_91 rfl ?_
  exact zj_callVi (As := [.inl (x2), .inl (x3), .inl (x4)]) hm hdp rfl (by decide) rfl zl_Model_300 zq_Model_goLend zd_Model_act_93 rfl (Nat.le_of_ble_eq_true rfl) (fun r σ1 h => (zj_weak (L' := [none, none, none, none, none]) trivial (k r σ1 h)))
theorem zb_Model_act_96 {Γ : zG} {σ : zS} {y0 : Int32}  (e : z_end Γ (some (nI 1)) σ) : z_J Γ zm_Model_act 96 [none, none, none, none, none] [.inl (y0)] σ := by
  refine zj_pop zd_Model_act_96 ?_
  refine zj_iconst (v := nI 1) zd_Model_act_97 (by decide) ?_
  exact zj_zreturn rfl (Or.inr (by decide)) zd_Model_act_98 e
theorem zb_Model_act_99 {Γ : zG} {σ : zS} {x2 : Int32} {dc : Nat} {P : Int32 → zS → Prop}  (hm : z_Ci dc zm_Model_isBook [.inr (63), .inl (x2)] σ P) (hdp : dc < z_dep Γ) (k : ∀ r σ1, P r σ1 → z_J Γ zm_Model_act 104 [some (.inr (63)), none, some (.inl (x2)), none, none] [.inl (r)] σ1) : z_J Γ zm_Model_act 99 [some (.inr (63)), none, some (.inl (x2)), none, none] [] σ := by
  refine zj_aload_n zd_Model_act_99 rfl ?_
  refine zj_iload_n zd_Model_act_100 rfl ?_
  exact zj_callVi (As := [.inl (x2)]) hm hdp rfl (by decide) rfl zl_Model_184 zq_Model_isBook zd_Model_act_101 rfl (Nat.le_of_ble_eq_true rfl) (fun r σ1 h => (k r σ1 h))
theorem zb_Model_act_104 {Γ : zG} {σ : zS} {x2 y0 : Int32}  (kt : y0 = 0 → z_J Γ zm_Model_act 117 [none, none, none, none, none] [] σ) (kf : ¬ y0 = 0 → z_J Γ zm_Model_act 107 [some (.inr (63)), none, some (.inl (x2)), none, none] [] σ) : z_J Γ zm_Model_act 104 [some (.inr (63)), none, some (.inl (x2)), none, none] [.inl (y0)] σ := by
  exact zj_if_eq zd_Model_act_104 (by decide) (fun h => (zj_weak (L' := [none, none, none, none, none]) trivial (kt h))) (fun h => (kf h))
theorem zb_Model_act_107 {Γ : zG} {σ : zS} {x2 : Int32} {k1 : Nat}  (b1 : z_ix x2 53 k1) (kt : (σ.1 64 k1) = (nI 2) → z_J Γ zm_Model_act 119 [some (.inr (63)), none, some (.inl (x2)), none, none] [] σ) (kf : ¬ (σ.1 64 k1) = (nI 2) → z_J Γ zm_Model_act 117 [none, none, none, none, none] [] σ) : z_J Γ zm_Model_act 107 [some (.inr (63)), none, some (.inl (x2)), none, none] [] σ := by
  refine zj_aload_n zd_Model_act_107 rfl ?_
  refine zj_getR rfl (by decide) rfl zu_Model (k := 0) (by decide) rfl zl_Model_9 zd_Model_act_108 (o' := 64) rfl ?_
  refine zj_iload_n zd_Model_act_111 rfl ?_
  refine zj_iaload rfl (by decide) b1 zd_Model_act_112 ?_
  refine zj_iconst (v := nI 2) zd_Model_act_113 (by decide) ?_
  exact zj_icmp_eq zd_Model_act_114 (by decide) (fun h => (kt h)) (fun h => (zj_weak (L' := [none, none, none, none, none]) trivial (kf h)))
theorem zb_Model_act_117 {Γ : zG} {σ : zS}  (e : z_end Γ (some (nI 0)) σ) : z_J Γ zm_Model_act 117 [none, none, none, none, none] [] σ := by
  refine zj_iconst (v := nI 0) zd_Model_act_117 (by decide) ?_
  exact zj_zreturn rfl (Or.inl (by decide)) zd_Model_act_118 e
theorem zb_Model_act_119 {Γ : zG} {σ : zS} {x2 : Int32} {dc : Nat} {P : Int32 → zS → Prop}  (hm : z_Ci dc zm_Model_goRecall [.inr (63), .inl (x2)] σ P) (hdp : dc < z_dep Γ) (k : ∀ r σ1, P r σ1 → z_J Γ zm_Model_act 124 [none, none, none, none, none] [.inl (r)] σ1) : z_J Γ zm_Model_act 119 [some (.inr (63)), none, some (.inl (x2)), none, none] [] σ := by
  refine zj_aload_n zd_Model_act_119 rfl ?_
  refine zj_iload_n zd_Model_act_120 rfl ?_
  exact zj_callVi (As := [.inl (x2)]) hm hdp rfl (by decide) rfl zl_Model_303 zq_Model_goRecall zd_Model_act_121 rfl (Nat.le_of_ble_eq_true rfl) (fun r σ1 h => (zj_weak (L' := [none, none, none, none, none]) trivial (k r σ1 h)))
theorem zb_Model_act_124 {Γ : zG} {σ : zS} {y0 : Int32}  (e : z_end Γ (some (nI 1)) σ) : z_J Γ zm_Model_act 124 [none, none, none, none, none] [.inl (y0)] σ := by
  refine zj_pop zd_Model_act_124 ?_
  refine zj_iconst (v := nI 1) zd_Model_act_125 (by decide) ?_
  exact zj_zreturn rfl (Or.inr (by decide)) zd_Model_act_126 e
theorem zb_Model_act_127 {Γ : zG} {σ : zS} {x2 x3 : Int32} {dc : Nat} {P : Int32 → zS → Prop}  (hm : z_Ci dc zm_Model_refusesShot [.inr (63), .inl (x2), .inl (x3)] σ P) (hdp : dc < z_dep Γ) (k : ∀ r σ1, P r σ1 → z_J Γ zm_Model_act 133 [some (.inr (63)), none, some (.inl (x2)), some (.inl (x3)), none] [.inl (r)] σ1) : z_J Γ zm_Model_act 127 [some (.inr (63)), none, some (.inl (x2)), some (.inl (x3)), none] [] σ := by
  refine zj_aload_n zd_Model_act_127 rfl ?_
  refine zj_iload_n zd_Model_act_128 rfl ?_
  refine zj_iload_n zd_Model_act_129 rfl ?_
  exact zj_callVi (As := [.inl (x2), .inl (x3)]) hm hdp rfl (by decide) rfl zl_Model_306 zq_Model_refusesShot zd_Model_act_130 rfl (Nat.le_of_ble_eq_true rfl) (fun r σ1 h => (k r σ1 h))
theorem zb_Model_act_133 {Γ : zG} {σ : zS} {x2 x3 y0 : Int32}  (kt : 0 ≤ y0 → z_J Γ zm_Model_act 138 [some (.inr (63)), none, some (.inl (x2)), some (.inl (x3)), none] [] σ) (kf : ¬ 0 ≤ y0 → z_J Γ zm_Model_act 136 [none, none, none, none, none] [] σ) : z_J Γ zm_Model_act 133 [some (.inr (63)), none, some (.inl (x2)), some (.inl (x3)), none] [.inl (y0)] σ := by
  exact zj_if_ge zd_Model_act_133 (by decide) (fun h => (kt h)) (fun h => (zj_weak (L' := [none, none, none, none, none]) trivial (kf h)))
theorem zb_Model_act_136 {Γ : zG} {σ : zS}  (e : z_end Γ (some (nI 0)) σ) : z_J Γ zm_Model_act 136 [none, none, none, none, none] [] σ := by
  refine zj_iconst (v := nI 0) zd_Model_act_136 (by decide) ?_
  exact zj_zreturn rfl (Or.inl (by decide)) zd_Model_act_137 e
theorem zb_Model_act_138 {Γ : zG} {σ : zS} {x2 x3 : Int32} {dc : Nat} {P : Int32 → zS → Prop}  (hm : z_Ci dc zm_Model_goShot [.inr (63), .inr (64), .inl (x2), .inl (x3)] σ P) (hdp : dc < z_dep Γ) (k : ∀ r σ1, P r σ1 → z_J Γ zm_Model_act 148 [none, none, none, none, none] [.inl (r)] σ1) : z_J Γ zm_Model_act 138 [some (.inr (63)), none, some (.inl (x2)), some (.inl (x3)), none] [] σ := by
  refine zj_aload_n zd_Model_act_138 rfl ?_
  refine zj_aload_n zd_Model_act_139 rfl ?_
  refine zj_getR rfl (by decide) rfl zu_Model (k := 0) (by decide) rfl zl_Model_9 zd_Model_act_140 (o' := 64) rfl ?_
  refine zj_iload_n zd_Model_act_143 rfl ?_
  refine zj_iload_n zd_Model_act_144 rfl ?_
  exact zj_callVi (As := [.inr (64), .inl (x2), .inl (x3)]) hm hdp rfl (by decide) rfl zl_Model_309 zq_Model_goShot zd_Model_act_145 rfl (Nat.le_of_ble_eq_true rfl) (fun r σ1 h => (zj_weak (L' := [none, none, none, none, none]) trivial (k r σ1 h)))
theorem zb_Model_act_148 {Γ : zG} {σ : zS} {y0 : Int32}  (e : z_end Γ (some (nI 1)) σ) : z_J Γ zm_Model_act 148 [none, none, none, none, none] [.inl (y0)] σ := by
  refine zj_pop zd_Model_act_148 ?_
  refine zj_iconst (v := nI 1) zd_Model_act_149 (by decide) ?_
  exact zj_zreturn rfl (Or.inr (by decide)) zd_Model_act_150 e
theorem zb_Model_act_151 {Γ : zG} {σ : zS} {x2 : Int32} {dc : Nat} {P : zS → Prop}  (hm : z_Cv dc zm_Model_goDays [.inr (63), .inr (64), .inl (x2)] σ P) (hdp : dc < z_dep Γ) (k : ∀ σ1, P σ1 → z_J Γ zm_Model_act 160 [none, none, none, none, none] [] σ1) : z_J Γ zm_Model_act 151 [some (.inr (63)), none, some (.inl (x2)), none, none] [] σ := by
  refine zj_aload_n zd_Model_act_151 rfl ?_
  refine zj_aload_n zd_Model_act_152 rfl ?_
  refine zj_getR rfl (by decide) rfl zu_Model (k := 0) (by decide) rfl zl_Model_9 zd_Model_act_153 (o' := 64) rfl ?_
  refine zj_iload_n zd_Model_act_156 rfl ?_
  exact zj_callVv (As := [.inr (64), .inl (x2)]) hm hdp rfl (by decide) rfl zl_Model_321 zq_Model_goDays zd_Model_act_157 rfl (Nat.le_of_ble_eq_true rfl) (fun σ1 h => (zj_weak (L' := [none, none, none, none, none]) trivial (k σ1 h)))
theorem zb_Model_act_160 {Γ : zG} {σ : zS}  (e : z_end Γ (some (nI 1)) σ) : z_J Γ zm_Model_act 160 [none, none, none, none, none] [] σ := by
  refine zj_iconst (v := nI 1) zd_Model_act_160 (by decide) ?_
  exact zj_zreturn rfl (Or.inr (by decide)) zd_Model_act_161 e
theorem zd_Model_whereBits_0 : decode zm_Model_whereBits.2.1 0 = .ok (.iconst 0, 1) := by decide +kernel
theorem zd_Model_whereBits_1 : decode zm_Model_whereBits.2.1 1 = .ok (.istore_n 3, 1) := by decide +kernel
theorem zd_Model_whereBits_2 : decode zm_Model_whereBits.2.1 2 = .ok (.iconst 0, 1) := by decide +kernel
theorem zd_Model_whereBits_3 : decode zm_Model_whereBits.2.1 3 = .ok (.istore 4, 2) := by decide +kernel
theorem zd_Model_whereBits_5 : decode zm_Model_whereBits.2.1 5 = .ok (.iload 4, 2) := by decide +kernel
theorem zd_Model_whereBits_7 : decode zm_Model_whereBits.2.1 7 = .ok (.aload_n 0, 1) := by decide +kernel
theorem zd_Model_whereBits_8 : decode zm_Model_whereBits.2.1 8 = .ok (.getfield 97, 3) := by decide +kernel
theorem zd_Model_whereBits_11 : decode zm_Model_whereBits.2.1 11 = .ok (.if_icmp .ge 28, 3) := by decide +kernel
theorem zd_Model_whereBits_14 : decode zm_Model_whereBits.2.1 14 = .ok (.iload_n 3, 1) := by decide +kernel
theorem zd_Model_whereBits_15 : decode zm_Model_whereBits.2.1 15 = .ok (.aload_n 1, 1) := by decide +kernel
theorem zd_Model_whereBits_16 : decode zm_Model_whereBits.2.1 16 = .ok (.iload 4, 2) := by decide +kernel
theorem zd_Model_whereBits_18 : decode zm_Model_whereBits.2.1 18 = .ok (.iaload, 1) := by decide +kernel
theorem zd_Model_whereBits_19 : decode zm_Model_whereBits.2.1 19 = .ok (.iload_n 2, 1) := by decide +kernel
theorem zd_Model_whereBits_20 : decode zm_Model_whereBits.2.1 20 = .ok (.if_icmp .ne 10, 3) := by decide +kernel
theorem zd_Model_whereBits_23 : decode zm_Model_whereBits.2.1 23 = .ok (.iconst 1, 1) := by decide +kernel
theorem zd_Model_whereBits_24 : decode zm_Model_whereBits.2.1 24 = .ok (.iload 4, 2) := by decide +kernel
theorem zd_Model_whereBits_26 : decode zm_Model_whereBits.2.1 26 = .ok (.ishl, 1) := by decide +kernel
theorem zd_Model_whereBits_27 : decode zm_Model_whereBits.2.1 27 = .ok (.goto 4, 3) := by decide +kernel
theorem zd_Model_whereBits_30 : decode zm_Model_whereBits.2.1 30 = .ok (.iconst 0, 1) := by decide +kernel
theorem zd_Model_whereBits_31 : decode zm_Model_whereBits.2.1 31 = .ok (.ior, 1) := by decide +kernel
theorem zd_Model_whereBits_32 : decode zm_Model_whereBits.2.1 32 = .ok (.istore_n 3, 1) := by decide +kernel
theorem zd_Model_whereBits_33 : decode zm_Model_whereBits.2.1 33 = .ok (.iinc 4 1, 3) := by decide +kernel
theorem zd_Model_whereBits_36 : decode zm_Model_whereBits.2.1 36 = .ok (.goto (-31), 3) := by decide +kernel
theorem zd_Model_whereBits_39 : decode zm_Model_whereBits.2.1 39 = .ok (.iload_n 3, 1) := by decide +kernel
theorem zd_Model_whereBits_40 : decode zm_Model_whereBits.2.1 40 = .ok (.ireturn, 1) := by decide +kernel
theorem zb_Model_whereBits_0 {Γ : zG} {σ : zS} {a1 : Nat} {x2 : Int32} (h_a1 : z_kd a1 = (11, 53)) (k : z_J Γ zm_Model_whereBits 5 [some (.inr (63)), some (.inr (a1)), some (.inl (x2)), some (.inl (nI 0)), some (.inl (nI 0))] [] σ) : z_J Γ zm_Model_whereBits 0 [some (.inr (63)), some (.inr (a1)), some (.inl (x2)), none, none] [] σ := by
  refine zj_iconst (v := nI 0) zd_Model_whereBits_0 (by decide) ?_
  refine zj_istore_n (L' := [some (.inr (63)), some (.inr (a1)), some (.inl (x2)), some (.inl (nI 0)), none]) zd_Model_whereBits_1 (by decide) rfl ?_
  refine zj_iconst (v := nI 0) zd_Model_whereBits_2 (by decide) ?_
  refine zj_istore (L' := [some (.inr (63)), some (.inr (a1)), some (.inl (x2)), some (.inl (nI 0)), some (.inl (nI 0))]) zd_Model_whereBits_3 (by decide) rfl ?_
  exact k
theorem zb_Model_whereBits_5 {Γ : zG} {σ : zS} {a1 : Nat} {x2 x3 x4 : Int32} (h_a1 : z_kd a1 = (11, 53)) (kt : (σ.1 63 1) ≤ x4 → z_J Γ zm_Model_whereBits 39 [none, none, none, some (.inl (x3)), none] [] σ) (kf : ¬ (σ.1 63 1) ≤ x4 → z_J Γ zm_Model_whereBits 14 [some (.inr (63)), some (.inr (a1)), some (.inl (x2)), some (.inl (x3)), some (.inl (x4))] [] σ) : z_J Γ zm_Model_whereBits 5 [some (.inr (63)), some (.inr (a1)), some (.inl (x2)), some (.inl (x3)), some (.inl (x4))] [] σ := by
  refine zj_iload zd_Model_whereBits_5 rfl ?_
  refine zj_aload_n zd_Model_whereBits_7 rfl ?_
  refine zj_getI rfl (by decide) rfl zu_Model (k := 1) (by decide) rfl zl_Model_97 zd_Model_whereBits_8 ?_
  exact zj_icmp_ge zd_Model_whereBits_11 (by decide) (fun h => (zj_weak (L' := [none, none, none, some (.inl (x3)), none]) ⟨rfl, trivial⟩ (kt h))) (fun h => (kf h))
theorem zb_Model_whereBits_14 {Γ : zG} {σ : zS} {a1 : Nat} {x2 x3 x4 : Int32} {k1 : Nat} (h_a1 : z_kd a1 = (11, 53)) (b1 : z_ix x4 53 k1) (kt : ¬ (σ.1 a1 k1) = x2 → z_J Γ zm_Model_whereBits 30 [some (.inr (63)), some (.inr (a1)), some (.inl (x2)), none, some (.inl (x4))] [.inl (x3)] σ) (kf : (σ.1 a1 k1) = x2 → z_J Γ zm_Model_whereBits 23 [some (.inr (63)), some (.inr (a1)), some (.inl (x2)), none, some (.inl (x4))] [.inl (x3)] σ) : z_J Γ zm_Model_whereBits 14 [some (.inr (63)), some (.inr (a1)), some (.inl (x2)), some (.inl (x3)), some (.inl (x4))] [] σ := by
  refine zj_iload_n zd_Model_whereBits_14 rfl ?_
  refine zj_aload_n zd_Model_whereBits_15 rfl ?_
  refine zj_iload zd_Model_whereBits_16 rfl ?_
  refine zj_iaload h_a1 (by decide) b1 zd_Model_whereBits_18 ?_
  refine zj_iload_n zd_Model_whereBits_19 rfl ?_
  exact zj_icmp_ne zd_Model_whereBits_20 (by decide) (fun h => (zj_weak (L' := [some (.inr (63)), some (.inr (a1)), some (.inl (x2)), none, some (.inl (x4))]) ⟨rfl, ⟨rfl, ⟨rfl, ⟨rfl, trivial⟩⟩⟩⟩ (kt h))) (fun h => (zj_weak (L' := [some (.inr (63)), some (.inr (a1)), some (.inl (x2)), none, some (.inl (x4))]) ⟨rfl, ⟨rfl, ⟨rfl, ⟨rfl, trivial⟩⟩⟩⟩ (kf h)))
theorem zb_Model_whereBits_23 {Γ : zG} {σ : zS} {a1 : Nat} {x2 x4 y0 : Int32} (h_a1 : z_kd a1 = (11, 53)) (k : z_J Γ zm_Model_whereBits 31 [some (.inr (63)), some (.inr (a1)), some (.inl (x2)), none, some (.inl (x4))] [.inl ((nI 1) <<< (x4 &&& 31)), .inl (y0)] σ) : z_J Γ zm_Model_whereBits 23 [some (.inr (63)), some (.inr (a1)), some (.inl (x2)), none, some (.inl (x4))] [.inl (y0)] σ := by
  refine zj_iconst (v := nI 1) zd_Model_whereBits_23 (by decide) ?_
  refine zj_iload zd_Model_whereBits_24 rfl ?_
  refine zj_ishl zd_Model_whereBits_26 ?_
  exact zj_goto zd_Model_whereBits_27 (by decide) k
theorem zb_Model_whereBits_30 {Γ : zG} {σ : zS} {a1 : Nat} {x2 x4 y0 : Int32} (h_a1 : z_kd a1 = (11, 53)) (k : z_J Γ zm_Model_whereBits 31 [some (.inr (63)), some (.inr (a1)), some (.inl (x2)), none, some (.inl (x4))] [.inl (nI 0), .inl (y0)] σ) : z_J Γ zm_Model_whereBits 30 [some (.inr (63)), some (.inr (a1)), some (.inl (x2)), none, some (.inl (x4))] [.inl (y0)] σ := by
  refine zj_iconst (v := nI 0) zd_Model_whereBits_30 (by decide) ?_
  exact k
theorem zb_Model_whereBits_31 {Γ : zG} {σ : zS} {a1 : Nat} {x2 x4 y0 y1 : Int32} (h_a1 : z_kd a1 = (11, 53)) (k : z_J Γ zm_Model_whereBits 5 [some (.inr (63)), some (.inr (a1)), some (.inl (x2)), some (.inl (y1 ||| y0)), some (.inl (x4 + nI 1))] [] σ) : z_J Γ zm_Model_whereBits 31 [some (.inr (63)), some (.inr (a1)), some (.inl (x2)), none, some (.inl (x4))] [.inl (y0), .inl (y1)] σ := by
  refine zj_ior zd_Model_whereBits_31 ?_
  refine zj_istore_n (L' := [some (.inr (63)), some (.inr (a1)), some (.inl (x2)), some (.inl (y1 ||| y0)), some (.inl (x4))]) zd_Model_whereBits_32 (by decide) rfl ?_
  refine zj_iinc (v := nI 1) (L' := [some (.inr (63)), some (.inr (a1)), some (.inl (x2)), some (.inl (y1 ||| y0)), some (.inl (x4 + nI 1))]) zd_Model_whereBits_33 rfl (by decide) (by decide) rfl ?_
  exact zj_goto zd_Model_whereBits_36 (by decide) k
theorem zb_Model_whereBits_39 {Γ : zG} {σ : zS} {x3 : Int32}  (e : z_end Γ (some (x3)) σ) : z_J Γ zm_Model_whereBits 39 [none, none, none, some (.inl (x3)), none] [] σ := by
  refine zj_iload_n zd_Model_whereBits_39 rfl ?_
  exact zj_ireturn rfl zd_Model_whereBits_40 e
theorem zd_Model_undo_0 : decode zm_Model_undo.2.1 0 = .ok (.aload_n 0, 1) := by decide +kernel
theorem zd_Model_undo_1 : decode zm_Model_undo.2.1 1 = .ok (.iconst 0, 1) := by decide +kernel
theorem zd_Model_undo_2 : decode zm_Model_undo.2.1 2 = .ok (.putfield 91, 3) := by decide +kernel
theorem zd_Model_undo_5 : decode zm_Model_undo.2.1 5 = .ok (.aload_n 0, 1) := by decide +kernel
theorem zd_Model_undo_6 : decode zm_Model_undo.2.1 6 = .ok (.getfield 155, 3) := by decide +kernel
theorem zd_Model_undo_9 : decode zm_Model_undo.2.1 9 = .ok (.ifCond .ne 5, 3) := by decide +kernel
theorem zd_Model_undo_12 : decode zm_Model_undo.2.1 12 = .ok (.iconst (-1), 1) := by decide +kernel
theorem zd_Model_undo_13 : decode zm_Model_undo.2.1 13 = .ok (.ireturn, 1) := by decide +kernel
theorem zd_Model_undo_14 : decode zm_Model_undo.2.1 14 = .ok (.aload_n 0, 1) := by decide +kernel
theorem zd_Model_undo_15 : decode zm_Model_undo.2.1 15 = .ok (.dup, 1) := by decide +kernel
theorem zd_Model_undo_16 : decode zm_Model_undo.2.1 16 = .ok (.getfield 155, 3) := by decide +kernel
theorem zd_Model_undo_19 : decode zm_Model_undo.2.1 19 = .ok (.iconst 1, 1) := by decide +kernel
theorem zd_Model_undo_20 : decode zm_Model_undo.2.1 20 = .ok (.isub, 1) := by decide +kernel
theorem zd_Model_undo_21 : decode zm_Model_undo.2.1 21 = .ok (.putfield 155, 3) := by decide +kernel
theorem zd_Model_undo_24 : decode zm_Model_undo.2.1 24 = .ok (.iconst 0, 1) := by decide +kernel
theorem zd_Model_undo_25 : decode zm_Model_undo.2.1 25 = .ok (.istore_n 1, 1) := by decide +kernel
theorem zd_Model_undo_26 : decode zm_Model_undo.2.1 26 = .ok (.iload_n 1, 1) := by decide +kernel
theorem zd_Model_undo_27 : decode zm_Model_undo.2.1 27 = .ok (.bipush 53, 2) := by decide +kernel
theorem zd_Model_undo_29 : decode zm_Model_undo.2.1 29 = .ok (.if_icmp .ge 29, 3) := by decide +kernel
theorem zd_Model_undo_32 : decode zm_Model_undo.2.1 32 = .ok (.aload_n 0, 1) := by decide +kernel
theorem zd_Model_undo_33 : decode zm_Model_undo.2.1 33 = .ok (.getfield 9, 3) := by decide +kernel
theorem zd_Model_undo_36 : decode zm_Model_undo.2.1 36 = .ok (.iload_n 1, 1) := by decide +kernel
theorem zd_Model_undo_37 : decode zm_Model_undo.2.1 37 = .ok (.aload_n 0, 1) := by decide +kernel
theorem zd_Model_undo_38 : decode zm_Model_undo.2.1 38 = .ok (.getfield 54, 3) := by decide +kernel
theorem zd_Model_undo_41 : decode zm_Model_undo.2.1 41 = .ok (.bipush 53, 2) := by decide +kernel
theorem zd_Model_undo_43 : decode zm_Model_undo.2.1 43 = .ok (.aload_n 0, 1) := by decide +kernel
theorem zd_Model_undo_44 : decode zm_Model_undo.2.1 44 = .ok (.getfield 155, 3) := by decide +kernel
theorem zd_Model_undo_47 : decode zm_Model_undo.2.1 47 = .ok (.imul, 1) := by decide +kernel
theorem zd_Model_undo_48 : decode zm_Model_undo.2.1 48 = .ok (.iload_n 1, 1) := by decide +kernel
theorem zd_Model_undo_49 : decode zm_Model_undo.2.1 49 = .ok (.iadd, 1) := by decide +kernel
theorem zd_Model_undo_50 : decode zm_Model_undo.2.1 50 = .ok (.iaload, 1) := by decide +kernel
theorem zd_Model_undo_51 : decode zm_Model_undo.2.1 51 = .ok (.iastore, 1) := by decide +kernel
theorem zd_Model_undo_52 : decode zm_Model_undo.2.1 52 = .ok (.iinc 1 1, 3) := by decide +kernel
theorem zd_Model_undo_55 : decode zm_Model_undo.2.1 55 = .ok (.goto (-29), 3) := by decide +kernel
theorem zd_Model_undo_58 : decode zm_Model_undo.2.1 58 = .ok (.aload_n 0, 1) := by decide +kernel
theorem zd_Model_undo_59 : decode zm_Model_undo.2.1 59 = .ok (.getfield 155, 3) := by decide +kernel
theorem zd_Model_undo_62 : decode zm_Model_undo.2.1 62 = .ok (.ireturn, 1) := by decide +kernel
theorem zb_Model_undo_0 {Γ : zG} {σ : zS}  (kt : ¬ ((z_pI σ 63 11 (nI 0)).1 63 27) = 0 → z_J Γ zm_Model_undo 14 [some (.inr (63)), none] [] (z_pI σ 63 11 (nI 0))) (kf : ((z_pI σ 63 11 (nI 0)).1 63 27) = 0 → z_J Γ zm_Model_undo 12 [none, none] [] (z_pI σ 63 11 (nI 0))) : z_J Γ zm_Model_undo 0 [some (.inr (63)), none] [] σ := by
  refine zj_aload_n zd_Model_undo_0 rfl ?_
  refine zj_iconst (v := nI 0) zd_Model_undo_1 (by decide) ?_
  refine zj_putI rfl (by decide) rfl zu_Model zy_Model_ok zn_Model (k := 11) (by decide) rfl rfl zl_Model_91 rfl rfl zd_Model_undo_2 ?_
  refine zj_aload_n zd_Model_undo_5 rfl ?_
  refine zj_getI rfl (by decide) rfl zu_Model (k := 27) (by decide) rfl zl_Model_155 zd_Model_undo_6 ?_
  exact zj_if_ne zd_Model_undo_9 (by decide) (fun h => (kt h)) (fun h => (zj_weak (L' := [none, none]) trivial (kf h)))
theorem zb_Model_undo_12 {Γ : zG} {σ : zS}  (e : z_end Γ (some ((-1))) σ) : z_J Γ zm_Model_undo 12 [none, none] [] σ := by
  refine zj_iconst (v := (-1)) zd_Model_undo_12 (by decide) ?_
  exact zj_ireturn rfl zd_Model_undo_13 e
theorem zb_Model_undo_14 {Γ : zG} {σ : zS}  (k : z_J Γ zm_Model_undo 26 [some (.inr (63)), some (.inl (nI 0))] [] (z_pI σ 63 27 ((σ.1 63 27) - (nI 1)))) : z_J Γ zm_Model_undo 14 [some (.inr (63)), none] [] σ := by
  refine zj_aload_n zd_Model_undo_14 rfl ?_
  refine zj_dup zd_Model_undo_15 ?_
  refine zj_getI rfl (by decide) rfl zu_Model (k := 27) (by decide) rfl zl_Model_155 zd_Model_undo_16 ?_
  refine zj_iconst (v := nI 1) zd_Model_undo_19 (by decide) ?_
  refine zj_isub zd_Model_undo_20 ?_
  refine zj_putI rfl (by decide) rfl zu_Model zy_Model_ok zn_Model (k := 27) (by decide) rfl rfl zl_Model_155 rfl rfl zd_Model_undo_21 ?_
  refine zj_iconst (v := nI 0) zd_Model_undo_24 (by decide) ?_
  refine zj_istore_n (L' := [some (.inr (63)), some (.inl (nI 0))]) zd_Model_undo_25 (by decide) rfl ?_
  exact k
theorem zb_Model_undo_26 {Γ : zG} {σ : zS} {x1 : Int32}  (kt : (nI 53) ≤ x1 → z_J Γ zm_Model_undo 58 [some (.inr (63)), none] [] σ) (kf : ¬ (nI 53) ≤ x1 → z_J Γ zm_Model_undo 32 [some (.inr (63)), some (.inl (x1))] [] σ) : z_J Γ zm_Model_undo 26 [some (.inr (63)), some (.inl (x1))] [] σ := by
  refine zj_iload_n zd_Model_undo_26 rfl ?_
  refine zj_bipush (v := nI 53) zd_Model_undo_27 (by decide) ?_
  exact zj_icmp_ge zd_Model_undo_29 (by decide) (fun h => (zj_weak (L' := [some (.inr (63)), none]) ⟨rfl, trivial⟩ (kt h))) (fun h => (kf h))
theorem zb_Model_undo_32 {Γ : zG} {σ : zS} {x1 : Int32} {k1 k2 : Nat}  (b1 : z_ix (((nI 53) * (σ.1 63 27)) + x1) 636 k1) (b2 : z_ix x1 53 k2) (k : z_J Γ zm_Model_undo 26 [some (.inr (63)), some (.inl (x1 + nI 1))] [] (z_pI σ 64 k2 (σ.1 76 k1))) : z_J Γ zm_Model_undo 32 [some (.inr (63)), some (.inl (x1))] [] σ := by
  refine zj_aload_n zd_Model_undo_32 rfl ?_
  refine zj_getR rfl (by decide) rfl zu_Model (k := 0) (by decide) rfl zl_Model_9 zd_Model_undo_33 (o' := 64) rfl ?_
  refine zj_iload_n zd_Model_undo_36 rfl ?_
  refine zj_aload_n zd_Model_undo_37 rfl ?_
  refine zj_getR rfl (by decide) rfl zu_Model (k := 26) (by decide) rfl zl_Model_54 zd_Model_undo_38 (o' := 76) rfl ?_
  refine zj_bipush (v := nI 53) zd_Model_undo_41 (by decide) ?_
  refine zj_aload_n zd_Model_undo_43 rfl ?_
  refine zj_getI rfl (by decide) rfl zu_Model (k := 27) (by decide) rfl zl_Model_155 zd_Model_undo_44 ?_
  refine zj_imul zd_Model_undo_47 ?_
  refine zj_iload_n zd_Model_undo_48 rfl ?_
  refine zj_iadd zd_Model_undo_49 ?_
  refine zj_iaload rfl (by decide) b1 zd_Model_undo_50 ?_
  refine zj_iastore rfl (by decide) b2 zd_Model_undo_51 ?_
  refine zj_iinc (v := nI 1) (L' := [some (.inr (63)), some (.inl (x1 + nI 1))]) zd_Model_undo_52 rfl (by decide) (by decide) rfl ?_
  exact zj_goto zd_Model_undo_55 (by decide) k
theorem zb_Model_undo_58 {Γ : zG} {σ : zS}  (e : z_end Γ (some (σ.1 63 27)) σ) : z_J Γ zm_Model_undo 58 [some (.inr (63)), none] [] σ := by
  refine zj_aload_n zd_Model_undo_58 rfl ?_
  refine zj_getI rfl (by decide) rfl zu_Model (k := 27) (by decide) rfl zl_Model_155 zd_Model_undo_59 ?_
  exact zj_ireturn rfl zd_Model_undo_62 e
theorem zd_Model_low_0 : decode zm_Model_low.2.1 0 = .ok (.aload_n 0, 1) := by decide +kernel
theorem zd_Model_low_1 : decode zm_Model_low.2.1 1 = .ok (.iconst 0, 1) := by decide +kernel
theorem zd_Model_low_2 : decode zm_Model_low.2.1 2 = .ok (.putfield 91, 3) := by decide +kernel
theorem zd_Model_low_5 : decode zm_Model_low.2.1 5 = .ok (.iload_n 1, 1) := by decide +kernel
theorem zd_Model_low_6 : decode zm_Model_low.2.1 6 = .ok (.iconst 0, 1) := by decide +kernel
theorem zd_Model_low_7 : decode zm_Model_low.2.1 7 = .ok (.bipush 99, 2) := by decide +kernel
theorem zd_Model_low_9 : decode zm_Model_low.2.1 9 = .ok (.invokestatic 100, 3) := by decide +kernel
theorem zd_Model_low_12 : decode zm_Model_low.2.1 12 = .ok (.ifCond .ne 5, 3) := by decide +kernel
theorem zd_Model_low_15 : decode zm_Model_low.2.1 15 = .ok (.iconst (-1), 1) := by decide +kernel
theorem zd_Model_low_16 : decode zm_Model_low.2.1 16 = .ok (.ireturn, 1) := by decide +kernel
theorem zd_Model_low_17 : decode zm_Model_low.2.1 17 = .ok (.iconst 0, 1) := by decide +kernel
theorem zd_Model_low_18 : decode zm_Model_low.2.1 18 = .ok (.istore_n 2, 1) := by decide +kernel
theorem zd_Model_low_19 : decode zm_Model_low.2.1 19 = .ok (.iconst 0, 1) := by decide +kernel
theorem zd_Model_low_20 : decode zm_Model_low.2.1 20 = .ok (.istore_n 3, 1) := by decide +kernel
theorem zd_Model_low_21 : decode zm_Model_low.2.1 21 = .ok (.iconst 0, 1) := by decide +kernel
theorem zd_Model_low_22 : decode zm_Model_low.2.1 22 = .ok (.istore 4, 2) := by decide +kernel
theorem zd_Model_low_24 : decode zm_Model_low.2.1 24 = .ok (.iload 4, 2) := by decide +kernel
theorem zd_Model_low_26 : decode zm_Model_low.2.1 26 = .ok (.aload_n 0, 1) := by decide +kernel
theorem zd_Model_low_27 : decode zm_Model_low.2.1 27 = .ok (.getfield 19, 3) := by decide +kernel
theorem zd_Model_low_30 : decode zm_Model_low.2.1 30 = .ok (.if_icmp .ge 44, 3) := by decide +kernel
theorem zd_Model_low_33 : decode zm_Model_low.2.1 33 = .ok (.aload_n 0, 1) := by decide +kernel
theorem zd_Model_low_34 : decode zm_Model_low.2.1 34 = .ok (.aload_n 0, 1) := by decide +kernel
theorem zd_Model_low_35 : decode zm_Model_low.2.1 35 = .ok (.getfield 9, 3) := by decide +kernel
theorem zd_Model_low_38 : decode zm_Model_low.2.1 38 = .ok (.iload 4, 2) := by decide +kernel
theorem zd_Model_low_40 : decode zm_Model_low.2.1 40 = .ok (.invokevirtual 255, 3) := by decide +kernel
theorem zd_Model_low_43 : decode zm_Model_low.2.1 43 = .ok (.istore 5, 2) := by decide +kernel
theorem zd_Model_low_45 : decode zm_Model_low.2.1 45 = .ok (.iload 5, 2) := by decide +kernel
theorem zd_Model_low_47 : decode zm_Model_low.2.1 47 = .ok (.iload_n 1, 1) := by decide +kernel
theorem zd_Model_low_48 : decode zm_Model_low.2.1 48 = .ok (.if_icmp .lt 6, 3) := by decide +kernel
theorem zd_Model_low_51 : decode zm_Model_low.2.1 51 = .ok (.goto 17, 3) := by decide +kernel
theorem zd_Model_low_54 : decode zm_Model_low.2.1 54 = .ok (.iload_n 2, 1) := by decide +kernel
theorem zd_Model_low_55 : decode zm_Model_low.2.1 55 = .ok (.iconst 1, 1) := by decide +kernel
theorem zd_Model_low_56 : decode zm_Model_low.2.1 56 = .ok (.iload 4, 2) := by decide +kernel
theorem zd_Model_low_58 : decode zm_Model_low.2.1 58 = .ok (.ishl, 1) := by decide +kernel
theorem zd_Model_low_59 : decode zm_Model_low.2.1 59 = .ok (.ior, 1) := by decide +kernel
theorem zd_Model_low_60 : decode zm_Model_low.2.1 60 = .ok (.istore_n 2, 1) := by decide +kernel
theorem zd_Model_low_61 : decode zm_Model_low.2.1 61 = .ok (.iload_n 3, 1) := by decide +kernel
theorem zd_Model_low_62 : decode zm_Model_low.2.1 62 = .ok (.iload_n 1, 1) := by decide +kernel
theorem zd_Model_low_63 : decode zm_Model_low.2.1 63 = .ok (.iload 5, 2) := by decide +kernel
theorem zd_Model_low_65 : decode zm_Model_low.2.1 65 = .ok (.isub, 1) := by decide +kernel
theorem zd_Model_low_66 : decode zm_Model_low.2.1 66 = .ok (.iadd, 1) := by decide +kernel
theorem zd_Model_low_67 : decode zm_Model_low.2.1 67 = .ok (.istore_n 3, 1) := by decide +kernel
theorem zd_Model_low_68 : decode zm_Model_low.2.1 68 = .ok (.iinc 4 1, 3) := by decide +kernel
theorem zd_Model_low_71 : decode zm_Model_low.2.1 71 = .ok (.goto (-47), 3) := by decide +kernel
theorem zd_Model_low_74 : decode zm_Model_low.2.1 74 = .ok (.aload_n 0, 1) := by decide +kernel
theorem zd_Model_low_75 : decode zm_Model_low.2.1 75 = .ok (.iconst 0, 1) := by decide +kernel
theorem zd_Model_low_76 : decode zm_Model_low.2.1 76 = .ok (.putfield 94, 3) := by decide +kernel
theorem zd_Model_low_79 : decode zm_Model_low.2.1 79 = .ok (.aload_n 0, 1) := by decide +kernel
theorem zd_Model_low_80 : decode zm_Model_low.2.1 80 = .ok (.iload_n 3, 1) := by decide +kernel
theorem zd_Model_low_81 : decode zm_Model_low.2.1 81 = .ok (.invokevirtual 312, 3) := by decide +kernel
theorem zd_Model_low_84 : decode zm_Model_low.2.1 84 = .ok (.aload_n 0, 1) := by decide +kernel
theorem zd_Model_low_85 : decode zm_Model_low.2.1 85 = .ok (.aload_n 0, 1) := by decide +kernel
theorem zd_Model_low_86 : decode zm_Model_low.2.1 86 = .ok (.aload_n 0, 1) := by decide +kernel
theorem zd_Model_low_87 : decode zm_Model_low.2.1 87 = .ok (.getfield 9, 3) := by decide +kernel
theorem zd_Model_low_90 : decode zm_Model_low.2.1 90 = .ok (.invokevirtual 334, 3) := by decide +kernel
theorem zd_Model_low_93 : decode zm_Model_low.2.1 93 = .ok (.invokevirtual 312, 3) := by decide +kernel
theorem zd_Model_low_96 : decode zm_Model_low.2.1 96 = .ok (.iload_n 2, 1) := by decide +kernel
theorem zd_Model_low_97 : decode zm_Model_low.2.1 97 = .ok (.ireturn, 1) := by decide +kernel
theorem zb_Model_low_0 {Γ : zG} {σ : zS} {x1 : Int32} {dc : Nat} {P : Int32 → zS → Prop}  (hm : z_Ci dc zm_Model_in [.inl (x1), .inl (nI 0), .inl (nI 99)] (z_pI σ 63 11 (nI 0)) P) (hdp : dc < z_dep Γ) (k : ∀ r σ1, P r σ1 → z_J Γ zm_Model_low 12 [some (.inr (63)), some (.inl (x1)), none, none, none, none] [.inl (r)] σ1) : z_J Γ zm_Model_low 0 [some (.inr (63)), some (.inl (x1)), none, none, none, none] [] σ := by
  refine zj_aload_n zd_Model_low_0 rfl ?_
  refine zj_iconst (v := nI 0) zd_Model_low_1 (by decide) ?_
  refine zj_putI rfl (by decide) rfl zu_Model zy_Model_ok zn_Model (k := 11) (by decide) rfl rfl zl_Model_91 rfl rfl zd_Model_low_2 ?_
  refine zj_iload_n zd_Model_low_5 rfl ?_
  refine zj_iconst (v := nI 0) zd_Model_low_6 (by decide) ?_
  refine zj_bipush (v := nI 99) zd_Model_low_7 (by decide) ?_
  exact zj_callSi (As := [.inl (x1), .inl (nI 0), .inl (nI 99)]) hm hdp zl_Model_100 zq_Model_in zd_Model_low_9 rfl (Nat.le_of_ble_eq_true rfl) (fun r σ1 h => (k r σ1 h))
theorem zb_Model_low_12 {Γ : zG} {σ : zS} {x1 y0 : Int32}  (kt : ¬ y0 = 0 → z_J Γ zm_Model_low 17 [some (.inr (63)), some (.inl (x1)), none, none, none, none] [] σ) (kf : y0 = 0 → z_J Γ zm_Model_low 15 [none, none, none, none, none, none] [] σ) : z_J Γ zm_Model_low 12 [some (.inr (63)), some (.inl (x1)), none, none, none, none] [.inl (y0)] σ := by
  exact zj_if_ne zd_Model_low_12 (by decide) (fun h => (kt h)) (fun h => (zj_weak (L' := [none, none, none, none, none, none]) trivial (kf h)))
theorem zb_Model_low_15 {Γ : zG} {σ : zS}  (e : z_end Γ (some ((-1))) σ) : z_J Γ zm_Model_low 15 [none, none, none, none, none, none] [] σ := by
  refine zj_iconst (v := (-1)) zd_Model_low_15 (by decide) ?_
  exact zj_ireturn rfl zd_Model_low_16 e
theorem zb_Model_low_17 {Γ : zG} {σ : zS} {x1 : Int32}  (k : z_J Γ zm_Model_low 24 [some (.inr (63)), some (.inl (x1)), some (.inl (nI 0)), some (.inl (nI 0)), some (.inl (nI 0)), none] [] σ) : z_J Γ zm_Model_low 17 [some (.inr (63)), some (.inl (x1)), none, none, none, none] [] σ := by
  refine zj_iconst (v := nI 0) zd_Model_low_17 (by decide) ?_
  refine zj_istore_n (L' := [some (.inr (63)), some (.inl (x1)), some (.inl (nI 0)), none, none, none]) zd_Model_low_18 (by decide) rfl ?_
  refine zj_iconst (v := nI 0) zd_Model_low_19 (by decide) ?_
  refine zj_istore_n (L' := [some (.inr (63)), some (.inl (x1)), some (.inl (nI 0)), some (.inl (nI 0)), none, none]) zd_Model_low_20 (by decide) rfl ?_
  refine zj_iconst (v := nI 0) zd_Model_low_21 (by decide) ?_
  refine zj_istore (L' := [some (.inr (63)), some (.inl (x1)), some (.inl (nI 0)), some (.inl (nI 0)), some (.inl (nI 0)), none]) zd_Model_low_22 (by decide) rfl ?_
  exact k
theorem zb_Model_low_24 {Γ : zG} {σ : zS} {x1 x2 x3 x4 : Int32}  (kt : (σ.1 63 4) ≤ x4 → z_J Γ zm_Model_low 74 [some (.inr (63)), none, some (.inl (x2)), some (.inl (x3)), none, none] [] σ) (kf : ¬ (σ.1 63 4) ≤ x4 → z_J Γ zm_Model_low 33 [some (.inr (63)), some (.inl (x1)), some (.inl (x2)), some (.inl (x3)), some (.inl (x4)), none] [] σ) : z_J Γ zm_Model_low 24 [some (.inr (63)), some (.inl (x1)), some (.inl (x2)), some (.inl (x3)), some (.inl (x4)), none] [] σ := by
  refine zj_iload zd_Model_low_24 rfl ?_
  refine zj_aload_n zd_Model_low_26 rfl ?_
  refine zj_getI rfl (by decide) rfl zu_Model (k := 4) (by decide) rfl zl_Model_19 zd_Model_low_27 ?_
  exact zj_icmp_ge zd_Model_low_30 (by decide) (fun h => (zj_weak (L' := [some (.inr (63)), none, some (.inl (x2)), some (.inl (x3)), none, none]) ⟨rfl, ⟨rfl, ⟨rfl, trivial⟩⟩⟩ (kt h))) (fun h => (kf h))
theorem zb_Model_low_33 {Γ : zG} {σ : zS} {x1 x2 x3 x4 : Int32} {dc : Nat} {P : Int32 → zS → Prop}  (hm : z_Ci dc zm_Model_heightOf [.inr (63), .inr (64), .inl (x4)] σ P) (hdp : dc < z_dep Γ) (k : ∀ r σ1, P r σ1 → z_J Γ zm_Model_low 43 [some (.inr (63)), some (.inl (x1)), some (.inl (x2)), some (.inl (x3)), some (.inl (x4)), none] [.inl (r)] σ1) : z_J Γ zm_Model_low 33 [some (.inr (63)), some (.inl (x1)), some (.inl (x2)), some (.inl (x3)), some (.inl (x4)), none] [] σ := by
  refine zj_aload_n zd_Model_low_33 rfl ?_
  refine zj_aload_n zd_Model_low_34 rfl ?_
  refine zj_getR rfl (by decide) rfl zu_Model (k := 0) (by decide) rfl zl_Model_9 zd_Model_low_35 (o' := 64) rfl ?_
  refine zj_iload zd_Model_low_38 rfl ?_
  exact zj_callVi (As := [.inr (64), .inl (x4)]) hm hdp rfl (by decide) rfl zl_Model_255 zq_Model_heightOf zd_Model_low_40 rfl (Nat.le_of_ble_eq_true rfl) (fun r σ1 h => (k r σ1 h))
theorem zb_Model_low_43 {Γ : zG} {σ : zS} {x1 x2 x3 x4 y0 : Int32}  (kt : y0 < x1 → z_J Γ zm_Model_low 54 [some (.inr (63)), some (.inl (x1)), some (.inl (x2)), some (.inl (x3)), some (.inl (x4)), some (.inl (y0))] [] σ) (kf : ¬ y0 < x1 → z_J Γ zm_Model_low 51 [some (.inr (63)), some (.inl (x1)), some (.inl (x2)), some (.inl (x3)), some (.inl (x4)), none] [] σ) : z_J Γ zm_Model_low 43 [some (.inr (63)), some (.inl (x1)), some (.inl (x2)), some (.inl (x3)), some (.inl (x4)), none] [.inl (y0)] σ := by
  refine zj_istore (L' := [some (.inr (63)), some (.inl (x1)), some (.inl (x2)), some (.inl (x3)), some (.inl (x4)), some (.inl (y0))]) zd_Model_low_43 (by decide) rfl ?_
  refine zj_iload zd_Model_low_45 rfl ?_
  refine zj_iload_n zd_Model_low_47 rfl ?_
  exact zj_icmp_lt zd_Model_low_48 (by decide) (fun h => (kt h)) (fun h => (zj_weak (L' := [some (.inr (63)), some (.inl (x1)), some (.inl (x2)), some (.inl (x3)), some (.inl (x4)), none]) ⟨rfl, ⟨rfl, ⟨rfl, ⟨rfl, ⟨rfl, trivial⟩⟩⟩⟩⟩ (kf h)))
theorem zb_Model_low_51 {Γ : zG} {σ : zS} {x1 x2 x3 x4 : Int32}  (k : z_J Γ zm_Model_low 68 [some (.inr (63)), some (.inl (x1)), some (.inl (x2)), some (.inl (x3)), some (.inl (x4)), none] [] σ) : z_J Γ zm_Model_low 51 [some (.inr (63)), some (.inl (x1)), some (.inl (x2)), some (.inl (x3)), some (.inl (x4)), none] [] σ := by
  exact zj_goto zd_Model_low_51 (by decide) k
theorem zb_Model_low_54 {Γ : zG} {σ : zS} {x1 x2 x3 x4 x5 : Int32}  (k : z_J Γ zm_Model_low 68 [some (.inr (63)), some (.inl (x1)), some (.inl (x2 ||| ((nI 1) <<< (x4 &&& 31)))), some (.inl (x3 + (x1 - x5))), some (.inl (x4)), none] [] σ) : z_J Γ zm_Model_low 54 [some (.inr (63)), some (.inl (x1)), some (.inl (x2)), some (.inl (x3)), some (.inl (x4)), some (.inl (x5))] [] σ := by
  refine zj_iload_n zd_Model_low_54 rfl ?_
  refine zj_iconst (v := nI 1) zd_Model_low_55 (by decide) ?_
  refine zj_iload zd_Model_low_56 rfl ?_
  refine zj_ishl zd_Model_low_58 ?_
  refine zj_ior zd_Model_low_59 ?_
  refine zj_istore_n (L' := [some (.inr (63)), some (.inl (x1)), some (.inl (x2 ||| ((nI 1) <<< (x4 &&& 31)))), some (.inl (x3)), some (.inl (x4)), some (.inl (x5))]) zd_Model_low_60 (by decide) rfl ?_
  refine zj_iload_n zd_Model_low_61 rfl ?_
  refine zj_iload_n zd_Model_low_62 rfl ?_
  refine zj_iload zd_Model_low_63 rfl ?_
  refine zj_isub zd_Model_low_65 ?_
  refine zj_iadd zd_Model_low_66 ?_
  refine zj_istore_n (L' := [some (.inr (63)), some (.inl (x1)), some (.inl (x2 ||| ((nI 1) <<< (x4 &&& 31)))), some (.inl (x3 + (x1 - x5))), some (.inl (x4)), some (.inl (x5))]) zd_Model_low_67 (by decide) rfl ?_
  exact (zj_weak (L' := [some (.inr (63)), some (.inl (x1)), some (.inl (x2 ||| ((nI 1) <<< (x4 &&& 31)))), some (.inl (x3 + (x1 - x5))), some (.inl (x4)), none]) ⟨rfl, ⟨rfl, ⟨rfl, ⟨rfl, ⟨rfl, trivial⟩⟩⟩⟩⟩ k)
theorem zb_Model_low_68 {Γ : zG} {σ : zS} {x1 x2 x3 x4 : Int32}  (k : z_J Γ zm_Model_low 24 [some (.inr (63)), some (.inl (x1)), some (.inl (x2)), some (.inl (x3)), some (.inl (x4 + nI 1)), none] [] σ) : z_J Γ zm_Model_low 68 [some (.inr (63)), some (.inl (x1)), some (.inl (x2)), some (.inl (x3)), some (.inl (x4)), none] [] σ := by
  refine zj_iinc (v := nI 1) (L' := [some (.inr (63)), some (.inl (x1)), some (.inl (x2)), some (.inl (x3)), some (.inl (x4 + nI 1)), none]) zd_Model_low_68 rfl (by decide) (by decide) rfl ?_
  exact zj_goto zd_Model_low_71 (by decide) k
theorem zb_Model_low_74 {Γ : zG} {σ : zS} {x2 x3 : Int32} {dc : Nat} {P : zS → Prop}  (hm : z_Cv dc zm_Model_tell [.inr (63), .inl (x3)] (z_pI σ 63 10 (nI 0)) P) (hdp : dc < z_dep Γ) (k : ∀ σ1, P σ1 → z_J Γ zm_Model_low 84 [some (.inr (63)), none, some (.inl (x2)), none, none, none] [] σ1) : z_J Γ zm_Model_low 74 [some (.inr (63)), none, some (.inl (x2)), some (.inl (x3)), none, none] [] σ := by
  refine zj_aload_n zd_Model_low_74 rfl ?_
  refine zj_iconst (v := nI 0) zd_Model_low_75 (by decide) ?_
  refine zj_putI rfl (by decide) rfl zu_Model zy_Model_ok zn_Model (k := 10) (by decide) rfl rfl zl_Model_94 rfl rfl zd_Model_low_76 ?_
  refine zj_aload_n zd_Model_low_79 rfl ?_
  refine zj_iload_n zd_Model_low_80 rfl ?_
  exact zj_callVv (As := [.inl (x3)]) hm hdp rfl (by decide) rfl zl_Model_312 zq_Model_tell zd_Model_low_81 rfl (Nat.le_of_ble_eq_true rfl) (fun σ1 h => (zj_weak (L' := [some (.inr (63)), none, some (.inl (x2)), none, none, none]) ⟨rfl, ⟨rfl, trivial⟩⟩ (k σ1 h)))
theorem zb_Model_low_84 {Γ : zG} {σ : zS} {x2 : Int32} {dc : Nat} {P : Int32 → zS → Prop}  (hm : z_Ci dc zm_Model_leastHeight [.inr (63), .inr (64)] σ P) (hdp : dc < z_dep Γ) (k : ∀ r σ1, P r σ1 → z_J Γ zm_Model_low 93 [none, none, some (.inl (x2)), none, none, none] [.inl (r), .inr (63)] σ1) : z_J Γ zm_Model_low 84 [some (.inr (63)), none, some (.inl (x2)), none, none, none] [] σ := by
  refine zj_aload_n zd_Model_low_84 rfl ?_
  refine zj_aload_n zd_Model_low_85 rfl ?_
  refine zj_aload_n zd_Model_low_86 rfl ?_
  refine zj_getR rfl (by decide) rfl zu_Model (k := 0) (by decide) rfl zl_Model_9 zd_Model_low_87 (o' := 64) rfl ?_
  exact zj_callVi (As := [.inr (64)]) hm hdp rfl (by decide) rfl zl_Model_334 zq_Model_leastHeight zd_Model_low_90 rfl (Nat.le_of_ble_eq_true rfl) (fun r σ1 h => (zj_weak (L' := [none, none, some (.inl (x2)), none, none, none]) ⟨rfl, trivial⟩ (k r σ1 h)))
theorem zb_Model_low_93 {Γ : zG} {σ : zS} {x2 y0 : Int32} {dc : Nat} {P : zS → Prop}  (hm : z_Cv dc zm_Model_tell [.inr (63), .inl (y0)] σ P) (hdp : dc < z_dep Γ) (k : ∀ σ1, P σ1 → z_J Γ zm_Model_low 96 [none, none, some (.inl (x2)), none, none, none] [] σ1) : z_J Γ zm_Model_low 93 [none, none, some (.inl (x2)), none, none, none] [.inl (y0), .inr (63)] σ := by
  exact zj_callVv (As := [.inl (y0)]) hm hdp rfl (by decide) rfl zl_Model_312 zq_Model_tell zd_Model_low_93 rfl (Nat.le_of_ble_eq_true rfl) (fun σ1 h => (k σ1 h))
theorem zb_Model_low_96 {Γ : zG} {σ : zS} {x2 : Int32}  (e : z_end Γ (some (x2)) σ) : z_J Γ zm_Model_low 96 [none, none, some (.inl (x2)), none, none, none] [] σ := by
  refine zj_iload_n zd_Model_low_96 rfl ?_
  exact zj_ireturn rfl zd_Model_low_97 e
theorem zd_Model_leastHeight_0 : decode zm_Model_leastHeight.2.1 0 = .ok (.ldc 254, 2) := by decide +kernel
theorem zd_Model_leastHeight_2 : decode zm_Model_leastHeight.2.1 2 = .ok (.istore_n 2, 1) := by decide +kernel
theorem zd_Model_leastHeight_3 : decode zm_Model_leastHeight.2.1 3 = .ok (.iconst 0, 1) := by decide +kernel
theorem zd_Model_leastHeight_4 : decode zm_Model_leastHeight.2.1 4 = .ok (.istore_n 3, 1) := by decide +kernel
theorem zd_Model_leastHeight_5 : decode zm_Model_leastHeight.2.1 5 = .ok (.iload_n 3, 1) := by decide +kernel
theorem zd_Model_leastHeight_6 : decode zm_Model_leastHeight.2.1 6 = .ok (.aload_n 0, 1) := by decide +kernel
theorem zd_Model_leastHeight_7 : decode zm_Model_leastHeight.2.1 7 = .ok (.getfield 19, 3) := by decide +kernel
theorem zd_Model_leastHeight_10 : decode zm_Model_leastHeight.2.1 10 = .ok (.if_icmp .ge 20, 3) := by decide +kernel
theorem zd_Model_leastHeight_13 : decode zm_Model_leastHeight.2.1 13 = .ok (.iload_n 2, 1) := by decide +kernel
theorem zd_Model_leastHeight_14 : decode zm_Model_leastHeight.2.1 14 = .ok (.aload_n 0, 1) := by decide +kernel
theorem zd_Model_leastHeight_15 : decode zm_Model_leastHeight.2.1 15 = .ok (.aload_n 1, 1) := by decide +kernel
theorem zd_Model_leastHeight_16 : decode zm_Model_leastHeight.2.1 16 = .ok (.iload_n 3, 1) := by decide +kernel
theorem zd_Model_leastHeight_17 : decode zm_Model_leastHeight.2.1 17 = .ok (.invokevirtual 255, 3) := by decide +kernel
theorem zd_Model_leastHeight_20 : decode zm_Model_leastHeight.2.1 20 = .ok (.invokestatic 221, 3) := by decide +kernel
theorem zd_Model_leastHeight_23 : decode zm_Model_leastHeight.2.1 23 = .ok (.istore_n 2, 1) := by decide +kernel
theorem zd_Model_leastHeight_24 : decode zm_Model_leastHeight.2.1 24 = .ok (.iinc 3 1, 3) := by decide +kernel
theorem zd_Model_leastHeight_27 : decode zm_Model_leastHeight.2.1 27 = .ok (.goto (-22), 3) := by decide +kernel
theorem zd_Model_leastHeight_30 : decode zm_Model_leastHeight.2.1 30 = .ok (.iload_n 2, 1) := by decide +kernel
theorem zd_Model_leastHeight_31 : decode zm_Model_leastHeight.2.1 31 = .ok (.ireturn, 1) := by decide +kernel
theorem zb_Model_leastHeight_0 {Γ : zG} {σ : zS} {a1 : Nat} (h_a1 : z_kd a1 = (11, 53)) (k : z_J Γ zm_Model_leastHeight 5 [some (.inr (63)), some (.inr (a1)), some (.inl ((1000000 : Int32))), some (.inl (nI 0))] [] σ) : z_J Γ zm_Model_leastHeight 0 [some (.inr (63)), some (.inr (a1)), none, none] [] σ := by
  refine zj_ldc (v := 1000000) zl_Model_254 zd_Model_leastHeight_0 ?_
  refine zj_istore_n (L' := [some (.inr (63)), some (.inr (a1)), some (.inl ((1000000 : Int32))), none]) zd_Model_leastHeight_2 (by decide) rfl ?_
  refine zj_iconst (v := nI 0) zd_Model_leastHeight_3 (by decide) ?_
  refine zj_istore_n (L' := [some (.inr (63)), some (.inr (a1)), some (.inl ((1000000 : Int32))), some (.inl (nI 0))]) zd_Model_leastHeight_4 (by decide) rfl ?_
  exact k
theorem zb_Model_leastHeight_5 {Γ : zG} {σ : zS} {a1 : Nat} {x2 x3 : Int32} (h_a1 : z_kd a1 = (11, 53)) (kt : (σ.1 63 4) ≤ x3 → z_J Γ zm_Model_leastHeight 30 [none, none, some (.inl (x2)), none] [] σ) (kf : ¬ (σ.1 63 4) ≤ x3 → z_J Γ zm_Model_leastHeight 13 [some (.inr (63)), some (.inr (a1)), some (.inl (x2)), some (.inl (x3))] [] σ) : z_J Γ zm_Model_leastHeight 5 [some (.inr (63)), some (.inr (a1)), some (.inl (x2)), some (.inl (x3))] [] σ := by
  refine zj_iload_n zd_Model_leastHeight_5 rfl ?_
  refine zj_aload_n zd_Model_leastHeight_6 rfl ?_
  refine zj_getI rfl (by decide) rfl zu_Model (k := 4) (by decide) rfl zl_Model_19 zd_Model_leastHeight_7 ?_
  exact zj_icmp_ge zd_Model_leastHeight_10 (by decide) (fun h => (zj_weak (L' := [none, none, some (.inl (x2)), none]) ⟨rfl, trivial⟩ (kt h))) (fun h => (kf h))
theorem zb_Model_leastHeight_13 {Γ : zG} {σ : zS} {a1 : Nat} {x2 x3 : Int32} {dc : Nat} {P : Int32 → zS → Prop} (h_a1 : z_kd a1 = (11, 53)) (hm : z_Ci dc zm_Model_heightOf [.inr (63), .inr (a1), .inl (x3)] σ P) (hdp : dc < z_dep Γ) (k : ∀ r σ1, P r σ1 → z_J Γ zm_Model_leastHeight 20 [some (.inr (63)), some (.inr (a1)), none, some (.inl (x3))] [.inl (r), .inl (x2)] σ1) : z_J Γ zm_Model_leastHeight 13 [some (.inr (63)), some (.inr (a1)), some (.inl (x2)), some (.inl (x3))] [] σ := by
  refine zj_iload_n zd_Model_leastHeight_13 rfl ?_
  refine zj_aload_n zd_Model_leastHeight_14 rfl ?_
  refine zj_aload_n zd_Model_leastHeight_15 rfl ?_
  refine zj_iload_n zd_Model_leastHeight_16 rfl ?_
  exact zj_callVi (As := [.inr (a1), .inl (x3)]) hm hdp rfl (by decide) rfl zl_Model_255 zq_Model_heightOf zd_Model_leastHeight_17 rfl (Nat.le_of_ble_eq_true rfl) (fun r σ1 h => (zj_weak (L' := [some (.inr (63)), some (.inr (a1)), none, some (.inl (x3))]) ⟨rfl, ⟨rfl, ⟨rfl, trivial⟩⟩⟩ (k r σ1 h)))
theorem zb_Model_leastHeight_20 {Γ : zG} {σ : zS} {a1 : Nat} {x3 y0 y1 : Int32} (h_a1 : z_kd a1 = (11, 53)) (hdp : 0 < z_dep Γ) (k : z_J Γ zm_Model_leastHeight 5 [some (.inr (63)), some (.inr (a1)), some (.inl (z_min y1 y0)), some (.inl (x3 + nI 1))] [] σ) : z_J Γ zm_Model_leastHeight 20 [some (.inr (63)), some (.inr (a1)), none, some (.inl (x3))] [.inl (y0), .inl (y1)] σ := by
  refine zj_mmin zl_Model_221 zx_min_s zx_Math zx_min_c hdp (Nat.le_of_ble_eq_true rfl) zd_Model_leastHeight_20 ?_
  refine zj_istore_n (L' := [some (.inr (63)), some (.inr (a1)), some (.inl (z_min y1 y0)), some (.inl (x3))]) zd_Model_leastHeight_23 (by decide) rfl ?_
  refine zj_iinc (v := nI 1) (L' := [some (.inr (63)), some (.inr (a1)), some (.inl (z_min y1 y0)), some (.inl (x3 + nI 1))]) zd_Model_leastHeight_24 rfl (by decide) (by decide) rfl ?_
  exact zj_goto zd_Model_leastHeight_27 (by decide) k
theorem zb_Model_leastHeight_30 {Γ : zG} {σ : zS} {x2 : Int32}  (e : z_end Γ (some (x2)) σ) : z_J Γ zm_Model_leastHeight 30 [none, none, some (.inl (x2)), none] [] σ := by
  refine zj_iload_n zd_Model_leastHeight_30 rfl ?_
  exact zj_ireturn rfl zd_Model_leastHeight_31 e
theorem zd_Model_weakest_0 : decode zm_Model_weakest.2.1 0 = .ok (.aload_n 0, 1) := by decide +kernel
theorem zd_Model_weakest_1 : decode zm_Model_weakest.2.1 1 = .ok (.iconst 0, 1) := by decide +kernel
theorem zd_Model_weakest_2 : decode zm_Model_weakest.2.1 2 = .ok (.putfield 91, 3) := by decide +kernel
theorem zd_Model_weakest_5 : decode zm_Model_weakest.2.1 5 = .ok (.iconst (-1), 1) := by decide +kernel
theorem zd_Model_weakest_6 : decode zm_Model_weakest.2.1 6 = .ok (.istore_n 1, 1) := by decide +kernel
theorem zd_Model_weakest_7 : decode zm_Model_weakest.2.1 7 = .ok (.ldc 254, 2) := by decide +kernel
theorem zd_Model_weakest_9 : decode zm_Model_weakest.2.1 9 = .ok (.istore_n 2, 1) := by decide +kernel
theorem zd_Model_weakest_10 : decode zm_Model_weakest.2.1 10 = .ok (.iconst 0, 1) := by decide +kernel
theorem zd_Model_weakest_11 : decode zm_Model_weakest.2.1 11 = .ok (.istore_n 3, 1) := by decide +kernel
theorem zd_Model_weakest_12 : decode zm_Model_weakest.2.1 12 = .ok (.iload_n 3, 1) := by decide +kernel
theorem zd_Model_weakest_13 : decode zm_Model_weakest.2.1 13 = .ok (.aload_n 0, 1) := by decide +kernel
theorem zd_Model_weakest_14 : decode zm_Model_weakest.2.1 14 = .ok (.getfield 97, 3) := by decide +kernel
theorem zd_Model_weakest_17 : decode zm_Model_weakest.2.1 17 = .ok (.if_icmp .ge 60, 3) := by decide +kernel
theorem zd_Model_weakest_20 : decode zm_Model_weakest.2.1 20 = .ok (.aload_n 0, 1) := by decide +kernel
theorem zd_Model_weakest_21 : decode zm_Model_weakest.2.1 21 = .ok (.getfield 9, 3) := by decide +kernel
theorem zd_Model_weakest_24 : decode zm_Model_weakest.2.1 24 = .ok (.iload_n 3, 1) := by decide +kernel
theorem zd_Model_weakest_25 : decode zm_Model_weakest.2.1 25 = .ok (.iaload, 1) := by decide +kernel
theorem zd_Model_weakest_26 : decode zm_Model_weakest.2.1 26 = .ok (.iconst 1, 1) := by decide +kernel
theorem zd_Model_weakest_27 : decode zm_Model_weakest.2.1 27 = .ok (.if_icmp .eq 6, 3) := by decide +kernel
theorem zd_Model_weakest_30 : decode zm_Model_weakest.2.1 30 = .ok (.goto 41, 3) := by decide +kernel
theorem zd_Model_weakest_33 : decode zm_Model_weakest.2.1 33 = .ok (.aload_n 0, 1) := by decide +kernel
theorem zd_Model_weakest_34 : decode zm_Model_weakest.2.1 34 = .ok (.getfield 9, 3) := by decide +kernel
theorem zd_Model_weakest_37 : decode zm_Model_weakest.2.1 37 = .ok (.iload_n 3, 1) := by decide +kernel
theorem zd_Model_weakest_38 : decode zm_Model_weakest.2.1 38 = .ok (.iconst 3, 1) := by decide +kernel
theorem zd_Model_weakest_39 : decode zm_Model_weakest.2.1 39 = .ok (.iastore, 1) := by decide +kernel
theorem zd_Model_weakest_40 : decode zm_Model_weakest.2.1 40 = .ok (.aload_n 0, 1) := by decide +kernel
theorem zd_Model_weakest_41 : decode zm_Model_weakest.2.1 41 = .ok (.aload_n 0, 1) := by decide +kernel
theorem zd_Model_weakest_42 : decode zm_Model_weakest.2.1 42 = .ok (.getfield 9, 3) := by decide +kernel
theorem zd_Model_weakest_45 : decode zm_Model_weakest.2.1 45 = .ok (.invokevirtual 334, 3) := by decide +kernel
theorem zd_Model_weakest_48 : decode zm_Model_weakest.2.1 48 = .ok (.istore 4, 2) := by decide +kernel
theorem zd_Model_weakest_50 : decode zm_Model_weakest.2.1 50 = .ok (.aload_n 0, 1) := by decide +kernel
theorem zd_Model_weakest_51 : decode zm_Model_weakest.2.1 51 = .ok (.getfield 9, 3) := by decide +kernel
theorem zd_Model_weakest_54 : decode zm_Model_weakest.2.1 54 = .ok (.iload_n 3, 1) := by decide +kernel
theorem zd_Model_weakest_55 : decode zm_Model_weakest.2.1 55 = .ok (.iconst 1, 1) := by decide +kernel
theorem zd_Model_weakest_56 : decode zm_Model_weakest.2.1 56 = .ok (.iastore, 1) := by decide +kernel
theorem zd_Model_weakest_57 : decode zm_Model_weakest.2.1 57 = .ok (.iload 4, 2) := by decide +kernel
theorem zd_Model_weakest_59 : decode zm_Model_weakest.2.1 59 = .ok (.iload_n 2, 1) := by decide +kernel
theorem zd_Model_weakest_60 : decode zm_Model_weakest.2.1 60 = .ok (.if_icmp .lt 6, 3) := by decide +kernel
theorem zd_Model_weakest_63 : decode zm_Model_weakest.2.1 63 = .ok (.goto 8, 3) := by decide +kernel
theorem zd_Model_weakest_66 : decode zm_Model_weakest.2.1 66 = .ok (.iload_n 3, 1) := by decide +kernel
theorem zd_Model_weakest_67 : decode zm_Model_weakest.2.1 67 = .ok (.istore_n 1, 1) := by decide +kernel
theorem zd_Model_weakest_68 : decode zm_Model_weakest.2.1 68 = .ok (.iload 4, 2) := by decide +kernel
theorem zd_Model_weakest_70 : decode zm_Model_weakest.2.1 70 = .ok (.istore_n 2, 1) := by decide +kernel
theorem zd_Model_weakest_71 : decode zm_Model_weakest.2.1 71 = .ok (.iinc 3 1, 3) := by decide +kernel
theorem zd_Model_weakest_74 : decode zm_Model_weakest.2.1 74 = .ok (.goto (-62), 3) := by decide +kernel
theorem zd_Model_weakest_77 : decode zm_Model_weakest.2.1 77 = .ok (.iload_n 1, 1) := by decide +kernel
theorem zd_Model_weakest_78 : decode zm_Model_weakest.2.1 78 = .ok (.iconst (-1), 1) := by decide +kernel
theorem zd_Model_weakest_79 : decode zm_Model_weakest.2.1 79 = .ok (.if_icmp .ne 6, 3) := by decide +kernel
theorem zd_Model_weakest_82 : decode zm_Model_weakest.2.1 82 = .ok (.bipush (-2), 2) := by decide +kernel
theorem zd_Model_weakest_84 : decode zm_Model_weakest.2.1 84 = .ok (.ireturn, 1) := by decide +kernel
theorem zd_Model_weakest_85 : decode zm_Model_weakest.2.1 85 = .ok (.aload_n 0, 1) := by decide +kernel
theorem zd_Model_weakest_86 : decode zm_Model_weakest.2.1 86 = .ok (.iconst 0, 1) := by decide +kernel
theorem zd_Model_weakest_87 : decode zm_Model_weakest.2.1 87 = .ok (.putfield 94, 3) := by decide +kernel
theorem zd_Model_weakest_90 : decode zm_Model_weakest.2.1 90 = .ok (.aload_n 0, 1) := by decide +kernel
theorem zd_Model_weakest_91 : decode zm_Model_weakest.2.1 91 = .ok (.iload_n 2, 1) := by decide +kernel
theorem zd_Model_weakest_92 : decode zm_Model_weakest.2.1 92 = .ok (.invokevirtual 312, 3) := by decide +kernel
theorem zd_Model_weakest_95 : decode zm_Model_weakest.2.1 95 = .ok (.aload_n 0, 1) := by decide +kernel
theorem zd_Model_weakest_96 : decode zm_Model_weakest.2.1 96 = .ok (.aload_n 0, 1) := by decide +kernel
theorem zd_Model_weakest_97 : decode zm_Model_weakest.2.1 97 = .ok (.aload_n 0, 1) := by decide +kernel
theorem zd_Model_weakest_98 : decode zm_Model_weakest.2.1 98 = .ok (.getfield 9, 3) := by decide +kernel
theorem zd_Model_weakest_101 : decode zm_Model_weakest.2.1 101 = .ok (.invokevirtual 334, 3) := by decide +kernel
theorem zd_Model_weakest_104 : decode zm_Model_weakest.2.1 104 = .ok (.invokevirtual 312, 3) := by decide +kernel
theorem zd_Model_weakest_107 : decode zm_Model_weakest.2.1 107 = .ok (.iload_n 1, 1) := by decide +kernel
theorem zd_Model_weakest_108 : decode zm_Model_weakest.2.1 108 = .ok (.ireturn, 1) := by decide +kernel
theorem zb_Model_weakest_0 {Γ : zG} {σ : zS}  (k : z_J Γ zm_Model_weakest 12 [some (.inr (63)), some (.inl ((-1))), some (.inl ((1000000 : Int32))), some (.inl (nI 0)), none] [] (z_pI σ 63 11 (nI 0))) : z_J Γ zm_Model_weakest 0 [some (.inr (63)), none, none, none, none] [] σ := by
  refine zj_aload_n zd_Model_weakest_0 rfl ?_
  refine zj_iconst (v := nI 0) zd_Model_weakest_1 (by decide) ?_
  refine zj_putI rfl (by decide) rfl zu_Model zy_Model_ok zn_Model (k := 11) (by decide) rfl rfl zl_Model_91 rfl rfl zd_Model_weakest_2 ?_
  refine zj_iconst (v := (-1)) zd_Model_weakest_5 (by decide) ?_
  refine zj_istore_n (L' := [some (.inr (63)), some (.inl ((-1))), none, none, none]) zd_Model_weakest_6 (by decide) rfl ?_
  refine zj_ldc (v := 1000000) zl_Model_254 zd_Model_weakest_7 ?_
  refine zj_istore_n (L' := [some (.inr (63)), some (.inl ((-1))), some (.inl ((1000000 : Int32))), none, none]) zd_Model_weakest_9 (by decide) rfl ?_
  refine zj_iconst (v := nI 0) zd_Model_weakest_10 (by decide) ?_
  refine zj_istore_n (L' := [some (.inr (63)), some (.inl ((-1))), some (.inl ((1000000 : Int32))), some (.inl (nI 0)), none]) zd_Model_weakest_11 (by decide) rfl ?_
  exact k
theorem zb_Model_weakest_12 {Γ : zG} {σ : zS} {x1 x2 x3 : Int32}  (kt : (σ.1 63 1) ≤ x3 → z_J Γ zm_Model_weakest 77 [some (.inr (63)), some (.inl (x1)), some (.inl (x2)), none, none] [] σ) (kf : ¬ (σ.1 63 1) ≤ x3 → z_J Γ zm_Model_weakest 20 [some (.inr (63)), some (.inl (x1)), some (.inl (x2)), some (.inl (x3)), none] [] σ) : z_J Γ zm_Model_weakest 12 [some (.inr (63)), some (.inl (x1)), some (.inl (x2)), some (.inl (x3)), none] [] σ := by
  refine zj_iload_n zd_Model_weakest_12 rfl ?_
  refine zj_aload_n zd_Model_weakest_13 rfl ?_
  refine zj_getI rfl (by decide) rfl zu_Model (k := 1) (by decide) rfl zl_Model_97 zd_Model_weakest_14 ?_
  exact zj_icmp_ge zd_Model_weakest_17 (by decide) (fun h => (zj_weak (L' := [some (.inr (63)), some (.inl (x1)), some (.inl (x2)), none, none]) ⟨rfl, ⟨rfl, ⟨rfl, trivial⟩⟩⟩ (kt h))) (fun h => (kf h))
theorem zb_Model_weakest_20 {Γ : zG} {σ : zS} {x1 x2 x3 : Int32} {k1 : Nat}  (b1 : z_ix x3 53 k1) (kt : (σ.1 64 k1) = (nI 1) → z_J Γ zm_Model_weakest 33 [some (.inr (63)), some (.inl (x1)), some (.inl (x2)), some (.inl (x3)), none] [] σ) (kf : ¬ (σ.1 64 k1) = (nI 1) → z_J Γ zm_Model_weakest 30 [some (.inr (63)), some (.inl (x1)), some (.inl (x2)), some (.inl (x3)), none] [] σ) : z_J Γ zm_Model_weakest 20 [some (.inr (63)), some (.inl (x1)), some (.inl (x2)), some (.inl (x3)), none] [] σ := by
  refine zj_aload_n zd_Model_weakest_20 rfl ?_
  refine zj_getR rfl (by decide) rfl zu_Model (k := 0) (by decide) rfl zl_Model_9 zd_Model_weakest_21 (o' := 64) rfl ?_
  refine zj_iload_n zd_Model_weakest_24 rfl ?_
  refine zj_iaload rfl (by decide) b1 zd_Model_weakest_25 ?_
  refine zj_iconst (v := nI 1) zd_Model_weakest_26 (by decide) ?_
  exact zj_icmp_eq zd_Model_weakest_27 (by decide) (fun h => (kt h)) (fun h => (kf h))
theorem zb_Model_weakest_30 {Γ : zG} {σ : zS} {x1 x2 x3 : Int32}  (k : z_J Γ zm_Model_weakest 71 [some (.inr (63)), some (.inl (x1)), some (.inl (x2)), some (.inl (x3)), none] [] σ) : z_J Γ zm_Model_weakest 30 [some (.inr (63)), some (.inl (x1)), some (.inl (x2)), some (.inl (x3)), none] [] σ := by
  exact zj_goto zd_Model_weakest_30 (by decide) k
theorem zb_Model_weakest_33 {Γ : zG} {σ : zS} {x1 x2 x3 : Int32} {k1 : Nat} {dc : Nat} {P : Int32 → zS → Prop}  (b1 : z_ix x3 53 k1) (hm : z_Ci dc zm_Model_leastHeight [.inr (63), .inr (64)] (z_pI σ 64 k1 (nI 3)) P) (hdp : dc < z_dep Γ) (k : ∀ r σ1, P r σ1 → z_J Γ zm_Model_weakest 48 [some (.inr (63)), some (.inl (x1)), some (.inl (x2)), some (.inl (x3)), none] [.inl (r)] σ1) : z_J Γ zm_Model_weakest 33 [some (.inr (63)), some (.inl (x1)), some (.inl (x2)), some (.inl (x3)), none] [] σ := by
  refine zj_aload_n zd_Model_weakest_33 rfl ?_
  refine zj_getR rfl (by decide) rfl zu_Model (k := 0) (by decide) rfl zl_Model_9 zd_Model_weakest_34 (o' := 64) rfl ?_
  refine zj_iload_n zd_Model_weakest_37 rfl ?_
  refine zj_iconst (v := nI 3) zd_Model_weakest_38 (by decide) ?_
  refine zj_iastore rfl (by decide) b1 zd_Model_weakest_39 ?_
  refine zj_aload_n zd_Model_weakest_40 rfl ?_
  refine zj_aload_n zd_Model_weakest_41 rfl ?_
  refine zj_getR rfl (by decide) rfl zu_Model (k := 0) (by decide) rfl zl_Model_9 zd_Model_weakest_42 (o' := 64) rfl ?_
  exact zj_callVi (As := [.inr (64)]) hm hdp rfl (by decide) rfl zl_Model_334 zq_Model_leastHeight zd_Model_weakest_45 rfl (Nat.le_of_ble_eq_true rfl) (fun r σ1 h => (k r σ1 h))
theorem zb_Model_weakest_48 {Γ : zG} {σ : zS} {x1 x2 x3 y0 : Int32} {k1 : Nat}  (b1 : z_ix x3 53 k1) (kt : y0 < x2 → z_J Γ zm_Model_weakest 66 [some (.inr (63)), none, none, some (.inl (x3)), some (.inl (y0))] [] (z_pI σ 64 k1 (nI 1))) (kf : ¬ y0 < x2 → z_J Γ zm_Model_weakest 63 [some (.inr (63)), some (.inl (x1)), some (.inl (x2)), some (.inl (x3)), none] [] (z_pI σ 64 k1 (nI 1))) : z_J Γ zm_Model_weakest 48 [some (.inr (63)), some (.inl (x1)), some (.inl (x2)), some (.inl (x3)), none] [.inl (y0)] σ := by
  refine zj_istore (L' := [some (.inr (63)), some (.inl (x1)), some (.inl (x2)), some (.inl (x3)), some (.inl (y0))]) zd_Model_weakest_48 (by decide) rfl ?_
  refine zj_aload_n zd_Model_weakest_50 rfl ?_
  refine zj_getR rfl (by decide) rfl zu_Model (k := 0) (by decide) rfl zl_Model_9 zd_Model_weakest_51 (o' := 64) rfl ?_
  refine zj_iload_n zd_Model_weakest_54 rfl ?_
  refine zj_iconst (v := nI 1) zd_Model_weakest_55 (by decide) ?_
  refine zj_iastore rfl (by decide) b1 zd_Model_weakest_56 ?_
  refine zj_iload zd_Model_weakest_57 rfl ?_
  refine zj_iload_n zd_Model_weakest_59 rfl ?_
  exact zj_icmp_lt zd_Model_weakest_60 (by decide) (fun h => (zj_weak (L' := [some (.inr (63)), none, none, some (.inl (x3)), some (.inl (y0))]) ⟨rfl, ⟨rfl, ⟨rfl, trivial⟩⟩⟩ (kt h))) (fun h => (zj_weak (L' := [some (.inr (63)), some (.inl (x1)), some (.inl (x2)), some (.inl (x3)), none]) ⟨rfl, ⟨rfl, ⟨rfl, ⟨rfl, trivial⟩⟩⟩⟩ (kf h)))
theorem zb_Model_weakest_63 {Γ : zG} {σ : zS} {x1 x2 x3 : Int32}  (k : z_J Γ zm_Model_weakest 71 [some (.inr (63)), some (.inl (x1)), some (.inl (x2)), some (.inl (x3)), none] [] σ) : z_J Γ zm_Model_weakest 63 [some (.inr (63)), some (.inl (x1)), some (.inl (x2)), some (.inl (x3)), none] [] σ := by
  exact zj_goto zd_Model_weakest_63 (by decide) k
theorem zb_Model_weakest_66 {Γ : zG} {σ : zS} {x3 x4 : Int32}  (k : z_J Γ zm_Model_weakest 71 [some (.inr (63)), some (.inl (x3)), some (.inl (x4)), some (.inl (x3)), none] [] σ) : z_J Γ zm_Model_weakest 66 [some (.inr (63)), none, none, some (.inl (x3)), some (.inl (x4))] [] σ := by
  refine zj_iload_n zd_Model_weakest_66 rfl ?_
  refine zj_istore_n (L' := [some (.inr (63)), some (.inl (x3)), none, some (.inl (x3)), some (.inl (x4))]) zd_Model_weakest_67 (by decide) rfl ?_
  refine zj_iload zd_Model_weakest_68 rfl ?_
  refine zj_istore_n (L' := [some (.inr (63)), some (.inl (x3)), some (.inl (x4)), some (.inl (x3)), some (.inl (x4))]) zd_Model_weakest_70 (by decide) rfl ?_
  exact (zj_weak (L' := [some (.inr (63)), some (.inl (x3)), some (.inl (x4)), some (.inl (x3)), none]) ⟨rfl, ⟨rfl, ⟨rfl, ⟨rfl, trivial⟩⟩⟩⟩ k)
theorem zb_Model_weakest_71 {Γ : zG} {σ : zS} {x1 x2 x3 : Int32}  (k : z_J Γ zm_Model_weakest 12 [some (.inr (63)), some (.inl (x1)), some (.inl (x2)), some (.inl (x3 + nI 1)), none] [] σ) : z_J Γ zm_Model_weakest 71 [some (.inr (63)), some (.inl (x1)), some (.inl (x2)), some (.inl (x3)), none] [] σ := by
  refine zj_iinc (v := nI 1) (L' := [some (.inr (63)), some (.inl (x1)), some (.inl (x2)), some (.inl (x3 + nI 1)), none]) zd_Model_weakest_71 rfl (by decide) (by decide) rfl ?_
  exact zj_goto zd_Model_weakest_74 (by decide) k
theorem zb_Model_weakest_77 {Γ : zG} {σ : zS} {x1 x2 : Int32}  (kt : ¬ x1 = (-1) → z_J Γ zm_Model_weakest 85 [some (.inr (63)), some (.inl (x1)), some (.inl (x2)), none, none] [] σ) (kf : x1 = (-1) → z_J Γ zm_Model_weakest 82 [none, none, none, none, none] [] σ) : z_J Γ zm_Model_weakest 77 [some (.inr (63)), some (.inl (x1)), some (.inl (x2)), none, none] [] σ := by
  refine zj_iload_n zd_Model_weakest_77 rfl ?_
  refine zj_iconst (v := (-1)) zd_Model_weakest_78 (by decide) ?_
  exact zj_icmp_ne zd_Model_weakest_79 (by decide) (fun h => (kt h)) (fun h => (zj_weak (L' := [none, none, none, none, none]) trivial (kf h)))
theorem zb_Model_weakest_82 {Γ : zG} {σ : zS}  (e : z_end Γ (some ((-2))) σ) : z_J Γ zm_Model_weakest 82 [none, none, none, none, none] [] σ := by
  refine zj_bipush (v := (-2)) zd_Model_weakest_82 (by decide) ?_
  exact zj_ireturn rfl zd_Model_weakest_84 e
theorem zb_Model_weakest_85 {Γ : zG} {σ : zS} {x1 x2 : Int32} {dc : Nat} {P : zS → Prop}  (hm : z_Cv dc zm_Model_tell [.inr (63), .inl (x2)] (z_pI σ 63 10 (nI 0)) P) (hdp : dc < z_dep Γ) (k : ∀ σ1, P σ1 → z_J Γ zm_Model_weakest 95 [some (.inr (63)), some (.inl (x1)), none, none, none] [] σ1) : z_J Γ zm_Model_weakest 85 [some (.inr (63)), some (.inl (x1)), some (.inl (x2)), none, none] [] σ := by
  refine zj_aload_n zd_Model_weakest_85 rfl ?_
  refine zj_iconst (v := nI 0) zd_Model_weakest_86 (by decide) ?_
  refine zj_putI rfl (by decide) rfl zu_Model zy_Model_ok zn_Model (k := 10) (by decide) rfl rfl zl_Model_94 rfl rfl zd_Model_weakest_87 ?_
  refine zj_aload_n zd_Model_weakest_90 rfl ?_
  refine zj_iload_n zd_Model_weakest_91 rfl ?_
  exact zj_callVv (As := [.inl (x2)]) hm hdp rfl (by decide) rfl zl_Model_312 zq_Model_tell zd_Model_weakest_92 rfl (Nat.le_of_ble_eq_true rfl) (fun σ1 h => (zj_weak (L' := [some (.inr (63)), some (.inl (x1)), none, none, none]) ⟨rfl, ⟨rfl, trivial⟩⟩ (k σ1 h)))
theorem zb_Model_weakest_95 {Γ : zG} {σ : zS} {x1 : Int32} {dc : Nat} {P : Int32 → zS → Prop}  (hm : z_Ci dc zm_Model_leastHeight [.inr (63), .inr (64)] σ P) (hdp : dc < z_dep Γ) (k : ∀ r σ1, P r σ1 → z_J Γ zm_Model_weakest 104 [none, some (.inl (x1)), none, none, none] [.inl (r), .inr (63)] σ1) : z_J Γ zm_Model_weakest 95 [some (.inr (63)), some (.inl (x1)), none, none, none] [] σ := by
  refine zj_aload_n zd_Model_weakest_95 rfl ?_
  refine zj_aload_n zd_Model_weakest_96 rfl ?_
  refine zj_aload_n zd_Model_weakest_97 rfl ?_
  refine zj_getR rfl (by decide) rfl zu_Model (k := 0) (by decide) rfl zl_Model_9 zd_Model_weakest_98 (o' := 64) rfl ?_
  exact zj_callVi (As := [.inr (64)]) hm hdp rfl (by decide) rfl zl_Model_334 zq_Model_leastHeight zd_Model_weakest_101 rfl (Nat.le_of_ble_eq_true rfl) (fun r σ1 h => (zj_weak (L' := [none, some (.inl (x1)), none, none, none]) ⟨rfl, trivial⟩ (k r σ1 h)))
theorem zb_Model_weakest_104 {Γ : zG} {σ : zS} {x1 y0 : Int32} {dc : Nat} {P : zS → Prop}  (hm : z_Cv dc zm_Model_tell [.inr (63), .inl (y0)] σ P) (hdp : dc < z_dep Γ) (k : ∀ σ1, P σ1 → z_J Γ zm_Model_weakest 107 [none, some (.inl (x1)), none, none, none] [] σ1) : z_J Γ zm_Model_weakest 104 [none, some (.inl (x1)), none, none, none] [.inl (y0), .inr (63)] σ := by
  exact zj_callVv (As := [.inl (y0)]) hm hdp rfl (by decide) rfl zl_Model_312 zq_Model_tell zd_Model_weakest_104 rfl (Nat.le_of_ble_eq_true rfl) (fun σ1 h => (k σ1 h))
theorem zb_Model_weakest_107 {Γ : zG} {σ : zS} {x1 : Int32}  (e : z_end Γ (some (x1)) σ) : z_J Γ zm_Model_weakest 107 [none, some (.inl (x1)), none, none, none] [] σ := by
  refine zj_iload_n zd_Model_weakest_107 rfl ?_
  exact zj_ireturn rfl zd_Model_weakest_108 e
theorem zd_Model_room_0 : decode zm_Model_room.2.1 0 = .ok (.aload_n 0, 1) := by decide +kernel
theorem zd_Model_room_1 : decode zm_Model_room.2.1 1 = .ok (.iconst 0, 1) := by decide +kernel
theorem zd_Model_room_2 : decode zm_Model_room.2.1 2 = .ok (.putfield 91, 3) := by decide +kernel
theorem zd_Model_room_5 : decode zm_Model_room.2.1 5 = .ok (.aload_n 0, 1) := by decide +kernel
theorem zd_Model_room_6 : decode zm_Model_room.2.1 6 = .ok (.iload_n 1, 1) := by decide +kernel
theorem zd_Model_room_7 : decode zm_Model_room.2.1 7 = .ok (.invokevirtual 266, 3) := by decide +kernel
theorem zd_Model_room_10 : decode zm_Model_room.2.1 10 = .ok (.ifCond .ne 5, 3) := by decide +kernel
theorem zd_Model_room_13 : decode zm_Model_room.2.1 13 = .ok (.iconst (-1), 1) := by decide +kernel
theorem zd_Model_room_14 : decode zm_Model_room.2.1 14 = .ok (.ireturn, 1) := by decide +kernel
theorem zd_Model_room_15 : decode zm_Model_room.2.1 15 = .ok (.aload_n 0, 1) := by decide +kernel
theorem zd_Model_room_16 : decode zm_Model_room.2.1 16 = .ok (.aload_n 0, 1) := by decide +kernel
theorem zd_Model_room_17 : decode zm_Model_room.2.1 17 = .ok (.getfield 9, 3) := by decide +kernel
theorem zd_Model_room_20 : decode zm_Model_room.2.1 20 = .ok (.iload_n 1, 1) := by decide +kernel
theorem zd_Model_room_21 : decode zm_Model_room.2.1 21 = .ok (.invokevirtual 177, 3) := by decide +kernel
theorem zd_Model_room_24 : decode zm_Model_room.2.1 24 = .ok (.ifCond .ne 6, 3) := by decide +kernel
theorem zd_Model_room_27 : decode zm_Model_room.2.1 27 = .ok (.bipush (-2), 2) := by decide +kernel
theorem zd_Model_room_29 : decode zm_Model_room.2.1 29 = .ok (.ireturn, 1) := by decide +kernel
theorem zd_Model_room_30 : decode zm_Model_room.2.1 30 = .ok (.aload_n 0, 1) := by decide +kernel
theorem zd_Model_room_31 : decode zm_Model_room.2.1 31 = .ok (.aload_n 0, 1) := by decide +kernel
theorem zd_Model_room_32 : decode zm_Model_room.2.1 32 = .ok (.getfield 9, 3) := by decide +kernel
theorem zd_Model_room_35 : decode zm_Model_room.2.1 35 = .ok (.iload_n 1, 1) := by decide +kernel
theorem zd_Model_room_36 : decode zm_Model_room.2.1 36 = .ok (.iconst 0, 1) := by decide +kernel
theorem zd_Model_room_37 : decode zm_Model_room.2.1 37 = .ok (.invokevirtual 236, 3) := by decide +kernel
theorem zd_Model_room_40 : decode zm_Model_room.2.1 40 = .ok (.istore_n 2, 1) := by decide +kernel
theorem zd_Model_room_41 : decode zm_Model_room.2.1 41 = .ok (.sipush 999, 3) := by decide +kernel
theorem zd_Model_room_44 : decode zm_Model_room.2.1 44 = .ok (.istore_n 3, 1) := by decide +kernel
theorem zd_Model_room_45 : decode zm_Model_room.2.1 45 = .ok (.iconst (-1), 1) := by decide +kernel
theorem zd_Model_room_46 : decode zm_Model_room.2.1 46 = .ok (.istore 4, 2) := by decide +kernel
theorem zd_Model_room_48 : decode zm_Model_room.2.1 48 = .ok (.iconst 0, 1) := by decide +kernel
theorem zd_Model_room_49 : decode zm_Model_room.2.1 49 = .ok (.istore 5, 2) := by decide +kernel
theorem zd_Model_room_51 : decode zm_Model_room.2.1 51 = .ok (.iload 5, 2) := by decide +kernel
theorem zd_Model_room_53 : decode zm_Model_room.2.1 53 = .ok (.iload_n 2, 1) := by decide +kernel
theorem zd_Model_room_54 : decode zm_Model_room.2.1 54 = .ok (.if_icmp .ge 62, 3) := by decide +kernel
theorem zd_Model_room_57 : decode zm_Model_room.2.1 57 = .ok (.aload_n 0, 1) := by decide +kernel
theorem zd_Model_room_58 : decode zm_Model_room.2.1 58 = .ok (.aload_n 0, 1) := by decide +kernel
theorem zd_Model_room_59 : decode zm_Model_room.2.1 59 = .ok (.getfield 51, 3) := by decide +kernel
theorem zd_Model_room_62 : decode zm_Model_room.2.1 62 = .ok (.iload 5, 2) := by decide +kernel
theorem zd_Model_room_64 : decode zm_Model_room.2.1 64 = .ok (.iaload, 1) := by decide +kernel
theorem zd_Model_room_65 : decode zm_Model_room.2.1 65 = .ok (.iload_n 1, 1) := by decide +kernel
theorem zd_Model_room_66 : decode zm_Model_room.2.1 66 = .ok (.iload 5, 2) := by decide +kernel
theorem zd_Model_room_68 : decode zm_Model_room.2.1 68 = .ok (.iload_n 2, 1) := by decide +kernel
theorem zd_Model_room_69 : decode zm_Model_room.2.1 69 = .ok (.aload_n 0, 1) := by decide +kernel
theorem zd_Model_room_70 : decode zm_Model_room.2.1 70 = .ok (.getfield 9, 3) := by decide +kernel
theorem zd_Model_room_73 : decode zm_Model_room.2.1 73 = .ok (.bipush 48, 2) := by decide +kernel
theorem zd_Model_room_75 : decode zm_Model_room.2.1 75 = .ok (.iaload, 1) := by decide +kernel
theorem zd_Model_room_76 : decode zm_Model_room.2.1 76 = .ok (.invokevirtual 232, 3) := by decide +kernel
theorem zd_Model_room_79 : decode zm_Model_room.2.1 79 = .ok (.aload_n 0, 1) := by decide +kernel
theorem zd_Model_room_80 : decode zm_Model_room.2.1 80 = .ok (.iload 5, 2) := by decide +kernel
theorem zd_Model_room_82 : decode zm_Model_room.2.1 82 = .ok (.iload_n 2, 1) := by decide +kernel
theorem zd_Model_room_83 : decode zm_Model_room.2.1 83 = .ok (.invokevirtual 229, 3) := by decide +kernel
theorem zd_Model_room_86 : decode zm_Model_room.2.1 86 = .ok (.isub, 1) := by decide +kernel
theorem zd_Model_room_87 : decode zm_Model_room.2.1 87 = .ok (.istore 6, 2) := by decide +kernel
theorem zd_Model_room_89 : decode zm_Model_room.2.1 89 = .ok (.iload 6, 2) := by decide +kernel
theorem zd_Model_room_91 : decode zm_Model_room.2.1 91 = .ok (.iload_n 3, 1) := by decide +kernel
theorem zd_Model_room_92 : decode zm_Model_room.2.1 92 = .ok (.if_icmp .le 6, 3) := by decide +kernel
theorem zd_Model_room_95 : decode zm_Model_room.2.1 95 = .ok (.goto 15, 3) := by decide +kernel
theorem zd_Model_room_98 : decode zm_Model_room.2.1 98 = .ok (.iload 6, 2) := by decide +kernel
theorem zd_Model_room_100 : decode zm_Model_room.2.1 100 = .ok (.istore_n 3, 1) := by decide +kernel
theorem zd_Model_room_101 : decode zm_Model_room.2.1 101 = .ok (.aload_n 0, 1) := by decide +kernel
theorem zd_Model_room_102 : decode zm_Model_room.2.1 102 = .ok (.getfield 51, 3) := by decide +kernel
theorem zd_Model_room_105 : decode zm_Model_room.2.1 105 = .ok (.iload 5, 2) := by decide +kernel
theorem zd_Model_room_107 : decode zm_Model_room.2.1 107 = .ok (.iaload, 1) := by decide +kernel
theorem zd_Model_room_108 : decode zm_Model_room.2.1 108 = .ok (.istore 4, 2) := by decide +kernel
theorem zd_Model_room_110 : decode zm_Model_room.2.1 110 = .ok (.iinc 5 1, 3) := by decide +kernel
theorem zd_Model_room_113 : decode zm_Model_room.2.1 113 = .ok (.goto (-62), 3) := by decide +kernel
theorem zd_Model_room_116 : decode zm_Model_room.2.1 116 = .ok (.aload_n 0, 1) := by decide +kernel
theorem zd_Model_room_117 : decode zm_Model_room.2.1 117 = .ok (.iconst 0, 1) := by decide +kernel
theorem zd_Model_room_118 : decode zm_Model_room.2.1 118 = .ok (.putfield 94, 3) := by decide +kernel
theorem zd_Model_room_121 : decode zm_Model_room.2.1 121 = .ok (.aload_n 0, 1) := by decide +kernel
theorem zd_Model_room_122 : decode zm_Model_room.2.1 122 = .ok (.iload 4, 2) := by decide +kernel
theorem zd_Model_room_124 : decode zm_Model_room.2.1 124 = .ok (.invokevirtual 312, 3) := by decide +kernel
theorem zd_Model_room_127 : decode zm_Model_room.2.1 127 = .ok (.iload_n 3, 1) := by decide +kernel
theorem zd_Model_room_128 : decode zm_Model_room.2.1 128 = .ok (.ireturn, 1) := by decide +kernel
theorem zb_Model_room_0 {Γ : zG} {σ : zS} {x1 : Int32} {dc : Nat} {P : Int32 → zS → Prop}  (hm : z_Ci dc zm_Model_isColumn [.inr (63), .inl (x1)] (z_pI σ 63 11 (nI 0)) P) (hdp : dc < z_dep Γ) (k : ∀ r σ1, P r σ1 → z_J Γ zm_Model_room 10 [some (.inr (63)), some (.inl (x1)), none, none, none, none, none] [.inl (r)] σ1) : z_J Γ zm_Model_room 0 [some (.inr (63)), some (.inl (x1)), none, none, none, none, none] [] σ := by
  refine zj_aload_n zd_Model_room_0 rfl ?_
  refine zj_iconst (v := nI 0) zd_Model_room_1 (by decide) ?_
  refine zj_putI rfl (by decide) rfl zu_Model zy_Model_ok zn_Model (k := 11) (by decide) rfl rfl zl_Model_91 rfl rfl zd_Model_room_2 ?_
  refine zj_aload_n zd_Model_room_5 rfl ?_
  refine zj_iload_n zd_Model_room_6 rfl ?_
  exact zj_callVi (As := [.inl (x1)]) hm hdp rfl (by decide) rfl zl_Model_266 zq_Model_isColumn zd_Model_room_7 rfl (Nat.le_of_ble_eq_true rfl) (fun r σ1 h => (k r σ1 h))
theorem zb_Model_room_10 {Γ : zG} {σ : zS} {x1 y0 : Int32}  (kt : ¬ y0 = 0 → z_J Γ zm_Model_room 15 [some (.inr (63)), some (.inl (x1)), none, none, none, none, none] [] σ) (kf : y0 = 0 → z_J Γ zm_Model_room 13 [none, none, none, none, none, none, none] [] σ) : z_J Γ zm_Model_room 10 [some (.inr (63)), some (.inl (x1)), none, none, none, none, none] [.inl (y0)] σ := by
  exact zj_if_ne zd_Model_room_10 (by decide) (fun h => (kt h)) (fun h => (zj_weak (L' := [none, none, none, none, none, none, none]) trivial (kf h)))
theorem zb_Model_room_13 {Γ : zG} {σ : zS}  (e : z_end Γ (some ((-1))) σ) : z_J Γ zm_Model_room 13 [none, none, none, none, none, none, none] [] σ := by
  refine zj_iconst (v := (-1)) zd_Model_room_13 (by decide) ?_
  exact zj_ireturn rfl zd_Model_room_14 e
theorem zb_Model_room_15 {Γ : zG} {σ : zS} {x1 : Int32} {dc : Nat} {P : Int32 → zS → Prop}  (hm : z_Ci dc zm_Model_isHeld [.inr (63), .inr (64), .inl (x1)] σ P) (hdp : dc < z_dep Γ) (k : ∀ r σ1, P r σ1 → z_J Γ zm_Model_room 24 [some (.inr (63)), some (.inl (x1)), none, none, none, none, none] [.inl (r)] σ1) : z_J Γ zm_Model_room 15 [some (.inr (63)), some (.inl (x1)), none, none, none, none, none] [] σ := by
  refine zj_aload_n zd_Model_room_15 rfl ?_
  refine zj_aload_n zd_Model_room_16 rfl ?_
  refine zj_getR rfl (by decide) rfl zu_Model (k := 0) (by decide) rfl zl_Model_9 zd_Model_room_17 (o' := 64) rfl ?_
  refine zj_iload_n zd_Model_room_20 rfl ?_
  exact zj_callVi (As := [.inr (64), .inl (x1)]) hm hdp rfl (by decide) rfl zl_Model_177 zq_Model_isHeld zd_Model_room_21 rfl (Nat.le_of_ble_eq_true rfl) (fun r σ1 h => (k r σ1 h))
theorem zb_Model_room_24 {Γ : zG} {σ : zS} {x1 y0 : Int32}  (kt : ¬ y0 = 0 → z_J Γ zm_Model_room 30 [some (.inr (63)), some (.inl (x1)), none, none, none, none, none] [] σ) (kf : y0 = 0 → z_J Γ zm_Model_room 27 [none, none, none, none, none, none, none] [] σ) : z_J Γ zm_Model_room 24 [some (.inr (63)), some (.inl (x1)), none, none, none, none, none] [.inl (y0)] σ := by
  exact zj_if_ne zd_Model_room_24 (by decide) (fun h => (kt h)) (fun h => (zj_weak (L' := [none, none, none, none, none, none, none]) trivial (kf h)))
theorem zb_Model_room_27 {Γ : zG} {σ : zS}  (e : z_end Γ (some ((-2))) σ) : z_J Γ zm_Model_room 27 [none, none, none, none, none, none, none] [] σ := by
  refine zj_bipush (v := (-2)) zd_Model_room_27 (by decide) ?_
  exact zj_ireturn rfl zd_Model_room_29 e
theorem zb_Model_room_30 {Γ : zG} {σ : zS} {x1 : Int32} {dc : Nat} {P : Int32 → zS → Prop}  (hm : z_Ci dc zm_Model_readPile [.inr (63), .inr (64), .inl (x1), .inl (nI 0)] σ P) (hdp : dc < z_dep Γ) (k : ∀ r σ1, P r σ1 → z_J Γ zm_Model_room 40 [some (.inr (63)), some (.inl (x1)), none, none, none, none, none] [.inl (r)] σ1) : z_J Γ zm_Model_room 30 [some (.inr (63)), some (.inl (x1)), none, none, none, none, none] [] σ := by
  refine zj_aload_n zd_Model_room_30 rfl ?_
  refine zj_aload_n zd_Model_room_31 rfl ?_
  refine zj_getR rfl (by decide) rfl zu_Model (k := 0) (by decide) rfl zl_Model_9 zd_Model_room_32 (o' := 64) rfl ?_
  refine zj_iload_n zd_Model_room_35 rfl ?_
  refine zj_iconst (v := nI 0) zd_Model_room_36 (by decide) ?_
  exact zj_callVi (As := [.inr (64), .inl (x1), .inl (nI 0)]) hm hdp rfl (by decide) rfl zl_Model_236 zq_Model_readPile zd_Model_room_37 rfl (Nat.le_of_ble_eq_true rfl) (fun r σ1 h => (k r σ1 h))
theorem zb_Model_room_40 {Γ : zG} {σ : zS} {x1 y0 : Int32}  (k : z_J Γ zm_Model_room 51 [some (.inr (63)), some (.inl (x1)), some (.inl (y0)), some (.inl (nI 999)), some (.inl ((-1))), some (.inl (nI 0)), none] [] σ) : z_J Γ zm_Model_room 40 [some (.inr (63)), some (.inl (x1)), none, none, none, none, none] [.inl (y0)] σ := by
  refine zj_istore_n (L' := [some (.inr (63)), some (.inl (x1)), some (.inl (y0)), none, none, none, none]) zd_Model_room_40 (by decide) rfl ?_
  refine zj_sipush (v := nI 999) zd_Model_room_41 (by decide) ?_
  refine zj_istore_n (L' := [some (.inr (63)), some (.inl (x1)), some (.inl (y0)), some (.inl (nI 999)), none, none, none]) zd_Model_room_44 (by decide) rfl ?_
  refine zj_iconst (v := (-1)) zd_Model_room_45 (by decide) ?_
  refine zj_istore (L' := [some (.inr (63)), some (.inl (x1)), some (.inl (y0)), some (.inl (nI 999)), some (.inl ((-1))), none, none]) zd_Model_room_46 (by decide) rfl ?_
  refine zj_iconst (v := nI 0) zd_Model_room_48 (by decide) ?_
  refine zj_istore (L' := [some (.inr (63)), some (.inl (x1)), some (.inl (y0)), some (.inl (nI 999)), some (.inl ((-1))), some (.inl (nI 0)), none]) zd_Model_room_49 (by decide) rfl ?_
  exact k
theorem zb_Model_room_51 {Γ : zG} {σ : zS} {x1 x2 x3 x4 x5 : Int32}  (kt : x2 ≤ x5 → z_J Γ zm_Model_room 116 [some (.inr (63)), none, none, some (.inl (x3)), some (.inl (x4)), none, none] [] σ) (kf : ¬ x2 ≤ x5 → z_J Γ zm_Model_room 57 [some (.inr (63)), some (.inl (x1)), some (.inl (x2)), some (.inl (x3)), some (.inl (x4)), some (.inl (x5)), none] [] σ) : z_J Γ zm_Model_room 51 [some (.inr (63)), some (.inl (x1)), some (.inl (x2)), some (.inl (x3)), some (.inl (x4)), some (.inl (x5)), none] [] σ := by
  refine zj_iload zd_Model_room_51 rfl ?_
  refine zj_iload_n zd_Model_room_53 rfl ?_
  exact zj_icmp_ge zd_Model_room_54 (by decide) (fun h => (zj_weak (L' := [some (.inr (63)), none, none, some (.inl (x3)), some (.inl (x4)), none, none]) ⟨rfl, ⟨rfl, ⟨rfl, trivial⟩⟩⟩ (kt h))) (fun h => (kf h))
theorem zb_Model_room_57 {Γ : zG} {σ : zS} {x1 x2 x3 x4 x5 : Int32} {k1 k2 : Nat} {dc : Nat} {P : Int32 → zS → Prop}  (b1 : z_ix x5 4 k1) (b2 : z_ix (nI 48) 53 k2) (hm : z_Ci dc zm_Model_bears [.inr (63), .inl (σ.1 75 k1), .inl (x1), .inl (x5), .inl (x2), .inl (σ.1 64 k2)] σ P) (hdp : dc < z_dep Γ) (k : ∀ r σ1, P r σ1 → z_J Γ zm_Model_room 79 [some (.inr (63)), some (.inl (x1)), some (.inl (x2)), some (.inl (x3)), some (.inl (x4)), some (.inl (x5)), none] [.inl (r)] σ1) : z_J Γ zm_Model_room 57 [some (.inr (63)), some (.inl (x1)), some (.inl (x2)), some (.inl (x3)), some (.inl (x4)), some (.inl (x5)), none] [] σ := by
  refine zj_aload_n zd_Model_room_57 rfl ?_
  refine zj_aload_n zd_Model_room_58 rfl ?_
  refine zj_getR rfl (by decide) rfl zu_Model (k := 25) (by decide) rfl zl_Model_51 zd_Model_room_59 (o' := 75) rfl ?_
  refine zj_iload zd_Model_room_62 rfl ?_
  refine zj_iaload rfl (by decide) b1 zd_Model_room_64 ?_
  refine zj_iload_n zd_Model_room_65 rfl ?_
  refine zj_iload zd_Model_room_66 rfl ?_
  refine zj_iload_n zd_Model_room_68 rfl ?_
  refine zj_aload_n zd_Model_room_69 rfl ?_
  refine zj_getR rfl (by decide) rfl zu_Model (k := 0) (by decide) rfl zl_Model_9 zd_Model_room_70 (o' := 64) rfl ?_
  refine zj_bipush (v := nI 48) zd_Model_room_73 (by decide) ?_
  refine zj_iaload rfl (by decide) b2 zd_Model_room_75 ?_
  exact zj_callVi (As := [.inl (σ.1 75 k1), .inl (x1), .inl (x5), .inl (x2), .inl (σ.1 64 k2)]) hm hdp rfl (by decide) rfl zl_Model_232 zq_Model_bears zd_Model_room_76 rfl (Nat.le_of_ble_eq_true rfl) (fun r σ1 h => (k r σ1 h))
theorem zb_Model_room_79 {Γ : zG} {σ : zS} {x1 x2 x3 x4 x5 y0 : Int32} {dc : Nat} {P : Int32 → zS → Prop}  (hm : z_Ci dc zm_Model_above [.inr (63), .inl (x5), .inl (x2)] σ P) (hdp : dc < z_dep Γ) (k : ∀ r σ1, P r σ1 → z_J Γ zm_Model_room 86 [some (.inr (63)), some (.inl (x1)), some (.inl (x2)), some (.inl (x3)), some (.inl (x4)), some (.inl (x5)), none] [.inl (r), .inl (y0)] σ1) : z_J Γ zm_Model_room 79 [some (.inr (63)), some (.inl (x1)), some (.inl (x2)), some (.inl (x3)), some (.inl (x4)), some (.inl (x5)), none] [.inl (y0)] σ := by
  refine zj_aload_n zd_Model_room_79 rfl ?_
  refine zj_iload zd_Model_room_80 rfl ?_
  refine zj_iload_n zd_Model_room_82 rfl ?_
  exact zj_callVi (As := [.inl (x5), .inl (x2)]) hm hdp rfl (by decide) rfl zl_Model_229 zq_Model_above zd_Model_room_83 rfl (Nat.le_of_ble_eq_true rfl) (fun r σ1 h => (k r σ1 h))
theorem zb_Model_room_86 {Γ : zG} {σ : zS} {x1 x2 x3 x4 x5 y0 y1 : Int32}  (kt : (y1 - y0) ≤ x3 → z_J Γ zm_Model_room 98 [some (.inr (63)), some (.inl (x1)), some (.inl (x2)), none, none, some (.inl (x5)), some (.inl (y1 - y0))] [] σ) (kf : ¬ (y1 - y0) ≤ x3 → z_J Γ zm_Model_room 95 [some (.inr (63)), some (.inl (x1)), some (.inl (x2)), some (.inl (x3)), some (.inl (x4)), some (.inl (x5)), none] [] σ) : z_J Γ zm_Model_room 86 [some (.inr (63)), some (.inl (x1)), some (.inl (x2)), some (.inl (x3)), some (.inl (x4)), some (.inl (x5)), none] [.inl (y0), .inl (y1)] σ := by
  refine zj_isub zd_Model_room_86 ?_
  refine zj_istore (L' := [some (.inr (63)), some (.inl (x1)), some (.inl (x2)), some (.inl (x3)), some (.inl (x4)), some (.inl (x5)), some (.inl (y1 - y0))]) zd_Model_room_87 (by decide) rfl ?_
  refine zj_iload zd_Model_room_89 rfl ?_
  refine zj_iload_n zd_Model_room_91 rfl ?_
  exact zj_icmp_le zd_Model_room_92 (by decide) (fun h => (zj_weak (L' := [some (.inr (63)), some (.inl (x1)), some (.inl (x2)), none, none, some (.inl (x5)), some (.inl (y1 - y0))]) ⟨rfl, ⟨rfl, ⟨rfl, ⟨rfl, ⟨rfl, trivial⟩⟩⟩⟩⟩ (kt h))) (fun h => (zj_weak (L' := [some (.inr (63)), some (.inl (x1)), some (.inl (x2)), some (.inl (x3)), some (.inl (x4)), some (.inl (x5)), none]) ⟨rfl, ⟨rfl, ⟨rfl, ⟨rfl, ⟨rfl, ⟨rfl, trivial⟩⟩⟩⟩⟩⟩ (kf h)))
theorem zb_Model_room_95 {Γ : zG} {σ : zS} {x1 x2 x3 x4 x5 : Int32}  (k : z_J Γ zm_Model_room 110 [some (.inr (63)), some (.inl (x1)), some (.inl (x2)), some (.inl (x3)), some (.inl (x4)), some (.inl (x5)), none] [] σ) : z_J Γ zm_Model_room 95 [some (.inr (63)), some (.inl (x1)), some (.inl (x2)), some (.inl (x3)), some (.inl (x4)), some (.inl (x5)), none] [] σ := by
  exact zj_goto zd_Model_room_95 (by decide) k
theorem zb_Model_room_98 {Γ : zG} {σ : zS} {x1 x2 x5 x6 : Int32} {k1 : Nat}  (b1 : z_ix x5 4 k1) (k : z_J Γ zm_Model_room 110 [some (.inr (63)), some (.inl (x1)), some (.inl (x2)), some (.inl (x6)), some (.inl (σ.1 75 k1)), some (.inl (x5)), none] [] σ) : z_J Γ zm_Model_room 98 [some (.inr (63)), some (.inl (x1)), some (.inl (x2)), none, none, some (.inl (x5)), some (.inl (x6))] [] σ := by
  refine zj_iload zd_Model_room_98 rfl ?_
  refine zj_istore_n (L' := [some (.inr (63)), some (.inl (x1)), some (.inl (x2)), some (.inl (x6)), none, some (.inl (x5)), some (.inl (x6))]) zd_Model_room_100 (by decide) rfl ?_
  refine zj_aload_n zd_Model_room_101 rfl ?_
  refine zj_getR rfl (by decide) rfl zu_Model (k := 25) (by decide) rfl zl_Model_51 zd_Model_room_102 (o' := 75) rfl ?_
  refine zj_iload zd_Model_room_105 rfl ?_
  refine zj_iaload rfl (by decide) b1 zd_Model_room_107 ?_
  refine zj_istore (L' := [some (.inr (63)), some (.inl (x1)), some (.inl (x2)), some (.inl (x6)), some (.inl (σ.1 75 k1)), some (.inl (x5)), some (.inl (x6))]) zd_Model_room_108 (by decide) rfl ?_
  exact (zj_weak (L' := [some (.inr (63)), some (.inl (x1)), some (.inl (x2)), some (.inl (x6)), some (.inl (σ.1 75 k1)), some (.inl (x5)), none]) ⟨rfl, ⟨rfl, ⟨rfl, ⟨rfl, ⟨rfl, ⟨rfl, trivial⟩⟩⟩⟩⟩⟩ k)
theorem zb_Model_room_110 {Γ : zG} {σ : zS} {x1 x2 x3 x4 x5 : Int32}  (k : z_J Γ zm_Model_room 51 [some (.inr (63)), some (.inl (x1)), some (.inl (x2)), some (.inl (x3)), some (.inl (x4)), some (.inl (x5 + nI 1)), none] [] σ) : z_J Γ zm_Model_room 110 [some (.inr (63)), some (.inl (x1)), some (.inl (x2)), some (.inl (x3)), some (.inl (x4)), some (.inl (x5)), none] [] σ := by
  refine zj_iinc (v := nI 1) (L' := [some (.inr (63)), some (.inl (x1)), some (.inl (x2)), some (.inl (x3)), some (.inl (x4)), some (.inl (x5 + nI 1)), none]) zd_Model_room_110 rfl (by decide) (by decide) rfl ?_
  exact zj_goto zd_Model_room_113 (by decide) k
theorem zb_Model_room_116 {Γ : zG} {σ : zS} {x3 x4 : Int32} {dc : Nat} {P : zS → Prop}  (hm : z_Cv dc zm_Model_tell [.inr (63), .inl (x4)] (z_pI σ 63 10 (nI 0)) P) (hdp : dc < z_dep Γ) (k : ∀ σ1, P σ1 → z_J Γ zm_Model_room 127 [none, none, none, some (.inl (x3)), none, none, none] [] σ1) : z_J Γ zm_Model_room 116 [some (.inr (63)), none, none, some (.inl (x3)), some (.inl (x4)), none, none] [] σ := by
  refine zj_aload_n zd_Model_room_116 rfl ?_
  refine zj_iconst (v := nI 0) zd_Model_room_117 (by decide) ?_
  refine zj_putI rfl (by decide) rfl zu_Model zy_Model_ok zn_Model (k := 10) (by decide) rfl rfl zl_Model_94 rfl rfl zd_Model_room_118 ?_
  refine zj_aload_n zd_Model_room_121 rfl ?_
  refine zj_iload zd_Model_room_122 rfl ?_
  exact zj_callVv (As := [.inl (x4)]) hm hdp rfl (by decide) rfl zl_Model_312 zq_Model_tell zd_Model_room_124 rfl (Nat.le_of_ble_eq_true rfl) (fun σ1 h => (zj_weak (L' := [none, none, none, some (.inl (x3)), none, none, none]) ⟨rfl, trivial⟩ (k σ1 h)))
theorem zb_Model_room_127 {Γ : zG} {σ : zS} {x3 : Int32}  (e : z_end Γ (some (x3)) σ) : z_J Γ zm_Model_room 127 [none, none, none, some (.inl (x3)), none, none, none] [] σ := by
  refine zj_iload_n zd_Model_room_127 rfl ?_
  exact zj_ireturn rfl zd_Model_room_128 e
theorem zd_Model_home_0 : decode zm_Model_home.2.1 0 = .ok (.aload_n 0, 1) := by decide +kernel
theorem zd_Model_home_1 : decode zm_Model_home.2.1 1 = .ok (.iconst 0, 1) := by decide +kernel
theorem zd_Model_home_2 : decode zm_Model_home.2.1 2 = .ok (.putfield 91, 3) := by decide +kernel
theorem zd_Model_home_5 : decode zm_Model_home.2.1 5 = .ok (.iconst (-1), 1) := by decide +kernel
theorem zd_Model_home_6 : decode zm_Model_home.2.1 6 = .ok (.istore_n 1, 1) := by decide +kernel
theorem zd_Model_home_7 : decode zm_Model_home.2.1 7 = .ok (.iconst 0, 1) := by decide +kernel
theorem zd_Model_home_8 : decode zm_Model_home.2.1 8 = .ok (.istore_n 2, 1) := by decide +kernel
theorem zd_Model_home_9 : decode zm_Model_home.2.1 9 = .ok (.iconst 0, 1) := by decide +kernel
theorem zd_Model_home_10 : decode zm_Model_home.2.1 10 = .ok (.istore_n 3, 1) := by decide +kernel
theorem zd_Model_home_11 : decode zm_Model_home.2.1 11 = .ok (.iload_n 3, 1) := by decide +kernel
theorem zd_Model_home_12 : decode zm_Model_home.2.1 12 = .ok (.aload_n 0, 1) := by decide +kernel
theorem zd_Model_home_13 : decode zm_Model_home.2.1 13 = .ok (.getfield 97, 3) := by decide +kernel
theorem zd_Model_home_16 : decode zm_Model_home.2.1 16 = .ok (.if_icmp .ge 70, 3) := by decide +kernel
theorem zd_Model_home_19 : decode zm_Model_home.2.1 19 = .ok (.aload_n 0, 1) := by decide +kernel
theorem zd_Model_home_20 : decode zm_Model_home.2.1 20 = .ok (.getfield 9, 3) := by decide +kernel
theorem zd_Model_home_23 : decode zm_Model_home.2.1 23 = .ok (.iload_n 3, 1) := by decide +kernel
theorem zd_Model_home_24 : decode zm_Model_home.2.1 24 = .ok (.iaload, 1) := by decide +kernel
theorem zd_Model_home_25 : decode zm_Model_home.2.1 25 = .ok (.iconst 2, 1) := by decide +kernel
theorem zd_Model_home_26 : decode zm_Model_home.2.1 26 = .ok (.if_icmp .eq 6, 3) := by decide +kernel
theorem zd_Model_home_29 : decode zm_Model_home.2.1 29 = .ok (.goto 51, 3) := by decide +kernel
theorem zd_Model_home_32 : decode zm_Model_home.2.1 32 = .ok (.aload_n 0, 1) := by decide +kernel
theorem zd_Model_home_33 : decode zm_Model_home.2.1 33 = .ok (.getfield 9, 3) := by decide +kernel
theorem zd_Model_home_36 : decode zm_Model_home.2.1 36 = .ok (.bipush 36, 2) := by decide +kernel
theorem zd_Model_home_38 : decode zm_Model_home.2.1 38 = .ok (.iload_n 3, 1) := by decide +kernel
theorem zd_Model_home_39 : decode zm_Model_home.2.1 39 = .ok (.iadd, 1) := by decide +kernel
theorem zd_Model_home_40 : decode zm_Model_home.2.1 40 = .ok (.iaload, 1) := by decide +kernel
theorem zd_Model_home_41 : decode zm_Model_home.2.1 41 = .ok (.aload_n 0, 1) := by decide +kernel
theorem zd_Model_home_42 : decode zm_Model_home.2.1 42 = .ok (.getfield 23, 3) := by decide +kernel
theorem zd_Model_home_45 : decode zm_Model_home.2.1 45 = .ok (.aload_n 0, 1) := by decide +kernel
theorem zd_Model_home_46 : decode zm_Model_home.2.1 46 = .ok (.getfield 9, 3) := by decide +kernel
theorem zd_Model_home_49 : decode zm_Model_home.2.1 49 = .ok (.bipush 12, 2) := by decide +kernel
theorem zd_Model_home_51 : decode zm_Model_home.2.1 51 = .ok (.iload_n 3, 1) := by decide +kernel
theorem zd_Model_home_52 : decode zm_Model_home.2.1 52 = .ok (.iadd, 1) := by decide +kernel
theorem zd_Model_home_53 : decode zm_Model_home.2.1 53 = .ok (.iaload, 1) := by decide +kernel
theorem zd_Model_home_54 : decode zm_Model_home.2.1 54 = .ok (.iaload, 1) := by decide +kernel
theorem zd_Model_home_55 : decode zm_Model_home.2.1 55 = .ok (.iadd, 1) := by decide +kernel
theorem zd_Model_home_56 : decode zm_Model_home.2.1 56 = .ok (.aload_n 0, 1) := by decide +kernel
theorem zd_Model_home_57 : decode zm_Model_home.2.1 57 = .ok (.getfield 9, 3) := by decide +kernel
theorem zd_Model_home_60 : decode zm_Model_home.2.1 60 = .ok (.bipush 48, 2) := by decide +kernel
theorem zd_Model_home_62 : decode zm_Model_home.2.1 62 = .ok (.iaload, 1) := by decide +kernel
theorem zd_Model_home_63 : decode zm_Model_home.2.1 63 = .ok (.isub, 1) := by decide +kernel
theorem zd_Model_home_64 : decode zm_Model_home.2.1 64 = .ok (.istore 4, 2) := by decide +kernel
theorem zd_Model_home_66 : decode zm_Model_home.2.1 66 = .ok (.iload 4, 2) := by decide +kernel
theorem zd_Model_home_68 : decode zm_Model_home.2.1 68 = .ok (.iload_n 2, 1) := by decide +kernel
theorem zd_Model_home_69 : decode zm_Model_home.2.1 69 = .ok (.if_icmp .ge 6, 3) := by decide +kernel
theorem zd_Model_home_72 : decode zm_Model_home.2.1 72 = .ok (.goto 8, 3) := by decide +kernel
theorem zd_Model_home_75 : decode zm_Model_home.2.1 75 = .ok (.iload 4, 2) := by decide +kernel
theorem zd_Model_home_77 : decode zm_Model_home.2.1 77 = .ok (.istore_n 2, 1) := by decide +kernel
theorem zd_Model_home_78 : decode zm_Model_home.2.1 78 = .ok (.iload_n 3, 1) := by decide +kernel
theorem zd_Model_home_79 : decode zm_Model_home.2.1 79 = .ok (.istore_n 1, 1) := by decide +kernel
theorem zd_Model_home_80 : decode zm_Model_home.2.1 80 = .ok (.iinc 3 1, 3) := by decide +kernel
theorem zd_Model_home_83 : decode zm_Model_home.2.1 83 = .ok (.goto (-72), 3) := by decide +kernel
theorem zd_Model_home_86 : decode zm_Model_home.2.1 86 = .ok (.aload_n 0, 1) := by decide +kernel
theorem zd_Model_home_87 : decode zm_Model_home.2.1 87 = .ok (.iconst 0, 1) := by decide +kernel
theorem zd_Model_home_88 : decode zm_Model_home.2.1 88 = .ok (.putfield 94, 3) := by decide +kernel
theorem zd_Model_home_91 : decode zm_Model_home.2.1 91 = .ok (.aload_n 0, 1) := by decide +kernel
theorem zd_Model_home_92 : decode zm_Model_home.2.1 92 = .ok (.iload_n 1, 1) := by decide +kernel
theorem zd_Model_home_93 : decode zm_Model_home.2.1 93 = .ok (.invokevirtual 312, 3) := by decide +kernel
theorem zd_Model_home_96 : decode zm_Model_home.2.1 96 = .ok (.iload_n 2, 1) := by decide +kernel
theorem zd_Model_home_97 : decode zm_Model_home.2.1 97 = .ok (.ireturn, 1) := by decide +kernel
theorem zb_Model_home_0 {Γ : zG} {σ : zS}  (k : z_J Γ zm_Model_home 11 [some (.inr (63)), some (.inl ((-1))), some (.inl (nI 0)), some (.inl (nI 0)), none] [] (z_pI σ 63 11 (nI 0))) : z_J Γ zm_Model_home 0 [some (.inr (63)), none, none, none, none] [] σ := by
  refine zj_aload_n zd_Model_home_0 rfl ?_
  refine zj_iconst (v := nI 0) zd_Model_home_1 (by decide) ?_
  refine zj_putI rfl (by decide) rfl zu_Model zy_Model_ok zn_Model (k := 11) (by decide) rfl rfl zl_Model_91 rfl rfl zd_Model_home_2 ?_
  refine zj_iconst (v := (-1)) zd_Model_home_5 (by decide) ?_
  refine zj_istore_n (L' := [some (.inr (63)), some (.inl ((-1))), none, none, none]) zd_Model_home_6 (by decide) rfl ?_
  refine zj_iconst (v := nI 0) zd_Model_home_7 (by decide) ?_
  refine zj_istore_n (L' := [some (.inr (63)), some (.inl ((-1))), some (.inl (nI 0)), none, none]) zd_Model_home_8 (by decide) rfl ?_
  refine zj_iconst (v := nI 0) zd_Model_home_9 (by decide) ?_
  refine zj_istore_n (L' := [some (.inr (63)), some (.inl ((-1))), some (.inl (nI 0)), some (.inl (nI 0)), none]) zd_Model_home_10 (by decide) rfl ?_
  exact k
theorem zb_Model_home_11 {Γ : zG} {σ : zS} {x1 x2 x3 : Int32}  (kt : (σ.1 63 1) ≤ x3 → z_J Γ zm_Model_home 86 [some (.inr (63)), some (.inl (x1)), some (.inl (x2)), none, none] [] σ) (kf : ¬ (σ.1 63 1) ≤ x3 → z_J Γ zm_Model_home 19 [some (.inr (63)), some (.inl (x1)), some (.inl (x2)), some (.inl (x3)), none] [] σ) : z_J Γ zm_Model_home 11 [some (.inr (63)), some (.inl (x1)), some (.inl (x2)), some (.inl (x3)), none] [] σ := by
  refine zj_iload_n zd_Model_home_11 rfl ?_
  refine zj_aload_n zd_Model_home_12 rfl ?_
  refine zj_getI rfl (by decide) rfl zu_Model (k := 1) (by decide) rfl zl_Model_97 zd_Model_home_13 ?_
  exact zj_icmp_ge zd_Model_home_16 (by decide) (fun h => (zj_weak (L' := [some (.inr (63)), some (.inl (x1)), some (.inl (x2)), none, none]) ⟨rfl, ⟨rfl, ⟨rfl, trivial⟩⟩⟩ (kt h))) (fun h => (kf h))
theorem zb_Model_home_19 {Γ : zG} {σ : zS} {x1 x2 x3 : Int32} {k1 : Nat}  (b1 : z_ix x3 53 k1) (kt : (σ.1 64 k1) = (nI 2) → z_J Γ zm_Model_home 32 [some (.inr (63)), some (.inl (x1)), some (.inl (x2)), some (.inl (x3)), none] [] σ) (kf : ¬ (σ.1 64 k1) = (nI 2) → z_J Γ zm_Model_home 29 [some (.inr (63)), some (.inl (x1)), some (.inl (x2)), some (.inl (x3)), none] [] σ) : z_J Γ zm_Model_home 19 [some (.inr (63)), some (.inl (x1)), some (.inl (x2)), some (.inl (x3)), none] [] σ := by
  refine zj_aload_n zd_Model_home_19 rfl ?_
  refine zj_getR rfl (by decide) rfl zu_Model (k := 0) (by decide) rfl zl_Model_9 zd_Model_home_20 (o' := 64) rfl ?_
  refine zj_iload_n zd_Model_home_23 rfl ?_
  refine zj_iaload rfl (by decide) b1 zd_Model_home_24 ?_
  refine zj_iconst (v := nI 2) zd_Model_home_25 (by decide) ?_
  exact zj_icmp_eq zd_Model_home_26 (by decide) (fun h => (kt h)) (fun h => (kf h))
theorem zb_Model_home_29 {Γ : zG} {σ : zS} {x1 x2 x3 : Int32}  (k : z_J Γ zm_Model_home 80 [some (.inr (63)), some (.inl (x1)), some (.inl (x2)), some (.inl (x3)), none] [] σ) : z_J Γ zm_Model_home 29 [some (.inr (63)), some (.inl (x1)), some (.inl (x2)), some (.inl (x3)), none] [] σ := by
  exact zj_goto zd_Model_home_29 (by decide) k
theorem zb_Model_home_32 {Γ : zG} {σ : zS} {x1 x2 x3 : Int32} {k1 k2 k3 k4 : Nat}  (b1 : z_ix ((nI 36) + x3) 53 k1) (b2 : z_ix ((nI 12) + x3) 53 k2) (b3 : z_ix (σ.1 64 k2) 4 k3) (b4 : z_ix (nI 48) 53 k4) (kt : x2 ≤ (((σ.1 64 k1) + (σ.1 67 k3)) - (σ.1 64 k4)) → z_J Γ zm_Model_home 75 [some (.inr (63)), none, none, some (.inl (x3)), some (.inl (((σ.1 64 k1) + (σ.1 67 k3)) - (σ.1 64 k4)))] [] σ) (kf : ¬ x2 ≤ (((σ.1 64 k1) + (σ.1 67 k3)) - (σ.1 64 k4)) → z_J Γ zm_Model_home 72 [some (.inr (63)), some (.inl (x1)), some (.inl (x2)), some (.inl (x3)), none] [] σ) : z_J Γ zm_Model_home 32 [some (.inr (63)), some (.inl (x1)), some (.inl (x2)), some (.inl (x3)), none] [] σ := by
  refine zj_aload_n zd_Model_home_32 rfl ?_
  refine zj_getR rfl (by decide) rfl zu_Model (k := 0) (by decide) rfl zl_Model_9 zd_Model_home_33 (o' := 64) rfl ?_
  refine zj_bipush (v := nI 36) zd_Model_home_36 (by decide) ?_
  refine zj_iload_n zd_Model_home_38 rfl ?_
  refine zj_iadd zd_Model_home_39 ?_
  refine zj_iaload rfl (by decide) b1 zd_Model_home_40 ?_
  refine zj_aload_n zd_Model_home_41 rfl ?_
  refine zj_getR rfl (by decide) rfl zu_Model (k := 6) (by decide) rfl zl_Model_23 zd_Model_home_42 (o' := 67) rfl ?_
  refine zj_aload_n zd_Model_home_45 rfl ?_
  refine zj_getR rfl (by decide) rfl zu_Model (k := 0) (by decide) rfl zl_Model_9 zd_Model_home_46 (o' := 64) rfl ?_
  refine zj_bipush (v := nI 12) zd_Model_home_49 (by decide) ?_
  refine zj_iload_n zd_Model_home_51 rfl ?_
  refine zj_iadd zd_Model_home_52 ?_
  refine zj_iaload rfl (by decide) b2 zd_Model_home_53 ?_
  refine zj_iaload rfl (by decide) b3 zd_Model_home_54 ?_
  refine zj_iadd zd_Model_home_55 ?_
  refine zj_aload_n zd_Model_home_56 rfl ?_
  refine zj_getR rfl (by decide) rfl zu_Model (k := 0) (by decide) rfl zl_Model_9 zd_Model_home_57 (o' := 64) rfl ?_
  refine zj_bipush (v := nI 48) zd_Model_home_60 (by decide) ?_
  refine zj_iaload rfl (by decide) b4 zd_Model_home_62 ?_
  refine zj_isub zd_Model_home_63 ?_
  refine zj_istore (L' := [some (.inr (63)), some (.inl (x1)), some (.inl (x2)), some (.inl (x3)), some (.inl (((σ.1 64 k1) + (σ.1 67 k3)) - (σ.1 64 k4)))]) zd_Model_home_64 (by decide) rfl ?_
  refine zj_iload zd_Model_home_66 rfl ?_
  refine zj_iload_n zd_Model_home_68 rfl ?_
  exact zj_icmp_ge zd_Model_home_69 (by decide) (fun h => (zj_weak (L' := [some (.inr (63)), none, none, some (.inl (x3)), some (.inl (((σ.1 64 k1) + (σ.1 67 k3)) - (σ.1 64 k4)))]) ⟨rfl, ⟨rfl, ⟨rfl, trivial⟩⟩⟩ (kt h))) (fun h => (zj_weak (L' := [some (.inr (63)), some (.inl (x1)), some (.inl (x2)), some (.inl (x3)), none]) ⟨rfl, ⟨rfl, ⟨rfl, ⟨rfl, trivial⟩⟩⟩⟩ (kf h)))
theorem zb_Model_home_72 {Γ : zG} {σ : zS} {x1 x2 x3 : Int32}  (k : z_J Γ zm_Model_home 80 [some (.inr (63)), some (.inl (x1)), some (.inl (x2)), some (.inl (x3)), none] [] σ) : z_J Γ zm_Model_home 72 [some (.inr (63)), some (.inl (x1)), some (.inl (x2)), some (.inl (x3)), none] [] σ := by
  exact zj_goto zd_Model_home_72 (by decide) k
theorem zb_Model_home_75 {Γ : zG} {σ : zS} {x3 x4 : Int32}  (k : z_J Γ zm_Model_home 80 [some (.inr (63)), some (.inl (x3)), some (.inl (x4)), some (.inl (x3)), none] [] σ) : z_J Γ zm_Model_home 75 [some (.inr (63)), none, none, some (.inl (x3)), some (.inl (x4))] [] σ := by
  refine zj_iload zd_Model_home_75 rfl ?_
  refine zj_istore_n (L' := [some (.inr (63)), none, some (.inl (x4)), some (.inl (x3)), some (.inl (x4))]) zd_Model_home_77 (by decide) rfl ?_
  refine zj_iload_n zd_Model_home_78 rfl ?_
  refine zj_istore_n (L' := [some (.inr (63)), some (.inl (x3)), some (.inl (x4)), some (.inl (x3)), some (.inl (x4))]) zd_Model_home_79 (by decide) rfl ?_
  exact (zj_weak (L' := [some (.inr (63)), some (.inl (x3)), some (.inl (x4)), some (.inl (x3)), none]) ⟨rfl, ⟨rfl, ⟨rfl, ⟨rfl, trivial⟩⟩⟩⟩ k)
theorem zb_Model_home_80 {Γ : zG} {σ : zS} {x1 x2 x3 : Int32}  (k : z_J Γ zm_Model_home 11 [some (.inr (63)), some (.inl (x1)), some (.inl (x2)), some (.inl (x3 + nI 1)), none] [] σ) : z_J Γ zm_Model_home 80 [some (.inr (63)), some (.inl (x1)), some (.inl (x2)), some (.inl (x3)), none] [] σ := by
  refine zj_iinc (v := nI 1) (L' := [some (.inr (63)), some (.inl (x1)), some (.inl (x2)), some (.inl (x3 + nI 1)), none]) zd_Model_home_80 rfl (by decide) (by decide) rfl ?_
  exact zj_goto zd_Model_home_83 (by decide) k
theorem zb_Model_home_86 {Γ : zG} {σ : zS} {x1 x2 : Int32} {dc : Nat} {P : zS → Prop}  (hm : z_Cv dc zm_Model_tell [.inr (63), .inl (x1)] (z_pI σ 63 10 (nI 0)) P) (hdp : dc < z_dep Γ) (k : ∀ σ1, P σ1 → z_J Γ zm_Model_home 96 [none, none, some (.inl (x2)), none, none] [] σ1) : z_J Γ zm_Model_home 86 [some (.inr (63)), some (.inl (x1)), some (.inl (x2)), none, none] [] σ := by
  refine zj_aload_n zd_Model_home_86 rfl ?_
  refine zj_iconst (v := nI 0) zd_Model_home_87 (by decide) ?_
  refine zj_putI rfl (by decide) rfl zu_Model zy_Model_ok zn_Model (k := 10) (by decide) rfl rfl zl_Model_94 rfl rfl zd_Model_home_88 ?_
  refine zj_aload_n zd_Model_home_91 rfl ?_
  refine zj_iload_n zd_Model_home_92 rfl ?_
  exact zj_callVv (As := [.inl (x1)]) hm hdp rfl (by decide) rfl zl_Model_312 zq_Model_tell zd_Model_home_93 rfl (Nat.le_of_ble_eq_true rfl) (fun σ1 h => (zj_weak (L' := [none, none, some (.inl (x2)), none, none]) ⟨rfl, trivial⟩ (k σ1 h)))
theorem zb_Model_home_96 {Γ : zG} {σ : zS} {x2 : Int32}  (e : z_end Γ (some (x2)) σ) : z_J Γ zm_Model_home 96 [none, none, some (.inl (x2)), none, none] [] σ := by
  refine zj_iload_n zd_Model_home_96 rfl ?_
  exact zj_ireturn rfl zd_Model_home_97 e
theorem zd_Model_spares_0 : decode zm_Model_spares.2.1 0 = .ok (.aload_n 0, 1) := by decide +kernel
theorem zd_Model_spares_1 : decode zm_Model_spares.2.1 1 = .ok (.iconst 0, 1) := by decide +kernel
theorem zd_Model_spares_2 : decode zm_Model_spares.2.1 2 = .ok (.putfield 91, 3) := by decide +kernel
theorem zd_Model_spares_5 : decode zm_Model_spares.2.1 5 = .ok (.iload_n 1, 1) := by decide +kernel
theorem zd_Model_spares_6 : decode zm_Model_spares.2.1 6 = .ok (.iconst 0, 1) := by decide +kernel
theorem zd_Model_spares_7 : decode zm_Model_spares.2.1 7 = .ok (.bipush 99, 2) := by decide +kernel
theorem zd_Model_spares_9 : decode zm_Model_spares.2.1 9 = .ok (.invokestatic 100, 3) := by decide +kernel
theorem zd_Model_spares_12 : decode zm_Model_spares.2.1 12 = .ok (.ifCond .ne 5, 3) := by decide +kernel
theorem zd_Model_spares_15 : decode zm_Model_spares.2.1 15 = .ok (.iconst (-1), 1) := by decide +kernel
theorem zd_Model_spares_16 : decode zm_Model_spares.2.1 16 = .ok (.ireturn, 1) := by decide +kernel
theorem zd_Model_spares_17 : decode zm_Model_spares.2.1 17 = .ok (.iconst 0, 1) := by decide +kernel
theorem zd_Model_spares_18 : decode zm_Model_spares.2.1 18 = .ok (.istore_n 2, 1) := by decide +kernel
theorem zd_Model_spares_19 : decode zm_Model_spares.2.1 19 = .ok (.iconst 0, 1) := by decide +kernel
theorem zd_Model_spares_20 : decode zm_Model_spares.2.1 20 = .ok (.istore_n 3, 1) := by decide +kernel
theorem zd_Model_spares_21 : decode zm_Model_spares.2.1 21 = .ok (.iload_n 3, 1) := by decide +kernel
theorem zd_Model_spares_22 : decode zm_Model_spares.2.1 22 = .ok (.aload_n 0, 1) := by decide +kernel
theorem zd_Model_spares_23 : decode zm_Model_spares.2.1 23 = .ok (.getfield 19, 3) := by decide +kernel
theorem zd_Model_spares_26 : decode zm_Model_spares.2.1 26 = .ok (.if_icmp .ge 18, 3) := by decide +kernel
theorem zd_Model_spares_29 : decode zm_Model_spares.2.1 29 = .ok (.iload_n 2, 1) := by decide +kernel
theorem zd_Model_spares_30 : decode zm_Model_spares.2.1 30 = .ok (.aload_n 0, 1) := by decide +kernel
theorem zd_Model_spares_31 : decode zm_Model_spares.2.1 31 = .ok (.iload_n 3, 1) := by decide +kernel
theorem zd_Model_spares_32 : decode zm_Model_spares.2.1 32 = .ok (.iload_n 1, 1) := by decide +kernel
theorem zd_Model_spares_33 : decode zm_Model_spares.2.1 33 = .ok (.invokevirtual 338, 3) := by decide +kernel
theorem zd_Model_spares_36 : decode zm_Model_spares.2.1 36 = .ok (.ior, 1) := by decide +kernel
theorem zd_Model_spares_37 : decode zm_Model_spares.2.1 37 = .ok (.istore_n 2, 1) := by decide +kernel
theorem zd_Model_spares_38 : decode zm_Model_spares.2.1 38 = .ok (.iinc 3 1, 3) := by decide +kernel
theorem zd_Model_spares_41 : decode zm_Model_spares.2.1 41 = .ok (.goto (-20), 3) := by decide +kernel
theorem zd_Model_spares_44 : decode zm_Model_spares.2.1 44 = .ok (.aload_n 0, 1) := by decide +kernel
theorem zd_Model_spares_45 : decode zm_Model_spares.2.1 45 = .ok (.iconst 0, 1) := by decide +kernel
theorem zd_Model_spares_46 : decode zm_Model_spares.2.1 46 = .ok (.putfield 94, 3) := by decide +kernel
theorem zd_Model_spares_49 : decode zm_Model_spares.2.1 49 = .ok (.aload_n 0, 1) := by decide +kernel
theorem zd_Model_spares_50 : decode zm_Model_spares.2.1 50 = .ok (.iload_n 2, 1) := by decide +kernel
theorem zd_Model_spares_51 : decode zm_Model_spares.2.1 51 = .ok (.invokevirtual 312, 3) := by decide +kernel
theorem zd_Model_spares_54 : decode zm_Model_spares.2.1 54 = .ok (.iload_n 2, 1) := by decide +kernel
theorem zd_Model_spares_55 : decode zm_Model_spares.2.1 55 = .ok (.invokestatic 261, 3) := by decide +kernel
theorem zd_Model_spares_58 : decode zm_Model_spares.2.1 58 = .ok (.ireturn, 1) := by decide +kernel
theorem zb_Model_spares_0 {Γ : zG} {σ : zS} {x1 : Int32} {dc : Nat} {P : Int32 → zS → Prop}  (hm : z_Ci dc zm_Model_in [.inl (x1), .inl (nI 0), .inl (nI 99)] (z_pI σ 63 11 (nI 0)) P) (hdp : dc < z_dep Γ) (k : ∀ r σ1, P r σ1 → z_J Γ zm_Model_spares 12 [some (.inr (63)), some (.inl (x1)), none, none] [.inl (r)] σ1) : z_J Γ zm_Model_spares 0 [some (.inr (63)), some (.inl (x1)), none, none] [] σ := by
  refine zj_aload_n zd_Model_spares_0 rfl ?_
  refine zj_iconst (v := nI 0) zd_Model_spares_1 (by decide) ?_
  refine zj_putI rfl (by decide) rfl zu_Model zy_Model_ok zn_Model (k := 11) (by decide) rfl rfl zl_Model_91 rfl rfl zd_Model_spares_2 ?_
  refine zj_iload_n zd_Model_spares_5 rfl ?_
  refine zj_iconst (v := nI 0) zd_Model_spares_6 (by decide) ?_
  refine zj_bipush (v := nI 99) zd_Model_spares_7 (by decide) ?_
  exact zj_callSi (As := [.inl (x1), .inl (nI 0), .inl (nI 99)]) hm hdp zl_Model_100 zq_Model_in zd_Model_spares_9 rfl (Nat.le_of_ble_eq_true rfl) (fun r σ1 h => (k r σ1 h))
theorem zb_Model_spares_12 {Γ : zG} {σ : zS} {x1 y0 : Int32}  (kt : ¬ y0 = 0 → z_J Γ zm_Model_spares 17 [some (.inr (63)), some (.inl (x1)), none, none] [] σ) (kf : y0 = 0 → z_J Γ zm_Model_spares 15 [none, none, none, none] [] σ) : z_J Γ zm_Model_spares 12 [some (.inr (63)), some (.inl (x1)), none, none] [.inl (y0)] σ := by
  exact zj_if_ne zd_Model_spares_12 (by decide) (fun h => (kt h)) (fun h => (zj_weak (L' := [none, none, none, none]) trivial (kf h)))
theorem zb_Model_spares_15 {Γ : zG} {σ : zS}  (e : z_end Γ (some ((-1))) σ) : z_J Γ zm_Model_spares 15 [none, none, none, none] [] σ := by
  refine zj_iconst (v := (-1)) zd_Model_spares_15 (by decide) ?_
  exact zj_ireturn rfl zd_Model_spares_16 e
theorem zb_Model_spares_17 {Γ : zG} {σ : zS} {x1 : Int32}  (k : z_J Γ zm_Model_spares 21 [some (.inr (63)), some (.inl (x1)), some (.inl (nI 0)), some (.inl (nI 0))] [] σ) : z_J Γ zm_Model_spares 17 [some (.inr (63)), some (.inl (x1)), none, none] [] σ := by
  refine zj_iconst (v := nI 0) zd_Model_spares_17 (by decide) ?_
  refine zj_istore_n (L' := [some (.inr (63)), some (.inl (x1)), some (.inl (nI 0)), none]) zd_Model_spares_18 (by decide) rfl ?_
  refine zj_iconst (v := nI 0) zd_Model_spares_19 (by decide) ?_
  refine zj_istore_n (L' := [some (.inr (63)), some (.inl (x1)), some (.inl (nI 0)), some (.inl (nI 0))]) zd_Model_spares_20 (by decide) rfl ?_
  exact k
theorem zb_Model_spares_21 {Γ : zG} {σ : zS} {x1 x2 x3 : Int32}  (kt : (σ.1 63 4) ≤ x3 → z_J Γ zm_Model_spares 44 [some (.inr (63)), none, some (.inl (x2)), none] [] σ) (kf : ¬ (σ.1 63 4) ≤ x3 → z_J Γ zm_Model_spares 29 [some (.inr (63)), some (.inl (x1)), some (.inl (x2)), some (.inl (x3))] [] σ) : z_J Γ zm_Model_spares 21 [some (.inr (63)), some (.inl (x1)), some (.inl (x2)), some (.inl (x3))] [] σ := by
  refine zj_iload_n zd_Model_spares_21 rfl ?_
  refine zj_aload_n zd_Model_spares_22 rfl ?_
  refine zj_getI rfl (by decide) rfl zu_Model (k := 4) (by decide) rfl zl_Model_19 zd_Model_spares_23 ?_
  exact zj_icmp_ge zd_Model_spares_26 (by decide) (fun h => (zj_weak (L' := [some (.inr (63)), none, some (.inl (x2)), none]) ⟨rfl, ⟨rfl, trivial⟩⟩ (kt h))) (fun h => (kf h))
theorem zb_Model_spares_29 {Γ : zG} {σ : zS} {x1 x2 x3 : Int32} {dc : Nat} {P : Int32 → zS → Prop}  (hm : z_Ci dc zm_Model_spareOf [.inr (63), .inl (x3), .inl (x1)] σ P) (hdp : dc < z_dep Γ) (k : ∀ r σ1, P r σ1 → z_J Γ zm_Model_spares 36 [some (.inr (63)), some (.inl (x1)), none, some (.inl (x3))] [.inl (r), .inl (x2)] σ1) : z_J Γ zm_Model_spares 29 [some (.inr (63)), some (.inl (x1)), some (.inl (x2)), some (.inl (x3))] [] σ := by
  refine zj_iload_n zd_Model_spares_29 rfl ?_
  refine zj_aload_n zd_Model_spares_30 rfl ?_
  refine zj_iload_n zd_Model_spares_31 rfl ?_
  refine zj_iload_n zd_Model_spares_32 rfl ?_
  exact zj_callVi (As := [.inl (x3), .inl (x1)]) hm hdp rfl (by decide) rfl zl_Model_338 zq_Model_spareOf zd_Model_spares_33 rfl (Nat.le_of_ble_eq_true rfl) (fun r σ1 h => (zj_weak (L' := [some (.inr (63)), some (.inl (x1)), none, some (.inl (x3))]) ⟨rfl, ⟨rfl, ⟨rfl, trivial⟩⟩⟩ (k r σ1 h)))
theorem zb_Model_spares_36 {Γ : zG} {σ : zS} {x1 x3 y0 y1 : Int32}  (k : z_J Γ zm_Model_spares 21 [some (.inr (63)), some (.inl (x1)), some (.inl (y1 ||| y0)), some (.inl (x3 + nI 1))] [] σ) : z_J Γ zm_Model_spares 36 [some (.inr (63)), some (.inl (x1)), none, some (.inl (x3))] [.inl (y0), .inl (y1)] σ := by
  refine zj_ior zd_Model_spares_36 ?_
  refine zj_istore_n (L' := [some (.inr (63)), some (.inl (x1)), some (.inl (y1 ||| y0)), some (.inl (x3))]) zd_Model_spares_37 (by decide) rfl ?_
  refine zj_iinc (v := nI 1) (L' := [some (.inr (63)), some (.inl (x1)), some (.inl (y1 ||| y0)), some (.inl (x3 + nI 1))]) zd_Model_spares_38 rfl (by decide) (by decide) rfl ?_
  exact zj_goto zd_Model_spares_41 (by decide) k
theorem zb_Model_spares_44 {Γ : zG} {σ : zS} {x2 : Int32} {dc : Nat} {P : zS → Prop}  (hm : z_Cv dc zm_Model_tell [.inr (63), .inl (x2)] (z_pI σ 63 10 (nI 0)) P) (hdp : dc < z_dep Γ) (k : ∀ σ1, P σ1 → z_J Γ zm_Model_spares 54 [none, none, some (.inl (x2)), none] [] σ1) : z_J Γ zm_Model_spares 44 [some (.inr (63)), none, some (.inl (x2)), none] [] σ := by
  refine zj_aload_n zd_Model_spares_44 rfl ?_
  refine zj_iconst (v := nI 0) zd_Model_spares_45 (by decide) ?_
  refine zj_putI rfl (by decide) rfl zu_Model zy_Model_ok zn_Model (k := 10) (by decide) rfl rfl zl_Model_94 rfl rfl zd_Model_spares_46 ?_
  refine zj_aload_n zd_Model_spares_49 rfl ?_
  refine zj_iload_n zd_Model_spares_50 rfl ?_
  exact zj_callVv (As := [.inl (x2)]) hm hdp rfl (by decide) rfl zl_Model_312 zq_Model_tell zd_Model_spares_51 rfl (Nat.le_of_ble_eq_true rfl) (fun σ1 h => (zj_weak (L' := [none, none, some (.inl (x2)), none]) ⟨rfl, trivial⟩ (k σ1 h)))
theorem zb_Model_spares_54 {Γ : zG} {σ : zS} {x2 : Int32} (hdp : 0 < z_dep Γ) (e : z_end Γ (some (z_bc x2)) σ) : z_J Γ zm_Model_spares 54 [none, none, some (.inl (x2)), none] [] σ := by
  refine zj_iload_n zd_Model_spares_54 rfl ?_
  refine zj_bitc zl_Model_261 hdp (Nat.le_of_ble_eq_true rfl) zd_Model_spares_55 ?_
  exact zj_ireturn rfl zd_Model_spares_58 e
theorem zd_Model_spareOf_0 : decode zm_Model_spareOf.2.1 0 = .ok (.aload_n 0, 1) := by decide +kernel
theorem zd_Model_spareOf_1 : decode zm_Model_spareOf.2.1 1 = .ok (.aload_n 0, 1) := by decide +kernel
theorem zd_Model_spareOf_2 : decode zm_Model_spareOf.2.1 2 = .ok (.getfield 9, 3) := by decide +kernel
theorem zd_Model_spareOf_5 : decode zm_Model_spareOf.2.1 5 = .ok (.iload_n 1, 1) := by decide +kernel
theorem zd_Model_spareOf_6 : decode zm_Model_spareOf.2.1 6 = .ok (.invokevirtual 247, 3) := by decide +kernel
theorem zd_Model_spareOf_9 : decode zm_Model_spareOf.2.1 9 = .ok (.istore_n 3, 1) := by decide +kernel
theorem zd_Model_spareOf_10 : decode zm_Model_spareOf.2.1 10 = .ok (.aload_n 0, 1) := by decide +kernel
theorem zd_Model_spareOf_11 : decode zm_Model_spareOf.2.1 11 = .ok (.aload_n 0, 1) := by decide +kernel
theorem zd_Model_spareOf_12 : decode zm_Model_spareOf.2.1 12 = .ok (.getfield 9, 3) := by decide +kernel
theorem zd_Model_spareOf_15 : decode zm_Model_spareOf.2.1 15 = .ok (.iload_n 1, 1) := by decide +kernel
theorem zd_Model_spareOf_16 : decode zm_Model_spareOf.2.1 16 = .ok (.invokevirtual 177, 3) := by decide +kernel
theorem zd_Model_spareOf_19 : decode zm_Model_spareOf.2.1 19 = .ok (.istore 4, 2) := by decide +kernel
theorem zd_Model_spareOf_21 : decode zm_Model_spareOf.2.1 21 = .ok (.iconst 0, 1) := by decide +kernel
theorem zd_Model_spareOf_22 : decode zm_Model_spareOf.2.1 22 = .ok (.istore 5, 2) := by decide +kernel
theorem zd_Model_spareOf_24 : decode zm_Model_spareOf.2.1 24 = .ok (.aload_n 0, 1) := by decide +kernel
theorem zd_Model_spareOf_25 : decode zm_Model_spareOf.2.1 25 = .ok (.iload_n 3, 1) := by decide +kernel
theorem zd_Model_spareOf_26 : decode zm_Model_spareOf.2.1 26 = .ok (.invokevirtual 251, 3) := by decide +kernel
theorem zd_Model_spareOf_29 : decode zm_Model_spareOf.2.1 29 = .ok (.iload_n 2, 1) := by decide +kernel
theorem zd_Model_spareOf_30 : decode zm_Model_spareOf.2.1 30 = .ok (.if_icmp .ge 5, 3) := by decide +kernel
theorem zd_Model_spareOf_33 : decode zm_Model_spareOf.2.1 33 = .ok (.iconst 0, 1) := by decide +kernel
theorem zd_Model_spareOf_34 : decode zm_Model_spareOf.2.1 34 = .ok (.ireturn, 1) := by decide +kernel
theorem zd_Model_spareOf_35 : decode zm_Model_spareOf.2.1 35 = .ok (.iconst 1, 1) := by decide +kernel
theorem zd_Model_spareOf_36 : decode zm_Model_spareOf.2.1 36 = .ok (.istore 6, 2) := by decide +kernel
theorem zd_Model_spareOf_38 : decode zm_Model_spareOf.2.1 38 = .ok (.iload 6, 2) := by decide +kernel
theorem zd_Model_spareOf_40 : decode zm_Model_spareOf.2.1 40 = .ok (.iload_n 3, 1) := by decide +kernel
theorem zd_Model_spareOf_41 : decode zm_Model_spareOf.2.1 41 = .ok (.if_icmp .gt 71, 3) := by decide +kernel
theorem zd_Model_spareOf_44 : decode zm_Model_spareOf.2.1 44 = .ok (.iload 6, 2) := by decide +kernel
theorem zd_Model_spareOf_46 : decode zm_Model_spareOf.2.1 46 = .ok (.iload_n 3, 1) := by decide +kernel
theorem zd_Model_spareOf_47 : decode zm_Model_spareOf.2.1 47 = .ok (.iconst (-1), 1) := by decide +kernel
theorem zd_Model_spareOf_48 : decode zm_Model_spareOf.2.1 48 = .ok (.ixor, 1) := by decide +kernel
theorem zd_Model_spareOf_49 : decode zm_Model_spareOf.2.1 49 = .ok (.iand, 1) := by decide +kernel
theorem zd_Model_spareOf_50 : decode zm_Model_spareOf.2.1 50 = .ok (.ifCond .ne 56, 3) := by decide +kernel
theorem zd_Model_spareOf_53 : decode zm_Model_spareOf.2.1 53 = .ok (.iload 6, 2) := by decide +kernel
theorem zd_Model_spareOf_55 : decode zm_Model_spareOf.2.1 55 = .ok (.invokestatic 261, 3) := by decide +kernel
theorem zd_Model_spareOf_58 : decode zm_Model_spareOf.2.1 58 = .ok (.iload 5, 2) := by decide +kernel
theorem zd_Model_spareOf_60 : decode zm_Model_spareOf.2.1 60 = .ok (.invokestatic 261, 3) := by decide +kernel
theorem zd_Model_spareOf_63 : decode zm_Model_spareOf.2.1 63 = .ok (.if_icmp .le 43, 3) := by decide +kernel
theorem zd_Model_spareOf_66 : decode zm_Model_spareOf.2.1 66 = .ok (.aload_n 0, 1) := by decide +kernel
theorem zd_Model_spareOf_67 : decode zm_Model_spareOf.2.1 67 = .ok (.iload_n 3, 1) := by decide +kernel
theorem zd_Model_spareOf_68 : decode zm_Model_spareOf.2.1 68 = .ok (.iload 6, 2) := by decide +kernel
theorem zd_Model_spareOf_70 : decode zm_Model_spareOf.2.1 70 = .ok (.iconst (-1), 1) := by decide +kernel
theorem zd_Model_spareOf_71 : decode zm_Model_spareOf.2.1 71 = .ok (.ixor, 1) := by decide +kernel
theorem zd_Model_spareOf_72 : decode zm_Model_spareOf.2.1 72 = .ok (.iand, 1) := by decide +kernel
theorem zd_Model_spareOf_73 : decode zm_Model_spareOf.2.1 73 = .ok (.invokevirtual 251, 3) := by decide +kernel
theorem zd_Model_spareOf_76 : decode zm_Model_spareOf.2.1 76 = .ok (.iload_n 2, 1) := by decide +kernel
theorem zd_Model_spareOf_77 : decode zm_Model_spareOf.2.1 77 = .ok (.if_icmp .ge 6, 3) := by decide +kernel
theorem zd_Model_spareOf_80 : decode zm_Model_spareOf.2.1 80 = .ok (.goto 26, 3) := by decide +kernel
theorem zd_Model_spareOf_83 : decode zm_Model_spareOf.2.1 83 = .ok (.iload 4, 2) := by decide +kernel
theorem zd_Model_spareOf_85 : decode zm_Model_spareOf.2.1 85 = .ok (.ifCond .eq 17, 3) := by decide +kernel
theorem zd_Model_spareOf_88 : decode zm_Model_spareOf.2.1 88 = .ok (.aload_n 0, 1) := by decide +kernel
theorem zd_Model_spareOf_89 : decode zm_Model_spareOf.2.1 89 = .ok (.aload_n 0, 1) := by decide +kernel
theorem zd_Model_spareOf_90 : decode zm_Model_spareOf.2.1 90 = .ok (.getfield 9, 3) := by decide +kernel
theorem zd_Model_spareOf_93 : decode zm_Model_spareOf.2.1 93 = .ok (.iload_n 1, 1) := by decide +kernel
theorem zd_Model_spareOf_94 : decode zm_Model_spareOf.2.1 94 = .ok (.iload 6, 2) := by decide +kernel
theorem zd_Model_spareOf_96 : decode zm_Model_spareOf.2.1 96 = .ok (.invokevirtual 243, 3) := by decide +kernel
theorem zd_Model_spareOf_99 : decode zm_Model_spareOf.2.1 99 = .ok (.ifCond .eq 7, 3) := by decide +kernel
theorem zd_Model_spareOf_102 : decode zm_Model_spareOf.2.1 102 = .ok (.iload 6, 2) := by decide +kernel
theorem zd_Model_spareOf_104 : decode zm_Model_spareOf.2.1 104 = .ok (.istore 5, 2) := by decide +kernel
theorem zd_Model_spareOf_106 : decode zm_Model_spareOf.2.1 106 = .ok (.iinc 6 1, 3) := by decide +kernel
theorem zd_Model_spareOf_109 : decode zm_Model_spareOf.2.1 109 = .ok (.goto (-71), 3) := by decide +kernel
theorem zd_Model_spareOf_112 : decode zm_Model_spareOf.2.1 112 = .ok (.iload 5, 2) := by decide +kernel
theorem zd_Model_spareOf_114 : decode zm_Model_spareOf.2.1 114 = .ok (.ireturn, 1) := by decide +kernel
theorem zb_Model_spareOf_0 {Γ : zG} {σ : zS} {x1 x2 : Int32} {dc : Nat} {P : Int32 → zS → Prop}  (hm : z_Ci dc zm_Model_inColumn [.inr (63), .inr (64), .inl (x1)] σ P) (hdp : dc < z_dep Γ) (k : ∀ r σ1, P r σ1 → z_J Γ zm_Model_spareOf 9 [some (.inr (63)), some (.inl (x1)), some (.inl (x2)), none, none, none, none] [.inl (r)] σ1) : z_J Γ zm_Model_spareOf 0 [some (.inr (63)), some (.inl (x1)), some (.inl (x2)), none, none, none, none] [] σ := by
  refine zj_aload_n zd_Model_spareOf_0 rfl ?_
  refine zj_aload_n zd_Model_spareOf_1 rfl ?_
  refine zj_getR rfl (by decide) rfl zu_Model (k := 0) (by decide) rfl zl_Model_9 zd_Model_spareOf_2 (o' := 64) rfl ?_
  refine zj_iload_n zd_Model_spareOf_5 rfl ?_
  exact zj_callVi (As := [.inr (64), .inl (x1)]) hm hdp rfl (by decide) rfl zl_Model_247 zq_Model_inColumn zd_Model_spareOf_6 rfl (Nat.le_of_ble_eq_true rfl) (fun r σ1 h => (k r σ1 h))
theorem zb_Model_spareOf_9 {Γ : zG} {σ : zS} {x1 x2 y0 : Int32} {dc : Nat} {P : Int32 → zS → Prop}  (hm : z_Ci dc zm_Model_isHeld [.inr (63), .inr (64), .inl (x1)] σ P) (hdp : dc < z_dep Γ) (k : ∀ r σ1, P r σ1 → z_J Γ zm_Model_spareOf 19 [some (.inr (63)), some (.inl (x1)), some (.inl (x2)), some (.inl (y0)), none, none, none] [.inl (r)] σ1) : z_J Γ zm_Model_spareOf 9 [some (.inr (63)), some (.inl (x1)), some (.inl (x2)), none, none, none, none] [.inl (y0)] σ := by
  refine zj_istore_n (L' := [some (.inr (63)), some (.inl (x1)), some (.inl (x2)), some (.inl (y0)), none, none, none]) zd_Model_spareOf_9 (by decide) rfl ?_
  refine zj_aload_n zd_Model_spareOf_10 rfl ?_
  refine zj_aload_n zd_Model_spareOf_11 rfl ?_
  refine zj_getR rfl (by decide) rfl zu_Model (k := 0) (by decide) rfl zl_Model_9 zd_Model_spareOf_12 (o' := 64) rfl ?_
  refine zj_iload_n zd_Model_spareOf_15 rfl ?_
  exact zj_callVi (As := [.inr (64), .inl (x1)]) hm hdp rfl (by decide) rfl zl_Model_177 zq_Model_isHeld zd_Model_spareOf_16 rfl (Nat.le_of_ble_eq_true rfl) (fun r σ1 h => (k r σ1 h))
theorem zb_Model_spareOf_19 {Γ : zG} {σ : zS} {x1 x2 x3 y0 : Int32} {dc : Nat} {P : Int32 → zS → Prop}  (hm : z_Ci dc zm_Model_thickOf [.inr (63), .inl (x3)] σ P) (hdp : dc < z_dep Γ) (k : ∀ r σ1, P r σ1 → z_J Γ zm_Model_spareOf 29 [some (.inr (63)), some (.inl (x1)), some (.inl (x2)), some (.inl (x3)), some (.inl (y0)), some (.inl (nI 0)), none] [.inl (r)] σ1) : z_J Γ zm_Model_spareOf 19 [some (.inr (63)), some (.inl (x1)), some (.inl (x2)), some (.inl (x3)), none, none, none] [.inl (y0)] σ := by
  refine zj_istore (L' := [some (.inr (63)), some (.inl (x1)), some (.inl (x2)), some (.inl (x3)), some (.inl (y0)), none, none]) zd_Model_spareOf_19 (by decide) rfl ?_
  refine zj_iconst (v := nI 0) zd_Model_spareOf_21 (by decide) ?_
  refine zj_istore (L' := [some (.inr (63)), some (.inl (x1)), some (.inl (x2)), some (.inl (x3)), some (.inl (y0)), some (.inl (nI 0)), none]) zd_Model_spareOf_22 (by decide) rfl ?_
  refine zj_aload_n zd_Model_spareOf_24 rfl ?_
  refine zj_iload_n zd_Model_spareOf_25 rfl ?_
  exact zj_callVi (As := [.inl (x3)]) hm hdp rfl (by decide) rfl zl_Model_251 zq_Model_thickOf zd_Model_spareOf_26 rfl (Nat.le_of_ble_eq_true rfl) (fun r σ1 h => (k r σ1 h))
theorem zb_Model_spareOf_29 {Γ : zG} {σ : zS} {x1 x2 x3 x4 x5 y0 : Int32}  (kt : x2 ≤ y0 → z_J Γ zm_Model_spareOf 35 [some (.inr (63)), some (.inl (x1)), some (.inl (x2)), some (.inl (x3)), some (.inl (x4)), some (.inl (x5)), none] [] σ) (kf : ¬ x2 ≤ y0 → z_J Γ zm_Model_spareOf 33 [none, none, none, none, none, none, none] [] σ) : z_J Γ zm_Model_spareOf 29 [some (.inr (63)), some (.inl (x1)), some (.inl (x2)), some (.inl (x3)), some (.inl (x4)), some (.inl (x5)), none] [.inl (y0)] σ := by
  refine zj_iload_n zd_Model_spareOf_29 rfl ?_
  exact zj_icmp_ge zd_Model_spareOf_30 (by decide) (fun h => (kt h)) (fun h => (zj_weak (L' := [none, none, none, none, none, none, none]) trivial (kf h)))
theorem zb_Model_spareOf_33 {Γ : zG} {σ : zS}  (e : z_end Γ (some (nI 0)) σ) : z_J Γ zm_Model_spareOf 33 [none, none, none, none, none, none, none] [] σ := by
  refine zj_iconst (v := nI 0) zd_Model_spareOf_33 (by decide) ?_
  exact zj_ireturn rfl zd_Model_spareOf_34 e
theorem zb_Model_spareOf_35 {Γ : zG} {σ : zS} {x1 x2 x3 x4 x5 : Int32}  (k : z_J Γ zm_Model_spareOf 38 [some (.inr (63)), some (.inl (x1)), some (.inl (x2)), some (.inl (x3)), some (.inl (x4)), some (.inl (x5)), some (.inl (nI 1))] [] σ) : z_J Γ zm_Model_spareOf 35 [some (.inr (63)), some (.inl (x1)), some (.inl (x2)), some (.inl (x3)), some (.inl (x4)), some (.inl (x5)), none] [] σ := by
  refine zj_iconst (v := nI 1) zd_Model_spareOf_35 (by decide) ?_
  refine zj_istore (L' := [some (.inr (63)), some (.inl (x1)), some (.inl (x2)), some (.inl (x3)), some (.inl (x4)), some (.inl (x5)), some (.inl (nI 1))]) zd_Model_spareOf_36 (by decide) rfl ?_
  exact k
theorem zb_Model_spareOf_38 {Γ : zG} {σ : zS} {x1 x2 x3 x4 x5 x6 : Int32}  (kt : x3 < x6 → z_J Γ zm_Model_spareOf 112 [none, none, none, none, none, some (.inl (x5)), none] [] σ) (kf : ¬ x3 < x6 → z_J Γ zm_Model_spareOf 44 [some (.inr (63)), some (.inl (x1)), some (.inl (x2)), some (.inl (x3)), some (.inl (x4)), some (.inl (x5)), some (.inl (x6))] [] σ) : z_J Γ zm_Model_spareOf 38 [some (.inr (63)), some (.inl (x1)), some (.inl (x2)), some (.inl (x3)), some (.inl (x4)), some (.inl (x5)), some (.inl (x6))] [] σ := by
  refine zj_iload zd_Model_spareOf_38 rfl ?_
  refine zj_iload_n zd_Model_spareOf_40 rfl ?_
  exact zj_icmp_gt zd_Model_spareOf_41 (by decide) (fun h => (zj_weak (L' := [none, none, none, none, none, some (.inl (x5)), none]) ⟨rfl, trivial⟩ (kt h))) (fun h => (kf h))
theorem zb_Model_spareOf_44 {Γ : zG} {σ : zS} {x1 x2 x3 x4 x5 x6 : Int32}  (kt : ¬ (x6 &&& (x3 ^^^ (-1))) = 0 → z_J Γ zm_Model_spareOf 106 [some (.inr (63)), some (.inl (x1)), some (.inl (x2)), some (.inl (x3)), some (.inl (x4)), some (.inl (x5)), some (.inl (x6))] [] σ) (kf : (x6 &&& (x3 ^^^ (-1))) = 0 → z_J Γ zm_Model_spareOf 53 [some (.inr (63)), some (.inl (x1)), some (.inl (x2)), some (.inl (x3)), some (.inl (x4)), some (.inl (x5)), some (.inl (x6))] [] σ) : z_J Γ zm_Model_spareOf 44 [some (.inr (63)), some (.inl (x1)), some (.inl (x2)), some (.inl (x3)), some (.inl (x4)), some (.inl (x5)), some (.inl (x6))] [] σ := by
  refine zj_iload zd_Model_spareOf_44 rfl ?_
  refine zj_iload_n zd_Model_spareOf_46 rfl ?_
  refine zj_iconst (v := (-1)) zd_Model_spareOf_47 (by decide) ?_
  refine zj_ixor zd_Model_spareOf_48 ?_
  refine zj_iand zd_Model_spareOf_49 ?_
  exact zj_if_ne zd_Model_spareOf_50 (by decide) (fun h => (kt h)) (fun h => (kf h))
theorem zb_Model_spareOf_53 {Γ : zG} {σ : zS} {x1 x2 x3 x4 x5 x6 : Int32} (hdp : 0 < z_dep Γ) (kt : (z_bc x6) ≤ (z_bc x5) → z_J Γ zm_Model_spareOf 106 [some (.inr (63)), some (.inl (x1)), some (.inl (x2)), some (.inl (x3)), some (.inl (x4)), some (.inl (x5)), some (.inl (x6))] [] σ) (kf : ¬ (z_bc x6) ≤ (z_bc x5) → z_J Γ zm_Model_spareOf 66 [some (.inr (63)), some (.inl (x1)), some (.inl (x2)), some (.inl (x3)), some (.inl (x4)), some (.inl (x5)), some (.inl (x6))] [] σ) : z_J Γ zm_Model_spareOf 53 [some (.inr (63)), some (.inl (x1)), some (.inl (x2)), some (.inl (x3)), some (.inl (x4)), some (.inl (x5)), some (.inl (x6))] [] σ := by
  refine zj_iload zd_Model_spareOf_53 rfl ?_
  refine zj_bitc zl_Model_261 hdp (Nat.le_of_ble_eq_true rfl) zd_Model_spareOf_55 ?_
  refine zj_iload zd_Model_spareOf_58 rfl ?_
  refine zj_bitc zl_Model_261 hdp (Nat.le_of_ble_eq_true rfl) zd_Model_spareOf_60 ?_
  exact zj_icmp_le zd_Model_spareOf_63 (by decide) (fun h => (kt h)) (fun h => (kf h))
theorem zb_Model_spareOf_66 {Γ : zG} {σ : zS} {x1 x2 x3 x4 x5 x6 : Int32} {dc : Nat} {P : Int32 → zS → Prop}  (hm : z_Ci dc zm_Model_thickOf [.inr (63), .inl (x3 &&& (x6 ^^^ (-1)))] σ P) (hdp : dc < z_dep Γ) (k : ∀ r σ1, P r σ1 → z_J Γ zm_Model_spareOf 76 [some (.inr (63)), some (.inl (x1)), some (.inl (x2)), some (.inl (x3)), some (.inl (x4)), some (.inl (x5)), some (.inl (x6))] [.inl (r)] σ1) : z_J Γ zm_Model_spareOf 66 [some (.inr (63)), some (.inl (x1)), some (.inl (x2)), some (.inl (x3)), some (.inl (x4)), some (.inl (x5)), some (.inl (x6))] [] σ := by
  refine zj_aload_n zd_Model_spareOf_66 rfl ?_
  refine zj_iload_n zd_Model_spareOf_67 rfl ?_
  refine zj_iload zd_Model_spareOf_68 rfl ?_
  refine zj_iconst (v := (-1)) zd_Model_spareOf_70 (by decide) ?_
  refine zj_ixor zd_Model_spareOf_71 ?_
  refine zj_iand zd_Model_spareOf_72 ?_
  exact zj_callVi (As := [.inl (x3 &&& (x6 ^^^ (-1)))]) hm hdp rfl (by decide) rfl zl_Model_251 zq_Model_thickOf zd_Model_spareOf_73 rfl (Nat.le_of_ble_eq_true rfl) (fun r σ1 h => (k r σ1 h))
theorem zb_Model_spareOf_76 {Γ : zG} {σ : zS} {x1 x2 x3 x4 x5 x6 y0 : Int32}  (kt : x2 ≤ y0 → z_J Γ zm_Model_spareOf 83 [some (.inr (63)), some (.inl (x1)), some (.inl (x2)), some (.inl (x3)), some (.inl (x4)), some (.inl (x5)), some (.inl (x6))] [] σ) (kf : ¬ x2 ≤ y0 → z_J Γ zm_Model_spareOf 80 [some (.inr (63)), some (.inl (x1)), some (.inl (x2)), some (.inl (x3)), some (.inl (x4)), some (.inl (x5)), some (.inl (x6))] [] σ) : z_J Γ zm_Model_spareOf 76 [some (.inr (63)), some (.inl (x1)), some (.inl (x2)), some (.inl (x3)), some (.inl (x4)), some (.inl (x5)), some (.inl (x6))] [.inl (y0)] σ := by
  refine zj_iload_n zd_Model_spareOf_76 rfl ?_
  exact zj_icmp_ge zd_Model_spareOf_77 (by decide) (fun h => (kt h)) (fun h => (kf h))
theorem zb_Model_spareOf_80 {Γ : zG} {σ : zS} {x1 x2 x3 x4 x5 x6 : Int32}  (k : z_J Γ zm_Model_spareOf 106 [some (.inr (63)), some (.inl (x1)), some (.inl (x2)), some (.inl (x3)), some (.inl (x4)), some (.inl (x5)), some (.inl (x6))] [] σ) : z_J Γ zm_Model_spareOf 80 [some (.inr (63)), some (.inl (x1)), some (.inl (x2)), some (.inl (x3)), some (.inl (x4)), some (.inl (x5)), some (.inl (x6))] [] σ := by
  exact zj_goto zd_Model_spareOf_80 (by decide) k
theorem zb_Model_spareOf_83 {Γ : zG} {σ : zS} {x1 x2 x3 x4 x5 x6 : Int32}  (kt : x4 = 0 → z_J Γ zm_Model_spareOf 102 [some (.inr (63)), some (.inl (x1)), some (.inl (x2)), some (.inl (x3)), some (.inl (x4)), none, some (.inl (x6))] [] σ) (kf : ¬ x4 = 0 → z_J Γ zm_Model_spareOf 88 [some (.inr (63)), some (.inl (x1)), some (.inl (x2)), some (.inl (x3)), some (.inl (x4)), some (.inl (x5)), some (.inl (x6))] [] σ) : z_J Γ zm_Model_spareOf 83 [some (.inr (63)), some (.inl (x1)), some (.inl (x2)), some (.inl (x3)), some (.inl (x4)), some (.inl (x5)), some (.inl (x6))] [] σ := by
  refine zj_iload zd_Model_spareOf_83 rfl ?_
  exact zj_if_eq zd_Model_spareOf_85 (by decide) (fun h => (zj_weak (L' := [some (.inr (63)), some (.inl (x1)), some (.inl (x2)), some (.inl (x3)), some (.inl (x4)), none, some (.inl (x6))]) ⟨rfl, ⟨rfl, ⟨rfl, ⟨rfl, ⟨rfl, ⟨rfl, trivial⟩⟩⟩⟩⟩⟩ (kt h))) (fun h => (kf h))
theorem zb_Model_spareOf_88 {Γ : zG} {σ : zS} {x1 x2 x3 x4 x5 x6 : Int32} {dc : Nat} {P : Int32 → zS → Prop}  (hm : z_Ci dc zm_Model_isHeldBut [.inr (63), .inr (64), .inl (x1), .inl (x6)] σ P) (hdp : dc < z_dep Γ) (k : ∀ r σ1, P r σ1 → z_J Γ zm_Model_spareOf 99 [some (.inr (63)), some (.inl (x1)), some (.inl (x2)), some (.inl (x3)), some (.inl (x4)), some (.inl (x5)), some (.inl (x6))] [.inl (r)] σ1) : z_J Γ zm_Model_spareOf 88 [some (.inr (63)), some (.inl (x1)), some (.inl (x2)), some (.inl (x3)), some (.inl (x4)), some (.inl (x5)), some (.inl (x6))] [] σ := by
  refine zj_aload_n zd_Model_spareOf_88 rfl ?_
  refine zj_aload_n zd_Model_spareOf_89 rfl ?_
  refine zj_getR rfl (by decide) rfl zu_Model (k := 0) (by decide) rfl zl_Model_9 zd_Model_spareOf_90 (o' := 64) rfl ?_
  refine zj_iload_n zd_Model_spareOf_93 rfl ?_
  refine zj_iload zd_Model_spareOf_94 rfl ?_
  exact zj_callVi (As := [.inr (64), .inl (x1), .inl (x6)]) hm hdp rfl (by decide) rfl zl_Model_243 zq_Model_isHeldBut zd_Model_spareOf_96 rfl (Nat.le_of_ble_eq_true rfl) (fun r σ1 h => (k r σ1 h))
theorem zb_Model_spareOf_99 {Γ : zG} {σ : zS} {x1 x2 x3 x4 x5 x6 y0 : Int32}  (kt : y0 = 0 → z_J Γ zm_Model_spareOf 106 [some (.inr (63)), some (.inl (x1)), some (.inl (x2)), some (.inl (x3)), some (.inl (x4)), some (.inl (x5)), some (.inl (x6))] [] σ) (kf : ¬ y0 = 0 → z_J Γ zm_Model_spareOf 102 [some (.inr (63)), some (.inl (x1)), some (.inl (x2)), some (.inl (x3)), some (.inl (x4)), none, some (.inl (x6))] [] σ) : z_J Γ zm_Model_spareOf 99 [some (.inr (63)), some (.inl (x1)), some (.inl (x2)), some (.inl (x3)), some (.inl (x4)), some (.inl (x5)), some (.inl (x6))] [.inl (y0)] σ := by
  exact zj_if_eq zd_Model_spareOf_99 (by decide) (fun h => (kt h)) (fun h => (zj_weak (L' := [some (.inr (63)), some (.inl (x1)), some (.inl (x2)), some (.inl (x3)), some (.inl (x4)), none, some (.inl (x6))]) ⟨rfl, ⟨rfl, ⟨rfl, ⟨rfl, ⟨rfl, ⟨rfl, trivial⟩⟩⟩⟩⟩⟩ (kf h)))
theorem zb_Model_spareOf_102 {Γ : zG} {σ : zS} {x1 x2 x3 x4 x6 : Int32}  (k : z_J Γ zm_Model_spareOf 106 [some (.inr (63)), some (.inl (x1)), some (.inl (x2)), some (.inl (x3)), some (.inl (x4)), some (.inl (x6)), some (.inl (x6))] [] σ) : z_J Γ zm_Model_spareOf 102 [some (.inr (63)), some (.inl (x1)), some (.inl (x2)), some (.inl (x3)), some (.inl (x4)), none, some (.inl (x6))] [] σ := by
  refine zj_iload zd_Model_spareOf_102 rfl ?_
  refine zj_istore (L' := [some (.inr (63)), some (.inl (x1)), some (.inl (x2)), some (.inl (x3)), some (.inl (x4)), some (.inl (x6)), some (.inl (x6))]) zd_Model_spareOf_104 (by decide) rfl ?_
  exact k
theorem zb_Model_spareOf_106 {Γ : zG} {σ : zS} {x1 x2 x3 x4 x5 x6 : Int32}  (k : z_J Γ zm_Model_spareOf 38 [some (.inr (63)), some (.inl (x1)), some (.inl (x2)), some (.inl (x3)), some (.inl (x4)), some (.inl (x5)), some (.inl (x6 + nI 1))] [] σ) : z_J Γ zm_Model_spareOf 106 [some (.inr (63)), some (.inl (x1)), some (.inl (x2)), some (.inl (x3)), some (.inl (x4)), some (.inl (x5)), some (.inl (x6))] [] σ := by
  refine zj_iinc (v := nI 1) (L' := [some (.inr (63)), some (.inl (x1)), some (.inl (x2)), some (.inl (x3)), some (.inl (x4)), some (.inl (x5)), some (.inl (x6 + nI 1))]) zd_Model_spareOf_106 rfl (by decide) (by decide) rfl ?_
  exact zj_goto zd_Model_spareOf_109 (by decide) k
theorem zb_Model_spareOf_112 {Γ : zG} {σ : zS} {x5 : Int32}  (e : z_end Γ (some (x5)) σ) : z_J Γ zm_Model_spareOf 112 [none, none, none, none, none, some (.inl (x5)), none] [] σ := by
  refine zj_iload zd_Model_spareOf_112 rfl ?_
  exact zj_ireturn rfl zd_Model_spareOf_114 e
theorem zd_Model_spare_0 : decode zm_Model_spare.2.1 0 = .ok (.aload_n 0, 1) := by decide +kernel
theorem zd_Model_spare_1 : decode zm_Model_spare.2.1 1 = .ok (.iconst 0, 1) := by decide +kernel
theorem zd_Model_spare_2 : decode zm_Model_spare.2.1 2 = .ok (.putfield 91, 3) := by decide +kernel
theorem zd_Model_spare_5 : decode zm_Model_spare.2.1 5 = .ok (.aload_n 0, 1) := by decide +kernel
theorem zd_Model_spare_6 : decode zm_Model_spare.2.1 6 = .ok (.iload_n 1, 1) := by decide +kernel
theorem zd_Model_spare_7 : decode zm_Model_spare.2.1 7 = .ok (.invokevirtual 266, 3) := by decide +kernel
theorem zd_Model_spare_10 : decode zm_Model_spare.2.1 10 = .ok (.ifCond .ne 5, 3) := by decide +kernel
theorem zd_Model_spare_13 : decode zm_Model_spare.2.1 13 = .ok (.iconst (-1), 1) := by decide +kernel
theorem zd_Model_spare_14 : decode zm_Model_spare.2.1 14 = .ok (.ireturn, 1) := by decide +kernel
theorem zd_Model_spare_15 : decode zm_Model_spare.2.1 15 = .ok (.aload_n 0, 1) := by decide +kernel
theorem zd_Model_spare_16 : decode zm_Model_spare.2.1 16 = .ok (.aload_n 0, 1) := by decide +kernel
theorem zd_Model_spare_17 : decode zm_Model_spare.2.1 17 = .ok (.getfield 9, 3) := by decide +kernel
theorem zd_Model_spare_20 : decode zm_Model_spare.2.1 20 = .ok (.iload_n 1, 1) := by decide +kernel
theorem zd_Model_spare_21 : decode zm_Model_spare.2.1 21 = .ok (.invokevirtual 247, 3) := by decide +kernel
theorem zd_Model_spare_24 : decode zm_Model_spare.2.1 24 = .ok (.istore_n 2, 1) := by decide +kernel
theorem zd_Model_spare_25 : decode zm_Model_spare.2.1 25 = .ok (.iconst (-1), 1) := by decide +kernel
theorem zd_Model_spare_26 : decode zm_Model_spare.2.1 26 = .ok (.istore_n 3, 1) := by decide +kernel
theorem zd_Model_spare_27 : decode zm_Model_spare.2.1 27 = .ok (.iconst (-1), 1) := by decide +kernel
theorem zd_Model_spare_28 : decode zm_Model_spare.2.1 28 = .ok (.istore 4, 2) := by decide +kernel
theorem zd_Model_spare_30 : decode zm_Model_spare.2.1 30 = .ok (.iconst 0, 1) := by decide +kernel
theorem zd_Model_spare_31 : decode zm_Model_spare.2.1 31 = .ok (.istore 5, 2) := by decide +kernel
theorem zd_Model_spare_33 : decode zm_Model_spare.2.1 33 = .ok (.iload 5, 2) := by decide +kernel
theorem zd_Model_spare_35 : decode zm_Model_spare.2.1 35 = .ok (.iconst 4, 1) := by decide +kernel
theorem zd_Model_spare_36 : decode zm_Model_spare.2.1 36 = .ok (.if_icmp .ge 104, 3) := by decide +kernel
theorem zd_Model_spare_39 : decode zm_Model_spare.2.1 39 = .ok (.iconst 0, 1) := by decide +kernel
theorem zd_Model_spare_40 : decode zm_Model_spare.2.1 40 = .ok (.istore 6, 2) := by decide +kernel
theorem zd_Model_spare_42 : decode zm_Model_spare.2.1 42 = .ok (.iload 6, 2) := by decide +kernel
theorem zd_Model_spare_44 : decode zm_Model_spare.2.1 44 = .ok (.aload_n 0, 1) := by decide +kernel
theorem zd_Model_spare_45 : decode zm_Model_spare.2.1 45 = .ok (.getfield 97, 3) := by decide +kernel
theorem zd_Model_spare_48 : decode zm_Model_spare.2.1 48 = .ok (.if_icmp .ge 86, 3) := by decide +kernel
theorem zd_Model_spare_51 : decode zm_Model_spare.2.1 51 = .ok (.iload_n 2, 1) := by decide +kernel
theorem zd_Model_spare_52 : decode zm_Model_spare.2.1 52 = .ok (.iload 6, 2) := by decide +kernel
theorem zd_Model_spare_54 : decode zm_Model_spare.2.1 54 = .ok (.invokestatic 169, 3) := by decide +kernel
theorem zd_Model_spare_57 : decode zm_Model_spare.2.1 57 = .ok (.ifCond .eq 71, 3) := by decide +kernel
theorem zd_Model_spare_60 : decode zm_Model_spare.2.1 60 = .ok (.aload_n 0, 1) := by decide +kernel
theorem zd_Model_spare_61 : decode zm_Model_spare.2.1 61 = .ok (.getfield 9, 3) := by decide +kernel
theorem zd_Model_spare_64 : decode zm_Model_spare.2.1 64 = .ok (.bipush 24, 2) := by decide +kernel
theorem zd_Model_spare_66 : decode zm_Model_spare.2.1 66 = .ok (.iload 6, 2) := by decide +kernel
theorem zd_Model_spare_68 : decode zm_Model_spare.2.1 68 = .ok (.iadd, 1) := by decide +kernel
theorem zd_Model_spare_69 : decode zm_Model_spare.2.1 69 = .ok (.iaload, 1) := by decide +kernel
theorem zd_Model_spare_70 : decode zm_Model_spare.2.1 70 = .ok (.iload 5, 2) := by decide +kernel
theorem zd_Model_spare_72 : decode zm_Model_spare.2.1 72 = .ok (.if_icmp .ne 56, 3) := by decide +kernel
theorem zd_Model_spare_75 : decode zm_Model_spare.2.1 75 = .ok (.aload_n 0, 1) := by decide +kernel
theorem zd_Model_spare_76 : decode zm_Model_spare.2.1 76 = .ok (.aload_n 0, 1) := by decide +kernel
theorem zd_Model_spare_77 : decode zm_Model_spare.2.1 77 = .ok (.getfield 9, 3) := by decide +kernel
theorem zd_Model_spare_80 : decode zm_Model_spare.2.1 80 = .ok (.iload_n 1, 1) := by decide +kernel
theorem zd_Model_spare_81 : decode zm_Model_spare.2.1 81 = .ok (.iconst 1, 1) := by decide +kernel
theorem zd_Model_spare_82 : decode zm_Model_spare.2.1 82 = .ok (.iload 6, 2) := by decide +kernel
theorem zd_Model_spare_84 : decode zm_Model_spare.2.1 84 = .ok (.ishl, 1) := by decide +kernel
theorem zd_Model_spare_85 : decode zm_Model_spare.2.1 85 = .ok (.invokevirtual 243, 3) := by decide +kernel
theorem zd_Model_spare_88 : decode zm_Model_spare.2.1 88 = .ok (.ifCond .eq 40, 3) := by decide +kernel
theorem zd_Model_spare_91 : decode zm_Model_spare.2.1 91 = .ok (.aload_n 0, 1) := by decide +kernel
theorem zd_Model_spare_92 : decode zm_Model_spare.2.1 92 = .ok (.iload_n 2, 1) := by decide +kernel
theorem zd_Model_spare_93 : decode zm_Model_spare.2.1 93 = .ok (.iconst 1, 1) := by decide +kernel
theorem zd_Model_spare_94 : decode zm_Model_spare.2.1 94 = .ok (.iload 6, 2) := by decide +kernel
theorem zd_Model_spare_96 : decode zm_Model_spare.2.1 96 = .ok (.ishl, 1) := by decide +kernel
theorem zd_Model_spare_97 : decode zm_Model_spare.2.1 97 = .ok (.iconst (-1), 1) := by decide +kernel
theorem zd_Model_spare_98 : decode zm_Model_spare.2.1 98 = .ok (.ixor, 1) := by decide +kernel
theorem zd_Model_spare_99 : decode zm_Model_spare.2.1 99 = .ok (.iand, 1) := by decide +kernel
theorem zd_Model_spare_100 : decode zm_Model_spare.2.1 100 = .ok (.invokevirtual 251, 3) := by decide +kernel
theorem zd_Model_spare_103 : decode zm_Model_spare.2.1 103 = .ok (.iload 4, 2) := by decide +kernel
theorem zd_Model_spare_105 : decode zm_Model_spare.2.1 105 = .ok (.if_icmp .gt 6, 3) := by decide +kernel
theorem zd_Model_spare_108 : decode zm_Model_spare.2.1 108 = .ok (.goto 20, 3) := by decide +kernel
theorem zd_Model_spare_111 : decode zm_Model_spare.2.1 111 = .ok (.iload 6, 2) := by decide +kernel
theorem zd_Model_spare_113 : decode zm_Model_spare.2.1 113 = .ok (.istore_n 3, 1) := by decide +kernel
theorem zd_Model_spare_114 : decode zm_Model_spare.2.1 114 = .ok (.aload_n 0, 1) := by decide +kernel
theorem zd_Model_spare_115 : decode zm_Model_spare.2.1 115 = .ok (.iload_n 2, 1) := by decide +kernel
theorem zd_Model_spare_116 : decode zm_Model_spare.2.1 116 = .ok (.iconst 1, 1) := by decide +kernel
theorem zd_Model_spare_117 : decode zm_Model_spare.2.1 117 = .ok (.iload 6, 2) := by decide +kernel
theorem zd_Model_spare_119 : decode zm_Model_spare.2.1 119 = .ok (.ishl, 1) := by decide +kernel
theorem zd_Model_spare_120 : decode zm_Model_spare.2.1 120 = .ok (.iconst (-1), 1) := by decide +kernel
theorem zd_Model_spare_121 : decode zm_Model_spare.2.1 121 = .ok (.ixor, 1) := by decide +kernel
theorem zd_Model_spare_122 : decode zm_Model_spare.2.1 122 = .ok (.iand, 1) := by decide +kernel
theorem zd_Model_spare_123 : decode zm_Model_spare.2.1 123 = .ok (.invokevirtual 251, 3) := by decide +kernel
theorem zd_Model_spare_126 : decode zm_Model_spare.2.1 126 = .ok (.istore 4, 2) := by decide +kernel
theorem zd_Model_spare_128 : decode zm_Model_spare.2.1 128 = .ok (.iinc 6 1, 3) := by decide +kernel
theorem zd_Model_spare_131 : decode zm_Model_spare.2.1 131 = .ok (.goto (-89), 3) := by decide +kernel
theorem zd_Model_spare_134 : decode zm_Model_spare.2.1 134 = .ok (.iinc 5 1, 3) := by decide +kernel
theorem zd_Model_spare_137 : decode zm_Model_spare.2.1 137 = .ok (.goto (-104), 3) := by decide +kernel
theorem zd_Model_spare_140 : decode zm_Model_spare.2.1 140 = .ok (.iload_n 3, 1) := by decide +kernel
theorem zd_Model_spare_141 : decode zm_Model_spare.2.1 141 = .ok (.iconst (-1), 1) := by decide +kernel
theorem zd_Model_spare_142 : decode zm_Model_spare.2.1 142 = .ok (.if_icmp .ne 6, 3) := by decide +kernel
theorem zd_Model_spare_145 : decode zm_Model_spare.2.1 145 = .ok (.bipush (-2), 2) := by decide +kernel
theorem zd_Model_spare_147 : decode zm_Model_spare.2.1 147 = .ok (.ireturn, 1) := by decide +kernel
theorem zd_Model_spare_148 : decode zm_Model_spare.2.1 148 = .ok (.aload_n 0, 1) := by decide +kernel
theorem zd_Model_spare_149 : decode zm_Model_spare.2.1 149 = .ok (.iconst 0, 1) := by decide +kernel
theorem zd_Model_spare_150 : decode zm_Model_spare.2.1 150 = .ok (.putfield 94, 3) := by decide +kernel
theorem zd_Model_spare_153 : decode zm_Model_spare.2.1 153 = .ok (.aload_n 0, 1) := by decide +kernel
theorem zd_Model_spare_154 : decode zm_Model_spare.2.1 154 = .ok (.iload 4, 2) := by decide +kernel
theorem zd_Model_spare_156 : decode zm_Model_spare.2.1 156 = .ok (.invokevirtual 312, 3) := by decide +kernel
theorem zd_Model_spare_159 : decode zm_Model_spare.2.1 159 = .ok (.iload_n 3, 1) := by decide +kernel
theorem zd_Model_spare_160 : decode zm_Model_spare.2.1 160 = .ok (.ireturn, 1) := by decide +kernel
theorem zb_Model_spare_0 {Γ : zG} {σ : zS} {x1 : Int32} {dc : Nat} {P : Int32 → zS → Prop}  (hm : z_Ci dc zm_Model_isColumn [.inr (63), .inl (x1)] (z_pI σ 63 11 (nI 0)) P) (hdp : dc < z_dep Γ) (k : ∀ r σ1, P r σ1 → z_J Γ zm_Model_spare 10 [some (.inr (63)), some (.inl (x1)), none, none, none, none, none] [.inl (r)] σ1) : z_J Γ zm_Model_spare 0 [some (.inr (63)), some (.inl (x1)), none, none, none, none, none] [] σ := by
  refine zj_aload_n zd_Model_spare_0 rfl ?_
  refine zj_iconst (v := nI 0) zd_Model_spare_1 (by decide) ?_
  refine zj_putI rfl (by decide) rfl zu_Model zy_Model_ok zn_Model (k := 11) (by decide) rfl rfl zl_Model_91 rfl rfl zd_Model_spare_2 ?_
  refine zj_aload_n zd_Model_spare_5 rfl ?_
  refine zj_iload_n zd_Model_spare_6 rfl ?_
  exact zj_callVi (As := [.inl (x1)]) hm hdp rfl (by decide) rfl zl_Model_266 zq_Model_isColumn zd_Model_spare_7 rfl (Nat.le_of_ble_eq_true rfl) (fun r σ1 h => (k r σ1 h))
theorem zb_Model_spare_10 {Γ : zG} {σ : zS} {x1 y0 : Int32}  (kt : ¬ y0 = 0 → z_J Γ zm_Model_spare 15 [some (.inr (63)), some (.inl (x1)), none, none, none, none, none] [] σ) (kf : y0 = 0 → z_J Γ zm_Model_spare 13 [none, none, none, none, none, none, none] [] σ) : z_J Γ zm_Model_spare 10 [some (.inr (63)), some (.inl (x1)), none, none, none, none, none] [.inl (y0)] σ := by
  exact zj_if_ne zd_Model_spare_10 (by decide) (fun h => (kt h)) (fun h => (zj_weak (L' := [none, none, none, none, none, none, none]) trivial (kf h)))
theorem zb_Model_spare_13 {Γ : zG} {σ : zS}  (e : z_end Γ (some ((-1))) σ) : z_J Γ zm_Model_spare 13 [none, none, none, none, none, none, none] [] σ := by
  refine zj_iconst (v := (-1)) zd_Model_spare_13 (by decide) ?_
  exact zj_ireturn rfl zd_Model_spare_14 e
theorem zb_Model_spare_15 {Γ : zG} {σ : zS} {x1 : Int32} {dc : Nat} {P : Int32 → zS → Prop}  (hm : z_Ci dc zm_Model_inColumn [.inr (63), .inr (64), .inl (x1)] σ P) (hdp : dc < z_dep Γ) (k : ∀ r σ1, P r σ1 → z_J Γ zm_Model_spare 24 [some (.inr (63)), some (.inl (x1)), none, none, none, none, none] [.inl (r)] σ1) : z_J Γ zm_Model_spare 15 [some (.inr (63)), some (.inl (x1)), none, none, none, none, none] [] σ := by
  refine zj_aload_n zd_Model_spare_15 rfl ?_
  refine zj_aload_n zd_Model_spare_16 rfl ?_
  refine zj_getR rfl (by decide) rfl zu_Model (k := 0) (by decide) rfl zl_Model_9 zd_Model_spare_17 (o' := 64) rfl ?_
  refine zj_iload_n zd_Model_spare_20 rfl ?_
  exact zj_callVi (As := [.inr (64), .inl (x1)]) hm hdp rfl (by decide) rfl zl_Model_247 zq_Model_inColumn zd_Model_spare_21 rfl (Nat.le_of_ble_eq_true rfl) (fun r σ1 h => (k r σ1 h))
theorem zb_Model_spare_24 {Γ : zG} {σ : zS} {x1 y0 : Int32}  (k : z_J Γ zm_Model_spare 33 [some (.inr (63)), some (.inl (x1)), some (.inl (y0)), some (.inl ((-1))), some (.inl ((-1))), some (.inl (nI 0)), none] [] σ) : z_J Γ zm_Model_spare 24 [some (.inr (63)), some (.inl (x1)), none, none, none, none, none] [.inl (y0)] σ := by
  refine zj_istore_n (L' := [some (.inr (63)), some (.inl (x1)), some (.inl (y0)), none, none, none, none]) zd_Model_spare_24 (by decide) rfl ?_
  refine zj_iconst (v := (-1)) zd_Model_spare_25 (by decide) ?_
  refine zj_istore_n (L' := [some (.inr (63)), some (.inl (x1)), some (.inl (y0)), some (.inl ((-1))), none, none, none]) zd_Model_spare_26 (by decide) rfl ?_
  refine zj_iconst (v := (-1)) zd_Model_spare_27 (by decide) ?_
  refine zj_istore (L' := [some (.inr (63)), some (.inl (x1)), some (.inl (y0)), some (.inl ((-1))), some (.inl ((-1))), none, none]) zd_Model_spare_28 (by decide) rfl ?_
  refine zj_iconst (v := nI 0) zd_Model_spare_30 (by decide) ?_
  refine zj_istore (L' := [some (.inr (63)), some (.inl (x1)), some (.inl (y0)), some (.inl ((-1))), some (.inl ((-1))), some (.inl (nI 0)), none]) zd_Model_spare_31 (by decide) rfl ?_
  exact k
theorem zb_Model_spare_33 {Γ : zG} {σ : zS} {x1 x2 x3 x4 x5 : Int32}  (kt : (nI 4) ≤ x5 → z_J Γ zm_Model_spare 140 [some (.inr (63)), none, none, some (.inl (x3)), some (.inl (x4)), none, none] [] σ) (kf : ¬ (nI 4) ≤ x5 → z_J Γ zm_Model_spare 39 [some (.inr (63)), some (.inl (x1)), some (.inl (x2)), some (.inl (x3)), some (.inl (x4)), some (.inl (x5)), none] [] σ) : z_J Γ zm_Model_spare 33 [some (.inr (63)), some (.inl (x1)), some (.inl (x2)), some (.inl (x3)), some (.inl (x4)), some (.inl (x5)), none] [] σ := by
  refine zj_iload zd_Model_spare_33 rfl ?_
  refine zj_iconst (v := nI 4) zd_Model_spare_35 (by decide) ?_
  exact zj_icmp_ge zd_Model_spare_36 (by decide) (fun h => (zj_weak (L' := [some (.inr (63)), none, none, some (.inl (x3)), some (.inl (x4)), none, none]) ⟨rfl, ⟨rfl, ⟨rfl, trivial⟩⟩⟩ (kt h))) (fun h => (kf h))
theorem zb_Model_spare_39 {Γ : zG} {σ : zS} {x1 x2 x3 x4 x5 : Int32}  (k : z_J Γ zm_Model_spare 42 [some (.inr (63)), some (.inl (x1)), some (.inl (x2)), some (.inl (x3)), some (.inl (x4)), some (.inl (x5)), some (.inl (nI 0))] [] σ) : z_J Γ zm_Model_spare 39 [some (.inr (63)), some (.inl (x1)), some (.inl (x2)), some (.inl (x3)), some (.inl (x4)), some (.inl (x5)), none] [] σ := by
  refine zj_iconst (v := nI 0) zd_Model_spare_39 (by decide) ?_
  refine zj_istore (L' := [some (.inr (63)), some (.inl (x1)), some (.inl (x2)), some (.inl (x3)), some (.inl (x4)), some (.inl (x5)), some (.inl (nI 0))]) zd_Model_spare_40 (by decide) rfl ?_
  exact k
theorem zb_Model_spare_42 {Γ : zG} {σ : zS} {x1 x2 x3 x4 x5 x6 : Int32}  (kt : (σ.1 63 1) ≤ x6 → z_J Γ zm_Model_spare 134 [some (.inr (63)), some (.inl (x1)), some (.inl (x2)), some (.inl (x3)), some (.inl (x4)), some (.inl (x5)), none] [] σ) (kf : ¬ (σ.1 63 1) ≤ x6 → z_J Γ zm_Model_spare 51 [some (.inr (63)), some (.inl (x1)), some (.inl (x2)), some (.inl (x3)), some (.inl (x4)), some (.inl (x5)), some (.inl (x6))] [] σ) : z_J Γ zm_Model_spare 42 [some (.inr (63)), some (.inl (x1)), some (.inl (x2)), some (.inl (x3)), some (.inl (x4)), some (.inl (x5)), some (.inl (x6))] [] σ := by
  refine zj_iload zd_Model_spare_42 rfl ?_
  refine zj_aload_n zd_Model_spare_44 rfl ?_
  refine zj_getI rfl (by decide) rfl zu_Model (k := 1) (by decide) rfl zl_Model_97 zd_Model_spare_45 ?_
  exact zj_icmp_ge zd_Model_spare_48 (by decide) (fun h => (zj_weak (L' := [some (.inr (63)), some (.inl (x1)), some (.inl (x2)), some (.inl (x3)), some (.inl (x4)), some (.inl (x5)), none]) ⟨rfl, ⟨rfl, ⟨rfl, ⟨rfl, ⟨rfl, ⟨rfl, trivial⟩⟩⟩⟩⟩⟩ (kt h))) (fun h => (kf h))
theorem zb_Model_spare_51 {Γ : zG} {σ : zS} {x1 x2 x3 x4 x5 x6 : Int32} {dc : Nat} {P : Int32 → zS → Prop}  (hm : z_Ci dc zm_Model_has [.inl (x2), .inl (x6)] σ P) (hdp : dc < z_dep Γ) (k : ∀ r σ1, P r σ1 → z_J Γ zm_Model_spare 57 [some (.inr (63)), some (.inl (x1)), some (.inl (x2)), some (.inl (x3)), some (.inl (x4)), some (.inl (x5)), some (.inl (x6))] [.inl (r)] σ1) : z_J Γ zm_Model_spare 51 [some (.inr (63)), some (.inl (x1)), some (.inl (x2)), some (.inl (x3)), some (.inl (x4)), some (.inl (x5)), some (.inl (x6))] [] σ := by
  refine zj_iload_n zd_Model_spare_51 rfl ?_
  refine zj_iload zd_Model_spare_52 rfl ?_
  exact zj_callSi (As := [.inl (x2), .inl (x6)]) hm hdp zl_Model_169 zq_Model_has zd_Model_spare_54 rfl (Nat.le_of_ble_eq_true rfl) (fun r σ1 h => (k r σ1 h))
theorem zb_Model_spare_57 {Γ : zG} {σ : zS} {x1 x2 x3 x4 x5 x6 y0 : Int32}  (kt : y0 = 0 → z_J Γ zm_Model_spare 128 [some (.inr (63)), some (.inl (x1)), some (.inl (x2)), some (.inl (x3)), some (.inl (x4)), some (.inl (x5)), some (.inl (x6))] [] σ) (kf : ¬ y0 = 0 → z_J Γ zm_Model_spare 60 [some (.inr (63)), some (.inl (x1)), some (.inl (x2)), some (.inl (x3)), some (.inl (x4)), some (.inl (x5)), some (.inl (x6))] [] σ) : z_J Γ zm_Model_spare 57 [some (.inr (63)), some (.inl (x1)), some (.inl (x2)), some (.inl (x3)), some (.inl (x4)), some (.inl (x5)), some (.inl (x6))] [.inl (y0)] σ := by
  exact zj_if_eq zd_Model_spare_57 (by decide) (fun h => (kt h)) (fun h => (kf h))
theorem zb_Model_spare_60 {Γ : zG} {σ : zS} {x1 x2 x3 x4 x5 x6 : Int32} {k1 : Nat}  (b1 : z_ix ((nI 24) + x6) 53 k1) (kt : ¬ (σ.1 64 k1) = x5 → z_J Γ zm_Model_spare 128 [some (.inr (63)), some (.inl (x1)), some (.inl (x2)), some (.inl (x3)), some (.inl (x4)), some (.inl (x5)), some (.inl (x6))] [] σ) (kf : (σ.1 64 k1) = x5 → z_J Γ zm_Model_spare 75 [some (.inr (63)), some (.inl (x1)), some (.inl (x2)), some (.inl (x3)), some (.inl (x4)), some (.inl (x5)), some (.inl (x6))] [] σ) : z_J Γ zm_Model_spare 60 [some (.inr (63)), some (.inl (x1)), some (.inl (x2)), some (.inl (x3)), some (.inl (x4)), some (.inl (x5)), some (.inl (x6))] [] σ := by
  refine zj_aload_n zd_Model_spare_60 rfl ?_
  refine zj_getR rfl (by decide) rfl zu_Model (k := 0) (by decide) rfl zl_Model_9 zd_Model_spare_61 (o' := 64) rfl ?_
  refine zj_bipush (v := nI 24) zd_Model_spare_64 (by decide) ?_
  refine zj_iload zd_Model_spare_66 rfl ?_
  refine zj_iadd zd_Model_spare_68 ?_
  refine zj_iaload rfl (by decide) b1 zd_Model_spare_69 ?_
  refine zj_iload zd_Model_spare_70 rfl ?_
  exact zj_icmp_ne zd_Model_spare_72 (by decide) (fun h => (kt h)) (fun h => (kf h))
theorem zb_Model_spare_75 {Γ : zG} {σ : zS} {x1 x2 x3 x4 x5 x6 : Int32} {dc : Nat} {P : Int32 → zS → Prop}  (hm : z_Ci dc zm_Model_isHeldBut [.inr (63), .inr (64), .inl (x1), .inl ((nI 1) <<< (x6 &&& 31))] σ P) (hdp : dc < z_dep Γ) (k : ∀ r σ1, P r σ1 → z_J Γ zm_Model_spare 88 [some (.inr (63)), some (.inl (x1)), some (.inl (x2)), some (.inl (x3)), some (.inl (x4)), some (.inl (x5)), some (.inl (x6))] [.inl (r)] σ1) : z_J Γ zm_Model_spare 75 [some (.inr (63)), some (.inl (x1)), some (.inl (x2)), some (.inl (x3)), some (.inl (x4)), some (.inl (x5)), some (.inl (x6))] [] σ := by
  refine zj_aload_n zd_Model_spare_75 rfl ?_
  refine zj_aload_n zd_Model_spare_76 rfl ?_
  refine zj_getR rfl (by decide) rfl zu_Model (k := 0) (by decide) rfl zl_Model_9 zd_Model_spare_77 (o' := 64) rfl ?_
  refine zj_iload_n zd_Model_spare_80 rfl ?_
  refine zj_iconst (v := nI 1) zd_Model_spare_81 (by decide) ?_
  refine zj_iload zd_Model_spare_82 rfl ?_
  refine zj_ishl zd_Model_spare_84 ?_
  exact zj_callVi (As := [.inr (64), .inl (x1), .inl ((nI 1) <<< (x6 &&& 31))]) hm hdp rfl (by decide) rfl zl_Model_243 zq_Model_isHeldBut zd_Model_spare_85 rfl (Nat.le_of_ble_eq_true rfl) (fun r σ1 h => (k r σ1 h))
theorem zb_Model_spare_88 {Γ : zG} {σ : zS} {x1 x2 x3 x4 x5 x6 y0 : Int32}  (kt : y0 = 0 → z_J Γ zm_Model_spare 128 [some (.inr (63)), some (.inl (x1)), some (.inl (x2)), some (.inl (x3)), some (.inl (x4)), some (.inl (x5)), some (.inl (x6))] [] σ) (kf : ¬ y0 = 0 → z_J Γ zm_Model_spare 91 [some (.inr (63)), some (.inl (x1)), some (.inl (x2)), some (.inl (x3)), some (.inl (x4)), some (.inl (x5)), some (.inl (x6))] [] σ) : z_J Γ zm_Model_spare 88 [some (.inr (63)), some (.inl (x1)), some (.inl (x2)), some (.inl (x3)), some (.inl (x4)), some (.inl (x5)), some (.inl (x6))] [.inl (y0)] σ := by
  exact zj_if_eq zd_Model_spare_88 (by decide) (fun h => (kt h)) (fun h => (kf h))
theorem zb_Model_spare_91 {Γ : zG} {σ : zS} {x1 x2 x3 x4 x5 x6 : Int32} {dc : Nat} {P : Int32 → zS → Prop}  (hm : z_Ci dc zm_Model_thickOf [.inr (63), .inl (x2 &&& (((nI 1) <<< (x6 &&& 31)) ^^^ (-1)))] σ P) (hdp : dc < z_dep Γ) (k : ∀ r σ1, P r σ1 → z_J Γ zm_Model_spare 103 [some (.inr (63)), some (.inl (x1)), some (.inl (x2)), some (.inl (x3)), some (.inl (x4)), some (.inl (x5)), some (.inl (x6))] [.inl (r)] σ1) : z_J Γ zm_Model_spare 91 [some (.inr (63)), some (.inl (x1)), some (.inl (x2)), some (.inl (x3)), some (.inl (x4)), some (.inl (x5)), some (.inl (x6))] [] σ := by
  refine zj_aload_n zd_Model_spare_91 rfl ?_
  refine zj_iload_n zd_Model_spare_92 rfl ?_
  refine zj_iconst (v := nI 1) zd_Model_spare_93 (by decide) ?_
  refine zj_iload zd_Model_spare_94 rfl ?_
  refine zj_ishl zd_Model_spare_96 ?_
  refine zj_iconst (v := (-1)) zd_Model_spare_97 (by decide) ?_
  refine zj_ixor zd_Model_spare_98 ?_
  refine zj_iand zd_Model_spare_99 ?_
  exact zj_callVi (As := [.inl (x2 &&& (((nI 1) <<< (x6 &&& 31)) ^^^ (-1)))]) hm hdp rfl (by decide) rfl zl_Model_251 zq_Model_thickOf zd_Model_spare_100 rfl (Nat.le_of_ble_eq_true rfl) (fun r σ1 h => (k r σ1 h))
theorem zb_Model_spare_103 {Γ : zG} {σ : zS} {x1 x2 x3 x4 x5 x6 y0 : Int32}  (kt : x4 < y0 → z_J Γ zm_Model_spare 111 [some (.inr (63)), some (.inl (x1)), some (.inl (x2)), none, none, some (.inl (x5)), some (.inl (x6))] [] σ) (kf : ¬ x4 < y0 → z_J Γ zm_Model_spare 108 [some (.inr (63)), some (.inl (x1)), some (.inl (x2)), some (.inl (x3)), some (.inl (x4)), some (.inl (x5)), some (.inl (x6))] [] σ) : z_J Γ zm_Model_spare 103 [some (.inr (63)), some (.inl (x1)), some (.inl (x2)), some (.inl (x3)), some (.inl (x4)), some (.inl (x5)), some (.inl (x6))] [.inl (y0)] σ := by
  refine zj_iload zd_Model_spare_103 rfl ?_
  exact zj_icmp_gt zd_Model_spare_105 (by decide) (fun h => (zj_weak (L' := [some (.inr (63)), some (.inl (x1)), some (.inl (x2)), none, none, some (.inl (x5)), some (.inl (x6))]) ⟨rfl, ⟨rfl, ⟨rfl, ⟨rfl, ⟨rfl, trivial⟩⟩⟩⟩⟩ (kt h))) (fun h => (kf h))
theorem zb_Model_spare_108 {Γ : zG} {σ : zS} {x1 x2 x3 x4 x5 x6 : Int32}  (k : z_J Γ zm_Model_spare 128 [some (.inr (63)), some (.inl (x1)), some (.inl (x2)), some (.inl (x3)), some (.inl (x4)), some (.inl (x5)), some (.inl (x6))] [] σ) : z_J Γ zm_Model_spare 108 [some (.inr (63)), some (.inl (x1)), some (.inl (x2)), some (.inl (x3)), some (.inl (x4)), some (.inl (x5)), some (.inl (x6))] [] σ := by
  exact zj_goto zd_Model_spare_108 (by decide) k
theorem zb_Model_spare_111 {Γ : zG} {σ : zS} {x1 x2 x5 x6 : Int32} {dc : Nat} {P : Int32 → zS → Prop}  (hm : z_Ci dc zm_Model_thickOf [.inr (63), .inl (x2 &&& (((nI 1) <<< (x6 &&& 31)) ^^^ (-1)))] σ P) (hdp : dc < z_dep Γ) (k : ∀ r σ1, P r σ1 → z_J Γ zm_Model_spare 126 [some (.inr (63)), some (.inl (x1)), some (.inl (x2)), some (.inl (x6)), none, some (.inl (x5)), some (.inl (x6))] [.inl (r)] σ1) : z_J Γ zm_Model_spare 111 [some (.inr (63)), some (.inl (x1)), some (.inl (x2)), none, none, some (.inl (x5)), some (.inl (x6))] [] σ := by
  refine zj_iload zd_Model_spare_111 rfl ?_
  refine zj_istore_n (L' := [some (.inr (63)), some (.inl (x1)), some (.inl (x2)), some (.inl (x6)), none, some (.inl (x5)), some (.inl (x6))]) zd_Model_spare_113 (by decide) rfl ?_
  refine zj_aload_n zd_Model_spare_114 rfl ?_
  refine zj_iload_n zd_Model_spare_115 rfl ?_
  refine zj_iconst (v := nI 1) zd_Model_spare_116 (by decide) ?_
  refine zj_iload zd_Model_spare_117 rfl ?_
  refine zj_ishl zd_Model_spare_119 ?_
  refine zj_iconst (v := (-1)) zd_Model_spare_120 (by decide) ?_
  refine zj_ixor zd_Model_spare_121 ?_
  refine zj_iand zd_Model_spare_122 ?_
  exact zj_callVi (As := [.inl (x2 &&& (((nI 1) <<< (x6 &&& 31)) ^^^ (-1)))]) hm hdp rfl (by decide) rfl zl_Model_251 zq_Model_thickOf zd_Model_spare_123 rfl (Nat.le_of_ble_eq_true rfl) (fun r σ1 h => (k r σ1 h))
theorem zb_Model_spare_126 {Γ : zG} {σ : zS} {x1 x2 x3 x5 x6 y0 : Int32}  (k : z_J Γ zm_Model_spare 128 [some (.inr (63)), some (.inl (x1)), some (.inl (x2)), some (.inl (x3)), some (.inl (y0)), some (.inl (x5)), some (.inl (x6))] [] σ) : z_J Γ zm_Model_spare 126 [some (.inr (63)), some (.inl (x1)), some (.inl (x2)), some (.inl (x3)), none, some (.inl (x5)), some (.inl (x6))] [.inl (y0)] σ := by
  refine zj_istore (L' := [some (.inr (63)), some (.inl (x1)), some (.inl (x2)), some (.inl (x3)), some (.inl (y0)), some (.inl (x5)), some (.inl (x6))]) zd_Model_spare_126 (by decide) rfl ?_
  exact k
theorem zb_Model_spare_128 {Γ : zG} {σ : zS} {x1 x2 x3 x4 x5 x6 : Int32}  (k : z_J Γ zm_Model_spare 42 [some (.inr (63)), some (.inl (x1)), some (.inl (x2)), some (.inl (x3)), some (.inl (x4)), some (.inl (x5)), some (.inl (x6 + nI 1))] [] σ) : z_J Γ zm_Model_spare 128 [some (.inr (63)), some (.inl (x1)), some (.inl (x2)), some (.inl (x3)), some (.inl (x4)), some (.inl (x5)), some (.inl (x6))] [] σ := by
  refine zj_iinc (v := nI 1) (L' := [some (.inr (63)), some (.inl (x1)), some (.inl (x2)), some (.inl (x3)), some (.inl (x4)), some (.inl (x5)), some (.inl (x6 + nI 1))]) zd_Model_spare_128 rfl (by decide) (by decide) rfl ?_
  exact zj_goto zd_Model_spare_131 (by decide) k
theorem zb_Model_spare_134 {Γ : zG} {σ : zS} {x1 x2 x3 x4 x5 : Int32}  (k : z_J Γ zm_Model_spare 33 [some (.inr (63)), some (.inl (x1)), some (.inl (x2)), some (.inl (x3)), some (.inl (x4)), some (.inl (x5 + nI 1)), none] [] σ) : z_J Γ zm_Model_spare 134 [some (.inr (63)), some (.inl (x1)), some (.inl (x2)), some (.inl (x3)), some (.inl (x4)), some (.inl (x5)), none] [] σ := by
  refine zj_iinc (v := nI 1) (L' := [some (.inr (63)), some (.inl (x1)), some (.inl (x2)), some (.inl (x3)), some (.inl (x4)), some (.inl (x5 + nI 1)), none]) zd_Model_spare_134 rfl (by decide) (by decide) rfl ?_
  exact zj_goto zd_Model_spare_137 (by decide) k
theorem zb_Model_spare_140 {Γ : zG} {σ : zS} {x3 x4 : Int32}  (kt : ¬ x3 = (-1) → z_J Γ zm_Model_spare 148 [some (.inr (63)), none, none, some (.inl (x3)), some (.inl (x4)), none, none] [] σ) (kf : x3 = (-1) → z_J Γ zm_Model_spare 145 [none, none, none, none, none, none, none] [] σ) : z_J Γ zm_Model_spare 140 [some (.inr (63)), none, none, some (.inl (x3)), some (.inl (x4)), none, none] [] σ := by
  refine zj_iload_n zd_Model_spare_140 rfl ?_
  refine zj_iconst (v := (-1)) zd_Model_spare_141 (by decide) ?_
  exact zj_icmp_ne zd_Model_spare_142 (by decide) (fun h => (kt h)) (fun h => (zj_weak (L' := [none, none, none, none, none, none, none]) trivial (kf h)))
theorem zb_Model_spare_145 {Γ : zG} {σ : zS}  (e : z_end Γ (some ((-2))) σ) : z_J Γ zm_Model_spare 145 [none, none, none, none, none, none, none] [] σ := by
  refine zj_bipush (v := (-2)) zd_Model_spare_145 (by decide) ?_
  exact zj_ireturn rfl zd_Model_spare_147 e
theorem zb_Model_spare_148 {Γ : zG} {σ : zS} {x3 x4 : Int32} {dc : Nat} {P : zS → Prop}  (hm : z_Cv dc zm_Model_tell [.inr (63), .inl (x4)] (z_pI σ 63 10 (nI 0)) P) (hdp : dc < z_dep Γ) (k : ∀ σ1, P σ1 → z_J Γ zm_Model_spare 159 [none, none, none, some (.inl (x3)), none, none, none] [] σ1) : z_J Γ zm_Model_spare 148 [some (.inr (63)), none, none, some (.inl (x3)), some (.inl (x4)), none, none] [] σ := by
  refine zj_aload_n zd_Model_spare_148 rfl ?_
  refine zj_iconst (v := nI 0) zd_Model_spare_149 (by decide) ?_
  refine zj_putI rfl (by decide) rfl zu_Model zy_Model_ok zn_Model (k := 10) (by decide) rfl rfl zl_Model_94 rfl rfl zd_Model_spare_150 ?_
  refine zj_aload_n zd_Model_spare_153 rfl ?_
  refine zj_iload zd_Model_spare_154 rfl ?_
  exact zj_callVv (As := [.inl (x4)]) hm hdp rfl (by decide) rfl zl_Model_312 zq_Model_tell zd_Model_spare_156 rfl (Nat.le_of_ble_eq_true rfl) (fun σ1 h => (zj_weak (L' := [none, none, none, some (.inl (x3)), none, none, none]) ⟨rfl, trivial⟩ (k σ1 h)))
theorem zb_Model_spare_159 {Γ : zG} {σ : zS} {x3 : Int32}  (e : z_end Γ (some (x3)) σ) : z_J Γ zm_Model_spare 159 [none, none, none, some (.inl (x3)), none, none, none] [] σ := by
  refine zj_iload_n zd_Model_spare_159 rfl ?_
  exact zj_ireturn rfl zd_Model_spare_160 e
theorem zd_Model_build_0 : decode zm_Model_build.2.1 0 = .ok (.aload_n 0, 1) := by decide +kernel
theorem zd_Model_build_1 : decode zm_Model_build.2.1 1 = .ok (.iconst 0, 1) := by decide +kernel
theorem zd_Model_build_2 : decode zm_Model_build.2.1 2 = .ok (.putfield 91, 3) := by decide +kernel
theorem zd_Model_build_5 : decode zm_Model_build.2.1 5 = .ok (.aload_n 0, 1) := by decide +kernel
theorem zd_Model_build_6 : decode zm_Model_build.2.1 6 = .ok (.aload_n 0, 1) := by decide +kernel
theorem zd_Model_build_7 : decode zm_Model_build.2.1 7 = .ok (.aload_n 0, 1) := by decide +kernel
theorem zd_Model_build_8 : decode zm_Model_build.2.1 8 = .ok (.getfield 9, 3) := by decide +kernel
theorem zd_Model_build_11 : decode zm_Model_build.2.1 11 = .ok (.iconst 0, 1) := by decide +kernel
theorem zd_Model_build_12 : decode zm_Model_build.2.1 12 = .ok (.invokevirtual 331, 3) := by decide +kernel
theorem zd_Model_build_15 : decode zm_Model_build.2.1 15 = .ok (.iload_n 1, 1) := by decide +kernel
theorem zd_Model_build_16 : decode zm_Model_build.2.1 16 = .ok (.invokevirtual 353, 3) := by decide +kernel
theorem zd_Model_build_19 : decode zm_Model_build.2.1 19 = .ok (.ireturn, 1) := by decide +kernel
theorem zb_Model_build_0 {Γ : zG} {σ : zS} {x1 : Int32} {dc : Nat} {P : Int32 → zS → Prop}  (hm : z_Ci dc zm_Model_whereBits [.inr (63), .inr (64), .inl (nI 0)] (z_pI σ 63 11 (nI 0)) P) (hdp : dc < z_dep Γ) (k : ∀ r σ1, P r σ1 → z_J Γ zm_Model_build 15 [none, some (.inl (x1))] [.inl (r), .inr (63)] σ1) : z_J Γ zm_Model_build 0 [some (.inr (63)), some (.inl (x1))] [] σ := by
  refine zj_aload_n zd_Model_build_0 rfl ?_
  refine zj_iconst (v := nI 0) zd_Model_build_1 (by decide) ?_
  refine zj_putI rfl (by decide) rfl zu_Model zy_Model_ok zn_Model (k := 11) (by decide) rfl rfl zl_Model_91 rfl rfl zd_Model_build_2 ?_
  refine zj_aload_n zd_Model_build_5 rfl ?_
  refine zj_aload_n zd_Model_build_6 rfl ?_
  refine zj_aload_n zd_Model_build_7 rfl ?_
  refine zj_getR rfl (by decide) rfl zu_Model (k := 0) (by decide) rfl zl_Model_9 zd_Model_build_8 (o' := 64) rfl ?_
  refine zj_iconst (v := nI 0) zd_Model_build_11 (by decide) ?_
  exact zj_callVi (As := [.inr (64), .inl (nI 0)]) hm hdp rfl (by decide) rfl zl_Model_331 zq_Model_whereBits zd_Model_build_12 rfl (Nat.le_of_ble_eq_true rfl) (fun r σ1 h => (zj_weak (L' := [none, some (.inl (x1))]) ⟨rfl, trivial⟩ (k r σ1 h)))
theorem zb_Model_build_15 {Γ : zG} {σ : zS} {x1 y0 : Int32} {dc : Nat} {P : Int32 → zS → Prop}  (hm : z_Ci dc zm_Model_builds [.inr (63), .inl (y0), .inl (x1)] σ P) (hdp : dc < z_dep Γ) (k : ∀ r σ1, P r σ1 → z_J Γ zm_Model_build 19 [none, none] [.inl (r)] σ1) : z_J Γ zm_Model_build 15 [none, some (.inl (x1))] [.inl (y0), .inr (63)] σ := by
  refine zj_iload_n zd_Model_build_15 rfl ?_
  exact zj_callVi (As := [.inl (y0), .inl (x1)]) hm hdp rfl (by decide) rfl zl_Model_353 zq_Model_builds zd_Model_build_16 rfl (Nat.le_of_ble_eq_true rfl) (fun r σ1 h => (zj_weak (L' := [none, none]) trivial (k r σ1 h)))
theorem zb_Model_build_19 {Γ : zG} {σ : zS} {y0 : Int32}  (e : z_end Γ (some (y0)) σ) : z_J Γ zm_Model_build 19 [none, none] [.inl (y0)] σ := by
  exact zj_ireturn rfl zd_Model_build_19 e
